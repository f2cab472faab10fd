section
-- ===== PART A: goes FIRST, ahead of the names: the tables' words, and 'selects' of the private methods out of them =====
/-- a private method of a class that the tables say can be made, by its rows of tables_1 -/
def lw_okq (q : MethodName × Nat) : Prop := (q.1.cls ≠ "java/lang/invoke/MethodHandle" ∧ q.1.cls ≠ "java/lang/invoke/VarHandle") ∧ Cond.instantiable q.1.cls q.2 ∈ tables_1 ∧ Cond.privateMethod q.1 ∈ tables_1 ∧ Cond.instanceMethod q.1 ∈ tables_1
theorem lw_p0 : lw_okq (⟨"MountedPaths$Walk", "begin", "(LMountedPaths$Line;)V"⟩, 10) := ⟨⟨by decide +kernel, by decide +kernel⟩, List.mem_of_getElem? (i := 140) (by decide +kernel), List.mem_of_getElem? (i := 271) (by decide +kernel), List.mem_of_getElem? (i := 272) (by decide +kernel)⟩
theorem lw_p1 : lw_okq (⟨"MountedPaths$Walk", "hasName", "()Z"⟩, 10) := ⟨⟨by decide +kernel, by decide +kernel⟩, List.mem_of_getElem? (i := 140) (by decide +kernel), List.mem_of_getElem? (i := 293) (by decide +kernel), List.mem_of_getElem? (i := 294) (by decide +kernel)⟩
theorem lw_p2 : lw_okq (⟨"MountedPaths$Walk", "takeName", "()I"⟩, 10) := ⟨⟨by decide +kernel, by decide +kernel⟩, List.mem_of_getElem? (i := 140) (by decide +kernel), List.mem_of_getElem? (i := 305) (by decide +kernel), List.mem_of_getElem? (i := 306) (by decide +kernel)⟩
theorem lw_p3 : lw_okq (⟨"MountedPaths$Walk", "passName", "(Z)I"⟩, 10) := ⟨⟨by decide +kernel, by decide +kernel⟩, List.mem_of_getElem? (i := 140) (by decide +kernel), List.mem_of_getElem? (i := 333) (by decide +kernel), List.mem_of_getElem? (i := 334) (by decide +kernel)⟩
theorem lw_p4 : lw_okq (⟨"MountedPaths$Walk", "topUnder", "(IJ)I"⟩, 10) := ⟨⟨by decide +kernel, by decide +kernel⟩, List.mem_of_getElem? (i := 140) (by decide +kernel), List.mem_of_getElem? (i := 363) (by decide +kernel), List.mem_of_getElem? (i := 364) (by decide +kernel)⟩
theorem lw_p5 : lw_okq (⟨"MountedPaths$Walk", "passLink", "(LMountedPaths$Line;)I"⟩, 10) := ⟨⟨by decide +kernel, by decide +kernel⟩, List.mem_of_getElem? (i := 140) (by decide +kernel), List.mem_of_getElem? (i := 384) (by decide +kernel), List.mem_of_getElem? (i := 385) (by decide +kernel)⟩
theorem lw_p6 : lw_okq (⟨"MountedPaths", "mayBeMade", "(II)Z"⟩, 8) := ⟨⟨by decide +kernel, by decide +kernel⟩, List.mem_of_getElem? (i := 13) (by decide +kernel), List.mem_of_getElem? (i := 392) (by decide +kernel), List.mem_of_getElem? (i := 393) (by decide +kernel)⟩
theorem lw_p7 : lw_okq (⟨"MountedPaths", "comeToNewName", "(Z)I"⟩, 8) := ⟨⟨by decide +kernel, by decide +kernel⟩, List.mem_of_getElem? (i := 13) (by decide +kernel), List.mem_of_getElem? (i := 400) (by decide +kernel), List.mem_of_getElem? (i := 401) (by decide +kernel)⟩
theorem lw_p8 : lw_okq (⟨"MountedPaths", "whyNotRemove", "(I)I"⟩, 8) := ⟨⟨by decide +kernel, by decide +kernel⟩, List.mem_of_getElem? (i := 13) (by decide +kernel), List.mem_of_getElem? (i := 466) (by decide +kernel), List.mem_of_getElem? (i := 467) (by decide +kernel)⟩
theorem lw_p9 : lw_okq (⟨"MountedPaths", "isAtOrBelow", "(II)Z"⟩, 8) := ⟨⟨by decide +kernel, by decide +kernel⟩, List.mem_of_getElem? (i := 13) (by decide +kernel), List.mem_of_getElem? (i := 507) (by decide +kernel), List.mem_of_getElem? (i := 508) (by decide +kernel)⟩
theorem lw_p10 : lw_okq (⟨"MountedPathsModel", "walk", "(ZZ)I"⟩, 29) := ⟨⟨by decide +kernel, by decide +kernel⟩, List.mem_of_getElem? (i := 588) (by decide +kernel), List.mem_of_getElem? (i := 706) (by decide +kernel), List.mem_of_getElem? (i := 707) (by decide +kernel)⟩
theorem lw_p11 : lw_okq (⟨"MountedPathsModel", "begin", "(Z)V"⟩, 29) := ⟨⟨by decide +kernel, by decide +kernel⟩, List.mem_of_getElem? (i := 588) (by decide +kernel), List.mem_of_getElem? (i := 710) (by decide +kernel), List.mem_of_getElem? (i := 711) (by decide +kernel)⟩
theorem lw_p12 : lw_okq (⟨"MountedPathsModel", "takeSlashes", "()V"⟩, 29) := ⟨⟨by decide +kernel, by decide +kernel⟩, List.mem_of_getElem? (i := 588) (by decide +kernel), List.mem_of_getElem? (i := 714) (by decide +kernel), List.mem_of_getElem? (i := 715) (by decide +kernel)⟩
theorem lw_p13 : lw_okq (⟨"MountedPathsModel", "dropRest", "(I)V"⟩, 29) := ⟨⟨by decide +kernel, by decide +kernel⟩, List.mem_of_getElem? (i := 588) (by decide +kernel), List.mem_of_getElem? (i := 718) (by decide +kernel), List.mem_of_getElem? (i := 719) (by decide +kernel)⟩
theorem lw_p14 : lw_okq (⟨"MountedPathsModel", "takeName", "()V"⟩, 29) := ⟨⟨by decide +kernel, by decide +kernel⟩, List.mem_of_getElem? (i := 588) (by decide +kernel), List.mem_of_getElem? (i := 722) (by decide +kernel), List.mem_of_getElem? (i := 723) (by decide +kernel)⟩
theorem lw_p15 : lw_okq (⟨"MountedPathsModel", "against", "()I"⟩, 29) := ⟨⟨by decide +kernel, by decide +kernel⟩, List.mem_of_getElem? (i := 588) (by decide +kernel), List.mem_of_getElem? (i := 727) (by decide +kernel), List.mem_of_getElem? (i := 728) (by decide +kernel)⟩
def lw_privs_1 : List (MethodName × Nat) := [(⟨"MountedPaths$Walk", "begin", "(LMountedPaths$Line;)V"⟩, 10), (⟨"MountedPaths$Walk", "hasName", "()Z"⟩, 10), (⟨"MountedPaths$Walk", "takeName", "()I"⟩, 10), (⟨"MountedPaths$Walk", "passName", "(Z)I"⟩, 10), (⟨"MountedPaths$Walk", "topUnder", "(IJ)I"⟩, 10), (⟨"MountedPaths$Walk", "passLink", "(LMountedPaths$Line;)I"⟩, 10), (⟨"MountedPaths", "mayBeMade", "(II)Z"⟩, 8), (⟨"MountedPaths", "comeToNewName", "(Z)I"⟩, 8), (⟨"MountedPaths", "whyNotRemove", "(I)I"⟩, 8), (⟨"MountedPaths", "isAtOrBelow", "(II)Z"⟩, 8), (⟨"MountedPathsModel", "walk", "(ZZ)I"⟩, 29), (⟨"MountedPathsModel", "begin", "(Z)V"⟩, 29), (⟨"MountedPathsModel", "takeSlashes", "()V"⟩, 29), (⟨"MountedPathsModel", "dropRest", "(I)V"⟩, 29), (⟨"MountedPathsModel", "takeName", "()V"⟩, 29), (⟨"MountedPathsModel", "against", "()I"⟩, 29)]
theorem lw_r1 : ∀ q ∈ lw_privs_1, lw_okq q := List.forall_mem_cons.mpr ⟨lw_p0, List.forall_mem_cons.mpr ⟨lw_p1, List.forall_mem_cons.mpr ⟨lw_p2, List.forall_mem_cons.mpr ⟨lw_p3, List.forall_mem_cons.mpr ⟨lw_p4, List.forall_mem_cons.mpr ⟨lw_p5, List.forall_mem_cons.mpr ⟨lw_p6, List.forall_mem_cons.mpr ⟨lw_p7, List.forall_mem_cons.mpr ⟨lw_p8, List.forall_mem_cons.mpr ⟨lw_p9, List.forall_mem_cons.mpr ⟨lw_p10, List.forall_mem_cons.mpr ⟨lw_p11, List.forall_mem_cons.mpr ⟨lw_p12, List.forall_mem_cons.mpr ⟨lw_p13, List.forall_mem_cons.mpr ⟨lw_p14, List.forall_mem_cons.mpr ⟨lw_p15, fun _ h => absurd h List.not_mem_nil⟩⟩⟩⟩⟩⟩⟩⟩⟩⟩⟩⟩⟩⟩⟩⟩
theorem lw_p16 : lw_okq (⟨"MountedPathsModel", "may", "(II)Z"⟩, 29) := ⟨⟨by decide +kernel, by decide +kernel⟩, List.mem_of_getElem? (i := 588) (by decide +kernel), List.mem_of_getElem? (i := 731) (by decide +kernel), List.mem_of_getElem? (i := 732) (by decide +kernel)⟩
theorem lw_p17 : lw_okq (⟨"MountedPathsModel", "step", "(Z)I"⟩, 29) := ⟨⟨by decide +kernel, by decide +kernel⟩, List.mem_of_getElem? (i := 588) (by decide +kernel), List.mem_of_getElem? (i := 735) (by decide +kernel), List.mem_of_getElem? (i := 736) (by decide +kernel)⟩
theorem lw_p18 : lw_okq (⟨"MountedPathsModel", "above", "(II)I"⟩, 29) := ⟨⟨by decide +kernel, by decide +kernel⟩, List.mem_of_getElem? (i := 588) (by decide +kernel), List.mem_of_getElem? (i := 740) (by decide +kernel), List.mem_of_getElem? (i := 741) (by decide +kernel)⟩
theorem lw_p19 : lw_okq (⟨"MountedPathsModel", "seat", "(I)I"⟩, 29) := ⟨⟨by decide +kernel, by decide +kernel⟩, List.mem_of_getElem? (i := 588) (by decide +kernel), List.mem_of_getElem? (i := 744) (by decide +kernel), List.mem_of_getElem? (i := 745) (by decide +kernel)⟩
theorem lw_p20 : lw_okq (⟨"MountedPathsModel", "mountedAt", "(I)I"⟩, 29) := ⟨⟨by decide +kernel, by decide +kernel⟩, List.mem_of_getElem? (i := 588) (by decide +kernel), List.mem_of_getElem? (i := 748) (by decide +kernel), List.mem_of_getElem? (i := 749) (by decide +kernel)⟩
theorem lw_p21 : lw_okq (⟨"MountedPathsModel", "top", "(I)I"⟩, 29) := ⟨⟨by decide +kernel, by decide +kernel⟩, List.mem_of_getElem? (i := 588) (by decide +kernel), List.mem_of_getElem? (i := 752) (by decide +kernel), List.mem_of_getElem? (i := 753) (by decide +kernel)⟩
theorem lw_p22 : lw_okq (⟨"MountedPathsModel", "coverOf", "(I)I"⟩, 29) := ⟨⟨by decide +kernel, by decide +kernel⟩, List.mem_of_getElem? (i := 588) (by decide +kernel), List.mem_of_getElem? (i := 756) (by decide +kernel), List.mem_of_getElem? (i := 757) (by decide +kernel)⟩
theorem lw_p23 : lw_okq (⟨"MountedPathsModel", "find", "(IJ)I"⟩, 29) := ⟨⟨by decide +kernel, by decide +kernel⟩, List.mem_of_getElem? (i := 588) (by decide +kernel), List.mem_of_getElem? (i := 761) (by decide +kernel), List.mem_of_getElem? (i := 762) (by decide +kernel)⟩
theorem lw_p24 : lw_okq (⟨"MountedPathsModel", "putBefore", "(I)V"⟩, 29) := ⟨⟨by decide +kernel, by decide +kernel⟩, List.mem_of_getElem? (i := 588) (by decide +kernel), List.mem_of_getElem? (i := 765) (by decide +kernel), List.mem_of_getElem? (i := 766) (by decide +kernel)⟩
theorem lw_p25 : lw_okq (⟨"MountedPathsModel", "newName", "(Z)I"⟩, 29) := ⟨⟨by decide +kernel, by decide +kernel⟩, List.mem_of_getElem? (i := 588) (by decide +kernel), List.mem_of_getElem? (i := 773) (by decide +kernel), List.mem_of_getElem? (i := 774) (by decide +kernel)⟩
theorem lw_p26 : lw_okq (⟨"MountedPathsModel", "slashesAlone", "()Z"⟩, 29) := ⟨⟨by decide +kernel, by decide +kernel⟩, List.mem_of_getElem? (i := 588) (by decide +kernel), List.mem_of_getElem? (i := 777) (by decide +kernel), List.mem_of_getElem? (i := 778) (by decide +kernel)⟩
theorem lw_p27 : lw_okq (⟨"MountedPathsModel", "come", "()I"⟩, 29) := ⟨⟨by decide +kernel, by decide +kernel⟩, List.mem_of_getElem? (i := 588) (by decide +kernel), List.mem_of_getElem? (i := 781) (by decide +kernel), List.mem_of_getElem? (i := 782) (by decide +kernel)⟩
theorem lw_p28 : lw_okq (⟨"MountedPathsModel", "dots", "()Z"⟩, 29) := ⟨⟨by decide +kernel, by decide +kernel⟩, List.mem_of_getElem? (i := 588) (by decide +kernel), List.mem_of_getElem? (i := 785) (by decide +kernel), List.mem_of_getElem? (i := 786) (by decide +kernel)⟩
theorem lw_p29 : lw_okq (⟨"MountedPathsModel", "freeObject", "()I"⟩, 29) := ⟨⟨by decide +kernel, by decide +kernel⟩, List.mem_of_getElem? (i := 588) (by decide +kernel), List.mem_of_getElem? (i := 789) (by decide +kernel), List.mem_of_getElem? (i := 790) (by decide +kernel)⟩
theorem lw_p30 : lw_okq (⟨"MountedPathsModel", "addEntry", "(I)I"⟩, 29) := ⟨⟨by decide +kernel, by decide +kernel⟩, List.mem_of_getElem? (i := 588) (by decide +kernel), List.mem_of_getElem? (i := 793) (by decide +kernel), List.mem_of_getElem? (i := 794) (by decide +kernel)⟩
theorem lw_p31 : lw_okq (⟨"MountedPathsModel", "entriesOf", "(I)I"⟩, 29) := ⟨⟨by decide +kernel, by decide +kernel⟩, List.mem_of_getElem? (i := 588) (by decide +kernel), List.mem_of_getElem? (i := 805) (by decide +kernel), List.mem_of_getElem? (i := 806) (by decide +kernel)⟩
def lw_privs_2 : List (MethodName × Nat) := [(⟨"MountedPathsModel", "may", "(II)Z"⟩, 29), (⟨"MountedPathsModel", "step", "(Z)I"⟩, 29), (⟨"MountedPathsModel", "above", "(II)I"⟩, 29), (⟨"MountedPathsModel", "seat", "(I)I"⟩, 29), (⟨"MountedPathsModel", "mountedAt", "(I)I"⟩, 29), (⟨"MountedPathsModel", "top", "(I)I"⟩, 29), (⟨"MountedPathsModel", "coverOf", "(I)I"⟩, 29), (⟨"MountedPathsModel", "find", "(IJ)I"⟩, 29), (⟨"MountedPathsModel", "putBefore", "(I)V"⟩, 29), (⟨"MountedPathsModel", "newName", "(Z)I"⟩, 29), (⟨"MountedPathsModel", "slashesAlone", "()Z"⟩, 29), (⟨"MountedPathsModel", "come", "()I"⟩, 29), (⟨"MountedPathsModel", "dots", "()Z"⟩, 29), (⟨"MountedPathsModel", "freeObject", "()I"⟩, 29), (⟨"MountedPathsModel", "addEntry", "(I)I"⟩, 29), (⟨"MountedPathsModel", "entriesOf", "(I)I"⟩, 29)]
theorem lw_r2 : ∀ q ∈ lw_privs_2, lw_okq q := List.forall_mem_cons.mpr ⟨lw_p16, List.forall_mem_cons.mpr ⟨lw_p17, List.forall_mem_cons.mpr ⟨lw_p18, List.forall_mem_cons.mpr ⟨lw_p19, List.forall_mem_cons.mpr ⟨lw_p20, List.forall_mem_cons.mpr ⟨lw_p21, List.forall_mem_cons.mpr ⟨lw_p22, List.forall_mem_cons.mpr ⟨lw_p23, List.forall_mem_cons.mpr ⟨lw_p24, List.forall_mem_cons.mpr ⟨lw_p25, List.forall_mem_cons.mpr ⟨lw_p26, List.forall_mem_cons.mpr ⟨lw_p27, List.forall_mem_cons.mpr ⟨lw_p28, List.forall_mem_cons.mpr ⟨lw_p29, List.forall_mem_cons.mpr ⟨lw_p30, List.forall_mem_cons.mpr ⟨lw_p31, fun _ h => absurd h List.not_mem_nil⟩⟩⟩⟩⟩⟩⟩⟩⟩⟩⟩⟩⟩⟩⟩⟩
theorem lw_p32 : lw_okq (⟨"MountedPathsModel", "entriesFor", "(I)I"⟩, 29) := ⟨⟨by decide +kernel, by decide +kernel⟩, List.mem_of_getElem? (i := 588) (by decide +kernel), List.mem_of_getElem? (i := 809) (by decide +kernel), List.mem_of_getElem? (i := 810) (by decide +kernel)⟩
theorem lw_p33 : lw_okq (⟨"MountedPathsModel", "below", "(II)Z"⟩, 29) := ⟨⟨by decide +kernel, by decide +kernel⟩, List.mem_of_getElem? (i := 588) (by decide +kernel), List.mem_of_getElem? (i := 821) (by decide +kernel), List.mem_of_getElem? (i := 822) (by decide +kernel)⟩
theorem lw_p34 : lw_okq (⟨"MountedPathsModel", "nameOf", "(I)J"⟩, 29) := ⟨⟨by decide +kernel, by decide +kernel⟩, List.mem_of_getElem? (i := 588) (by decide +kernel), List.mem_of_getElem? (i := 845) (by decide +kernel), List.mem_of_getElem? (i := 846) (by decide +kernel)⟩
theorem lw_p35 : lw_okq (⟨"MountedPathsModel", "there", "(I)Z"⟩, 29) := ⟨⟨by decide +kernel, by decide +kernel⟩, List.mem_of_getElem? (i := 588) (by decide +kernel), List.mem_of_getElem? (i := 857) (by decide +kernel), List.mem_of_getElem? (i := 858) (by decide +kernel)⟩
def lw_privs_3 : List (MethodName × Nat) := [(⟨"MountedPathsModel", "entriesFor", "(I)I"⟩, 29), (⟨"MountedPathsModel", "below", "(II)Z"⟩, 29), (⟨"MountedPathsModel", "nameOf", "(I)J"⟩, 29), (⟨"MountedPathsModel", "there", "(I)Z"⟩, 29)]
theorem lw_r3 : ∀ q ∈ lw_privs_3, lw_okq q := List.forall_mem_cons.mpr ⟨lw_p32, List.forall_mem_cons.mpr ⟨lw_p33, List.forall_mem_cons.mpr ⟨lw_p34, List.forall_mem_cons.mpr ⟨lw_p35, fun _ h => absurd h List.not_mem_nil⟩⟩⟩⟩
def lw_privs : List (MethodName × Nat) := lw_privs_1 ++ (lw_privs_2 ++ (lw_privs_3))
def lw_tbl : List Cond := k2_sels lw_privs ++ tables_1
theorem lw_privs_ok : ∀ q ∈ lw_privs, lw_okq q := by
  show ∀ q ∈ lw_privs_1 ++ (lw_privs_2 ++ (lw_privs_3)), lw_okq q
  exact List.forall_mem_append.mpr ⟨lw_r1, List.forall_mem_append.mpr ⟨lw_r2, lw_r3⟩⟩
end
section
def RX0 : String := "MountedPaths$Entries"
def TX0 : u_T := fun k => match k with
  | 0 => ("MountedPaths$Entries", "directories", "[I", true)
  | 1 => ("MountedPaths$Entries", "names", "[J", true)
  | 2 => ("MountedPaths$Entries", "objects", "[I", true)
  | _ => ("MountedPaths$Entries", "count", "I", false)
def tyX0 : Nat → FieldType := fun k => match k with
  | 0 => .array .int
  | 1 => .array .long
  | 2 => .array .int
  | _ => .int
theorem nmX0 : ∀ a, a < 4 → ∀ b, b < 4 → a ≠ b → (TX0 a).2.1 ≠ (TX0 b).2.1 := by decide +kernel
theorem tyX0_ok : ∀ k, k < 4 → parseFieldDescriptor (TX0 k).2.2.1 = some (tyX0 k) := by decide +kernel
def RX1 : String := "MountedPaths$Line"
def TX1 : u_T := fun k => match k with
  | 0 => ("MountedPaths$Line", "marks", "[C", true)
  | _ => ("MountedPaths$Line", "count", "I", false)
def tyX1 : Nat → FieldType := fun k => match k with
  | 0 => .array .char
  | _ => .int
theorem nmX1 : ∀ a, a < 2 → ∀ b, b < 2 → a ≠ b → (TX1 a).2.1 ≠ (TX1 b).2.1 := by decide +kernel
theorem tyX1_ok : ∀ k, k < 2 → parseFieldDescriptor (TX1 k).2.2.1 = some (tyX1 k) := by decide +kernel
def RX2 : String := "MountedPaths$Rest"
def TX2 : u_T := fun k => match k with
  | 0 => ("MountedPaths$Rest", "marks", "[C", true)
  | _ => ("MountedPaths$Rest", "start", "I", false)
def tyX2 : Nat → FieldType := fun k => match k with
  | 0 => .array .char
  | _ => .int
theorem nmX2 : ∀ a, a < 2 → ∀ b, b < 2 → a ≠ b → (TX2 a).2.1 ≠ (TX2 b).2.1 := by decide +kernel
theorem tyX2_ok : ∀ k, k < 2 → parseFieldDescriptor (TX2 k).2.2.1 = some (tyX2 k) := by decide +kernel
def RX3 : String := "MountedPaths$Session"
def TX3 : u_T := fun k => match k with
  | 0 => ("MountedPaths$Session", "things", "LMountedPaths$Things;", true)
  | 1 => ("MountedPaths$Session", "user", "I", false)
  | 2 => ("MountedPaths$Session", "root", "I", false)
  | _ => ("MountedPaths$Session", "present", "I", false)
def tyX3 : Nat → FieldType := fun k => match k with
  | 0 => .object "MountedPaths$Things"
  | 1 => .int
  | 2 => .int
  | _ => .int
theorem nmX3 : ∀ a, a < 4 → ∀ b, b < 4 → a ≠ b → (TX3 a).2.1 ≠ (TX3 b).2.1 := by decide +kernel
theorem tyX3_ok : ∀ k, k < 4 → parseFieldDescriptor (TX3 k).2.2.1 = some (tyX3 k) := by decide +kernel
def RX4 : String := "MountedPaths$Things"
def TX4 : u_T := fun k => match k with
  | 0 => ("MountedPaths$Things", "sorts", "[I", true)
  | 1 => ("MountedPaths$Things", "modes", "[I", true)
  | 2 => ("MountedPaths$Things", "owners", "[I", true)
  | 3 => ("MountedPaths$Things", "volumes", "[I", true)
  | 4 => ("MountedPaths$Things", "parents", "[I", true)
  | _ => ("MountedPaths$Things", "targets", "[LMountedPaths$Line;", true)
def tyX4 : Nat → FieldType := fun k => match k with
  | 0 => .array .int
  | 1 => .array .int
  | 2 => .array .int
  | 3 => .array .int
  | 4 => .array .int
  | _ => .array (.object "MountedPaths$Line")
theorem nmX4 : ∀ a, a < 6 → ∀ b, b < 6 → a ≠ b → (TX4 a).2.1 ≠ (TX4 b).2.1 := by decide +kernel
theorem tyX4_ok : ∀ k, k < 6 → parseFieldDescriptor (TX4 k).2.2.1 = some (tyX4 k) := by decide +kernel
def RX5 : String := "MountedPaths$Volumes"
def TX5 : u_T := fun k => match k with
  | 0 => ("MountedPaths$Volumes", "things", "LMountedPaths$Things;", true)
  | 1 => ("MountedPaths$Volumes", "roots", "[I", true)
  | 2 => ("MountedPaths$Volumes", "covered", "[I", true)
  | _ => ("MountedPaths$Volumes", "count", "I", false)
def tyX5 : Nat → FieldType := fun k => match k with
  | 0 => .object "MountedPaths$Things"
  | 1 => .array .int
  | 2 => .array .int
  | _ => .int
theorem nmX5 : ∀ a, a < 4 → ∀ b, b < 4 → a ≠ b → (TX5 a).2.1 ≠ (TX5 b).2.1 := by decide +kernel
theorem tyX5_ok : ∀ k, k < 4 → parseFieldDescriptor (TX5 k).2.2.1 = some (tyX5 k) := by decide +kernel
def RX6 : String := "MountedPaths$Walk"
def TX6 : u_T := fun k => match k with
  | 0 => ("MountedPaths$Walk", "things", "LMountedPaths$Things;", true)
  | 1 => ("MountedPaths$Walk", "entries", "LMountedPaths$Entries;", true)
  | 2 => ("MountedPaths$Walk", "volumes", "LMountedPaths$Volumes;", true)
  | 3 => ("MountedPaths$Walk", "session", "LMountedPaths$Session;", true)
  | 4 => ("MountedPaths$Walk", "rest", "LMountedPaths$Rest;", true)
  | 5 => ("MountedPaths$Walk", "at", "I", false)
  | 6 => ("MountedPaths$Walk", "hops", "I", false)
  | 7 => ("MountedPaths$Walk", "name", "J", false)
  | 8 => ("MountedPaths$Walk", "last", "Z", false)
  | _ => ("MountedPaths$Walk", "slashed", "Z", false)
def tyX6 : Nat → FieldType := fun k => match k with
  | 0 => .object "MountedPaths$Things"
  | 1 => .object "MountedPaths$Entries"
  | 2 => .object "MountedPaths$Volumes"
  | 3 => .object "MountedPaths$Session"
  | 4 => .object "MountedPaths$Rest"
  | 5 => .int
  | 6 => .int
  | 7 => .long
  | 8 => .boolean
  | _ => .boolean
theorem nmX6 : ∀ a, a < 10 → ∀ b, b < 10 → a ≠ b → (TX6 a).2.1 ≠ (TX6 b).2.1 := by decide +kernel
theorem tyX6_ok : ∀ k, k < 10 → parseFieldDescriptor (TX6 k).2.2.1 = some (tyX6 k) := by decide +kernel
def RX7 : String := "MountedPaths"
def TX7 : u_T := fun k => match k with
  | 0 => ("MountedPaths", "text", "LMountedPaths$Line;", true)
  | 1 => ("MountedPaths", "second", "LMountedPaths$Line;", true)
  | 2 => ("MountedPaths", "trail", "LMountedPaths$Rest;", true)
  | 3 => ("MountedPaths", "things", "LMountedPaths$Things;", true)
  | 4 => ("MountedPaths", "entries", "LMountedPaths$Entries;", true)
  | 5 => ("MountedPaths", "volumes", "LMountedPaths$Volumes;", true)
  | 6 => ("MountedPaths", "session", "LMountedPaths$Session;", true)
  | _ => ("MountedPaths", "walk", "LMountedPaths$Walk;", true)
def tyX7 : Nat → FieldType := fun k => match k with
  | 0 => .object "MountedPaths$Line"
  | 1 => .object "MountedPaths$Line"
  | 2 => .object "MountedPaths$Rest"
  | 3 => .object "MountedPaths$Things"
  | 4 => .object "MountedPaths$Entries"
  | 5 => .object "MountedPaths$Volumes"
  | 6 => .object "MountedPaths$Session"
  | _ => .object "MountedPaths$Walk"
theorem nmX7 : ∀ a, a < 8 → ∀ b, b < 8 → a ≠ b → (TX7 a).2.1 ≠ (TX7 b).2.1 := by decide +kernel
theorem tyX7_ok : ∀ k, k < 8 → parseFieldDescriptor (TX7 k).2.2.1 = some (tyX7 k) := by decide +kernel
def RX8 : String := "MountedPathsModel"
def TX8 : u_T := fun k => match k with
  | 0 => ("MountedPathsModel", "kinds", "[I", false)
  | 1 => ("MountedPathsModel", "modes", "[I", false)
  | 2 => ("MountedPathsModel", "owners", "[I", false)
  | 3 => ("MountedPathsModel", "volumes", "[I", false)
  | 4 => ("MountedPathsModel", "parents", "[I", false)
  | 5 => ("MountedPathsModel", "linkText", "[I", false)
  | 6 => ("MountedPathsModel", "linkLength", "[I", false)
  | 7 => ("MountedPathsModel", "entries", "I", false)
  | 8 => ("MountedPathsModel", "holder", "[I", false)
  | 9 => ("MountedPathsModel", "names", "[J", false)
  | 10 => ("MountedPathsModel", "held", "[I", false)
  | 11 => ("MountedPathsModel", "volumeCount", "I", false)
  | 12 => ("MountedPathsModel", "volumeRoot", "[I", false)
  | 13 => ("MountedPathsModel", "covered", "[I", false)
  | 14 => ("MountedPathsModel", "user", "I", false)
  | 15 => ("MountedPathsModel", "root", "I", false)
  | 16 => ("MountedPathsModel", "present", "I", false)
  | 17 => ("MountedPathsModel", "text", "[I", false)
  | 18 => ("MountedPathsModel", "size", "I", false)
  | 19 => ("MountedPathsModel", "second", "[I", false)
  | 20 => ("MountedPathsModel", "secondSize", "I", false)
  | 21 => ("MountedPathsModel", "rest", "[I", false)
  | 22 => ("MountedPathsModel", "restSize", "I", false)
  | 23 => ("MountedPathsModel", "at", "I", false)
  | 24 => ("MountedPathsModel", "hops", "I", false)
  | 25 => ("MountedPathsModel", "name", "J", false)
  | 26 => ("MountedPathsModel", "nameSize", "I", false)
  | 27 => ("MountedPathsModel", "last", "Z", false)
  | _ => ("MountedPathsModel", "slashed", "Z", false)
def tyX8 : Nat → FieldType := fun k => match k with
  | 0 => .array .int
  | 1 => .array .int
  | 2 => .array .int
  | 3 => .array .int
  | 4 => .array .int
  | 5 => .array .int
  | 6 => .array .int
  | 7 => .int
  | 8 => .array .int
  | 9 => .array .long
  | 10 => .array .int
  | 11 => .int
  | 12 => .array .int
  | 13 => .array .int
  | 14 => .int
  | 15 => .int
  | 16 => .int
  | 17 => .array .int
  | 18 => .int
  | 19 => .array .int
  | 20 => .int
  | 21 => .array .int
  | 22 => .int
  | 23 => .int
  | 24 => .int
  | 25 => .long
  | 26 => .int
  | 27 => .boolean
  | _ => .boolean
theorem nmX8 : ∀ a, a < 29 → ∀ b, b < 29 → a ≠ b → (TX8 a).2.1 ≠ (TX8 b).2.1 := by decide +kernel
theorem tyX8_ok : ∀ k, k < 29 → parseFieldDescriptor (TX8 k).2.2.1 = some (tyX8 k) := by decide +kernel
abbrev vwM : List vw_C := [(RX0, TX0, 4), (RX1, TX1, 2), (RX2, TX2, 2), (RX3, TX3, 4), (RX4, TX4, 6), (RX5, TX5, 4), (RX6, TX6, 10), (RX7, TX7, 8), (RX8, TX8, 29)]
/-- the words that every state keeps -/
def BIG : List Cond := lw_tbl.filter goodWord
theorem mB {w : Cond} (h : w ∈ lw_tbl) (g : goodWord w = true) : w ∈ BIG := List.mem_filter.mpr ⟨h, g⟩
theorem bigT {w : Cond} (h : w ∈ BIG) : w ∈ lw_tbl := (List.mem_filter.mp h).1
theorem bigG {w : Cond} (h : w ∈ BIG) : goodWord w = true := (List.mem_filter.mp h).2
theorem gBig {c0 : Cond} {pre : List Cond} (h : ∀ w ∈ pre, w ∈ BIG) : GoodIn (c0 :: BIG) (pre ++ BIG) := fun w hw => (List.mem_append.mp hw).elim (fun h1 => ⟨List.mem_cons_of_mem _ (h w h1), good_of_word (bigG (h w h1))⟩) (fun h1 => ⟨List.mem_cons_of_mem _ h1, good_of_word (bigG h1)⟩)
theorem gTbl {pre : List Cond} (h : ∀ w ∈ pre, w ∈ BIG) : GoodIn lw_tbl (pre ++ BIG) := fun w hw => (List.mem_append.mp hw).elim (fun h1 => ⟨bigT (h w h1), good_of_word (bigG (h w h1))⟩) (fun h1 => ⟨bigT h1, good_of_word (bigG h1)⟩)
def RL : String := "MountedPathsLaw"
theorem inBX0 : ∀ w ∈ u_ws RX0 TX0 4, w ∈ BIG := fun w h => mB ((by decide +kernel : ∀ w ∈ u_ws RX0 TX0 4, w ∈ lw_tbl) w h) ((by decide +kernel : ∀ w ∈ u_ws RX0 TX0 4, goodWord w = true) w h)
theorem mN_X0 : Cond.initialized RX0 ∈ BIG := mB (List.mem_of_getElem? (i := 41) (by decide +kernel)) (by decide +kernel)
theorem mK_X0 : Cond.instantiable RX0 4 ∈ BIG := mB (List.mem_of_getElem? (i := 112) (by decide +kernel)) (by decide +kernel)
theorem inBX1 : ∀ w ∈ u_ws RX1 TX1 2, w ∈ BIG := fun w h => mB ((by decide +kernel : ∀ w ∈ u_ws RX1 TX1 2, w ∈ lw_tbl) w h) ((by decide +kernel : ∀ w ∈ u_ws RX1 TX1 2, goodWord w = true) w h)
theorem mN_X1 : Cond.initialized RX1 ∈ BIG := mB (List.mem_of_getElem? (i := 38) (by decide +kernel)) (by decide +kernel)
theorem mK_X1 : Cond.instantiable RX1 2 ∈ BIG := mB (List.mem_of_getElem? (i := 57) (by decide +kernel)) (by decide +kernel)
theorem inBX2 : ∀ w ∈ u_ws RX2 TX2 2, w ∈ BIG := fun w h => mB ((by decide +kernel : ∀ w ∈ u_ws RX2 TX2 2, w ∈ lw_tbl) w h) ((by decide +kernel : ∀ w ∈ u_ws RX2 TX2 2, goodWord w = true) w h)
theorem mN_X2 : Cond.initialized RX2 ∈ BIG := mB (List.mem_of_getElem? (i := 39) (by decide +kernel)) (by decide +kernel)
theorem mK_X2 : Cond.instantiable RX2 2 ∈ BIG := mB (List.mem_of_getElem? (i := 71) (by decide +kernel)) (by decide +kernel)
theorem inBX3 : ∀ w ∈ u_ws RX3 TX3 4, w ∈ BIG := fun w h => mB ((by decide +kernel : ∀ w ∈ u_ws RX3 TX3 4, w ∈ lw_tbl) w h) ((by decide +kernel : ∀ w ∈ u_ws RX3 TX3 4, goodWord w = true) w h)
theorem mN_X3 : Cond.initialized RX3 ∈ BIG := mB (List.mem_of_getElem? (i := 44) (by decide +kernel)) (by decide +kernel)
theorem mK_X3 : Cond.instantiable RX3 4 ∈ BIG := mB (List.mem_of_getElem? (i := 154) (by decide +kernel)) (by decide +kernel)
theorem inBX4 : ∀ w ∈ u_ws RX4 TX4 6, w ∈ BIG := fun w h => mB ((by decide +kernel : ∀ w ∈ u_ws RX4 TX4 6, w ∈ lw_tbl) w h) ((by decide +kernel : ∀ w ∈ u_ws RX4 TX4 6, goodWord w = true) w h)
theorem mN_X4 : Cond.initialized RX4 ∈ BIG := mB (List.mem_of_getElem? (i := 40) (by decide +kernel)) (by decide +kernel)
theorem mK_X4 : Cond.instantiable RX4 6 ∈ BIG := mB (List.mem_of_getElem? (i := 84) (by decide +kernel)) (by decide +kernel)
theorem inBX5 : ∀ w ∈ u_ws RX5 TX5 4, w ∈ BIG := fun w h => mB ((by decide +kernel : ∀ w ∈ u_ws RX5 TX5 4, w ∈ lw_tbl) w h) ((by decide +kernel : ∀ w ∈ u_ws RX5 TX5 4, goodWord w = true) w h)
theorem mN_X5 : Cond.initialized RX5 ∈ BIG := mB (List.mem_of_getElem? (i := 42) (by decide +kernel)) (by decide +kernel)
theorem mK_X5 : Cond.instantiable RX5 4 ∈ BIG := mB (List.mem_of_getElem? (i := 132) (by decide +kernel)) (by decide +kernel)
theorem inBX6 : ∀ w ∈ u_ws RX6 TX6 10, w ∈ BIG := fun w h => mB ((by decide +kernel : ∀ w ∈ u_ws RX6 TX6 10, w ∈ lw_tbl) w h) ((by decide +kernel : ∀ w ∈ u_ws RX6 TX6 10, goodWord w = true) w h)
theorem mN_X6 : Cond.initialized RX6 ∈ BIG := mB (List.mem_of_getElem? (i := 45) (by decide +kernel)) (by decide +kernel)
theorem mK_X6 : Cond.instantiable RX6 10 ∈ BIG := mB (List.mem_of_getElem? (i := 176) (by decide +kernel)) (by decide +kernel)
theorem inBX7 : ∀ w ∈ u_ws RX7 TX7 8, w ∈ BIG := fun w h => mB ((by decide +kernel : ∀ w ∈ u_ws RX7 TX7 8, w ∈ lw_tbl) w h) ((by decide +kernel : ∀ w ∈ u_ws RX7 TX7 8, goodWord w = true) w h)
theorem mN_X7 : Cond.initialized RX7 ∈ BIG := mB (List.mem_of_getElem? (i := 37) (by decide +kernel)) (by decide +kernel)
theorem mK_X7 : Cond.instantiable RX7 8 ∈ BIG := mB (List.mem_of_getElem? (i := 49) (by decide +kernel)) (by decide +kernel)
theorem inBX8 : ∀ w ∈ u_ws RX8 TX8 29, w ∈ BIG := fun w h => mB ((by decide +kernel : ∀ w ∈ u_ws RX8 TX8 29, w ∈ lw_tbl) w h) ((by decide +kernel : ∀ w ∈ u_ws RX8 TX8 29, goodWord w = true) w h)
theorem mN_X8 : Cond.initialized RX8 ∈ BIG := mB (List.mem_of_getElem? (i := 46) (by decide +kernel)) (by decide +kernel)
theorem mK_X8 : Cond.instantiable RX8 29 ∈ BIG := mB (List.mem_of_getElem? (i := 624) (by decide +kernel)) (by decide +kernel)
abbrev cX7_init : ByteArray := prog_1_method_1_code
def yX7_init : MethodName := ⟨RX7, "<init>", "()V"⟩
def wsX7_init : List Cond := .code yX7_init cX7_init 1 (none) :: BIG
theorem mC_X7_init : Cond.code yX7_init cX7_init 1 (none) ∈ BIG := mB (List.mem_of_getElem? (i := 52) (by decide +kernel)) (by decide +kernel)
theorem mI_X7_init : Cond.instanceMethod yX7_init ∈ BIG := mB (List.mem_of_getElem? (i := 51) (by decide +kernel)) (by decide +kernel)
theorem hd_X7_init : yX7_init.cls ≠ "java/lang/invoke/MethodHandle" ∧ yX7_init.cls ≠ "java/lang/invoke/VarHandle" ∧ (parseMethodDescriptor yX7_init.desc).map (fun d => d.parameters.length) = some 0 := by decide +kernel
abbrev cX7_type : ByteArray := prog_1_method_2_code
def yX7_type : MethodName := ⟨RX7, "type", "(I)Z"⟩
def wsX7_type : List Cond := .code yX7_type cX7_type 5 (some (.boolean)) :: BIG
theorem mC_X7_type : Cond.code yX7_type cX7_type 5 (some (.boolean)) ∈ BIG := mB (List.mem_of_getElem? (i := 250) (by decide +kernel)) (by decide +kernel)
theorem mI_X7_type : Cond.instanceMethod yX7_type ∈ BIG := mB (List.mem_of_getElem? (i := 248) (by decide +kernel)) (by decide +kernel)
theorem mS_X7_type : Cond.selects RX7 yX7_type yX7_type ∈ BIG := mB (List.mem_of_getElem? (i := 249) (by decide +kernel)) (by decide +kernel)
theorem hd_X7_type : yX7_type.cls ≠ "java/lang/invoke/MethodHandle" ∧ yX7_type.cls ≠ "java/lang/invoke/VarHandle" ∧ (parseMethodDescriptor yX7_type.desc).map (fun d => d.parameters.length) = some 1 := by decide +kernel
abbrev cX7_wipe : ByteArray := prog_1_method_3_code
def yX7_wipe : MethodName := ⟨RX7, "wipe", "()V"⟩
def wsX7_wipe : List Cond := .code yX7_wipe cX7_wipe 1 (none) :: BIG
theorem mC_X7_wipe : Cond.code yX7_wipe cX7_wipe 1 (none) ∈ BIG := mB (List.mem_of_getElem? (i := 262) (by decide +kernel)) (by decide +kernel)
theorem mI_X7_wipe : Cond.instanceMethod yX7_wipe ∈ BIG := mB (List.mem_of_getElem? (i := 260) (by decide +kernel)) (by decide +kernel)
theorem mS_X7_wipe : Cond.selects RX7 yX7_wipe yX7_wipe ∈ BIG := mB (List.mem_of_getElem? (i := 261) (by decide +kernel)) (by decide +kernel)
theorem hd_X7_wipe : yX7_wipe.cls ≠ "java/lang/invoke/MethodHandle" ∧ yX7_wipe.cls ≠ "java/lang/invoke/VarHandle" ∧ (parseMethodDescriptor yX7_wipe.desc).map (fun d => d.parameters.length) = some 0 := by decide +kernel
abbrev cX7_keep : ByteArray := prog_1_method_4_code
def yX7_keep : MethodName := ⟨RX7, "keep", "()V"⟩
def wsX7_keep : List Cond := .code yX7_keep cX7_keep 1 (none) :: BIG
theorem mC_X7_keep : Cond.code yX7_keep cX7_keep 1 (none) ∈ BIG := mB (List.mem_of_getElem? (i := 270) (by decide +kernel)) (by decide +kernel)
theorem mI_X7_keep : Cond.instanceMethod yX7_keep ∈ BIG := mB (List.mem_of_getElem? (i := 268) (by decide +kernel)) (by decide +kernel)
theorem mS_X7_keep : Cond.selects RX7 yX7_keep yX7_keep ∈ BIG := mB (List.mem_of_getElem? (i := 269) (by decide +kernel)) (by decide +kernel)
theorem hd_X7_keep : yX7_keep.cls ≠ "java/lang/invoke/MethodHandle" ∧ yX7_keep.cls ≠ "java/lang/invoke/VarHandle" ∧ (parseMethodDescriptor yX7_keep.desc).map (fun d => d.parameters.length) = some 0 := by decide +kernel
abbrev cX7_length : ByteArray := prog_1_method_5_code
def yX7_length : MethodName := ⟨RX7, "length", "()I"⟩
def wsX7_length : List Cond := .code yX7_length cX7_length 1 (some (.int)) :: BIG
theorem mC_X7_length : Cond.code yX7_length cX7_length 1 (some (.int)) ∈ BIG := mB (List.mem_of_getElem? (i := 281) (by decide +kernel)) (by decide +kernel)
theorem mI_X7_length : Cond.instanceMethod yX7_length ∈ BIG := mB (List.mem_of_getElem? (i := 279) (by decide +kernel)) (by decide +kernel)
theorem mS_X7_length : Cond.selects RX7 yX7_length yX7_length ∈ BIG := mB (List.mem_of_getElem? (i := 280) (by decide +kernel)) (by decide +kernel)
theorem hd_X7_length : yX7_length.cls ≠ "java/lang/invoke/MethodHandle" ∧ yX7_length.cls ≠ "java/lang/invoke/VarHandle" ∧ (parseMethodDescriptor yX7_length.desc).map (fun d => d.parameters.length) = some 0 := by decide +kernel
abbrev cX7_at : ByteArray := prog_1_method_6_code
def yX7_at : MethodName := ⟨RX7, "at", "(I)I"⟩
def wsX7_at : List Cond := .code yX7_at cX7_at 2 (some (.int)) :: BIG
theorem mC_X7_at : Cond.code yX7_at cX7_at 2 (some (.int)) ∈ BIG := mB (List.mem_of_getElem? (i := 289) (by decide +kernel)) (by decide +kernel)
theorem mI_X7_at : Cond.instanceMethod yX7_at ∈ BIG := mB (List.mem_of_getElem? (i := 287) (by decide +kernel)) (by decide +kernel)
theorem mS_X7_at : Cond.selects RX7 yX7_at yX7_at ∈ BIG := mB (List.mem_of_getElem? (i := 288) (by decide +kernel)) (by decide +kernel)
theorem hd_X7_at : yX7_at.cls ≠ "java/lang/invoke/MethodHandle" ∧ yX7_at.cls ≠ "java/lang/invoke/VarHandle" ∧ (parseMethodDescriptor yX7_at.desc).map (fun d => d.parameters.length) = some 1 := by decide +kernel
abbrev cX7_resolve : ByteArray := prog_1_method_7_code
def yX7_resolve : MethodName := ⟨RX7, "resolve", "(Z)I"⟩
def wsX7_resolve : List Cond := .code yX7_resolve cX7_resolve 2 (some (.int)) :: BIG
theorem mC_X7_resolve : Cond.code yX7_resolve cX7_resolve 2 (some (.int)) ∈ BIG := mB (List.mem_of_getElem? (i := 297) (by decide +kernel)) (by decide +kernel)
theorem mI_X7_resolve : Cond.instanceMethod yX7_resolve ∈ BIG := mB (List.mem_of_getElem? (i := 295) (by decide +kernel)) (by decide +kernel)
theorem mS_X7_resolve : Cond.selects RX7 yX7_resolve yX7_resolve ∈ BIG := mB (List.mem_of_getElem? (i := 296) (by decide +kernel)) (by decide +kernel)
theorem hd_X7_resolve : yX7_resolve.cls ≠ "java/lang/invoke/MethodHandle" ∧ yX7_resolve.cls ≠ "java/lang/invoke/VarHandle" ∧ (parseMethodDescriptor yX7_resolve.desc).map (fun d => d.parameters.length) = some 1 := by decide +kernel
abbrev cX7_make : ByteArray := prog_1_method_8_code
def yX7_make : MethodName := ⟨RX7, "make", "(II)I"⟩
def wsX7_make : List Cond := .code yX7_make cX7_make 6 (some (.int)) :: BIG
theorem mC_X7_make : Cond.code yX7_make cX7_make 6 (some (.int)) ∈ BIG := mB (List.mem_of_getElem? (i := 426) (by decide +kernel)) (by decide +kernel)
theorem mI_X7_make : Cond.instanceMethod yX7_make ∈ BIG := mB (List.mem_of_getElem? (i := 424) (by decide +kernel)) (by decide +kernel)
theorem mS_X7_make : Cond.selects RX7 yX7_make yX7_make ∈ BIG := mB (List.mem_of_getElem? (i := 425) (by decide +kernel)) (by decide +kernel)
theorem hd_X7_make : yX7_make.cls ≠ "java/lang/invoke/MethodHandle" ∧ yX7_make.cls ≠ "java/lang/invoke/VarHandle" ∧ (parseMethodDescriptor yX7_make.desc).map (fun d => d.parameters.length) = some 2 := by decide +kernel
abbrev cX7_mayBeMade : ByteArray := prog_1_method_9_code
def yX7_mayBeMade : MethodName := ⟨RX7, "mayBeMade", "(II)Z"⟩
def wsX7_mayBeMade : List Cond := .code yX7_mayBeMade cX7_mayBeMade 3 (some (.boolean)) :: BIG
theorem mC_X7_mayBeMade : Cond.code yX7_mayBeMade cX7_mayBeMade 3 (some (.boolean)) ∈ BIG := mB (List.mem_of_getElem? (i := 430) (by decide +kernel)) (by decide +kernel)
theorem mI_X7_mayBeMade : Cond.instanceMethod yX7_mayBeMade ∈ BIG := mB (List.mem_of_getElem? (i := 429) (by decide +kernel)) (by decide +kernel)
theorem mS_X7_mayBeMade : Cond.selects RX7 yX7_mayBeMade yX7_mayBeMade ∈ BIG := mB (List.mem_of_getElem? (i := 6) (by decide +kernel)) (by decide +kernel)
theorem hd_X7_mayBeMade : yX7_mayBeMade.cls ≠ "java/lang/invoke/MethodHandle" ∧ yX7_mayBeMade.cls ≠ "java/lang/invoke/VarHandle" ∧ (parseMethodDescriptor yX7_mayBeMade.desc).map (fun d => d.parameters.length) = some 2 := by decide +kernel
abbrev cX7_isMode : ByteArray := prog_1_method_10_code
def yX7_isMode : MethodName := ⟨RX7, "isMode", "(I)Z"⟩
def wsX7_isMode : List Cond := .code yX7_isMode cX7_isMode 1 (some (.boolean)) :: BIG
theorem mC_X7_isMode : Cond.code yX7_isMode cX7_isMode 1 (some (.boolean)) ∈ BIG := mB (List.mem_of_getElem? (i := 434) (by decide +kernel)) (by decide +kernel)
theorem mT_X7_isMode : Cond.static yX7_isMode ∈ BIG := mB (List.mem_of_getElem? (i := 433) (by decide +kernel)) (by decide +kernel)
theorem hd_X7_isMode : yX7_isMode.cls ≠ "java/lang/invoke/MethodHandle" ∧ yX7_isMode.cls ≠ "java/lang/invoke/VarHandle" ∧ (parseMethodDescriptor yX7_isMode.desc).map (fun d => d.parameters.length) = some 1 := by decide +kernel
abbrev cX7_comeToNewName : ByteArray := prog_1_method_11_code
def yX7_comeToNewName : MethodName := ⟨RX7, "comeToNewName", "(Z)I"⟩
def wsX7_comeToNewName : List Cond := .code yX7_comeToNewName cX7_comeToNewName 3 (some (.int)) :: BIG
theorem mC_X7_comeToNewName : Cond.code yX7_comeToNewName cX7_comeToNewName 3 (some (.int)) ∈ BIG := mB (List.mem_of_getElem? (i := 438) (by decide +kernel)) (by decide +kernel)
theorem mI_X7_comeToNewName : Cond.instanceMethod yX7_comeToNewName ∈ BIG := mB (List.mem_of_getElem? (i := 437) (by decide +kernel)) (by decide +kernel)
theorem mS_X7_comeToNewName : Cond.selects RX7 yX7_comeToNewName yX7_comeToNewName ∈ BIG := mB (List.mem_of_getElem? (i := 7) (by decide +kernel)) (by decide +kernel)
theorem hd_X7_comeToNewName : yX7_comeToNewName.cls ≠ "java/lang/invoke/MethodHandle" ∧ yX7_comeToNewName.cls ≠ "java/lang/invoke/VarHandle" ∧ (parseMethodDescriptor yX7_comeToNewName.desc).map (fun d => d.parameters.length) = some 1 := by decide +kernel
abbrev cX7_link : ByteArray := prog_1_method_12_code
def yX7_link : MethodName := ⟨RX7, "link", "()I"⟩
def wsX7_link : List Cond := .code yX7_link cX7_link 3 (some (.int)) :: BIG
theorem mC_X7_link : Cond.code yX7_link cX7_link 3 (some (.int)) ∈ BIG := mB (List.mem_of_getElem? (i := 494) (by decide +kernel)) (by decide +kernel)
theorem mI_X7_link : Cond.instanceMethod yX7_link ∈ BIG := mB (List.mem_of_getElem? (i := 492) (by decide +kernel)) (by decide +kernel)
theorem mS_X7_link : Cond.selects RX7 yX7_link yX7_link ∈ BIG := mB (List.mem_of_getElem? (i := 493) (by decide +kernel)) (by decide +kernel)
theorem hd_X7_link : yX7_link.cls ≠ "java/lang/invoke/MethodHandle" ∧ yX7_link.cls ≠ "java/lang/invoke/VarHandle" ∧ (parseMethodDescriptor yX7_link.desc).map (fun d => d.parameters.length) = some 0 := by decide +kernel
abbrev cX7_remove : ByteArray := prog_1_method_13_code
def yX7_remove : MethodName := ⟨RX7, "remove", "()I"⟩
def wsX7_remove : List Cond := .code yX7_remove cX7_remove 4 (some (.int)) :: BIG
theorem mC_X7_remove : Cond.code yX7_remove cX7_remove 4 (some (.int)) ∈ BIG := mB (List.mem_of_getElem? (i := 499) (by decide +kernel)) (by decide +kernel)
theorem mI_X7_remove : Cond.instanceMethod yX7_remove ∈ BIG := mB (List.mem_of_getElem? (i := 497) (by decide +kernel)) (by decide +kernel)
theorem mS_X7_remove : Cond.selects RX7 yX7_remove yX7_remove ∈ BIG := mB (List.mem_of_getElem? (i := 498) (by decide +kernel)) (by decide +kernel)
theorem hd_X7_remove : yX7_remove.cls ≠ "java/lang/invoke/MethodHandle" ∧ yX7_remove.cls ≠ "java/lang/invoke/VarHandle" ∧ (parseMethodDescriptor yX7_remove.desc).map (fun d => d.parameters.length) = some 0 := by decide +kernel
abbrev cX7_whyNotRemove : ByteArray := prog_1_method_14_code
def yX7_whyNotRemove : MethodName := ⟨RX7, "whyNotRemove", "(I)I"⟩
def wsX7_whyNotRemove : List Cond := .code yX7_whyNotRemove cX7_whyNotRemove 2 (some (.int)) :: BIG
theorem mC_X7_whyNotRemove : Cond.code yX7_whyNotRemove cX7_whyNotRemove 2 (some (.int)) ∈ BIG := mB (List.mem_of_getElem? (i := 504) (by decide +kernel)) (by decide +kernel)
theorem mI_X7_whyNotRemove : Cond.instanceMethod yX7_whyNotRemove ∈ BIG := mB (List.mem_of_getElem? (i := 503) (by decide +kernel)) (by decide +kernel)
theorem mS_X7_whyNotRemove : Cond.selects RX7 yX7_whyNotRemove yX7_whyNotRemove ∈ BIG := mB (List.mem_of_getElem? (i := 8) (by decide +kernel)) (by decide +kernel)
theorem hd_X7_whyNotRemove : yX7_whyNotRemove.cls ≠ "java/lang/invoke/MethodHandle" ∧ yX7_whyNotRemove.cls ≠ "java/lang/invoke/VarHandle" ∧ (parseMethodDescriptor yX7_whyNotRemove.desc).map (fun d => d.parameters.length) = some 1 := by decide +kernel
abbrev cX7_volume : ByteArray := prog_1_method_15_code
def yX7_volume : MethodName := ⟨RX7, "volume", "()I"⟩
def wsX7_volume : List Cond := .code yX7_volume cX7_volume 3 (some (.int)) :: BIG
theorem mC_X7_volume : Cond.code yX7_volume cX7_volume 3 (some (.int)) ∈ BIG := mB (List.mem_of_getElem? (i := 525) (by decide +kernel)) (by decide +kernel)
theorem mI_X7_volume : Cond.instanceMethod yX7_volume ∈ BIG := mB (List.mem_of_getElem? (i := 523) (by decide +kernel)) (by decide +kernel)
theorem mS_X7_volume : Cond.selects RX7 yX7_volume yX7_volume ∈ BIG := mB (List.mem_of_getElem? (i := 524) (by decide +kernel)) (by decide +kernel)
theorem hd_X7_volume : yX7_volume.cls ≠ "java/lang/invoke/MethodHandle" ∧ yX7_volume.cls ≠ "java/lang/invoke/VarHandle" ∧ (parseMethodDescriptor yX7_volume.desc).map (fun d => d.parameters.length) = some 0 := by decide +kernel
abbrev cX7_mount : ByteArray := prog_1_method_16_code
def yX7_mount : MethodName := ⟨RX7, "mount", "(I)I"⟩
def wsX7_mount : List Cond := .code yX7_mount cX7_mount 3 (some (.int)) :: BIG
theorem mC_X7_mount : Cond.code yX7_mount cX7_mount 3 (some (.int)) ∈ BIG := mB (List.mem_of_getElem? (i := 533) (by decide +kernel)) (by decide +kernel)
theorem mI_X7_mount : Cond.instanceMethod yX7_mount ∈ BIG := mB (List.mem_of_getElem? (i := 531) (by decide +kernel)) (by decide +kernel)
theorem mS_X7_mount : Cond.selects RX7 yX7_mount yX7_mount ∈ BIG := mB (List.mem_of_getElem? (i := 532) (by decide +kernel)) (by decide +kernel)
theorem hd_X7_mount : yX7_mount.cls ≠ "java/lang/invoke/MethodHandle" ∧ yX7_mount.cls ≠ "java/lang/invoke/VarHandle" ∧ (parseMethodDescriptor yX7_mount.desc).map (fun d => d.parameters.length) = some 1 := by decide +kernel
abbrev cX7_isAtOrBelow : ByteArray := prog_1_method_17_code
def yX7_isAtOrBelow : MethodName := ⟨RX7, "isAtOrBelow", "(II)Z"⟩
def wsX7_isAtOrBelow : List Cond := .code yX7_isAtOrBelow cX7_isAtOrBelow 5 (some (.boolean)) :: BIG
theorem mC_X7_isAtOrBelow : Cond.code yX7_isAtOrBelow cX7_isAtOrBelow 5 (some (.boolean)) ∈ BIG := mB (List.mem_of_getElem? (i := 545) (by decide +kernel)) (by decide +kernel)
theorem mI_X7_isAtOrBelow : Cond.instanceMethod yX7_isAtOrBelow ∈ BIG := mB (List.mem_of_getElem? (i := 544) (by decide +kernel)) (by decide +kernel)
theorem mS_X7_isAtOrBelow : Cond.selects RX7 yX7_isAtOrBelow yX7_isAtOrBelow ∈ BIG := mB (List.mem_of_getElem? (i := 9) (by decide +kernel)) (by decide +kernel)
theorem hd_X7_isAtOrBelow : yX7_isAtOrBelow.cls ≠ "java/lang/invoke/MethodHandle" ∧ yX7_isAtOrBelow.cls ≠ "java/lang/invoke/VarHandle" ∧ (parseMethodDescriptor yX7_isAtOrBelow.desc).map (fun d => d.parameters.length) = some 2 := by decide +kernel
abbrev cX7_unmount : ByteArray := prog_1_method_18_code
def yX7_unmount : MethodName := ⟨RX7, "unmount", "()I"⟩
def wsX7_unmount : List Cond := .code yX7_unmount cX7_unmount 3 (some (.int)) :: BIG
theorem mC_X7_unmount : Cond.code yX7_unmount cX7_unmount 3 (some (.int)) ∈ BIG := mB (List.mem_of_getElem? (i := 554) (by decide +kernel)) (by decide +kernel)
theorem mI_X7_unmount : Cond.instanceMethod yX7_unmount ∈ BIG := mB (List.mem_of_getElem? (i := 552) (by decide +kernel)) (by decide +kernel)
theorem mS_X7_unmount : Cond.selects RX7 yX7_unmount yX7_unmount ∈ BIG := mB (List.mem_of_getElem? (i := 553) (by decide +kernel)) (by decide +kernel)
theorem hd_X7_unmount : yX7_unmount.cls ≠ "java/lang/invoke/MethodHandle" ∧ yX7_unmount.cls ≠ "java/lang/invoke/VarHandle" ∧ (parseMethodDescriptor yX7_unmount.desc).map (fun d => d.parameters.length) = some 0 := by decide +kernel
abbrev cX7_enter : ByteArray := prog_1_method_19_code
def yX7_enter : MethodName := ⟨RX7, "enter", "(Z)I"⟩
def wsX7_enter : List Cond := .code yX7_enter cX7_enter 3 (some (.int)) :: BIG
theorem mC_X7_enter : Cond.code yX7_enter cX7_enter 3 (some (.int)) ∈ BIG := mB (List.mem_of_getElem? (i := 568) (by decide +kernel)) (by decide +kernel)
theorem mI_X7_enter : Cond.instanceMethod yX7_enter ∈ BIG := mB (List.mem_of_getElem? (i := 566) (by decide +kernel)) (by decide +kernel)
theorem mS_X7_enter : Cond.selects RX7 yX7_enter yX7_enter ∈ BIG := mB (List.mem_of_getElem? (i := 567) (by decide +kernel)) (by decide +kernel)
theorem hd_X7_enter : yX7_enter.cls ≠ "java/lang/invoke/MethodHandle" ∧ yX7_enter.cls ≠ "java/lang/invoke/VarHandle" ∧ (parseMethodDescriptor yX7_enter.desc).map (fun d => d.parameters.length) = some 1 := by decide +kernel
abbrev cX7_user : ByteArray := prog_1_method_20_code
def yX7_user : MethodName := ⟨RX7, "user", "(I)Z"⟩
def wsX7_user : List Cond := .code yX7_user cX7_user 2 (some (.boolean)) :: BIG
theorem mC_X7_user : Cond.code yX7_user cX7_user 2 (some (.boolean)) ∈ BIG := mB (List.mem_of_getElem? (i := 572) (by decide +kernel)) (by decide +kernel)
theorem mI_X7_user : Cond.instanceMethod yX7_user ∈ BIG := mB (List.mem_of_getElem? (i := 570) (by decide +kernel)) (by decide +kernel)
theorem mS_X7_user : Cond.selects RX7 yX7_user yX7_user ∈ BIG := mB (List.mem_of_getElem? (i := 571) (by decide +kernel)) (by decide +kernel)
theorem hd_X7_user : yX7_user.cls ≠ "java/lang/invoke/MethodHandle" ∧ yX7_user.cls ≠ "java/lang/invoke/VarHandle" ∧ (parseMethodDescriptor yX7_user.desc).map (fun d => d.parameters.length) = some 1 := by decide +kernel
abbrev cX7_change : ByteArray := prog_1_method_21_code
def yX7_change : MethodName := ⟨RX7, "change", "(I)I"⟩
def wsX7_change : List Cond := .code yX7_change cX7_change 4 (some (.int)) :: BIG
theorem mC_X7_change : Cond.code yX7_change cX7_change 4 (some (.int)) ∈ BIG := mB (List.mem_of_getElem? (i := 576) (by decide +kernel)) (by decide +kernel)
theorem mI_X7_change : Cond.instanceMethod yX7_change ∈ BIG := mB (List.mem_of_getElem? (i := 574) (by decide +kernel)) (by decide +kernel)
theorem mS_X7_change : Cond.selects RX7 yX7_change yX7_change ∈ BIG := mB (List.mem_of_getElem? (i := 575) (by decide +kernel)) (by decide +kernel)
theorem hd_X7_change : yX7_change.cls ≠ "java/lang/invoke/MethodHandle" ∧ yX7_change.cls ≠ "java/lang/invoke/VarHandle" ∧ (parseMethodDescriptor yX7_change.desc).map (fun d => d.parameters.length) = some 1 := by decide +kernel
abbrev cX7_path : ByteArray := prog_1_method_22_code
def yX7_path : MethodName := ⟨RX7, "path", "()I"⟩
def wsX7_path : List Cond := .code yX7_path cX7_path 3 (some (.int)) :: BIG
theorem mC_X7_path : Cond.code yX7_path cX7_path 3 (some (.int)) ∈ BIG := mB (List.mem_of_getElem? (i := 586) (by decide +kernel)) (by decide +kernel)
theorem mI_X7_path : Cond.instanceMethod yX7_path ∈ BIG := mB (List.mem_of_getElem? (i := 584) (by decide +kernel)) (by decide +kernel)
theorem mS_X7_path : Cond.selects RX7 yX7_path yX7_path ∈ BIG := mB (List.mem_of_getElem? (i := 585) (by decide +kernel)) (by decide +kernel)
theorem hd_X7_path : yX7_path.cls ≠ "java/lang/invoke/MethodHandle" ∧ yX7_path.cls ≠ "java/lang/invoke/VarHandle" ∧ (parseMethodDescriptor yX7_path.desc).map (fun d => d.parameters.length) = some 0 := by decide +kernel
abbrev cX7_kind : ByteArray := prog_1_method_23_code
def yX7_kind : MethodName := ⟨RX7, "kind", "(I)I"⟩
def wsX7_kind : List Cond := .code yX7_kind cX7_kind 2 (some (.int)) :: BIG
theorem mC_X7_kind : Cond.code yX7_kind cX7_kind 2 (some (.int)) ∈ BIG := mB (List.mem_of_getElem? (i := 605) (by decide +kernel)) (by decide +kernel)
theorem mI_X7_kind : Cond.instanceMethod yX7_kind ∈ BIG := mB (List.mem_of_getElem? (i := 603) (by decide +kernel)) (by decide +kernel)
theorem mS_X7_kind : Cond.selects RX7 yX7_kind yX7_kind ∈ BIG := mB (List.mem_of_getElem? (i := 604) (by decide +kernel)) (by decide +kernel)
theorem hd_X7_kind : yX7_kind.cls ≠ "java/lang/invoke/MethodHandle" ∧ yX7_kind.cls ≠ "java/lang/invoke/VarHandle" ∧ (parseMethodDescriptor yX7_kind.desc).map (fun d => d.parameters.length) = some 1 := by decide +kernel
abbrev cX7_about : ByteArray := prog_1_method_24_code
def yX7_about : MethodName := ⟨RX7, "about", "(II)I"⟩
def wsX7_about : List Cond := .code yX7_about cX7_about 3 (some (.int)) :: BIG
theorem mC_X7_about : Cond.code yX7_about cX7_about 3 (some (.int)) ∈ BIG := mB (List.mem_of_getElem? (i := 613) (by decide +kernel)) (by decide +kernel)
theorem mI_X7_about : Cond.instanceMethod yX7_about ∈ BIG := mB (List.mem_of_getElem? (i := 611) (by decide +kernel)) (by decide +kernel)
theorem mS_X7_about : Cond.selects RX7 yX7_about yX7_about ∈ BIG := mB (List.mem_of_getElem? (i := 612) (by decide +kernel)) (by decide +kernel)
theorem hd_X7_about : yX7_about.cls ≠ "java/lang/invoke/MethodHandle" ∧ yX7_about.cls ≠ "java/lang/invoke/VarHandle" ∧ (parseMethodDescriptor yX7_about.desc).map (fun d => d.parameters.length) = some 2 := by decide +kernel
abbrev cX7_entry : ByteArray := prog_1_method_25_code
def yX7_entry : MethodName := ⟨RX7, "entry", "(II)I"⟩
def wsX7_entry : List Cond := .code yX7_entry cX7_entry 4 (some (.int)) :: BIG
theorem mC_X7_entry : Cond.code yX7_entry cX7_entry 4 (some (.int)) ∈ BIG := mB (List.mem_of_getElem? (i := 618) (by decide +kernel)) (by decide +kernel)
theorem mI_X7_entry : Cond.instanceMethod yX7_entry ∈ BIG := mB (List.mem_of_getElem? (i := 616) (by decide +kernel)) (by decide +kernel)
theorem mS_X7_entry : Cond.selects RX7 yX7_entry yX7_entry ∈ BIG := mB (List.mem_of_getElem? (i := 617) (by decide +kernel)) (by decide +kernel)
theorem hd_X7_entry : yX7_entry.cls ≠ "java/lang/invoke/MethodHandle" ∧ yX7_entry.cls ≠ "java/lang/invoke/VarHandle" ∧ (parseMethodDescriptor yX7_entry.desc).map (fun d => d.parameters.length) = some 2 := by decide +kernel
abbrev cX8_init : ByteArray := prog_10_method_1_code
def yX8_init : MethodName := ⟨RX8, "<init>", "()V"⟩
def wsX8_init : List Cond := .code yX8_init cX8_init 2 (none) :: BIG
theorem mC_X8_init : Cond.code yX8_init cX8_init 2 (none) ∈ BIG := mB (List.mem_of_getElem? (i := 627) (by decide +kernel)) (by decide +kernel)
theorem mI_X8_init : Cond.instanceMethod yX8_init ∈ BIG := mB (List.mem_of_getElem? (i := 626) (by decide +kernel)) (by decide +kernel)
theorem hd_X8_init : yX8_init.cls ≠ "java/lang/invoke/MethodHandle" ∧ yX8_init.cls ≠ "java/lang/invoke/VarHandle" ∧ (parseMethodDescriptor yX8_init.desc).map (fun d => d.parameters.length) = some 0 := by decide +kernel
abbrev cX8_type : ByteArray := prog_10_method_2_code
def yX8_type : MethodName := ⟨RX8, "type", "(I)Z"⟩
def wsX8_type : List Cond := .code yX8_type cX8_type 5 (some (.boolean)) :: BIG
theorem mC_X8_type : Cond.code yX8_type cX8_type 5 (some (.boolean)) ∈ BIG := mB (List.mem_of_getElem? (i := 720) (by decide +kernel)) (by decide +kernel)
theorem mI_X8_type : Cond.instanceMethod yX8_type ∈ BIG := mB (List.mem_of_getElem? (i := 718) (by decide +kernel)) (by decide +kernel)
theorem mS_X8_type : Cond.selects RX8 yX8_type yX8_type ∈ BIG := mB (List.mem_of_getElem? (i := 719) (by decide +kernel)) (by decide +kernel)
theorem hd_X8_type : yX8_type.cls ≠ "java/lang/invoke/MethodHandle" ∧ yX8_type.cls ≠ "java/lang/invoke/VarHandle" ∧ (parseMethodDescriptor yX8_type.desc).map (fun d => d.parameters.length) = some 1 := by decide +kernel
abbrev cX8_wipe : ByteArray := prog_10_method_3_code
def yX8_wipe : MethodName := ⟨RX8, "wipe", "()V"⟩
def wsX8_wipe : List Cond := .code yX8_wipe cX8_wipe 1 (none) :: BIG
theorem mC_X8_wipe : Cond.code yX8_wipe cX8_wipe 1 (none) ∈ BIG := mB (List.mem_of_getElem? (i := 724) (by decide +kernel)) (by decide +kernel)
theorem mI_X8_wipe : Cond.instanceMethod yX8_wipe ∈ BIG := mB (List.mem_of_getElem? (i := 722) (by decide +kernel)) (by decide +kernel)
theorem mS_X8_wipe : Cond.selects RX8 yX8_wipe yX8_wipe ∈ BIG := mB (List.mem_of_getElem? (i := 723) (by decide +kernel)) (by decide +kernel)
theorem hd_X8_wipe : yX8_wipe.cls ≠ "java/lang/invoke/MethodHandle" ∧ yX8_wipe.cls ≠ "java/lang/invoke/VarHandle" ∧ (parseMethodDescriptor yX8_wipe.desc).map (fun d => d.parameters.length) = some 0 := by decide +kernel
abbrev cX8_keep : ByteArray := prog_10_method_4_code
def yX8_keep : MethodName := ⟨RX8, "keep", "()V"⟩
def wsX8_keep : List Cond := .code yX8_keep cX8_keep 2 (none) :: BIG
theorem mC_X8_keep : Cond.code yX8_keep cX8_keep 2 (none) ∈ BIG := mB (List.mem_of_getElem? (i := 728) (by decide +kernel)) (by decide +kernel)
theorem mI_X8_keep : Cond.instanceMethod yX8_keep ∈ BIG := mB (List.mem_of_getElem? (i := 726) (by decide +kernel)) (by decide +kernel)
theorem mS_X8_keep : Cond.selects RX8 yX8_keep yX8_keep ∈ BIG := mB (List.mem_of_getElem? (i := 727) (by decide +kernel)) (by decide +kernel)
theorem hd_X8_keep : yX8_keep.cls ≠ "java/lang/invoke/MethodHandle" ∧ yX8_keep.cls ≠ "java/lang/invoke/VarHandle" ∧ (parseMethodDescriptor yX8_keep.desc).map (fun d => d.parameters.length) = some 0 := by decide +kernel
abbrev cX8_length : ByteArray := prog_10_method_5_code
def yX8_length : MethodName := ⟨RX8, "length", "()I"⟩
def wsX8_length : List Cond := .code yX8_length cX8_length 1 (some (.int)) :: BIG
theorem mC_X8_length : Cond.code yX8_length cX8_length 1 (some (.int)) ∈ BIG := mB (List.mem_of_getElem? (i := 732) (by decide +kernel)) (by decide +kernel)
theorem mI_X8_length : Cond.instanceMethod yX8_length ∈ BIG := mB (List.mem_of_getElem? (i := 730) (by decide +kernel)) (by decide +kernel)
theorem mS_X8_length : Cond.selects RX8 yX8_length yX8_length ∈ BIG := mB (List.mem_of_getElem? (i := 731) (by decide +kernel)) (by decide +kernel)
theorem hd_X8_length : yX8_length.cls ≠ "java/lang/invoke/MethodHandle" ∧ yX8_length.cls ≠ "java/lang/invoke/VarHandle" ∧ (parseMethodDescriptor yX8_length.desc).map (fun d => d.parameters.length) = some 0 := by decide +kernel
abbrev cX8_at : ByteArray := prog_10_method_6_code
def yX8_at : MethodName := ⟨RX8, "at", "(I)I"⟩
def wsX8_at : List Cond := .code yX8_at cX8_at 2 (some (.int)) :: BIG
theorem mC_X8_at : Cond.code yX8_at cX8_at 2 (some (.int)) ∈ BIG := mB (List.mem_of_getElem? (i := 736) (by decide +kernel)) (by decide +kernel)
theorem mI_X8_at : Cond.instanceMethod yX8_at ∈ BIG := mB (List.mem_of_getElem? (i := 734) (by decide +kernel)) (by decide +kernel)
theorem mS_X8_at : Cond.selects RX8 yX8_at yX8_at ∈ BIG := mB (List.mem_of_getElem? (i := 735) (by decide +kernel)) (by decide +kernel)
theorem hd_X8_at : yX8_at.cls ≠ "java/lang/invoke/MethodHandle" ∧ yX8_at.cls ≠ "java/lang/invoke/VarHandle" ∧ (parseMethodDescriptor yX8_at.desc).map (fun d => d.parameters.length) = some 1 := by decide +kernel
abbrev cX8_slashesAlone : ByteArray := prog_10_method_7_code
def yX8_slashesAlone : MethodName := ⟨RX8, "slashesAlone", "()Z"⟩
def wsX8_slashesAlone : List Cond := .code yX8_slashesAlone cX8_slashesAlone 3 (some (.boolean)) :: BIG
theorem mC_X8_slashesAlone : Cond.code yX8_slashesAlone cX8_slashesAlone 3 (some (.boolean)) ∈ BIG := mB (List.mem_of_getElem? (i := 815) (by decide +kernel)) (by decide +kernel)
theorem mI_X8_slashesAlone : Cond.instanceMethod yX8_slashesAlone ∈ BIG := mB (List.mem_of_getElem? (i := 814) (by decide +kernel)) (by decide +kernel)
theorem mS_X8_slashesAlone : Cond.selects RX8 yX8_slashesAlone yX8_slashesAlone ∈ BIG := mB (List.mem_of_getElem? (i := 26) (by decide +kernel)) (by decide +kernel)
theorem hd_X8_slashesAlone : yX8_slashesAlone.cls ≠ "java/lang/invoke/MethodHandle" ∧ yX8_slashesAlone.cls ≠ "java/lang/invoke/VarHandle" ∧ (parseMethodDescriptor yX8_slashesAlone.desc).map (fun d => d.parameters.length) = some 0 := by decide +kernel
abbrev cX8_there : ByteArray := prog_10_method_8_code
def yX8_there : MethodName := ⟨RX8, "there", "(I)Z"⟩
def wsX8_there : List Cond := .code yX8_there cX8_there 2 (some (.boolean)) :: BIG
theorem mC_X8_there : Cond.code yX8_there cX8_there 2 (some (.boolean)) ∈ BIG := mB (List.mem_of_getElem? (i := 895) (by decide +kernel)) (by decide +kernel)
theorem mI_X8_there : Cond.instanceMethod yX8_there ∈ BIG := mB (List.mem_of_getElem? (i := 894) (by decide +kernel)) (by decide +kernel)
theorem mS_X8_there : Cond.selects RX8 yX8_there yX8_there ∈ BIG := mB (List.mem_of_getElem? (i := 35) (by decide +kernel)) (by decide +kernel)
theorem hd_X8_there : yX8_there.cls ≠ "java/lang/invoke/MethodHandle" ∧ yX8_there.cls ≠ "java/lang/invoke/VarHandle" ∧ (parseMethodDescriptor yX8_there.desc).map (fun d => d.parameters.length) = some 1 := by decide +kernel
abbrev cX8_freeObject : ByteArray := prog_10_method_9_code
def yX8_freeObject : MethodName := ⟨RX8, "freeObject", "()I"⟩
def wsX8_freeObject : List Cond := .code yX8_freeObject cX8_freeObject 2 (some (.int)) :: BIG
theorem mC_X8_freeObject : Cond.code yX8_freeObject cX8_freeObject 2 (some (.int)) ∈ BIG := mB (List.mem_of_getElem? (i := 827) (by decide +kernel)) (by decide +kernel)
theorem mI_X8_freeObject : Cond.instanceMethod yX8_freeObject ∈ BIG := mB (List.mem_of_getElem? (i := 826) (by decide +kernel)) (by decide +kernel)
theorem mS_X8_freeObject : Cond.selects RX8 yX8_freeObject yX8_freeObject ∈ BIG := mB (List.mem_of_getElem? (i := 29) (by decide +kernel)) (by decide +kernel)
theorem hd_X8_freeObject : yX8_freeObject.cls ≠ "java/lang/invoke/MethodHandle" ∧ yX8_freeObject.cls ≠ "java/lang/invoke/VarHandle" ∧ (parseMethodDescriptor yX8_freeObject.desc).map (fun d => d.parameters.length) = some 0 := by decide +kernel
abbrev cX8_may : ByteArray := prog_10_method_10_code
def yX8_may : MethodName := ⟨RX8, "may", "(II)Z"⟩
def wsX8_may : List Cond := .code yX8_may cX8_may 4 (some (.boolean)) :: BIG
theorem mC_X8_may : Cond.code yX8_may cX8_may 4 (some (.boolean)) ∈ BIG := mB (List.mem_of_getElem? (i := 769) (by decide +kernel)) (by decide +kernel)
theorem mI_X8_may : Cond.instanceMethod yX8_may ∈ BIG := mB (List.mem_of_getElem? (i := 768) (by decide +kernel)) (by decide +kernel)
theorem mS_X8_may : Cond.selects RX8 yX8_may yX8_may ∈ BIG := mB (List.mem_of_getElem? (i := 16) (by decide +kernel)) (by decide +kernel)
theorem hd_X8_may : yX8_may.cls ≠ "java/lang/invoke/MethodHandle" ∧ yX8_may.cls ≠ "java/lang/invoke/VarHandle" ∧ (parseMethodDescriptor yX8_may.desc).map (fun d => d.parameters.length) = some 2 := by decide +kernel
abbrev cX8_coverOf : ByteArray := prog_10_method_11_code
def yX8_coverOf : MethodName := ⟨RX8, "coverOf", "(I)I"⟩
def wsX8_coverOf : List Cond := .code yX8_coverOf cX8_coverOf 4 (some (.int)) :: BIG
theorem mC_X8_coverOf : Cond.code yX8_coverOf cX8_coverOf 4 (some (.int)) ∈ BIG := mB (List.mem_of_getElem? (i := 794) (by decide +kernel)) (by decide +kernel)
theorem mI_X8_coverOf : Cond.instanceMethod yX8_coverOf ∈ BIG := mB (List.mem_of_getElem? (i := 793) (by decide +kernel)) (by decide +kernel)
theorem mS_X8_coverOf : Cond.selects RX8 yX8_coverOf yX8_coverOf ∈ BIG := mB (List.mem_of_getElem? (i := 22) (by decide +kernel)) (by decide +kernel)
theorem hd_X8_coverOf : yX8_coverOf.cls ≠ "java/lang/invoke/MethodHandle" ∧ yX8_coverOf.cls ≠ "java/lang/invoke/VarHandle" ∧ (parseMethodDescriptor yX8_coverOf.desc).map (fun d => d.parameters.length) = some 1 := by decide +kernel
abbrev cX8_top : ByteArray := prog_10_method_12_code
def yX8_top : MethodName := ⟨RX8, "top", "(I)I"⟩
def wsX8_top : List Cond := .code yX8_top cX8_top 4 (some (.int)) :: BIG
theorem mC_X8_top : Cond.code yX8_top cX8_top 4 (some (.int)) ∈ BIG := mB (List.mem_of_getElem? (i := 790) (by decide +kernel)) (by decide +kernel)
theorem mI_X8_top : Cond.instanceMethod yX8_top ∈ BIG := mB (List.mem_of_getElem? (i := 789) (by decide +kernel)) (by decide +kernel)
theorem mS_X8_top : Cond.selects RX8 yX8_top yX8_top ∈ BIG := mB (List.mem_of_getElem? (i := 21) (by decide +kernel)) (by decide +kernel)
theorem hd_X8_top : yX8_top.cls ≠ "java/lang/invoke/MethodHandle" ∧ yX8_top.cls ≠ "java/lang/invoke/VarHandle" ∧ (parseMethodDescriptor yX8_top.desc).map (fun d => d.parameters.length) = some 1 := by decide +kernel
abbrev cX8_mountedAt : ByteArray := prog_10_method_13_code
def yX8_mountedAt : MethodName := ⟨RX8, "mountedAt", "(I)I"⟩
def wsX8_mountedAt : List Cond := .code yX8_mountedAt cX8_mountedAt 4 (some (.int)) :: BIG
theorem mC_X8_mountedAt : Cond.code yX8_mountedAt cX8_mountedAt 4 (some (.int)) ∈ BIG := mB (List.mem_of_getElem? (i := 786) (by decide +kernel)) (by decide +kernel)
theorem mI_X8_mountedAt : Cond.instanceMethod yX8_mountedAt ∈ BIG := mB (List.mem_of_getElem? (i := 785) (by decide +kernel)) (by decide +kernel)
theorem mS_X8_mountedAt : Cond.selects RX8 yX8_mountedAt yX8_mountedAt ∈ BIG := mB (List.mem_of_getElem? (i := 20) (by decide +kernel)) (by decide +kernel)
theorem hd_X8_mountedAt : yX8_mountedAt.cls ≠ "java/lang/invoke/MethodHandle" ∧ yX8_mountedAt.cls ≠ "java/lang/invoke/VarHandle" ∧ (parseMethodDescriptor yX8_mountedAt.desc).map (fun d => d.parameters.length) = some 1 := by decide +kernel
abbrev cX8_seat : ByteArray := prog_10_method_14_code
def yX8_seat : MethodName := ⟨RX8, "seat", "(I)I"⟩
def wsX8_seat : List Cond := .code yX8_seat cX8_seat 4 (some (.int)) :: BIG
theorem mC_X8_seat : Cond.code yX8_seat cX8_seat 4 (some (.int)) ∈ BIG := mB (List.mem_of_getElem? (i := 782) (by decide +kernel)) (by decide +kernel)
theorem mI_X8_seat : Cond.instanceMethod yX8_seat ∈ BIG := mB (List.mem_of_getElem? (i := 781) (by decide +kernel)) (by decide +kernel)
theorem mS_X8_seat : Cond.selects RX8 yX8_seat yX8_seat ∈ BIG := mB (List.mem_of_getElem? (i := 19) (by decide +kernel)) (by decide +kernel)
theorem hd_X8_seat : yX8_seat.cls ≠ "java/lang/invoke/MethodHandle" ∧ yX8_seat.cls ≠ "java/lang/invoke/VarHandle" ∧ (parseMethodDescriptor yX8_seat.desc).map (fun d => d.parameters.length) = some 1 := by decide +kernel
abbrev cX8_above : ByteArray := prog_10_method_15_code
def yX8_above : MethodName := ⟨RX8, "above", "(II)I"⟩
def wsX8_above : List Cond := .code yX8_above cX8_above 3 (some (.int)) :: BIG
theorem mC_X8_above : Cond.code yX8_above cX8_above 3 (some (.int)) ∈ BIG := mB (List.mem_of_getElem? (i := 778) (by decide +kernel)) (by decide +kernel)
theorem mI_X8_above : Cond.instanceMethod yX8_above ∈ BIG := mB (List.mem_of_getElem? (i := 777) (by decide +kernel)) (by decide +kernel)
theorem mS_X8_above : Cond.selects RX8 yX8_above yX8_above ∈ BIG := mB (List.mem_of_getElem? (i := 18) (by decide +kernel)) (by decide +kernel)
theorem hd_X8_above : yX8_above.cls ≠ "java/lang/invoke/MethodHandle" ∧ yX8_above.cls ≠ "java/lang/invoke/VarHandle" ∧ (parseMethodDescriptor yX8_above.desc).map (fun d => d.parameters.length) = some 2 := by decide +kernel
abbrev cX8_find : ByteArray := prog_10_method_16_code
def yX8_find : MethodName := ⟨RX8, "find", "(IJ)I"⟩
def wsX8_find : List Cond := .code yX8_find cX8_find 5 (some (.int)) :: BIG
theorem mC_X8_find : Cond.code yX8_find cX8_find 5 (some (.int)) ∈ BIG := mB (List.mem_of_getElem? (i := 799) (by decide +kernel)) (by decide +kernel)
theorem mI_X8_find : Cond.instanceMethod yX8_find ∈ BIG := mB (List.mem_of_getElem? (i := 798) (by decide +kernel)) (by decide +kernel)
theorem mS_X8_find : Cond.selects RX8 yX8_find yX8_find ∈ BIG := mB (List.mem_of_getElem? (i := 23) (by decide +kernel)) (by decide +kernel)
theorem hd_X8_find : yX8_find.cls ≠ "java/lang/invoke/MethodHandle" ∧ yX8_find.cls ≠ "java/lang/invoke/VarHandle" ∧ (parseMethodDescriptor yX8_find.desc).map (fun d => d.parameters.length) = some 2 := by decide +kernel
abbrev cX8_dropRest : ByteArray := prog_10_method_17_code
def yX8_dropRest : MethodName := ⟨RX8, "dropRest", "(I)V"⟩
def wsX8_dropRest : List Cond := .code yX8_dropRest cX8_dropRest 3 (none) :: BIG
theorem mC_X8_dropRest : Cond.code yX8_dropRest cX8_dropRest 3 (none) ∈ BIG := mB (List.mem_of_getElem? (i := 756) (by decide +kernel)) (by decide +kernel)
theorem mI_X8_dropRest : Cond.instanceMethod yX8_dropRest ∈ BIG := mB (List.mem_of_getElem? (i := 755) (by decide +kernel)) (by decide +kernel)
theorem mS_X8_dropRest : Cond.selects RX8 yX8_dropRest yX8_dropRest ∈ BIG := mB (List.mem_of_getElem? (i := 13) (by decide +kernel)) (by decide +kernel)
theorem hd_X8_dropRest : yX8_dropRest.cls ≠ "java/lang/invoke/MethodHandle" ∧ yX8_dropRest.cls ≠ "java/lang/invoke/VarHandle" ∧ (parseMethodDescriptor yX8_dropRest.desc).map (fun d => d.parameters.length) = some 1 := by decide +kernel
abbrev cX8_takeSlashes : ByteArray := prog_10_method_18_code
def yX8_takeSlashes : MethodName := ⟨RX8, "takeSlashes", "()V"⟩
def wsX8_takeSlashes : List Cond := .code yX8_takeSlashes cX8_takeSlashes 2 (none) :: BIG
theorem mC_X8_takeSlashes : Cond.code yX8_takeSlashes cX8_takeSlashes 2 (none) ∈ BIG := mB (List.mem_of_getElem? (i := 752) (by decide +kernel)) (by decide +kernel)
theorem mI_X8_takeSlashes : Cond.instanceMethod yX8_takeSlashes ∈ BIG := mB (List.mem_of_getElem? (i := 751) (by decide +kernel)) (by decide +kernel)
theorem mS_X8_takeSlashes : Cond.selects RX8 yX8_takeSlashes yX8_takeSlashes ∈ BIG := mB (List.mem_of_getElem? (i := 12) (by decide +kernel)) (by decide +kernel)
theorem hd_X8_takeSlashes : yX8_takeSlashes.cls ≠ "java/lang/invoke/MethodHandle" ∧ yX8_takeSlashes.cls ≠ "java/lang/invoke/VarHandle" ∧ (parseMethodDescriptor yX8_takeSlashes.desc).map (fun d => d.parameters.length) = some 0 := by decide +kernel
abbrev cX8_takeName : ByteArray := prog_10_method_19_code
def yX8_takeName : MethodName := ⟨RX8, "takeName", "()V"⟩
def wsX8_takeName : List Cond := .code yX8_takeName cX8_takeName 3 (none) :: BIG
theorem mC_X8_takeName : Cond.code yX8_takeName cX8_takeName 3 (none) ∈ BIG := mB (List.mem_of_getElem? (i := 760) (by decide +kernel)) (by decide +kernel)
theorem mI_X8_takeName : Cond.instanceMethod yX8_takeName ∈ BIG := mB (List.mem_of_getElem? (i := 759) (by decide +kernel)) (by decide +kernel)
theorem mS_X8_takeName : Cond.selects RX8 yX8_takeName yX8_takeName ∈ BIG := mB (List.mem_of_getElem? (i := 14) (by decide +kernel)) (by decide +kernel)
theorem hd_X8_takeName : yX8_takeName.cls ≠ "java/lang/invoke/MethodHandle" ∧ yX8_takeName.cls ≠ "java/lang/invoke/VarHandle" ∧ (parseMethodDescriptor yX8_takeName.desc).map (fun d => d.parameters.length) = some 0 := by decide +kernel
abbrev cX8_putBefore : ByteArray := prog_10_method_20_code
def yX8_putBefore : MethodName := ⟨RX8, "putBefore", "(I)V"⟩
def wsX8_putBefore : List Cond := .code yX8_putBefore cX8_putBefore 4 (none) :: BIG
theorem mC_X8_putBefore : Cond.code yX8_putBefore cX8_putBefore 4 (none) ∈ BIG := mB (List.mem_of_getElem? (i := 803) (by decide +kernel)) (by decide +kernel)
theorem mI_X8_putBefore : Cond.instanceMethod yX8_putBefore ∈ BIG := mB (List.mem_of_getElem? (i := 802) (by decide +kernel)) (by decide +kernel)
theorem mS_X8_putBefore : Cond.selects RX8 yX8_putBefore yX8_putBefore ∈ BIG := mB (List.mem_of_getElem? (i := 24) (by decide +kernel)) (by decide +kernel)
theorem hd_X8_putBefore : yX8_putBefore.cls ≠ "java/lang/invoke/MethodHandle" ∧ yX8_putBefore.cls ≠ "java/lang/invoke/VarHandle" ∧ (parseMethodDescriptor yX8_putBefore.desc).map (fun d => d.parameters.length) = some 1 := by decide +kernel
abbrev cX8_begin : ByteArray := prog_10_method_21_code
def yX8_begin : MethodName := ⟨RX8, "begin", "(Z)V"⟩
def wsX8_begin : List Cond := .code yX8_begin cX8_begin 3 (none) :: BIG
theorem mC_X8_begin : Cond.code yX8_begin cX8_begin 3 (none) ∈ BIG := mB (List.mem_of_getElem? (i := 748) (by decide +kernel)) (by decide +kernel)
theorem mI_X8_begin : Cond.instanceMethod yX8_begin ∈ BIG := mB (List.mem_of_getElem? (i := 747) (by decide +kernel)) (by decide +kernel)
theorem mS_X8_begin : Cond.selects RX8 yX8_begin yX8_begin ∈ BIG := mB (List.mem_of_getElem? (i := 11) (by decide +kernel)) (by decide +kernel)
theorem hd_X8_begin : yX8_begin.cls ≠ "java/lang/invoke/MethodHandle" ∧ yX8_begin.cls ≠ "java/lang/invoke/VarHandle" ∧ (parseMethodDescriptor yX8_begin.desc).map (fun d => d.parameters.length) = some 1 := by decide +kernel
abbrev cX8_against : ByteArray := prog_10_method_22_code
def yX8_against : MethodName := ⟨RX8, "against", "()I"⟩
def wsX8_against : List Cond := .code yX8_against cX8_against 1 (some (.int)) :: BIG
theorem mC_X8_against : Cond.code yX8_against cX8_against 1 (some (.int)) ∈ BIG := mB (List.mem_of_getElem? (i := 765) (by decide +kernel)) (by decide +kernel)
theorem mI_X8_against : Cond.instanceMethod yX8_against ∈ BIG := mB (List.mem_of_getElem? (i := 764) (by decide +kernel)) (by decide +kernel)
theorem mS_X8_against : Cond.selects RX8 yX8_against yX8_against ∈ BIG := mB (List.mem_of_getElem? (i := 15) (by decide +kernel)) (by decide +kernel)
theorem hd_X8_against : yX8_against.cls ≠ "java/lang/invoke/MethodHandle" ∧ yX8_against.cls ≠ "java/lang/invoke/VarHandle" ∧ (parseMethodDescriptor yX8_against.desc).map (fun d => d.parameters.length) = some 0 := by decide +kernel
abbrev cX8_step : ByteArray := prog_10_method_23_code
def yX8_step : MethodName := ⟨RX8, "step", "(Z)I"⟩
def wsX8_step : List Cond := .code yX8_step cX8_step 4 (some (.int)) :: BIG
theorem mC_X8_step : Cond.code yX8_step cX8_step 4 (some (.int)) ∈ BIG := mB (List.mem_of_getElem? (i := 773) (by decide +kernel)) (by decide +kernel)
theorem mI_X8_step : Cond.instanceMethod yX8_step ∈ BIG := mB (List.mem_of_getElem? (i := 772) (by decide +kernel)) (by decide +kernel)
theorem mS_X8_step : Cond.selects RX8 yX8_step yX8_step ∈ BIG := mB (List.mem_of_getElem? (i := 17) (by decide +kernel)) (by decide +kernel)
theorem hd_X8_step : yX8_step.cls ≠ "java/lang/invoke/MethodHandle" ∧ yX8_step.cls ≠ "java/lang/invoke/VarHandle" ∧ (parseMethodDescriptor yX8_step.desc).map (fun d => d.parameters.length) = some 1 := by decide +kernel
abbrev cX8_walk : ByteArray := prog_10_method_24_code
def yX8_walk : MethodName := ⟨RX8, "walk", "(ZZ)I"⟩
def wsX8_walk : List Cond := .code yX8_walk cX8_walk 4 (some (.int)) :: BIG
theorem mC_X8_walk : Cond.code yX8_walk cX8_walk 4 (some (.int)) ∈ BIG := mB (List.mem_of_getElem? (i := 744) (by decide +kernel)) (by decide +kernel)
theorem mI_X8_walk : Cond.instanceMethod yX8_walk ∈ BIG := mB (List.mem_of_getElem? (i := 743) (by decide +kernel)) (by decide +kernel)
theorem mS_X8_walk : Cond.selects RX8 yX8_walk yX8_walk ∈ BIG := mB (List.mem_of_getElem? (i := 10) (by decide +kernel)) (by decide +kernel)
theorem hd_X8_walk : yX8_walk.cls ≠ "java/lang/invoke/MethodHandle" ∧ yX8_walk.cls ≠ "java/lang/invoke/VarHandle" ∧ (parseMethodDescriptor yX8_walk.desc).map (fun d => d.parameters.length) = some 2 := by decide +kernel
abbrev cX8_come : ByteArray := prog_10_method_25_code
def yX8_come : MethodName := ⟨RX8, "come", "()I"⟩
def wsX8_come : List Cond := .code yX8_come cX8_come 3 (some (.int)) :: BIG
theorem mC_X8_come : Cond.code yX8_come cX8_come 3 (some (.int)) ∈ BIG := mB (List.mem_of_getElem? (i := 819) (by decide +kernel)) (by decide +kernel)
theorem mI_X8_come : Cond.instanceMethod yX8_come ∈ BIG := mB (List.mem_of_getElem? (i := 818) (by decide +kernel)) (by decide +kernel)
theorem mS_X8_come : Cond.selects RX8 yX8_come yX8_come ∈ BIG := mB (List.mem_of_getElem? (i := 27) (by decide +kernel)) (by decide +kernel)
theorem hd_X8_come : yX8_come.cls ≠ "java/lang/invoke/MethodHandle" ∧ yX8_come.cls ≠ "java/lang/invoke/VarHandle" ∧ (parseMethodDescriptor yX8_come.desc).map (fun d => d.parameters.length) = some 0 := by decide +kernel
abbrev cX8_dots : ByteArray := prog_10_method_26_code
def yX8_dots : MethodName := ⟨RX8, "dots", "()Z"⟩
def wsX8_dots : List Cond := .code yX8_dots cX8_dots 1 (some (.boolean)) :: BIG
theorem mC_X8_dots : Cond.code yX8_dots cX8_dots 1 (some (.boolean)) ∈ BIG := mB (List.mem_of_getElem? (i := 823) (by decide +kernel)) (by decide +kernel)
theorem mI_X8_dots : Cond.instanceMethod yX8_dots ∈ BIG := mB (List.mem_of_getElem? (i := 822) (by decide +kernel)) (by decide +kernel)
theorem mS_X8_dots : Cond.selects RX8 yX8_dots yX8_dots ∈ BIG := mB (List.mem_of_getElem? (i := 28) (by decide +kernel)) (by decide +kernel)
theorem hd_X8_dots : yX8_dots.cls ≠ "java/lang/invoke/MethodHandle" ∧ yX8_dots.cls ≠ "java/lang/invoke/VarHandle" ∧ (parseMethodDescriptor yX8_dots.desc).map (fun d => d.parameters.length) = some 0 := by decide +kernel
abbrev cX8_resolve : ByteArray := prog_10_method_27_code
def yX8_resolve : MethodName := ⟨RX8, "resolve", "(Z)I"⟩
def wsX8_resolve : List Cond := .code yX8_resolve cX8_resolve 2 (some (.int)) :: BIG
theorem mC_X8_resolve : Cond.code yX8_resolve cX8_resolve 2 (some (.int)) ∈ BIG := mB (List.mem_of_getElem? (i := 740) (by decide +kernel)) (by decide +kernel)
theorem mI_X8_resolve : Cond.instanceMethod yX8_resolve ∈ BIG := mB (List.mem_of_getElem? (i := 738) (by decide +kernel)) (by decide +kernel)
theorem mS_X8_resolve : Cond.selects RX8 yX8_resolve yX8_resolve ∈ BIG := mB (List.mem_of_getElem? (i := 739) (by decide +kernel)) (by decide +kernel)
theorem hd_X8_resolve : yX8_resolve.cls ≠ "java/lang/invoke/MethodHandle" ∧ yX8_resolve.cls ≠ "java/lang/invoke/VarHandle" ∧ (parseMethodDescriptor yX8_resolve.desc).map (fun d => d.parameters.length) = some 1 := by decide +kernel
abbrev cX8_addEntry : ByteArray := prog_10_method_28_code
def yX8_addEntry : MethodName := ⟨RX8, "addEntry", "(I)I"⟩
def wsX8_addEntry : List Cond := .code yX8_addEntry cX8_addEntry 2 (some (.int)) :: BIG
theorem mC_X8_addEntry : Cond.code yX8_addEntry cX8_addEntry 2 (some (.int)) ∈ BIG := mB (List.mem_of_getElem? (i := 831) (by decide +kernel)) (by decide +kernel)
theorem mI_X8_addEntry : Cond.instanceMethod yX8_addEntry ∈ BIG := mB (List.mem_of_getElem? (i := 830) (by decide +kernel)) (by decide +kernel)
theorem mS_X8_addEntry : Cond.selects RX8 yX8_addEntry yX8_addEntry ∈ BIG := mB (List.mem_of_getElem? (i := 30) (by decide +kernel)) (by decide +kernel)
theorem hd_X8_addEntry : yX8_addEntry.cls ≠ "java/lang/invoke/MethodHandle" ∧ yX8_addEntry.cls ≠ "java/lang/invoke/VarHandle" ∧ (parseMethodDescriptor yX8_addEntry.desc).map (fun d => d.parameters.length) = some 1 := by decide +kernel
abbrev cX8_newName : ByteArray := prog_10_method_29_code
def yX8_newName : MethodName := ⟨RX8, "newName", "(Z)I"⟩
def wsX8_newName : List Cond := .code yX8_newName cX8_newName 3 (some (.int)) :: BIG
theorem mC_X8_newName : Cond.code yX8_newName cX8_newName 3 (some (.int)) ∈ BIG := mB (List.mem_of_getElem? (i := 811) (by decide +kernel)) (by decide +kernel)
theorem mI_X8_newName : Cond.instanceMethod yX8_newName ∈ BIG := mB (List.mem_of_getElem? (i := 810) (by decide +kernel)) (by decide +kernel)
theorem mS_X8_newName : Cond.selects RX8 yX8_newName yX8_newName ∈ BIG := mB (List.mem_of_getElem? (i := 25) (by decide +kernel)) (by decide +kernel)
theorem hd_X8_newName : yX8_newName.cls ≠ "java/lang/invoke/MethodHandle" ∧ yX8_newName.cls ≠ "java/lang/invoke/VarHandle" ∧ (parseMethodDescriptor yX8_newName.desc).map (fun d => d.parameters.length) = some 1 := by decide +kernel
abbrev cX8_make : ByteArray := prog_10_method_30_code
def yX8_make : MethodName := ⟨RX8, "make", "(II)I"⟩
def wsX8_make : List Cond := .code yX8_make cX8_make 6 (some (.int)) :: BIG
theorem mC_X8_make : Cond.code yX8_make cX8_make 6 (some (.int)) ∈ BIG := mB (List.mem_of_getElem? (i := 807) (by decide +kernel)) (by decide +kernel)
theorem mI_X8_make : Cond.instanceMethod yX8_make ∈ BIG := mB (List.mem_of_getElem? (i := 805) (by decide +kernel)) (by decide +kernel)
theorem mS_X8_make : Cond.selects RX8 yX8_make yX8_make ∈ BIG := mB (List.mem_of_getElem? (i := 806) (by decide +kernel)) (by decide +kernel)
theorem hd_X8_make : yX8_make.cls ≠ "java/lang/invoke/MethodHandle" ∧ yX8_make.cls ≠ "java/lang/invoke/VarHandle" ∧ (parseMethodDescriptor yX8_make.desc).map (fun d => d.parameters.length) = some 2 := by decide +kernel
abbrev cX8_link : ByteArray := prog_10_method_31_code
def yX8_link : MethodName := ⟨RX8, "link", "()I"⟩
def wsX8_link : List Cond := .code yX8_link cX8_link 3 (some (.int)) :: BIG
theorem mC_X8_link : Cond.code yX8_link cX8_link 3 (some (.int)) ∈ BIG := mB (List.mem_of_getElem? (i := 835) (by decide +kernel)) (by decide +kernel)
theorem mI_X8_link : Cond.instanceMethod yX8_link ∈ BIG := mB (List.mem_of_getElem? (i := 833) (by decide +kernel)) (by decide +kernel)
theorem mS_X8_link : Cond.selects RX8 yX8_link yX8_link ∈ BIG := mB (List.mem_of_getElem? (i := 834) (by decide +kernel)) (by decide +kernel)
theorem hd_X8_link : yX8_link.cls ≠ "java/lang/invoke/MethodHandle" ∧ yX8_link.cls ≠ "java/lang/invoke/VarHandle" ∧ (parseMethodDescriptor yX8_link.desc).map (fun d => d.parameters.length) = some 0 := by decide +kernel
abbrev cX8_entriesFor : ByteArray := prog_10_method_32_code
def yX8_entriesFor : MethodName := ⟨RX8, "entriesFor", "(I)I"⟩
def wsX8_entriesFor : List Cond := .code yX8_entriesFor cX8_entriesFor 4 (some (.int)) :: BIG
theorem mC_X8_entriesFor : Cond.code yX8_entriesFor cX8_entriesFor 4 (some (.int)) ∈ BIG := mB (List.mem_of_getElem? (i := 847) (by decide +kernel)) (by decide +kernel)
theorem mI_X8_entriesFor : Cond.instanceMethod yX8_entriesFor ∈ BIG := mB (List.mem_of_getElem? (i := 846) (by decide +kernel)) (by decide +kernel)
theorem mS_X8_entriesFor : Cond.selects RX8 yX8_entriesFor yX8_entriesFor ∈ BIG := mB (List.mem_of_getElem? (i := 32) (by decide +kernel)) (by decide +kernel)
theorem hd_X8_entriesFor : yX8_entriesFor.cls ≠ "java/lang/invoke/MethodHandle" ∧ yX8_entriesFor.cls ≠ "java/lang/invoke/VarHandle" ∧ (parseMethodDescriptor yX8_entriesFor.desc).map (fun d => d.parameters.length) = some 1 := by decide +kernel
abbrev cX8_entriesOf : ByteArray := prog_10_method_33_code
def yX8_entriesOf : MethodName := ⟨RX8, "entriesOf", "(I)I"⟩
def wsX8_entriesOf : List Cond := .code yX8_entriesOf cX8_entriesOf 4 (some (.int)) :: BIG
theorem mC_X8_entriesOf : Cond.code yX8_entriesOf cX8_entriesOf 4 (some (.int)) ∈ BIG := mB (List.mem_of_getElem? (i := 843) (by decide +kernel)) (by decide +kernel)
theorem mI_X8_entriesOf : Cond.instanceMethod yX8_entriesOf ∈ BIG := mB (List.mem_of_getElem? (i := 842) (by decide +kernel)) (by decide +kernel)
theorem mS_X8_entriesOf : Cond.selects RX8 yX8_entriesOf yX8_entriesOf ∈ BIG := mB (List.mem_of_getElem? (i := 31) (by decide +kernel)) (by decide +kernel)
theorem hd_X8_entriesOf : yX8_entriesOf.cls ≠ "java/lang/invoke/MethodHandle" ∧ yX8_entriesOf.cls ≠ "java/lang/invoke/VarHandle" ∧ (parseMethodDescriptor yX8_entriesOf.desc).map (fun d => d.parameters.length) = some 1 := by decide +kernel
abbrev cX8_remove : ByteArray := prog_10_method_34_code
def yX8_remove : MethodName := ⟨RX8, "remove", "()I"⟩
def wsX8_remove : List Cond := .code yX8_remove cX8_remove 5 (some (.int)) :: BIG
theorem mC_X8_remove : Cond.code yX8_remove cX8_remove 5 (some (.int)) ∈ BIG := mB (List.mem_of_getElem? (i := 839) (by decide +kernel)) (by decide +kernel)
theorem mI_X8_remove : Cond.instanceMethod yX8_remove ∈ BIG := mB (List.mem_of_getElem? (i := 837) (by decide +kernel)) (by decide +kernel)
theorem mS_X8_remove : Cond.selects RX8 yX8_remove yX8_remove ∈ BIG := mB (List.mem_of_getElem? (i := 838) (by decide +kernel)) (by decide +kernel)
theorem hd_X8_remove : yX8_remove.cls ≠ "java/lang/invoke/MethodHandle" ∧ yX8_remove.cls ≠ "java/lang/invoke/VarHandle" ∧ (parseMethodDescriptor yX8_remove.desc).map (fun d => d.parameters.length) = some 0 := by decide +kernel
abbrev cX8_volume : ByteArray := prog_10_method_35_code
def yX8_volume : MethodName := ⟨RX8, "volume", "()I"⟩
def wsX8_volume : List Cond := .code yX8_volume cX8_volume 2 (some (.int)) :: BIG
theorem mC_X8_volume : Cond.code yX8_volume cX8_volume 2 (some (.int)) ∈ BIG := mB (List.mem_of_getElem? (i := 851) (by decide +kernel)) (by decide +kernel)
theorem mI_X8_volume : Cond.instanceMethod yX8_volume ∈ BIG := mB (List.mem_of_getElem? (i := 849) (by decide +kernel)) (by decide +kernel)
theorem mS_X8_volume : Cond.selects RX8 yX8_volume yX8_volume ∈ BIG := mB (List.mem_of_getElem? (i := 850) (by decide +kernel)) (by decide +kernel)
theorem hd_X8_volume : yX8_volume.cls ≠ "java/lang/invoke/MethodHandle" ∧ yX8_volume.cls ≠ "java/lang/invoke/VarHandle" ∧ (parseMethodDescriptor yX8_volume.desc).map (fun d => d.parameters.length) = some 0 := by decide +kernel
abbrev cX8_below : ByteArray := prog_10_method_36_code
def yX8_below : MethodName := ⟨RX8, "below", "(II)Z"⟩
def wsX8_below : List Cond := .code yX8_below cX8_below 5 (some (.boolean)) :: BIG
theorem mC_X8_below : Cond.code yX8_below cX8_below 5 (some (.boolean)) ∈ BIG := mB (List.mem_of_getElem? (i := 859) (by decide +kernel)) (by decide +kernel)
theorem mI_X8_below : Cond.instanceMethod yX8_below ∈ BIG := mB (List.mem_of_getElem? (i := 858) (by decide +kernel)) (by decide +kernel)
theorem mS_X8_below : Cond.selects RX8 yX8_below yX8_below ∈ BIG := mB (List.mem_of_getElem? (i := 33) (by decide +kernel)) (by decide +kernel)
theorem hd_X8_below : yX8_below.cls ≠ "java/lang/invoke/MethodHandle" ∧ yX8_below.cls ≠ "java/lang/invoke/VarHandle" ∧ (parseMethodDescriptor yX8_below.desc).map (fun d => d.parameters.length) = some 2 := by decide +kernel
abbrev cX8_mount : ByteArray := prog_10_method_37_code
def yX8_mount : MethodName := ⟨RX8, "mount", "(I)I"⟩
def wsX8_mount : List Cond := .code yX8_mount cX8_mount 3 (some (.int)) :: BIG
theorem mC_X8_mount : Cond.code yX8_mount cX8_mount 3 (some (.int)) ∈ BIG := mB (List.mem_of_getElem? (i := 855) (by decide +kernel)) (by decide +kernel)
theorem mI_X8_mount : Cond.instanceMethod yX8_mount ∈ BIG := mB (List.mem_of_getElem? (i := 853) (by decide +kernel)) (by decide +kernel)
theorem mS_X8_mount : Cond.selects RX8 yX8_mount yX8_mount ∈ BIG := mB (List.mem_of_getElem? (i := 854) (by decide +kernel)) (by decide +kernel)
theorem hd_X8_mount : yX8_mount.cls ≠ "java/lang/invoke/MethodHandle" ∧ yX8_mount.cls ≠ "java/lang/invoke/VarHandle" ∧ (parseMethodDescriptor yX8_mount.desc).map (fun d => d.parameters.length) = some 1 := by decide +kernel
abbrev cX8_unmount : ByteArray := prog_10_method_38_code
def yX8_unmount : MethodName := ⟨RX8, "unmount", "()I"⟩
def wsX8_unmount : List Cond := .code yX8_unmount cX8_unmount 5 (some (.int)) :: BIG
theorem mC_X8_unmount : Cond.code yX8_unmount cX8_unmount 5 (some (.int)) ∈ BIG := mB (List.mem_of_getElem? (i := 863) (by decide +kernel)) (by decide +kernel)
theorem mI_X8_unmount : Cond.instanceMethod yX8_unmount ∈ BIG := mB (List.mem_of_getElem? (i := 861) (by decide +kernel)) (by decide +kernel)
theorem mS_X8_unmount : Cond.selects RX8 yX8_unmount yX8_unmount ∈ BIG := mB (List.mem_of_getElem? (i := 862) (by decide +kernel)) (by decide +kernel)
theorem hd_X8_unmount : yX8_unmount.cls ≠ "java/lang/invoke/MethodHandle" ∧ yX8_unmount.cls ≠ "java/lang/invoke/VarHandle" ∧ (parseMethodDescriptor yX8_unmount.desc).map (fun d => d.parameters.length) = some 0 := by decide +kernel
abbrev cX8_enter : ByteArray := prog_10_method_39_code
def yX8_enter : MethodName := ⟨RX8, "enter", "(Z)I"⟩
def wsX8_enter : List Cond := .code yX8_enter cX8_enter 3 (some (.int)) :: BIG
theorem mC_X8_enter : Cond.code yX8_enter cX8_enter 3 (some (.int)) ∈ BIG := mB (List.mem_of_getElem? (i := 867) (by decide +kernel)) (by decide +kernel)
theorem mI_X8_enter : Cond.instanceMethod yX8_enter ∈ BIG := mB (List.mem_of_getElem? (i := 865) (by decide +kernel)) (by decide +kernel)
theorem mS_X8_enter : Cond.selects RX8 yX8_enter yX8_enter ∈ BIG := mB (List.mem_of_getElem? (i := 866) (by decide +kernel)) (by decide +kernel)
theorem hd_X8_enter : yX8_enter.cls ≠ "java/lang/invoke/MethodHandle" ∧ yX8_enter.cls ≠ "java/lang/invoke/VarHandle" ∧ (parseMethodDescriptor yX8_enter.desc).map (fun d => d.parameters.length) = some 1 := by decide +kernel
abbrev cX8_user : ByteArray := prog_10_method_40_code
def yX8_user : MethodName := ⟨RX8, "user", "(I)Z"⟩
def wsX8_user : List Cond := .code yX8_user cX8_user 2 (some (.boolean)) :: BIG
theorem mC_X8_user : Cond.code yX8_user cX8_user 2 (some (.boolean)) ∈ BIG := mB (List.mem_of_getElem? (i := 871) (by decide +kernel)) (by decide +kernel)
theorem mI_X8_user : Cond.instanceMethod yX8_user ∈ BIG := mB (List.mem_of_getElem? (i := 869) (by decide +kernel)) (by decide +kernel)
theorem mS_X8_user : Cond.selects RX8 yX8_user yX8_user ∈ BIG := mB (List.mem_of_getElem? (i := 870) (by decide +kernel)) (by decide +kernel)
theorem hd_X8_user : yX8_user.cls ≠ "java/lang/invoke/MethodHandle" ∧ yX8_user.cls ≠ "java/lang/invoke/VarHandle" ∧ (parseMethodDescriptor yX8_user.desc).map (fun d => d.parameters.length) = some 1 := by decide +kernel
abbrev cX8_change : ByteArray := prog_10_method_41_code
def yX8_change : MethodName := ⟨RX8, "change", "(I)I"⟩
def wsX8_change : List Cond := .code yX8_change cX8_change 4 (some (.int)) :: BIG
theorem mC_X8_change : Cond.code yX8_change cX8_change 4 (some (.int)) ∈ BIG := mB (List.mem_of_getElem? (i := 875) (by decide +kernel)) (by decide +kernel)
theorem mI_X8_change : Cond.instanceMethod yX8_change ∈ BIG := mB (List.mem_of_getElem? (i := 873) (by decide +kernel)) (by decide +kernel)
theorem mS_X8_change : Cond.selects RX8 yX8_change yX8_change ∈ BIG := mB (List.mem_of_getElem? (i := 874) (by decide +kernel)) (by decide +kernel)
theorem hd_X8_change : yX8_change.cls ≠ "java/lang/invoke/MethodHandle" ∧ yX8_change.cls ≠ "java/lang/invoke/VarHandle" ∧ (parseMethodDescriptor yX8_change.desc).map (fun d => d.parameters.length) = some 1 := by decide +kernel
abbrev cX8_characters : ByteArray := prog_10_method_42_code
def yX8_characters : MethodName := ⟨RX8, "characters", "(J)I"⟩
def wsX8_characters : List Cond := .code yX8_characters cX8_characters 5 (some (.int)) :: BIG
theorem mC_X8_characters : Cond.code yX8_characters cX8_characters 5 (some (.int)) ∈ BIG := mB (List.mem_of_getElem? (i := 886) (by decide +kernel)) (by decide +kernel)
theorem mT_X8_characters : Cond.static yX8_characters ∈ BIG := mB (List.mem_of_getElem? (i := 885) (by decide +kernel)) (by decide +kernel)
theorem hd_X8_characters : yX8_characters.cls ≠ "java/lang/invoke/MethodHandle" ∧ yX8_characters.cls ≠ "java/lang/invoke/VarHandle" ∧ (parseMethodDescriptor yX8_characters.desc).map (fun d => d.parameters.length) = some 1 := by decide +kernel
abbrev cX8_nameOf : ByteArray := prog_10_method_43_code
def yX8_nameOf : MethodName := ⟨RX8, "nameOf", "(I)J"⟩
def wsX8_nameOf : List Cond := .code yX8_nameOf cX8_nameOf 3 (some (.long)) :: BIG
theorem mC_X8_nameOf : Cond.code yX8_nameOf cX8_nameOf 3 (some (.long)) ∈ BIG := mB (List.mem_of_getElem? (i := 883) (by decide +kernel)) (by decide +kernel)
theorem mI_X8_nameOf : Cond.instanceMethod yX8_nameOf ∈ BIG := mB (List.mem_of_getElem? (i := 882) (by decide +kernel)) (by decide +kernel)
theorem mS_X8_nameOf : Cond.selects RX8 yX8_nameOf yX8_nameOf ∈ BIG := mB (List.mem_of_getElem? (i := 34) (by decide +kernel)) (by decide +kernel)
theorem hd_X8_nameOf : yX8_nameOf.cls ≠ "java/lang/invoke/MethodHandle" ∧ yX8_nameOf.cls ≠ "java/lang/invoke/VarHandle" ∧ (parseMethodDescriptor yX8_nameOf.desc).map (fun d => d.parameters.length) = some 1 := by decide +kernel
abbrev cX8_path : ByteArray := prog_10_method_44_code
def yX8_path : MethodName := ⟨RX8, "path", "()I"⟩
def wsX8_path : List Cond := .code yX8_path cX8_path 6 (some (.int)) :: BIG
theorem mC_X8_path : Cond.code yX8_path cX8_path 6 (some (.int)) ∈ BIG := mB (List.mem_of_getElem? (i := 879) (by decide +kernel)) (by decide +kernel)
theorem mI_X8_path : Cond.instanceMethod yX8_path ∈ BIG := mB (List.mem_of_getElem? (i := 877) (by decide +kernel)) (by decide +kernel)
theorem mS_X8_path : Cond.selects RX8 yX8_path yX8_path ∈ BIG := mB (List.mem_of_getElem? (i := 878) (by decide +kernel)) (by decide +kernel)
theorem hd_X8_path : yX8_path.cls ≠ "java/lang/invoke/MethodHandle" ∧ yX8_path.cls ≠ "java/lang/invoke/VarHandle" ∧ (parseMethodDescriptor yX8_path.desc).map (fun d => d.parameters.length) = some 0 := by decide +kernel
abbrev cX8_kind : ByteArray := prog_10_method_45_code
def yX8_kind : MethodName := ⟨RX8, "kind", "(I)I"⟩
def wsX8_kind : List Cond := .code yX8_kind cX8_kind 2 (some (.int)) :: BIG
theorem mC_X8_kind : Cond.code yX8_kind cX8_kind 2 (some (.int)) ∈ BIG := mB (List.mem_of_getElem? (i := 891) (by decide +kernel)) (by decide +kernel)
theorem mI_X8_kind : Cond.instanceMethod yX8_kind ∈ BIG := mB (List.mem_of_getElem? (i := 889) (by decide +kernel)) (by decide +kernel)
theorem mS_X8_kind : Cond.selects RX8 yX8_kind yX8_kind ∈ BIG := mB (List.mem_of_getElem? (i := 890) (by decide +kernel)) (by decide +kernel)
theorem hd_X8_kind : yX8_kind.cls ≠ "java/lang/invoke/MethodHandle" ∧ yX8_kind.cls ≠ "java/lang/invoke/VarHandle" ∧ (parseMethodDescriptor yX8_kind.desc).map (fun d => d.parameters.length) = some 1 := by decide +kernel
abbrev cX8_about : ByteArray := prog_10_method_46_code
def yX8_about : MethodName := ⟨RX8, "about", "(II)I"⟩
def wsX8_about : List Cond := .code yX8_about cX8_about 3 (some (.int)) :: BIG
theorem mC_X8_about : Cond.code yX8_about cX8_about 3 (some (.int)) ∈ BIG := mB (List.mem_of_getElem? (i := 899) (by decide +kernel)) (by decide +kernel)
theorem mI_X8_about : Cond.instanceMethod yX8_about ∈ BIG := mB (List.mem_of_getElem? (i := 897) (by decide +kernel)) (by decide +kernel)
theorem mS_X8_about : Cond.selects RX8 yX8_about yX8_about ∈ BIG := mB (List.mem_of_getElem? (i := 898) (by decide +kernel)) (by decide +kernel)
theorem hd_X8_about : yX8_about.cls ≠ "java/lang/invoke/MethodHandle" ∧ yX8_about.cls ≠ "java/lang/invoke/VarHandle" ∧ (parseMethodDescriptor yX8_about.desc).map (fun d => d.parameters.length) = some 2 := by decide +kernel
abbrev cX8_entry : ByteArray := prog_10_method_47_code
def yX8_entry : MethodName := ⟨RX8, "entry", "(II)I"⟩
def wsX8_entry : List Cond := .code yX8_entry cX8_entry 5 (some (.int)) :: BIG
theorem mC_X8_entry : Cond.code yX8_entry cX8_entry 5 (some (.int)) ∈ BIG := mB (List.mem_of_getElem? (i := 903) (by decide +kernel)) (by decide +kernel)
theorem mI_X8_entry : Cond.instanceMethod yX8_entry ∈ BIG := mB (List.mem_of_getElem? (i := 901) (by decide +kernel)) (by decide +kernel)
theorem mS_X8_entry : Cond.selects RX8 yX8_entry yX8_entry ∈ BIG := mB (List.mem_of_getElem? (i := 902) (by decide +kernel)) (by decide +kernel)
theorem hd_X8_entry : yX8_entry.cls ≠ "java/lang/invoke/MethodHandle" ∧ yX8_entry.cls ≠ "java/lang/invoke/VarHandle" ∧ (parseMethodDescriptor yX8_entry.desc).map (fun d => d.parameters.length) = some 2 := by decide +kernel
abbrev cX0_init : ByteArray := prog_2_method_1_code
def yX0_init : MethodName := ⟨RX0, "<init>", "()V"⟩
def wsX0_init : List Cond := .code yX0_init cX0_init 1 (none) :: BIG
theorem mC_X0_init : Cond.code yX0_init cX0_init 1 (none) ∈ BIG := mB (List.mem_of_getElem? (i := 115) (by decide +kernel)) (by decide +kernel)
theorem mI_X0_init : Cond.instanceMethod yX0_init ∈ BIG := mB (List.mem_of_getElem? (i := 114) (by decide +kernel)) (by decide +kernel)
theorem hd_X0_init : yX0_init.cls ≠ "java/lang/invoke/MethodHandle" ∧ yX0_init.cls ≠ "java/lang/invoke/VarHandle" ∧ (parseMethodDescriptor yX0_init.desc).map (fun d => d.parameters.length) = some 0 := by decide +kernel
abbrev cX0_isFull : ByteArray := prog_2_method_2_code
def yX0_isFull : MethodName := ⟨RX0, "isFull", "()Z"⟩
def wsX0_isFull : List Cond := .code yX0_isFull cX0_isFull 1 (some (.boolean)) :: BIG
theorem mC_X0_isFull : Cond.code yX0_isFull cX0_isFull 1 (some (.boolean)) ∈ BIG := mB (List.mem_of_getElem? (i := 472) (by decide +kernel)) (by decide +kernel)
theorem mI_X0_isFull : Cond.instanceMethod yX0_isFull ∈ BIG := mB (List.mem_of_getElem? (i := 470) (by decide +kernel)) (by decide +kernel)
theorem mS_X0_isFull : Cond.selects RX0 yX0_isFull yX0_isFull ∈ BIG := mB (List.mem_of_getElem? (i := 471) (by decide +kernel)) (by decide +kernel)
theorem hd_X0_isFull : yX0_isFull.cls ≠ "java/lang/invoke/MethodHandle" ∧ yX0_isFull.cls ≠ "java/lang/invoke/VarHandle" ∧ (parseMethodDescriptor yX0_isFull.desc).map (fun d => d.parameters.length) = some 0 := by decide +kernel
abbrev cX0_add : ByteArray := prog_2_method_3_code
def yX0_add : MethodName := ⟨RX0, "add", "(IJI)V"⟩
def wsX0_add : List Cond := .code yX0_add cX0_add 5 (none) :: BIG
theorem mC_X0_add : Cond.code yX0_add cX0_add 5 (none) ∈ BIG := mB (List.mem_of_getElem? (i := 490) (by decide +kernel)) (by decide +kernel)
theorem mI_X0_add : Cond.instanceMethod yX0_add ∈ BIG := mB (List.mem_of_getElem? (i := 488) (by decide +kernel)) (by decide +kernel)
theorem mS_X0_add : Cond.selects RX0 yX0_add yX0_add ∈ BIG := mB (List.mem_of_getElem? (i := 489) (by decide +kernel)) (by decide +kernel)
theorem hd_X0_add : yX0_add.cls ≠ "java/lang/invoke/MethodHandle" ∧ yX0_add.cls ≠ "java/lang/invoke/VarHandle" ∧ (parseMethodDescriptor yX0_add.desc).map (fun d => d.parameters.length) = some 3 := by decide +kernel
abbrev cX0_drop : ByteArray := prog_2_method_4_code
def yX0_drop : MethodName := ⟨RX0, "drop", "(I)V"⟩
def wsX0_drop : List Cond := .code yX0_drop cX0_drop 3 (none) :: BIG
theorem mC_X0_drop : Cond.code yX0_drop cX0_drop 3 (none) ∈ BIG := mB (List.mem_of_getElem? (i := 513) (by decide +kernel)) (by decide +kernel)
theorem mI_X0_drop : Cond.instanceMethod yX0_drop ∈ BIG := mB (List.mem_of_getElem? (i := 511) (by decide +kernel)) (by decide +kernel)
theorem mS_X0_drop : Cond.selects RX0 yX0_drop yX0_drop ∈ BIG := mB (List.mem_of_getElem? (i := 512) (by decide +kernel)) (by decide +kernel)
theorem hd_X0_drop : yX0_drop.cls ≠ "java/lang/invoke/MethodHandle" ∧ yX0_drop.cls ≠ "java/lang/invoke/VarHandle" ∧ (parseMethodDescriptor yX0_drop.desc).map (fun d => d.parameters.length) = some 1 := by decide +kernel
abbrev cX0_object : ByteArray := prog_2_method_5_code
def yX0_object : MethodName := ⟨RX0, "object", "(I)I"⟩
def wsX0_object : List Cond := .code yX0_object cX0_object 2 (some (.int)) :: BIG
theorem mC_X0_object : Cond.code yX0_object cX0_object 2 (some (.int)) ∈ BIG := mB (List.mem_of_getElem? (i := 409) (by decide +kernel)) (by decide +kernel)
theorem mI_X0_object : Cond.instanceMethod yX0_object ∈ BIG := mB (List.mem_of_getElem? (i := 407) (by decide +kernel)) (by decide +kernel)
theorem mS_X0_object : Cond.selects RX0 yX0_object yX0_object ∈ BIG := mB (List.mem_of_getElem? (i := 408) (by decide +kernel)) (by decide +kernel)
theorem hd_X0_object : yX0_object.cls ≠ "java/lang/invoke/MethodHandle" ∧ yX0_object.cls ≠ "java/lang/invoke/VarHandle" ∧ (parseMethodDescriptor yX0_object.desc).map (fun d => d.parameters.length) = some 1 := by decide +kernel
abbrev cX0_find : ByteArray := prog_2_method_6_code
def yX0_find : MethodName := ⟨RX0, "find", "(IJ)I"⟩
def wsX0_find : List Cond := .code yX0_find cX0_find 5 (some (.int)) :: BIG
theorem mC_X0_find : Cond.code yX0_find cX0_find 5 (some (.int)) ∈ BIG := mB (List.mem_of_getElem? (i := 405) (by decide +kernel)) (by decide +kernel)
theorem mI_X0_find : Cond.instanceMethod yX0_find ∈ BIG := mB (List.mem_of_getElem? (i := 403) (by decide +kernel)) (by decide +kernel)
theorem mS_X0_find : Cond.selects RX0 yX0_find yX0_find ∈ BIG := mB (List.mem_of_getElem? (i := 404) (by decide +kernel)) (by decide +kernel)
theorem hd_X0_find : yX0_find.cls ≠ "java/lang/invoke/MethodHandle" ∧ yX0_find.cls ≠ "java/lang/invoke/VarHandle" ∧ (parseMethodDescriptor yX0_find.desc).map (fun d => d.parameters.length) = some 2 := by decide +kernel
abbrev cX0_findNth : ByteArray := prog_2_method_7_code
def yX0_findNth : MethodName := ⟨RX0, "findNth", "(II)I"⟩
def wsX0_findNth : List Cond := .code yX0_findNth cX0_findNth 5 (some (.int)) :: BIG
theorem mC_X0_findNth : Cond.code yX0_findNth cX0_findNth 5 (some (.int)) ∈ BIG := mB (List.mem_of_getElem? (i := 622) (by decide +kernel)) (by decide +kernel)
theorem mI_X0_findNth : Cond.instanceMethod yX0_findNth ∈ BIG := mB (List.mem_of_getElem? (i := 620) (by decide +kernel)) (by decide +kernel)
theorem mS_X0_findNth : Cond.selects RX0 yX0_findNth yX0_findNth ∈ BIG := mB (List.mem_of_getElem? (i := 621) (by decide +kernel)) (by decide +kernel)
theorem hd_X0_findNth : yX0_findNth.cls ≠ "java/lang/invoke/MethodHandle" ∧ yX0_findNth.cls ≠ "java/lang/invoke/VarHandle" ∧ (parseMethodDescriptor yX0_findNth.desc).map (fun d => d.parameters.length) = some 2 := by decide +kernel
abbrev cX0_nameFor : ByteArray := prog_2_method_8_code
def yX0_nameFor : MethodName := ⟨RX0, "nameFor", "(I)J"⟩
def wsX0_nameFor : List Cond := .code yX0_nameFor cX0_nameFor 3 (some (.long)) :: BIG
theorem mC_X0_nameFor : Cond.code yX0_nameFor cX0_nameFor 3 (some (.long)) ∈ BIG := mB (List.mem_of_getElem? (i := 592) (by decide +kernel)) (by decide +kernel)
theorem mI_X0_nameFor : Cond.instanceMethod yX0_nameFor ∈ BIG := mB (List.mem_of_getElem? (i := 590) (by decide +kernel)) (by decide +kernel)
theorem mS_X0_nameFor : Cond.selects RX0 yX0_nameFor yX0_nameFor ∈ BIG := mB (List.mem_of_getElem? (i := 591) (by decide +kernel)) (by decide +kernel)
theorem hd_X0_nameFor : yX0_nameFor.cls ≠ "java/lang/invoke/MethodHandle" ∧ yX0_nameFor.cls ≠ "java/lang/invoke/VarHandle" ∧ (parseMethodDescriptor yX0_nameFor.desc).map (fun d => d.parameters.length) = some 1 := by decide +kernel
abbrev cX0_countFor : ByteArray := prog_2_method_9_code
def yX0_countFor : MethodName := ⟨RX0, "countFor", "(I)I"⟩
def wsX0_countFor : List Cond := .code yX0_countFor cX0_countFor 4 (some (.int)) :: BIG
theorem mC_X0_countFor : Cond.code yX0_countFor cX0_countFor 4 (some (.int)) ∈ BIG := mB (List.mem_of_getElem? (i := 517) (by decide +kernel)) (by decide +kernel)
theorem mI_X0_countFor : Cond.instanceMethod yX0_countFor ∈ BIG := mB (List.mem_of_getElem? (i := 515) (by decide +kernel)) (by decide +kernel)
theorem mS_X0_countFor : Cond.selects RX0 yX0_countFor yX0_countFor ∈ BIG := mB (List.mem_of_getElem? (i := 516) (by decide +kernel)) (by decide +kernel)
theorem hd_X0_countFor : yX0_countFor.cls ≠ "java/lang/invoke/MethodHandle" ∧ yX0_countFor.cls ≠ "java/lang/invoke/VarHandle" ∧ (parseMethodDescriptor yX0_countFor.desc).map (fun d => d.parameters.length) = some 1 := by decide +kernel
abbrev cX0_countIn : ByteArray := prog_2_method_10_code
def yX0_countIn : MethodName := ⟨RX0, "countIn", "(I)I"⟩
def wsX0_countIn : List Cond := .code yX0_countIn cX0_countIn 4 (some (.int)) :: BIG
theorem mC_X0_countIn : Cond.code yX0_countIn cX0_countIn 4 (some (.int)) ∈ BIG := mB (List.mem_of_getElem? (i := 509) (by decide +kernel)) (by decide +kernel)
theorem mI_X0_countIn : Cond.instanceMethod yX0_countIn ∈ BIG := mB (List.mem_of_getElem? (i := 507) (by decide +kernel)) (by decide +kernel)
theorem mS_X0_countIn : Cond.selects RX0 yX0_countIn yX0_countIn ∈ BIG := mB (List.mem_of_getElem? (i := 508) (by decide +kernel)) (by decide +kernel)
theorem hd_X0_countIn : yX0_countIn.cls ≠ "java/lang/invoke/MethodHandle" ∧ yX0_countIn.cls ≠ "java/lang/invoke/VarHandle" ∧ (parseMethodDescriptor yX0_countIn.desc).map (fun d => d.parameters.length) = some 1 := by decide +kernel
abbrev cX1_init : ByteArray := prog_3_method_1_code
def yX1_init : MethodName := ⟨RX1, "<init>", "()V"⟩
def wsX1_init : List Cond := .code yX1_init cX1_init 1 (none) :: BIG
theorem mC_X1_init : Cond.code yX1_init cX1_init 1 (none) ∈ BIG := mB (List.mem_of_getElem? (i := 60) (by decide +kernel)) (by decide +kernel)
theorem mI_X1_init : Cond.instanceMethod yX1_init ∈ BIG := mB (List.mem_of_getElem? (i := 59) (by decide +kernel)) (by decide +kernel)
theorem hd_X1_init : yX1_init.cls ≠ "java/lang/invoke/MethodHandle" ∧ yX1_init.cls ≠ "java/lang/invoke/VarHandle" ∧ (parseMethodDescriptor yX1_init.desc).map (fun d => d.parameters.length) = some 0 := by decide +kernel
abbrev cX1_clear : ByteArray := prog_3_method_2_code
def yX1_clear : MethodName := ⟨RX1, "clear", "()V"⟩
def wsX1_clear : List Cond := .code yX1_clear cX1_clear 1 (none) :: BIG
theorem mC_X1_clear : Cond.code yX1_clear cX1_clear 1 (none) ∈ BIG := mB (List.mem_of_getElem? (i := 266) (by decide +kernel)) (by decide +kernel)
theorem mI_X1_clear : Cond.instanceMethod yX1_clear ∈ BIG := mB (List.mem_of_getElem? (i := 264) (by decide +kernel)) (by decide +kernel)
theorem mS_X1_clear : Cond.selects RX1 yX1_clear yX1_clear ∈ BIG := mB (List.mem_of_getElem? (i := 265) (by decide +kernel)) (by decide +kernel)
theorem hd_X1_clear : yX1_clear.cls ≠ "java/lang/invoke/MethodHandle" ∧ yX1_clear.cls ≠ "java/lang/invoke/VarHandle" ∧ (parseMethodDescriptor yX1_clear.desc).map (fun d => d.parameters.length) = some 0 := by decide +kernel
abbrev cX1_size : ByteArray := prog_3_method_3_code
def yX1_size : MethodName := ⟨RX1, "size", "()I"⟩
def wsX1_size : List Cond := .code yX1_size cX1_size 1 (some (.int)) :: BIG
theorem mC_X1_size : Cond.code yX1_size cX1_size 1 (some (.int)) ∈ BIG := mB (List.mem_of_getElem? (i := 285) (by decide +kernel)) (by decide +kernel)
theorem mI_X1_size : Cond.instanceMethod yX1_size ∈ BIG := mB (List.mem_of_getElem? (i := 283) (by decide +kernel)) (by decide +kernel)
theorem mS_X1_size : Cond.selects RX1 yX1_size yX1_size ∈ BIG := mB (List.mem_of_getElem? (i := 284) (by decide +kernel)) (by decide +kernel)
theorem hd_X1_size : yX1_size.cls ≠ "java/lang/invoke/MethodHandle" ∧ yX1_size.cls ≠ "java/lang/invoke/VarHandle" ∧ (parseMethodDescriptor yX1_size.desc).map (fun d => d.parameters.length) = some 0 := by decide +kernel
abbrev cX1_isEmpty : ByteArray := prog_3_method_4_code
def yX1_isEmpty : MethodName := ⟨RX1, "isEmpty", "()Z"⟩
def wsX1_isEmpty : List Cond := .code yX1_isEmpty cX1_isEmpty 1 (some (.boolean)) :: BIG
theorem mC_X1_isEmpty : Cond.code yX1_isEmpty cX1_isEmpty 1 (some (.boolean)) ∈ BIG := mB (List.mem_of_getElem? (i := 305) (by decide +kernel)) (by decide +kernel)
theorem mI_X1_isEmpty : Cond.instanceMethod yX1_isEmpty ∈ BIG := mB (List.mem_of_getElem? (i := 303) (by decide +kernel)) (by decide +kernel)
theorem mS_X1_isEmpty : Cond.selects RX1 yX1_isEmpty yX1_isEmpty ∈ BIG := mB (List.mem_of_getElem? (i := 304) (by decide +kernel)) (by decide +kernel)
theorem hd_X1_isEmpty : yX1_isEmpty.cls ≠ "java/lang/invoke/MethodHandle" ∧ yX1_isEmpty.cls ≠ "java/lang/invoke/VarHandle" ∧ (parseMethodDescriptor yX1_isEmpty.desc).map (fun d => d.parameters.length) = some 0 := by decide +kernel
abbrev cX1_hasRoom : ByteArray := prog_3_method_5_code
def yX1_hasRoom : MethodName := ⟨RX1, "hasRoom", "(I)Z"⟩
def wsX1_hasRoom : List Cond := .code yX1_hasRoom cX1_hasRoom 2 (some (.boolean)) :: BIG
theorem mC_X1_hasRoom : Cond.code yX1_hasRoom cX1_hasRoom 2 (some (.boolean)) ∈ BIG := mB (List.mem_of_getElem? (i := 254) (by decide +kernel)) (by decide +kernel)
theorem mI_X1_hasRoom : Cond.instanceMethod yX1_hasRoom ∈ BIG := mB (List.mem_of_getElem? (i := 252) (by decide +kernel)) (by decide +kernel)
theorem mS_X1_hasRoom : Cond.selects RX1 yX1_hasRoom yX1_hasRoom ∈ BIG := mB (List.mem_of_getElem? (i := 253) (by decide +kernel)) (by decide +kernel)
theorem hd_X1_hasRoom : yX1_hasRoom.cls ≠ "java/lang/invoke/MethodHandle" ∧ yX1_hasRoom.cls ≠ "java/lang/invoke/VarHandle" ∧ (parseMethodDescriptor yX1_hasRoom.desc).map (fun d => d.parameters.length) = some 1 := by decide +kernel
abbrev cX1_append : ByteArray := prog_3_method_6_code
def yX1_append : MethodName := ⟨RX1, "append", "(C)V"⟩
def wsX1_append : List Cond := .code yX1_append cX1_append 2 (none) :: BIG
theorem mC_X1_append : Cond.code yX1_append cX1_append 2 (none) ∈ BIG := mB (List.mem_of_getElem? (i := 258) (by decide +kernel)) (by decide +kernel)
theorem mI_X1_append : Cond.instanceMethod yX1_append ∈ BIG := mB (List.mem_of_getElem? (i := 256) (by decide +kernel)) (by decide +kernel)
theorem mS_X1_append : Cond.selects RX1 yX1_append yX1_append ∈ BIG := mB (List.mem_of_getElem? (i := 257) (by decide +kernel)) (by decide +kernel)
theorem hd_X1_append : yX1_append.cls ≠ "java/lang/invoke/MethodHandle" ∧ yX1_append.cls ≠ "java/lang/invoke/VarHandle" ∧ (parseMethodDescriptor yX1_append.desc).map (fun d => d.parameters.length) = some 1 := by decide +kernel
abbrev cX1_mark : ByteArray := prog_3_method_7_code
def yX1_mark : MethodName := ⟨RX1, "mark", "(I)C"⟩
def wsX1_mark : List Cond := .code yX1_mark cX1_mark 2 (some (.char)) :: BIG
theorem mC_X1_mark : Cond.code yX1_mark cX1_mark 2 (some (.char)) ∈ BIG := mB (List.mem_of_getElem? (i := 293) (by decide +kernel)) (by decide +kernel)
theorem mI_X1_mark : Cond.instanceMethod yX1_mark ∈ BIG := mB (List.mem_of_getElem? (i := 291) (by decide +kernel)) (by decide +kernel)
theorem mS_X1_mark : Cond.selects RX1 yX1_mark yX1_mark ∈ BIG := mB (List.mem_of_getElem? (i := 292) (by decide +kernel)) (by decide +kernel)
theorem hd_X1_mark : yX1_mark.cls ≠ "java/lang/invoke/MethodHandle" ∧ yX1_mark.cls ≠ "java/lang/invoke/VarHandle" ∧ (parseMethodDescriptor yX1_mark.desc).map (fun d => d.parameters.length) = some 1 := by decide +kernel
abbrev cX1_copy : ByteArray := prog_3_method_8_code
def yX1_copy : MethodName := ⟨RX1, "copy", "(LMountedPaths$Line;)V"⟩
def wsX1_copy : List Cond := .code yX1_copy cX1_copy 2 (none) :: BIG
theorem mC_X1_copy : Cond.code yX1_copy cX1_copy 2 (none) ∈ BIG := mB (List.mem_of_getElem? (i := 274) (by decide +kernel)) (by decide +kernel)
theorem mI_X1_copy : Cond.instanceMethod yX1_copy ∈ BIG := mB (List.mem_of_getElem? (i := 272) (by decide +kernel)) (by decide +kernel)
theorem mS_X1_copy : Cond.selects RX1 yX1_copy yX1_copy ∈ BIG := mB (List.mem_of_getElem? (i := 273) (by decide +kernel)) (by decide +kernel)
theorem hd_X1_copy : yX1_copy.cls ≠ "java/lang/invoke/MethodHandle" ∧ yX1_copy.cls ≠ "java/lang/invoke/VarHandle" ∧ (parseMethodDescriptor yX1_copy.desc).map (fun d => d.parameters.length) = some 1 := by decide +kernel
abbrev cX1_hasSlashesAlone : ByteArray := prog_3_method_9_code
def yX1_hasSlashesAlone : MethodName := ⟨RX1, "hasSlashesAlone", "()Z"⟩
def wsX1_hasSlashesAlone : List Cond := .code yX1_hasSlashesAlone cX1_hasSlashesAlone 2 (some (.boolean)) :: BIG
theorem mC_X1_hasSlashesAlone : Cond.code yX1_hasSlashesAlone cX1_hasSlashesAlone 2 (some (.boolean)) ∈ BIG := mB (List.mem_of_getElem? (i := 442) (by decide +kernel)) (by decide +kernel)
theorem mI_X1_hasSlashesAlone : Cond.instanceMethod yX1_hasSlashesAlone ∈ BIG := mB (List.mem_of_getElem? (i := 440) (by decide +kernel)) (by decide +kernel)
theorem mS_X1_hasSlashesAlone : Cond.selects RX1 yX1_hasSlashesAlone yX1_hasSlashesAlone ∈ BIG := mB (List.mem_of_getElem? (i := 441) (by decide +kernel)) (by decide +kernel)
theorem hd_X1_hasSlashesAlone : yX1_hasSlashesAlone.cls ≠ "java/lang/invoke/MethodHandle" ∧ yX1_hasSlashesAlone.cls ≠ "java/lang/invoke/VarHandle" ∧ (parseMethodDescriptor yX1_hasSlashesAlone.desc).map (fun d => d.parameters.length) = some 0 := by decide +kernel
abbrev cX2_init : ByteArray := prog_4_method_1_code
def yX2_init : MethodName := ⟨RX2, "<init>", "()V"⟩
def wsX2_init : List Cond := .code yX2_init cX2_init 1 (none) :: BIG
theorem mC_X2_init : Cond.code yX2_init cX2_init 1 (none) ∈ BIG := mB (List.mem_of_getElem? (i := 74) (by decide +kernel)) (by decide +kernel)
theorem mI_X2_init : Cond.instanceMethod yX2_init ∈ BIG := mB (List.mem_of_getElem? (i := 73) (by decide +kernel)) (by decide +kernel)
theorem hd_X2_init : yX2_init.cls ≠ "java/lang/invoke/MethodHandle" ∧ yX2_init.cls ≠ "java/lang/invoke/VarHandle" ∧ (parseMethodDescriptor yX2_init.desc).map (fun d => d.parameters.length) = some 0 := by decide +kernel
abbrev cX2_clear : ByteArray := prog_4_method_2_code
def yX2_clear : MethodName := ⟨RX2, "clear", "()V"⟩
def wsX2_clear : List Cond := .code yX2_clear cX2_clear 1 (none) :: BIG
theorem mC_X2_clear : Cond.code yX2_clear cX2_clear 1 (none) ∈ BIG := mB (List.mem_of_getElem? (i := 313) (by decide +kernel)) (by decide +kernel)
theorem mI_X2_clear : Cond.instanceMethod yX2_clear ∈ BIG := mB (List.mem_of_getElem? (i := 311) (by decide +kernel)) (by decide +kernel)
theorem mS_X2_clear : Cond.selects RX2 yX2_clear yX2_clear ∈ BIG := mB (List.mem_of_getElem? (i := 312) (by decide +kernel)) (by decide +kernel)
theorem hd_X2_clear : yX2_clear.cls ≠ "java/lang/invoke/MethodHandle" ∧ yX2_clear.cls ≠ "java/lang/invoke/VarHandle" ∧ (parseMethodDescriptor yX2_clear.desc).map (fun d => d.parameters.length) = some 0 := by decide +kernel
abbrev cX2_size : ByteArray := prog_4_method_3_code
def yX2_size : MethodName := ⟨RX2, "size", "()I"⟩
def wsX2_size : List Cond := .code yX2_size cX2_size 1 (some (.int)) :: BIG
theorem mC_X2_size : Cond.code yX2_size cX2_size 1 (some (.int)) ∈ BIG := mB (List.mem_of_getElem? (i := 347) (by decide +kernel)) (by decide +kernel)
theorem mI_X2_size : Cond.instanceMethod yX2_size ∈ BIG := mB (List.mem_of_getElem? (i := 345) (by decide +kernel)) (by decide +kernel)
theorem mS_X2_size : Cond.selects RX2 yX2_size yX2_size ∈ BIG := mB (List.mem_of_getElem? (i := 346) (by decide +kernel)) (by decide +kernel)
theorem hd_X2_size : yX2_size.cls ≠ "java/lang/invoke/MethodHandle" ∧ yX2_size.cls ≠ "java/lang/invoke/VarHandle" ∧ (parseMethodDescriptor yX2_size.desc).map (fun d => d.parameters.length) = some 0 := by decide +kernel
abbrev cX2_isEmpty : ByteArray := prog_4_method_4_code
def yX2_isEmpty : MethodName := ⟨RX2, "isEmpty", "()Z"⟩
def wsX2_isEmpty : List Cond := .code yX2_isEmpty cX2_isEmpty 1 (some (.boolean)) :: BIG
theorem mC_X2_isEmpty : Cond.code yX2_isEmpty cX2_isEmpty 1 (some (.boolean)) ∈ BIG := mB (List.mem_of_getElem? (i := 339) (by decide +kernel)) (by decide +kernel)
theorem mI_X2_isEmpty : Cond.instanceMethod yX2_isEmpty ∈ BIG := mB (List.mem_of_getElem? (i := 337) (by decide +kernel)) (by decide +kernel)
theorem mS_X2_isEmpty : Cond.selects RX2 yX2_isEmpty yX2_isEmpty ∈ BIG := mB (List.mem_of_getElem? (i := 338) (by decide +kernel)) (by decide +kernel)
theorem hd_X2_isEmpty : yX2_isEmpty.cls ≠ "java/lang/invoke/MethodHandle" ∧ yX2_isEmpty.cls ≠ "java/lang/invoke/VarHandle" ∧ (parseMethodDescriptor yX2_isEmpty.desc).map (fun d => d.parameters.length) = some 0 := by decide +kernel
abbrev cX2_beginsWithSlash : ByteArray := prog_4_method_5_code
def yX2_beginsWithSlash : MethodName := ⟨RX2, "beginsWithSlash", "()Z"⟩
def wsX2_beginsWithSlash : List Cond := .code yX2_beginsWithSlash cX2_beginsWithSlash 1 (some (.boolean)) :: BIG
theorem mC_X2_beginsWithSlash : Cond.code yX2_beginsWithSlash cX2_beginsWithSlash 1 (some (.boolean)) ∈ BIG := mB (List.mem_of_getElem? (i := 327) (by decide +kernel)) (by decide +kernel)
theorem mI_X2_beginsWithSlash : Cond.instanceMethod yX2_beginsWithSlash ∈ BIG := mB (List.mem_of_getElem? (i := 325) (by decide +kernel)) (by decide +kernel)
theorem mS_X2_beginsWithSlash : Cond.selects RX2 yX2_beginsWithSlash yX2_beginsWithSlash ∈ BIG := mB (List.mem_of_getElem? (i := 326) (by decide +kernel)) (by decide +kernel)
theorem hd_X2_beginsWithSlash : yX2_beginsWithSlash.cls ≠ "java/lang/invoke/MethodHandle" ∧ yX2_beginsWithSlash.cls ≠ "java/lang/invoke/VarHandle" ∧ (parseMethodDescriptor yX2_beginsWithSlash.desc).map (fun d => d.parameters.length) = some 0 := by decide +kernel
abbrev cX2_hasSlashesAlone : ByteArray := prog_4_method_6_code
def yX2_hasSlashesAlone : MethodName := ⟨RX2, "hasSlashesAlone", "()Z"⟩
def wsX2_hasSlashesAlone : List Cond := .code yX2_hasSlashesAlone cX2_hasSlashesAlone 2 (some (.boolean)) :: BIG
theorem mC_X2_hasSlashesAlone : Cond.code yX2_hasSlashesAlone cX2_hasSlashesAlone 2 (some (.boolean)) ∈ BIG := mB (List.mem_of_getElem? (i := 351) (by decide +kernel)) (by decide +kernel)
theorem mI_X2_hasSlashesAlone : Cond.instanceMethod yX2_hasSlashesAlone ∈ BIG := mB (List.mem_of_getElem? (i := 349) (by decide +kernel)) (by decide +kernel)
theorem mS_X2_hasSlashesAlone : Cond.selects RX2 yX2_hasSlashesAlone yX2_hasSlashesAlone ∈ BIG := mB (List.mem_of_getElem? (i := 350) (by decide +kernel)) (by decide +kernel)
theorem hd_X2_hasSlashesAlone : yX2_hasSlashesAlone.cls ≠ "java/lang/invoke/MethodHandle" ∧ yX2_hasSlashesAlone.cls ≠ "java/lang/invoke/VarHandle" ∧ (parseMethodDescriptor yX2_hasSlashesAlone.desc).map (fun d => d.parameters.length) = some 0 := by decide +kernel
abbrev cX2_take : ByteArray := prog_4_method_7_code
def yX2_take : MethodName := ⟨RX2, "take", "()C"⟩
def wsX2_take : List Cond := .code yX2_take cX2_take 2 (some (.char)) :: BIG
theorem mC_X2_take : Cond.code yX2_take cX2_take 2 (some (.char)) ∈ BIG := mB (List.mem_of_getElem? (i := 335) (by decide +kernel)) (by decide +kernel)
theorem mI_X2_take : Cond.instanceMethod yX2_take ∈ BIG := mB (List.mem_of_getElem? (i := 333) (by decide +kernel)) (by decide +kernel)
theorem mS_X2_take : Cond.selects RX2 yX2_take yX2_take ∈ BIG := mB (List.mem_of_getElem? (i := 334) (by decide +kernel)) (by decide +kernel)
theorem hd_X2_take : yX2_take.cls ≠ "java/lang/invoke/MethodHandle" ∧ yX2_take.cls ≠ "java/lang/invoke/VarHandle" ∧ (parseMethodDescriptor yX2_take.desc).map (fun d => d.parameters.length) = some 0 := by decide +kernel
abbrev cX2_putBefore : ByteArray := prog_4_method_8_code
def yX2_putBefore : MethodName := ⟨RX2, "putBefore", "(C)V"⟩
def wsX2_putBefore : List Cond := .code yX2_putBefore cX2_putBefore 2 (none) :: BIG
theorem mC_X2_putBefore : Cond.code yX2_putBefore cX2_putBefore 2 (none) ∈ BIG := mB (List.mem_of_getElem? (i := 323) (by decide +kernel)) (by decide +kernel)
theorem mI_X2_putBefore : Cond.instanceMethod yX2_putBefore ∈ BIG := mB (List.mem_of_getElem? (i := 321) (by decide +kernel)) (by decide +kernel)
theorem mS_X2_putBefore : Cond.selects RX2 yX2_putBefore yX2_putBefore ∈ BIG := mB (List.mem_of_getElem? (i := 322) (by decide +kernel)) (by decide +kernel)
theorem hd_X2_putBefore : yX2_putBefore.cls ≠ "java/lang/invoke/MethodHandle" ∧ yX2_putBefore.cls ≠ "java/lang/invoke/VarHandle" ∧ (parseMethodDescriptor yX2_putBefore.desc).map (fun d => d.parameters.length) = some 1 := by decide +kernel
abbrev cX2_putLineBefore : ByteArray := prog_4_method_9_code
def yX2_putLineBefore : MethodName := ⟨RX2, "putLineBefore", "(LMountedPaths$Line;)Z"⟩
def wsX2_putLineBefore : List Cond := .code yX2_putLineBefore cX2_putLineBefore 3 (some (.boolean)) :: BIG
theorem mC_X2_putLineBefore : Cond.code yX2_putLineBefore cX2_putLineBefore 3 (some (.boolean)) ∈ BIG := mB (List.mem_of_getElem? (i := 317) (by decide +kernel)) (by decide +kernel)
theorem mI_X2_putLineBefore : Cond.instanceMethod yX2_putLineBefore ∈ BIG := mB (List.mem_of_getElem? (i := 315) (by decide +kernel)) (by decide +kernel)
theorem mS_X2_putLineBefore : Cond.selects RX2 yX2_putLineBefore yX2_putLineBefore ∈ BIG := mB (List.mem_of_getElem? (i := 316) (by decide +kernel)) (by decide +kernel)
theorem hd_X2_putLineBefore : yX2_putLineBefore.cls ≠ "java/lang/invoke/MethodHandle" ∧ yX2_putLineBefore.cls ≠ "java/lang/invoke/VarHandle" ∧ (parseMethodDescriptor yX2_putLineBefore.desc).map (fun d => d.parameters.length) = some 1 := by decide +kernel
abbrev cX2_putNameBefore : ByteArray := prog_4_method_10_code
def yX2_putNameBefore : MethodName := ⟨RX2, "putNameBefore", "(J)V"⟩
def wsX2_putNameBefore : List Cond := .code yX2_putNameBefore cX2_putNameBefore 6 (none) :: BIG
theorem mC_X2_putNameBefore : Cond.code yX2_putNameBefore cX2_putNameBefore 6 (none) ∈ BIG := mB (List.mem_of_getElem? (i := 596) (by decide +kernel)) (by decide +kernel)
theorem mI_X2_putNameBefore : Cond.instanceMethod yX2_putNameBefore ∈ BIG := mB (List.mem_of_getElem? (i := 594) (by decide +kernel)) (by decide +kernel)
theorem mS_X2_putNameBefore : Cond.selects RX2 yX2_putNameBefore yX2_putNameBefore ∈ BIG := mB (List.mem_of_getElem? (i := 595) (by decide +kernel)) (by decide +kernel)
theorem hd_X2_putNameBefore : yX2_putNameBefore.cls ≠ "java/lang/invoke/MethodHandle" ∧ yX2_putNameBefore.cls ≠ "java/lang/invoke/VarHandle" ∧ (parseMethodDescriptor yX2_putNameBefore.desc).map (fun d => d.parameters.length) = some 1 := by decide +kernel
abbrev cX3_init : ByteArray := prog_5_method_1_code
def yX3_init : MethodName := ⟨RX3, "<init>", "(LMountedPaths$Things;)V"⟩
def wsX3_init : List Cond := .code yX3_init cX3_init 2 (none) :: BIG
theorem mC_X3_init : Cond.code yX3_init cX3_init 2 (none) ∈ BIG := mB (List.mem_of_getElem? (i := 157) (by decide +kernel)) (by decide +kernel)
theorem mI_X3_init : Cond.instanceMethod yX3_init ∈ BIG := mB (List.mem_of_getElem? (i := 156) (by decide +kernel)) (by decide +kernel)
theorem hd_X3_init : yX3_init.cls ≠ "java/lang/invoke/MethodHandle" ∧ yX3_init.cls ≠ "java/lang/invoke/VarHandle" ∧ (parseMethodDescriptor yX3_init.desc).map (fun d => d.parameters.length) = some 1 := by decide +kernel
abbrev cX3_may : ByteArray := prog_5_method_2_code
def yX3_may : MethodName := ⟨RX3, "may", "(II)Z"⟩
def wsX3_may : List Cond := .code yX3_may cX3_may 5 (some (.boolean)) :: BIG
theorem mC_X3_may : Cond.code yX3_may cX3_may 5 (some (.boolean)) ∈ BIG := mB (List.mem_of_getElem? (i := 359) (by decide +kernel)) (by decide +kernel)
theorem mI_X3_may : Cond.instanceMethod yX3_may ∈ BIG := mB (List.mem_of_getElem? (i := 357) (by decide +kernel)) (by decide +kernel)
theorem mS_X3_may : Cond.selects RX3 yX3_may yX3_may ∈ BIG := mB (List.mem_of_getElem? (i := 358) (by decide +kernel)) (by decide +kernel)
theorem hd_X3_may : yX3_may.cls ≠ "java/lang/invoke/MethodHandle" ∧ yX3_may.cls ≠ "java/lang/invoke/VarHandle" ∧ (parseMethodDescriptor yX3_may.desc).map (fun d => d.parameters.length) = some 2 := by decide +kernel
abbrev cX4_init : ByteArray := prog_6_method_1_code
def yX4_init : MethodName := ⟨RX4, "<init>", "()V"⟩
def wsX4_init : List Cond := .code yX4_init cX4_init 1 (none) :: BIG
theorem mC_X4_init : Cond.code yX4_init cX4_init 1 (none) ∈ BIG := mB (List.mem_of_getElem? (i := 87) (by decide +kernel)) (by decide +kernel)
theorem mI_X4_init : Cond.instanceMethod yX4_init ∈ BIG := mB (List.mem_of_getElem? (i := 86) (by decide +kernel)) (by decide +kernel)
theorem hd_X4_init : yX4_init.cls ≠ "java/lang/invoke/MethodHandle" ∧ yX4_init.cls ≠ "java/lang/invoke/VarHandle" ∧ (parseMethodDescriptor yX4_init.desc).map (fun d => d.parameters.length) = some 0 := by decide +kernel
abbrev cX4_leastFree : ByteArray := prog_6_method_2_code
def yX4_leastFree : MethodName := ⟨RX4, "leastFree", "()I"⟩
def wsX4_leastFree : List Cond := .code yX4_leastFree cX4_leastFree 2 (some (.int)) :: BIG
theorem mC_X4_leastFree : Cond.code yX4_leastFree cX4_leastFree 2 (some (.int)) ∈ BIG := mB (List.mem_of_getElem? (i := 468) (by decide +kernel)) (by decide +kernel)
theorem mI_X4_leastFree : Cond.instanceMethod yX4_leastFree ∈ BIG := mB (List.mem_of_getElem? (i := 466) (by decide +kernel)) (by decide +kernel)
theorem mS_X4_leastFree : Cond.selects RX4 yX4_leastFree yX4_leastFree ∈ BIG := mB (List.mem_of_getElem? (i := 467) (by decide +kernel)) (by decide +kernel)
theorem hd_X4_leastFree : yX4_leastFree.cls ≠ "java/lang/invoke/MethodHandle" ∧ yX4_leastFree.cls ≠ "java/lang/invoke/VarHandle" ∧ (parseMethodDescriptor yX4_leastFree.desc).map (fun d => d.parameters.length) = some 0 := by decide +kernel
abbrev cX4_put : ByteArray := prog_6_method_3_code
def yX4_put : MethodName := ⟨RX4, "put", "(IIIII)V"⟩
def wsX4_put : List Cond := .code yX4_put cX4_put 6 (none) :: BIG
theorem mC_X4_put : Cond.code yX4_put cX4_put 6 (none) ∈ BIG := mB (List.mem_of_getElem? (i := 221) (by decide +kernel)) (by decide +kernel)
theorem mI_X4_put : Cond.instanceMethod yX4_put ∈ BIG := mB (List.mem_of_getElem? (i := 219) (by decide +kernel)) (by decide +kernel)
theorem mS_X4_put : Cond.selects RX4 yX4_put yX4_put ∈ BIG := mB (List.mem_of_getElem? (i := 220) (by decide +kernel)) (by decide +kernel)
theorem hd_X4_put : yX4_put.cls ≠ "java/lang/invoke/MethodHandle" ∧ yX4_put.cls ≠ "java/lang/invoke/VarHandle" ∧ (parseMethodDescriptor yX4_put.desc).map (fun d => d.parameters.length) = some 5 := by decide +kernel
abbrev cX4_free : ByteArray := prog_6_method_4_code
def yX4_free : MethodName := ⟨RX4, "free", "(I)V"⟩
def wsX4_free : List Cond := .code yX4_free cX4_free 2 (none) :: BIG
theorem mC_X4_free : Cond.code yX4_free cX4_free 2 (none) ∈ BIG := mB (List.mem_of_getElem? (i := 521) (by decide +kernel)) (by decide +kernel)
theorem mI_X4_free : Cond.instanceMethod yX4_free ∈ BIG := mB (List.mem_of_getElem? (i := 519) (by decide +kernel)) (by decide +kernel)
theorem mS_X4_free : Cond.selects RX4 yX4_free yX4_free ∈ BIG := mB (List.mem_of_getElem? (i := 520) (by decide +kernel)) (by decide +kernel)
theorem hd_X4_free : yX4_free.cls ≠ "java/lang/invoke/MethodHandle" ∧ yX4_free.cls ≠ "java/lang/invoke/VarHandle" ∧ (parseMethodDescriptor yX4_free.desc).map (fun d => d.parameters.length) = some 1 := by decide +kernel
abbrev cX4_sort : ByteArray := prog_6_method_5_code
def yX4_sort : MethodName := ⟨RX4, "sort", "(I)I"⟩
def wsX4_sort : List Cond := .code yX4_sort cX4_sort 2 (some (.int)) :: BIG
theorem mC_X4_sort : Cond.code yX4_sort cX4_sort 2 (some (.int)) ∈ BIG := mB (List.mem_of_getElem? (i := 609) (by decide +kernel)) (by decide +kernel)
theorem mI_X4_sort : Cond.instanceMethod yX4_sort ∈ BIG := mB (List.mem_of_getElem? (i := 607) (by decide +kernel)) (by decide +kernel)
theorem mS_X4_sort : Cond.selects RX4 yX4_sort yX4_sort ∈ BIG := mB (List.mem_of_getElem? (i := 608) (by decide +kernel)) (by decide +kernel)
theorem hd_X4_sort : yX4_sort.cls ≠ "java/lang/invoke/MethodHandle" ∧ yX4_sort.cls ≠ "java/lang/invoke/VarHandle" ∧ (parseMethodDescriptor yX4_sort.desc).map (fun d => d.parameters.length) = some 1 := by decide +kernel
abbrev cX4_isDirectory : ByteArray := prog_6_method_6_code
def yX4_isDirectory : MethodName := ⟨RX4, "isDirectory", "(I)Z"⟩
def wsX4_isDirectory : List Cond := .code yX4_isDirectory cX4_isDirectory 2 (some (.boolean)) :: BIG
theorem mC_X4_isDirectory : Cond.code yX4_isDirectory cX4_isDirectory 2 (some (.boolean)) ∈ BIG := mB (List.mem_of_getElem? (i := 355) (by decide +kernel)) (by decide +kernel)
theorem mI_X4_isDirectory : Cond.instanceMethod yX4_isDirectory ∈ BIG := mB (List.mem_of_getElem? (i := 353) (by decide +kernel)) (by decide +kernel)
theorem mS_X4_isDirectory : Cond.selects RX4 yX4_isDirectory yX4_isDirectory ∈ BIG := mB (List.mem_of_getElem? (i := 354) (by decide +kernel)) (by decide +kernel)
theorem hd_X4_isDirectory : yX4_isDirectory.cls ≠ "java/lang/invoke/MethodHandle" ∧ yX4_isDirectory.cls ≠ "java/lang/invoke/VarHandle" ∧ (parseMethodDescriptor yX4_isDirectory.desc).map (fun d => d.parameters.length) = some 1 := by decide +kernel
abbrev cX4_isLink : ByteArray := prog_6_method_7_code
def yX4_isLink : MethodName := ⟨RX4, "isLink", "(I)Z"⟩
def wsX4_isLink : List Cond := .code yX4_isLink cX4_isLink 2 (some (.boolean)) :: BIG
theorem mC_X4_isLink : Cond.code yX4_isLink cX4_isLink 2 (some (.boolean)) ∈ BIG := mB (List.mem_of_getElem? (i := 414) (by decide +kernel)) (by decide +kernel)
theorem mI_X4_isLink : Cond.instanceMethod yX4_isLink ∈ BIG := mB (List.mem_of_getElem? (i := 412) (by decide +kernel)) (by decide +kernel)
theorem mS_X4_isLink : Cond.selects RX4 yX4_isLink yX4_isLink ∈ BIG := mB (List.mem_of_getElem? (i := 413) (by decide +kernel)) (by decide +kernel)
theorem hd_X4_isLink : yX4_isLink.cls ≠ "java/lang/invoke/MethodHandle" ∧ yX4_isLink.cls ≠ "java/lang/invoke/VarHandle" ∧ (parseMethodDescriptor yX4_isLink.desc).map (fun d => d.parameters.length) = some 1 := by decide +kernel
abbrev cX4_mode : ByteArray := prog_6_method_8_code
def yX4_mode : MethodName := ⟨RX4, "mode", "(I)I"⟩
def wsX4_mode : List Cond := .code yX4_mode cX4_mode 2 (some (.int)) :: BIG
theorem mC_X4_mode : Cond.code yX4_mode cX4_mode 2 (some (.int)) ∈ BIG := mB (List.mem_of_getElem? (i := 363) (by decide +kernel)) (by decide +kernel)
theorem mI_X4_mode : Cond.instanceMethod yX4_mode ∈ BIG := mB (List.mem_of_getElem? (i := 361) (by decide +kernel)) (by decide +kernel)
theorem mS_X4_mode : Cond.selects RX4 yX4_mode yX4_mode ∈ BIG := mB (List.mem_of_getElem? (i := 362) (by decide +kernel)) (by decide +kernel)
theorem hd_X4_mode : yX4_mode.cls ≠ "java/lang/invoke/MethodHandle" ∧ yX4_mode.cls ≠ "java/lang/invoke/VarHandle" ∧ (parseMethodDescriptor yX4_mode.desc).map (fun d => d.parameters.length) = some 1 := by decide +kernel
abbrev cX4_setMode : ByteArray := prog_6_method_9_code
def yX4_setMode : MethodName := ⟨RX4, "setMode", "(II)V"⟩
def wsX4_setMode : List Cond := .code yX4_setMode cX4_setMode 3 (none) :: BIG
theorem mC_X4_setMode : Cond.code yX4_setMode cX4_setMode 3 (none) ∈ BIG := mB (List.mem_of_getElem? (i := 582) (by decide +kernel)) (by decide +kernel)
theorem mI_X4_setMode : Cond.instanceMethod yX4_setMode ∈ BIG := mB (List.mem_of_getElem? (i := 580) (by decide +kernel)) (by decide +kernel)
theorem mS_X4_setMode : Cond.selects RX4 yX4_setMode yX4_setMode ∈ BIG := mB (List.mem_of_getElem? (i := 581) (by decide +kernel)) (by decide +kernel)
theorem hd_X4_setMode : yX4_setMode.cls ≠ "java/lang/invoke/MethodHandle" ∧ yX4_setMode.cls ≠ "java/lang/invoke/VarHandle" ∧ (parseMethodDescriptor yX4_setMode.desc).map (fun d => d.parameters.length) = some 2 := by decide +kernel
abbrev cX4_owner : ByteArray := prog_6_method_10_code
def yX4_owner : MethodName := ⟨RX4, "owner", "(I)I"⟩
def wsX4_owner : List Cond := .code yX4_owner cX4_owner 2 (some (.int)) :: BIG
theorem mC_X4_owner : Cond.code yX4_owner cX4_owner 2 (some (.int)) ∈ BIG := mB (List.mem_of_getElem? (i := 367) (by decide +kernel)) (by decide +kernel)
theorem mI_X4_owner : Cond.instanceMethod yX4_owner ∈ BIG := mB (List.mem_of_getElem? (i := 365) (by decide +kernel)) (by decide +kernel)
theorem mS_X4_owner : Cond.selects RX4 yX4_owner yX4_owner ∈ BIG := mB (List.mem_of_getElem? (i := 366) (by decide +kernel)) (by decide +kernel)
theorem hd_X4_owner : yX4_owner.cls ≠ "java/lang/invoke/MethodHandle" ∧ yX4_owner.cls ≠ "java/lang/invoke/VarHandle" ∧ (parseMethodDescriptor yX4_owner.desc).map (fun d => d.parameters.length) = some 1 := by decide +kernel
abbrev cX4_volumeOf : ByteArray := prog_6_method_11_code
def yX4_volumeOf : MethodName := ⟨RX4, "volumeOf", "(I)I"⟩
def wsX4_volumeOf : List Cond := .code yX4_volumeOf cX4_volumeOf 2 (some (.int)) :: BIG
theorem mC_X4_volumeOf : Cond.code yX4_volumeOf cX4_volumeOf 2 (some (.int)) ∈ BIG := mB (List.mem_of_getElem? (i := 476) (by decide +kernel)) (by decide +kernel)
theorem mI_X4_volumeOf : Cond.instanceMethod yX4_volumeOf ∈ BIG := mB (List.mem_of_getElem? (i := 474) (by decide +kernel)) (by decide +kernel)
theorem mS_X4_volumeOf : Cond.selects RX4 yX4_volumeOf yX4_volumeOf ∈ BIG := mB (List.mem_of_getElem? (i := 475) (by decide +kernel)) (by decide +kernel)
theorem hd_X4_volumeOf : yX4_volumeOf.cls ≠ "java/lang/invoke/MethodHandle" ∧ yX4_volumeOf.cls ≠ "java/lang/invoke/VarHandle" ∧ (parseMethodDescriptor yX4_volumeOf.desc).map (fun d => d.parameters.length) = some 1 := by decide +kernel
abbrev cX4_parent : ByteArray := prog_6_method_12_code
def yX4_parent : MethodName := ⟨RX4, "parent", "(I)I"⟩
def wsX4_parent : List Cond := .code yX4_parent cX4_parent 2 (some (.int)) :: BIG
theorem mC_X4_parent : Cond.code yX4_parent cX4_parent 2 (some (.int)) ∈ BIG := mB (List.mem_of_getElem? (i := 388) (by decide +kernel)) (by decide +kernel)
theorem mI_X4_parent : Cond.instanceMethod yX4_parent ∈ BIG := mB (List.mem_of_getElem? (i := 386) (by decide +kernel)) (by decide +kernel)
theorem mS_X4_parent : Cond.selects RX4 yX4_parent yX4_parent ∈ BIG := mB (List.mem_of_getElem? (i := 387) (by decide +kernel)) (by decide +kernel)
theorem hd_X4_parent : yX4_parent.cls ≠ "java/lang/invoke/MethodHandle" ∧ yX4_parent.cls ≠ "java/lang/invoke/VarHandle" ∧ (parseMethodDescriptor yX4_parent.desc).map (fun d => d.parameters.length) = some 1 := by decide +kernel
abbrev cX4_setParent : ByteArray := prog_6_method_13_code
def yX4_setParent : MethodName := ⟨RX4, "setParent", "(II)V"⟩
def wsX4_setParent : List Cond := .code yX4_setParent cX4_setParent 3 (none) :: BIG
theorem mC_X4_setParent : Cond.code yX4_setParent cX4_setParent 3 (none) ∈ BIG := mB (List.mem_of_getElem? (i := 480) (by decide +kernel)) (by decide +kernel)
theorem mI_X4_setParent : Cond.instanceMethod yX4_setParent ∈ BIG := mB (List.mem_of_getElem? (i := 478) (by decide +kernel)) (by decide +kernel)
theorem mS_X4_setParent : Cond.selects RX4 yX4_setParent yX4_setParent ∈ BIG := mB (List.mem_of_getElem? (i := 479) (by decide +kernel)) (by decide +kernel)
theorem hd_X4_setParent : yX4_setParent.cls ≠ "java/lang/invoke/MethodHandle" ∧ yX4_setParent.cls ≠ "java/lang/invoke/VarHandle" ∧ (parseMethodDescriptor yX4_setParent.desc).map (fun d => d.parameters.length) = some 2 := by decide +kernel
abbrev cX4_target : ByteArray := prog_6_method_14_code
def yX4_target : MethodName := ⟨RX4, "target", "(I)LMountedPaths$Line;"⟩
def wsX4_target : List Cond := .code yX4_target cX4_target 2 (some (.object "MountedPaths$Line")) :: BIG
theorem mC_X4_target : Cond.code yX4_target cX4_target 2 (some (.object "MountedPaths$Line")) ∈ BIG := mB (List.mem_of_getElem? (i := 418) (by decide +kernel)) (by decide +kernel)
theorem mI_X4_target : Cond.instanceMethod yX4_target ∈ BIG := mB (List.mem_of_getElem? (i := 416) (by decide +kernel)) (by decide +kernel)
theorem mS_X4_target : Cond.selects RX4 yX4_target yX4_target ∈ BIG := mB (List.mem_of_getElem? (i := 417) (by decide +kernel)) (by decide +kernel)
theorem hd_X4_target : yX4_target.cls ≠ "java/lang/invoke/MethodHandle" ∧ yX4_target.cls ≠ "java/lang/invoke/VarHandle" ∧ (parseMethodDescriptor yX4_target.desc).map (fun d => d.parameters.length) = some 1 := by decide +kernel
abbrev cX4_setTarget : ByteArray := prog_6_method_15_code
def yX4_setTarget : MethodName := ⟨RX4, "setTarget", "(ILMountedPaths$Line;)V"⟩
def wsX4_setTarget : List Cond := .code yX4_setTarget cX4_setTarget 3 (none) :: BIG
theorem mC_X4_setTarget : Cond.code yX4_setTarget cX4_setTarget 3 (none) ∈ BIG := mB (List.mem_of_getElem? (i := 484) (by decide +kernel)) (by decide +kernel)
theorem mI_X4_setTarget : Cond.instanceMethod yX4_setTarget ∈ BIG := mB (List.mem_of_getElem? (i := 482) (by decide +kernel)) (by decide +kernel)
theorem mS_X4_setTarget : Cond.selects RX4 yX4_setTarget yX4_setTarget ∈ BIG := mB (List.mem_of_getElem? (i := 483) (by decide +kernel)) (by decide +kernel)
theorem hd_X4_setTarget : yX4_setTarget.cls ≠ "java/lang/invoke/MethodHandle" ∧ yX4_setTarget.cls ≠ "java/lang/invoke/VarHandle" ∧ (parseMethodDescriptor yX4_setTarget.desc).map (fun d => d.parameters.length) = some 2 := by decide +kernel
abbrev cX5_init : ByteArray := prog_7_method_1_code
def yX5_init : MethodName := ⟨RX5, "<init>", "(LMountedPaths$Things;)V"⟩
def wsX5_init : List Cond := .code yX5_init cX5_init 2 (none) :: BIG
theorem mC_X5_init : Cond.code yX5_init cX5_init 2 (none) ∈ BIG := mB (List.mem_of_getElem? (i := 135) (by decide +kernel)) (by decide +kernel)
theorem mI_X5_init : Cond.instanceMethod yX5_init ∈ BIG := mB (List.mem_of_getElem? (i := 134) (by decide +kernel)) (by decide +kernel)
theorem hd_X5_init : yX5_init.cls ≠ "java/lang/invoke/MethodHandle" ∧ yX5_init.cls ≠ "java/lang/invoke/VarHandle" ∧ (parseMethodDescriptor yX5_init.desc).map (fun d => d.parameters.length) = some 1 := by decide +kernel
abbrev cX5_isFull : ByteArray := prog_7_method_2_code
def yX5_isFull : MethodName := ⟨RX5, "isFull", "()Z"⟩
def wsX5_isFull : List Cond := .code yX5_isFull cX5_isFull 1 (some (.boolean)) :: BIG
theorem mC_X5_isFull : Cond.code yX5_isFull cX5_isFull 1 (some (.boolean)) ∈ BIG := mB (List.mem_of_getElem? (i := 529) (by decide +kernel)) (by decide +kernel)
theorem mI_X5_isFull : Cond.instanceMethod yX5_isFull ∈ BIG := mB (List.mem_of_getElem? (i := 527) (by decide +kernel)) (by decide +kernel)
theorem mS_X5_isFull : Cond.selects RX5 yX5_isFull yX5_isFull ∈ BIG := mB (List.mem_of_getElem? (i := 528) (by decide +kernel)) (by decide +kernel)
theorem hd_X5_isFull : yX5_isFull.cls ≠ "java/lang/invoke/MethodHandle" ∧ yX5_isFull.cls ≠ "java/lang/invoke/VarHandle" ∧ (parseMethodDescriptor yX5_isFull.desc).map (fun d => d.parameters.length) = some 0 := by decide +kernel
abbrev cX5_add : ByteArray := prog_7_method_3_code
def yX5_add : MethodName := ⟨RX5, "add", "(I)I"⟩
def wsX5_add : List Cond := .code yX5_add cX5_add 2 (some (.int)) :: BIG
theorem mC_X5_add : Cond.code yX5_add cX5_add 2 (some (.int)) ∈ BIG := mB (List.mem_of_getElem? (i := 217) (by decide +kernel)) (by decide +kernel)
theorem mI_X5_add : Cond.instanceMethod yX5_add ∈ BIG := mB (List.mem_of_getElem? (i := 215) (by decide +kernel)) (by decide +kernel)
theorem mS_X5_add : Cond.selects RX5 yX5_add yX5_add ∈ BIG := mB (List.mem_of_getElem? (i := 216) (by decide +kernel)) (by decide +kernel)
theorem hd_X5_add : yX5_add.cls ≠ "java/lang/invoke/MethodHandle" ∧ yX5_add.cls ≠ "java/lang/invoke/VarHandle" ∧ (parseMethodDescriptor yX5_add.desc).map (fun d => d.parameters.length) = some 1 := by decide +kernel
abbrev cX5_mayBeMounted : ByteArray := prog_7_method_4_code
def yX5_mayBeMounted : MethodName := ⟨RX5, "mayBeMounted", "(I)Z"⟩
def wsX5_mayBeMounted : List Cond := .code yX5_mayBeMounted cX5_mayBeMounted 2 (some (.boolean)) :: BIG
theorem mC_X5_mayBeMounted : Cond.code yX5_mayBeMounted cX5_mayBeMounted 2 (some (.boolean)) ∈ BIG := mB (List.mem_of_getElem? (i := 537) (by decide +kernel)) (by decide +kernel)
theorem mI_X5_mayBeMounted : Cond.instanceMethod yX5_mayBeMounted ∈ BIG := mB (List.mem_of_getElem? (i := 535) (by decide +kernel)) (by decide +kernel)
theorem mS_X5_mayBeMounted : Cond.selects RX5 yX5_mayBeMounted yX5_mayBeMounted ∈ BIG := mB (List.mem_of_getElem? (i := 536) (by decide +kernel)) (by decide +kernel)
theorem hd_X5_mayBeMounted : yX5_mayBeMounted.cls ≠ "java/lang/invoke/MethodHandle" ∧ yX5_mayBeMounted.cls ≠ "java/lang/invoke/VarHandle" ∧ (parseMethodDescriptor yX5_mayBeMounted.desc).map (fun d => d.parameters.length) = some 1 := by decide +kernel
abbrev cX5_isMounted : ByteArray := prog_7_method_5_code
def yX5_isMounted : MethodName := ⟨RX5, "isMounted", "(I)Z"⟩
def wsX5_isMounted : List Cond := .code yX5_isMounted cX5_isMounted 2 (some (.boolean)) :: BIG
theorem mC_X5_isMounted : Cond.code yX5_isMounted cX5_isMounted 2 (some (.boolean)) ∈ BIG := mB (List.mem_of_getElem? (i := 541) (by decide +kernel)) (by decide +kernel)
theorem mI_X5_isMounted : Cond.instanceMethod yX5_isMounted ∈ BIG := mB (List.mem_of_getElem? (i := 539) (by decide +kernel)) (by decide +kernel)
theorem mS_X5_isMounted : Cond.selects RX5 yX5_isMounted yX5_isMounted ∈ BIG := mB (List.mem_of_getElem? (i := 540) (by decide +kernel)) (by decide +kernel)
theorem hd_X5_isMounted : yX5_isMounted.cls ≠ "java/lang/invoke/MethodHandle" ∧ yX5_isMounted.cls ≠ "java/lang/invoke/VarHandle" ∧ (parseMethodDescriptor yX5_isMounted.desc).map (fun d => d.parameters.length) = some 1 := by decide +kernel
abbrev cX5_cover : ByteArray := prog_7_method_6_code
def yX5_cover : MethodName := ⟨RX5, "cover", "(II)V"⟩
def wsX5_cover : List Cond := .code yX5_cover cX5_cover 3 (none) :: BIG
theorem mC_X5_cover : Cond.code yX5_cover cX5_cover 3 (none) ∈ BIG := mB (List.mem_of_getElem? (i := 550) (by decide +kernel)) (by decide +kernel)
theorem mI_X5_cover : Cond.instanceMethod yX5_cover ∈ BIG := mB (List.mem_of_getElem? (i := 548) (by decide +kernel)) (by decide +kernel)
theorem mS_X5_cover : Cond.selects RX5 yX5_cover yX5_cover ∈ BIG := mB (List.mem_of_getElem? (i := 549) (by decide +kernel)) (by decide +kernel)
theorem hd_X5_cover : yX5_cover.cls ≠ "java/lang/invoke/MethodHandle" ∧ yX5_cover.cls ≠ "java/lang/invoke/VarHandle" ∧ (parseMethodDescriptor yX5_cover.desc).map (fun d => d.parameters.length) = some 2 := by decide +kernel
abbrev cX5_uncover : ByteArray := prog_7_method_7_code
def yX5_uncover : MethodName := ⟨RX5, "uncover", "(I)V"⟩
def wsX5_uncover : List Cond := .code yX5_uncover cX5_uncover 2 (none) :: BIG
theorem mC_X5_uncover : Cond.code yX5_uncover cX5_uncover 2 (none) ∈ BIG := mB (List.mem_of_getElem? (i := 564) (by decide +kernel)) (by decide +kernel)
theorem mI_X5_uncover : Cond.instanceMethod yX5_uncover ∈ BIG := mB (List.mem_of_getElem? (i := 562) (by decide +kernel)) (by decide +kernel)
theorem mS_X5_uncover : Cond.selects RX5 yX5_uncover yX5_uncover ∈ BIG := mB (List.mem_of_getElem? (i := 563) (by decide +kernel)) (by decide +kernel)
theorem hd_X5_uncover : yX5_uncover.cls ≠ "java/lang/invoke/MethodHandle" ∧ yX5_uncover.cls ≠ "java/lang/invoke/VarHandle" ∧ (parseMethodDescriptor yX5_uncover.desc).map (fun d => d.parameters.length) = some 1 := by decide +kernel
abbrev cX5_covering : ByteArray := prog_7_method_8_code
def yX5_covering : MethodName := ⟨RX5, "covering", "(I)I"⟩
def wsX5_covering : List Cond := .code yX5_covering cX5_covering 3 (some (.int)) :: BIG
theorem mC_X5_covering : Cond.code yX5_covering cX5_covering 3 (some (.int)) ∈ BIG := mB (List.mem_of_getElem? (i := 396) (by decide +kernel)) (by decide +kernel)
theorem mI_X5_covering : Cond.instanceMethod yX5_covering ∈ BIG := mB (List.mem_of_getElem? (i := 394) (by decide +kernel)) (by decide +kernel)
theorem mS_X5_covering : Cond.selects RX5 yX5_covering yX5_covering ∈ BIG := mB (List.mem_of_getElem? (i := 395) (by decide +kernel)) (by decide +kernel)
theorem hd_X5_covering : yX5_covering.cls ≠ "java/lang/invoke/MethodHandle" ∧ yX5_covering.cls ≠ "java/lang/invoke/VarHandle" ∧ (parseMethodDescriptor yX5_covering.desc).map (fun d => d.parameters.length) = some 1 := by decide +kernel
abbrev cX5_mountedWithRoot : ByteArray := prog_7_method_9_code
def yX5_mountedWithRoot : MethodName := ⟨RX5, "mountedWithRoot", "(I)I"⟩
def wsX5_mountedWithRoot : List Cond := .code yX5_mountedWithRoot cX5_mountedWithRoot 3 (some (.int)) :: BIG
theorem mC_X5_mountedWithRoot : Cond.code yX5_mountedWithRoot cX5_mountedWithRoot 3 (some (.int)) ∈ BIG := mB (List.mem_of_getElem? (i := 384) (by decide +kernel)) (by decide +kernel)
theorem mI_X5_mountedWithRoot : Cond.instanceMethod yX5_mountedWithRoot ∈ BIG := mB (List.mem_of_getElem? (i := 382) (by decide +kernel)) (by decide +kernel)
theorem mS_X5_mountedWithRoot : Cond.selects RX5 yX5_mountedWithRoot yX5_mountedWithRoot ∈ BIG := mB (List.mem_of_getElem? (i := 383) (by decide +kernel)) (by decide +kernel)
theorem hd_X5_mountedWithRoot : yX5_mountedWithRoot.cls ≠ "java/lang/invoke/MethodHandle" ∧ yX5_mountedWithRoot.cls ≠ "java/lang/invoke/VarHandle" ∧ (parseMethodDescriptor yX5_mountedWithRoot.desc).map (fun d => d.parameters.length) = some 1 := by decide +kernel
abbrev cX5_hasCovered : ByteArray := prog_7_method_10_code
def yX5_hasCovered : MethodName := ⟨RX5, "hasCovered", "(I)Z"⟩
def wsX5_hasCovered : List Cond := .code yX5_hasCovered cX5_hasCovered 3 (some (.boolean)) :: BIG
theorem mC_X5_hasCovered : Cond.code yX5_hasCovered cX5_hasCovered 3 (some (.boolean)) ∈ BIG := mB (List.mem_of_getElem? (i := 559) (by decide +kernel)) (by decide +kernel)
theorem mI_X5_hasCovered : Cond.instanceMethod yX5_hasCovered ∈ BIG := mB (List.mem_of_getElem? (i := 557) (by decide +kernel)) (by decide +kernel)
theorem mS_X5_hasCovered : Cond.selects RX5 yX5_hasCovered yX5_hasCovered ∈ BIG := mB (List.mem_of_getElem? (i := 558) (by decide +kernel)) (by decide +kernel)
theorem hd_X5_hasCovered : yX5_hasCovered.cls ≠ "java/lang/invoke/MethodHandle" ∧ yX5_hasCovered.cls ≠ "java/lang/invoke/VarHandle" ∧ (parseMethodDescriptor yX5_hasCovered.desc).map (fun d => d.parameters.length) = some 1 := by decide +kernel
abbrev cX5_top : ByteArray := prog_7_method_11_code
def yX5_top : MethodName := ⟨RX5, "top", "(I)I"⟩
def wsX5_top : List Cond := .code yX5_top cX5_top 5 (some (.int)) :: BIG
theorem mC_X5_top : Cond.code yX5_top cX5_top 5 (some (.int)) ∈ BIG := mB (List.mem_of_getElem? (i := 392) (by decide +kernel)) (by decide +kernel)
theorem mI_X5_top : Cond.instanceMethod yX5_top ∈ BIG := mB (List.mem_of_getElem? (i := 390) (by decide +kernel)) (by decide +kernel)
theorem mS_X5_top : Cond.selects RX5 yX5_top yX5_top ∈ BIG := mB (List.mem_of_getElem? (i := 391) (by decide +kernel)) (by decide +kernel)
theorem hd_X5_top : yX5_top.cls ≠ "java/lang/invoke/MethodHandle" ∧ yX5_top.cls ≠ "java/lang/invoke/VarHandle" ∧ (parseMethodDescriptor yX5_top.desc).map (fun d => d.parameters.length) = some 1 := by decide +kernel
abbrev cX5_ground : ByteArray := prog_7_method_12_code
def yX5_ground : MethodName := ⟨RX5, "ground", "(I)I"⟩
def wsX5_ground : List Cond := .code yX5_ground cX5_ground 5 (some (.int)) :: BIG
theorem mC_X5_ground : Cond.code yX5_ground cX5_ground 5 (some (.int)) ∈ BIG := mB (List.mem_of_getElem? (i := 380) (by decide +kernel)) (by decide +kernel)
theorem mI_X5_ground : Cond.instanceMethod yX5_ground ∈ BIG := mB (List.mem_of_getElem? (i := 378) (by decide +kernel)) (by decide +kernel)
theorem mS_X5_ground : Cond.selects RX5 yX5_ground yX5_ground ∈ BIG := mB (List.mem_of_getElem? (i := 379) (by decide +kernel)) (by decide +kernel)
theorem hd_X5_ground : yX5_ground.cls ≠ "java/lang/invoke/MethodHandle" ∧ yX5_ground.cls ≠ "java/lang/invoke/VarHandle" ∧ (parseMethodDescriptor yX5_ground.desc).map (fun d => d.parameters.length) = some 1 := by decide +kernel
abbrev cX5_above : ByteArray := prog_7_method_13_code
def yX5_above : MethodName := ⟨RX5, "above", "(II)I"⟩
def wsX5_above : List Cond := .code yX5_above cX5_above 3 (some (.int)) :: BIG
theorem mC_X5_above : Cond.code yX5_above cX5_above 3 (some (.int)) ∈ BIG := mB (List.mem_of_getElem? (i := 376) (by decide +kernel)) (by decide +kernel)
theorem mI_X5_above : Cond.instanceMethod yX5_above ∈ BIG := mB (List.mem_of_getElem? (i := 374) (by decide +kernel)) (by decide +kernel)
theorem mS_X5_above : Cond.selects RX5 yX5_above yX5_above ∈ BIG := mB (List.mem_of_getElem? (i := 375) (by decide +kernel)) (by decide +kernel)
theorem hd_X5_above : yX5_above.cls ≠ "java/lang/invoke/MethodHandle" ∧ yX5_above.cls ≠ "java/lang/invoke/VarHandle" ∧ (parseMethodDescriptor yX5_above.desc).map (fun d => d.parameters.length) = some 2 := by decide +kernel
abbrev cX6_init : ByteArray := prog_8_method_1_code
def yX6_init : MethodName := ⟨RX6, "<init>", "(LMountedPaths$Things;LMountedPaths$Entries;LMountedPaths$Volumes;LMountedPaths$Session;)V"⟩
def wsX6_init : List Cond := .code yX6_init cX6_init 5 (none) :: BIG
theorem mC_X6_init : Cond.code yX6_init cX6_init 5 (none) ∈ BIG := mB (List.mem_of_getElem? (i := 179) (by decide +kernel)) (by decide +kernel)
theorem mI_X6_init : Cond.instanceMethod yX6_init ∈ BIG := mB (List.mem_of_getElem? (i := 178) (by decide +kernel)) (by decide +kernel)
theorem hd_X6_init : yX6_init.cls ≠ "java/lang/invoke/MethodHandle" ∧ yX6_init.cls ≠ "java/lang/invoke/VarHandle" ∧ (parseMethodDescriptor yX6_init.desc).map (fun d => d.parameters.length) = some 4 := by decide +kernel
abbrev cX6_place : ByteArray := prog_8_method_2_code
def yX6_place : MethodName := ⟨RX6, "place", "()I"⟩
def wsX6_place : List Cond := .code yX6_place cX6_place 1 (some (.int)) :: BIG
theorem mC_X6_place : Cond.code yX6_place cX6_place 1 (some (.int)) ∈ BIG := mB (List.mem_of_getElem? (i := 454) (by decide +kernel)) (by decide +kernel)
theorem mI_X6_place : Cond.instanceMethod yX6_place ∈ BIG := mB (List.mem_of_getElem? (i := 452) (by decide +kernel)) (by decide +kernel)
theorem mS_X6_place : Cond.selects RX6 yX6_place yX6_place ∈ BIG := mB (List.mem_of_getElem? (i := 453) (by decide +kernel)) (by decide +kernel)
theorem hd_X6_place : yX6_place.cls ≠ "java/lang/invoke/MethodHandle" ∧ yX6_place.cls ≠ "java/lang/invoke/VarHandle" ∧ (parseMethodDescriptor yX6_place.desc).map (fun d => d.parameters.length) = some 0 := by decide +kernel
abbrev cX6_name : ByteArray := prog_8_method_3_code
def yX6_name : MethodName := ⟨RX6, "name", "()J"⟩
def wsX6_name : List Cond := .code yX6_name cX6_name 1 (some (.long)) :: BIG
theorem mC_X6_name : Cond.code yX6_name cX6_name 1 (some (.long)) ∈ BIG := mB (List.mem_of_getElem? (i := 458) (by decide +kernel)) (by decide +kernel)
theorem mI_X6_name : Cond.instanceMethod yX6_name ∈ BIG := mB (List.mem_of_getElem? (i := 456) (by decide +kernel)) (by decide +kernel)
theorem mS_X6_name : Cond.selects RX6 yX6_name yX6_name ∈ BIG := mB (List.mem_of_getElem? (i := 457) (by decide +kernel)) (by decide +kernel)
theorem hd_X6_name : yX6_name.cls ≠ "java/lang/invoke/MethodHandle" ∧ yX6_name.cls ≠ "java/lang/invoke/VarHandle" ∧ (parseMethodDescriptor yX6_name.desc).map (fun d => d.parameters.length) = some 0 := by decide +kernel
abbrev cX6_isSlashed : ByteArray := prog_8_method_4_code
def yX6_isSlashed : MethodName := ⟨RX6, "isSlashed", "()Z"⟩
def wsX6_isSlashed : List Cond := .code yX6_isSlashed cX6_isSlashed 1 (some (.boolean)) :: BIG
theorem mC_X6_isSlashed : Cond.code yX6_isSlashed cX6_isSlashed 1 (some (.boolean)) ∈ BIG := mB (List.mem_of_getElem? (i := 463) (by decide +kernel)) (by decide +kernel)
theorem mI_X6_isSlashed : Cond.instanceMethod yX6_isSlashed ∈ BIG := mB (List.mem_of_getElem? (i := 461) (by decide +kernel)) (by decide +kernel)
theorem mS_X6_isSlashed : Cond.selects RX6 yX6_isSlashed yX6_isSlashed ∈ BIG := mB (List.mem_of_getElem? (i := 462) (by decide +kernel)) (by decide +kernel)
theorem hd_X6_isSlashed : yX6_isSlashed.cls ≠ "java/lang/invoke/MethodHandle" ∧ yX6_isSlashed.cls ≠ "java/lang/invoke/VarHandle" ∧ (parseMethodDescriptor yX6_isSlashed.desc).map (fun d => d.parameters.length) = some 0 := by decide +kernel
abbrev cX6_isOnDots : ByteArray := prog_8_method_5_code
def yX6_isOnDots : MethodName := ⟨RX6, "isOnDots", "()Z"⟩
def wsX6_isOnDots : List Cond := .code yX6_isOnDots cX6_isOnDots 1 (some (.boolean)) :: BIG
theorem mC_X6_isOnDots : Cond.code yX6_isOnDots cX6_isOnDots 1 (some (.boolean)) ∈ BIG := mB (List.mem_of_getElem? (i := 450) (by decide +kernel)) (by decide +kernel)
theorem mI_X6_isOnDots : Cond.instanceMethod yX6_isOnDots ∈ BIG := mB (List.mem_of_getElem? (i := 448) (by decide +kernel)) (by decide +kernel)
theorem mS_X6_isOnDots : Cond.selects RX6 yX6_isOnDots yX6_isOnDots ∈ BIG := mB (List.mem_of_getElem? (i := 449) (by decide +kernel)) (by decide +kernel)
theorem hd_X6_isOnDots : yX6_isOnDots.cls ≠ "java/lang/invoke/MethodHandle" ∧ yX6_isOnDots.cls ≠ "java/lang/invoke/VarHandle" ∧ (parseMethodDescriptor yX6_isOnDots.desc).map (fun d => d.parameters.length) = some 0 := by decide +kernel
abbrev cX6_through : ByteArray := prog_8_method_6_code
def yX6_through : MethodName := ⟨RX6, "through", "(LMountedPaths$Line;Z)I"⟩
def wsX6_through : List Cond := .code yX6_through cX6_through 5 (some (.int)) :: BIG
theorem mC_X6_through : Cond.code yX6_through cX6_through 5 (some (.int)) ∈ BIG := mB (List.mem_of_getElem? (i := 301) (by decide +kernel)) (by decide +kernel)
theorem mI_X6_through : Cond.instanceMethod yX6_through ∈ BIG := mB (List.mem_of_getElem? (i := 299) (by decide +kernel)) (by decide +kernel)
theorem mS_X6_through : Cond.selects RX6 yX6_through yX6_through ∈ BIG := mB (List.mem_of_getElem? (i := 300) (by decide +kernel)) (by decide +kernel)
theorem hd_X6_through : yX6_through.cls ≠ "java/lang/invoke/MethodHandle" ∧ yX6_through.cls ≠ "java/lang/invoke/VarHandle" ∧ (parseMethodDescriptor yX6_through.desc).map (fun d => d.parameters.length) = some 2 := by decide +kernel
abbrev cX6_toLastName : ByteArray := prog_8_method_7_code
def yX6_toLastName : MethodName := ⟨RX6, "toLastName", "(LMountedPaths$Line;)I"⟩
def wsX6_toLastName : List Cond := .code yX6_toLastName cX6_toLastName 4 (some (.int)) :: BIG
theorem mC_X6_toLastName : Cond.code yX6_toLastName cX6_toLastName 4 (some (.int)) ∈ BIG := mB (List.mem_of_getElem? (i := 446) (by decide +kernel)) (by decide +kernel)
theorem mI_X6_toLastName : Cond.instanceMethod yX6_toLastName ∈ BIG := mB (List.mem_of_getElem? (i := 444) (by decide +kernel)) (by decide +kernel)
theorem mS_X6_toLastName : Cond.selects RX6 yX6_toLastName yX6_toLastName ∈ BIG := mB (List.mem_of_getElem? (i := 445) (by decide +kernel)) (by decide +kernel)
theorem hd_X6_toLastName : yX6_toLastName.cls ≠ "java/lang/invoke/MethodHandle" ∧ yX6_toLastName.cls ≠ "java/lang/invoke/VarHandle" ∧ (parseMethodDescriptor yX6_toLastName.desc).map (fun d => d.parameters.length) = some 1 := by decide +kernel
abbrev cX6_begin : ByteArray := prog_8_method_8_code
def yX6_begin : MethodName := ⟨RX6, "begin", "(LMountedPaths$Line;)V"⟩
def wsX6_begin : List Cond := .code yX6_begin cX6_begin 2 (none) :: BIG
theorem mC_X6_begin : Cond.code yX6_begin cX6_begin 2 (none) ∈ BIG := mB (List.mem_of_getElem? (i := 309) (by decide +kernel)) (by decide +kernel)
theorem mI_X6_begin : Cond.instanceMethod yX6_begin ∈ BIG := mB (List.mem_of_getElem? (i := 308) (by decide +kernel)) (by decide +kernel)
theorem mS_X6_begin : Cond.selects RX6 yX6_begin yX6_begin ∈ BIG := mB (List.mem_of_getElem? (i := 0) (by decide +kernel)) (by decide +kernel)
theorem hd_X6_begin : yX6_begin.cls ≠ "java/lang/invoke/MethodHandle" ∧ yX6_begin.cls ≠ "java/lang/invoke/VarHandle" ∧ (parseMethodDescriptor yX6_begin.desc).map (fun d => d.parameters.length) = some 1 := by decide +kernel
abbrev cX6_hasName : ByteArray := prog_8_method_9_code
def yX6_hasName : MethodName := ⟨RX6, "hasName", "()Z"⟩
def wsX6_hasName : List Cond := .code yX6_hasName cX6_hasName 2 (some (.boolean)) :: BIG
theorem mC_X6_hasName : Cond.code yX6_hasName cX6_hasName 2 (some (.boolean)) ∈ BIG := mB (List.mem_of_getElem? (i := 331) (by decide +kernel)) (by decide +kernel)
theorem mI_X6_hasName : Cond.instanceMethod yX6_hasName ∈ BIG := mB (List.mem_of_getElem? (i := 330) (by decide +kernel)) (by decide +kernel)
theorem mS_X6_hasName : Cond.selects RX6 yX6_hasName yX6_hasName ∈ BIG := mB (List.mem_of_getElem? (i := 1) (by decide +kernel)) (by decide +kernel)
theorem hd_X6_hasName : yX6_hasName.cls ≠ "java/lang/invoke/MethodHandle" ∧ yX6_hasName.cls ≠ "java/lang/invoke/VarHandle" ∧ (parseMethodDescriptor yX6_hasName.desc).map (fun d => d.parameters.length) = some 0 := by decide +kernel
abbrev cX6_takeName : ByteArray := prog_8_method_10_code
def yX6_takeName : MethodName := ⟨RX6, "takeName", "()I"⟩
def wsX6_takeName : List Cond := .code yX6_takeName cX6_takeName 3 (some (.int)) :: BIG
theorem mC_X6_takeName : Cond.code yX6_takeName cX6_takeName 3 (some (.int)) ∈ BIG := mB (List.mem_of_getElem? (i := 343) (by decide +kernel)) (by decide +kernel)
theorem mI_X6_takeName : Cond.instanceMethod yX6_takeName ∈ BIG := mB (List.mem_of_getElem? (i := 342) (by decide +kernel)) (by decide +kernel)
theorem mS_X6_takeName : Cond.selects RX6 yX6_takeName yX6_takeName ∈ BIG := mB (List.mem_of_getElem? (i := 2) (by decide +kernel)) (by decide +kernel)
theorem hd_X6_takeName : yX6_takeName.cls ≠ "java/lang/invoke/MethodHandle" ∧ yX6_takeName.cls ≠ "java/lang/invoke/VarHandle" ∧ (parseMethodDescriptor yX6_takeName.desc).map (fun d => d.parameters.length) = some 0 := by decide +kernel
abbrev cX6_passName : ByteArray := prog_8_method_11_code
def yX6_passName : MethodName := ⟨RX6, "passName", "(Z)I"⟩
def wsX6_passName : List Cond := .code yX6_passName cX6_passName 3 (some (.int)) :: BIG
theorem mC_X6_passName : Cond.code yX6_passName cX6_passName 3 (some (.int)) ∈ BIG := mB (List.mem_of_getElem? (i := 371) (by decide +kernel)) (by decide +kernel)
theorem mI_X6_passName : Cond.instanceMethod yX6_passName ∈ BIG := mB (List.mem_of_getElem? (i := 370) (by decide +kernel)) (by decide +kernel)
theorem mS_X6_passName : Cond.selects RX6 yX6_passName yX6_passName ∈ BIG := mB (List.mem_of_getElem? (i := 3) (by decide +kernel)) (by decide +kernel)
theorem hd_X6_passName : yX6_passName.cls ≠ "java/lang/invoke/MethodHandle" ∧ yX6_passName.cls ≠ "java/lang/invoke/VarHandle" ∧ (parseMethodDescriptor yX6_passName.desc).map (fun d => d.parameters.length) = some 1 := by decide +kernel
abbrev cX6_topUnder : ByteArray := prog_8_method_12_code
def yX6_topUnder : MethodName := ⟨RX6, "topUnder", "(IJ)I"⟩
def wsX6_topUnder : List Cond := .code yX6_topUnder cX6_topUnder 5 (some (.int)) :: BIG
theorem mC_X6_topUnder : Cond.code yX6_topUnder cX6_topUnder 5 (some (.int)) ∈ BIG := mB (List.mem_of_getElem? (i := 401) (by decide +kernel)) (by decide +kernel)
theorem mI_X6_topUnder : Cond.instanceMethod yX6_topUnder ∈ BIG := mB (List.mem_of_getElem? (i := 400) (by decide +kernel)) (by decide +kernel)
theorem mS_X6_topUnder : Cond.selects RX6 yX6_topUnder yX6_topUnder ∈ BIG := mB (List.mem_of_getElem? (i := 4) (by decide +kernel)) (by decide +kernel)
theorem hd_X6_topUnder : yX6_topUnder.cls ≠ "java/lang/invoke/MethodHandle" ∧ yX6_topUnder.cls ≠ "java/lang/invoke/VarHandle" ∧ (parseMethodDescriptor yX6_topUnder.desc).map (fun d => d.parameters.length) = some 2 := by decide +kernel
abbrev cX6_passLink : ByteArray := prog_8_method_13_code
def yX6_passLink : MethodName := ⟨RX6, "passLink", "(LMountedPaths$Line;)I"⟩
def wsX6_passLink : List Cond := .code yX6_passLink cX6_passLink 2 (some (.int)) :: BIG
theorem mC_X6_passLink : Cond.code yX6_passLink cX6_passLink 2 (some (.int)) ∈ BIG := mB (List.mem_of_getElem? (i := 422) (by decide +kernel)) (by decide +kernel)
theorem mI_X6_passLink : Cond.instanceMethod yX6_passLink ∈ BIG := mB (List.mem_of_getElem? (i := 421) (by decide +kernel)) (by decide +kernel)
theorem mS_X6_passLink : Cond.selects RX6 yX6_passLink yX6_passLink ∈ BIG := mB (List.mem_of_getElem? (i := 5) (by decide +kernel)) (by decide +kernel)
theorem hd_X6_passLink : yX6_passLink.cls ≠ "java/lang/invoke/MethodHandle" ∧ yX6_passLink.cls ≠ "java/lang/invoke/VarHandle" ∧ (parseMethodDescriptor yX6_passLink.desc).map (fun d => d.parameters.length) = some 1 := by decide +kernel
theorem mQ_L_7 : Cond.classLink RL 7 RX7 ∈ BIG := mB (List.mem_of_getElem? (i := 48) (by decide +kernel)) (by decide +kernel)
theorem mL_L_9 : Cond.methodLink RL 9 yX7_init ∈ BIG := mB (List.mem_of_getElem? (i := 50) (by decide +kernel)) (by decide +kernel)
theorem mL_X7_1 : Cond.methodLink RX7 1 objectInit ∈ BIG := mB (List.mem_of_getElem? (i := 53) (by decide +kernel)) (by decide +kernel)
theorem mQ_X7_7 : Cond.classLink RX7 7 RX1 ∈ BIG := mB (List.mem_of_getElem? (i := 56) (by decide +kernel)) (by decide +kernel)
theorem mL_X1_3 : Cond.methodLink RX1 3 objectInit ∈ BIG := mB (List.mem_of_getElem? (i := 61) (by decide +kernel)) (by decide +kernel)
theorem mF_X1_9 : Cond.fieldLink RX1 9 RX1 "marks" "[C" ∈ BIG := mB (List.mem_of_getElem? (i := 62) (by decide +kernel)) (by decide +kernel)
theorem mF_X1_15 : Cond.fieldLink RX1 15 RX1 "count" "I" ∈ BIG := mB (List.mem_of_getElem? (i := 63) (by decide +kernel)) (by decide +kernel)
theorem mA_char : Cond.arrayClass .char ∈ BIG := mB (List.mem_of_getElem? (i := 69) (by decide +kernel)) (by decide +kernel)
theorem mQ_X7_19 : Cond.classLink RX7 19 RX2 ∈ BIG := mB (List.mem_of_getElem? (i := 70) (by decide +kernel)) (by decide +kernel)
theorem mL_X2_3 : Cond.methodLink RX2 3 objectInit ∈ BIG := mB (List.mem_of_getElem? (i := 75) (by decide +kernel)) (by decide +kernel)
theorem mF_X2_9 : Cond.fieldLink RX2 9 RX2 "marks" "[C" ∈ BIG := mB (List.mem_of_getElem? (i := 76) (by decide +kernel)) (by decide +kernel)
theorem mF_X2_15 : Cond.fieldLink RX2 15 RX2 "start" "I" ∈ BIG := mB (List.mem_of_getElem? (i := 77) (by decide +kernel)) (by decide +kernel)
theorem mQ_X7_26 : Cond.classLink RX7 26 RX4 ∈ BIG := mB (List.mem_of_getElem? (i := 83) (by decide +kernel)) (by decide +kernel)
theorem mL_X4_3 : Cond.methodLink RX4 3 objectInit ∈ BIG := mB (List.mem_of_getElem? (i := 88) (by decide +kernel)) (by decide +kernel)
theorem mQ_X4_27 : Cond.classLink RX4 27 RX1 ∈ BIG := mB (List.mem_of_getElem? (i := 89) (by decide +kernel)) (by decide +kernel)
theorem mF_X4_9 : Cond.fieldLink RX4 9 RX4 "sorts" "[I" ∈ BIG := mB (List.mem_of_getElem? (i := 91) (by decide +kernel)) (by decide +kernel)
theorem mF_X4_15 : Cond.fieldLink RX4 15 RX4 "modes" "[I" ∈ BIG := mB (List.mem_of_getElem? (i := 92) (by decide +kernel)) (by decide +kernel)
theorem mF_X4_18 : Cond.fieldLink RX4 18 RX4 "owners" "[I" ∈ BIG := mB (List.mem_of_getElem? (i := 93) (by decide +kernel)) (by decide +kernel)
theorem mF_X4_21 : Cond.fieldLink RX4 21 RX4 "volumes" "[I" ∈ BIG := mB (List.mem_of_getElem? (i := 94) (by decide +kernel)) (by decide +kernel)
theorem mF_X4_24 : Cond.fieldLink RX4 24 RX4 "parents" "[I" ∈ BIG := mB (List.mem_of_getElem? (i := 95) (by decide +kernel)) (by decide +kernel)
theorem mF_X4_29 : Cond.fieldLink RX4 29 RX4 "targets" "[LMountedPaths$Line;" ∈ BIG := mB (List.mem_of_getElem? (i := 96) (by decide +kernel)) (by decide +kernel)
theorem mA_int : Cond.arrayClass .int ∈ BIG := mB (List.mem_of_getElem? (i := 110) (by decide +kernel)) (by decide +kernel)
theorem mQ_X7_33 : Cond.classLink RX7 33 RX0 ∈ BIG := mB (List.mem_of_getElem? (i := 111) (by decide +kernel)) (by decide +kernel)
theorem mL_X0_3 : Cond.methodLink RX0 3 objectInit ∈ BIG := mB (List.mem_of_getElem? (i := 116) (by decide +kernel)) (by decide +kernel)
theorem mF_X0_9 : Cond.fieldLink RX0 9 RX0 "directories" "[I" ∈ BIG := mB (List.mem_of_getElem? (i := 117) (by decide +kernel)) (by decide +kernel)
theorem mF_X0_15 : Cond.fieldLink RX0 15 RX0 "names" "[J" ∈ BIG := mB (List.mem_of_getElem? (i := 118) (by decide +kernel)) (by decide +kernel)
theorem mF_X0_19 : Cond.fieldLink RX0 19 RX0 "objects" "[I" ∈ BIG := mB (List.mem_of_getElem? (i := 119) (by decide +kernel)) (by decide +kernel)
theorem mF_X0_22 : Cond.fieldLink RX0 22 RX0 "count" "I" ∈ BIG := mB (List.mem_of_getElem? (i := 120) (by decide +kernel)) (by decide +kernel)
theorem mA_long : Cond.arrayClass .long ∈ BIG := mB (List.mem_of_getElem? (i := 130) (by decide +kernel)) (by decide +kernel)
theorem mQ_X7_40 : Cond.classLink RX7 40 RX5 ∈ BIG := mB (List.mem_of_getElem? (i := 131) (by decide +kernel)) (by decide +kernel)
theorem mL_X7_42 : Cond.methodLink RX7 42 yX5_init ∈ BIG := mB (List.mem_of_getElem? (i := 133) (by decide +kernel)) (by decide +kernel)
theorem mL_X5_3 : Cond.methodLink RX5 3 objectInit ∈ BIG := mB (List.mem_of_getElem? (i := 136) (by decide +kernel)) (by decide +kernel)
theorem mF_X5_18 : Cond.fieldLink RX5 18 RX5 "things" "LMountedPaths$Things;" ∈ BIG := mB (List.mem_of_getElem? (i := 140) (by decide +kernel)) (by decide +kernel)
theorem mF_X5_9 : Cond.fieldLink RX5 9 RX5 "roots" "[I" ∈ BIG := mB (List.mem_of_getElem? (i := 141) (by decide +kernel)) (by decide +kernel)
theorem mF_X5_15 : Cond.fieldLink RX5 15 RX5 "covered" "[I" ∈ BIG := mB (List.mem_of_getElem? (i := 142) (by decide +kernel)) (by decide +kernel)
theorem mF_X5_28 : Cond.fieldLink RX5 28 RX5 "count" "I" ∈ BIG := mB (List.mem_of_getElem? (i := 143) (by decide +kernel)) (by decide +kernel)
theorem mQ_X7_49 : Cond.classLink RX7 49 RX3 ∈ BIG := mB (List.mem_of_getElem? (i := 153) (by decide +kernel)) (by decide +kernel)
theorem mL_X7_51 : Cond.methodLink RX7 51 yX3_init ∈ BIG := mB (List.mem_of_getElem? (i := 155) (by decide +kernel)) (by decide +kernel)
theorem mL_X3_1 : Cond.methodLink RX3 1 objectInit ∈ BIG := mB (List.mem_of_getElem? (i := 158) (by decide +kernel)) (by decide +kernel)
theorem mF_X3_7 : Cond.fieldLink RX3 7 RX3 "things" "LMountedPaths$Things;" ∈ BIG := mB (List.mem_of_getElem? (i := 159) (by decide +kernel)) (by decide +kernel)
theorem mF_X3_19 : Cond.fieldLink RX3 19 RX3 "user" "I" ∈ BIG := mB (List.mem_of_getElem? (i := 160) (by decide +kernel)) (by decide +kernel)
theorem mQ_X7_56 : Cond.classLink RX7 56 RX6 ∈ BIG := mB (List.mem_of_getElem? (i := 175) (by decide +kernel)) (by decide +kernel)
theorem mL_X7_58 : Cond.methodLink RX7 58 yX6_init ∈ BIG := mB (List.mem_of_getElem? (i := 177) (by decide +kernel)) (by decide +kernel)
theorem mL_X6_3 : Cond.methodLink RX6 3 objectInit ∈ BIG := mB (List.mem_of_getElem? (i := 180) (by decide +kernel)) (by decide +kernel)
theorem mQ_X6_9 : Cond.classLink RX6 9 RX2 ∈ BIG := mB (List.mem_of_getElem? (i := 181) (by decide +kernel)) (by decide +kernel)
theorem mF_X6_18 : Cond.fieldLink RX6 18 RX6 "things" "LMountedPaths$Things;" ∈ BIG := mB (List.mem_of_getElem? (i := 183) (by decide +kernel)) (by decide +kernel)
theorem mF_X6_22 : Cond.fieldLink RX6 22 RX6 "entries" "LMountedPaths$Entries;" ∈ BIG := mB (List.mem_of_getElem? (i := 184) (by decide +kernel)) (by decide +kernel)
theorem mF_X6_26 : Cond.fieldLink RX6 26 RX6 "volumes" "LMountedPaths$Volumes;" ∈ BIG := mB (List.mem_of_getElem? (i := 185) (by decide +kernel)) (by decide +kernel)
theorem mF_X6_30 : Cond.fieldLink RX6 30 RX6 "session" "LMountedPaths$Session;" ∈ BIG := mB (List.mem_of_getElem? (i := 186) (by decide +kernel)) (by decide +kernel)
theorem mF_X6_12 : Cond.fieldLink RX6 12 RX6 "rest" "LMountedPaths$Rest;" ∈ BIG := mB (List.mem_of_getElem? (i := 187) (by decide +kernel)) (by decide +kernel)
theorem mF_X6_34 : Cond.fieldLink RX6 34 RX6 "at" "I" ∈ BIG := mB (List.mem_of_getElem? (i := 188) (by decide +kernel)) (by decide +kernel)
theorem mF_X6_92 : Cond.fieldLink RX6 92 RX6 "hops" "I" ∈ BIG := mB (List.mem_of_getElem? (i := 189) (by decide +kernel)) (by decide +kernel)
theorem mF_X6_38 : Cond.fieldLink RX6 38 RX6 "name" "J" ∈ BIG := mB (List.mem_of_getElem? (i := 190) (by decide +kernel)) (by decide +kernel)
theorem mF_X6_71 : Cond.fieldLink RX6 71 RX6 "last" "Z" ∈ BIG := mB (List.mem_of_getElem? (i := 191) (by decide +kernel)) (by decide +kernel)
theorem mF_X6_42 : Cond.fieldLink RX6 42 RX6 "slashed" "Z" ∈ BIG := mB (List.mem_of_getElem? (i := 192) (by decide +kernel)) (by decide +kernel)
theorem mL_X7_65 : Cond.methodLink RX7 65 yX5_add ∈ BIG := mB (List.mem_of_getElem? (i := 214) (by decide +kernel)) (by decide +kernel)
theorem mL_X7_69 : Cond.methodLink RX7 69 yX4_put ∈ BIG := mB (List.mem_of_getElem? (i := 218) (by decide +kernel)) (by decide +kernel)
theorem mF_X7_10 : Cond.fieldLink RX7 10 RX7 "text" "LMountedPaths$Line;" ∈ BIG := mB (List.mem_of_getElem? (i := 222) (by decide +kernel)) (by decide +kernel)
theorem mF_X7_16 : Cond.fieldLink RX7 16 RX7 "second" "LMountedPaths$Line;" ∈ BIG := mB (List.mem_of_getElem? (i := 223) (by decide +kernel)) (by decide +kernel)
theorem mF_X7_22 : Cond.fieldLink RX7 22 RX7 "trail" "LMountedPaths$Rest;" ∈ BIG := mB (List.mem_of_getElem? (i := 224) (by decide +kernel)) (by decide +kernel)
theorem mF_X7_29 : Cond.fieldLink RX7 29 RX7 "things" "LMountedPaths$Things;" ∈ BIG := mB (List.mem_of_getElem? (i := 225) (by decide +kernel)) (by decide +kernel)
theorem mF_X7_36 : Cond.fieldLink RX7 36 RX7 "entries" "LMountedPaths$Entries;" ∈ BIG := mB (List.mem_of_getElem? (i := 226) (by decide +kernel)) (by decide +kernel)
theorem mF_X7_45 : Cond.fieldLink RX7 45 RX7 "volumes" "LMountedPaths$Volumes;" ∈ BIG := mB (List.mem_of_getElem? (i := 227) (by decide +kernel)) (by decide +kernel)
theorem mF_X7_52 : Cond.fieldLink RX7 52 RX7 "session" "LMountedPaths$Session;" ∈ BIG := mB (List.mem_of_getElem? (i := 228) (by decide +kernel)) (by decide +kernel)
theorem mF_X7_61 : Cond.fieldLink RX7 61 RX7 "walk" "LMountedPaths$Walk;" ∈ BIG := mB (List.mem_of_getElem? (i := 229) (by decide +kernel)) (by decide +kernel)
theorem mL_L_13 : Cond.methodLink RL 13 yX7_type ∈ BIG := mB (List.mem_of_getElem? (i := 247) (by decide +kernel)) (by decide +kernel)
theorem mL_X7_73 : Cond.methodLink RX7 73 yX1_hasRoom ∈ BIG := mB (List.mem_of_getElem? (i := 251) (by decide +kernel)) (by decide +kernel)
theorem mL_X7_77 : Cond.methodLink RX7 77 yX1_append ∈ BIG := mB (List.mem_of_getElem? (i := 255) (by decide +kernel)) (by decide +kernel)
theorem mL_L_18 : Cond.methodLink RL 18 yX7_wipe ∈ BIG := mB (List.mem_of_getElem? (i := 259) (by decide +kernel)) (by decide +kernel)
theorem mL_X7_81 : Cond.methodLink RX7 81 yX1_clear ∈ BIG := mB (List.mem_of_getElem? (i := 263) (by decide +kernel)) (by decide +kernel)
theorem mL_L_22 : Cond.methodLink RL 22 yX7_keep ∈ BIG := mB (List.mem_of_getElem? (i := 267) (by decide +kernel)) (by decide +kernel)
theorem mL_X7_84 : Cond.methodLink RX7 84 yX1_copy ∈ BIG := mB (List.mem_of_getElem? (i := 271) (by decide +kernel)) (by decide +kernel)
theorem mL_X1_19 : Cond.methodLink RX1 19 arraycopyName ∈ BIG := mB (List.mem_of_getElem? (i := 275) (by decide +kernel)) (by decide +kernel)
theorem mL_L_26 : Cond.methodLink RL 26 yX7_length ∈ BIG := mB (List.mem_of_getElem? (i := 278) (by decide +kernel)) (by decide +kernel)
theorem mL_X7_88 : Cond.methodLink RX7 88 yX1_size ∈ BIG := mB (List.mem_of_getElem? (i := 282) (by decide +kernel)) (by decide +kernel)
theorem mL_L_31 : Cond.methodLink RL 31 yX7_at ∈ BIG := mB (List.mem_of_getElem? (i := 286) (by decide +kernel)) (by decide +kernel)
theorem mL_X7_92 : Cond.methodLink RX7 92 yX1_mark ∈ BIG := mB (List.mem_of_getElem? (i := 290) (by decide +kernel)) (by decide +kernel)
theorem mL_L_36 : Cond.methodLink RL 36 yX7_resolve ∈ BIG := mB (List.mem_of_getElem? (i := 294) (by decide +kernel)) (by decide +kernel)
theorem mL_X7_96 : Cond.methodLink RX7 96 yX6_through ∈ BIG := mB (List.mem_of_getElem? (i := 298) (by decide +kernel)) (by decide +kernel)
theorem mL_X6_50 : Cond.methodLink RX6 50 yX1_isEmpty ∈ BIG := mB (List.mem_of_getElem? (i := 302) (by decide +kernel)) (by decide +kernel)
theorem mL_X6_56 : Cond.methodLink RX6 56 yX6_begin ∈ BIG := mB (List.mem_of_getElem? (i := 306) (by decide +kernel)) (by decide +kernel)
theorem mL_X6_74 : Cond.methodLink RX6 74 yX2_clear ∈ BIG := mB (List.mem_of_getElem? (i := 310) (by decide +kernel)) (by decide +kernel)
theorem mL_X6_77 : Cond.methodLink RX6 77 yX2_putLineBefore ∈ BIG := mB (List.mem_of_getElem? (i := 314) (by decide +kernel)) (by decide +kernel)
theorem mL_X2_19 : Cond.methodLink RX2 19 yX1_size ∈ BIG := mB (List.mem_of_getElem? (i := 318) (by decide +kernel)) (by decide +kernel)
theorem mL_X2_25 : Cond.methodLink RX2 25 yX1_mark ∈ BIG := mB (List.mem_of_getElem? (i := 319) (by decide +kernel)) (by decide +kernel)
theorem mL_X2_29 : Cond.methodLink RX2 29 yX2_putBefore ∈ BIG := mB (List.mem_of_getElem? (i := 320) (by decide +kernel)) (by decide +kernel)
theorem mL_X6_81 : Cond.methodLink RX6 81 yX2_beginsWithSlash ∈ BIG := mB (List.mem_of_getElem? (i := 324) (by decide +kernel)) (by decide +kernel)
theorem mL_X6_60 : Cond.methodLink RX6 60 yX6_hasName ∈ BIG := mB (List.mem_of_getElem? (i := 328) (by decide +kernel)) (by decide +kernel)
theorem mL_X6_95 : Cond.methodLink RX6 95 yX2_take ∈ BIG := mB (List.mem_of_getElem? (i := 332) (by decide +kernel)) (by decide +kernel)
theorem mL_X6_99 : Cond.methodLink RX6 99 yX2_isEmpty ∈ BIG := mB (List.mem_of_getElem? (i := 336) (by decide +kernel)) (by decide +kernel)
theorem mL_X6_63 : Cond.methodLink RX6 63 yX6_takeName ∈ BIG := mB (List.mem_of_getElem? (i := 340) (by decide +kernel)) (by decide +kernel)
theorem mL_X6_100 : Cond.methodLink RX6 100 yX2_size ∈ BIG := mB (List.mem_of_getElem? (i := 344) (by decide +kernel)) (by decide +kernel)
theorem mL_X6_103 : Cond.methodLink RX6 103 yX2_hasSlashesAlone ∈ BIG := mB (List.mem_of_getElem? (i := 348) (by decide +kernel)) (by decide +kernel)
theorem mL_X6_106 : Cond.methodLink RX6 106 yX4_isDirectory ∈ BIG := mB (List.mem_of_getElem? (i := 352) (by decide +kernel)) (by decide +kernel)
theorem mL_X6_112 : Cond.methodLink RX6 112 yX3_may ∈ BIG := mB (List.mem_of_getElem? (i := 356) (by decide +kernel)) (by decide +kernel)
theorem mL_X3_13 : Cond.methodLink RX3 13 yX4_mode ∈ BIG := mB (List.mem_of_getElem? (i := 360) (by decide +kernel)) (by decide +kernel)
theorem mL_X3_23 : Cond.methodLink RX3 23 yX4_owner ∈ BIG := mB (List.mem_of_getElem? (i := 364) (by decide +kernel)) (by decide +kernel)
theorem mL_X6_67 : Cond.methodLink RX6 67 yX6_passName ∈ BIG := mB (List.mem_of_getElem? (i := 368) (by decide +kernel)) (by decide +kernel)
theorem mG_X6_48 : Cond.constantLong RX6 48 11822 ∈ BIG := mB (List.mem_of_getElem? (i := 372) (by decide +kernel)) (by decide +kernel)
theorem mL_X6_116 : Cond.methodLink RX6 116 yX5_above ∈ BIG := mB (List.mem_of_getElem? (i := 373) (by decide +kernel)) (by decide +kernel)
theorem mL_X5_44 : Cond.methodLink RX5 44 yX5_ground ∈ BIG := mB (List.mem_of_getElem? (i := 377) (by decide +kernel)) (by decide +kernel)
theorem mL_X5_41 : Cond.methodLink RX5 41 yX5_mountedWithRoot ∈ BIG := mB (List.mem_of_getElem? (i := 381) (by decide +kernel)) (by decide +kernel)
theorem mL_X5_47 : Cond.methodLink RX5 47 yX4_parent ∈ BIG := mB (List.mem_of_getElem? (i := 385) (by decide +kernel)) (by decide +kernel)
theorem mL_X5_50 : Cond.methodLink RX5 50 yX5_top ∈ BIG := mB (List.mem_of_getElem? (i := 389) (by decide +kernel)) (by decide +kernel)
theorem mL_X5_38 : Cond.methodLink RX5 38 yX5_covering ∈ BIG := mB (List.mem_of_getElem? (i := 393) (by decide +kernel)) (by decide +kernel)
theorem mG_X6_46 : Cond.constantLong RX6 46 46 ∈ BIG := mB (List.mem_of_getElem? (i := 397) (by decide +kernel)) (by decide +kernel)
theorem mL_X6_122 : Cond.methodLink RX6 122 yX6_topUnder ∈ BIG := mB (List.mem_of_getElem? (i := 398) (by decide +kernel)) (by decide +kernel)
theorem mL_X6_137 : Cond.methodLink RX6 137 yX0_find ∈ BIG := mB (List.mem_of_getElem? (i := 402) (by decide +kernel)) (by decide +kernel)
theorem mL_X6_142 : Cond.methodLink RX6 142 yX0_object ∈ BIG := mB (List.mem_of_getElem? (i := 406) (by decide +kernel)) (by decide +kernel)
theorem mL_X6_146 : Cond.methodLink RX6 146 yX5_top ∈ BIG := mB (List.mem_of_getElem? (i := 410) (by decide +kernel)) (by decide +kernel)
theorem mL_X6_126 : Cond.methodLink RX6 126 yX4_isLink ∈ BIG := mB (List.mem_of_getElem? (i := 411) (by decide +kernel)) (by decide +kernel)
theorem mL_X6_129 : Cond.methodLink RX6 129 yX4_target ∈ BIG := mB (List.mem_of_getElem? (i := 415) (by decide +kernel)) (by decide +kernel)
theorem mL_X6_133 : Cond.methodLink RX6 133 yX6_passLink ∈ BIG := mB (List.mem_of_getElem? (i := 419) (by decide +kernel)) (by decide +kernel)
theorem mL_L_41 : Cond.methodLink RL 41 yX7_make ∈ BIG := mB (List.mem_of_getElem? (i := 423) (by decide +kernel)) (by decide +kernel)
theorem mL_X7_100 : Cond.methodLink RX7 100 yX7_mayBeMade ∈ BIG := mB (List.mem_of_getElem? (i := 427) (by decide +kernel)) (by decide +kernel)
theorem mL_X7_140 : Cond.methodLink RX7 140 yX1_isEmpty ∈ BIG := mB (List.mem_of_getElem? (i := 431) (by decide +kernel)) (by decide +kernel)
theorem mL_X7_143 : Cond.methodLink RX7 143 yX7_isMode ∈ BIG := mB (List.mem_of_getElem? (i := 432) (by decide +kernel)) (by decide +kernel)
theorem mL_X7_104 : Cond.methodLink RX7 104 yX7_comeToNewName ∈ BIG := mB (List.mem_of_getElem? (i := 435) (by decide +kernel)) (by decide +kernel)
theorem mL_X7_146 : Cond.methodLink RX7 146 yX1_hasSlashesAlone ∈ BIG := mB (List.mem_of_getElem? (i := 439) (by decide +kernel)) (by decide +kernel)
theorem mL_X7_149 : Cond.methodLink RX7 149 yX6_toLastName ∈ BIG := mB (List.mem_of_getElem? (i := 443) (by decide +kernel)) (by decide +kernel)
theorem mL_X7_153 : Cond.methodLink RX7 153 yX6_isOnDots ∈ BIG := mB (List.mem_of_getElem? (i := 447) (by decide +kernel)) (by decide +kernel)
theorem mL_X7_115 : Cond.methodLink RX7 115 yX6_place ∈ BIG := mB (List.mem_of_getElem? (i := 451) (by decide +kernel)) (by decide +kernel)
theorem mL_X7_133 : Cond.methodLink RX7 133 yX6_name ∈ BIG := mB (List.mem_of_getElem? (i := 455) (by decide +kernel)) (by decide +kernel)
theorem mL_X7_156 : Cond.methodLink RX7 156 yX0_find ∈ BIG := mB (List.mem_of_getElem? (i := 459) (by decide +kernel)) (by decide +kernel)
theorem mL_X7_160 : Cond.methodLink RX7 160 yX6_isSlashed ∈ BIG := mB (List.mem_of_getElem? (i := 460) (by decide +kernel)) (by decide +kernel)
theorem mL_X7_163 : Cond.methodLink RX7 163 yX3_may ∈ BIG := mB (List.mem_of_getElem? (i := 464) (by decide +kernel)) (by decide +kernel)
theorem mL_X7_108 : Cond.methodLink RX7 108 yX4_leastFree ∈ BIG := mB (List.mem_of_getElem? (i := 465) (by decide +kernel)) (by decide +kernel)
theorem mL_X7_111 : Cond.methodLink RX7 111 yX0_isFull ∈ BIG := mB (List.mem_of_getElem? (i := 469) (by decide +kernel)) (by decide +kernel)
theorem mL_X7_122 : Cond.methodLink RX7 122 yX4_volumeOf ∈ BIG := mB (List.mem_of_getElem? (i := 473) (by decide +kernel)) (by decide +kernel)
theorem mL_X7_125 : Cond.methodLink RX7 125 yX4_setParent ∈ BIG := mB (List.mem_of_getElem? (i := 477) (by decide +kernel)) (by decide +kernel)
theorem mL_X7_129 : Cond.methodLink RX7 129 yX4_setTarget ∈ BIG := mB (List.mem_of_getElem? (i := 481) (by decide +kernel)) (by decide +kernel)
theorem mL_X4_34 : Cond.methodLink RX4 34 yX1_copy ∈ BIG := mB (List.mem_of_getElem? (i := 486) (by decide +kernel)) (by decide +kernel)
theorem mL_X7_137 : Cond.methodLink RX7 137 yX0_add ∈ BIG := mB (List.mem_of_getElem? (i := 487) (by decide +kernel)) (by decide +kernel)
theorem mL_L_46 : Cond.methodLink RL 46 yX7_link ∈ BIG := mB (List.mem_of_getElem? (i := 491) (by decide +kernel)) (by decide +kernel)
theorem mL_X7_166 : Cond.methodLink RX7 166 yX4_isDirectory ∈ BIG := mB (List.mem_of_getElem? (i := 495) (by decide +kernel)) (by decide +kernel)
theorem mL_L_50 : Cond.methodLink RL 50 yX7_remove ∈ BIG := mB (List.mem_of_getElem? (i := 496) (by decide +kernel)) (by decide +kernel)
theorem mL_X7_169 : Cond.methodLink RX7 169 yX0_object ∈ BIG := mB (List.mem_of_getElem? (i := 500) (by decide +kernel)) (by decide +kernel)
theorem mL_X7_172 : Cond.methodLink RX7 172 yX7_whyNotRemove ∈ BIG := mB (List.mem_of_getElem? (i := 501) (by decide +kernel)) (by decide +kernel)
theorem mL_X7_185 : Cond.methodLink RX7 185 yX5_covering ∈ BIG := mB (List.mem_of_getElem? (i := 505) (by decide +kernel)) (by decide +kernel)
theorem mL_X7_194 : Cond.methodLink RX7 194 yX0_countIn ∈ BIG := mB (List.mem_of_getElem? (i := 506) (by decide +kernel)) (by decide +kernel)
theorem mL_X7_175 : Cond.methodLink RX7 175 yX0_drop ∈ BIG := mB (List.mem_of_getElem? (i := 510) (by decide +kernel)) (by decide +kernel)
theorem mL_X7_179 : Cond.methodLink RX7 179 yX0_countFor ∈ BIG := mB (List.mem_of_getElem? (i := 514) (by decide +kernel)) (by decide +kernel)
theorem mL_X7_182 : Cond.methodLink RX7 182 yX4_free ∈ BIG := mB (List.mem_of_getElem? (i := 518) (by decide +kernel)) (by decide +kernel)
theorem mL_L_54 : Cond.methodLink RL 54 yX7_volume ∈ BIG := mB (List.mem_of_getElem? (i := 522) (by decide +kernel)) (by decide +kernel)
theorem mL_X7_197 : Cond.methodLink RX7 197 yX5_isFull ∈ BIG := mB (List.mem_of_getElem? (i := 526) (by decide +kernel)) (by decide +kernel)
theorem mL_L_58 : Cond.methodLink RL 58 yX7_mount ∈ BIG := mB (List.mem_of_getElem? (i := 530) (by decide +kernel)) (by decide +kernel)
theorem mL_X7_198 : Cond.methodLink RX7 198 yX5_mayBeMounted ∈ BIG := mB (List.mem_of_getElem? (i := 534) (by decide +kernel)) (by decide +kernel)
theorem mL_X7_201 : Cond.methodLink RX7 201 yX5_isMounted ∈ BIG := mB (List.mem_of_getElem? (i := 538) (by decide +kernel)) (by decide +kernel)
theorem mL_X7_204 : Cond.methodLink RX7 204 yX7_isAtOrBelow ∈ BIG := mB (List.mem_of_getElem? (i := 542) (by decide +kernel)) (by decide +kernel)
theorem mL_X7_210 : Cond.methodLink RX7 210 yX5_above ∈ BIG := mB (List.mem_of_getElem? (i := 546) (by decide +kernel)) (by decide +kernel)
theorem mL_X7_207 : Cond.methodLink RX7 207 yX5_cover ∈ BIG := mB (List.mem_of_getElem? (i := 547) (by decide +kernel)) (by decide +kernel)
theorem mL_L_62 : Cond.methodLink RL 62 yX7_unmount ∈ BIG := mB (List.mem_of_getElem? (i := 551) (by decide +kernel)) (by decide +kernel)
theorem mL_X7_214 : Cond.methodLink RX7 214 yX5_mountedWithRoot ∈ BIG := mB (List.mem_of_getElem? (i := 555) (by decide +kernel)) (by decide +kernel)
theorem mL_X7_217 : Cond.methodLink RX7 217 yX5_hasCovered ∈ BIG := mB (List.mem_of_getElem? (i := 556) (by decide +kernel)) (by decide +kernel)
theorem mL_X5_32 : Cond.methodLink RX5 32 yX4_volumeOf ∈ BIG := mB (List.mem_of_getElem? (i := 560) (by decide +kernel)) (by decide +kernel)
theorem mL_X7_220 : Cond.methodLink RX7 220 yX5_uncover ∈ BIG := mB (List.mem_of_getElem? (i := 561) (by decide +kernel)) (by decide +kernel)
theorem mL_L_66 : Cond.methodLink RL 66 yX7_enter ∈ BIG := mB (List.mem_of_getElem? (i := 565) (by decide +kernel)) (by decide +kernel)
theorem mL_L_70 : Cond.methodLink RL 70 yX7_user ∈ BIG := mB (List.mem_of_getElem? (i := 569) (by decide +kernel)) (by decide +kernel)
theorem mL_L_74 : Cond.methodLink RL 74 yX7_change ∈ BIG := mB (List.mem_of_getElem? (i := 573) (by decide +kernel)) (by decide +kernel)
theorem mL_X7_223 : Cond.methodLink RX7 223 yX4_owner ∈ BIG := mB (List.mem_of_getElem? (i := 577) (by decide +kernel)) (by decide +kernel)
theorem mL_X7_226 : Cond.methodLink RX7 226 yX4_mode ∈ BIG := mB (List.mem_of_getElem? (i := 578) (by decide +kernel)) (by decide +kernel)
theorem mL_X7_229 : Cond.methodLink RX7 229 yX4_setMode ∈ BIG := mB (List.mem_of_getElem? (i := 579) (by decide +kernel)) (by decide +kernel)
theorem mL_L_78 : Cond.methodLink RL 78 yX7_path ∈ BIG := mB (List.mem_of_getElem? (i := 583) (by decide +kernel)) (by decide +kernel)
theorem mL_X7_232 : Cond.methodLink RX7 232 yX2_clear ∈ BIG := mB (List.mem_of_getElem? (i := 587) (by decide +kernel)) (by decide +kernel)
theorem mL_X7_233 : Cond.methodLink RX7 233 yX5_ground ∈ BIG := mB (List.mem_of_getElem? (i := 588) (by decide +kernel)) (by decide +kernel)
theorem mL_X7_236 : Cond.methodLink RX7 236 yX0_nameFor ∈ BIG := mB (List.mem_of_getElem? (i := 589) (by decide +kernel)) (by decide +kernel)
theorem mL_X7_240 : Cond.methodLink RX7 240 yX2_putNameBefore ∈ BIG := mB (List.mem_of_getElem? (i := 593) (by decide +kernel)) (by decide +kernel)
theorem mG_X2_33 : Cond.constantLong RX2 33 255 ∈ BIG := mB (List.mem_of_getElem? (i := 597) (by decide +kernel)) (by decide +kernel)
theorem mL_X7_244 : Cond.methodLink RX7 244 yX2_size ∈ BIG := mB (List.mem_of_getElem? (i := 598) (by decide +kernel)) (by decide +kernel)
theorem mL_X7_245 : Cond.methodLink RX7 245 yX2_isEmpty ∈ BIG := mB (List.mem_of_getElem? (i := 599) (by decide +kernel)) (by decide +kernel)
theorem mL_X7_246 : Cond.methodLink RX7 246 yX2_putBefore ∈ BIG := mB (List.mem_of_getElem? (i := 600) (by decide +kernel)) (by decide +kernel)
theorem mL_X7_249 : Cond.methodLink RX7 249 yX2_take ∈ BIG := mB (List.mem_of_getElem? (i := 601) (by decide +kernel)) (by decide +kernel)
theorem mL_L_82 : Cond.methodLink RL 82 yX7_kind ∈ BIG := mB (List.mem_of_getElem? (i := 602) (by decide +kernel)) (by decide +kernel)
theorem mL_X7_253 : Cond.methodLink RX7 253 yX4_sort ∈ BIG := mB (List.mem_of_getElem? (i := 606) (by decide +kernel)) (by decide +kernel)
theorem mL_L_86 : Cond.methodLink RL 86 yX7_about ∈ BIG := mB (List.mem_of_getElem? (i := 610) (by decide +kernel)) (by decide +kernel)
theorem mL_X7_256 : Cond.methodLink RX7 256 yX7_kind ∈ BIG := mB (List.mem_of_getElem? (i := 614) (by decide +kernel)) (by decide +kernel)
theorem mL_L_90 : Cond.methodLink RL 90 yX7_entry ∈ BIG := mB (List.mem_of_getElem? (i := 615) (by decide +kernel)) (by decide +kernel)
theorem mL_X7_259 : Cond.methodLink RX7 259 yX0_findNth ∈ BIG := mB (List.mem_of_getElem? (i := 619) (by decide +kernel)) (by decide +kernel)
theorem mQ_L_10 : Cond.classLink RL 10 RX8 ∈ BIG := mB (List.mem_of_getElem? (i := 623) (by decide +kernel)) (by decide +kernel)
theorem mL_L_12 : Cond.methodLink RL 12 yX8_init ∈ BIG := mB (List.mem_of_getElem? (i := 625) (by decide +kernel)) (by decide +kernel)
theorem mL_X8_1 : Cond.methodLink RX8 1 objectInit ∈ BIG := mB (List.mem_of_getElem? (i := 628) (by decide +kernel)) (by decide +kernel)
theorem mF_X8_7 : Cond.fieldLink RX8 7 RX8 "kinds" "[I" ∈ BIG := mB (List.mem_of_getElem? (i := 629) (by decide +kernel)) (by decide +kernel)
theorem mF_X8_13 : Cond.fieldLink RX8 13 RX8 "modes" "[I" ∈ BIG := mB (List.mem_of_getElem? (i := 630) (by decide +kernel)) (by decide +kernel)
theorem mF_X8_16 : Cond.fieldLink RX8 16 RX8 "owners" "[I" ∈ BIG := mB (List.mem_of_getElem? (i := 631) (by decide +kernel)) (by decide +kernel)
theorem mF_X8_19 : Cond.fieldLink RX8 19 RX8 "volumes" "[I" ∈ BIG := mB (List.mem_of_getElem? (i := 632) (by decide +kernel)) (by decide +kernel)
theorem mF_X8_22 : Cond.fieldLink RX8 22 RX8 "parents" "[I" ∈ BIG := mB (List.mem_of_getElem? (i := 633) (by decide +kernel)) (by decide +kernel)
theorem mF_X8_25 : Cond.fieldLink RX8 25 RX8 "linkText" "[I" ∈ BIG := mB (List.mem_of_getElem? (i := 634) (by decide +kernel)) (by decide +kernel)
theorem mF_X8_28 : Cond.fieldLink RX8 28 RX8 "linkLength" "[I" ∈ BIG := mB (List.mem_of_getElem? (i := 635) (by decide +kernel)) (by decide +kernel)
theorem mF_X8_82 : Cond.fieldLink RX8 82 RX8 "entries" "I" ∈ BIG := mB (List.mem_of_getElem? (i := 636) (by decide +kernel)) (by decide +kernel)
theorem mF_X8_31 : Cond.fieldLink RX8 31 RX8 "holder" "[I" ∈ BIG := mB (List.mem_of_getElem? (i := 637) (by decide +kernel)) (by decide +kernel)
theorem mF_X8_34 : Cond.fieldLink RX8 34 RX8 "names" "[J" ∈ BIG := mB (List.mem_of_getElem? (i := 638) (by decide +kernel)) (by decide +kernel)
theorem mF_X8_38 : Cond.fieldLink RX8 38 RX8 "held" "[I" ∈ BIG := mB (List.mem_of_getElem? (i := 639) (by decide +kernel)) (by decide +kernel)
theorem mF_X8_41 : Cond.fieldLink RX8 41 RX8 "volumeCount" "I" ∈ BIG := mB (List.mem_of_getElem? (i := 640) (by decide +kernel)) (by decide +kernel)
theorem mF_X8_45 : Cond.fieldLink RX8 45 RX8 "volumeRoot" "[I" ∈ BIG := mB (List.mem_of_getElem? (i := 641) (by decide +kernel)) (by decide +kernel)
theorem mF_X8_48 : Cond.fieldLink RX8 48 RX8 "covered" "[I" ∈ BIG := mB (List.mem_of_getElem? (i := 642) (by decide +kernel)) (by decide +kernel)
theorem mF_X8_66 : Cond.fieldLink RX8 66 RX8 "user" "I" ∈ BIG := mB (List.mem_of_getElem? (i := 643) (by decide +kernel)) (by decide +kernel)
theorem mF_X8_108 : Cond.fieldLink RX8 108 RX8 "root" "I" ∈ BIG := mB (List.mem_of_getElem? (i := 644) (by decide +kernel)) (by decide +kernel)
theorem mF_X8_111 : Cond.fieldLink RX8 111 RX8 "present" "I" ∈ BIG := mB (List.mem_of_getElem? (i := 645) (by decide +kernel)) (by decide +kernel)
theorem mF_X8_51 : Cond.fieldLink RX8 51 RX8 "text" "[I" ∈ BIG := mB (List.mem_of_getElem? (i := 646) (by decide +kernel)) (by decide +kernel)
theorem mF_X8_60 : Cond.fieldLink RX8 60 RX8 "size" "I" ∈ BIG := mB (List.mem_of_getElem? (i := 647) (by decide +kernel)) (by decide +kernel)
theorem mF_X8_54 : Cond.fieldLink RX8 54 RX8 "second" "[I" ∈ BIG := mB (List.mem_of_getElem? (i := 648) (by decide +kernel)) (by decide +kernel)
theorem mF_X8_63 : Cond.fieldLink RX8 63 RX8 "secondSize" "I" ∈ BIG := mB (List.mem_of_getElem? (i := 649) (by decide +kernel)) (by decide +kernel)
theorem mF_X8_57 : Cond.fieldLink RX8 57 RX8 "rest" "[I" ∈ BIG := mB (List.mem_of_getElem? (i := 650) (by decide +kernel)) (by decide +kernel)
theorem mF_X8_85 : Cond.fieldLink RX8 85 RX8 "restSize" "I" ∈ BIG := mB (List.mem_of_getElem? (i := 651) (by decide +kernel)) (by decide +kernel)
theorem mF_X8_114 : Cond.fieldLink RX8 114 RX8 "at" "I" ∈ BIG := mB (List.mem_of_getElem? (i := 652) (by decide +kernel)) (by decide +kernel)
theorem mF_X8_117 : Cond.fieldLink RX8 117 RX8 "hops" "I" ∈ BIG := mB (List.mem_of_getElem? (i := 653) (by decide +kernel)) (by decide +kernel)
theorem mF_X8_92 : Cond.fieldLink RX8 92 RX8 "name" "J" ∈ BIG := mB (List.mem_of_getElem? (i := 654) (by decide +kernel)) (by decide +kernel)
theorem mF_X8_98 : Cond.fieldLink RX8 98 RX8 "nameSize" "I" ∈ BIG := mB (List.mem_of_getElem? (i := 655) (by decide +kernel)) (by decide +kernel)
theorem mF_X8_105 : Cond.fieldLink RX8 105 RX8 "last" "Z" ∈ BIG := mB (List.mem_of_getElem? (i := 656) (by decide +kernel)) (by decide +kernel)
theorem mF_X8_101 : Cond.fieldLink RX8 101 RX8 "slashed" "Z" ∈ BIG := mB (List.mem_of_getElem? (i := 657) (by decide +kernel)) (by decide +kernel)
theorem mL_L_17 : Cond.methodLink RL 17 yX8_type ∈ BIG := mB (List.mem_of_getElem? (i := 717) (by decide +kernel)) (by decide +kernel)
theorem mL_L_21 : Cond.methodLink RL 21 yX8_wipe ∈ BIG := mB (List.mem_of_getElem? (i := 721) (by decide +kernel)) (by decide +kernel)
theorem mL_L_25 : Cond.methodLink RL 25 yX8_keep ∈ BIG := mB (List.mem_of_getElem? (i := 725) (by decide +kernel)) (by decide +kernel)
theorem mL_L_30 : Cond.methodLink RL 30 yX8_length ∈ BIG := mB (List.mem_of_getElem? (i := 729) (by decide +kernel)) (by decide +kernel)
theorem mL_L_35 : Cond.methodLink RL 35 yX8_at ∈ BIG := mB (List.mem_of_getElem? (i := 733) (by decide +kernel)) (by decide +kernel)
theorem mL_L_40 : Cond.methodLink RL 40 yX8_resolve ∈ BIG := mB (List.mem_of_getElem? (i := 737) (by decide +kernel)) (by decide +kernel)
theorem mL_X8_157 : Cond.methodLink RX8 157 yX8_walk ∈ BIG := mB (List.mem_of_getElem? (i := 741) (by decide +kernel)) (by decide +kernel)
theorem mL_X8_139 : Cond.methodLink RX8 139 yX8_begin ∈ BIG := mB (List.mem_of_getElem? (i := 745) (by decide +kernel)) (by decide +kernel)
theorem mL_X8_143 : Cond.methodLink RX8 143 yX8_takeSlashes ∈ BIG := mB (List.mem_of_getElem? (i := 749) (by decide +kernel)) (by decide +kernel)
theorem mL_X8_88 : Cond.methodLink RX8 88 yX8_dropRest ∈ BIG := mB (List.mem_of_getElem? (i := 753) (by decide +kernel)) (by decide +kernel)
theorem mL_X8_146 : Cond.methodLink RX8 146 yX8_takeName ∈ BIG := mB (List.mem_of_getElem? (i := 757) (by decide +kernel)) (by decide +kernel)
theorem mG_X8_96 : Cond.constantLong RX8 96 128 ∈ BIG := mB (List.mem_of_getElem? (i := 761) (by decide +kernel)) (by decide +kernel)
theorem mL_X8_149 : Cond.methodLink RX8 149 yX8_against ∈ BIG := mB (List.mem_of_getElem? (i := 762) (by decide +kernel)) (by decide +kernel)
theorem mL_X8_120 : Cond.methodLink RX8 120 yX8_may ∈ BIG := mB (List.mem_of_getElem? (i := 766) (by decide +kernel)) (by decide +kernel)
theorem mL_X8_153 : Cond.methodLink RX8 153 yX8_step ∈ BIG := mB (List.mem_of_getElem? (i := 770) (by decide +kernel)) (by decide +kernel)
theorem mG_X8_124 : Cond.constantLong RX8 124 5934 ∈ BIG := mB (List.mem_of_getElem? (i := 774) (by decide +kernel)) (by decide +kernel)
theorem mL_X8_126 : Cond.methodLink RX8 126 yX8_above ∈ BIG := mB (List.mem_of_getElem? (i := 775) (by decide +kernel)) (by decide +kernel)
theorem mL_X8_76 : Cond.methodLink RX8 76 yX8_seat ∈ BIG := mB (List.mem_of_getElem? (i := 779) (by decide +kernel)) (by decide +kernel)
theorem mL_X8_73 : Cond.methodLink RX8 73 yX8_mountedAt ∈ BIG := mB (List.mem_of_getElem? (i := 783) (by decide +kernel)) (by decide +kernel)
theorem mL_X8_79 : Cond.methodLink RX8 79 yX8_top ∈ BIG := mB (List.mem_of_getElem? (i := 787) (by decide +kernel)) (by decide +kernel)
theorem mL_X8_69 : Cond.methodLink RX8 69 yX8_coverOf ∈ BIG := mB (List.mem_of_getElem? (i := 791) (by decide +kernel)) (by decide +kernel)
theorem mG_X8_130 : Cond.constantLong RX8 130 46 ∈ BIG := mB (List.mem_of_getElem? (i := 795) (by decide +kernel)) (by decide +kernel)
theorem mL_X8_132 : Cond.methodLink RX8 132 yX8_find ∈ BIG := mB (List.mem_of_getElem? (i := 796) (by decide +kernel)) (by decide +kernel)
theorem mL_X8_136 : Cond.methodLink RX8 136 yX8_putBefore ∈ BIG := mB (List.mem_of_getElem? (i := 800) (by decide +kernel)) (by decide +kernel)
theorem mL_L_45 : Cond.methodLink RL 45 yX8_make ∈ BIG := mB (List.mem_of_getElem? (i := 804) (by decide +kernel)) (by decide +kernel)
theorem mL_X8_171 : Cond.methodLink RX8 171 yX8_newName ∈ BIG := mB (List.mem_of_getElem? (i := 808) (by decide +kernel)) (by decide +kernel)
theorem mL_X8_161 : Cond.methodLink RX8 161 yX8_slashesAlone ∈ BIG := mB (List.mem_of_getElem? (i := 812) (by decide +kernel)) (by decide +kernel)
theorem mL_X8_165 : Cond.methodLink RX8 165 yX8_come ∈ BIG := mB (List.mem_of_getElem? (i := 816) (by decide +kernel)) (by decide +kernel)
theorem mL_X8_168 : Cond.methodLink RX8 168 yX8_dots ∈ BIG := mB (List.mem_of_getElem? (i := 820) (by decide +kernel)) (by decide +kernel)
theorem mL_X8_174 : Cond.methodLink RX8 174 yX8_freeObject ∈ BIG := mB (List.mem_of_getElem? (i := 824) (by decide +kernel)) (by decide +kernel)
theorem mL_X8_177 : Cond.methodLink RX8 177 yX8_addEntry ∈ BIG := mB (List.mem_of_getElem? (i := 828) (by decide +kernel)) (by decide +kernel)
theorem mL_L_49 : Cond.methodLink RL 49 yX8_link ∈ BIG := mB (List.mem_of_getElem? (i := 832) (by decide +kernel)) (by decide +kernel)
theorem mL_L_53 : Cond.methodLink RL 53 yX8_remove ∈ BIG := mB (List.mem_of_getElem? (i := 836) (by decide +kernel)) (by decide +kernel)
theorem mL_X8_180 : Cond.methodLink RX8 180 yX8_entriesOf ∈ BIG := mB (List.mem_of_getElem? (i := 840) (by decide +kernel)) (by decide +kernel)
theorem mL_X8_183 : Cond.methodLink RX8 183 yX8_entriesFor ∈ BIG := mB (List.mem_of_getElem? (i := 844) (by decide +kernel)) (by decide +kernel)
theorem mL_L_57 : Cond.methodLink RL 57 yX8_volume ∈ BIG := mB (List.mem_of_getElem? (i := 848) (by decide +kernel)) (by decide +kernel)
theorem mL_L_61 : Cond.methodLink RL 61 yX8_mount ∈ BIG := mB (List.mem_of_getElem? (i := 852) (by decide +kernel)) (by decide +kernel)
theorem mL_X8_186 : Cond.methodLink RX8 186 yX8_below ∈ BIG := mB (List.mem_of_getElem? (i := 856) (by decide +kernel)) (by decide +kernel)
theorem mL_L_65 : Cond.methodLink RL 65 yX8_unmount ∈ BIG := mB (List.mem_of_getElem? (i := 860) (by decide +kernel)) (by decide +kernel)
theorem mL_L_69 : Cond.methodLink RL 69 yX8_enter ∈ BIG := mB (List.mem_of_getElem? (i := 864) (by decide +kernel)) (by decide +kernel)
theorem mL_L_73 : Cond.methodLink RL 73 yX8_user ∈ BIG := mB (List.mem_of_getElem? (i := 868) (by decide +kernel)) (by decide +kernel)
theorem mL_L_77 : Cond.methodLink RL 77 yX8_change ∈ BIG := mB (List.mem_of_getElem? (i := 872) (by decide +kernel)) (by decide +kernel)
theorem mL_L_81 : Cond.methodLink RL 81 yX8_path ∈ BIG := mB (List.mem_of_getElem? (i := 876) (by decide +kernel)) (by decide +kernel)
theorem mL_X8_189 : Cond.methodLink RX8 189 yX8_nameOf ∈ BIG := mB (List.mem_of_getElem? (i := 880) (by decide +kernel)) (by decide +kernel)
theorem mL_X8_193 : Cond.methodLink RX8 193 yX8_characters ∈ BIG := mB (List.mem_of_getElem? (i := 884) (by decide +kernel)) (by decide +kernel)
theorem mG_X8_197 : Cond.constantLong RX8 197 127 ∈ BIG := mB (List.mem_of_getElem? (i := 887) (by decide +kernel)) (by decide +kernel)
theorem mL_L_85 : Cond.methodLink RL 85 yX8_kind ∈ BIG := mB (List.mem_of_getElem? (i := 888) (by decide +kernel)) (by decide +kernel)
theorem mL_X8_199 : Cond.methodLink RX8 199 yX8_there ∈ BIG := mB (List.mem_of_getElem? (i := 892) (by decide +kernel)) (by decide +kernel)
theorem mL_L_89 : Cond.methodLink RL 89 yX8_about ∈ BIG := mB (List.mem_of_getElem? (i := 896) (by decide +kernel)) (by decide +kernel)
theorem mL_L_93 : Cond.methodLink RL 93 yX8_entry ∈ BIG := mB (List.mem_of_getElem? (i := 900) (by decide +kernel)) (by decide +kernel)
theorem mO_I : Cond.instanceMethod objectInit ∈ BIG := mB (List.mem_of_getElem? (i := 54) (by decide +kernel)) (by decide +kernel)
theorem mO_C : Cond.code objectInit ⟨#[0xb1]⟩ 1 none ∈ BIG := mB (List.mem_of_getElem? (i := 55) (by decide +kernel)) (by decide +kernel)
theorem mY_n : Cond.native arraycopyName ∈ BIG := mB (List.mem_of_getElem? (i := 277) (by decide +kernel)) (by decide +kernel)
theorem mY_s : Cond.static arraycopyName ∈ BIG := mB (List.mem_of_getElem? (i := 276) (by decide +kernel)) (by decide +kernel)
theorem mY_i : Cond.initialized "java/lang/System" ∈ BIG := mB (List.mem_of_getElem? (i := 47) (by decide +kernel)) (by decide +kernel)
def nestW : List Cond := [.methodLinkNest RX7 9 yX1_init RX7, .methodLinkNest RX7 21 yX2_init RX7, .methodLinkNest RX7 28 yX4_init RX7, .methodLinkNest RX7 35 yX0_init RX7, .fieldLinkNest RX7 118 RX3 "user" "I" RX7, .fieldLinkNest RX6 84 RX3 "root" "I" RX7, .fieldLinkNest RX7 188 RX3 "root" "I" RX7, .fieldLinkNest RX6 89 RX3 "present" "I" RX7, .fieldLinkNest RX7 191 RX3 "present" "I" RX7, .methodLinkNest RX6 11 yX2_init RX7, .methodLinkNest RX4 33 yX1_init RX7]
theorem nestT : ∀ w ∈ nestW, w ∈ lw_tbl := by
  intro w h
  simp only [nestW, List.mem_cons, List.not_mem_nil, or_false] at h
  rcases h with rfl | rfl | rfl | rfl | rfl | rfl | rfl | rfl | rfl | rfl | rfl
  · exact List.mem_of_getElem? (i := 58) (by decide +kernel)
  · exact List.mem_of_getElem? (i := 72) (by decide +kernel)
  · exact List.mem_of_getElem? (i := 85) (by decide +kernel)
  · exact List.mem_of_getElem? (i := 113) (by decide +kernel)
  · exact List.mem_of_getElem? (i := 161) (by decide +kernel)
  · exact List.mem_of_getElem? (i := 162) (by decide +kernel)
  · exact List.mem_of_getElem? (i := 163) (by decide +kernel)
  · exact List.mem_of_getElem? (i := 164) (by decide +kernel)
  · exact List.mem_of_getElem? (i := 165) (by decide +kernel)
  · exact List.mem_of_getElem? (i := 182) (by decide +kernel)
  · exact List.mem_of_getElem? (i := 485) (by decide +kernel)
def NW (U : State) : Prop := (∀ w ∈ nestW, va_Nw w U) ∧ va_AO RX1 U
theorem NW.warm {s U : State} (hW : s.WarmedH U.vm) (h : NW s) : NW U := by
  refine ⟨fun w hw => ?_, va_AO.moved hW.alike h.2⟩
  have hZ := h.1 w hw
  simp only [nestW, List.mem_cons, List.not_mem_nil, or_false] at hw
  rcases hw with rfl | rfl | rfl | rfl | rfl | rfl | rfl | rfl | rfl | rfl | rfl
  · exact va_Nw.warmM hW hZ
  · exact va_Nw.warmM hW hZ
  · exact va_Nw.warmM hW hZ
  · exact va_Nw.warmM hW hZ
  · exact va_Nw.warmF hW hZ
  · exact va_Nw.warmF hW hZ
  · exact va_Nw.warmF hW hZ
  · exact va_Nw.warmF hW hZ
  · exact va_Nw.warmF hW hZ
  · exact va_Nw.warmM hW hZ
  · exact va_Nw.warmM hW hZ
theorem NW.same {s U : State} (hv : s.vm = U.vm) (h : NW s) : NW U := by
  refine ⟨fun w hw => ?_, va_AO.moved (hv ▸ Vm.Alike.refl s.vm) h.2⟩
  have hZ := h.1 w hw
  simp only [nestW, List.mem_cons, List.not_mem_nil, or_false] at hw
  rcases hw with rfl | rfl | rfl | rfl | rfl | rfl | rfl | rfl | rfl | rfl | rfl
  · exact va_Nw.same rfl hv hZ
  · exact va_Nw.same rfl hv hZ
  · exact va_Nw.same rfl hv hZ
  · exact va_Nw.same rfl hv hZ
  · exact va_Nw.same rfl hv hZ
  · exact va_Nw.same rfl hv hZ
  · exact va_Nw.same rfl hv hZ
  · exact va_Nw.same rfl hv hZ
  · exact va_Nw.same rfl hv hZ
  · exact va_Nw.same rfl hv hZ
  · exact va_Nw.same rfl hv hZ
theorem aoT : Cond.arrayOver (.object RX1) ∈ lw_tbl := List.mem_of_getElem? (i := 90) (by decide +kernel)
theorem nw_0 {U : State} (h : NW U) : va_Nw (.methodLinkNest RX7 9 yX1_init RX7) U := h.1 _ (by simp [nestW])
theorem nw_1 {U : State} (h : NW U) : va_Nw (.methodLinkNest RX7 21 yX2_init RX7) U := h.1 _ (by simp [nestW])
theorem nw_2 {U : State} (h : NW U) : va_Nw (.methodLinkNest RX7 28 yX4_init RX7) U := h.1 _ (by simp [nestW])
theorem nw_3 {U : State} (h : NW U) : va_Nw (.methodLinkNest RX7 35 yX0_init RX7) U := h.1 _ (by simp [nestW])
theorem nw_4 {U : State} (h : NW U) : va_Nw (.fieldLinkNest RX7 118 RX3 "user" "I" RX7) U := h.1 _ (by simp [nestW])
theorem nw_5 {U : State} (h : NW U) : va_Nw (.fieldLinkNest RX6 84 RX3 "root" "I" RX7) U := h.1 _ (by simp [nestW])
theorem nw_6 {U : State} (h : NW U) : va_Nw (.fieldLinkNest RX7 188 RX3 "root" "I" RX7) U := h.1 _ (by simp [nestW])
theorem nw_7 {U : State} (h : NW U) : va_Nw (.fieldLinkNest RX6 89 RX3 "present" "I" RX7) U := h.1 _ (by simp [nestW])
theorem nw_8 {U : State} (h : NW U) : va_Nw (.fieldLinkNest RX7 191 RX3 "present" "I" RX7) U := h.1 _ (by simp [nestW])
theorem nw_9 {U : State} (h : NW U) : va_Nw (.methodLinkNest RX6 11 yX2_init RX7) U := h.1 _ (by simp [nestW])
theorem nw_10 {U : State} (h : NW U) : va_Nw (.methodLinkNest RX4 33 yX1_init RX7) U := h.1 _ (by simp [nestW])
end
section
theorem dX7_init_0 : decode cX7_init 0 = .ok (.aload_n 0, 1) := by decide +kernel
theorem dX7_init_1 : decode cX7_init 1 = .ok (.invokespecial 1, 3) := by decide +kernel
theorem dX7_init_4 : decode cX7_init 4 = .ok (.aload_n 0, 1) := by decide +kernel
theorem dX7_init_5 : decode cX7_init 5 = .ok (.new 7, 3) := by decide +kernel
theorem dX7_init_8 : decode cX7_init 8 = .ok (.dup, 1) := by decide +kernel
theorem dX7_init_9 : decode cX7_init 9 = .ok (.invokespecial 9, 3) := by decide +kernel
theorem dX7_init_12 : decode cX7_init 12 = .ok (.putfield 10, 3) := by decide +kernel
theorem dX7_init_15 : decode cX7_init 15 = .ok (.aload_n 0, 1) := by decide +kernel
theorem dX7_init_16 : decode cX7_init 16 = .ok (.new 7, 3) := by decide +kernel
theorem dX7_init_19 : decode cX7_init 19 = .ok (.dup, 1) := by decide +kernel
theorem dX7_init_20 : decode cX7_init 20 = .ok (.invokespecial 9, 3) := by decide +kernel
theorem dX7_init_23 : decode cX7_init 23 = .ok (.putfield 16, 3) := by decide +kernel
theorem dX7_init_26 : decode cX7_init 26 = .ok (.aload_n 0, 1) := by decide +kernel
theorem dX7_init_27 : decode cX7_init 27 = .ok (.new 19, 3) := by decide +kernel
theorem dX7_init_30 : decode cX7_init 30 = .ok (.dup, 1) := by decide +kernel
theorem dX7_init_31 : decode cX7_init 31 = .ok (.invokespecial 21, 3) := by decide +kernel
theorem dX7_init_34 : decode cX7_init 34 = .ok (.putfield 22, 3) := by decide +kernel
theorem dX7_init_37 : decode cX7_init 37 = .ok (.aload_n 0, 1) := by decide +kernel
theorem dX7_init_38 : decode cX7_init 38 = .ok (.new 26, 3) := by decide +kernel
theorem dX7_init_41 : decode cX7_init 41 = .ok (.dup, 1) := by decide +kernel
theorem dX7_init_42 : decode cX7_init 42 = .ok (.invokespecial 28, 3) := by decide +kernel
theorem dX7_init_45 : decode cX7_init 45 = .ok (.putfield 29, 3) := by decide +kernel
theorem dX7_init_48 : decode cX7_init 48 = .ok (.aload_n 0, 1) := by decide +kernel
theorem dX7_init_49 : decode cX7_init 49 = .ok (.new 33, 3) := by decide +kernel
theorem dX7_init_52 : decode cX7_init 52 = .ok (.dup, 1) := by decide +kernel
theorem dX7_init_53 : decode cX7_init 53 = .ok (.invokespecial 35, 3) := by decide +kernel
theorem dX7_init_56 : decode cX7_init 56 = .ok (.putfield 36, 3) := by decide +kernel
theorem dX7_init_59 : decode cX7_init 59 = .ok (.aload_n 0, 1) := by decide +kernel
theorem dX7_init_60 : decode cX7_init 60 = .ok (.new 40, 3) := by decide +kernel
theorem dX7_init_63 : decode cX7_init 63 = .ok (.dup, 1) := by decide +kernel
theorem dX7_init_64 : decode cX7_init 64 = .ok (.aload_n 0, 1) := by decide +kernel
theorem dX7_init_65 : decode cX7_init 65 = .ok (.getfield 29, 3) := by decide +kernel
theorem dX7_init_68 : decode cX7_init 68 = .ok (.invokespecial 42, 3) := by decide +kernel
theorem dX7_init_71 : decode cX7_init 71 = .ok (.putfield 45, 3) := by decide +kernel
theorem dX7_init_74 : decode cX7_init 74 = .ok (.aload_n 0, 1) := by decide +kernel
theorem dX7_init_75 : decode cX7_init 75 = .ok (.new 49, 3) := by decide +kernel
theorem dX7_init_78 : decode cX7_init 78 = .ok (.dup, 1) := by decide +kernel
theorem dX7_init_79 : decode cX7_init 79 = .ok (.aload_n 0, 1) := by decide +kernel
theorem dX7_init_80 : decode cX7_init 80 = .ok (.getfield 29, 3) := by decide +kernel
theorem dX7_init_83 : decode cX7_init 83 = .ok (.invokespecial 51, 3) := by decide +kernel
theorem dX7_init_86 : decode cX7_init 86 = .ok (.putfield 52, 3) := by decide +kernel
theorem dX7_init_89 : decode cX7_init 89 = .ok (.aload_n 0, 1) := by decide +kernel
theorem dX7_init_90 : decode cX7_init 90 = .ok (.new 56, 3) := by decide +kernel
theorem dX7_init_93 : decode cX7_init 93 = .ok (.dup, 1) := by decide +kernel
theorem dX7_init_94 : decode cX7_init 94 = .ok (.aload_n 0, 1) := by decide +kernel
theorem dX7_init_95 : decode cX7_init 95 = .ok (.getfield 29, 3) := by decide +kernel
theorem dX7_init_98 : decode cX7_init 98 = .ok (.aload_n 0, 1) := by decide +kernel
theorem dX7_init_99 : decode cX7_init 99 = .ok (.getfield 36, 3) := by decide +kernel
theorem dX7_init_102 : decode cX7_init 102 = .ok (.aload_n 0, 1) := by decide +kernel
theorem dX7_init_103 : decode cX7_init 103 = .ok (.getfield 45, 3) := by decide +kernel
theorem dX7_init_106 : decode cX7_init 106 = .ok (.aload_n 0, 1) := by decide +kernel
theorem dX7_init_107 : decode cX7_init 107 = .ok (.getfield 52, 3) := by decide +kernel
theorem dX7_init_110 : decode cX7_init 110 = .ok (.invokespecial 58, 3) := by decide +kernel
theorem dX7_init_113 : decode cX7_init 113 = .ok (.putfield 61, 3) := by decide +kernel
theorem dX7_init_116 : decode cX7_init 116 = .ok (.aload_n 0, 1) := by decide +kernel
theorem dX7_init_117 : decode cX7_init 117 = .ok (.getfield 29, 3) := by decide +kernel
theorem dX7_init_120 : decode cX7_init 120 = .ok (.iconst 0, 1) := by decide +kernel
theorem dX7_init_121 : decode cX7_init 121 = .ok (.iconst 1, 1) := by decide +kernel
theorem dX7_init_122 : decode cX7_init 122 = .ok (.bipush 15, 2) := by decide +kernel
theorem dX7_init_124 : decode cX7_init 124 = .ok (.iconst 0, 1) := by decide +kernel
theorem dX7_init_125 : decode cX7_init 125 = .ok (.aload_n 0, 1) := by decide +kernel
theorem dX7_init_126 : decode cX7_init 126 = .ok (.getfield 45, 3) := by decide +kernel
theorem dX7_init_129 : decode cX7_init 129 = .ok (.iconst 0, 1) := by decide +kernel
theorem dX7_init_130 : decode cX7_init 130 = .ok (.invokevirtual 65, 3) := by decide +kernel
theorem dX7_init_133 : decode cX7_init 133 = .ok (.invokevirtual 69, 3) := by decide +kernel
theorem dX7_init_136 : decode cX7_init 136 = .ok (.return_, 1) := by decide +kernel
theorem dX7_type_0 : decode cX7_type 0 = .ok (.iconst 0, 1) := by decide +kernel
theorem dX7_type_1 : decode cX7_type 1 = .ok (.istore_n 2, 1) := by decide +kernel
theorem dX7_type_2 : decode cX7_type 2 = .ok (.bipush 24, 2) := by decide +kernel
theorem dX7_type_4 : decode cX7_type 4 = .ok (.istore_n 3, 1) := by decide +kernel
theorem dX7_type_5 : decode cX7_type 5 = .ok (.iload_n 3, 1) := by decide +kernel
theorem dX7_type_6 : decode cX7_type 6 = .ok (.ifCond .lt 52, 3) := by decide +kernel
theorem dX7_type_9 : decode cX7_type 9 = .ok (.iload_n 1, 1) := by decide +kernel
theorem dX7_type_10 : decode cX7_type 10 = .ok (.iload_n 3, 1) := by decide +kernel
theorem dX7_type_11 : decode cX7_type 11 = .ok (.iushr, 1) := by decide +kernel
theorem dX7_type_12 : decode cX7_type 12 = .ok (.sipush 255, 3) := by decide +kernel
theorem dX7_type_15 : decode cX7_type 15 = .ok (.iand, 1) := by decide +kernel
theorem dX7_type_16 : decode cX7_type 16 = .ok (.istore 4, 2) := by decide +kernel
theorem dX7_type_18 : decode cX7_type 18 = .ok (.iload 4, 2) := by decide +kernel
theorem dX7_type_20 : decode cX7_type 20 = .ok (.ifCond .eq 19, 3) := by decide +kernel
theorem dX7_type_23 : decode cX7_type 23 = .ok (.iload 4, 2) := by decide +kernel
theorem dX7_type_25 : decode cX7_type 25 = .ok (.bipush 33, 2) := by decide +kernel
theorem dX7_type_27 : decode cX7_type 27 = .ok (.if_icmp .lt 10, 3) := by decide +kernel
theorem dX7_type_30 : decode cX7_type 30 = .ok (.iload 4, 2) := by decide +kernel
theorem dX7_type_32 : decode cX7_type 32 = .ok (.bipush 126, 2) := by decide +kernel
theorem dX7_type_34 : decode cX7_type 34 = .ok (.if_icmp .le 5, 3) := by decide +kernel
theorem dX7_type_37 : decode cX7_type 37 = .ok (.iconst 0, 1) := by decide +kernel
theorem dX7_type_38 : decode cX7_type 38 = .ok (.ireturn, 1) := by decide +kernel
theorem dX7_type_39 : decode cX7_type 39 = .ok (.iload_n 2, 1) := by decide +kernel
theorem dX7_type_40 : decode cX7_type 40 = .ok (.iload 4, 2) := by decide +kernel
theorem dX7_type_42 : decode cX7_type 42 = .ok (.ifCond .eq 7, 3) := by decide +kernel
theorem dX7_type_45 : decode cX7_type 45 = .ok (.iconst 1, 1) := by decide +kernel
theorem dX7_type_46 : decode cX7_type 46 = .ok (.goto 4, 3) := by decide +kernel
theorem dX7_type_49 : decode cX7_type 49 = .ok (.iconst 0, 1) := by decide +kernel
theorem dX7_type_50 : decode cX7_type 50 = .ok (.iadd, 1) := by decide +kernel
theorem dX7_type_51 : decode cX7_type 51 = .ok (.istore_n 2, 1) := by decide +kernel
theorem dX7_type_52 : decode cX7_type 52 = .ok (.iinc 3 (-8), 3) := by decide +kernel
theorem dX7_type_55 : decode cX7_type 55 = .ok (.goto (-50), 3) := by decide +kernel
theorem dX7_type_58 : decode cX7_type 58 = .ok (.aload_n 0, 1) := by decide +kernel
theorem dX7_type_59 : decode cX7_type 59 = .ok (.getfield 10, 3) := by decide +kernel
theorem dX7_type_62 : decode cX7_type 62 = .ok (.iload_n 2, 1) := by decide +kernel
theorem dX7_type_63 : decode cX7_type 63 = .ok (.invokevirtual 73, 3) := by decide +kernel
theorem dX7_type_66 : decode cX7_type 66 = .ok (.ifCond .ne 5, 3) := by decide +kernel
theorem dX7_type_69 : decode cX7_type 69 = .ok (.iconst 0, 1) := by decide +kernel
theorem dX7_type_70 : decode cX7_type 70 = .ok (.ireturn, 1) := by decide +kernel
theorem dX7_type_71 : decode cX7_type 71 = .ok (.bipush 24, 2) := by decide +kernel
theorem dX7_type_73 : decode cX7_type 73 = .ok (.istore_n 3, 1) := by decide +kernel
theorem dX7_type_74 : decode cX7_type 74 = .ok (.iload_n 3, 1) := by decide +kernel
theorem dX7_type_75 : decode cX7_type 75 = .ok (.ifCond .lt 33, 3) := by decide +kernel
theorem dX7_type_78 : decode cX7_type 78 = .ok (.iload_n 1, 1) := by decide +kernel
theorem dX7_type_79 : decode cX7_type 79 = .ok (.iload_n 3, 1) := by decide +kernel
theorem dX7_type_80 : decode cX7_type 80 = .ok (.iushr, 1) := by decide +kernel
theorem dX7_type_81 : decode cX7_type 81 = .ok (.sipush 255, 3) := by decide +kernel
theorem dX7_type_84 : decode cX7_type 84 = .ok (.iand, 1) := by decide +kernel
theorem dX7_type_85 : decode cX7_type 85 = .ok (.istore 4, 2) := by decide +kernel
theorem dX7_type_87 : decode cX7_type 87 = .ok (.iload 4, 2) := by decide +kernel
theorem dX7_type_89 : decode cX7_type 89 = .ok (.ifCond .eq 13, 3) := by decide +kernel
theorem dX7_type_92 : decode cX7_type 92 = .ok (.aload_n 0, 1) := by decide +kernel
theorem dX7_type_93 : decode cX7_type 93 = .ok (.getfield 10, 3) := by decide +kernel
theorem dX7_type_96 : decode cX7_type 96 = .ok (.iload 4, 2) := by decide +kernel
theorem dX7_type_98 : decode cX7_type 98 = .ok (.i2c, 1) := by decide +kernel
theorem dX7_type_99 : decode cX7_type 99 = .ok (.invokevirtual 77, 3) := by decide +kernel
theorem dX7_type_102 : decode cX7_type 102 = .ok (.iinc 3 (-8), 3) := by decide +kernel
theorem dX7_type_105 : decode cX7_type 105 = .ok (.goto (-31), 3) := by decide +kernel
theorem dX7_type_108 : decode cX7_type 108 = .ok (.iconst 1, 1) := by decide +kernel
theorem dX7_type_109 : decode cX7_type 109 = .ok (.ireturn, 1) := by decide +kernel
theorem dX7_wipe_0 : decode cX7_wipe 0 = .ok (.aload_n 0, 1) := by decide +kernel
theorem dX7_wipe_1 : decode cX7_wipe 1 = .ok (.getfield 10, 3) := by decide +kernel
theorem dX7_wipe_4 : decode cX7_wipe 4 = .ok (.invokevirtual 81, 3) := by decide +kernel
theorem dX7_wipe_7 : decode cX7_wipe 7 = .ok (.return_, 1) := by decide +kernel
theorem dX7_keep_0 : decode cX7_keep 0 = .ok (.aload_n 0, 1) := by decide +kernel
theorem dX7_keep_1 : decode cX7_keep 1 = .ok (.getfield 16, 3) := by decide +kernel
theorem dX7_keep_4 : decode cX7_keep 4 = .ok (.aload_n 0, 1) := by decide +kernel
theorem dX7_keep_5 : decode cX7_keep 5 = .ok (.getfield 10, 3) := by decide +kernel
theorem dX7_keep_8 : decode cX7_keep 8 = .ok (.invokevirtual 84, 3) := by decide +kernel
theorem dX7_keep_11 : decode cX7_keep 11 = .ok (.return_, 1) := by decide +kernel
theorem dX7_length_0 : decode cX7_length 0 = .ok (.aload_n 0, 1) := by decide +kernel
theorem dX7_length_1 : decode cX7_length 1 = .ok (.getfield 10, 3) := by decide +kernel
theorem dX7_length_4 : decode cX7_length 4 = .ok (.invokevirtual 88, 3) := by decide +kernel
theorem dX7_length_7 : decode cX7_length 7 = .ok (.ireturn, 1) := by decide +kernel
theorem dX7_at_0 : decode cX7_at 0 = .ok (.iload_n 1, 1) := by decide +kernel
theorem dX7_at_1 : decode cX7_at 1 = .ok (.ifCond .lt 25, 3) := by decide +kernel
theorem dX7_at_4 : decode cX7_at 4 = .ok (.iload_n 1, 1) := by decide +kernel
theorem dX7_at_5 : decode cX7_at 5 = .ok (.aload_n 0, 1) := by decide +kernel
theorem dX7_at_6 : decode cX7_at 6 = .ok (.getfield 10, 3) := by decide +kernel
theorem dX7_at_9 : decode cX7_at 9 = .ok (.invokevirtual 88, 3) := by decide +kernel
theorem dX7_at_12 : decode cX7_at 12 = .ok (.if_icmp .ge 14, 3) := by decide +kernel
theorem dX7_at_15 : decode cX7_at 15 = .ok (.aload_n 0, 1) := by decide +kernel
theorem dX7_at_16 : decode cX7_at 16 = .ok (.getfield 10, 3) := by decide +kernel
theorem dX7_at_19 : decode cX7_at 19 = .ok (.iload_n 1, 1) := by decide +kernel
theorem dX7_at_20 : decode cX7_at 20 = .ok (.invokevirtual 92, 3) := by decide +kernel
theorem dX7_at_23 : decode cX7_at 23 = .ok (.goto 5, 3) := by decide +kernel
theorem dX7_at_26 : decode cX7_at 26 = .ok (.bipush (-11), 2) := by decide +kernel
theorem dX7_at_28 : decode cX7_at 28 = .ok (.ireturn, 1) := by decide +kernel
theorem dX7_resolve_0 : decode cX7_resolve 0 = .ok (.aload_n 0, 1) := by decide +kernel
theorem dX7_resolve_1 : decode cX7_resolve 1 = .ok (.getfield 61, 3) := by decide +kernel
theorem dX7_resolve_4 : decode cX7_resolve 4 = .ok (.aload_n 0, 1) := by decide +kernel
theorem dX7_resolve_5 : decode cX7_resolve 5 = .ok (.getfield 10, 3) := by decide +kernel
theorem dX7_resolve_8 : decode cX7_resolve 8 = .ok (.iload_n 1, 1) := by decide +kernel
theorem dX7_resolve_9 : decode cX7_resolve 9 = .ok (.invokevirtual 96, 3) := by decide +kernel
theorem dX7_resolve_12 : decode cX7_resolve 12 = .ok (.ireturn, 1) := by decide +kernel
theorem dX7_make_0 : decode cX7_make 0 = .ok (.aload_n 0, 1) := by decide +kernel
theorem dX7_make_1 : decode cX7_make 1 = .ok (.iload_n 1, 1) := by decide +kernel
theorem dX7_make_2 : decode cX7_make 2 = .ok (.iload_n 2, 1) := by decide +kernel
theorem dX7_make_3 : decode cX7_make 3 = .ok (.invokevirtual 100, 3) := by decide +kernel
theorem dX7_make_6 : decode cX7_make 6 = .ok (.ifCond .ne 6, 3) := by decide +kernel
theorem dX7_make_9 : decode cX7_make 9 = .ok (.bipush (-11), 2) := by decide +kernel
theorem dX7_make_11 : decode cX7_make 11 = .ok (.ireturn, 1) := by decide +kernel
theorem dX7_make_12 : decode cX7_make 12 = .ok (.aload_n 0, 1) := by decide +kernel
theorem dX7_make_13 : decode cX7_make 13 = .ok (.iload_n 1, 1) := by decide +kernel
theorem dX7_make_14 : decode cX7_make 14 = .ok (.iconst 1, 1) := by decide +kernel
theorem dX7_make_15 : decode cX7_make 15 = .ok (.if_icmp .ne 7, 3) := by decide +kernel
theorem dX7_make_18 : decode cX7_make 18 = .ok (.iconst 1, 1) := by decide +kernel
theorem dX7_make_19 : decode cX7_make 19 = .ok (.goto 4, 3) := by decide +kernel
theorem dX7_make_22 : decode cX7_make 22 = .ok (.iconst 0, 1) := by decide +kernel
theorem dX7_make_23 : decode cX7_make 23 = .ok (.invokevirtual 104, 3) := by decide +kernel
theorem dX7_make_26 : decode cX7_make 26 = .ok (.istore_n 3, 1) := by decide +kernel
theorem dX7_make_27 : decode cX7_make 27 = .ok (.iload_n 3, 1) := by decide +kernel
theorem dX7_make_28 : decode cX7_make 28 = .ok (.ifCond .eq 5, 3) := by decide +kernel
theorem dX7_make_31 : decode cX7_make 31 = .ok (.iload_n 3, 1) := by decide +kernel
theorem dX7_make_32 : decode cX7_make 32 = .ok (.ireturn, 1) := by decide +kernel
theorem dX7_make_33 : decode cX7_make 33 = .ok (.aload_n 0, 1) := by decide +kernel
theorem dX7_make_34 : decode cX7_make 34 = .ok (.getfield 29, 3) := by decide +kernel
theorem dX7_make_37 : decode cX7_make 37 = .ok (.invokevirtual 108, 3) := by decide +kernel
theorem dX7_make_40 : decode cX7_make 40 = .ok (.istore 4, 2) := by decide +kernel
theorem dX7_make_42 : decode cX7_make 42 = .ok (.iload 4, 2) := by decide +kernel
theorem dX7_make_44 : decode cX7_make 44 = .ok (.iconst (-1), 1) := by decide +kernel
theorem dX7_make_45 : decode cX7_make 45 = .ok (.if_icmp .eq 13, 3) := by decide +kernel
theorem dX7_make_48 : decode cX7_make 48 = .ok (.aload_n 0, 1) := by decide +kernel
theorem dX7_make_49 : decode cX7_make 49 = .ok (.getfield 36, 3) := by decide +kernel
theorem dX7_make_52 : decode cX7_make 52 = .ok (.invokevirtual 111, 3) := by decide +kernel
theorem dX7_make_55 : decode cX7_make 55 = .ok (.ifCond .eq 6, 3) := by decide +kernel
theorem dX7_make_58 : decode cX7_make 58 = .ok (.bipush (-10), 2) := by decide +kernel
theorem dX7_make_60 : decode cX7_make 60 = .ok (.ireturn, 1) := by decide +kernel
theorem dX7_make_61 : decode cX7_make 61 = .ok (.aload_n 0, 1) := by decide +kernel
theorem dX7_make_62 : decode cX7_make 62 = .ok (.getfield 61, 3) := by decide +kernel
theorem dX7_make_65 : decode cX7_make 65 = .ok (.invokevirtual 115, 3) := by decide +kernel
theorem dX7_make_68 : decode cX7_make 68 = .ok (.istore 5, 2) := by decide +kernel
theorem dX7_make_70 : decode cX7_make 70 = .ok (.aload_n 0, 1) := by decide +kernel
theorem dX7_make_71 : decode cX7_make 71 = .ok (.getfield 29, 3) := by decide +kernel
theorem dX7_make_74 : decode cX7_make 74 = .ok (.iload 4, 2) := by decide +kernel
theorem dX7_make_76 : decode cX7_make 76 = .ok (.iload_n 1, 1) := by decide +kernel
theorem dX7_make_77 : decode cX7_make 77 = .ok (.iload_n 1, 1) := by decide +kernel
theorem dX7_make_78 : decode cX7_make 78 = .ok (.iconst 3, 1) := by decide +kernel
theorem dX7_make_79 : decode cX7_make 79 = .ok (.if_icmp .ne 8, 3) := by decide +kernel
theorem dX7_make_82 : decode cX7_make 82 = .ok (.bipush 15, 2) := by decide +kernel
theorem dX7_make_84 : decode cX7_make 84 = .ok (.goto 4, 3) := by decide +kernel
theorem dX7_make_87 : decode cX7_make 87 = .ok (.iload_n 2, 1) := by decide +kernel
theorem dX7_make_88 : decode cX7_make 88 = .ok (.aload_n 0, 1) := by decide +kernel
theorem dX7_make_89 : decode cX7_make 89 = .ok (.getfield 52, 3) := by decide +kernel
theorem dX7_make_92 : decode cX7_make 92 = .ok (.getfield 118, 3) := by decide +kernel
theorem dX7_make_95 : decode cX7_make 95 = .ok (.aload_n 0, 1) := by decide +kernel
theorem dX7_make_96 : decode cX7_make 96 = .ok (.getfield 29, 3) := by decide +kernel
theorem dX7_make_99 : decode cX7_make 99 = .ok (.iload 5, 2) := by decide +kernel
theorem dX7_make_101 : decode cX7_make 101 = .ok (.invokevirtual 122, 3) := by decide +kernel
theorem dX7_make_104 : decode cX7_make 104 = .ok (.invokevirtual 69, 3) := by decide +kernel
theorem dX7_make_107 : decode cX7_make 107 = .ok (.iload_n 1, 1) := by decide +kernel
theorem dX7_make_108 : decode cX7_make 108 = .ok (.iconst 1, 1) := by decide +kernel
theorem dX7_make_109 : decode cX7_make 109 = .ok (.if_icmp .ne 14, 3) := by decide +kernel
theorem dX7_make_112 : decode cX7_make 112 = .ok (.aload_n 0, 1) := by decide +kernel
theorem dX7_make_113 : decode cX7_make 113 = .ok (.getfield 29, 3) := by decide +kernel
theorem dX7_make_116 : decode cX7_make 116 = .ok (.iload 4, 2) := by decide +kernel
theorem dX7_make_118 : decode cX7_make 118 = .ok (.iload 5, 2) := by decide +kernel
theorem dX7_make_120 : decode cX7_make 120 = .ok (.invokevirtual 125, 3) := by decide +kernel
theorem dX7_make_123 : decode cX7_make 123 = .ok (.iload_n 1, 1) := by decide +kernel
theorem dX7_make_124 : decode cX7_make 124 = .ok (.iconst 3, 1) := by decide +kernel
theorem dX7_make_125 : decode cX7_make 125 = .ok (.if_icmp .ne 16, 3) := by decide +kernel
theorem dX7_make_128 : decode cX7_make 128 = .ok (.aload_n 0, 1) := by decide +kernel
theorem dX7_make_129 : decode cX7_make 129 = .ok (.getfield 29, 3) := by decide +kernel
theorem dX7_make_132 : decode cX7_make 132 = .ok (.iload 4, 2) := by decide +kernel
theorem dX7_make_134 : decode cX7_make 134 = .ok (.aload_n 0, 1) := by decide +kernel
theorem dX7_make_135 : decode cX7_make 135 = .ok (.getfield 16, 3) := by decide +kernel
theorem dX7_make_138 : decode cX7_make 138 = .ok (.invokevirtual 129, 3) := by decide +kernel
theorem dX7_make_141 : decode cX7_make 141 = .ok (.aload_n 0, 1) := by decide +kernel
theorem dX7_make_142 : decode cX7_make 142 = .ok (.getfield 36, 3) := by decide +kernel
theorem dX7_make_145 : decode cX7_make 145 = .ok (.iload 5, 2) := by decide +kernel
theorem dX7_make_147 : decode cX7_make 147 = .ok (.aload_n 0, 1) := by decide +kernel
theorem dX7_make_148 : decode cX7_make 148 = .ok (.getfield 61, 3) := by decide +kernel
theorem dX7_make_151 : decode cX7_make 151 = .ok (.invokevirtual 133, 3) := by decide +kernel
theorem dX7_make_154 : decode cX7_make 154 = .ok (.iload 4, 2) := by decide +kernel
theorem dX7_make_156 : decode cX7_make 156 = .ok (.invokevirtual 137, 3) := by decide +kernel
theorem dX7_make_159 : decode cX7_make 159 = .ok (.iload 4, 2) := by decide +kernel
theorem dX7_make_161 : decode cX7_make 161 = .ok (.ireturn, 1) := by decide +kernel
theorem dX7_mayBeMade_0 : decode cX7_mayBeMade 0 = .ok (.iload_n 1, 1) := by decide +kernel
theorem dX7_mayBeMade_1 : decode cX7_mayBeMade 1 = .ok (.iconst 3, 1) := by decide +kernel
theorem dX7_mayBeMade_2 : decode cX7_mayBeMade 2 = .ok (.if_icmp .ne 19, 3) := by decide +kernel
theorem dX7_mayBeMade_5 : decode cX7_mayBeMade 5 = .ok (.aload_n 0, 1) := by decide +kernel
theorem dX7_mayBeMade_6 : decode cX7_mayBeMade 6 = .ok (.getfield 16, 3) := by decide +kernel
theorem dX7_mayBeMade_9 : decode cX7_mayBeMade 9 = .ok (.invokevirtual 140, 3) := by decide +kernel
theorem dX7_mayBeMade_12 : decode cX7_mayBeMade 12 = .ok (.ifCond .ne 7, 3) := by decide +kernel
theorem dX7_mayBeMade_15 : decode cX7_mayBeMade 15 = .ok (.iconst 1, 1) := by decide +kernel
theorem dX7_mayBeMade_16 : decode cX7_mayBeMade 16 = .ok (.goto 4, 3) := by decide +kernel
theorem dX7_mayBeMade_19 : decode cX7_mayBeMade 19 = .ok (.iconst 0, 1) := by decide +kernel
theorem dX7_mayBeMade_20 : decode cX7_mayBeMade 20 = .ok (.ireturn, 1) := by decide +kernel
theorem dX7_mayBeMade_21 : decode cX7_mayBeMade 21 = .ok (.iload_n 1, 1) := by decide +kernel
theorem dX7_mayBeMade_22 : decode cX7_mayBeMade 22 = .ok (.iconst 1, 1) := by decide +kernel
theorem dX7_mayBeMade_23 : decode cX7_mayBeMade 23 = .ok (.if_icmp .eq 8, 3) := by decide +kernel
theorem dX7_mayBeMade_26 : decode cX7_mayBeMade 26 = .ok (.iload_n 1, 1) := by decide +kernel
theorem dX7_mayBeMade_27 : decode cX7_mayBeMade 27 = .ok (.iconst 2, 1) := by decide +kernel
theorem dX7_mayBeMade_28 : decode cX7_mayBeMade 28 = .ok (.if_icmp .ne 14, 3) := by decide +kernel
theorem dX7_mayBeMade_31 : decode cX7_mayBeMade 31 = .ok (.iload_n 2, 1) := by decide +kernel
theorem dX7_mayBeMade_32 : decode cX7_mayBeMade 32 = .ok (.invokestatic 143, 3) := by decide +kernel
theorem dX7_mayBeMade_35 : decode cX7_mayBeMade 35 = .ok (.ifCond .eq 7, 3) := by decide +kernel
theorem dX7_mayBeMade_38 : decode cX7_mayBeMade 38 = .ok (.iconst 1, 1) := by decide +kernel
theorem dX7_mayBeMade_39 : decode cX7_mayBeMade 39 = .ok (.goto 4, 3) := by decide +kernel
theorem dX7_mayBeMade_42 : decode cX7_mayBeMade 42 = .ok (.iconst 0, 1) := by decide +kernel
theorem dX7_mayBeMade_43 : decode cX7_mayBeMade 43 = .ok (.ireturn, 1) := by decide +kernel
theorem dX7_isMode_0 : decode cX7_isMode 0 = .ok (.iload_n 0, 1) := by decide +kernel
theorem dX7_isMode_1 : decode cX7_isMode 1 = .ok (.ifCond .lt 13, 3) := by decide +kernel
theorem dX7_isMode_4 : decode cX7_isMode 4 = .ok (.iload_n 0, 1) := by decide +kernel
theorem dX7_isMode_5 : decode cX7_isMode 5 = .ok (.bipush 16, 2) := by decide +kernel
theorem dX7_isMode_7 : decode cX7_isMode 7 = .ok (.if_icmp .ge 7, 3) := by decide +kernel
theorem dX7_isMode_10 : decode cX7_isMode 10 = .ok (.iconst 1, 1) := by decide +kernel
theorem dX7_isMode_11 : decode cX7_isMode 11 = .ok (.goto 4, 3) := by decide +kernel
theorem dX7_isMode_14 : decode cX7_isMode 14 = .ok (.iconst 0, 1) := by decide +kernel
theorem dX7_isMode_15 : decode cX7_isMode 15 = .ok (.ireturn, 1) := by decide +kernel
theorem dX7_comeToNewName_0 : decode cX7_comeToNewName 0 = .ok (.aload_n 0, 1) := by decide +kernel
theorem dX7_comeToNewName_1 : decode cX7_comeToNewName 1 = .ok (.getfield 10, 3) := by decide +kernel
theorem dX7_comeToNewName_4 : decode cX7_comeToNewName 4 = .ok (.invokevirtual 140, 3) := by decide +kernel
theorem dX7_comeToNewName_7 : decode cX7_comeToNewName 7 = .ok (.ifCond .eq 5, 3) := by decide +kernel
theorem dX7_comeToNewName_10 : decode cX7_comeToNewName 10 = .ok (.iconst (-1), 1) := by decide +kernel
theorem dX7_comeToNewName_11 : decode cX7_comeToNewName 11 = .ok (.ireturn, 1) := by decide +kernel
theorem dX7_comeToNewName_12 : decode cX7_comeToNewName 12 = .ok (.aload_n 0, 1) := by decide +kernel
theorem dX7_comeToNewName_13 : decode cX7_comeToNewName 13 = .ok (.getfield 10, 3) := by decide +kernel
theorem dX7_comeToNewName_16 : decode cX7_comeToNewName 16 = .ok (.invokevirtual 146, 3) := by decide +kernel
theorem dX7_comeToNewName_19 : decode cX7_comeToNewName 19 = .ok (.ifCond .eq 6, 3) := by decide +kernel
theorem dX7_comeToNewName_22 : decode cX7_comeToNewName 22 = .ok (.bipush (-6), 2) := by decide +kernel
theorem dX7_comeToNewName_24 : decode cX7_comeToNewName 24 = .ok (.ireturn, 1) := by decide +kernel
theorem dX7_comeToNewName_25 : decode cX7_comeToNewName 25 = .ok (.aload_n 0, 1) := by decide +kernel
theorem dX7_comeToNewName_26 : decode cX7_comeToNewName 26 = .ok (.getfield 61, 3) := by decide +kernel
theorem dX7_comeToNewName_29 : decode cX7_comeToNewName 29 = .ok (.aload_n 0, 1) := by decide +kernel
theorem dX7_comeToNewName_30 : decode cX7_comeToNewName 30 = .ok (.getfield 10, 3) := by decide +kernel
theorem dX7_comeToNewName_33 : decode cX7_comeToNewName 33 = .ok (.invokevirtual 149, 3) := by decide +kernel
theorem dX7_comeToNewName_36 : decode cX7_comeToNewName 36 = .ok (.istore_n 2, 1) := by decide +kernel
theorem dX7_comeToNewName_37 : decode cX7_comeToNewName 37 = .ok (.iload_n 2, 1) := by decide +kernel
theorem dX7_comeToNewName_38 : decode cX7_comeToNewName 38 = .ok (.ifCond .eq 5, 3) := by decide +kernel
theorem dX7_comeToNewName_41 : decode cX7_comeToNewName 41 = .ok (.iload_n 2, 1) := by decide +kernel
theorem dX7_comeToNewName_42 : decode cX7_comeToNewName 42 = .ok (.ireturn, 1) := by decide +kernel
theorem dX7_comeToNewName_43 : decode cX7_comeToNewName 43 = .ok (.aload_n 0, 1) := by decide +kernel
theorem dX7_comeToNewName_44 : decode cX7_comeToNewName 44 = .ok (.getfield 61, 3) := by decide +kernel
theorem dX7_comeToNewName_47 : decode cX7_comeToNewName 47 = .ok (.invokevirtual 153, 3) := by decide +kernel
theorem dX7_comeToNewName_50 : decode cX7_comeToNewName 50 = .ok (.ifCond .ne 28, 3) := by decide +kernel
theorem dX7_comeToNewName_53 : decode cX7_comeToNewName 53 = .ok (.aload_n 0, 1) := by decide +kernel
theorem dX7_comeToNewName_54 : decode cX7_comeToNewName 54 = .ok (.getfield 36, 3) := by decide +kernel
theorem dX7_comeToNewName_57 : decode cX7_comeToNewName 57 = .ok (.aload_n 0, 1) := by decide +kernel
theorem dX7_comeToNewName_58 : decode cX7_comeToNewName 58 = .ok (.getfield 61, 3) := by decide +kernel
theorem dX7_comeToNewName_61 : decode cX7_comeToNewName 61 = .ok (.invokevirtual 115, 3) := by decide +kernel
theorem dX7_comeToNewName_64 : decode cX7_comeToNewName 64 = .ok (.aload_n 0, 1) := by decide +kernel
theorem dX7_comeToNewName_65 : decode cX7_comeToNewName 65 = .ok (.getfield 61, 3) := by decide +kernel
theorem dX7_comeToNewName_68 : decode cX7_comeToNewName 68 = .ok (.invokevirtual 133, 3) := by decide +kernel
theorem dX7_comeToNewName_71 : decode cX7_comeToNewName 71 = .ok (.invokevirtual 156, 3) := by decide +kernel
theorem dX7_comeToNewName_74 : decode cX7_comeToNewName 74 = .ok (.iconst (-1), 1) := by decide +kernel
theorem dX7_comeToNewName_75 : decode cX7_comeToNewName 75 = .ok (.if_icmp .eq 6, 3) := by decide +kernel
theorem dX7_comeToNewName_78 : decode cX7_comeToNewName 78 = .ok (.bipush (-6), 2) := by decide +kernel
theorem dX7_comeToNewName_80 : decode cX7_comeToNewName 80 = .ok (.ireturn, 1) := by decide +kernel
theorem dX7_comeToNewName_81 : decode cX7_comeToNewName 81 = .ok (.aload_n 0, 1) := by decide +kernel
theorem dX7_comeToNewName_82 : decode cX7_comeToNewName 82 = .ok (.getfield 61, 3) := by decide +kernel
theorem dX7_comeToNewName_85 : decode cX7_comeToNewName 85 = .ok (.invokevirtual 160, 3) := by decide +kernel
theorem dX7_comeToNewName_88 : decode cX7_comeToNewName 88 = .ok (.ifCond .eq 10, 3) := by decide +kernel
theorem dX7_comeToNewName_91 : decode cX7_comeToNewName 91 = .ok (.iload_n 1, 1) := by decide +kernel
theorem dX7_comeToNewName_92 : decode cX7_comeToNewName 92 = .ok (.ifCond .ne 6, 3) := by decide +kernel
theorem dX7_comeToNewName_95 : decode cX7_comeToNewName 95 = .ok (.bipush (-2), 2) := by decide +kernel
theorem dX7_comeToNewName_97 : decode cX7_comeToNewName 97 = .ok (.ireturn, 1) := by decide +kernel
theorem dX7_comeToNewName_98 : decode cX7_comeToNewName 98 = .ok (.aload_n 0, 1) := by decide +kernel
theorem dX7_comeToNewName_99 : decode cX7_comeToNewName 99 = .ok (.getfield 52, 3) := by decide +kernel
theorem dX7_comeToNewName_102 : decode cX7_comeToNewName 102 = .ok (.iconst 2, 1) := by decide +kernel
theorem dX7_comeToNewName_103 : decode cX7_comeToNewName 103 = .ok (.aload_n 0, 1) := by decide +kernel
theorem dX7_comeToNewName_104 : decode cX7_comeToNewName 104 = .ok (.getfield 61, 3) := by decide +kernel
theorem dX7_comeToNewName_107 : decode cX7_comeToNewName 107 = .ok (.invokevirtual 115, 3) := by decide +kernel
theorem dX7_comeToNewName_110 : decode cX7_comeToNewName 110 = .ok (.invokevirtual 163, 3) := by decide +kernel
theorem dX7_comeToNewName_113 : decode cX7_comeToNewName 113 = .ok (.ifCond .eq 7, 3) := by decide +kernel
theorem dX7_comeToNewName_116 : decode cX7_comeToNewName 116 = .ok (.iconst 0, 1) := by decide +kernel
theorem dX7_comeToNewName_117 : decode cX7_comeToNewName 117 = .ok (.goto 5, 3) := by decide +kernel
theorem dX7_comeToNewName_120 : decode cX7_comeToNewName 120 = .ok (.bipush (-3), 2) := by decide +kernel
theorem dX7_comeToNewName_122 : decode cX7_comeToNewName 122 = .ok (.ireturn, 1) := by decide +kernel
theorem dX7_link_0 : decode cX7_link 0 = .ok (.aload_n 0, 1) := by decide +kernel
theorem dX7_link_1 : decode cX7_link 1 = .ok (.getfield 61, 3) := by decide +kernel
theorem dX7_link_4 : decode cX7_link 4 = .ok (.aload_n 0, 1) := by decide +kernel
theorem dX7_link_5 : decode cX7_link 5 = .ok (.getfield 16, 3) := by decide +kernel
theorem dX7_link_8 : decode cX7_link 8 = .ok (.iconst 0, 1) := by decide +kernel
theorem dX7_link_9 : decode cX7_link 9 = .ok (.invokevirtual 96, 3) := by decide +kernel
theorem dX7_link_12 : decode cX7_link 12 = .ok (.istore_n 1, 1) := by decide +kernel
theorem dX7_link_13 : decode cX7_link 13 = .ok (.iload_n 1, 1) := by decide +kernel
theorem dX7_link_14 : decode cX7_link 14 = .ok (.ifCond .ge 5, 3) := by decide +kernel
theorem dX7_link_17 : decode cX7_link 17 = .ok (.iload_n 1, 1) := by decide +kernel
theorem dX7_link_18 : decode cX7_link 18 = .ok (.ireturn, 1) := by decide +kernel
theorem dX7_link_19 : decode cX7_link 19 = .ok (.aload_n 0, 1) := by decide +kernel
theorem dX7_link_20 : decode cX7_link 20 = .ok (.getfield 29, 3) := by decide +kernel
theorem dX7_link_23 : decode cX7_link 23 = .ok (.iload_n 1, 1) := by decide +kernel
theorem dX7_link_24 : decode cX7_link 24 = .ok (.invokevirtual 166, 3) := by decide +kernel
theorem dX7_link_27 : decode cX7_link 27 = .ok (.ifCond .eq 6, 3) := by decide +kernel
theorem dX7_link_30 : decode cX7_link 30 = .ok (.bipush (-11), 2) := by decide +kernel
theorem dX7_link_32 : decode cX7_link 32 = .ok (.ireturn, 1) := by decide +kernel
theorem dX7_link_33 : decode cX7_link 33 = .ok (.aload_n 0, 1) := by decide +kernel
theorem dX7_link_34 : decode cX7_link 34 = .ok (.iconst 0, 1) := by decide +kernel
theorem dX7_link_35 : decode cX7_link 35 = .ok (.invokevirtual 104, 3) := by decide +kernel
theorem dX7_link_38 : decode cX7_link 38 = .ok (.istore_n 2, 1) := by decide +kernel
theorem dX7_link_39 : decode cX7_link 39 = .ok (.iload_n 2, 1) := by decide +kernel
theorem dX7_link_40 : decode cX7_link 40 = .ok (.ifCond .eq 5, 3) := by decide +kernel
theorem dX7_link_43 : decode cX7_link 43 = .ok (.iload_n 2, 1) := by decide +kernel
theorem dX7_link_44 : decode cX7_link 44 = .ok (.ireturn, 1) := by decide +kernel
theorem dX7_link_45 : decode cX7_link 45 = .ok (.aload_n 0, 1) := by decide +kernel
theorem dX7_link_46 : decode cX7_link 46 = .ok (.getfield 29, 3) := by decide +kernel
theorem dX7_link_49 : decode cX7_link 49 = .ok (.aload_n 0, 1) := by decide +kernel
theorem dX7_link_50 : decode cX7_link 50 = .ok (.getfield 61, 3) := by decide +kernel
theorem dX7_link_53 : decode cX7_link 53 = .ok (.invokevirtual 115, 3) := by decide +kernel
theorem dX7_link_56 : decode cX7_link 56 = .ok (.invokevirtual 122, 3) := by decide +kernel
theorem dX7_link_59 : decode cX7_link 59 = .ok (.aload_n 0, 1) := by decide +kernel
theorem dX7_link_60 : decode cX7_link 60 = .ok (.getfield 29, 3) := by decide +kernel
theorem dX7_link_63 : decode cX7_link 63 = .ok (.iload_n 1, 1) := by decide +kernel
theorem dX7_link_64 : decode cX7_link 64 = .ok (.invokevirtual 122, 3) := by decide +kernel
theorem dX7_link_67 : decode cX7_link 67 = .ok (.if_icmp .eq 6, 3) := by decide +kernel
theorem dX7_link_70 : decode cX7_link 70 = .ok (.bipush (-9), 2) := by decide +kernel
theorem dX7_link_72 : decode cX7_link 72 = .ok (.ireturn, 1) := by decide +kernel
theorem dX7_link_73 : decode cX7_link 73 = .ok (.aload_n 0, 1) := by decide +kernel
theorem dX7_link_74 : decode cX7_link 74 = .ok (.getfield 36, 3) := by decide +kernel
theorem dX7_link_77 : decode cX7_link 77 = .ok (.invokevirtual 111, 3) := by decide +kernel
theorem dX7_link_80 : decode cX7_link 80 = .ok (.ifCond .eq 6, 3) := by decide +kernel
theorem dX7_link_83 : decode cX7_link 83 = .ok (.bipush (-10), 2) := by decide +kernel
theorem dX7_link_85 : decode cX7_link 85 = .ok (.ireturn, 1) := by decide +kernel
theorem dX7_link_86 : decode cX7_link 86 = .ok (.aload_n 0, 1) := by decide +kernel
theorem dX7_link_87 : decode cX7_link 87 = .ok (.getfield 36, 3) := by decide +kernel
theorem dX7_link_90 : decode cX7_link 90 = .ok (.aload_n 0, 1) := by decide +kernel
theorem dX7_link_91 : decode cX7_link 91 = .ok (.getfield 61, 3) := by decide +kernel
theorem dX7_link_94 : decode cX7_link 94 = .ok (.invokevirtual 115, 3) := by decide +kernel
theorem dX7_link_97 : decode cX7_link 97 = .ok (.aload_n 0, 1) := by decide +kernel
theorem dX7_link_98 : decode cX7_link 98 = .ok (.getfield 61, 3) := by decide +kernel
theorem dX7_link_101 : decode cX7_link 101 = .ok (.invokevirtual 133, 3) := by decide +kernel
theorem dX7_link_104 : decode cX7_link 104 = .ok (.iload_n 1, 1) := by decide +kernel
theorem dX7_link_105 : decode cX7_link 105 = .ok (.invokevirtual 137, 3) := by decide +kernel
theorem dX7_link_108 : decode cX7_link 108 = .ok (.iload_n 1, 1) := by decide +kernel
theorem dX7_link_109 : decode cX7_link 109 = .ok (.ireturn, 1) := by decide +kernel
theorem dX7_remove_0 : decode cX7_remove 0 = .ok (.aload_n 0, 1) := by decide +kernel
theorem dX7_remove_1 : decode cX7_remove 1 = .ok (.getfield 10, 3) := by decide +kernel
theorem dX7_remove_4 : decode cX7_remove 4 = .ok (.invokevirtual 140, 3) := by decide +kernel
theorem dX7_remove_7 : decode cX7_remove 7 = .ok (.ifCond .eq 5, 3) := by decide +kernel
theorem dX7_remove_10 : decode cX7_remove 10 = .ok (.iconst (-1), 1) := by decide +kernel
theorem dX7_remove_11 : decode cX7_remove 11 = .ok (.ireturn, 1) := by decide +kernel
theorem dX7_remove_12 : decode cX7_remove 12 = .ok (.aload_n 0, 1) := by decide +kernel
theorem dX7_remove_13 : decode cX7_remove 13 = .ok (.getfield 10, 3) := by decide +kernel
theorem dX7_remove_16 : decode cX7_remove 16 = .ok (.invokevirtual 146, 3) := by decide +kernel
theorem dX7_remove_19 : decode cX7_remove 19 = .ok (.ifCond .eq 6, 3) := by decide +kernel
theorem dX7_remove_22 : decode cX7_remove 22 = .ok (.bipush (-7), 2) := by decide +kernel
theorem dX7_remove_24 : decode cX7_remove 24 = .ok (.ireturn, 1) := by decide +kernel
theorem dX7_remove_25 : decode cX7_remove 25 = .ok (.aload_n 0, 1) := by decide +kernel
theorem dX7_remove_26 : decode cX7_remove 26 = .ok (.getfield 61, 3) := by decide +kernel
theorem dX7_remove_29 : decode cX7_remove 29 = .ok (.aload_n 0, 1) := by decide +kernel
theorem dX7_remove_30 : decode cX7_remove 30 = .ok (.getfield 10, 3) := by decide +kernel
theorem dX7_remove_33 : decode cX7_remove 33 = .ok (.invokevirtual 149, 3) := by decide +kernel
theorem dX7_remove_36 : decode cX7_remove 36 = .ok (.istore_n 1, 1) := by decide +kernel
theorem dX7_remove_37 : decode cX7_remove 37 = .ok (.iload_n 1, 1) := by decide +kernel
theorem dX7_remove_38 : decode cX7_remove 38 = .ok (.ifCond .eq 5, 3) := by decide +kernel
theorem dX7_remove_41 : decode cX7_remove 41 = .ok (.iload_n 1, 1) := by decide +kernel
theorem dX7_remove_42 : decode cX7_remove 42 = .ok (.ireturn, 1) := by decide +kernel
theorem dX7_remove_43 : decode cX7_remove 43 = .ok (.aload_n 0, 1) := by decide +kernel
theorem dX7_remove_44 : decode cX7_remove 44 = .ok (.getfield 61, 3) := by decide +kernel
theorem dX7_remove_47 : decode cX7_remove 47 = .ok (.invokevirtual 153, 3) := by decide +kernel
theorem dX7_remove_50 : decode cX7_remove 50 = .ok (.ifCond .eq 6, 3) := by decide +kernel
theorem dX7_remove_53 : decode cX7_remove 53 = .ok (.bipush (-11), 2) := by decide +kernel
theorem dX7_remove_55 : decode cX7_remove 55 = .ok (.ireturn, 1) := by decide +kernel
theorem dX7_remove_56 : decode cX7_remove 56 = .ok (.aload_n 0, 1) := by decide +kernel
theorem dX7_remove_57 : decode cX7_remove 57 = .ok (.getfield 36, 3) := by decide +kernel
theorem dX7_remove_60 : decode cX7_remove 60 = .ok (.aload_n 0, 1) := by decide +kernel
theorem dX7_remove_61 : decode cX7_remove 61 = .ok (.getfield 61, 3) := by decide +kernel
theorem dX7_remove_64 : decode cX7_remove 64 = .ok (.invokevirtual 115, 3) := by decide +kernel
theorem dX7_remove_67 : decode cX7_remove 67 = .ok (.aload_n 0, 1) := by decide +kernel
theorem dX7_remove_68 : decode cX7_remove 68 = .ok (.getfield 61, 3) := by decide +kernel
theorem dX7_remove_71 : decode cX7_remove 71 = .ok (.invokevirtual 133, 3) := by decide +kernel
theorem dX7_remove_74 : decode cX7_remove 74 = .ok (.invokevirtual 156, 3) := by decide +kernel
theorem dX7_remove_77 : decode cX7_remove 77 = .ok (.istore_n 2, 1) := by decide +kernel
theorem dX7_remove_78 : decode cX7_remove 78 = .ok (.iload_n 2, 1) := by decide +kernel
theorem dX7_remove_79 : decode cX7_remove 79 = .ok (.iconst (-1), 1) := by decide +kernel
theorem dX7_remove_80 : decode cX7_remove 80 = .ok (.if_icmp .ne 5, 3) := by decide +kernel
theorem dX7_remove_83 : decode cX7_remove 83 = .ok (.iconst (-1), 1) := by decide +kernel
theorem dX7_remove_84 : decode cX7_remove 84 = .ok (.ireturn, 1) := by decide +kernel
theorem dX7_remove_85 : decode cX7_remove 85 = .ok (.aload_n 0, 1) := by decide +kernel
theorem dX7_remove_86 : decode cX7_remove 86 = .ok (.getfield 36, 3) := by decide +kernel
theorem dX7_remove_89 : decode cX7_remove 89 = .ok (.iload_n 2, 1) := by decide +kernel
theorem dX7_remove_90 : decode cX7_remove 90 = .ok (.invokevirtual 169, 3) := by decide +kernel
theorem dX7_remove_93 : decode cX7_remove 93 = .ok (.istore_n 3, 1) := by decide +kernel
theorem dX7_remove_94 : decode cX7_remove 94 = .ok (.aload_n 0, 1) := by decide +kernel
theorem dX7_remove_95 : decode cX7_remove 95 = .ok (.iload_n 3, 1) := by decide +kernel
theorem dX7_remove_96 : decode cX7_remove 96 = .ok (.invokevirtual 172, 3) := by decide +kernel
theorem dX7_remove_99 : decode cX7_remove 99 = .ok (.istore_n 1, 1) := by decide +kernel
theorem dX7_remove_100 : decode cX7_remove 100 = .ok (.iload_n 1, 1) := by decide +kernel
theorem dX7_remove_101 : decode cX7_remove 101 = .ok (.ifCond .eq 5, 3) := by decide +kernel
theorem dX7_remove_104 : decode cX7_remove 104 = .ok (.iload_n 1, 1) := by decide +kernel
theorem dX7_remove_105 : decode cX7_remove 105 = .ok (.ireturn, 1) := by decide +kernel
theorem dX7_remove_106 : decode cX7_remove 106 = .ok (.aload_n 0, 1) := by decide +kernel
theorem dX7_remove_107 : decode cX7_remove 107 = .ok (.getfield 36, 3) := by decide +kernel
theorem dX7_remove_110 : decode cX7_remove 110 = .ok (.iload_n 2, 1) := by decide +kernel
theorem dX7_remove_111 : decode cX7_remove 111 = .ok (.invokevirtual 175, 3) := by decide +kernel
theorem dX7_remove_114 : decode cX7_remove 114 = .ok (.aload_n 0, 1) := by decide +kernel
theorem dX7_remove_115 : decode cX7_remove 115 = .ok (.getfield 36, 3) := by decide +kernel
theorem dX7_remove_118 : decode cX7_remove 118 = .ok (.iload_n 3, 1) := by decide +kernel
theorem dX7_remove_119 : decode cX7_remove 119 = .ok (.invokevirtual 179, 3) := by decide +kernel
theorem dX7_remove_122 : decode cX7_remove 122 = .ok (.ifCond .ne 11, 3) := by decide +kernel
theorem dX7_remove_125 : decode cX7_remove 125 = .ok (.aload_n 0, 1) := by decide +kernel
theorem dX7_remove_126 : decode cX7_remove 126 = .ok (.getfield 29, 3) := by decide +kernel
theorem dX7_remove_129 : decode cX7_remove 129 = .ok (.iload_n 3, 1) := by decide +kernel
theorem dX7_remove_130 : decode cX7_remove 130 = .ok (.invokevirtual 182, 3) := by decide +kernel
theorem dX7_remove_133 : decode cX7_remove 133 = .ok (.iload_n 3, 1) := by decide +kernel
theorem dX7_remove_134 : decode cX7_remove 134 = .ok (.ireturn, 1) := by decide +kernel
theorem dX7_whyNotRemove_0 : decode cX7_whyNotRemove 0 = .ok (.aload_n 0, 1) := by decide +kernel
theorem dX7_whyNotRemove_1 : decode cX7_whyNotRemove 1 = .ok (.getfield 61, 3) := by decide +kernel
theorem dX7_whyNotRemove_4 : decode cX7_whyNotRemove 4 = .ok (.invokevirtual 160, 3) := by decide +kernel
theorem dX7_whyNotRemove_7 : decode cX7_whyNotRemove 7 = .ok (.ifCond .eq 17, 3) := by decide +kernel
theorem dX7_whyNotRemove_10 : decode cX7_whyNotRemove 10 = .ok (.aload_n 0, 1) := by decide +kernel
theorem dX7_whyNotRemove_11 : decode cX7_whyNotRemove 11 = .ok (.getfield 29, 3) := by decide +kernel
theorem dX7_whyNotRemove_14 : decode cX7_whyNotRemove 14 = .ok (.iload_n 1, 1) := by decide +kernel
theorem dX7_whyNotRemove_15 : decode cX7_whyNotRemove 15 = .ok (.invokevirtual 166, 3) := by decide +kernel
theorem dX7_whyNotRemove_18 : decode cX7_whyNotRemove 18 = .ok (.ifCond .ne 6, 3) := by decide +kernel
theorem dX7_whyNotRemove_21 : decode cX7_whyNotRemove 21 = .ok (.bipush (-2), 2) := by decide +kernel
theorem dX7_whyNotRemove_23 : decode cX7_whyNotRemove 23 = .ok (.ireturn, 1) := by decide +kernel
theorem dX7_whyNotRemove_24 : decode cX7_whyNotRemove 24 = .ok (.aload_n 0, 1) := by decide +kernel
theorem dX7_whyNotRemove_25 : decode cX7_whyNotRemove 25 = .ok (.getfield 52, 3) := by decide +kernel
theorem dX7_whyNotRemove_28 : decode cX7_whyNotRemove 28 = .ok (.iconst 2, 1) := by decide +kernel
theorem dX7_whyNotRemove_29 : decode cX7_whyNotRemove 29 = .ok (.aload_n 0, 1) := by decide +kernel
theorem dX7_whyNotRemove_30 : decode cX7_whyNotRemove 30 = .ok (.getfield 61, 3) := by decide +kernel
theorem dX7_whyNotRemove_33 : decode cX7_whyNotRemove 33 = .ok (.invokevirtual 115, 3) := by decide +kernel
theorem dX7_whyNotRemove_36 : decode cX7_whyNotRemove 36 = .ok (.invokevirtual 163, 3) := by decide +kernel
theorem dX7_whyNotRemove_39 : decode cX7_whyNotRemove 39 = .ok (.ifCond .ne 6, 3) := by decide +kernel
theorem dX7_whyNotRemove_42 : decode cX7_whyNotRemove 42 = .ok (.bipush (-3), 2) := by decide +kernel
theorem dX7_whyNotRemove_44 : decode cX7_whyNotRemove 44 = .ok (.ireturn, 1) := by decide +kernel
theorem dX7_whyNotRemove_45 : decode cX7_whyNotRemove 45 = .ok (.aload_n 0, 1) := by decide +kernel
theorem dX7_whyNotRemove_46 : decode cX7_whyNotRemove 46 = .ok (.getfield 45, 3) := by decide +kernel
theorem dX7_whyNotRemove_49 : decode cX7_whyNotRemove 49 = .ok (.iload_n 1, 1) := by decide +kernel
theorem dX7_whyNotRemove_50 : decode cX7_whyNotRemove 50 = .ok (.invokevirtual 185, 3) := by decide +kernel
theorem dX7_whyNotRemove_53 : decode cX7_whyNotRemove 53 = .ok (.ifCond .ne 25, 3) := by decide +kernel
theorem dX7_whyNotRemove_56 : decode cX7_whyNotRemove 56 = .ok (.iload_n 1, 1) := by decide +kernel
theorem dX7_whyNotRemove_57 : decode cX7_whyNotRemove 57 = .ok (.aload_n 0, 1) := by decide +kernel
theorem dX7_whyNotRemove_58 : decode cX7_whyNotRemove 58 = .ok (.getfield 52, 3) := by decide +kernel
theorem dX7_whyNotRemove_61 : decode cX7_whyNotRemove 61 = .ok (.getfield 188, 3) := by decide +kernel
theorem dX7_whyNotRemove_64 : decode cX7_whyNotRemove 64 = .ok (.if_icmp .eq 14, 3) := by decide +kernel
theorem dX7_whyNotRemove_67 : decode cX7_whyNotRemove 67 = .ok (.iload_n 1, 1) := by decide +kernel
theorem dX7_whyNotRemove_68 : decode cX7_whyNotRemove 68 = .ok (.aload_n 0, 1) := by decide +kernel
theorem dX7_whyNotRemove_69 : decode cX7_whyNotRemove 69 = .ok (.getfield 52, 3) := by decide +kernel
theorem dX7_whyNotRemove_72 : decode cX7_whyNotRemove 72 = .ok (.getfield 191, 3) := by decide +kernel
theorem dX7_whyNotRemove_75 : decode cX7_whyNotRemove 75 = .ok (.if_icmp .ne 6, 3) := by decide +kernel
theorem dX7_whyNotRemove_78 : decode cX7_whyNotRemove 78 = .ok (.bipush (-7), 2) := by decide +kernel
theorem dX7_whyNotRemove_80 : decode cX7_whyNotRemove 80 = .ok (.ireturn, 1) := by decide +kernel
theorem dX7_whyNotRemove_81 : decode cX7_whyNotRemove 81 = .ok (.aload_n 0, 1) := by decide +kernel
theorem dX7_whyNotRemove_82 : decode cX7_whyNotRemove 82 = .ok (.getfield 36, 3) := by decide +kernel
theorem dX7_whyNotRemove_85 : decode cX7_whyNotRemove 85 = .ok (.iload_n 1, 1) := by decide +kernel
theorem dX7_whyNotRemove_86 : decode cX7_whyNotRemove 86 = .ok (.invokevirtual 194, 3) := by decide +kernel
theorem dX7_whyNotRemove_89 : decode cX7_whyNotRemove 89 = .ok (.ifCond .ne 7, 3) := by decide +kernel
theorem dX7_whyNotRemove_92 : decode cX7_whyNotRemove 92 = .ok (.iconst 0, 1) := by decide +kernel
theorem dX7_whyNotRemove_93 : decode cX7_whyNotRemove 93 = .ok (.goto 5, 3) := by decide +kernel
theorem dX7_whyNotRemove_96 : decode cX7_whyNotRemove 96 = .ok (.bipush (-8), 2) := by decide +kernel
theorem dX7_whyNotRemove_98 : decode cX7_whyNotRemove 98 = .ok (.ireturn, 1) := by decide +kernel
theorem dX7_volume_0 : decode cX7_volume 0 = .ok (.aload_n 0, 1) := by decide +kernel
theorem dX7_volume_1 : decode cX7_volume 1 = .ok (.getfield 29, 3) := by decide +kernel
theorem dX7_volume_4 : decode cX7_volume 4 = .ok (.invokevirtual 108, 3) := by decide +kernel
theorem dX7_volume_7 : decode cX7_volume 7 = .ok (.istore_n 1, 1) := by decide +kernel
theorem dX7_volume_8 : decode cX7_volume 8 = .ok (.iload_n 1, 1) := by decide +kernel
theorem dX7_volume_9 : decode cX7_volume 9 = .ok (.iconst (-1), 1) := by decide +kernel
theorem dX7_volume_10 : decode cX7_volume 10 = .ok (.if_icmp .eq 13, 3) := by decide +kernel
theorem dX7_volume_13 : decode cX7_volume 13 = .ok (.aload_n 0, 1) := by decide +kernel
theorem dX7_volume_14 : decode cX7_volume 14 = .ok (.getfield 45, 3) := by decide +kernel
theorem dX7_volume_17 : decode cX7_volume 17 = .ok (.invokevirtual 197, 3) := by decide +kernel
theorem dX7_volume_20 : decode cX7_volume 20 = .ok (.ifCond .eq 6, 3) := by decide +kernel
theorem dX7_volume_23 : decode cX7_volume 23 = .ok (.bipush (-10), 2) := by decide +kernel
theorem dX7_volume_25 : decode cX7_volume 25 = .ok (.ireturn, 1) := by decide +kernel
theorem dX7_volume_26 : decode cX7_volume 26 = .ok (.aload_n 0, 1) := by decide +kernel
theorem dX7_volume_27 : decode cX7_volume 27 = .ok (.getfield 45, 3) := by decide +kernel
theorem dX7_volume_30 : decode cX7_volume 30 = .ok (.iload_n 1, 1) := by decide +kernel
theorem dX7_volume_31 : decode cX7_volume 31 = .ok (.invokevirtual 65, 3) := by decide +kernel
theorem dX7_volume_34 : decode cX7_volume 34 = .ok (.istore_n 2, 1) := by decide +kernel
theorem dX7_volume_35 : decode cX7_volume 35 = .ok (.aload_n 0, 1) := by decide +kernel
theorem dX7_volume_36 : decode cX7_volume 36 = .ok (.getfield 29, 3) := by decide +kernel
theorem dX7_volume_39 : decode cX7_volume 39 = .ok (.iload_n 1, 1) := by decide +kernel
theorem dX7_volume_40 : decode cX7_volume 40 = .ok (.iconst 1, 1) := by decide +kernel
theorem dX7_volume_41 : decode cX7_volume 41 = .ok (.bipush 15, 2) := by decide +kernel
theorem dX7_volume_43 : decode cX7_volume 43 = .ok (.iconst 0, 1) := by decide +kernel
theorem dX7_volume_44 : decode cX7_volume 44 = .ok (.iload_n 2, 1) := by decide +kernel
theorem dX7_volume_45 : decode cX7_volume 45 = .ok (.invokevirtual 69, 3) := by decide +kernel
theorem dX7_volume_48 : decode cX7_volume 48 = .ok (.iload_n 2, 1) := by decide +kernel
theorem dX7_volume_49 : decode cX7_volume 49 = .ok (.ireturn, 1) := by decide +kernel
theorem dX7_mount_0 : decode cX7_mount 0 = .ok (.aload_n 0, 1) := by decide +kernel
theorem dX7_mount_1 : decode cX7_mount 1 = .ok (.getfield 45, 3) := by decide +kernel
theorem dX7_mount_4 : decode cX7_mount 4 = .ok (.iload_n 1, 1) := by decide +kernel
theorem dX7_mount_5 : decode cX7_mount 5 = .ok (.invokevirtual 198, 3) := by decide +kernel
theorem dX7_mount_8 : decode cX7_mount 8 = .ok (.ifCond .ne 6, 3) := by decide +kernel
theorem dX7_mount_11 : decode cX7_mount 11 = .ok (.bipush (-11), 2) := by decide +kernel
theorem dX7_mount_13 : decode cX7_mount 13 = .ok (.ireturn, 1) := by decide +kernel
theorem dX7_mount_14 : decode cX7_mount 14 = .ok (.aload_n 0, 1) := by decide +kernel
theorem dX7_mount_15 : decode cX7_mount 15 = .ok (.getfield 52, 3) := by decide +kernel
theorem dX7_mount_18 : decode cX7_mount 18 = .ok (.getfield 118, 3) := by decide +kernel
theorem dX7_mount_21 : decode cX7_mount 21 = .ok (.ifCond .eq 6, 3) := by decide +kernel
theorem dX7_mount_24 : decode cX7_mount 24 = .ok (.bipush (-3), 2) := by decide +kernel
theorem dX7_mount_26 : decode cX7_mount 26 = .ok (.ireturn, 1) := by decide +kernel
theorem dX7_mount_27 : decode cX7_mount 27 = .ok (.aload_n 0, 1) := by decide +kernel
theorem dX7_mount_28 : decode cX7_mount 28 = .ok (.getfield 45, 3) := by decide +kernel
theorem dX7_mount_31 : decode cX7_mount 31 = .ok (.iload_n 1, 1) := by decide +kernel
theorem dX7_mount_32 : decode cX7_mount 32 = .ok (.invokevirtual 201, 3) := by decide +kernel
theorem dX7_mount_35 : decode cX7_mount 35 = .ok (.ifCond .eq 6, 3) := by decide +kernel
theorem dX7_mount_38 : decode cX7_mount 38 = .ok (.bipush (-7), 2) := by decide +kernel
theorem dX7_mount_40 : decode cX7_mount 40 = .ok (.ireturn, 1) := by decide +kernel
theorem dX7_mount_41 : decode cX7_mount 41 = .ok (.aload_n 0, 1) := by decide +kernel
theorem dX7_mount_42 : decode cX7_mount 42 = .ok (.getfield 61, 3) := by decide +kernel
theorem dX7_mount_45 : decode cX7_mount 45 = .ok (.aload_n 0, 1) := by decide +kernel
theorem dX7_mount_46 : decode cX7_mount 46 = .ok (.getfield 10, 3) := by decide +kernel
theorem dX7_mount_49 : decode cX7_mount 49 = .ok (.iconst 1, 1) := by decide +kernel
theorem dX7_mount_50 : decode cX7_mount 50 = .ok (.invokevirtual 96, 3) := by decide +kernel
theorem dX7_mount_53 : decode cX7_mount 53 = .ok (.istore_n 2, 1) := by decide +kernel
theorem dX7_mount_54 : decode cX7_mount 54 = .ok (.iload_n 2, 1) := by decide +kernel
theorem dX7_mount_55 : decode cX7_mount 55 = .ok (.ifCond .ge 5, 3) := by decide +kernel
theorem dX7_mount_58 : decode cX7_mount 58 = .ok (.iload_n 2, 1) := by decide +kernel
theorem dX7_mount_59 : decode cX7_mount 59 = .ok (.ireturn, 1) := by decide +kernel
theorem dX7_mount_60 : decode cX7_mount 60 = .ok (.aload_n 0, 1) := by decide +kernel
theorem dX7_mount_61 : decode cX7_mount 61 = .ok (.getfield 29, 3) := by decide +kernel
theorem dX7_mount_64 : decode cX7_mount 64 = .ok (.iload_n 2, 1) := by decide +kernel
theorem dX7_mount_65 : decode cX7_mount 65 = .ok (.invokevirtual 166, 3) := by decide +kernel
theorem dX7_mount_68 : decode cX7_mount 68 = .ok (.ifCond .ne 6, 3) := by decide +kernel
theorem dX7_mount_71 : decode cX7_mount 71 = .ok (.bipush (-2), 2) := by decide +kernel
theorem dX7_mount_73 : decode cX7_mount 73 = .ok (.ireturn, 1) := by decide +kernel
theorem dX7_mount_74 : decode cX7_mount 74 = .ok (.aload_n 0, 1) := by decide +kernel
theorem dX7_mount_75 : decode cX7_mount 75 = .ok (.aload_n 0, 1) := by decide +kernel
theorem dX7_mount_76 : decode cX7_mount 76 = .ok (.getfield 52, 3) := by decide +kernel
theorem dX7_mount_79 : decode cX7_mount 79 = .ok (.getfield 188, 3) := by decide +kernel
theorem dX7_mount_82 : decode cX7_mount 82 = .ok (.iload_n 2, 1) := by decide +kernel
theorem dX7_mount_83 : decode cX7_mount 83 = .ok (.invokevirtual 204, 3) := by decide +kernel
theorem dX7_mount_86 : decode cX7_mount 86 = .ok (.ifCond .ne 18, 3) := by decide +kernel
theorem dX7_mount_89 : decode cX7_mount 89 = .ok (.aload_n 0, 1) := by decide +kernel
theorem dX7_mount_90 : decode cX7_mount 90 = .ok (.aload_n 0, 1) := by decide +kernel
theorem dX7_mount_91 : decode cX7_mount 91 = .ok (.getfield 52, 3) := by decide +kernel
theorem dX7_mount_94 : decode cX7_mount 94 = .ok (.getfield 191, 3) := by decide +kernel
theorem dX7_mount_97 : decode cX7_mount 97 = .ok (.iload_n 2, 1) := by decide +kernel
theorem dX7_mount_98 : decode cX7_mount 98 = .ok (.invokevirtual 204, 3) := by decide +kernel
theorem dX7_mount_101 : decode cX7_mount 101 = .ok (.ifCond .eq 6, 3) := by decide +kernel
theorem dX7_mount_104 : decode cX7_mount 104 = .ok (.bipush (-7), 2) := by decide +kernel
theorem dX7_mount_106 : decode cX7_mount 106 = .ok (.ireturn, 1) := by decide +kernel
theorem dX7_mount_107 : decode cX7_mount 107 = .ok (.aload_n 0, 1) := by decide +kernel
theorem dX7_mount_108 : decode cX7_mount 108 = .ok (.getfield 45, 3) := by decide +kernel
theorem dX7_mount_111 : decode cX7_mount 111 = .ok (.iload_n 1, 1) := by decide +kernel
theorem dX7_mount_112 : decode cX7_mount 112 = .ok (.iload_n 2, 1) := by decide +kernel
theorem dX7_mount_113 : decode cX7_mount 113 = .ok (.invokevirtual 207, 3) := by decide +kernel
theorem dX7_mount_116 : decode cX7_mount 116 = .ok (.iload_n 2, 1) := by decide +kernel
theorem dX7_mount_117 : decode cX7_mount 117 = .ok (.ireturn, 1) := by decide +kernel
theorem dX7_isAtOrBelow_0 : decode cX7_isAtOrBelow 0 = .ok (.iload_n 1, 1) := by decide +kernel
theorem dX7_isAtOrBelow_1 : decode cX7_isAtOrBelow 1 = .ok (.istore_n 3, 1) := by decide +kernel
theorem dX7_isAtOrBelow_2 : decode cX7_isAtOrBelow 2 = .ok (.iconst 0, 1) := by decide +kernel
theorem dX7_isAtOrBelow_3 : decode cX7_isAtOrBelow 3 = .ok (.istore 4, 2) := by decide +kernel
theorem dX7_isAtOrBelow_5 : decode cX7_isAtOrBelow 5 = .ok (.iload 4, 2) := by decide +kernel
theorem dX7_isAtOrBelow_7 : decode cX7_isAtOrBelow 7 = .ok (.bipush 40, 2) := by decide +kernel
theorem dX7_isAtOrBelow_9 : decode cX7_isAtOrBelow 9 = .ok (.if_icmp .ge 28, 3) := by decide +kernel
theorem dX7_isAtOrBelow_12 : decode cX7_isAtOrBelow 12 = .ok (.iload_n 3, 1) := by decide +kernel
theorem dX7_isAtOrBelow_13 : decode cX7_isAtOrBelow 13 = .ok (.iload_n 2, 1) := by decide +kernel
theorem dX7_isAtOrBelow_14 : decode cX7_isAtOrBelow 14 = .ok (.if_icmp .eq 23, 3) := by decide +kernel
theorem dX7_isAtOrBelow_17 : decode cX7_isAtOrBelow 17 = .ok (.iload_n 3, 1) := by decide +kernel
theorem dX7_isAtOrBelow_18 : decode cX7_isAtOrBelow 18 = .ok (.ifCond .eq 19, 3) := by decide +kernel
theorem dX7_isAtOrBelow_21 : decode cX7_isAtOrBelow 21 = .ok (.aload_n 0, 1) := by decide +kernel
theorem dX7_isAtOrBelow_22 : decode cX7_isAtOrBelow 22 = .ok (.getfield 45, 3) := by decide +kernel
theorem dX7_isAtOrBelow_25 : decode cX7_isAtOrBelow 25 = .ok (.iload_n 3, 1) := by decide +kernel
theorem dX7_isAtOrBelow_26 : decode cX7_isAtOrBelow 26 = .ok (.iconst 0, 1) := by decide +kernel
theorem dX7_isAtOrBelow_27 : decode cX7_isAtOrBelow 27 = .ok (.invokevirtual 210, 3) := by decide +kernel
theorem dX7_isAtOrBelow_30 : decode cX7_isAtOrBelow 30 = .ok (.istore_n 3, 1) := by decide +kernel
theorem dX7_isAtOrBelow_31 : decode cX7_isAtOrBelow 31 = .ok (.iinc 4 1, 3) := by decide +kernel
theorem dX7_isAtOrBelow_34 : decode cX7_isAtOrBelow 34 = .ok (.goto (-29), 3) := by decide +kernel
theorem dX7_isAtOrBelow_37 : decode cX7_isAtOrBelow 37 = .ok (.iload_n 3, 1) := by decide +kernel
theorem dX7_isAtOrBelow_38 : decode cX7_isAtOrBelow 38 = .ok (.iload_n 2, 1) := by decide +kernel
theorem dX7_isAtOrBelow_39 : decode cX7_isAtOrBelow 39 = .ok (.if_icmp .ne 7, 3) := by decide +kernel
theorem dX7_isAtOrBelow_42 : decode cX7_isAtOrBelow 42 = .ok (.iconst 1, 1) := by decide +kernel
theorem dX7_isAtOrBelow_43 : decode cX7_isAtOrBelow 43 = .ok (.goto 4, 3) := by decide +kernel
theorem dX7_isAtOrBelow_46 : decode cX7_isAtOrBelow 46 = .ok (.iconst 0, 1) := by decide +kernel
theorem dX7_isAtOrBelow_47 : decode cX7_isAtOrBelow 47 = .ok (.ireturn, 1) := by decide +kernel
theorem dX7_unmount_0 : decode cX7_unmount 0 = .ok (.aload_n 0, 1) := by decide +kernel
theorem dX7_unmount_1 : decode cX7_unmount 1 = .ok (.getfield 52, 3) := by decide +kernel
theorem dX7_unmount_4 : decode cX7_unmount 4 = .ok (.getfield 118, 3) := by decide +kernel
theorem dX7_unmount_7 : decode cX7_unmount 7 = .ok (.ifCond .eq 6, 3) := by decide +kernel
theorem dX7_unmount_10 : decode cX7_unmount 10 = .ok (.bipush (-3), 2) := by decide +kernel
theorem dX7_unmount_12 : decode cX7_unmount 12 = .ok (.ireturn, 1) := by decide +kernel
theorem dX7_unmount_13 : decode cX7_unmount 13 = .ok (.aload_n 0, 1) := by decide +kernel
theorem dX7_unmount_14 : decode cX7_unmount 14 = .ok (.getfield 61, 3) := by decide +kernel
theorem dX7_unmount_17 : decode cX7_unmount 17 = .ok (.aload_n 0, 1) := by decide +kernel
theorem dX7_unmount_18 : decode cX7_unmount 18 = .ok (.getfield 10, 3) := by decide +kernel
theorem dX7_unmount_21 : decode cX7_unmount 21 = .ok (.iconst 1, 1) := by decide +kernel
theorem dX7_unmount_22 : decode cX7_unmount 22 = .ok (.invokevirtual 96, 3) := by decide +kernel
theorem dX7_unmount_25 : decode cX7_unmount 25 = .ok (.istore_n 1, 1) := by decide +kernel
theorem dX7_unmount_26 : decode cX7_unmount 26 = .ok (.iload_n 1, 1) := by decide +kernel
theorem dX7_unmount_27 : decode cX7_unmount 27 = .ok (.ifCond .ge 5, 3) := by decide +kernel
theorem dX7_unmount_30 : decode cX7_unmount 30 = .ok (.iload_n 1, 1) := by decide +kernel
theorem dX7_unmount_31 : decode cX7_unmount 31 = .ok (.ireturn, 1) := by decide +kernel
theorem dX7_unmount_32 : decode cX7_unmount 32 = .ok (.aload_n 0, 1) := by decide +kernel
theorem dX7_unmount_33 : decode cX7_unmount 33 = .ok (.getfield 45, 3) := by decide +kernel
theorem dX7_unmount_36 : decode cX7_unmount 36 = .ok (.iload_n 1, 1) := by decide +kernel
theorem dX7_unmount_37 : decode cX7_unmount 37 = .ok (.invokevirtual 214, 3) := by decide +kernel
theorem dX7_unmount_40 : decode cX7_unmount 40 = .ok (.istore_n 2, 1) := by decide +kernel
theorem dX7_unmount_41 : decode cX7_unmount 41 = .ok (.iload_n 2, 1) := by decide +kernel
theorem dX7_unmount_42 : decode cX7_unmount 42 = .ok (.iconst (-1), 1) := by decide +kernel
theorem dX7_unmount_43 : decode cX7_unmount 43 = .ok (.if_icmp .ne 6, 3) := by decide +kernel
theorem dX7_unmount_46 : decode cX7_unmount 46 = .ok (.bipush (-11), 2) := by decide +kernel
theorem dX7_unmount_48 : decode cX7_unmount 48 = .ok (.ireturn, 1) := by decide +kernel
theorem dX7_unmount_49 : decode cX7_unmount 49 = .ok (.aload_n 0, 1) := by decide +kernel
theorem dX7_unmount_50 : decode cX7_unmount 50 = .ok (.getfield 29, 3) := by decide +kernel
theorem dX7_unmount_53 : decode cX7_unmount 53 = .ok (.aload_n 0, 1) := by decide +kernel
theorem dX7_unmount_54 : decode cX7_unmount 54 = .ok (.getfield 52, 3) := by decide +kernel
theorem dX7_unmount_57 : decode cX7_unmount 57 = .ok (.getfield 188, 3) := by decide +kernel
theorem dX7_unmount_60 : decode cX7_unmount 60 = .ok (.invokevirtual 122, 3) := by decide +kernel
theorem dX7_unmount_63 : decode cX7_unmount 63 = .ok (.iload_n 2, 1) := by decide +kernel
theorem dX7_unmount_64 : decode cX7_unmount 64 = .ok (.if_icmp .eq 32, 3) := by decide +kernel
theorem dX7_unmount_67 : decode cX7_unmount 67 = .ok (.aload_n 0, 1) := by decide +kernel
theorem dX7_unmount_68 : decode cX7_unmount 68 = .ok (.getfield 29, 3) := by decide +kernel
theorem dX7_unmount_71 : decode cX7_unmount 71 = .ok (.aload_n 0, 1) := by decide +kernel
theorem dX7_unmount_72 : decode cX7_unmount 72 = .ok (.getfield 52, 3) := by decide +kernel
theorem dX7_unmount_75 : decode cX7_unmount 75 = .ok (.getfield 191, 3) := by decide +kernel
theorem dX7_unmount_78 : decode cX7_unmount 78 = .ok (.invokevirtual 122, 3) := by decide +kernel
theorem dX7_unmount_81 : decode cX7_unmount 81 = .ok (.iload_n 2, 1) := by decide +kernel
theorem dX7_unmount_82 : decode cX7_unmount 82 = .ok (.if_icmp .eq 14, 3) := by decide +kernel
theorem dX7_unmount_85 : decode cX7_unmount 85 = .ok (.aload_n 0, 1) := by decide +kernel
theorem dX7_unmount_86 : decode cX7_unmount 86 = .ok (.getfield 45, 3) := by decide +kernel
theorem dX7_unmount_89 : decode cX7_unmount 89 = .ok (.iload_n 2, 1) := by decide +kernel
theorem dX7_unmount_90 : decode cX7_unmount 90 = .ok (.invokevirtual 217, 3) := by decide +kernel
theorem dX7_unmount_93 : decode cX7_unmount 93 = .ok (.ifCond .eq 6, 3) := by decide +kernel
theorem dX7_unmount_96 : decode cX7_unmount 96 = .ok (.bipush (-7), 2) := by decide +kernel
theorem dX7_unmount_98 : decode cX7_unmount 98 = .ok (.ireturn, 1) := by decide +kernel
theorem dX7_unmount_99 : decode cX7_unmount 99 = .ok (.aload_n 0, 1) := by decide +kernel
theorem dX7_unmount_100 : decode cX7_unmount 100 = .ok (.getfield 45, 3) := by decide +kernel
theorem dX7_unmount_103 : decode cX7_unmount 103 = .ok (.iload_n 2, 1) := by decide +kernel
theorem dX7_unmount_104 : decode cX7_unmount 104 = .ok (.invokevirtual 220, 3) := by decide +kernel
theorem dX7_unmount_107 : decode cX7_unmount 107 = .ok (.iload_n 2, 1) := by decide +kernel
theorem dX7_unmount_108 : decode cX7_unmount 108 = .ok (.ireturn, 1) := by decide +kernel
theorem dX7_enter_0 : decode cX7_enter 0 = .ok (.aload_n 0, 1) := by decide +kernel
theorem dX7_enter_1 : decode cX7_enter 1 = .ok (.getfield 61, 3) := by decide +kernel
theorem dX7_enter_4 : decode cX7_enter 4 = .ok (.aload_n 0, 1) := by decide +kernel
theorem dX7_enter_5 : decode cX7_enter 5 = .ok (.getfield 10, 3) := by decide +kernel
theorem dX7_enter_8 : decode cX7_enter 8 = .ok (.iconst 1, 1) := by decide +kernel
theorem dX7_enter_9 : decode cX7_enter 9 = .ok (.invokevirtual 96, 3) := by decide +kernel
theorem dX7_enter_12 : decode cX7_enter 12 = .ok (.istore_n 2, 1) := by decide +kernel
theorem dX7_enter_13 : decode cX7_enter 13 = .ok (.iload_n 2, 1) := by decide +kernel
theorem dX7_enter_14 : decode cX7_enter 14 = .ok (.ifCond .ge 5, 3) := by decide +kernel
theorem dX7_enter_17 : decode cX7_enter 17 = .ok (.iload_n 2, 1) := by decide +kernel
theorem dX7_enter_18 : decode cX7_enter 18 = .ok (.ireturn, 1) := by decide +kernel
theorem dX7_enter_19 : decode cX7_enter 19 = .ok (.aload_n 0, 1) := by decide +kernel
theorem dX7_enter_20 : decode cX7_enter 20 = .ok (.getfield 29, 3) := by decide +kernel
theorem dX7_enter_23 : decode cX7_enter 23 = .ok (.iload_n 2, 1) := by decide +kernel
theorem dX7_enter_24 : decode cX7_enter 24 = .ok (.invokevirtual 166, 3) := by decide +kernel
theorem dX7_enter_27 : decode cX7_enter 27 = .ok (.ifCond .ne 6, 3) := by decide +kernel
theorem dX7_enter_30 : decode cX7_enter 30 = .ok (.bipush (-2), 2) := by decide +kernel
theorem dX7_enter_32 : decode cX7_enter 32 = .ok (.ireturn, 1) := by decide +kernel
theorem dX7_enter_33 : decode cX7_enter 33 = .ok (.aload_n 0, 1) := by decide +kernel
theorem dX7_enter_34 : decode cX7_enter 34 = .ok (.getfield 52, 3) := by decide +kernel
theorem dX7_enter_37 : decode cX7_enter 37 = .ok (.iconst 1, 1) := by decide +kernel
theorem dX7_enter_38 : decode cX7_enter 38 = .ok (.iload_n 2, 1) := by decide +kernel
theorem dX7_enter_39 : decode cX7_enter 39 = .ok (.invokevirtual 163, 3) := by decide +kernel
theorem dX7_enter_42 : decode cX7_enter 42 = .ok (.ifCond .ne 6, 3) := by decide +kernel
theorem dX7_enter_45 : decode cX7_enter 45 = .ok (.bipush (-3), 2) := by decide +kernel
theorem dX7_enter_47 : decode cX7_enter 47 = .ok (.ireturn, 1) := by decide +kernel
theorem dX7_enter_48 : decode cX7_enter 48 = .ok (.aload_n 0, 1) := by decide +kernel
theorem dX7_enter_49 : decode cX7_enter 49 = .ok (.getfield 52, 3) := by decide +kernel
theorem dX7_enter_52 : decode cX7_enter 52 = .ok (.iload_n 2, 1) := by decide +kernel
theorem dX7_enter_53 : decode cX7_enter 53 = .ok (.putfield 191, 3) := by decide +kernel
theorem dX7_enter_56 : decode cX7_enter 56 = .ok (.iload_n 1, 1) := by decide +kernel
theorem dX7_enter_57 : decode cX7_enter 57 = .ok (.ifCond .eq 11, 3) := by decide +kernel
theorem dX7_enter_60 : decode cX7_enter 60 = .ok (.aload_n 0, 1) := by decide +kernel
theorem dX7_enter_61 : decode cX7_enter 61 = .ok (.getfield 52, 3) := by decide +kernel
theorem dX7_enter_64 : decode cX7_enter 64 = .ok (.iload_n 2, 1) := by decide +kernel
theorem dX7_enter_65 : decode cX7_enter 65 = .ok (.putfield 188, 3) := by decide +kernel
theorem dX7_enter_68 : decode cX7_enter 68 = .ok (.iload_n 2, 1) := by decide +kernel
theorem dX7_enter_69 : decode cX7_enter 69 = .ok (.ireturn, 1) := by decide +kernel
theorem dX7_user_0 : decode cX7_user 0 = .ok (.iload_n 1, 1) := by decide +kernel
theorem dX7_user_1 : decode cX7_user 1 = .ok (.ifCond .lt 8, 3) := by decide +kernel
theorem dX7_user_4 : decode cX7_user 4 = .ok (.iload_n 1, 1) := by decide +kernel
theorem dX7_user_5 : decode cX7_user 5 = .ok (.iconst 4, 1) := by decide +kernel
theorem dX7_user_6 : decode cX7_user 6 = .ok (.if_icmp .lt 5, 3) := by decide +kernel
theorem dX7_user_9 : decode cX7_user 9 = .ok (.iconst 0, 1) := by decide +kernel
theorem dX7_user_10 : decode cX7_user 10 = .ok (.ireturn, 1) := by decide +kernel
theorem dX7_user_11 : decode cX7_user 11 = .ok (.aload_n 0, 1) := by decide +kernel
theorem dX7_user_12 : decode cX7_user 12 = .ok (.getfield 52, 3) := by decide +kernel
theorem dX7_user_15 : decode cX7_user 15 = .ok (.iload_n 1, 1) := by decide +kernel
theorem dX7_user_16 : decode cX7_user 16 = .ok (.putfield 118, 3) := by decide +kernel
theorem dX7_user_19 : decode cX7_user 19 = .ok (.iconst 1, 1) := by decide +kernel
theorem dX7_user_20 : decode cX7_user 20 = .ok (.ireturn, 1) := by decide +kernel
theorem dX7_change_0 : decode cX7_change 0 = .ok (.iload_n 1, 1) := by decide +kernel
theorem dX7_change_1 : decode cX7_change 1 = .ok (.invokestatic 143, 3) := by decide +kernel
theorem dX7_change_4 : decode cX7_change 4 = .ok (.ifCond .ne 6, 3) := by decide +kernel
theorem dX7_change_7 : decode cX7_change 7 = .ok (.bipush (-11), 2) := by decide +kernel
theorem dX7_change_9 : decode cX7_change 9 = .ok (.ireturn, 1) := by decide +kernel
theorem dX7_change_10 : decode cX7_change 10 = .ok (.aload_n 0, 1) := by decide +kernel
theorem dX7_change_11 : decode cX7_change 11 = .ok (.getfield 61, 3) := by decide +kernel
theorem dX7_change_14 : decode cX7_change 14 = .ok (.aload_n 0, 1) := by decide +kernel
theorem dX7_change_15 : decode cX7_change 15 = .ok (.getfield 10, 3) := by decide +kernel
theorem dX7_change_18 : decode cX7_change 18 = .ok (.iconst 1, 1) := by decide +kernel
theorem dX7_change_19 : decode cX7_change 19 = .ok (.invokevirtual 96, 3) := by decide +kernel
theorem dX7_change_22 : decode cX7_change 22 = .ok (.istore_n 2, 1) := by decide +kernel
theorem dX7_change_23 : decode cX7_change 23 = .ok (.iload_n 2, 1) := by decide +kernel
theorem dX7_change_24 : decode cX7_change 24 = .ok (.ifCond .ge 5, 3) := by decide +kernel
theorem dX7_change_27 : decode cX7_change 27 = .ok (.iload_n 2, 1) := by decide +kernel
theorem dX7_change_28 : decode cX7_change 28 = .ok (.ireturn, 1) := by decide +kernel
theorem dX7_change_29 : decode cX7_change 29 = .ok (.aload_n 0, 1) := by decide +kernel
theorem dX7_change_30 : decode cX7_change 30 = .ok (.getfield 52, 3) := by decide +kernel
theorem dX7_change_33 : decode cX7_change 33 = .ok (.getfield 118, 3) := by decide +kernel
theorem dX7_change_36 : decode cX7_change 36 = .ok (.ifCond .eq 24, 3) := by decide +kernel
theorem dX7_change_39 : decode cX7_change 39 = .ok (.aload_n 0, 1) := by decide +kernel
theorem dX7_change_40 : decode cX7_change 40 = .ok (.getfield 52, 3) := by decide +kernel
theorem dX7_change_43 : decode cX7_change 43 = .ok (.getfield 118, 3) := by decide +kernel
theorem dX7_change_46 : decode cX7_change 46 = .ok (.aload_n 0, 1) := by decide +kernel
theorem dX7_change_47 : decode cX7_change 47 = .ok (.getfield 29, 3) := by decide +kernel
theorem dX7_change_50 : decode cX7_change 50 = .ok (.iload_n 2, 1) := by decide +kernel
theorem dX7_change_51 : decode cX7_change 51 = .ok (.invokevirtual 223, 3) := by decide +kernel
theorem dX7_change_54 : decode cX7_change 54 = .ok (.if_icmp .eq 6, 3) := by decide +kernel
theorem dX7_change_57 : decode cX7_change 57 = .ok (.bipush (-3), 2) := by decide +kernel
theorem dX7_change_59 : decode cX7_change 59 = .ok (.ireturn, 1) := by decide +kernel
theorem dX7_change_60 : decode cX7_change 60 = .ok (.aload_n 0, 1) := by decide +kernel
theorem dX7_change_61 : decode cX7_change 61 = .ok (.getfield 29, 3) := by decide +kernel
theorem dX7_change_64 : decode cX7_change 64 = .ok (.iload_n 2, 1) := by decide +kernel
theorem dX7_change_65 : decode cX7_change 65 = .ok (.invokevirtual 226, 3) := by decide +kernel
theorem dX7_change_68 : decode cX7_change 68 = .ok (.istore_n 3, 1) := by decide +kernel
theorem dX7_change_69 : decode cX7_change 69 = .ok (.aload_n 0, 1) := by decide +kernel
theorem dX7_change_70 : decode cX7_change 70 = .ok (.getfield 29, 3) := by decide +kernel
theorem dX7_change_73 : decode cX7_change 73 = .ok (.iload_n 2, 1) := by decide +kernel
theorem dX7_change_74 : decode cX7_change 74 = .ok (.iload_n 1, 1) := by decide +kernel
theorem dX7_change_75 : decode cX7_change 75 = .ok (.invokevirtual 229, 3) := by decide +kernel
theorem dX7_change_78 : decode cX7_change 78 = .ok (.iload_n 3, 1) := by decide +kernel
theorem dX7_change_79 : decode cX7_change 79 = .ok (.ireturn, 1) := by decide +kernel
theorem dX7_path_0 : decode cX7_path 0 = .ok (.aload_n 0, 1) := by decide +kernel
theorem dX7_path_1 : decode cX7_path 1 = .ok (.getfield 22, 3) := by decide +kernel
theorem dX7_path_4 : decode cX7_path 4 = .ok (.invokevirtual 232, 3) := by decide +kernel
theorem dX7_path_7 : decode cX7_path 7 = .ok (.aload_n 0, 1) := by decide +kernel
theorem dX7_path_8 : decode cX7_path 8 = .ok (.getfield 52, 3) := by decide +kernel
theorem dX7_path_11 : decode cX7_path 11 = .ok (.getfield 191, 3) := by decide +kernel
theorem dX7_path_14 : decode cX7_path 14 = .ok (.istore_n 1, 1) := by decide +kernel
theorem dX7_path_15 : decode cX7_path 15 = .ok (.iconst 0, 1) := by decide +kernel
theorem dX7_path_16 : decode cX7_path 16 = .ok (.istore_n 2, 1) := by decide +kernel
theorem dX7_path_17 : decode cX7_path 17 = .ok (.iload_n 2, 1) := by decide +kernel
theorem dX7_path_18 : decode cX7_path 18 = .ok (.bipush 40, 2) := by decide +kernel
theorem dX7_path_20 : decode cX7_path 20 = .ok (.if_icmp .ge 73, 3) := by decide +kernel
theorem dX7_path_23 : decode cX7_path 23 = .ok (.iload_n 1, 1) := by decide +kernel
theorem dX7_path_24 : decode cX7_path 24 = .ok (.aload_n 0, 1) := by decide +kernel
theorem dX7_path_25 : decode cX7_path 25 = .ok (.getfield 52, 3) := by decide +kernel
theorem dX7_path_28 : decode cX7_path 28 = .ok (.getfield 188, 3) := by decide +kernel
theorem dX7_path_31 : decode cX7_path 31 = .ok (.if_icmp .eq 62, 3) := by decide +kernel
theorem dX7_path_34 : decode cX7_path 34 = .ok (.aload_n 0, 1) := by decide +kernel
theorem dX7_path_35 : decode cX7_path 35 = .ok (.getfield 22, 3) := by decide +kernel
theorem dX7_path_38 : decode cX7_path 38 = .ok (.aload_n 0, 1) := by decide +kernel
theorem dX7_path_39 : decode cX7_path 39 = .ok (.getfield 36, 3) := by decide +kernel
theorem dX7_path_42 : decode cX7_path 42 = .ok (.aload_n 0, 1) := by decide +kernel
theorem dX7_path_43 : decode cX7_path 43 = .ok (.getfield 45, 3) := by decide +kernel
theorem dX7_path_46 : decode cX7_path 46 = .ok (.iload_n 1, 1) := by decide +kernel
theorem dX7_path_47 : decode cX7_path 47 = .ok (.invokevirtual 233, 3) := by decide +kernel
theorem dX7_path_50 : decode cX7_path 50 = .ok (.invokevirtual 236, 3) := by decide +kernel
theorem dX7_path_53 : decode cX7_path 53 = .ok (.invokevirtual 240, 3) := by decide +kernel
theorem dX7_path_56 : decode cX7_path 56 = .ok (.aload_n 0, 1) := by decide +kernel
theorem dX7_path_57 : decode cX7_path 57 = .ok (.getfield 22, 3) := by decide +kernel
theorem dX7_path_60 : decode cX7_path 60 = .ok (.invokevirtual 244, 3) := by decide +kernel
theorem dX7_path_63 : decode cX7_path 63 = .ok (.bipush 40, 2) := by decide +kernel
theorem dX7_path_65 : decode cX7_path 65 = .ok (.if_icmp .le 6, 3) := by decide +kernel
theorem dX7_path_68 : decode cX7_path 68 = .ok (.bipush (-5), 2) := by decide +kernel
theorem dX7_path_70 : decode cX7_path 70 = .ok (.ireturn, 1) := by decide +kernel
theorem dX7_path_71 : decode cX7_path 71 = .ok (.aload_n 0, 1) := by decide +kernel
theorem dX7_path_72 : decode cX7_path 72 = .ok (.getfield 45, 3) := by decide +kernel
theorem dX7_path_75 : decode cX7_path 75 = .ok (.iload_n 1, 1) := by decide +kernel
theorem dX7_path_76 : decode cX7_path 76 = .ok (.aload_n 0, 1) := by decide +kernel
theorem dX7_path_77 : decode cX7_path 77 = .ok (.getfield 52, 3) := by decide +kernel
theorem dX7_path_80 : decode cX7_path 80 = .ok (.getfield 188, 3) := by decide +kernel
theorem dX7_path_83 : decode cX7_path 83 = .ok (.invokevirtual 210, 3) := by decide +kernel
theorem dX7_path_86 : decode cX7_path 86 = .ok (.istore_n 1, 1) := by decide +kernel
theorem dX7_path_87 : decode cX7_path 87 = .ok (.iinc 2 1, 3) := by decide +kernel
theorem dX7_path_90 : decode cX7_path 90 = .ok (.goto (-73), 3) := by decide +kernel
theorem dX7_path_93 : decode cX7_path 93 = .ok (.aload_n 0, 1) := by decide +kernel
theorem dX7_path_94 : decode cX7_path 94 = .ok (.getfield 22, 3) := by decide +kernel
theorem dX7_path_97 : decode cX7_path 97 = .ok (.invokevirtual 245, 3) := by decide +kernel
theorem dX7_path_100 : decode cX7_path 100 = .ok (.ifCond .eq 12, 3) := by decide +kernel
theorem dX7_path_103 : decode cX7_path 103 = .ok (.aload_n 0, 1) := by decide +kernel
theorem dX7_path_104 : decode cX7_path 104 = .ok (.getfield 22, 3) := by decide +kernel
theorem dX7_path_107 : decode cX7_path 107 = .ok (.bipush 47, 2) := by decide +kernel
theorem dX7_path_109 : decode cX7_path 109 = .ok (.invokevirtual 246, 3) := by decide +kernel
theorem dX7_path_112 : decode cX7_path 112 = .ok (.aload_n 0, 1) := by decide +kernel
theorem dX7_path_113 : decode cX7_path 113 = .ok (.getfield 10, 3) := by decide +kernel
theorem dX7_path_116 : decode cX7_path 116 = .ok (.invokevirtual 81, 3) := by decide +kernel
theorem dX7_path_119 : decode cX7_path 119 = .ok (.iconst 0, 1) := by decide +kernel
theorem dX7_path_120 : decode cX7_path 120 = .ok (.istore_n 2, 1) := by decide +kernel
theorem dX7_path_121 : decode cX7_path 121 = .ok (.iload_n 2, 1) := by decide +kernel
theorem dX7_path_122 : decode cX7_path 122 = .ok (.bipush 40, 2) := by decide +kernel
theorem dX7_path_124 : decode cX7_path 124 = .ok (.if_icmp .ge 33, 3) := by decide +kernel
theorem dX7_path_127 : decode cX7_path 127 = .ok (.aload_n 0, 1) := by decide +kernel
theorem dX7_path_128 : decode cX7_path 128 = .ok (.getfield 22, 3) := by decide +kernel
theorem dX7_path_131 : decode cX7_path 131 = .ok (.invokevirtual 245, 3) := by decide +kernel
theorem dX7_path_134 : decode cX7_path 134 = .ok (.ifCond .ne 23, 3) := by decide +kernel
theorem dX7_path_137 : decode cX7_path 137 = .ok (.aload_n 0, 1) := by decide +kernel
theorem dX7_path_138 : decode cX7_path 138 = .ok (.getfield 10, 3) := by decide +kernel
theorem dX7_path_141 : decode cX7_path 141 = .ok (.aload_n 0, 1) := by decide +kernel
theorem dX7_path_142 : decode cX7_path 142 = .ok (.getfield 22, 3) := by decide +kernel
theorem dX7_path_145 : decode cX7_path 145 = .ok (.invokevirtual 249, 3) := by decide +kernel
theorem dX7_path_148 : decode cX7_path 148 = .ok (.invokevirtual 77, 3) := by decide +kernel
theorem dX7_path_151 : decode cX7_path 151 = .ok (.iinc 2 1, 3) := by decide +kernel
theorem dX7_path_154 : decode cX7_path 154 = .ok (.goto (-33), 3) := by decide +kernel
theorem dX7_path_157 : decode cX7_path 157 = .ok (.aload_n 0, 1) := by decide +kernel
theorem dX7_path_158 : decode cX7_path 158 = .ok (.getfield 10, 3) := by decide +kernel
theorem dX7_path_161 : decode cX7_path 161 = .ok (.invokevirtual 88, 3) := by decide +kernel
theorem dX7_path_164 : decode cX7_path 164 = .ok (.ireturn, 1) := by decide +kernel
theorem dX7_kind_0 : decode cX7_kind 0 = .ok (.iload_n 1, 1) := by decide +kernel
theorem dX7_kind_1 : decode cX7_kind 1 = .ok (.ifCond .lt 20, 3) := by decide +kernel
theorem dX7_kind_4 : decode cX7_kind 4 = .ok (.iload_n 1, 1) := by decide +kernel
theorem dX7_kind_5 : decode cX7_kind 5 = .ok (.bipush 40, 2) := by decide +kernel
theorem dX7_kind_7 : decode cX7_kind 7 = .ok (.if_icmp .ge 14, 3) := by decide +kernel
theorem dX7_kind_10 : decode cX7_kind 10 = .ok (.aload_n 0, 1) := by decide +kernel
theorem dX7_kind_11 : decode cX7_kind 11 = .ok (.getfield 29, 3) := by decide +kernel
theorem dX7_kind_14 : decode cX7_kind 14 = .ok (.iload_n 1, 1) := by decide +kernel
theorem dX7_kind_15 : decode cX7_kind 15 = .ok (.invokevirtual 253, 3) := by decide +kernel
theorem dX7_kind_18 : decode cX7_kind 18 = .ok (.goto 4, 3) := by decide +kernel
theorem dX7_kind_21 : decode cX7_kind 21 = .ok (.iconst 0, 1) := by decide +kernel
theorem dX7_kind_22 : decode cX7_kind 22 = .ok (.ireturn, 1) := by decide +kernel
theorem dX7_about_0 : decode cX7_about 0 = .ok (.aload_n 0, 1) := by decide +kernel
theorem dX7_about_1 : decode cX7_about 1 = .ok (.iload_n 1, 1) := by decide +kernel
theorem dX7_about_2 : decode cX7_about 2 = .ok (.invokevirtual 256, 3) := by decide +kernel
theorem dX7_about_5 : decode cX7_about 5 = .ok (.ifCond .ne 6, 3) := by decide +kernel
theorem dX7_about_8 : decode cX7_about 8 = .ok (.bipush (-11), 2) := by decide +kernel
theorem dX7_about_10 : decode cX7_about 10 = .ok (.ireturn, 1) := by decide +kernel
theorem dX7_about_11 : decode cX7_about 11 = .ok (.iload_n 2, 1) := by decide +kernel
theorem dX7_about_12 : decode cX7_about 12 = .ok (.tableswitch 94 0 5 #[40, 49, 58, 67, 76, 85], 40) := by decide +kernel
theorem dX7_about_52 : decode cX7_about 52 = .ok (.aload_n 0, 1) := by decide +kernel
theorem dX7_about_53 : decode cX7_about 53 = .ok (.getfield 29, 3) := by decide +kernel
theorem dX7_about_56 : decode cX7_about 56 = .ok (.iload_n 1, 1) := by decide +kernel
theorem dX7_about_57 : decode cX7_about 57 = .ok (.invokevirtual 226, 3) := by decide +kernel
theorem dX7_about_60 : decode cX7_about 60 = .ok (.ireturn, 1) := by decide +kernel
theorem dX7_about_61 : decode cX7_about 61 = .ok (.aload_n 0, 1) := by decide +kernel
theorem dX7_about_62 : decode cX7_about 62 = .ok (.getfield 29, 3) := by decide +kernel
theorem dX7_about_65 : decode cX7_about 65 = .ok (.iload_n 1, 1) := by decide +kernel
theorem dX7_about_66 : decode cX7_about 66 = .ok (.invokevirtual 223, 3) := by decide +kernel
theorem dX7_about_69 : decode cX7_about 69 = .ok (.ireturn, 1) := by decide +kernel
theorem dX7_about_70 : decode cX7_about 70 = .ok (.aload_n 0, 1) := by decide +kernel
theorem dX7_about_71 : decode cX7_about 71 = .ok (.getfield 29, 3) := by decide +kernel
theorem dX7_about_74 : decode cX7_about 74 = .ok (.iload_n 1, 1) := by decide +kernel
theorem dX7_about_75 : decode cX7_about 75 = .ok (.invokevirtual 122, 3) := by decide +kernel
theorem dX7_about_78 : decode cX7_about 78 = .ok (.ireturn, 1) := by decide +kernel
theorem dX7_about_79 : decode cX7_about 79 = .ok (.aload_n 0, 1) := by decide +kernel
theorem dX7_about_80 : decode cX7_about 80 = .ok (.getfield 36, 3) := by decide +kernel
theorem dX7_about_83 : decode cX7_about 83 = .ok (.iload_n 1, 1) := by decide +kernel
theorem dX7_about_84 : decode cX7_about 84 = .ok (.invokevirtual 179, 3) := by decide +kernel
theorem dX7_about_87 : decode cX7_about 87 = .ok (.ireturn, 1) := by decide +kernel
theorem dX7_about_88 : decode cX7_about 88 = .ok (.aload_n 0, 1) := by decide +kernel
theorem dX7_about_89 : decode cX7_about 89 = .ok (.getfield 36, 3) := by decide +kernel
theorem dX7_about_92 : decode cX7_about 92 = .ok (.iload_n 1, 1) := by decide +kernel
theorem dX7_about_93 : decode cX7_about 93 = .ok (.invokevirtual 194, 3) := by decide +kernel
theorem dX7_about_96 : decode cX7_about 96 = .ok (.ireturn, 1) := by decide +kernel
theorem dX7_about_97 : decode cX7_about 97 = .ok (.aload_n 0, 1) := by decide +kernel
theorem dX7_about_98 : decode cX7_about 98 = .ok (.getfield 45, 3) := by decide +kernel
theorem dX7_about_101 : decode cX7_about 101 = .ok (.iload_n 1, 1) := by decide +kernel
theorem dX7_about_102 : decode cX7_about 102 = .ok (.invokevirtual 185, 3) := by decide +kernel
theorem dX7_about_105 : decode cX7_about 105 = .ok (.ireturn, 1) := by decide +kernel
theorem dX7_about_106 : decode cX7_about 106 = .ok (.bipush (-11), 2) := by decide +kernel
theorem dX7_about_108 : decode cX7_about 108 = .ok (.ireturn, 1) := by decide +kernel
theorem dX7_entry_0 : decode cX7_entry 0 = .ok (.aload_n 0, 1) := by decide +kernel
theorem dX7_entry_1 : decode cX7_entry 1 = .ok (.getfield 36, 3) := by decide +kernel
theorem dX7_entry_4 : decode cX7_entry 4 = .ok (.iload_n 1, 1) := by decide +kernel
theorem dX7_entry_5 : decode cX7_entry 5 = .ok (.iload_n 2, 1) := by decide +kernel
theorem dX7_entry_6 : decode cX7_entry 6 = .ok (.invokevirtual 259, 3) := by decide +kernel
theorem dX7_entry_9 : decode cX7_entry 9 = .ok (.istore_n 3, 1) := by decide +kernel
theorem dX7_entry_10 : decode cX7_entry 10 = .ok (.iload_n 3, 1) := by decide +kernel
theorem dX7_entry_11 : decode cX7_entry 11 = .ok (.iconst (-1), 1) := by decide +kernel
theorem dX7_entry_12 : decode cX7_entry 12 = .ok (.if_icmp .ne 7, 3) := by decide +kernel
theorem dX7_entry_15 : decode cX7_entry 15 = .ok (.iconst (-1), 1) := by decide +kernel
theorem dX7_entry_16 : decode cX7_entry 16 = .ok (.goto 11, 3) := by decide +kernel
theorem dX7_entry_19 : decode cX7_entry 19 = .ok (.aload_n 0, 1) := by decide +kernel
theorem dX7_entry_20 : decode cX7_entry 20 = .ok (.getfield 36, 3) := by decide +kernel
theorem dX7_entry_23 : decode cX7_entry 23 = .ok (.iload_n 3, 1) := by decide +kernel
theorem dX7_entry_24 : decode cX7_entry 24 = .ok (.invokevirtual 169, 3) := by decide +kernel
theorem dX7_entry_27 : decode cX7_entry 27 = .ok (.ireturn, 1) := by decide +kernel
theorem dX8_init_0 : decode cX8_init 0 = .ok (.aload_n 0, 1) := by decide +kernel
theorem dX8_init_1 : decode cX8_init 1 = .ok (.invokespecial 1, 3) := by decide +kernel
theorem dX8_init_4 : decode cX8_init 4 = .ok (.aload_n 0, 1) := by decide +kernel
theorem dX8_init_5 : decode cX8_init 5 = .ok (.bipush 40, 2) := by decide +kernel
theorem dX8_init_7 : decode cX8_init 7 = .ok (.newarray .int, 2) := by decide +kernel
theorem dX8_init_9 : decode cX8_init 9 = .ok (.putfield 7, 3) := by decide +kernel
theorem dX8_init_12 : decode cX8_init 12 = .ok (.aload_n 0, 1) := by decide +kernel
theorem dX8_init_13 : decode cX8_init 13 = .ok (.bipush 40, 2) := by decide +kernel
theorem dX8_init_15 : decode cX8_init 15 = .ok (.newarray .int, 2) := by decide +kernel
theorem dX8_init_17 : decode cX8_init 17 = .ok (.putfield 13, 3) := by decide +kernel
theorem dX8_init_20 : decode cX8_init 20 = .ok (.aload_n 0, 1) := by decide +kernel
theorem dX8_init_21 : decode cX8_init 21 = .ok (.bipush 40, 2) := by decide +kernel
theorem dX8_init_23 : decode cX8_init 23 = .ok (.newarray .int, 2) := by decide +kernel
theorem dX8_init_25 : decode cX8_init 25 = .ok (.putfield 16, 3) := by decide +kernel
theorem dX8_init_28 : decode cX8_init 28 = .ok (.aload_n 0, 1) := by decide +kernel
theorem dX8_init_29 : decode cX8_init 29 = .ok (.bipush 40, 2) := by decide +kernel
theorem dX8_init_31 : decode cX8_init 31 = .ok (.newarray .int, 2) := by decide +kernel
theorem dX8_init_33 : decode cX8_init 33 = .ok (.putfield 19, 3) := by decide +kernel
theorem dX8_init_36 : decode cX8_init 36 = .ok (.aload_n 0, 1) := by decide +kernel
theorem dX8_init_37 : decode cX8_init 37 = .ok (.bipush 40, 2) := by decide +kernel
theorem dX8_init_39 : decode cX8_init 39 = .ok (.newarray .int, 2) := by decide +kernel
theorem dX8_init_41 : decode cX8_init 41 = .ok (.putfield 22, 3) := by decide +kernel
theorem dX8_init_44 : decode cX8_init 44 = .ok (.aload_n 0, 1) := by decide +kernel
theorem dX8_init_45 : decode cX8_init 45 = .ok (.sipush 1600, 3) := by decide +kernel
theorem dX8_init_48 : decode cX8_init 48 = .ok (.newarray .int, 2) := by decide +kernel
theorem dX8_init_50 : decode cX8_init 50 = .ok (.putfield 25, 3) := by decide +kernel
theorem dX8_init_53 : decode cX8_init 53 = .ok (.aload_n 0, 1) := by decide +kernel
theorem dX8_init_54 : decode cX8_init 54 = .ok (.bipush 40, 2) := by decide +kernel
theorem dX8_init_56 : decode cX8_init 56 = .ok (.newarray .int, 2) := by decide +kernel
theorem dX8_init_58 : decode cX8_init 58 = .ok (.putfield 28, 3) := by decide +kernel
theorem dX8_init_61 : decode cX8_init 61 = .ok (.aload_n 0, 1) := by decide +kernel
theorem dX8_init_62 : decode cX8_init 62 = .ok (.bipush 80, 2) := by decide +kernel
theorem dX8_init_64 : decode cX8_init 64 = .ok (.newarray .int, 2) := by decide +kernel
theorem dX8_init_66 : decode cX8_init 66 = .ok (.putfield 31, 3) := by decide +kernel
theorem dX8_init_69 : decode cX8_init 69 = .ok (.aload_n 0, 1) := by decide +kernel
theorem dX8_init_70 : decode cX8_init 70 = .ok (.bipush 80, 2) := by decide +kernel
theorem dX8_init_72 : decode cX8_init 72 = .ok (.newarray .long, 2) := by decide +kernel
theorem dX8_init_74 : decode cX8_init 74 = .ok (.putfield 34, 3) := by decide +kernel
theorem dX8_init_77 : decode cX8_init 77 = .ok (.aload_n 0, 1) := by decide +kernel
theorem dX8_init_78 : decode cX8_init 78 = .ok (.bipush 80, 2) := by decide +kernel
theorem dX8_init_80 : decode cX8_init 80 = .ok (.newarray .int, 2) := by decide +kernel
theorem dX8_init_82 : decode cX8_init 82 = .ok (.putfield 38, 3) := by decide +kernel
theorem dX8_init_85 : decode cX8_init 85 = .ok (.aload_n 0, 1) := by decide +kernel
theorem dX8_init_86 : decode cX8_init 86 = .ok (.iconst 1, 1) := by decide +kernel
theorem dX8_init_87 : decode cX8_init 87 = .ok (.putfield 41, 3) := by decide +kernel
theorem dX8_init_90 : decode cX8_init 90 = .ok (.aload_n 0, 1) := by decide +kernel
theorem dX8_init_91 : decode cX8_init 91 = .ok (.iconst 4, 1) := by decide +kernel
theorem dX8_init_92 : decode cX8_init 92 = .ok (.newarray .int, 2) := by decide +kernel
theorem dX8_init_94 : decode cX8_init 94 = .ok (.putfield 45, 3) := by decide +kernel
theorem dX8_init_97 : decode cX8_init 97 = .ok (.aload_n 0, 1) := by decide +kernel
theorem dX8_init_98 : decode cX8_init 98 = .ok (.iconst 4, 1) := by decide +kernel
theorem dX8_init_99 : decode cX8_init 99 = .ok (.newarray .int, 2) := by decide +kernel
theorem dX8_init_101 : decode cX8_init 101 = .ok (.putfield 48, 3) := by decide +kernel
theorem dX8_init_104 : decode cX8_init 104 = .ok (.aload_n 0, 1) := by decide +kernel
theorem dX8_init_105 : decode cX8_init 105 = .ok (.bipush 40, 2) := by decide +kernel
theorem dX8_init_107 : decode cX8_init 107 = .ok (.newarray .int, 2) := by decide +kernel
theorem dX8_init_109 : decode cX8_init 109 = .ok (.putfield 51, 3) := by decide +kernel
theorem dX8_init_112 : decode cX8_init 112 = .ok (.aload_n 0, 1) := by decide +kernel
theorem dX8_init_113 : decode cX8_init 113 = .ok (.bipush 40, 2) := by decide +kernel
theorem dX8_init_115 : decode cX8_init 115 = .ok (.newarray .int, 2) := by decide +kernel
theorem dX8_init_117 : decode cX8_init 117 = .ok (.putfield 54, 3) := by decide +kernel
theorem dX8_init_120 : decode cX8_init 120 = .ok (.aload_n 0, 1) := by decide +kernel
theorem dX8_init_121 : decode cX8_init 121 = .ok (.bipush 100, 2) := by decide +kernel
theorem dX8_init_123 : decode cX8_init 123 = .ok (.newarray .int, 2) := by decide +kernel
theorem dX8_init_125 : decode cX8_init 125 = .ok (.putfield 57, 3) := by decide +kernel
theorem dX8_init_128 : decode cX8_init 128 = .ok (.aload_n 0, 1) := by decide +kernel
theorem dX8_init_129 : decode cX8_init 129 = .ok (.getfield 7, 3) := by decide +kernel
theorem dX8_init_132 : decode cX8_init 132 = .ok (.iconst 0, 1) := by decide +kernel
theorem dX8_init_133 : decode cX8_init 133 = .ok (.iconst 1, 1) := by decide +kernel
theorem dX8_init_134 : decode cX8_init 134 = .ok (.iastore, 1) := by decide +kernel
theorem dX8_init_135 : decode cX8_init 135 = .ok (.aload_n 0, 1) := by decide +kernel
theorem dX8_init_136 : decode cX8_init 136 = .ok (.getfield 13, 3) := by decide +kernel
theorem dX8_init_139 : decode cX8_init 139 = .ok (.iconst 0, 1) := by decide +kernel
theorem dX8_init_140 : decode cX8_init 140 = .ok (.bipush 15, 2) := by decide +kernel
theorem dX8_init_142 : decode cX8_init 142 = .ok (.iastore, 1) := by decide +kernel
theorem dX8_init_143 : decode cX8_init 143 = .ok (.iconst 0, 1) := by decide +kernel
theorem dX8_init_144 : decode cX8_init 144 = .ok (.istore_n 1, 1) := by decide +kernel
theorem dX8_init_145 : decode cX8_init 145 = .ok (.iload_n 1, 1) := by decide +kernel
theorem dX8_init_146 : decode cX8_init 146 = .ok (.iconst 4, 1) := by decide +kernel
theorem dX8_init_147 : decode cX8_init 147 = .ok (.if_icmp .ge 16, 3) := by decide +kernel
theorem dX8_init_150 : decode cX8_init 150 = .ok (.aload_n 0, 1) := by decide +kernel
theorem dX8_init_151 : decode cX8_init 151 = .ok (.getfield 48, 3) := by decide +kernel
theorem dX8_init_154 : decode cX8_init 154 = .ok (.iload_n 1, 1) := by decide +kernel
theorem dX8_init_155 : decode cX8_init 155 = .ok (.iconst (-1), 1) := by decide +kernel
theorem dX8_init_156 : decode cX8_init 156 = .ok (.iastore, 1) := by decide +kernel
theorem dX8_init_157 : decode cX8_init 157 = .ok (.iinc 1 1, 3) := by decide +kernel
theorem dX8_init_160 : decode cX8_init 160 = .ok (.goto (-15), 3) := by decide +kernel
theorem dX8_init_163 : decode cX8_init 163 = .ok (.return_, 1) := by decide +kernel
theorem dX8_type_0 : decode cX8_type 0 = .ok (.iconst 0, 1) := by decide +kernel
theorem dX8_type_1 : decode cX8_type 1 = .ok (.istore_n 2, 1) := by decide +kernel
theorem dX8_type_2 : decode cX8_type 2 = .ok (.iconst 3, 1) := by decide +kernel
theorem dX8_type_3 : decode cX8_type 3 = .ok (.istore_n 3, 1) := by decide +kernel
theorem dX8_type_4 : decode cX8_type 4 = .ok (.iload_n 3, 1) := by decide +kernel
theorem dX8_type_5 : decode cX8_type 5 = .ok (.ifCond .lt 55, 3) := by decide +kernel
theorem dX8_type_8 : decode cX8_type 8 = .ok (.iload_n 1, 1) := by decide +kernel
theorem dX8_type_9 : decode cX8_type 9 = .ok (.bipush 8, 2) := by decide +kernel
theorem dX8_type_11 : decode cX8_type 11 = .ok (.iload_n 3, 1) := by decide +kernel
theorem dX8_type_12 : decode cX8_type 12 = .ok (.imul, 1) := by decide +kernel
theorem dX8_type_13 : decode cX8_type 13 = .ok (.ishr, 1) := by decide +kernel
theorem dX8_type_14 : decode cX8_type 14 = .ok (.sipush 255, 3) := by decide +kernel
theorem dX8_type_17 : decode cX8_type 17 = .ok (.iand, 1) := by decide +kernel
theorem dX8_type_18 : decode cX8_type 18 = .ok (.istore 4, 2) := by decide +kernel
theorem dX8_type_20 : decode cX8_type 20 = .ok (.iload 4, 2) := by decide +kernel
theorem dX8_type_22 : decode cX8_type 22 = .ok (.ifCond .eq 19, 3) := by decide +kernel
theorem dX8_type_25 : decode cX8_type 25 = .ok (.iload 4, 2) := by decide +kernel
theorem dX8_type_27 : decode cX8_type 27 = .ok (.bipush 33, 2) := by decide +kernel
theorem dX8_type_29 : decode cX8_type 29 = .ok (.if_icmp .lt 10, 3) := by decide +kernel
theorem dX8_type_32 : decode cX8_type 32 = .ok (.iload 4, 2) := by decide +kernel
theorem dX8_type_34 : decode cX8_type 34 = .ok (.bipush 126, 2) := by decide +kernel
theorem dX8_type_36 : decode cX8_type 36 = .ok (.if_icmp .le 5, 3) := by decide +kernel
theorem dX8_type_39 : decode cX8_type 39 = .ok (.iconst 0, 1) := by decide +kernel
theorem dX8_type_40 : decode cX8_type 40 = .ok (.ireturn, 1) := by decide +kernel
theorem dX8_type_41 : decode cX8_type 41 = .ok (.iload 4, 2) := by decide +kernel
theorem dX8_type_43 : decode cX8_type 43 = .ok (.ifCond .eq 9, 3) := by decide +kernel
theorem dX8_type_46 : decode cX8_type 46 = .ok (.iload_n 2, 1) := by decide +kernel
theorem dX8_type_47 : decode cX8_type 47 = .ok (.iconst 1, 1) := by decide +kernel
theorem dX8_type_48 : decode cX8_type 48 = .ok (.iadd, 1) := by decide +kernel
theorem dX8_type_49 : decode cX8_type 49 = .ok (.goto 4, 3) := by decide +kernel
theorem dX8_type_52 : decode cX8_type 52 = .ok (.iload_n 2, 1) := by decide +kernel
theorem dX8_type_53 : decode cX8_type 53 = .ok (.istore_n 2, 1) := by decide +kernel
theorem dX8_type_54 : decode cX8_type 54 = .ok (.iinc 3 (-1), 3) := by decide +kernel
theorem dX8_type_57 : decode cX8_type 57 = .ok (.goto (-53), 3) := by decide +kernel
theorem dX8_type_60 : decode cX8_type 60 = .ok (.aload_n 0, 1) := by decide +kernel
theorem dX8_type_61 : decode cX8_type 61 = .ok (.getfield 60, 3) := by decide +kernel
theorem dX8_type_64 : decode cX8_type 64 = .ok (.iload_n 2, 1) := by decide +kernel
theorem dX8_type_65 : decode cX8_type 65 = .ok (.iadd, 1) := by decide +kernel
theorem dX8_type_66 : decode cX8_type 66 = .ok (.bipush 40, 2) := by decide +kernel
theorem dX8_type_68 : decode cX8_type 68 = .ok (.if_icmp .le 5, 3) := by decide +kernel
theorem dX8_type_71 : decode cX8_type 71 = .ok (.iconst 0, 1) := by decide +kernel
theorem dX8_type_72 : decode cX8_type 72 = .ok (.ireturn, 1) := by decide +kernel
theorem dX8_type_73 : decode cX8_type 73 = .ok (.iconst 3, 1) := by decide +kernel
theorem dX8_type_74 : decode cX8_type 74 = .ok (.istore_n 3, 1) := by decide +kernel
theorem dX8_type_75 : decode cX8_type 75 = .ok (.iload_n 3, 1) := by decide +kernel
theorem dX8_type_76 : decode cX8_type 76 = .ok (.ifCond .lt 47, 3) := by decide +kernel
theorem dX8_type_79 : decode cX8_type 79 = .ok (.iload_n 1, 1) := by decide +kernel
theorem dX8_type_80 : decode cX8_type 80 = .ok (.bipush 8, 2) := by decide +kernel
theorem dX8_type_82 : decode cX8_type 82 = .ok (.iload_n 3, 1) := by decide +kernel
theorem dX8_type_83 : decode cX8_type 83 = .ok (.imul, 1) := by decide +kernel
theorem dX8_type_84 : decode cX8_type 84 = .ok (.ishr, 1) := by decide +kernel
theorem dX8_type_85 : decode cX8_type 85 = .ok (.sipush 255, 3) := by decide +kernel
theorem dX8_type_88 : decode cX8_type 88 = .ok (.iand, 1) := by decide +kernel
theorem dX8_type_89 : decode cX8_type 89 = .ok (.istore 4, 2) := by decide +kernel
theorem dX8_type_91 : decode cX8_type 91 = .ok (.iload 4, 2) := by decide +kernel
theorem dX8_type_93 : decode cX8_type 93 = .ok (.ifCond .eq 24, 3) := by decide +kernel
theorem dX8_type_96 : decode cX8_type 96 = .ok (.aload_n 0, 1) := by decide +kernel
theorem dX8_type_97 : decode cX8_type 97 = .ok (.getfield 51, 3) := by decide +kernel
theorem dX8_type_100 : decode cX8_type 100 = .ok (.aload_n 0, 1) := by decide +kernel
theorem dX8_type_101 : decode cX8_type 101 = .ok (.getfield 60, 3) := by decide +kernel
theorem dX8_type_104 : decode cX8_type 104 = .ok (.iload 4, 2) := by decide +kernel
theorem dX8_type_106 : decode cX8_type 106 = .ok (.iastore, 1) := by decide +kernel
theorem dX8_type_107 : decode cX8_type 107 = .ok (.aload_n 0, 1) := by decide +kernel
theorem dX8_type_108 : decode cX8_type 108 = .ok (.aload_n 0, 1) := by decide +kernel
theorem dX8_type_109 : decode cX8_type 109 = .ok (.getfield 60, 3) := by decide +kernel
theorem dX8_type_112 : decode cX8_type 112 = .ok (.iconst 1, 1) := by decide +kernel
theorem dX8_type_113 : decode cX8_type 113 = .ok (.iadd, 1) := by decide +kernel
theorem dX8_type_114 : decode cX8_type 114 = .ok (.putfield 60, 3) := by decide +kernel
theorem dX8_type_117 : decode cX8_type 117 = .ok (.iinc 3 (-1), 3) := by decide +kernel
theorem dX8_type_120 : decode cX8_type 120 = .ok (.goto (-45), 3) := by decide +kernel
theorem dX8_type_123 : decode cX8_type 123 = .ok (.iconst 1, 1) := by decide +kernel
theorem dX8_type_124 : decode cX8_type 124 = .ok (.ireturn, 1) := by decide +kernel
theorem dX8_wipe_0 : decode cX8_wipe 0 = .ok (.aload_n 0, 1) := by decide +kernel
theorem dX8_wipe_1 : decode cX8_wipe 1 = .ok (.iconst 0, 1) := by decide +kernel
theorem dX8_wipe_2 : decode cX8_wipe 2 = .ok (.putfield 60, 3) := by decide +kernel
theorem dX8_wipe_5 : decode cX8_wipe 5 = .ok (.return_, 1) := by decide +kernel
theorem dX8_keep_0 : decode cX8_keep 0 = .ok (.aload_n 0, 1) := by decide +kernel
theorem dX8_keep_1 : decode cX8_keep 1 = .ok (.aload_n 0, 1) := by decide +kernel
theorem dX8_keep_2 : decode cX8_keep 2 = .ok (.getfield 60, 3) := by decide +kernel
theorem dX8_keep_5 : decode cX8_keep 5 = .ok (.putfield 63, 3) := by decide +kernel
theorem dX8_keep_8 : decode cX8_keep 8 = .ok (.iconst 0, 1) := by decide +kernel
theorem dX8_keep_9 : decode cX8_keep 9 = .ok (.istore_n 1, 1) := by decide +kernel
theorem dX8_keep_10 : decode cX8_keep 10 = .ok (.iload_n 1, 1) := by decide +kernel
theorem dX8_keep_11 : decode cX8_keep 11 = .ok (.aload_n 0, 1) := by decide +kernel
theorem dX8_keep_12 : decode cX8_keep 12 = .ok (.getfield 60, 3) := by decide +kernel
theorem dX8_keep_15 : decode cX8_keep 15 = .ok (.if_icmp .ge 21, 3) := by decide +kernel
theorem dX8_keep_18 : decode cX8_keep 18 = .ok (.aload_n 0, 1) := by decide +kernel
theorem dX8_keep_19 : decode cX8_keep 19 = .ok (.getfield 54, 3) := by decide +kernel
theorem dX8_keep_22 : decode cX8_keep 22 = .ok (.iload_n 1, 1) := by decide +kernel
theorem dX8_keep_23 : decode cX8_keep 23 = .ok (.aload_n 0, 1) := by decide +kernel
theorem dX8_keep_24 : decode cX8_keep 24 = .ok (.getfield 51, 3) := by decide +kernel
theorem dX8_keep_27 : decode cX8_keep 27 = .ok (.iload_n 1, 1) := by decide +kernel
theorem dX8_keep_28 : decode cX8_keep 28 = .ok (.iaload, 1) := by decide +kernel
theorem dX8_keep_29 : decode cX8_keep 29 = .ok (.iastore, 1) := by decide +kernel
theorem dX8_keep_30 : decode cX8_keep 30 = .ok (.iinc 1 1, 3) := by decide +kernel
theorem dX8_keep_33 : decode cX8_keep 33 = .ok (.goto (-23), 3) := by decide +kernel
theorem dX8_keep_36 : decode cX8_keep 36 = .ok (.return_, 1) := by decide +kernel
theorem dX8_length_0 : decode cX8_length 0 = .ok (.aload_n 0, 1) := by decide +kernel
theorem dX8_length_1 : decode cX8_length 1 = .ok (.getfield 60, 3) := by decide +kernel
theorem dX8_length_4 : decode cX8_length 4 = .ok (.ireturn, 1) := by decide +kernel
theorem dX8_at_0 : decode cX8_at 0 = .ok (.iload_n 1, 1) := by decide +kernel
theorem dX8_at_1 : decode cX8_at 1 = .ok (.ifCond .lt 11, 3) := by decide +kernel
theorem dX8_at_4 : decode cX8_at 4 = .ok (.iload_n 1, 1) := by decide +kernel
theorem dX8_at_5 : decode cX8_at 5 = .ok (.aload_n 0, 1) := by decide +kernel
theorem dX8_at_6 : decode cX8_at 6 = .ok (.getfield 60, 3) := by decide +kernel
theorem dX8_at_9 : decode cX8_at 9 = .ok (.if_icmp .lt 8, 3) := by decide +kernel
theorem dX8_at_12 : decode cX8_at 12 = .ok (.bipush (-11), 2) := by decide +kernel
theorem dX8_at_14 : decode cX8_at 14 = .ok (.goto 9, 3) := by decide +kernel
theorem dX8_at_17 : decode cX8_at 17 = .ok (.aload_n 0, 1) := by decide +kernel
theorem dX8_at_18 : decode cX8_at 18 = .ok (.getfield 51, 3) := by decide +kernel
theorem dX8_at_21 : decode cX8_at 21 = .ok (.iload_n 1, 1) := by decide +kernel
theorem dX8_at_22 : decode cX8_at 22 = .ok (.iaload, 1) := by decide +kernel
theorem dX8_at_23 : decode cX8_at 23 = .ok (.ireturn, 1) := by decide +kernel
theorem dX8_slashesAlone_0 : decode cX8_slashesAlone 0 = .ok (.aload_n 0, 1) := by decide +kernel
theorem dX8_slashesAlone_1 : decode cX8_slashesAlone 1 = .ok (.getfield 60, 3) := by decide +kernel
theorem dX8_slashesAlone_4 : decode cX8_slashesAlone 4 = .ok (.ifCond .le 7, 3) := by decide +kernel
theorem dX8_slashesAlone_7 : decode cX8_slashesAlone 7 = .ok (.iconst 1, 1) := by decide +kernel
theorem dX8_slashesAlone_8 : decode cX8_slashesAlone 8 = .ok (.goto 4, 3) := by decide +kernel
theorem dX8_slashesAlone_11 : decode cX8_slashesAlone 11 = .ok (.iconst 0, 1) := by decide +kernel
theorem dX8_slashesAlone_12 : decode cX8_slashesAlone 12 = .ok (.istore_n 1, 1) := by decide +kernel
theorem dX8_slashesAlone_13 : decode cX8_slashesAlone 13 = .ok (.iconst 0, 1) := by decide +kernel
theorem dX8_slashesAlone_14 : decode cX8_slashesAlone 14 = .ok (.istore_n 2, 1) := by decide +kernel
theorem dX8_slashesAlone_15 : decode cX8_slashesAlone 15 = .ok (.iload_n 2, 1) := by decide +kernel
theorem dX8_slashesAlone_16 : decode cX8_slashesAlone 16 = .ok (.aload_n 0, 1) := by decide +kernel
theorem dX8_slashesAlone_17 : decode cX8_slashesAlone 17 = .ok (.getfield 60, 3) := by decide +kernel
theorem dX8_slashesAlone_20 : decode cX8_slashesAlone 20 = .ok (.if_icmp .ge 30, 3) := by decide +kernel
theorem dX8_slashesAlone_23 : decode cX8_slashesAlone 23 = .ok (.iload_n 1, 1) := by decide +kernel
theorem dX8_slashesAlone_24 : decode cX8_slashesAlone 24 = .ok (.ifCond .eq 18, 3) := by decide +kernel
theorem dX8_slashesAlone_27 : decode cX8_slashesAlone 27 = .ok (.aload_n 0, 1) := by decide +kernel
theorem dX8_slashesAlone_28 : decode cX8_slashesAlone 28 = .ok (.getfield 51, 3) := by decide +kernel
theorem dX8_slashesAlone_31 : decode cX8_slashesAlone 31 = .ok (.iload_n 2, 1) := by decide +kernel
theorem dX8_slashesAlone_32 : decode cX8_slashesAlone 32 = .ok (.iaload, 1) := by decide +kernel
theorem dX8_slashesAlone_33 : decode cX8_slashesAlone 33 = .ok (.bipush 47, 2) := by decide +kernel
theorem dX8_slashesAlone_35 : decode cX8_slashesAlone 35 = .ok (.if_icmp .ne 7, 3) := by decide +kernel
theorem dX8_slashesAlone_38 : decode cX8_slashesAlone 38 = .ok (.iconst 1, 1) := by decide +kernel
theorem dX8_slashesAlone_39 : decode cX8_slashesAlone 39 = .ok (.goto 4, 3) := by decide +kernel
theorem dX8_slashesAlone_42 : decode cX8_slashesAlone 42 = .ok (.iconst 0, 1) := by decide +kernel
theorem dX8_slashesAlone_43 : decode cX8_slashesAlone 43 = .ok (.istore_n 1, 1) := by decide +kernel
theorem dX8_slashesAlone_44 : decode cX8_slashesAlone 44 = .ok (.iinc 2 1, 3) := by decide +kernel
theorem dX8_slashesAlone_47 : decode cX8_slashesAlone 47 = .ok (.goto (-32), 3) := by decide +kernel
theorem dX8_slashesAlone_50 : decode cX8_slashesAlone 50 = .ok (.iload_n 1, 1) := by decide +kernel
theorem dX8_slashesAlone_51 : decode cX8_slashesAlone 51 = .ok (.ireturn, 1) := by decide +kernel
theorem dX8_there_0 : decode cX8_there 0 = .ok (.iload_n 1, 1) := by decide +kernel
theorem dX8_there_1 : decode cX8_there 1 = .ok (.ifCond .lt 22, 3) := by decide +kernel
theorem dX8_there_4 : decode cX8_there 4 = .ok (.iload_n 1, 1) := by decide +kernel
theorem dX8_there_5 : decode cX8_there 5 = .ok (.bipush 40, 2) := by decide +kernel
theorem dX8_there_7 : decode cX8_there 7 = .ok (.if_icmp .ge 16, 3) := by decide +kernel
theorem dX8_there_10 : decode cX8_there 10 = .ok (.aload_n 0, 1) := by decide +kernel
theorem dX8_there_11 : decode cX8_there 11 = .ok (.getfield 7, 3) := by decide +kernel
theorem dX8_there_14 : decode cX8_there 14 = .ok (.iload_n 1, 1) := by decide +kernel
theorem dX8_there_15 : decode cX8_there 15 = .ok (.iaload, 1) := by decide +kernel
theorem dX8_there_16 : decode cX8_there 16 = .ok (.ifCond .eq 7, 3) := by decide +kernel
theorem dX8_there_19 : decode cX8_there 19 = .ok (.iconst 1, 1) := by decide +kernel
theorem dX8_there_20 : decode cX8_there 20 = .ok (.goto 4, 3) := by decide +kernel
theorem dX8_there_23 : decode cX8_there 23 = .ok (.iconst 0, 1) := by decide +kernel
theorem dX8_there_24 : decode cX8_there 24 = .ok (.ireturn, 1) := by decide +kernel
theorem dX8_freeObject_0 : decode cX8_freeObject 0 = .ok (.iconst 0, 1) := by decide +kernel
theorem dX8_freeObject_1 : decode cX8_freeObject 1 = .ok (.istore_n 1, 1) := by decide +kernel
theorem dX8_freeObject_2 : decode cX8_freeObject 2 = .ok (.iload_n 1, 1) := by decide +kernel
theorem dX8_freeObject_3 : decode cX8_freeObject 3 = .ok (.bipush 40, 2) := by decide +kernel
theorem dX8_freeObject_5 : decode cX8_freeObject 5 = .ok (.if_icmp .ge 18, 3) := by decide +kernel
theorem dX8_freeObject_8 : decode cX8_freeObject 8 = .ok (.aload_n 0, 1) := by decide +kernel
theorem dX8_freeObject_9 : decode cX8_freeObject 9 = .ok (.getfield 7, 3) := by decide +kernel
theorem dX8_freeObject_12 : decode cX8_freeObject 12 = .ok (.iload_n 1, 1) := by decide +kernel
theorem dX8_freeObject_13 : decode cX8_freeObject 13 = .ok (.iaload, 1) := by decide +kernel
theorem dX8_freeObject_14 : decode cX8_freeObject 14 = .ok (.ifCond .eq 9, 3) := by decide +kernel
theorem dX8_freeObject_17 : decode cX8_freeObject 17 = .ok (.iinc 1 1, 3) := by decide +kernel
theorem dX8_freeObject_20 : decode cX8_freeObject 20 = .ok (.goto (-18), 3) := by decide +kernel
theorem dX8_freeObject_23 : decode cX8_freeObject 23 = .ok (.iload_n 1, 1) := by decide +kernel
theorem dX8_freeObject_24 : decode cX8_freeObject 24 = .ok (.ireturn, 1) := by decide +kernel
theorem dX8_may_0 : decode cX8_may 0 = .ok (.aload_n 0, 1) := by decide +kernel
theorem dX8_may_1 : decode cX8_may 1 = .ok (.getfield 66, 3) := by decide +kernel
theorem dX8_may_4 : decode cX8_may 4 = .ok (.ifCond .ne 5, 3) := by decide +kernel
theorem dX8_may_7 : decode cX8_may 7 = .ok (.iconst 1, 1) := by decide +kernel
theorem dX8_may_8 : decode cX8_may 8 = .ok (.ireturn, 1) := by decide +kernel
theorem dX8_may_9 : decode cX8_may 9 = .ok (.aload_n 0, 1) := by decide +kernel
theorem dX8_may_10 : decode cX8_may 10 = .ok (.getfield 16, 3) := by decide +kernel
theorem dX8_may_13 : decode cX8_may 13 = .ok (.iload_n 1, 1) := by decide +kernel
theorem dX8_may_14 : decode cX8_may 14 = .ok (.iaload, 1) := by decide +kernel
theorem dX8_may_15 : decode cX8_may 15 = .ok (.aload_n 0, 1) := by decide +kernel
theorem dX8_may_16 : decode cX8_may 16 = .ok (.getfield 66, 3) := by decide +kernel
theorem dX8_may_19 : decode cX8_may 19 = .ok (.if_icmp .ne 14, 3) := by decide +kernel
theorem dX8_may_22 : decode cX8_may 22 = .ok (.aload_n 0, 1) := by decide +kernel
theorem dX8_may_23 : decode cX8_may 23 = .ok (.getfield 13, 3) := by decide +kernel
theorem dX8_may_26 : decode cX8_may 26 = .ok (.iload_n 1, 1) := by decide +kernel
theorem dX8_may_27 : decode cX8_may 27 = .ok (.iaload, 1) := by decide +kernel
theorem dX8_may_28 : decode cX8_may 28 = .ok (.iconst 4, 1) := by decide +kernel
theorem dX8_may_29 : decode cX8_may 29 = .ok (.idiv, 1) := by decide +kernel
theorem dX8_may_30 : decode cX8_may 30 = .ok (.goto 11, 3) := by decide +kernel
theorem dX8_may_33 : decode cX8_may 33 = .ok (.aload_n 0, 1) := by decide +kernel
theorem dX8_may_34 : decode cX8_may 34 = .ok (.getfield 13, 3) := by decide +kernel
theorem dX8_may_37 : decode cX8_may 37 = .ok (.iload_n 1, 1) := by decide +kernel
theorem dX8_may_38 : decode cX8_may 38 = .ok (.iaload, 1) := by decide +kernel
theorem dX8_may_39 : decode cX8_may 39 = .ok (.iconst 4, 1) := by decide +kernel
theorem dX8_may_40 : decode cX8_may 40 = .ok (.irem, 1) := by decide +kernel
theorem dX8_may_41 : decode cX8_may 41 = .ok (.istore_n 3, 1) := by decide +kernel
theorem dX8_may_42 : decode cX8_may 42 = .ok (.iload_n 3, 1) := by decide +kernel
theorem dX8_may_43 : decode cX8_may 43 = .ok (.iload_n 2, 1) := by decide +kernel
theorem dX8_may_44 : decode cX8_may 44 = .ok (.ishr, 1) := by decide +kernel
theorem dX8_may_45 : decode cX8_may 45 = .ok (.iconst 1, 1) := by decide +kernel
theorem dX8_may_46 : decode cX8_may 46 = .ok (.iand, 1) := by decide +kernel
theorem dX8_may_47 : decode cX8_may 47 = .ok (.iconst 1, 1) := by decide +kernel
theorem dX8_may_48 : decode cX8_may 48 = .ok (.if_icmp .ne 7, 3) := by decide +kernel
theorem dX8_may_51 : decode cX8_may 51 = .ok (.iconst 1, 1) := by decide +kernel
theorem dX8_may_52 : decode cX8_may 52 = .ok (.goto 4, 3) := by decide +kernel
theorem dX8_may_55 : decode cX8_may 55 = .ok (.iconst 0, 1) := by decide +kernel
theorem dX8_may_56 : decode cX8_may 56 = .ok (.ireturn, 1) := by decide +kernel
theorem dX8_coverOf_0 : decode cX8_coverOf 0 = .ok (.iconst 0, 1) := by decide +kernel
theorem dX8_coverOf_1 : decode cX8_coverOf 1 = .ok (.istore_n 2, 1) := by decide +kernel
theorem dX8_coverOf_2 : decode cX8_coverOf 2 = .ok (.iconst 1, 1) := by decide +kernel
theorem dX8_coverOf_3 : decode cX8_coverOf 3 = .ok (.istore_n 3, 1) := by decide +kernel
theorem dX8_coverOf_4 : decode cX8_coverOf 4 = .ok (.iload_n 3, 1) := by decide +kernel
theorem dX8_coverOf_5 : decode cX8_coverOf 5 = .ok (.aload_n 0, 1) := by decide +kernel
theorem dX8_coverOf_6 : decode cX8_coverOf 6 = .ok (.getfield 41, 3) := by decide +kernel
theorem dX8_coverOf_9 : decode cX8_coverOf 9 = .ok (.if_icmp .ge 25, 3) := by decide +kernel
theorem dX8_coverOf_12 : decode cX8_coverOf 12 = .ok (.aload_n 0, 1) := by decide +kernel
theorem dX8_coverOf_13 : decode cX8_coverOf 13 = .ok (.getfield 48, 3) := by decide +kernel
theorem dX8_coverOf_16 : decode cX8_coverOf 16 = .ok (.iload_n 3, 1) := by decide +kernel
theorem dX8_coverOf_17 : decode cX8_coverOf 17 = .ok (.iaload, 1) := by decide +kernel
theorem dX8_coverOf_18 : decode cX8_coverOf 18 = .ok (.iload_n 1, 1) := by decide +kernel
theorem dX8_coverOf_19 : decode cX8_coverOf 19 = .ok (.if_icmp .ne 7, 3) := by decide +kernel
theorem dX8_coverOf_22 : decode cX8_coverOf 22 = .ok (.iload_n 3, 1) := by decide +kernel
theorem dX8_coverOf_23 : decode cX8_coverOf 23 = .ok (.goto 4, 3) := by decide +kernel
theorem dX8_coverOf_26 : decode cX8_coverOf 26 = .ok (.iload_n 2, 1) := by decide +kernel
theorem dX8_coverOf_27 : decode cX8_coverOf 27 = .ok (.istore_n 2, 1) := by decide +kernel
theorem dX8_coverOf_28 : decode cX8_coverOf 28 = .ok (.iinc 3 1, 3) := by decide +kernel
theorem dX8_coverOf_31 : decode cX8_coverOf 31 = .ok (.goto (-27), 3) := by decide +kernel
theorem dX8_coverOf_34 : decode cX8_coverOf 34 = .ok (.iload_n 2, 1) := by decide +kernel
theorem dX8_coverOf_35 : decode cX8_coverOf 35 = .ok (.ireturn, 1) := by decide +kernel
theorem dX8_top_0 : decode cX8_top 0 = .ok (.iload_n 1, 1) := by decide +kernel
theorem dX8_top_1 : decode cX8_top 1 = .ok (.istore_n 2, 1) := by decide +kernel
theorem dX8_top_2 : decode cX8_top 2 = .ok (.iconst 0, 1) := by decide +kernel
theorem dX8_top_3 : decode cX8_top 3 = .ok (.istore_n 3, 1) := by decide +kernel
theorem dX8_top_4 : decode cX8_top 4 = .ok (.iload_n 3, 1) := by decide +kernel
theorem dX8_top_5 : decode cX8_top 5 = .ok (.iconst 5, 1) := by decide +kernel
theorem dX8_top_6 : decode cX8_top 6 = .ok (.if_icmp .ge 28, 3) := by decide +kernel
theorem dX8_top_9 : decode cX8_top 9 = .ok (.aload_n 0, 1) := by decide +kernel
theorem dX8_top_10 : decode cX8_top 10 = .ok (.iload_n 2, 1) := by decide +kernel
theorem dX8_top_11 : decode cX8_top 11 = .ok (.invokevirtual 69, 3) := by decide +kernel
theorem dX8_top_14 : decode cX8_top 14 = .ok (.ifCond .le 20, 3) := by decide +kernel
theorem dX8_top_17 : decode cX8_top 17 = .ok (.aload_n 0, 1) := by decide +kernel
theorem dX8_top_18 : decode cX8_top 18 = .ok (.getfield 45, 3) := by decide +kernel
theorem dX8_top_21 : decode cX8_top 21 = .ok (.aload_n 0, 1) := by decide +kernel
theorem dX8_top_22 : decode cX8_top 22 = .ok (.iload_n 2, 1) := by decide +kernel
theorem dX8_top_23 : decode cX8_top 23 = .ok (.invokevirtual 69, 3) := by decide +kernel
theorem dX8_top_26 : decode cX8_top 26 = .ok (.iaload, 1) := by decide +kernel
theorem dX8_top_27 : decode cX8_top 27 = .ok (.istore_n 2, 1) := by decide +kernel
theorem dX8_top_28 : decode cX8_top 28 = .ok (.iinc 3 1, 3) := by decide +kernel
theorem dX8_top_31 : decode cX8_top 31 = .ok (.goto (-27), 3) := by decide +kernel
theorem dX8_top_34 : decode cX8_top 34 = .ok (.iload_n 2, 1) := by decide +kernel
theorem dX8_top_35 : decode cX8_top 35 = .ok (.ireturn, 1) := by decide +kernel
theorem dX8_mountedAt_0 : decode cX8_mountedAt 0 = .ok (.iconst 0, 1) := by decide +kernel
theorem dX8_mountedAt_1 : decode cX8_mountedAt 1 = .ok (.istore_n 2, 1) := by decide +kernel
theorem dX8_mountedAt_2 : decode cX8_mountedAt 2 = .ok (.iconst 1, 1) := by decide +kernel
theorem dX8_mountedAt_3 : decode cX8_mountedAt 3 = .ok (.istore_n 3, 1) := by decide +kernel
theorem dX8_mountedAt_4 : decode cX8_mountedAt 4 = .ok (.iload_n 3, 1) := by decide +kernel
theorem dX8_mountedAt_5 : decode cX8_mountedAt 5 = .ok (.aload_n 0, 1) := by decide +kernel
theorem dX8_mountedAt_6 : decode cX8_mountedAt 6 = .ok (.getfield 41, 3) := by decide +kernel
theorem dX8_mountedAt_9 : decode cX8_mountedAt 9 = .ok (.if_icmp .ge 34, 3) := by decide +kernel
theorem dX8_mountedAt_12 : decode cX8_mountedAt 12 = .ok (.aload_n 0, 1) := by decide +kernel
theorem dX8_mountedAt_13 : decode cX8_mountedAt 13 = .ok (.getfield 45, 3) := by decide +kernel
theorem dX8_mountedAt_16 : decode cX8_mountedAt 16 = .ok (.iload_n 3, 1) := by decide +kernel
theorem dX8_mountedAt_17 : decode cX8_mountedAt 17 = .ok (.iaload, 1) := by decide +kernel
theorem dX8_mountedAt_18 : decode cX8_mountedAt 18 = .ok (.iload_n 1, 1) := by decide +kernel
theorem dX8_mountedAt_19 : decode cX8_mountedAt 19 = .ok (.if_icmp .ne 16, 3) := by decide +kernel
theorem dX8_mountedAt_22 : decode cX8_mountedAt 22 = .ok (.aload_n 0, 1) := by decide +kernel
theorem dX8_mountedAt_23 : decode cX8_mountedAt 23 = .ok (.getfield 48, 3) := by decide +kernel
theorem dX8_mountedAt_26 : decode cX8_mountedAt 26 = .ok (.iload_n 3, 1) := by decide +kernel
theorem dX8_mountedAt_27 : decode cX8_mountedAt 27 = .ok (.iaload, 1) := by decide +kernel
theorem dX8_mountedAt_28 : decode cX8_mountedAt 28 = .ok (.ifCond .lt 7, 3) := by decide +kernel
theorem dX8_mountedAt_31 : decode cX8_mountedAt 31 = .ok (.iload_n 3, 1) := by decide +kernel
theorem dX8_mountedAt_32 : decode cX8_mountedAt 32 = .ok (.goto 4, 3) := by decide +kernel
theorem dX8_mountedAt_35 : decode cX8_mountedAt 35 = .ok (.iload_n 2, 1) := by decide +kernel
theorem dX8_mountedAt_36 : decode cX8_mountedAt 36 = .ok (.istore_n 2, 1) := by decide +kernel
theorem dX8_mountedAt_37 : decode cX8_mountedAt 37 = .ok (.iinc 3 1, 3) := by decide +kernel
theorem dX8_mountedAt_40 : decode cX8_mountedAt 40 = .ok (.goto (-36), 3) := by decide +kernel
theorem dX8_mountedAt_43 : decode cX8_mountedAt 43 = .ok (.iload_n 2, 1) := by decide +kernel
theorem dX8_mountedAt_44 : decode cX8_mountedAt 44 = .ok (.ireturn, 1) := by decide +kernel
theorem dX8_seat_0 : decode cX8_seat 0 = .ok (.iload_n 1, 1) := by decide +kernel
theorem dX8_seat_1 : decode cX8_seat 1 = .ok (.istore_n 2, 1) := by decide +kernel
theorem dX8_seat_2 : decode cX8_seat 2 = .ok (.iconst 0, 1) := by decide +kernel
theorem dX8_seat_3 : decode cX8_seat 3 = .ok (.istore_n 3, 1) := by decide +kernel
theorem dX8_seat_4 : decode cX8_seat 4 = .ok (.iload_n 3, 1) := by decide +kernel
theorem dX8_seat_5 : decode cX8_seat 5 = .ok (.iconst 5, 1) := by decide +kernel
theorem dX8_seat_6 : decode cX8_seat 6 = .ok (.if_icmp .ge 28, 3) := by decide +kernel
theorem dX8_seat_9 : decode cX8_seat 9 = .ok (.aload_n 0, 1) := by decide +kernel
theorem dX8_seat_10 : decode cX8_seat 10 = .ok (.iload_n 2, 1) := by decide +kernel
theorem dX8_seat_11 : decode cX8_seat 11 = .ok (.invokevirtual 73, 3) := by decide +kernel
theorem dX8_seat_14 : decode cX8_seat 14 = .ok (.ifCond .le 20, 3) := by decide +kernel
theorem dX8_seat_17 : decode cX8_seat 17 = .ok (.aload_n 0, 1) := by decide +kernel
theorem dX8_seat_18 : decode cX8_seat 18 = .ok (.getfield 48, 3) := by decide +kernel
theorem dX8_seat_21 : decode cX8_seat 21 = .ok (.aload_n 0, 1) := by decide +kernel
theorem dX8_seat_22 : decode cX8_seat 22 = .ok (.iload_n 2, 1) := by decide +kernel
theorem dX8_seat_23 : decode cX8_seat 23 = .ok (.invokevirtual 73, 3) := by decide +kernel
theorem dX8_seat_26 : decode cX8_seat 26 = .ok (.iaload, 1) := by decide +kernel
theorem dX8_seat_27 : decode cX8_seat 27 = .ok (.istore_n 2, 1) := by decide +kernel
theorem dX8_seat_28 : decode cX8_seat 28 = .ok (.iinc 3 1, 3) := by decide +kernel
theorem dX8_seat_31 : decode cX8_seat 31 = .ok (.goto (-27), 3) := by decide +kernel
theorem dX8_seat_34 : decode cX8_seat 34 = .ok (.iload_n 2, 1) := by decide +kernel
theorem dX8_seat_35 : decode cX8_seat 35 = .ok (.ireturn, 1) := by decide +kernel
theorem dX8_above_0 : decode cX8_above 0 = .ok (.iload_n 1, 1) := by decide +kernel
theorem dX8_above_1 : decode cX8_above 1 = .ok (.iload_n 2, 1) := by decide +kernel
theorem dX8_above_2 : decode cX8_above 2 = .ok (.if_icmp .ne 7, 3) := by decide +kernel
theorem dX8_above_5 : decode cX8_above 5 = .ok (.iload_n 1, 1) := by decide +kernel
theorem dX8_above_6 : decode cX8_above 6 = .ok (.goto 17, 3) := by decide +kernel
theorem dX8_above_9 : decode cX8_above 9 = .ok (.aload_n 0, 1) := by decide +kernel
theorem dX8_above_10 : decode cX8_above 10 = .ok (.aload_n 0, 1) := by decide +kernel
theorem dX8_above_11 : decode cX8_above 11 = .ok (.getfield 22, 3) := by decide +kernel
theorem dX8_above_14 : decode cX8_above 14 = .ok (.aload_n 0, 1) := by decide +kernel
theorem dX8_above_15 : decode cX8_above 15 = .ok (.iload_n 1, 1) := by decide +kernel
theorem dX8_above_16 : decode cX8_above 16 = .ok (.invokevirtual 76, 3) := by decide +kernel
theorem dX8_above_19 : decode cX8_above 19 = .ok (.iaload, 1) := by decide +kernel
theorem dX8_above_20 : decode cX8_above 20 = .ok (.invokevirtual 79, 3) := by decide +kernel
theorem dX8_above_23 : decode cX8_above 23 = .ok (.ireturn, 1) := by decide +kernel
theorem dX8_find_0 : decode cX8_find 0 = .ok (.iconst 0, 1) := by decide +kernel
theorem dX8_find_1 : decode cX8_find 1 = .ok (.istore 4, 2) := by decide +kernel
theorem dX8_find_3 : decode cX8_find 3 = .ok (.iload 4, 2) := by decide +kernel
theorem dX8_find_5 : decode cX8_find 5 = .ok (.aload_n 0, 1) := by decide +kernel
theorem dX8_find_6 : decode cX8_find 6 = .ok (.getfield 82, 3) := by decide +kernel
theorem dX8_find_9 : decode cX8_find 9 = .ok (.if_icmp .ge 35, 3) := by decide +kernel
theorem dX8_find_12 : decode cX8_find 12 = .ok (.aload_n 0, 1) := by decide +kernel
theorem dX8_find_13 : decode cX8_find 13 = .ok (.getfield 31, 3) := by decide +kernel
theorem dX8_find_16 : decode cX8_find 16 = .ok (.iload 4, 2) := by decide +kernel
theorem dX8_find_18 : decode cX8_find 18 = .ok (.iaload, 1) := by decide +kernel
theorem dX8_find_19 : decode cX8_find 19 = .ok (.iload_n 1, 1) := by decide +kernel
theorem dX8_find_20 : decode cX8_find 20 = .ok (.if_icmp .ne 18, 3) := by decide +kernel
theorem dX8_find_23 : decode cX8_find 23 = .ok (.aload_n 0, 1) := by decide +kernel
theorem dX8_find_24 : decode cX8_find 24 = .ok (.getfield 34, 3) := by decide +kernel
theorem dX8_find_27 : decode cX8_find 27 = .ok (.iload 4, 2) := by decide +kernel
theorem dX8_find_29 : decode cX8_find 29 = .ok (.laload, 1) := by decide +kernel
theorem dX8_find_30 : decode cX8_find 30 = .ok (.lload_n 2, 1) := by decide +kernel
theorem dX8_find_31 : decode cX8_find 31 = .ok (.lcmp, 1) := by decide +kernel
theorem dX8_find_32 : decode cX8_find 32 = .ok (.ifCond .ne 6, 3) := by decide +kernel
theorem dX8_find_35 : decode cX8_find 35 = .ok (.iload 4, 2) := by decide +kernel
theorem dX8_find_37 : decode cX8_find 37 = .ok (.ireturn, 1) := by decide +kernel
theorem dX8_find_38 : decode cX8_find 38 = .ok (.iinc 4 1, 3) := by decide +kernel
theorem dX8_find_41 : decode cX8_find 41 = .ok (.goto (-38), 3) := by decide +kernel
theorem dX8_find_44 : decode cX8_find 44 = .ok (.iconst (-1), 1) := by decide +kernel
theorem dX8_find_45 : decode cX8_find 45 = .ok (.ireturn, 1) := by decide +kernel
theorem dX8_dropRest_0 : decode cX8_dropRest 0 = .ok (.aload_n 0, 1) := by decide +kernel
theorem dX8_dropRest_1 : decode cX8_dropRest 1 = .ok (.aload_n 0, 1) := by decide +kernel
theorem dX8_dropRest_2 : decode cX8_dropRest 2 = .ok (.getfield 85, 3) := by decide +kernel
theorem dX8_dropRest_5 : decode cX8_dropRest 5 = .ok (.iload_n 1, 1) := by decide +kernel
theorem dX8_dropRest_6 : decode cX8_dropRest 6 = .ok (.isub, 1) := by decide +kernel
theorem dX8_dropRest_7 : decode cX8_dropRest 7 = .ok (.putfield 85, 3) := by decide +kernel
theorem dX8_dropRest_10 : decode cX8_dropRest 10 = .ok (.iconst 0, 1) := by decide +kernel
theorem dX8_dropRest_11 : decode cX8_dropRest 11 = .ok (.istore_n 2, 1) := by decide +kernel
theorem dX8_dropRest_12 : decode cX8_dropRest 12 = .ok (.iload_n 2, 1) := by decide +kernel
theorem dX8_dropRest_13 : decode cX8_dropRest 13 = .ok (.aload_n 0, 1) := by decide +kernel
theorem dX8_dropRest_14 : decode cX8_dropRest 14 = .ok (.getfield 85, 3) := by decide +kernel
theorem dX8_dropRest_17 : decode cX8_dropRest 17 = .ok (.if_icmp .ge 23, 3) := by decide +kernel
theorem dX8_dropRest_20 : decode cX8_dropRest 20 = .ok (.aload_n 0, 1) := by decide +kernel
theorem dX8_dropRest_21 : decode cX8_dropRest 21 = .ok (.getfield 57, 3) := by decide +kernel
theorem dX8_dropRest_24 : decode cX8_dropRest 24 = .ok (.iload_n 2, 1) := by decide +kernel
theorem dX8_dropRest_25 : decode cX8_dropRest 25 = .ok (.aload_n 0, 1) := by decide +kernel
theorem dX8_dropRest_26 : decode cX8_dropRest 26 = .ok (.getfield 57, 3) := by decide +kernel
theorem dX8_dropRest_29 : decode cX8_dropRest 29 = .ok (.iload_n 2, 1) := by decide +kernel
theorem dX8_dropRest_30 : decode cX8_dropRest 30 = .ok (.iload_n 1, 1) := by decide +kernel
theorem dX8_dropRest_31 : decode cX8_dropRest 31 = .ok (.iadd, 1) := by decide +kernel
theorem dX8_dropRest_32 : decode cX8_dropRest 32 = .ok (.iaload, 1) := by decide +kernel
theorem dX8_dropRest_33 : decode cX8_dropRest 33 = .ok (.iastore, 1) := by decide +kernel
theorem dX8_dropRest_34 : decode cX8_dropRest 34 = .ok (.iinc 2 1, 3) := by decide +kernel
theorem dX8_dropRest_37 : decode cX8_dropRest 37 = .ok (.goto (-25), 3) := by decide +kernel
theorem dX8_dropRest_40 : decode cX8_dropRest 40 = .ok (.return_, 1) := by decide +kernel
theorem dX8_takeSlashes_0 : decode cX8_takeSlashes 0 = .ok (.iconst 0, 1) := by decide +kernel
theorem dX8_takeSlashes_1 : decode cX8_takeSlashes 1 = .ok (.istore_n 1, 1) := by decide +kernel
theorem dX8_takeSlashes_2 : decode cX8_takeSlashes 2 = .ok (.iload_n 1, 1) := by decide +kernel
theorem dX8_takeSlashes_3 : decode cX8_takeSlashes 3 = .ok (.aload_n 0, 1) := by decide +kernel
theorem dX8_takeSlashes_4 : decode cX8_takeSlashes 4 = .ok (.getfield 85, 3) := by decide +kernel
theorem dX8_takeSlashes_7 : decode cX8_takeSlashes 7 = .ok (.if_icmp .ge 20, 3) := by decide +kernel
theorem dX8_takeSlashes_10 : decode cX8_takeSlashes 10 = .ok (.aload_n 0, 1) := by decide +kernel
theorem dX8_takeSlashes_11 : decode cX8_takeSlashes 11 = .ok (.getfield 57, 3) := by decide +kernel
theorem dX8_takeSlashes_14 : decode cX8_takeSlashes 14 = .ok (.iload_n 1, 1) := by decide +kernel
theorem dX8_takeSlashes_15 : decode cX8_takeSlashes 15 = .ok (.iaload, 1) := by decide +kernel
theorem dX8_takeSlashes_16 : decode cX8_takeSlashes 16 = .ok (.bipush 47, 2) := by decide +kernel
theorem dX8_takeSlashes_18 : decode cX8_takeSlashes 18 = .ok (.if_icmp .ne 9, 3) := by decide +kernel
theorem dX8_takeSlashes_21 : decode cX8_takeSlashes 21 = .ok (.iinc 1 1, 3) := by decide +kernel
theorem dX8_takeSlashes_24 : decode cX8_takeSlashes 24 = .ok (.goto (-22), 3) := by decide +kernel
theorem dX8_takeSlashes_27 : decode cX8_takeSlashes 27 = .ok (.aload_n 0, 1) := by decide +kernel
theorem dX8_takeSlashes_28 : decode cX8_takeSlashes 28 = .ok (.iload_n 1, 1) := by decide +kernel
theorem dX8_takeSlashes_29 : decode cX8_takeSlashes 29 = .ok (.invokevirtual 88, 3) := by decide +kernel
theorem dX8_takeSlashes_32 : decode cX8_takeSlashes 32 = .ok (.return_, 1) := by decide +kernel
theorem dX8_takeName_0 : decode cX8_takeName 0 = .ok (.iconst 0, 1) := by decide +kernel
theorem dX8_takeName_1 : decode cX8_takeName 1 = .ok (.istore_n 1, 1) := by decide +kernel
theorem dX8_takeName_2 : decode cX8_takeName 2 = .ok (.aload_n 0, 1) := by decide +kernel
theorem dX8_takeName_3 : decode cX8_takeName 3 = .ok (.lconst 0, 1) := by decide +kernel
theorem dX8_takeName_4 : decode cX8_takeName 4 = .ok (.putfield 92, 3) := by decide +kernel
theorem dX8_takeName_7 : decode cX8_takeName 7 = .ok (.iload_n 1, 1) := by decide +kernel
theorem dX8_takeName_8 : decode cX8_takeName 8 = .ok (.aload_n 0, 1) := by decide +kernel
theorem dX8_takeName_9 : decode cX8_takeName 9 = .ok (.getfield 85, 3) := by decide +kernel
theorem dX8_takeName_12 : decode cX8_takeName 12 = .ok (.if_icmp .ge 53, 3) := by decide +kernel
theorem dX8_takeName_15 : decode cX8_takeName 15 = .ok (.aload_n 0, 1) := by decide +kernel
theorem dX8_takeName_16 : decode cX8_takeName 16 = .ok (.getfield 57, 3) := by decide +kernel
theorem dX8_takeName_19 : decode cX8_takeName 19 = .ok (.iload_n 1, 1) := by decide +kernel
theorem dX8_takeName_20 : decode cX8_takeName 20 = .ok (.iaload, 1) := by decide +kernel
theorem dX8_takeName_21 : decode cX8_takeName 21 = .ok (.bipush 47, 2) := by decide +kernel
theorem dX8_takeName_23 : decode cX8_takeName 23 = .ok (.if_icmp .eq 42, 3) := by decide +kernel
theorem dX8_takeName_26 : decode cX8_takeName 26 = .ok (.aload_n 0, 1) := by decide +kernel
theorem dX8_takeName_27 : decode cX8_takeName 27 = .ok (.iload_n 1, 1) := by decide +kernel
theorem dX8_takeName_28 : decode cX8_takeName 28 = .ok (.bipush 6, 2) := by decide +kernel
theorem dX8_takeName_30 : decode cX8_takeName 30 = .ok (.if_icmp .ge 22, 3) := by decide +kernel
theorem dX8_takeName_33 : decode cX8_takeName 33 = .ok (.aload_n 0, 1) := by decide +kernel
theorem dX8_takeName_34 : decode cX8_takeName 34 = .ok (.getfield 92, 3) := by decide +kernel
theorem dX8_takeName_37 : decode cX8_takeName 37 = .ok (.ldc2_w 96, 3) := by decide +kernel
theorem dX8_takeName_40 : decode cX8_takeName 40 = .ok (.lmul, 1) := by decide +kernel
theorem dX8_takeName_41 : decode cX8_takeName 41 = .ok (.aload_n 0, 1) := by decide +kernel
theorem dX8_takeName_42 : decode cX8_takeName 42 = .ok (.getfield 57, 3) := by decide +kernel
theorem dX8_takeName_45 : decode cX8_takeName 45 = .ok (.iload_n 1, 1) := by decide +kernel
theorem dX8_takeName_46 : decode cX8_takeName 46 = .ok (.iaload, 1) := by decide +kernel
theorem dX8_takeName_47 : decode cX8_takeName 47 = .ok (.i2l, 1) := by decide +kernel
theorem dX8_takeName_48 : decode cX8_takeName 48 = .ok (.ladd, 1) := by decide +kernel
theorem dX8_takeName_49 : decode cX8_takeName 49 = .ok (.goto 7, 3) := by decide +kernel
theorem dX8_takeName_52 : decode cX8_takeName 52 = .ok (.aload_n 0, 1) := by decide +kernel
theorem dX8_takeName_53 : decode cX8_takeName 53 = .ok (.getfield 92, 3) := by decide +kernel
theorem dX8_takeName_56 : decode cX8_takeName 56 = .ok (.putfield 92, 3) := by decide +kernel
theorem dX8_takeName_59 : decode cX8_takeName 59 = .ok (.iinc 1 1, 3) := by decide +kernel
theorem dX8_takeName_62 : decode cX8_takeName 62 = .ok (.goto (-55), 3) := by decide +kernel
theorem dX8_takeName_65 : decode cX8_takeName 65 = .ok (.aload_n 0, 1) := by decide +kernel
theorem dX8_takeName_66 : decode cX8_takeName 66 = .ok (.iload_n 1, 1) := by decide +kernel
theorem dX8_takeName_67 : decode cX8_takeName 67 = .ok (.putfield 98, 3) := by decide +kernel
theorem dX8_takeName_70 : decode cX8_takeName 70 = .ok (.aload_n 0, 1) := by decide +kernel
theorem dX8_takeName_71 : decode cX8_takeName 71 = .ok (.iload_n 1, 1) := by decide +kernel
theorem dX8_takeName_72 : decode cX8_takeName 72 = .ok (.invokevirtual 88, 3) := by decide +kernel
theorem dX8_takeName_75 : decode cX8_takeName 75 = .ok (.aload_n 0, 1) := by decide +kernel
theorem dX8_takeName_76 : decode cX8_takeName 76 = .ok (.aload_n 0, 1) := by decide +kernel
theorem dX8_takeName_77 : decode cX8_takeName 77 = .ok (.getfield 85, 3) := by decide +kernel
theorem dX8_takeName_80 : decode cX8_takeName 80 = .ok (.ifCond .le 7, 3) := by decide +kernel
theorem dX8_takeName_83 : decode cX8_takeName 83 = .ok (.iconst 1, 1) := by decide +kernel
theorem dX8_takeName_84 : decode cX8_takeName 84 = .ok (.goto 4, 3) := by decide +kernel
theorem dX8_takeName_87 : decode cX8_takeName 87 = .ok (.iconst 0, 1) := by decide +kernel
theorem dX8_takeName_88 : decode cX8_takeName 88 = .ok (.putfield 101, 3) := by decide +kernel
theorem dX8_takeName_91 : decode cX8_takeName 91 = .ok (.aload_n 0, 1) := by decide +kernel
theorem dX8_takeName_92 : decode cX8_takeName 92 = .ok (.iconst 1, 1) := by decide +kernel
theorem dX8_takeName_93 : decode cX8_takeName 93 = .ok (.putfield 105, 3) := by decide +kernel
theorem dX8_takeName_96 : decode cX8_takeName 96 = .ok (.iconst 0, 1) := by decide +kernel
theorem dX8_takeName_97 : decode cX8_takeName 97 = .ok (.istore_n 2, 1) := by decide +kernel
theorem dX8_takeName_98 : decode cX8_takeName 98 = .ok (.iload_n 2, 1) := by decide +kernel
theorem dX8_takeName_99 : decode cX8_takeName 99 = .ok (.aload_n 0, 1) := by decide +kernel
theorem dX8_takeName_100 : decode cX8_takeName 100 = .ok (.getfield 85, 3) := by decide +kernel
theorem dX8_takeName_103 : decode cX8_takeName 103 = .ok (.if_icmp .ge 36, 3) := by decide +kernel
theorem dX8_takeName_106 : decode cX8_takeName 106 = .ok (.aload_n 0, 1) := by decide +kernel
theorem dX8_takeName_107 : decode cX8_takeName 107 = .ok (.aload_n 0, 1) := by decide +kernel
theorem dX8_takeName_108 : decode cX8_takeName 108 = .ok (.getfield 105, 3) := by decide +kernel
theorem dX8_takeName_111 : decode cX8_takeName 111 = .ok (.ifCond .eq 18, 3) := by decide +kernel
theorem dX8_takeName_114 : decode cX8_takeName 114 = .ok (.aload_n 0, 1) := by decide +kernel
theorem dX8_takeName_115 : decode cX8_takeName 115 = .ok (.getfield 57, 3) := by decide +kernel
theorem dX8_takeName_118 : decode cX8_takeName 118 = .ok (.iload_n 2, 1) := by decide +kernel
theorem dX8_takeName_119 : decode cX8_takeName 119 = .ok (.iaload, 1) := by decide +kernel
theorem dX8_takeName_120 : decode cX8_takeName 120 = .ok (.bipush 47, 2) := by decide +kernel
theorem dX8_takeName_122 : decode cX8_takeName 122 = .ok (.if_icmp .ne 7, 3) := by decide +kernel
theorem dX8_takeName_125 : decode cX8_takeName 125 = .ok (.iconst 1, 1) := by decide +kernel
theorem dX8_takeName_126 : decode cX8_takeName 126 = .ok (.goto 4, 3) := by decide +kernel
theorem dX8_takeName_129 : decode cX8_takeName 129 = .ok (.iconst 0, 1) := by decide +kernel
theorem dX8_takeName_130 : decode cX8_takeName 130 = .ok (.putfield 105, 3) := by decide +kernel
theorem dX8_takeName_133 : decode cX8_takeName 133 = .ok (.iinc 2 1, 3) := by decide +kernel
theorem dX8_takeName_136 : decode cX8_takeName 136 = .ok (.goto (-38), 3) := by decide +kernel
theorem dX8_takeName_139 : decode cX8_takeName 139 = .ok (.return_, 1) := by decide +kernel
theorem dX8_putBefore_0 : decode cX8_putBefore 0 = .ok (.aload_n 0, 1) := by decide +kernel
theorem dX8_putBefore_1 : decode cX8_putBefore 1 = .ok (.getfield 28, 3) := by decide +kernel
theorem dX8_putBefore_4 : decode cX8_putBefore 4 = .ok (.iload_n 1, 1) := by decide +kernel
theorem dX8_putBefore_5 : decode cX8_putBefore 5 = .ok (.iaload, 1) := by decide +kernel
theorem dX8_putBefore_6 : decode cX8_putBefore 6 = .ok (.istore_n 2, 1) := by decide +kernel
theorem dX8_putBefore_7 : decode cX8_putBefore 7 = .ok (.aload_n 0, 1) := by decide +kernel
theorem dX8_putBefore_8 : decode cX8_putBefore 8 = .ok (.getfield 85, 3) := by decide +kernel
theorem dX8_putBefore_11 : decode cX8_putBefore 11 = .ok (.iconst 1, 1) := by decide +kernel
theorem dX8_putBefore_12 : decode cX8_putBefore 12 = .ok (.isub, 1) := by decide +kernel
theorem dX8_putBefore_13 : decode cX8_putBefore 13 = .ok (.istore_n 3, 1) := by decide +kernel
theorem dX8_putBefore_14 : decode cX8_putBefore 14 = .ok (.iload_n 3, 1) := by decide +kernel
theorem dX8_putBefore_15 : decode cX8_putBefore 15 = .ok (.ifCond .lt 23, 3) := by decide +kernel
theorem dX8_putBefore_18 : decode cX8_putBefore 18 = .ok (.aload_n 0, 1) := by decide +kernel
theorem dX8_putBefore_19 : decode cX8_putBefore 19 = .ok (.getfield 57, 3) := by decide +kernel
theorem dX8_putBefore_22 : decode cX8_putBefore 22 = .ok (.iload_n 3, 1) := by decide +kernel
theorem dX8_putBefore_23 : decode cX8_putBefore 23 = .ok (.iload_n 2, 1) := by decide +kernel
theorem dX8_putBefore_24 : decode cX8_putBefore 24 = .ok (.iadd, 1) := by decide +kernel
theorem dX8_putBefore_25 : decode cX8_putBefore 25 = .ok (.aload_n 0, 1) := by decide +kernel
theorem dX8_putBefore_26 : decode cX8_putBefore 26 = .ok (.getfield 57, 3) := by decide +kernel
theorem dX8_putBefore_29 : decode cX8_putBefore 29 = .ok (.iload_n 3, 1) := by decide +kernel
theorem dX8_putBefore_30 : decode cX8_putBefore 30 = .ok (.iaload, 1) := by decide +kernel
theorem dX8_putBefore_31 : decode cX8_putBefore 31 = .ok (.iastore, 1) := by decide +kernel
theorem dX8_putBefore_32 : decode cX8_putBefore 32 = .ok (.iinc 3 (-1), 3) := by decide +kernel
theorem dX8_putBefore_35 : decode cX8_putBefore 35 = .ok (.goto (-21), 3) := by decide +kernel
theorem dX8_putBefore_38 : decode cX8_putBefore 38 = .ok (.iconst 0, 1) := by decide +kernel
theorem dX8_putBefore_39 : decode cX8_putBefore 39 = .ok (.istore_n 3, 1) := by decide +kernel
theorem dX8_putBefore_40 : decode cX8_putBefore 40 = .ok (.iload_n 3, 1) := by decide +kernel
theorem dX8_putBefore_41 : decode cX8_putBefore 41 = .ok (.iload_n 2, 1) := by decide +kernel
theorem dX8_putBefore_42 : decode cX8_putBefore 42 = .ok (.if_icmp .ge 26, 3) := by decide +kernel
theorem dX8_putBefore_45 : decode cX8_putBefore 45 = .ok (.aload_n 0, 1) := by decide +kernel
theorem dX8_putBefore_46 : decode cX8_putBefore 46 = .ok (.getfield 57, 3) := by decide +kernel
theorem dX8_putBefore_49 : decode cX8_putBefore 49 = .ok (.iload_n 3, 1) := by decide +kernel
theorem dX8_putBefore_50 : decode cX8_putBefore 50 = .ok (.aload_n 0, 1) := by decide +kernel
theorem dX8_putBefore_51 : decode cX8_putBefore 51 = .ok (.getfield 25, 3) := by decide +kernel
theorem dX8_putBefore_54 : decode cX8_putBefore 54 = .ok (.bipush 40, 2) := by decide +kernel
theorem dX8_putBefore_56 : decode cX8_putBefore 56 = .ok (.iload_n 1, 1) := by decide +kernel
theorem dX8_putBefore_57 : decode cX8_putBefore 57 = .ok (.imul, 1) := by decide +kernel
theorem dX8_putBefore_58 : decode cX8_putBefore 58 = .ok (.iload_n 3, 1) := by decide +kernel
theorem dX8_putBefore_59 : decode cX8_putBefore 59 = .ok (.iadd, 1) := by decide +kernel
theorem dX8_putBefore_60 : decode cX8_putBefore 60 = .ok (.iaload, 1) := by decide +kernel
theorem dX8_putBefore_61 : decode cX8_putBefore 61 = .ok (.iastore, 1) := by decide +kernel
theorem dX8_putBefore_62 : decode cX8_putBefore 62 = .ok (.iinc 3 1, 3) := by decide +kernel
theorem dX8_putBefore_65 : decode cX8_putBefore 65 = .ok (.goto (-25), 3) := by decide +kernel
theorem dX8_putBefore_68 : decode cX8_putBefore 68 = .ok (.aload_n 0, 1) := by decide +kernel
theorem dX8_putBefore_69 : decode cX8_putBefore 69 = .ok (.aload_n 0, 1) := by decide +kernel
theorem dX8_putBefore_70 : decode cX8_putBefore 70 = .ok (.getfield 85, 3) := by decide +kernel
theorem dX8_putBefore_73 : decode cX8_putBefore 73 = .ok (.iload_n 2, 1) := by decide +kernel
theorem dX8_putBefore_74 : decode cX8_putBefore 74 = .ok (.iadd, 1) := by decide +kernel
theorem dX8_putBefore_75 : decode cX8_putBefore 75 = .ok (.putfield 85, 3) := by decide +kernel
theorem dX8_putBefore_78 : decode cX8_putBefore 78 = .ok (.return_, 1) := by decide +kernel
theorem dX8_begin_0 : decode cX8_begin 0 = .ok (.aload_n 0, 1) := by decide +kernel
theorem dX8_begin_1 : decode cX8_begin 1 = .ok (.iload_n 1, 1) := by decide +kernel
theorem dX8_begin_2 : decode cX8_begin 2 = .ok (.ifCond .eq 10, 3) := by decide +kernel
theorem dX8_begin_5 : decode cX8_begin 5 = .ok (.aload_n 0, 1) := by decide +kernel
theorem dX8_begin_6 : decode cX8_begin 6 = .ok (.getfield 63, 3) := by decide +kernel
theorem dX8_begin_9 : decode cX8_begin 9 = .ok (.goto 7, 3) := by decide +kernel
theorem dX8_begin_12 : decode cX8_begin 12 = .ok (.aload_n 0, 1) := by decide +kernel
theorem dX8_begin_13 : decode cX8_begin 13 = .ok (.getfield 60, 3) := by decide +kernel
theorem dX8_begin_16 : decode cX8_begin 16 = .ok (.putfield 85, 3) := by decide +kernel
theorem dX8_begin_19 : decode cX8_begin 19 = .ok (.iconst 0, 1) := by decide +kernel
theorem dX8_begin_20 : decode cX8_begin 20 = .ok (.istore_n 2, 1) := by decide +kernel
theorem dX8_begin_21 : decode cX8_begin 21 = .ok (.iload_n 2, 1) := by decide +kernel
theorem dX8_begin_22 : decode cX8_begin 22 = .ok (.aload_n 0, 1) := by decide +kernel
theorem dX8_begin_23 : decode cX8_begin 23 = .ok (.getfield 85, 3) := by decide +kernel
theorem dX8_begin_26 : decode cX8_begin 26 = .ok (.if_icmp .ge 34, 3) := by decide +kernel
theorem dX8_begin_29 : decode cX8_begin 29 = .ok (.aload_n 0, 1) := by decide +kernel
theorem dX8_begin_30 : decode cX8_begin 30 = .ok (.getfield 57, 3) := by decide +kernel
theorem dX8_begin_33 : decode cX8_begin 33 = .ok (.iload_n 2, 1) := by decide +kernel
theorem dX8_begin_34 : decode cX8_begin 34 = .ok (.iload_n 1, 1) := by decide +kernel
theorem dX8_begin_35 : decode cX8_begin 35 = .ok (.ifCond .eq 12, 3) := by decide +kernel
theorem dX8_begin_38 : decode cX8_begin 38 = .ok (.aload_n 0, 1) := by decide +kernel
theorem dX8_begin_39 : decode cX8_begin 39 = .ok (.getfield 54, 3) := by decide +kernel
theorem dX8_begin_42 : decode cX8_begin 42 = .ok (.iload_n 2, 1) := by decide +kernel
theorem dX8_begin_43 : decode cX8_begin 43 = .ok (.iaload, 1) := by decide +kernel
theorem dX8_begin_44 : decode cX8_begin 44 = .ok (.goto 9, 3) := by decide +kernel
theorem dX8_begin_47 : decode cX8_begin 47 = .ok (.aload_n 0, 1) := by decide +kernel
theorem dX8_begin_48 : decode cX8_begin 48 = .ok (.getfield 51, 3) := by decide +kernel
theorem dX8_begin_51 : decode cX8_begin 51 = .ok (.iload_n 2, 1) := by decide +kernel
theorem dX8_begin_52 : decode cX8_begin 52 = .ok (.iaload, 1) := by decide +kernel
theorem dX8_begin_53 : decode cX8_begin 53 = .ok (.iastore, 1) := by decide +kernel
theorem dX8_begin_54 : decode cX8_begin 54 = .ok (.iinc 2 1, 3) := by decide +kernel
theorem dX8_begin_57 : decode cX8_begin 57 = .ok (.goto (-36), 3) := by decide +kernel
theorem dX8_begin_60 : decode cX8_begin 60 = .ok (.aload_n 0, 1) := by decide +kernel
theorem dX8_begin_61 : decode cX8_begin 61 = .ok (.aload_n 0, 1) := by decide +kernel
theorem dX8_begin_62 : decode cX8_begin 62 = .ok (.getfield 85, 3) := by decide +kernel
theorem dX8_begin_65 : decode cX8_begin 65 = .ok (.ifCond .le 21, 3) := by decide +kernel
theorem dX8_begin_68 : decode cX8_begin 68 = .ok (.aload_n 0, 1) := by decide +kernel
theorem dX8_begin_69 : decode cX8_begin 69 = .ok (.getfield 57, 3) := by decide +kernel
theorem dX8_begin_72 : decode cX8_begin 72 = .ok (.iconst 0, 1) := by decide +kernel
theorem dX8_begin_73 : decode cX8_begin 73 = .ok (.iaload, 1) := by decide +kernel
theorem dX8_begin_74 : decode cX8_begin 74 = .ok (.bipush 47, 2) := by decide +kernel
theorem dX8_begin_76 : decode cX8_begin 76 = .ok (.if_icmp .ne 10, 3) := by decide +kernel
theorem dX8_begin_79 : decode cX8_begin 79 = .ok (.aload_n 0, 1) := by decide +kernel
theorem dX8_begin_80 : decode cX8_begin 80 = .ok (.getfield 108, 3) := by decide +kernel
theorem dX8_begin_83 : decode cX8_begin 83 = .ok (.goto 7, 3) := by decide +kernel
theorem dX8_begin_86 : decode cX8_begin 86 = .ok (.aload_n 0, 1) := by decide +kernel
theorem dX8_begin_87 : decode cX8_begin 87 = .ok (.getfield 111, 3) := by decide +kernel
theorem dX8_begin_90 : decode cX8_begin 90 = .ok (.putfield 114, 3) := by decide +kernel
theorem dX8_begin_93 : decode cX8_begin 93 = .ok (.aload_n 0, 1) := by decide +kernel
theorem dX8_begin_94 : decode cX8_begin 94 = .ok (.iconst 0, 1) := by decide +kernel
theorem dX8_begin_95 : decode cX8_begin 95 = .ok (.putfield 117, 3) := by decide +kernel
theorem dX8_begin_98 : decode cX8_begin 98 = .ok (.return_, 1) := by decide +kernel
theorem dX8_against_0 : decode cX8_against 0 = .ok (.aload_n 0, 1) := by decide +kernel
theorem dX8_against_1 : decode cX8_against 1 = .ok (.getfield 7, 3) := by decide +kernel
theorem dX8_against_4 : decode cX8_against 4 = .ok (.aload_n 0, 1) := by decide +kernel
theorem dX8_against_5 : decode cX8_against 5 = .ok (.getfield 114, 3) := by decide +kernel
theorem dX8_against_8 : decode cX8_against 8 = .ok (.iaload, 1) := by decide +kernel
theorem dX8_against_9 : decode cX8_against 9 = .ok (.iconst 1, 1) := by decide +kernel
theorem dX8_against_10 : decode cX8_against 10 = .ok (.if_icmp .eq 6, 3) := by decide +kernel
theorem dX8_against_13 : decode cX8_against 13 = .ok (.bipush (-2), 2) := by decide +kernel
theorem dX8_against_15 : decode cX8_against 15 = .ok (.ireturn, 1) := by decide +kernel
theorem dX8_against_16 : decode cX8_against 16 = .ok (.aload_n 0, 1) := by decide +kernel
theorem dX8_against_17 : decode cX8_against 17 = .ok (.aload_n 0, 1) := by decide +kernel
theorem dX8_against_18 : decode cX8_against 18 = .ok (.getfield 114, 3) := by decide +kernel
theorem dX8_against_21 : decode cX8_against 21 = .ok (.iconst 0, 1) := by decide +kernel
theorem dX8_against_22 : decode cX8_against 22 = .ok (.invokevirtual 120, 3) := by decide +kernel
theorem dX8_against_25 : decode cX8_against 25 = .ok (.ifCond .ne 6, 3) := by decide +kernel
theorem dX8_against_28 : decode cX8_against 28 = .ok (.bipush (-3), 2) := by decide +kernel
theorem dX8_against_30 : decode cX8_against 30 = .ok (.ireturn, 1) := by decide +kernel
theorem dX8_against_31 : decode cX8_against 31 = .ok (.aload_n 0, 1) := by decide +kernel
theorem dX8_against_32 : decode cX8_against 32 = .ok (.getfield 98, 3) := by decide +kernel
theorem dX8_against_35 : decode cX8_against 35 = .ok (.bipush 6, 2) := by decide +kernel
theorem dX8_against_37 : decode cX8_against 37 = .ok (.if_icmp .le 8, 3) := by decide +kernel
theorem dX8_against_40 : decode cX8_against 40 = .ok (.bipush (-5), 2) := by decide +kernel
theorem dX8_against_42 : decode cX8_against 42 = .ok (.goto 4, 3) := by decide +kernel
theorem dX8_against_45 : decode cX8_against 45 = .ok (.iconst 0, 1) := by decide +kernel
theorem dX8_against_46 : decode cX8_against 46 = .ok (.ireturn, 1) := by decide +kernel
theorem dX8_step_0 : decode cX8_step 0 = .ok (.aload_n 0, 1) := by decide +kernel
theorem dX8_step_1 : decode cX8_step 1 = .ok (.getfield 114, 3) := by decide +kernel
theorem dX8_step_4 : decode cX8_step 4 = .ok (.istore_n 2, 1) := by decide +kernel
theorem dX8_step_5 : decode cX8_step 5 = .ok (.aload_n 0, 1) := by decide +kernel
theorem dX8_step_6 : decode cX8_step 6 = .ok (.getfield 92, 3) := by decide +kernel
theorem dX8_step_9 : decode cX8_step 9 = .ok (.ldc2_w 124, 3) := by decide +kernel
theorem dX8_step_12 : decode cX8_step 12 = .ok (.lcmp, 1) := by decide +kernel
theorem dX8_step_13 : decode cX8_step 13 = .ok (.ifCond .ne 19, 3) := by decide +kernel
theorem dX8_step_16 : decode cX8_step 16 = .ok (.aload_n 0, 1) := by decide +kernel
theorem dX8_step_17 : decode cX8_step 17 = .ok (.aload_n 0, 1) := by decide +kernel
theorem dX8_step_18 : decode cX8_step 18 = .ok (.getfield 114, 3) := by decide +kernel
theorem dX8_step_21 : decode cX8_step 21 = .ok (.aload_n 0, 1) := by decide +kernel
theorem dX8_step_22 : decode cX8_step 22 = .ok (.getfield 108, 3) := by decide +kernel
theorem dX8_step_25 : decode cX8_step 25 = .ok (.invokevirtual 126, 3) := by decide +kernel
theorem dX8_step_28 : decode cX8_step 28 = .ok (.istore_n 2, 1) := by decide +kernel
theorem dX8_step_29 : decode cX8_step 29 = .ok (.goto 44, 3) := by decide +kernel
theorem dX8_step_32 : decode cX8_step 32 = .ok (.aload_n 0, 1) := by decide +kernel
theorem dX8_step_33 : decode cX8_step 33 = .ok (.getfield 92, 3) := by decide +kernel
theorem dX8_step_36 : decode cX8_step 36 = .ok (.ldc2_w 130, 3) := by decide +kernel
theorem dX8_step_39 : decode cX8_step 39 = .ok (.lcmp, 1) := by decide +kernel
theorem dX8_step_40 : decode cX8_step 40 = .ok (.ifCond .eq 33, 3) := by decide +kernel
theorem dX8_step_43 : decode cX8_step 43 = .ok (.aload_n 0, 1) := by decide +kernel
theorem dX8_step_44 : decode cX8_step 44 = .ok (.aload_n 0, 1) := by decide +kernel
theorem dX8_step_45 : decode cX8_step 45 = .ok (.getfield 114, 3) := by decide +kernel
theorem dX8_step_48 : decode cX8_step 48 = .ok (.aload_n 0, 1) := by decide +kernel
theorem dX8_step_49 : decode cX8_step 49 = .ok (.getfield 92, 3) := by decide +kernel
theorem dX8_step_52 : decode cX8_step 52 = .ok (.invokevirtual 132, 3) := by decide +kernel
theorem dX8_step_55 : decode cX8_step 55 = .ok (.istore_n 3, 1) := by decide +kernel
theorem dX8_step_56 : decode cX8_step 56 = .ok (.iload_n 3, 1) := by decide +kernel
theorem dX8_step_57 : decode cX8_step 57 = .ok (.ifCond .ge 5, 3) := by decide +kernel
theorem dX8_step_60 : decode cX8_step 60 = .ok (.iconst (-1), 1) := by decide +kernel
theorem dX8_step_61 : decode cX8_step 61 = .ok (.ireturn, 1) := by decide +kernel
theorem dX8_step_62 : decode cX8_step 62 = .ok (.aload_n 0, 1) := by decide +kernel
theorem dX8_step_63 : decode cX8_step 63 = .ok (.aload_n 0, 1) := by decide +kernel
theorem dX8_step_64 : decode cX8_step 64 = .ok (.getfield 38, 3) := by decide +kernel
theorem dX8_step_67 : decode cX8_step 67 = .ok (.iload_n 3, 1) := by decide +kernel
theorem dX8_step_68 : decode cX8_step 68 = .ok (.iaload, 1) := by decide +kernel
theorem dX8_step_69 : decode cX8_step 69 = .ok (.invokevirtual 79, 3) := by decide +kernel
theorem dX8_step_72 : decode cX8_step 72 = .ok (.istore_n 2, 1) := by decide +kernel
theorem dX8_step_73 : decode cX8_step 73 = .ok (.aload_n 0, 1) := by decide +kernel
theorem dX8_step_74 : decode cX8_step 74 = .ok (.getfield 7, 3) := by decide +kernel
theorem dX8_step_77 : decode cX8_step 77 = .ok (.iload_n 2, 1) := by decide +kernel
theorem dX8_step_78 : decode cX8_step 78 = .ok (.iaload, 1) := by decide +kernel
theorem dX8_step_79 : decode cX8_step 79 = .ok (.iconst 3, 1) := by decide +kernel
theorem dX8_step_80 : decode cX8_step 80 = .ok (.if_icmp .ne 91, 3) := by decide +kernel
theorem dX8_step_83 : decode cX8_step 83 = .ok (.aload_n 0, 1) := by decide +kernel
theorem dX8_step_84 : decode cX8_step 84 = .ok (.getfield 105, 3) := by decide +kernel
theorem dX8_step_87 : decode cX8_step 87 = .ok (.ifCond .eq 14, 3) := by decide +kernel
theorem dX8_step_90 : decode cX8_step 90 = .ok (.aload_n 0, 1) := by decide +kernel
theorem dX8_step_91 : decode cX8_step 91 = .ok (.getfield 101, 3) := by decide +kernel
theorem dX8_step_94 : decode cX8_step 94 = .ok (.ifCond .ne 7, 3) := by decide +kernel
theorem dX8_step_97 : decode cX8_step 97 = .ok (.iload_n 1, 1) := by decide +kernel
theorem dX8_step_98 : decode cX8_step 98 = .ok (.ifCond .eq 73, 3) := by decide +kernel
theorem dX8_step_101 : decode cX8_step 101 = .ok (.aload_n 0, 1) := by decide +kernel
theorem dX8_step_102 : decode cX8_step 102 = .ok (.aload_n 0, 1) := by decide +kernel
theorem dX8_step_103 : decode cX8_step 103 = .ok (.getfield 117, 3) := by decide +kernel
theorem dX8_step_106 : decode cX8_step 106 = .ok (.iconst 1, 1) := by decide +kernel
theorem dX8_step_107 : decode cX8_step 107 = .ok (.iadd, 1) := by decide +kernel
theorem dX8_step_108 : decode cX8_step 108 = .ok (.putfield 117, 3) := by decide +kernel
theorem dX8_step_111 : decode cX8_step 111 = .ok (.aload_n 0, 1) := by decide +kernel
theorem dX8_step_112 : decode cX8_step 112 = .ok (.getfield 117, 3) := by decide +kernel
theorem dX8_step_115 : decode cX8_step 115 = .ok (.bipush 8, 2) := by decide +kernel
theorem dX8_step_117 : decode cX8_step 117 = .ok (.if_icmp .le 6, 3) := by decide +kernel
theorem dX8_step_120 : decode cX8_step 120 = .ok (.bipush (-4), 2) := by decide +kernel
theorem dX8_step_122 : decode cX8_step 122 = .ok (.ireturn, 1) := by decide +kernel
theorem dX8_step_123 : decode cX8_step 123 = .ok (.aload_n 0, 1) := by decide +kernel
theorem dX8_step_124 : decode cX8_step 124 = .ok (.iload_n 2, 1) := by decide +kernel
theorem dX8_step_125 : decode cX8_step 125 = .ok (.invokevirtual 136, 3) := by decide +kernel
theorem dX8_step_128 : decode cX8_step 128 = .ok (.aload_n 0, 1) := by decide +kernel
theorem dX8_step_129 : decode cX8_step 129 = .ok (.getfield 85, 3) := by decide +kernel
theorem dX8_step_132 : decode cX8_step 132 = .ok (.bipush 60, 2) := by decide +kernel
theorem dX8_step_134 : decode cX8_step 134 = .ok (.if_icmp .le 6, 3) := by decide +kernel
theorem dX8_step_137 : decode cX8_step 137 = .ok (.bipush (-5), 2) := by decide +kernel
theorem dX8_step_139 : decode cX8_step 139 = .ok (.ireturn, 1) := by decide +kernel
theorem dX8_step_140 : decode cX8_step 140 = .ok (.aload_n 0, 1) := by decide +kernel
theorem dX8_step_141 : decode cX8_step 141 = .ok (.aload_n 0, 1) := by decide +kernel
theorem dX8_step_142 : decode cX8_step 142 = .ok (.getfield 25, 3) := by decide +kernel
theorem dX8_step_145 : decode cX8_step 145 = .ok (.bipush 40, 2) := by decide +kernel
theorem dX8_step_147 : decode cX8_step 147 = .ok (.iload_n 2, 1) := by decide +kernel
theorem dX8_step_148 : decode cX8_step 148 = .ok (.imul, 1) := by decide +kernel
theorem dX8_step_149 : decode cX8_step 149 = .ok (.iaload, 1) := by decide +kernel
theorem dX8_step_150 : decode cX8_step 150 = .ok (.bipush 47, 2) := by decide +kernel
theorem dX8_step_152 : decode cX8_step 152 = .ok (.if_icmp .ne 10, 3) := by decide +kernel
theorem dX8_step_155 : decode cX8_step 155 = .ok (.aload_n 0, 1) := by decide +kernel
theorem dX8_step_156 : decode cX8_step 156 = .ok (.getfield 108, 3) := by decide +kernel
theorem dX8_step_159 : decode cX8_step 159 = .ok (.goto 7, 3) := by decide +kernel
theorem dX8_step_162 : decode cX8_step 162 = .ok (.aload_n 0, 1) := by decide +kernel
theorem dX8_step_163 : decode cX8_step 163 = .ok (.getfield 114, 3) := by decide +kernel
theorem dX8_step_166 : decode cX8_step 166 = .ok (.putfield 114, 3) := by decide +kernel
theorem dX8_step_169 : decode cX8_step 169 = .ok (.iconst 0, 1) := by decide +kernel
theorem dX8_step_170 : decode cX8_step 170 = .ok (.ireturn, 1) := by decide +kernel
theorem dX8_step_171 : decode cX8_step 171 = .ok (.aload_n 0, 1) := by decide +kernel
theorem dX8_step_172 : decode cX8_step 172 = .ok (.iload_n 2, 1) := by decide +kernel
theorem dX8_step_173 : decode cX8_step 173 = .ok (.putfield 114, 3) := by decide +kernel
theorem dX8_step_176 : decode cX8_step 176 = .ok (.aload_n 0, 1) := by decide +kernel
theorem dX8_step_177 : decode cX8_step 177 = .ok (.getfield 101, 3) := by decide +kernel
theorem dX8_step_180 : decode cX8_step 180 = .ok (.ifCond .eq 18, 3) := by decide +kernel
theorem dX8_step_183 : decode cX8_step 183 = .ok (.aload_n 0, 1) := by decide +kernel
theorem dX8_step_184 : decode cX8_step 184 = .ok (.getfield 7, 3) := by decide +kernel
theorem dX8_step_187 : decode cX8_step 187 = .ok (.iload_n 2, 1) := by decide +kernel
theorem dX8_step_188 : decode cX8_step 188 = .ok (.iaload, 1) := by decide +kernel
theorem dX8_step_189 : decode cX8_step 189 = .ok (.iconst 1, 1) := by decide +kernel
theorem dX8_step_190 : decode cX8_step 190 = .ok (.if_icmp .eq 8, 3) := by decide +kernel
theorem dX8_step_193 : decode cX8_step 193 = .ok (.bipush (-2), 2) := by decide +kernel
theorem dX8_step_195 : decode cX8_step 195 = .ok (.goto 4, 3) := by decide +kernel
theorem dX8_step_198 : decode cX8_step 198 = .ok (.iconst 0, 1) := by decide +kernel
theorem dX8_step_199 : decode cX8_step 199 = .ok (.ireturn, 1) := by decide +kernel
end
section
theorem dX8_walk_0 : decode cX8_walk 0 = .ok (.aload_n 0, 1) := by decide +kernel
theorem dX8_walk_1 : decode cX8_walk 1 = .ok (.iload_n 1, 1) := by decide +kernel
theorem dX8_walk_2 : decode cX8_walk 2 = .ok (.invokevirtual 139, 3) := by decide +kernel
theorem dX8_walk_5 : decode cX8_walk 5 = .ok (.aload_n 0, 1) := by decide +kernel
theorem dX8_walk_6 : decode cX8_walk 6 = .ok (.getfield 85, 3) := by decide +kernel
theorem dX8_walk_9 : decode cX8_walk 9 = .ok (.ifCond .ne 7, 3) := by decide +kernel
theorem dX8_walk_12 : decode cX8_walk 12 = .ok (.iconst (-1), 1) := by decide +kernel
theorem dX8_walk_13 : decode cX8_walk 13 = .ok (.goto 4, 3) := by decide +kernel
theorem dX8_walk_16 : decode cX8_walk 16 = .ok (.iconst 0, 1) := by decide +kernel
theorem dX8_walk_17 : decode cX8_walk 17 = .ok (.istore_n 3, 1) := by decide +kernel
theorem dX8_walk_18 : decode cX8_walk 18 = .ok (.aload_n 0, 1) := by decide +kernel
theorem dX8_walk_19 : decode cX8_walk 19 = .ok (.invokevirtual 143, 3) := by decide +kernel
theorem dX8_walk_22 : decode cX8_walk 22 = .ok (.iload_n 3, 1) := by decide +kernel
theorem dX8_walk_23 : decode cX8_walk 23 = .ok (.ifCond .ne 40, 3) := by decide +kernel
theorem dX8_walk_26 : decode cX8_walk 26 = .ok (.aload_n 0, 1) := by decide +kernel
theorem dX8_walk_27 : decode cX8_walk 27 = .ok (.getfield 85, 3) := by decide +kernel
theorem dX8_walk_30 : decode cX8_walk 30 = .ok (.ifCond .le 33, 3) := by decide +kernel
theorem dX8_walk_33 : decode cX8_walk 33 = .ok (.aload_n 0, 1) := by decide +kernel
theorem dX8_walk_34 : decode cX8_walk 34 = .ok (.invokevirtual 146, 3) := by decide +kernel
theorem dX8_walk_37 : decode cX8_walk 37 = .ok (.aload_n 0, 1) := by decide +kernel
theorem dX8_walk_38 : decode cX8_walk 38 = .ok (.invokevirtual 149, 3) := by decide +kernel
theorem dX8_walk_41 : decode cX8_walk 41 = .ok (.istore_n 3, 1) := by decide +kernel
theorem dX8_walk_42 : decode cX8_walk 42 = .ok (.iload_n 3, 1) := by decide +kernel
theorem dX8_walk_43 : decode cX8_walk 43 = .ok (.ifCond .ne 11, 3) := by decide +kernel
theorem dX8_walk_46 : decode cX8_walk 46 = .ok (.aload_n 0, 1) := by decide +kernel
theorem dX8_walk_47 : decode cX8_walk 47 = .ok (.iload_n 2, 1) := by decide +kernel
theorem dX8_walk_48 : decode cX8_walk 48 = .ok (.invokevirtual 153, 3) := by decide +kernel
theorem dX8_walk_51 : decode cX8_walk 51 = .ok (.goto 4, 3) := by decide +kernel
theorem dX8_walk_54 : decode cX8_walk 54 = .ok (.iload_n 3, 1) := by decide +kernel
theorem dX8_walk_55 : decode cX8_walk 55 = .ok (.istore_n 3, 1) := by decide +kernel
theorem dX8_walk_56 : decode cX8_walk 56 = .ok (.aload_n 0, 1) := by decide +kernel
theorem dX8_walk_57 : decode cX8_walk 57 = .ok (.invokevirtual 143, 3) := by decide +kernel
theorem dX8_walk_60 : decode cX8_walk 60 = .ok (.goto (-38), 3) := by decide +kernel
theorem dX8_walk_63 : decode cX8_walk 63 = .ok (.iload_n 3, 1) := by decide +kernel
theorem dX8_walk_64 : decode cX8_walk 64 = .ok (.ifCond .ne 10, 3) := by decide +kernel
theorem dX8_walk_67 : decode cX8_walk 67 = .ok (.aload_n 0, 1) := by decide +kernel
theorem dX8_walk_68 : decode cX8_walk 68 = .ok (.getfield 114, 3) := by decide +kernel
theorem dX8_walk_71 : decode cX8_walk 71 = .ok (.goto 4, 3) := by decide +kernel
theorem dX8_walk_74 : decode cX8_walk 74 = .ok (.iload_n 3, 1) := by decide +kernel
theorem dX8_walk_75 : decode cX8_walk 75 = .ok (.ireturn, 1) := by decide +kernel
theorem dX8_come_0 : decode cX8_come 0 = .ok (.aload_n 0, 1) := by decide +kernel
theorem dX8_come_1 : decode cX8_come 1 = .ok (.iconst 0, 1) := by decide +kernel
theorem dX8_come_2 : decode cX8_come 2 = .ok (.invokevirtual 139, 3) := by decide +kernel
theorem dX8_come_5 : decode cX8_come 5 = .ok (.iconst 0, 1) := by decide +kernel
theorem dX8_come_6 : decode cX8_come 6 = .ok (.istore_n 1, 1) := by decide +kernel
theorem dX8_come_7 : decode cX8_come 7 = .ok (.iconst 0, 1) := by decide +kernel
theorem dX8_come_8 : decode cX8_come 8 = .ok (.istore_n 2, 1) := by decide +kernel
theorem dX8_come_9 : decode cX8_come 9 = .ok (.iload_n 1, 1) := by decide +kernel
theorem dX8_come_10 : decode cX8_come 10 = .ok (.ifCond .ne 61, 3) := by decide +kernel
theorem dX8_come_13 : decode cX8_come 13 = .ok (.iload_n 2, 1) := by decide +kernel
theorem dX8_come_14 : decode cX8_come 14 = .ok (.ifCond .ne 57, 3) := by decide +kernel
theorem dX8_come_17 : decode cX8_come 17 = .ok (.aload_n 0, 1) := by decide +kernel
theorem dX8_come_18 : decode cX8_come 18 = .ok (.invokevirtual 143, 3) := by decide +kernel
theorem dX8_come_21 : decode cX8_come 21 = .ok (.aload_n 0, 1) := by decide +kernel
theorem dX8_come_22 : decode cX8_come 22 = .ok (.invokevirtual 146, 3) := by decide +kernel
theorem dX8_come_25 : decode cX8_come 25 = .ok (.aload_n 0, 1) := by decide +kernel
theorem dX8_come_26 : decode cX8_come 26 = .ok (.invokevirtual 149, 3) := by decide +kernel
theorem dX8_come_29 : decode cX8_come 29 = .ok (.istore_n 1, 1) := by decide +kernel
theorem dX8_come_30 : decode cX8_come 30 = .ok (.iload_n 1, 1) := by decide +kernel
theorem dX8_come_31 : decode cX8_come 31 = .ok (.ifCond .ne 14, 3) := by decide +kernel
theorem dX8_come_34 : decode cX8_come 34 = .ok (.aload_n 0, 1) := by decide +kernel
theorem dX8_come_35 : decode cX8_come 35 = .ok (.getfield 105, 3) := by decide +kernel
theorem dX8_come_38 : decode cX8_come 38 = .ok (.ifCond .eq 7, 3) := by decide +kernel
theorem dX8_come_41 : decode cX8_come 41 = .ok (.iconst 1, 1) := by decide +kernel
theorem dX8_come_42 : decode cX8_come 42 = .ok (.goto 4, 3) := by decide +kernel
theorem dX8_come_45 : decode cX8_come 45 = .ok (.iconst 0, 1) := by decide +kernel
theorem dX8_come_46 : decode cX8_come 46 = .ok (.istore_n 2, 1) := by decide +kernel
theorem dX8_come_47 : decode cX8_come 47 = .ok (.iload_n 1, 1) := by decide +kernel
theorem dX8_come_48 : decode cX8_come 48 = .ok (.ifCond .ne 18, 3) := by decide +kernel
theorem dX8_come_51 : decode cX8_come 51 = .ok (.aload_n 0, 1) := by decide +kernel
theorem dX8_come_52 : decode cX8_come 52 = .ok (.getfield 105, 3) := by decide +kernel
theorem dX8_come_55 : decode cX8_come 55 = .ok (.ifCond .ne 11, 3) := by decide +kernel
theorem dX8_come_58 : decode cX8_come 58 = .ok (.aload_n 0, 1) := by decide +kernel
theorem dX8_come_59 : decode cX8_come 59 = .ok (.iconst 1, 1) := by decide +kernel
theorem dX8_come_60 : decode cX8_come 60 = .ok (.invokevirtual 153, 3) := by decide +kernel
theorem dX8_come_63 : decode cX8_come 63 = .ok (.goto 4, 3) := by decide +kernel
theorem dX8_come_66 : decode cX8_come 66 = .ok (.iload_n 1, 1) := by decide +kernel
theorem dX8_come_67 : decode cX8_come 67 = .ok (.istore_n 1, 1) := by decide +kernel
theorem dX8_come_68 : decode cX8_come 68 = .ok (.goto (-59), 3) := by decide +kernel
theorem dX8_come_71 : decode cX8_come 71 = .ok (.iload_n 1, 1) := by decide +kernel
theorem dX8_come_72 : decode cX8_come 72 = .ok (.ireturn, 1) := by decide +kernel
theorem dX8_dots_0 : decode cX8_dots 0 = .ok (.aload_n 0, 1) := by decide +kernel
theorem dX8_dots_1 : decode cX8_dots 1 = .ok (.getfield 92, 3) := by decide +kernel
theorem dX8_dots_4 : decode cX8_dots 4 = .ok (.ldc2_w 130, 3) := by decide +kernel
theorem dX8_dots_7 : decode cX8_dots 7 = .ok (.lcmp, 1) := by decide +kernel
theorem dX8_dots_8 : decode cX8_dots 8 = .ok (.ifCond .eq 14, 3) := by decide +kernel
theorem dX8_dots_11 : decode cX8_dots 11 = .ok (.aload_n 0, 1) := by decide +kernel
theorem dX8_dots_12 : decode cX8_dots 12 = .ok (.getfield 92, 3) := by decide +kernel
theorem dX8_dots_15 : decode cX8_dots 15 = .ok (.ldc2_w 124, 3) := by decide +kernel
theorem dX8_dots_18 : decode cX8_dots 18 = .ok (.lcmp, 1) := by decide +kernel
theorem dX8_dots_19 : decode cX8_dots 19 = .ok (.ifCond .ne 7, 3) := by decide +kernel
theorem dX8_dots_22 : decode cX8_dots 22 = .ok (.iconst 1, 1) := by decide +kernel
theorem dX8_dots_23 : decode cX8_dots 23 = .ok (.goto 4, 3) := by decide +kernel
theorem dX8_dots_26 : decode cX8_dots 26 = .ok (.iconst 0, 1) := by decide +kernel
theorem dX8_dots_27 : decode cX8_dots 27 = .ok (.ireturn, 1) := by decide +kernel
theorem dX8_resolve_0 : decode cX8_resolve 0 = .ok (.aload_n 0, 1) := by decide +kernel
theorem dX8_resolve_1 : decode cX8_resolve 1 = .ok (.iconst 0, 1) := by decide +kernel
theorem dX8_resolve_2 : decode cX8_resolve 2 = .ok (.iload_n 1, 1) := by decide +kernel
theorem dX8_resolve_3 : decode cX8_resolve 3 = .ok (.invokevirtual 157, 3) := by decide +kernel
theorem dX8_resolve_6 : decode cX8_resolve 6 = .ok (.ireturn, 1) := by decide +kernel
theorem dX8_addEntry_0 : decode cX8_addEntry 0 = .ok (.aload_n 0, 1) := by decide +kernel
theorem dX8_addEntry_1 : decode cX8_addEntry 1 = .ok (.getfield 31, 3) := by decide +kernel
theorem dX8_addEntry_4 : decode cX8_addEntry 4 = .ok (.aload_n 0, 1) := by decide +kernel
theorem dX8_addEntry_5 : decode cX8_addEntry 5 = .ok (.getfield 82, 3) := by decide +kernel
theorem dX8_addEntry_8 : decode cX8_addEntry 8 = .ok (.aload_n 0, 1) := by decide +kernel
theorem dX8_addEntry_9 : decode cX8_addEntry 9 = .ok (.getfield 114, 3) := by decide +kernel
theorem dX8_addEntry_12 : decode cX8_addEntry 12 = .ok (.iastore, 1) := by decide +kernel
theorem dX8_addEntry_13 : decode cX8_addEntry 13 = .ok (.aload_n 0, 1) := by decide +kernel
theorem dX8_addEntry_14 : decode cX8_addEntry 14 = .ok (.getfield 34, 3) := by decide +kernel
theorem dX8_addEntry_17 : decode cX8_addEntry 17 = .ok (.aload_n 0, 1) := by decide +kernel
theorem dX8_addEntry_18 : decode cX8_addEntry 18 = .ok (.getfield 82, 3) := by decide +kernel
theorem dX8_addEntry_21 : decode cX8_addEntry 21 = .ok (.aload_n 0, 1) := by decide +kernel
theorem dX8_addEntry_22 : decode cX8_addEntry 22 = .ok (.getfield 92, 3) := by decide +kernel
theorem dX8_addEntry_25 : decode cX8_addEntry 25 = .ok (.lastore, 1) := by decide +kernel
theorem dX8_addEntry_26 : decode cX8_addEntry 26 = .ok (.aload_n 0, 1) := by decide +kernel
theorem dX8_addEntry_27 : decode cX8_addEntry 27 = .ok (.getfield 38, 3) := by decide +kernel
theorem dX8_addEntry_30 : decode cX8_addEntry 30 = .ok (.aload_n 0, 1) := by decide +kernel
theorem dX8_addEntry_31 : decode cX8_addEntry 31 = .ok (.getfield 82, 3) := by decide +kernel
theorem dX8_addEntry_34 : decode cX8_addEntry 34 = .ok (.iload_n 1, 1) := by decide +kernel
theorem dX8_addEntry_35 : decode cX8_addEntry 35 = .ok (.iastore, 1) := by decide +kernel
theorem dX8_addEntry_36 : decode cX8_addEntry 36 = .ok (.aload_n 0, 1) := by decide +kernel
theorem dX8_addEntry_37 : decode cX8_addEntry 37 = .ok (.aload_n 0, 1) := by decide +kernel
theorem dX8_addEntry_38 : decode cX8_addEntry 38 = .ok (.getfield 82, 3) := by decide +kernel
theorem dX8_addEntry_41 : decode cX8_addEntry 41 = .ok (.iconst 1, 1) := by decide +kernel
theorem dX8_addEntry_42 : decode cX8_addEntry 42 = .ok (.iadd, 1) := by decide +kernel
theorem dX8_addEntry_43 : decode cX8_addEntry 43 = .ok (.putfield 82, 3) := by decide +kernel
theorem dX8_addEntry_46 : decode cX8_addEntry 46 = .ok (.iload_n 1, 1) := by decide +kernel
theorem dX8_addEntry_47 : decode cX8_addEntry 47 = .ok (.ireturn, 1) := by decide +kernel
theorem dX8_newName_0 : decode cX8_newName 0 = .ok (.aload_n 0, 1) := by decide +kernel
theorem dX8_newName_1 : decode cX8_newName 1 = .ok (.getfield 60, 3) := by decide +kernel
theorem dX8_newName_4 : decode cX8_newName 4 = .ok (.ifCond .ne 5, 3) := by decide +kernel
theorem dX8_newName_7 : decode cX8_newName 7 = .ok (.iconst (-1), 1) := by decide +kernel
theorem dX8_newName_8 : decode cX8_newName 8 = .ok (.ireturn, 1) := by decide +kernel
theorem dX8_newName_9 : decode cX8_newName 9 = .ok (.aload_n 0, 1) := by decide +kernel
theorem dX8_newName_10 : decode cX8_newName 10 = .ok (.invokevirtual 161, 3) := by decide +kernel
theorem dX8_newName_13 : decode cX8_newName 13 = .ok (.ifCond .eq 6, 3) := by decide +kernel
theorem dX8_newName_16 : decode cX8_newName 16 = .ok (.bipush (-6), 2) := by decide +kernel
theorem dX8_newName_18 : decode cX8_newName 18 = .ok (.ireturn, 1) := by decide +kernel
theorem dX8_newName_19 : decode cX8_newName 19 = .ok (.aload_n 0, 1) := by decide +kernel
theorem dX8_newName_20 : decode cX8_newName 20 = .ok (.invokevirtual 165, 3) := by decide +kernel
theorem dX8_newName_23 : decode cX8_newName 23 = .ok (.istore_n 2, 1) := by decide +kernel
theorem dX8_newName_24 : decode cX8_newName 24 = .ok (.iload_n 2, 1) := by decide +kernel
theorem dX8_newName_25 : decode cX8_newName 25 = .ok (.ifCond .eq 5, 3) := by decide +kernel
theorem dX8_newName_28 : decode cX8_newName 28 = .ok (.iload_n 2, 1) := by decide +kernel
theorem dX8_newName_29 : decode cX8_newName 29 = .ok (.ireturn, 1) := by decide +kernel
theorem dX8_newName_30 : decode cX8_newName 30 = .ok (.aload_n 0, 1) := by decide +kernel
theorem dX8_newName_31 : decode cX8_newName 31 = .ok (.invokevirtual 168, 3) := by decide +kernel
theorem dX8_newName_34 : decode cX8_newName 34 = .ok (.ifCond .ne 18, 3) := by decide +kernel
theorem dX8_newName_37 : decode cX8_newName 37 = .ok (.aload_n 0, 1) := by decide +kernel
theorem dX8_newName_38 : decode cX8_newName 38 = .ok (.aload_n 0, 1) := by decide +kernel
theorem dX8_newName_39 : decode cX8_newName 39 = .ok (.getfield 114, 3) := by decide +kernel
theorem dX8_newName_42 : decode cX8_newName 42 = .ok (.aload_n 0, 1) := by decide +kernel
theorem dX8_newName_43 : decode cX8_newName 43 = .ok (.getfield 92, 3) := by decide +kernel
theorem dX8_newName_46 : decode cX8_newName 46 = .ok (.invokevirtual 132, 3) := by decide +kernel
theorem dX8_newName_49 : decode cX8_newName 49 = .ok (.ifCond .lt 6, 3) := by decide +kernel
theorem dX8_newName_52 : decode cX8_newName 52 = .ok (.bipush (-6), 2) := by decide +kernel
theorem dX8_newName_54 : decode cX8_newName 54 = .ok (.ireturn, 1) := by decide +kernel
theorem dX8_newName_55 : decode cX8_newName 55 = .ok (.aload_n 0, 1) := by decide +kernel
theorem dX8_newName_56 : decode cX8_newName 56 = .ok (.getfield 101, 3) := by decide +kernel
theorem dX8_newName_59 : decode cX8_newName 59 = .ok (.ifCond .eq 10, 3) := by decide +kernel
theorem dX8_newName_62 : decode cX8_newName 62 = .ok (.iload_n 1, 1) := by decide +kernel
theorem dX8_newName_63 : decode cX8_newName 63 = .ok (.ifCond .ne 6, 3) := by decide +kernel
theorem dX8_newName_66 : decode cX8_newName 66 = .ok (.bipush (-2), 2) := by decide +kernel
theorem dX8_newName_68 : decode cX8_newName 68 = .ok (.ireturn, 1) := by decide +kernel
theorem dX8_newName_69 : decode cX8_newName 69 = .ok (.aload_n 0, 1) := by decide +kernel
theorem dX8_newName_70 : decode cX8_newName 70 = .ok (.aload_n 0, 1) := by decide +kernel
theorem dX8_newName_71 : decode cX8_newName 71 = .ok (.getfield 114, 3) := by decide +kernel
theorem dX8_newName_74 : decode cX8_newName 74 = .ok (.iconst 1, 1) := by decide +kernel
theorem dX8_newName_75 : decode cX8_newName 75 = .ok (.invokevirtual 120, 3) := by decide +kernel
theorem dX8_newName_78 : decode cX8_newName 78 = .ok (.ifCond .eq 7, 3) := by decide +kernel
theorem dX8_newName_81 : decode cX8_newName 81 = .ok (.iconst 0, 1) := by decide +kernel
theorem dX8_newName_82 : decode cX8_newName 82 = .ok (.goto 5, 3) := by decide +kernel
theorem dX8_newName_85 : decode cX8_newName 85 = .ok (.bipush (-3), 2) := by decide +kernel
theorem dX8_newName_87 : decode cX8_newName 87 = .ok (.ireturn, 1) := by decide +kernel
theorem dX8_make_0 : decode cX8_make 0 = .ok (.iload_n 1, 1) := by decide +kernel
theorem dX8_make_1 : decode cX8_make 1 = .ok (.iconst 1, 1) := by decide +kernel
theorem dX8_make_2 : decode cX8_make 2 = .ok (.if_icmp .lt 35, 3) := by decide +kernel
theorem dX8_make_5 : decode cX8_make 5 = .ok (.iload_n 1, 1) := by decide +kernel
theorem dX8_make_6 : decode cX8_make 6 = .ok (.iconst 3, 1) := by decide +kernel
theorem dX8_make_7 : decode cX8_make 7 = .ok (.if_icmp .gt 30, 3) := by decide +kernel
theorem dX8_make_10 : decode cX8_make 10 = .ok (.iload_n 1, 1) := by decide +kernel
theorem dX8_make_11 : decode cX8_make 11 = .ok (.iconst 3, 1) := by decide +kernel
theorem dX8_make_12 : decode cX8_make 12 = .ok (.if_icmp .ge 13, 3) := by decide +kernel
theorem dX8_make_15 : decode cX8_make 15 = .ok (.iload_n 2, 1) := by decide +kernel
theorem dX8_make_16 : decode cX8_make 16 = .ok (.ifCond .lt 21, 3) := by decide +kernel
theorem dX8_make_19 : decode cX8_make 19 = .ok (.iload_n 2, 1) := by decide +kernel
theorem dX8_make_20 : decode cX8_make 20 = .ok (.bipush 15, 2) := by decide +kernel
theorem dX8_make_22 : decode cX8_make 22 = .ok (.if_icmp .gt 15, 3) := by decide +kernel
theorem dX8_make_25 : decode cX8_make 25 = .ok (.iload_n 1, 1) := by decide +kernel
theorem dX8_make_26 : decode cX8_make 26 = .ok (.iconst 3, 1) := by decide +kernel
theorem dX8_make_27 : decode cX8_make 27 = .ok (.if_icmp .ne 13, 3) := by decide +kernel
theorem dX8_make_30 : decode cX8_make 30 = .ok (.aload_n 0, 1) := by decide +kernel
theorem dX8_make_31 : decode cX8_make 31 = .ok (.getfield 63, 3) := by decide +kernel
theorem dX8_make_34 : decode cX8_make 34 = .ok (.ifCond .ne 6, 3) := by decide +kernel
theorem dX8_make_37 : decode cX8_make 37 = .ok (.bipush (-11), 2) := by decide +kernel
theorem dX8_make_39 : decode cX8_make 39 = .ok (.ireturn, 1) := by decide +kernel
theorem dX8_make_40 : decode cX8_make 40 = .ok (.aload_n 0, 1) := by decide +kernel
theorem dX8_make_41 : decode cX8_make 41 = .ok (.iload_n 1, 1) := by decide +kernel
theorem dX8_make_42 : decode cX8_make 42 = .ok (.iconst 1, 1) := by decide +kernel
theorem dX8_make_43 : decode cX8_make 43 = .ok (.if_icmp .ne 7, 3) := by decide +kernel
theorem dX8_make_46 : decode cX8_make 46 = .ok (.iconst 1, 1) := by decide +kernel
theorem dX8_make_47 : decode cX8_make 47 = .ok (.goto 4, 3) := by decide +kernel
theorem dX8_make_50 : decode cX8_make 50 = .ok (.iconst 0, 1) := by decide +kernel
theorem dX8_make_51 : decode cX8_make 51 = .ok (.invokevirtual 171, 3) := by decide +kernel
theorem dX8_make_54 : decode cX8_make 54 = .ok (.istore_n 3, 1) := by decide +kernel
theorem dX8_make_55 : decode cX8_make 55 = .ok (.iload_n 3, 1) := by decide +kernel
theorem dX8_make_56 : decode cX8_make 56 = .ok (.ifCond .eq 5, 3) := by decide +kernel
theorem dX8_make_59 : decode cX8_make 59 = .ok (.iload_n 3, 1) := by decide +kernel
theorem dX8_make_60 : decode cX8_make 60 = .ok (.ireturn, 1) := by decide +kernel
theorem dX8_make_61 : decode cX8_make 61 = .ok (.aload_n 0, 1) := by decide +kernel
theorem dX8_make_62 : decode cX8_make 62 = .ok (.invokevirtual 174, 3) := by decide +kernel
theorem dX8_make_65 : decode cX8_make 65 = .ok (.istore 4, 2) := by decide +kernel
theorem dX8_make_67 : decode cX8_make 67 = .ok (.iload 4, 2) := by decide +kernel
theorem dX8_make_69 : decode cX8_make 69 = .ok (.bipush 40, 2) := by decide +kernel
theorem dX8_make_71 : decode cX8_make 71 = .ok (.if_icmp .eq 12, 3) := by decide +kernel
theorem dX8_make_74 : decode cX8_make 74 = .ok (.aload_n 0, 1) := by decide +kernel
theorem dX8_make_75 : decode cX8_make 75 = .ok (.getfield 82, 3) := by decide +kernel
theorem dX8_make_78 : decode cX8_make 78 = .ok (.bipush 80, 2) := by decide +kernel
theorem dX8_make_80 : decode cX8_make 80 = .ok (.if_icmp .ne 6, 3) := by decide +kernel
theorem dX8_make_83 : decode cX8_make 83 = .ok (.bipush (-10), 2) := by decide +kernel
theorem dX8_make_85 : decode cX8_make 85 = .ok (.ireturn, 1) := by decide +kernel
theorem dX8_make_86 : decode cX8_make 86 = .ok (.aload_n 0, 1) := by decide +kernel
theorem dX8_make_87 : decode cX8_make 87 = .ok (.getfield 7, 3) := by decide +kernel
theorem dX8_make_90 : decode cX8_make 90 = .ok (.iload 4, 2) := by decide +kernel
theorem dX8_make_92 : decode cX8_make 92 = .ok (.iload_n 1, 1) := by decide +kernel
theorem dX8_make_93 : decode cX8_make 93 = .ok (.iastore, 1) := by decide +kernel
theorem dX8_make_94 : decode cX8_make 94 = .ok (.aload_n 0, 1) := by decide +kernel
theorem dX8_make_95 : decode cX8_make 95 = .ok (.getfield 13, 3) := by decide +kernel
theorem dX8_make_98 : decode cX8_make 98 = .ok (.iload 4, 2) := by decide +kernel
theorem dX8_make_100 : decode cX8_make 100 = .ok (.iload_n 1, 1) := by decide +kernel
theorem dX8_make_101 : decode cX8_make 101 = .ok (.iconst 3, 1) := by decide +kernel
theorem dX8_make_102 : decode cX8_make 102 = .ok (.if_icmp .ne 8, 3) := by decide +kernel
theorem dX8_make_105 : decode cX8_make 105 = .ok (.bipush 15, 2) := by decide +kernel
theorem dX8_make_107 : decode cX8_make 107 = .ok (.goto 4, 3) := by decide +kernel
theorem dX8_make_110 : decode cX8_make 110 = .ok (.iload_n 2, 1) := by decide +kernel
theorem dX8_make_111 : decode cX8_make 111 = .ok (.iastore, 1) := by decide +kernel
theorem dX8_make_112 : decode cX8_make 112 = .ok (.aload_n 0, 1) := by decide +kernel
theorem dX8_make_113 : decode cX8_make 113 = .ok (.getfield 16, 3) := by decide +kernel
theorem dX8_make_116 : decode cX8_make 116 = .ok (.iload 4, 2) := by decide +kernel
theorem dX8_make_118 : decode cX8_make 118 = .ok (.aload_n 0, 1) := by decide +kernel
theorem dX8_make_119 : decode cX8_make 119 = .ok (.getfield 66, 3) := by decide +kernel
theorem dX8_make_122 : decode cX8_make 122 = .ok (.iastore, 1) := by decide +kernel
theorem dX8_make_123 : decode cX8_make 123 = .ok (.aload_n 0, 1) := by decide +kernel
theorem dX8_make_124 : decode cX8_make 124 = .ok (.getfield 19, 3) := by decide +kernel
theorem dX8_make_127 : decode cX8_make 127 = .ok (.iload 4, 2) := by decide +kernel
theorem dX8_make_129 : decode cX8_make 129 = .ok (.aload_n 0, 1) := by decide +kernel
theorem dX8_make_130 : decode cX8_make 130 = .ok (.getfield 19, 3) := by decide +kernel
theorem dX8_make_133 : decode cX8_make 133 = .ok (.aload_n 0, 1) := by decide +kernel
theorem dX8_make_134 : decode cX8_make 134 = .ok (.getfield 114, 3) := by decide +kernel
theorem dX8_make_137 : decode cX8_make 137 = .ok (.iaload, 1) := by decide +kernel
theorem dX8_make_138 : decode cX8_make 138 = .ok (.iastore, 1) := by decide +kernel
theorem dX8_make_139 : decode cX8_make 139 = .ok (.aload_n 0, 1) := by decide +kernel
theorem dX8_make_140 : decode cX8_make 140 = .ok (.getfield 22, 3) := by decide +kernel
theorem dX8_make_143 : decode cX8_make 143 = .ok (.iload 4, 2) := by decide +kernel
theorem dX8_make_145 : decode cX8_make 145 = .ok (.aload_n 0, 1) := by decide +kernel
theorem dX8_make_146 : decode cX8_make 146 = .ok (.getfield 114, 3) := by decide +kernel
theorem dX8_make_149 : decode cX8_make 149 = .ok (.iastore, 1) := by decide +kernel
theorem dX8_make_150 : decode cX8_make 150 = .ok (.aload_n 0, 1) := by decide +kernel
theorem dX8_make_151 : decode cX8_make 151 = .ok (.getfield 28, 3) := by decide +kernel
theorem dX8_make_154 : decode cX8_make 154 = .ok (.iload 4, 2) := by decide +kernel
theorem dX8_make_156 : decode cX8_make 156 = .ok (.iload_n 1, 1) := by decide +kernel
theorem dX8_make_157 : decode cX8_make 157 = .ok (.iconst 3, 1) := by decide +kernel
theorem dX8_make_158 : decode cX8_make 158 = .ok (.if_icmp .ne 10, 3) := by decide +kernel
theorem dX8_make_161 : decode cX8_make 161 = .ok (.aload_n 0, 1) := by decide +kernel
theorem dX8_make_162 : decode cX8_make 162 = .ok (.getfield 63, 3) := by decide +kernel
theorem dX8_make_165 : decode cX8_make 165 = .ok (.goto 4, 3) := by decide +kernel
theorem dX8_make_168 : decode cX8_make 168 = .ok (.iconst 0, 1) := by decide +kernel
theorem dX8_make_169 : decode cX8_make 169 = .ok (.iastore, 1) := by decide +kernel
theorem dX8_make_170 : decode cX8_make 170 = .ok (.iconst 0, 1) := by decide +kernel
theorem dX8_make_171 : decode cX8_make 171 = .ok (.istore 5, 2) := by decide +kernel
theorem dX8_make_173 : decode cX8_make 173 = .ok (.iload 5, 2) := by decide +kernel
theorem dX8_make_175 : decode cX8_make 175 = .ok (.aload_n 0, 1) := by decide +kernel
theorem dX8_make_176 : decode cX8_make 176 = .ok (.getfield 28, 3) := by decide +kernel
theorem dX8_make_179 : decode cX8_make 179 = .ok (.iload 4, 2) := by decide +kernel
theorem dX8_make_181 : decode cX8_make 181 = .ok (.iaload, 1) := by decide +kernel
theorem dX8_make_182 : decode cX8_make 182 = .ok (.if_icmp .ge 29, 3) := by decide +kernel
theorem dX8_make_185 : decode cX8_make 185 = .ok (.aload_n 0, 1) := by decide +kernel
theorem dX8_make_186 : decode cX8_make 186 = .ok (.getfield 25, 3) := by decide +kernel
theorem dX8_make_189 : decode cX8_make 189 = .ok (.bipush 40, 2) := by decide +kernel
theorem dX8_make_191 : decode cX8_make 191 = .ok (.iload 4, 2) := by decide +kernel
theorem dX8_make_193 : decode cX8_make 193 = .ok (.imul, 1) := by decide +kernel
theorem dX8_make_194 : decode cX8_make 194 = .ok (.iload 5, 2) := by decide +kernel
theorem dX8_make_196 : decode cX8_make 196 = .ok (.iadd, 1) := by decide +kernel
theorem dX8_make_197 : decode cX8_make 197 = .ok (.aload_n 0, 1) := by decide +kernel
theorem dX8_make_198 : decode cX8_make 198 = .ok (.getfield 54, 3) := by decide +kernel
theorem dX8_make_201 : decode cX8_make 201 = .ok (.iload 5, 2) := by decide +kernel
theorem dX8_make_203 : decode cX8_make 203 = .ok (.iaload, 1) := by decide +kernel
theorem dX8_make_204 : decode cX8_make 204 = .ok (.iastore, 1) := by decide +kernel
theorem dX8_make_205 : decode cX8_make 205 = .ok (.iinc 5 1, 3) := by decide +kernel
theorem dX8_make_208 : decode cX8_make 208 = .ok (.goto (-35), 3) := by decide +kernel
theorem dX8_make_211 : decode cX8_make 211 = .ok (.aload_n 0, 1) := by decide +kernel
theorem dX8_make_212 : decode cX8_make 212 = .ok (.iload 4, 2) := by decide +kernel
theorem dX8_make_214 : decode cX8_make 214 = .ok (.invokevirtual 177, 3) := by decide +kernel
theorem dX8_make_217 : decode cX8_make 217 = .ok (.ireturn, 1) := by decide +kernel
theorem dX8_link_0 : decode cX8_link 0 = .ok (.aload_n 0, 1) := by decide +kernel
theorem dX8_link_1 : decode cX8_link 1 = .ok (.iconst 1, 1) := by decide +kernel
theorem dX8_link_2 : decode cX8_link 2 = .ok (.iconst 0, 1) := by decide +kernel
theorem dX8_link_3 : decode cX8_link 3 = .ok (.invokevirtual 157, 3) := by decide +kernel
theorem dX8_link_6 : decode cX8_link 6 = .ok (.istore_n 1, 1) := by decide +kernel
theorem dX8_link_7 : decode cX8_link 7 = .ok (.iload_n 1, 1) := by decide +kernel
theorem dX8_link_8 : decode cX8_link 8 = .ok (.ifCond .ge 5, 3) := by decide +kernel
theorem dX8_link_11 : decode cX8_link 11 = .ok (.iload_n 1, 1) := by decide +kernel
theorem dX8_link_12 : decode cX8_link 12 = .ok (.ireturn, 1) := by decide +kernel
theorem dX8_link_13 : decode cX8_link 13 = .ok (.aload_n 0, 1) := by decide +kernel
theorem dX8_link_14 : decode cX8_link 14 = .ok (.getfield 7, 3) := by decide +kernel
theorem dX8_link_17 : decode cX8_link 17 = .ok (.iload_n 1, 1) := by decide +kernel
theorem dX8_link_18 : decode cX8_link 18 = .ok (.iaload, 1) := by decide +kernel
theorem dX8_link_19 : decode cX8_link 19 = .ok (.iconst 1, 1) := by decide +kernel
theorem dX8_link_20 : decode cX8_link 20 = .ok (.if_icmp .ne 6, 3) := by decide +kernel
theorem dX8_link_23 : decode cX8_link 23 = .ok (.bipush (-11), 2) := by decide +kernel
theorem dX8_link_25 : decode cX8_link 25 = .ok (.ireturn, 1) := by decide +kernel
theorem dX8_link_26 : decode cX8_link 26 = .ok (.aload_n 0, 1) := by decide +kernel
theorem dX8_link_27 : decode cX8_link 27 = .ok (.iconst 0, 1) := by decide +kernel
theorem dX8_link_28 : decode cX8_link 28 = .ok (.invokevirtual 171, 3) := by decide +kernel
theorem dX8_link_31 : decode cX8_link 31 = .ok (.istore_n 2, 1) := by decide +kernel
theorem dX8_link_32 : decode cX8_link 32 = .ok (.iload_n 2, 1) := by decide +kernel
theorem dX8_link_33 : decode cX8_link 33 = .ok (.ifCond .eq 5, 3) := by decide +kernel
theorem dX8_link_36 : decode cX8_link 36 = .ok (.iload_n 2, 1) := by decide +kernel
theorem dX8_link_37 : decode cX8_link 37 = .ok (.ireturn, 1) := by decide +kernel
theorem dX8_link_38 : decode cX8_link 38 = .ok (.aload_n 0, 1) := by decide +kernel
theorem dX8_link_39 : decode cX8_link 39 = .ok (.getfield 19, 3) := by decide +kernel
theorem dX8_link_42 : decode cX8_link 42 = .ok (.aload_n 0, 1) := by decide +kernel
theorem dX8_link_43 : decode cX8_link 43 = .ok (.getfield 114, 3) := by decide +kernel
theorem dX8_link_46 : decode cX8_link 46 = .ok (.iaload, 1) := by decide +kernel
theorem dX8_link_47 : decode cX8_link 47 = .ok (.aload_n 0, 1) := by decide +kernel
theorem dX8_link_48 : decode cX8_link 48 = .ok (.getfield 19, 3) := by decide +kernel
theorem dX8_link_51 : decode cX8_link 51 = .ok (.iload_n 1, 1) := by decide +kernel
theorem dX8_link_52 : decode cX8_link 52 = .ok (.iaload, 1) := by decide +kernel
theorem dX8_link_53 : decode cX8_link 53 = .ok (.if_icmp .eq 6, 3) := by decide +kernel
theorem dX8_link_56 : decode cX8_link 56 = .ok (.bipush (-9), 2) := by decide +kernel
theorem dX8_link_58 : decode cX8_link 58 = .ok (.ireturn, 1) := by decide +kernel
theorem dX8_link_59 : decode cX8_link 59 = .ok (.aload_n 0, 1) := by decide +kernel
theorem dX8_link_60 : decode cX8_link 60 = .ok (.getfield 82, 3) := by decide +kernel
theorem dX8_link_63 : decode cX8_link 63 = .ok (.bipush 80, 2) := by decide +kernel
theorem dX8_link_65 : decode cX8_link 65 = .ok (.if_icmp .ne 8, 3) := by decide +kernel
theorem dX8_link_68 : decode cX8_link 68 = .ok (.bipush (-10), 2) := by decide +kernel
theorem dX8_link_70 : decode cX8_link 70 = .ok (.goto 8, 3) := by decide +kernel
theorem dX8_link_73 : decode cX8_link 73 = .ok (.aload_n 0, 1) := by decide +kernel
theorem dX8_link_74 : decode cX8_link 74 = .ok (.iload_n 1, 1) := by decide +kernel
theorem dX8_link_75 : decode cX8_link 75 = .ok (.invokevirtual 177, 3) := by decide +kernel
theorem dX8_link_78 : decode cX8_link 78 = .ok (.ireturn, 1) := by decide +kernel
theorem dX8_entriesFor_0 : decode cX8_entriesFor 0 = .ok (.iconst 0, 1) := by decide +kernel
theorem dX8_entriesFor_1 : decode cX8_entriesFor 1 = .ok (.istore_n 2, 1) := by decide +kernel
theorem dX8_entriesFor_2 : decode cX8_entriesFor 2 = .ok (.iconst 0, 1) := by decide +kernel
theorem dX8_entriesFor_3 : decode cX8_entriesFor 3 = .ok (.istore_n 3, 1) := by decide +kernel
theorem dX8_entriesFor_4 : decode cX8_entriesFor 4 = .ok (.iload_n 3, 1) := by decide +kernel
theorem dX8_entriesFor_5 : decode cX8_entriesFor 5 = .ok (.aload_n 0, 1) := by decide +kernel
theorem dX8_entriesFor_6 : decode cX8_entriesFor 6 = .ok (.getfield 82, 3) := by decide +kernel
theorem dX8_entriesFor_9 : decode cX8_entriesFor 9 = .ok (.if_icmp .ge 27, 3) := by decide +kernel
theorem dX8_entriesFor_12 : decode cX8_entriesFor 12 = .ok (.aload_n 0, 1) := by decide +kernel
theorem dX8_entriesFor_13 : decode cX8_entriesFor 13 = .ok (.getfield 38, 3) := by decide +kernel
theorem dX8_entriesFor_16 : decode cX8_entriesFor 16 = .ok (.iload_n 3, 1) := by decide +kernel
theorem dX8_entriesFor_17 : decode cX8_entriesFor 17 = .ok (.iaload, 1) := by decide +kernel
theorem dX8_entriesFor_18 : decode cX8_entriesFor 18 = .ok (.iload_n 1, 1) := by decide +kernel
theorem dX8_entriesFor_19 : decode cX8_entriesFor 19 = .ok (.if_icmp .ne 9, 3) := by decide +kernel
theorem dX8_entriesFor_22 : decode cX8_entriesFor 22 = .ok (.iload_n 2, 1) := by decide +kernel
theorem dX8_entriesFor_23 : decode cX8_entriesFor 23 = .ok (.iconst 1, 1) := by decide +kernel
theorem dX8_entriesFor_24 : decode cX8_entriesFor 24 = .ok (.iadd, 1) := by decide +kernel
theorem dX8_entriesFor_25 : decode cX8_entriesFor 25 = .ok (.goto 4, 3) := by decide +kernel
theorem dX8_entriesFor_28 : decode cX8_entriesFor 28 = .ok (.iload_n 2, 1) := by decide +kernel
theorem dX8_entriesFor_29 : decode cX8_entriesFor 29 = .ok (.istore_n 2, 1) := by decide +kernel
theorem dX8_entriesFor_30 : decode cX8_entriesFor 30 = .ok (.iinc 3 1, 3) := by decide +kernel
theorem dX8_entriesFor_33 : decode cX8_entriesFor 33 = .ok (.goto (-29), 3) := by decide +kernel
theorem dX8_entriesFor_36 : decode cX8_entriesFor 36 = .ok (.iload_n 2, 1) := by decide +kernel
theorem dX8_entriesFor_37 : decode cX8_entriesFor 37 = .ok (.ireturn, 1) := by decide +kernel
theorem dX8_entriesOf_0 : decode cX8_entriesOf 0 = .ok (.iconst 0, 1) := by decide +kernel
theorem dX8_entriesOf_1 : decode cX8_entriesOf 1 = .ok (.istore_n 2, 1) := by decide +kernel
theorem dX8_entriesOf_2 : decode cX8_entriesOf 2 = .ok (.iconst 0, 1) := by decide +kernel
theorem dX8_entriesOf_3 : decode cX8_entriesOf 3 = .ok (.istore_n 3, 1) := by decide +kernel
theorem dX8_entriesOf_4 : decode cX8_entriesOf 4 = .ok (.iload_n 3, 1) := by decide +kernel
theorem dX8_entriesOf_5 : decode cX8_entriesOf 5 = .ok (.aload_n 0, 1) := by decide +kernel
theorem dX8_entriesOf_6 : decode cX8_entriesOf 6 = .ok (.getfield 82, 3) := by decide +kernel
theorem dX8_entriesOf_9 : decode cX8_entriesOf 9 = .ok (.if_icmp .ge 27, 3) := by decide +kernel
theorem dX8_entriesOf_12 : decode cX8_entriesOf 12 = .ok (.aload_n 0, 1) := by decide +kernel
theorem dX8_entriesOf_13 : decode cX8_entriesOf 13 = .ok (.getfield 31, 3) := by decide +kernel
theorem dX8_entriesOf_16 : decode cX8_entriesOf 16 = .ok (.iload_n 3, 1) := by decide +kernel
theorem dX8_entriesOf_17 : decode cX8_entriesOf 17 = .ok (.iaload, 1) := by decide +kernel
theorem dX8_entriesOf_18 : decode cX8_entriesOf 18 = .ok (.iload_n 1, 1) := by decide +kernel
theorem dX8_entriesOf_19 : decode cX8_entriesOf 19 = .ok (.if_icmp .ne 9, 3) := by decide +kernel
theorem dX8_entriesOf_22 : decode cX8_entriesOf 22 = .ok (.iload_n 2, 1) := by decide +kernel
theorem dX8_entriesOf_23 : decode cX8_entriesOf 23 = .ok (.iconst 1, 1) := by decide +kernel
theorem dX8_entriesOf_24 : decode cX8_entriesOf 24 = .ok (.iadd, 1) := by decide +kernel
theorem dX8_entriesOf_25 : decode cX8_entriesOf 25 = .ok (.goto 4, 3) := by decide +kernel
theorem dX8_entriesOf_28 : decode cX8_entriesOf 28 = .ok (.iload_n 2, 1) := by decide +kernel
theorem dX8_entriesOf_29 : decode cX8_entriesOf 29 = .ok (.istore_n 2, 1) := by decide +kernel
theorem dX8_entriesOf_30 : decode cX8_entriesOf 30 = .ok (.iinc 3 1, 3) := by decide +kernel
theorem dX8_entriesOf_33 : decode cX8_entriesOf 33 = .ok (.goto (-29), 3) := by decide +kernel
theorem dX8_entriesOf_36 : decode cX8_entriesOf 36 = .ok (.iload_n 2, 1) := by decide +kernel
theorem dX8_entriesOf_37 : decode cX8_entriesOf 37 = .ok (.ireturn, 1) := by decide +kernel
theorem dX8_remove_0 : decode cX8_remove 0 = .ok (.aload_n 0, 1) := by decide +kernel
theorem dX8_remove_1 : decode cX8_remove 1 = .ok (.getfield 60, 3) := by decide +kernel
theorem dX8_remove_4 : decode cX8_remove 4 = .ok (.ifCond .ne 5, 3) := by decide +kernel
theorem dX8_remove_7 : decode cX8_remove 7 = .ok (.iconst (-1), 1) := by decide +kernel
theorem dX8_remove_8 : decode cX8_remove 8 = .ok (.ireturn, 1) := by decide +kernel
theorem dX8_remove_9 : decode cX8_remove 9 = .ok (.aload_n 0, 1) := by decide +kernel
theorem dX8_remove_10 : decode cX8_remove 10 = .ok (.invokevirtual 161, 3) := by decide +kernel
theorem dX8_remove_13 : decode cX8_remove 13 = .ok (.ifCond .eq 6, 3) := by decide +kernel
theorem dX8_remove_16 : decode cX8_remove 16 = .ok (.bipush (-7), 2) := by decide +kernel
theorem dX8_remove_18 : decode cX8_remove 18 = .ok (.ireturn, 1) := by decide +kernel
theorem dX8_remove_19 : decode cX8_remove 19 = .ok (.aload_n 0, 1) := by decide +kernel
theorem dX8_remove_20 : decode cX8_remove 20 = .ok (.invokevirtual 165, 3) := by decide +kernel
theorem dX8_remove_23 : decode cX8_remove 23 = .ok (.istore_n 1, 1) := by decide +kernel
theorem dX8_remove_24 : decode cX8_remove 24 = .ok (.iload_n 1, 1) := by decide +kernel
theorem dX8_remove_25 : decode cX8_remove 25 = .ok (.ifCond .eq 5, 3) := by decide +kernel
theorem dX8_remove_28 : decode cX8_remove 28 = .ok (.iload_n 1, 1) := by decide +kernel
theorem dX8_remove_29 : decode cX8_remove 29 = .ok (.ireturn, 1) := by decide +kernel
theorem dX8_remove_30 : decode cX8_remove 30 = .ok (.aload_n 0, 1) := by decide +kernel
theorem dX8_remove_31 : decode cX8_remove 31 = .ok (.invokevirtual 168, 3) := by decide +kernel
theorem dX8_remove_34 : decode cX8_remove 34 = .ok (.ifCond .eq 6, 3) := by decide +kernel
theorem dX8_remove_37 : decode cX8_remove 37 = .ok (.bipush (-11), 2) := by decide +kernel
theorem dX8_remove_39 : decode cX8_remove 39 = .ok (.ireturn, 1) := by decide +kernel
theorem dX8_remove_40 : decode cX8_remove 40 = .ok (.aload_n 0, 1) := by decide +kernel
theorem dX8_remove_41 : decode cX8_remove 41 = .ok (.aload_n 0, 1) := by decide +kernel
theorem dX8_remove_42 : decode cX8_remove 42 = .ok (.getfield 114, 3) := by decide +kernel
theorem dX8_remove_45 : decode cX8_remove 45 = .ok (.aload_n 0, 1) := by decide +kernel
theorem dX8_remove_46 : decode cX8_remove 46 = .ok (.getfield 92, 3) := by decide +kernel
theorem dX8_remove_49 : decode cX8_remove 49 = .ok (.invokevirtual 132, 3) := by decide +kernel
theorem dX8_remove_52 : decode cX8_remove 52 = .ok (.istore_n 2, 1) := by decide +kernel
theorem dX8_remove_53 : decode cX8_remove 53 = .ok (.iload_n 2, 1) := by decide +kernel
theorem dX8_remove_54 : decode cX8_remove 54 = .ok (.ifCond .ge 5, 3) := by decide +kernel
theorem dX8_remove_57 : decode cX8_remove 57 = .ok (.iconst (-1), 1) := by decide +kernel
theorem dX8_remove_58 : decode cX8_remove 58 = .ok (.ireturn, 1) := by decide +kernel
theorem dX8_remove_59 : decode cX8_remove 59 = .ok (.aload_n 0, 1) := by decide +kernel
theorem dX8_remove_60 : decode cX8_remove 60 = .ok (.getfield 38, 3) := by decide +kernel
theorem dX8_remove_63 : decode cX8_remove 63 = .ok (.iload_n 2, 1) := by decide +kernel
theorem dX8_remove_64 : decode cX8_remove 64 = .ok (.iaload, 1) := by decide +kernel
theorem dX8_remove_65 : decode cX8_remove 65 = .ok (.istore_n 3, 1) := by decide +kernel
theorem dX8_remove_66 : decode cX8_remove 66 = .ok (.aload_n 0, 1) := by decide +kernel
theorem dX8_remove_67 : decode cX8_remove 67 = .ok (.getfield 101, 3) := by decide +kernel
theorem dX8_remove_70 : decode cX8_remove 70 = .ok (.ifCond .eq 16, 3) := by decide +kernel
theorem dX8_remove_73 : decode cX8_remove 73 = .ok (.aload_n 0, 1) := by decide +kernel
theorem dX8_remove_74 : decode cX8_remove 74 = .ok (.getfield 7, 3) := by decide +kernel
theorem dX8_remove_77 : decode cX8_remove 77 = .ok (.iload_n 3, 1) := by decide +kernel
theorem dX8_remove_78 : decode cX8_remove 78 = .ok (.iaload, 1) := by decide +kernel
theorem dX8_remove_79 : decode cX8_remove 79 = .ok (.iconst 1, 1) := by decide +kernel
theorem dX8_remove_80 : decode cX8_remove 80 = .ok (.if_icmp .eq 6, 3) := by decide +kernel
theorem dX8_remove_83 : decode cX8_remove 83 = .ok (.bipush (-2), 2) := by decide +kernel
theorem dX8_remove_85 : decode cX8_remove 85 = .ok (.ireturn, 1) := by decide +kernel
theorem dX8_remove_86 : decode cX8_remove 86 = .ok (.aload_n 0, 1) := by decide +kernel
theorem dX8_remove_87 : decode cX8_remove 87 = .ok (.aload_n 0, 1) := by decide +kernel
theorem dX8_remove_88 : decode cX8_remove 88 = .ok (.getfield 114, 3) := by decide +kernel
theorem dX8_remove_91 : decode cX8_remove 91 = .ok (.iconst 1, 1) := by decide +kernel
theorem dX8_remove_92 : decode cX8_remove 92 = .ok (.invokevirtual 120, 3) := by decide +kernel
theorem dX8_remove_95 : decode cX8_remove 95 = .ok (.ifCond .ne 6, 3) := by decide +kernel
theorem dX8_remove_98 : decode cX8_remove 98 = .ok (.bipush (-3), 2) := by decide +kernel
theorem dX8_remove_100 : decode cX8_remove 100 = .ok (.ireturn, 1) := by decide +kernel
theorem dX8_remove_101 : decode cX8_remove 101 = .ok (.aload_n 0, 1) := by decide +kernel
theorem dX8_remove_102 : decode cX8_remove 102 = .ok (.iload_n 3, 1) := by decide +kernel
theorem dX8_remove_103 : decode cX8_remove 103 = .ok (.invokevirtual 69, 3) := by decide +kernel
theorem dX8_remove_106 : decode cX8_remove 106 = .ok (.ifCond .gt 19, 3) := by decide +kernel
theorem dX8_remove_109 : decode cX8_remove 109 = .ok (.iload_n 3, 1) := by decide +kernel
theorem dX8_remove_110 : decode cX8_remove 110 = .ok (.aload_n 0, 1) := by decide +kernel
theorem dX8_remove_111 : decode cX8_remove 111 = .ok (.getfield 108, 3) := by decide +kernel
theorem dX8_remove_114 : decode cX8_remove 114 = .ok (.if_icmp .eq 11, 3) := by decide +kernel
theorem dX8_remove_117 : decode cX8_remove 117 = .ok (.iload_n 3, 1) := by decide +kernel
theorem dX8_remove_118 : decode cX8_remove 118 = .ok (.aload_n 0, 1) := by decide +kernel
theorem dX8_remove_119 : decode cX8_remove 119 = .ok (.getfield 111, 3) := by decide +kernel
theorem dX8_remove_122 : decode cX8_remove 122 = .ok (.if_icmp .ne 6, 3) := by decide +kernel
theorem dX8_remove_125 : decode cX8_remove 125 = .ok (.bipush (-7), 2) := by decide +kernel
theorem dX8_remove_127 : decode cX8_remove 127 = .ok (.ireturn, 1) := by decide +kernel
theorem dX8_remove_128 : decode cX8_remove 128 = .ok (.aload_n 0, 1) := by decide +kernel
theorem dX8_remove_129 : decode cX8_remove 129 = .ok (.getfield 7, 3) := by decide +kernel
theorem dX8_remove_132 : decode cX8_remove 132 = .ok (.iload_n 3, 1) := by decide +kernel
theorem dX8_remove_133 : decode cX8_remove 133 = .ok (.iaload, 1) := by decide +kernel
theorem dX8_remove_134 : decode cX8_remove 134 = .ok (.iconst 1, 1) := by decide +kernel
theorem dX8_remove_135 : decode cX8_remove 135 = .ok (.if_icmp .ne 14, 3) := by decide +kernel
theorem dX8_remove_138 : decode cX8_remove 138 = .ok (.aload_n 0, 1) := by decide +kernel
theorem dX8_remove_139 : decode cX8_remove 139 = .ok (.iload_n 3, 1) := by decide +kernel
theorem dX8_remove_140 : decode cX8_remove 140 = .ok (.invokevirtual 180, 3) := by decide +kernel
theorem dX8_remove_143 : decode cX8_remove 143 = .ok (.ifCond .le 6, 3) := by decide +kernel
theorem dX8_remove_146 : decode cX8_remove 146 = .ok (.bipush (-8), 2) := by decide +kernel
theorem dX8_remove_148 : decode cX8_remove 148 = .ok (.ireturn, 1) := by decide +kernel
theorem dX8_remove_149 : decode cX8_remove 149 = .ok (.aload_n 0, 1) := by decide +kernel
theorem dX8_remove_150 : decode cX8_remove 150 = .ok (.aload_n 0, 1) := by decide +kernel
theorem dX8_remove_151 : decode cX8_remove 151 = .ok (.getfield 82, 3) := by decide +kernel
theorem dX8_remove_154 : decode cX8_remove 154 = .ok (.iconst 1, 1) := by decide +kernel
theorem dX8_remove_155 : decode cX8_remove 155 = .ok (.isub, 1) := by decide +kernel
theorem dX8_remove_156 : decode cX8_remove 156 = .ok (.putfield 82, 3) := by decide +kernel
theorem dX8_remove_159 : decode cX8_remove 159 = .ok (.iload_n 2, 1) := by decide +kernel
theorem dX8_remove_160 : decode cX8_remove 160 = .ok (.istore 4, 2) := by decide +kernel
theorem dX8_remove_162 : decode cX8_remove 162 = .ok (.iload 4, 2) := by decide +kernel
theorem dX8_remove_164 : decode cX8_remove 164 = .ok (.aload_n 0, 1) := by decide +kernel
theorem dX8_remove_165 : decode cX8_remove 165 = .ok (.getfield 82, 3) := by decide +kernel
theorem dX8_remove_168 : decode cX8_remove 168 = .ok (.if_icmp .ge 57, 3) := by decide +kernel
theorem dX8_remove_171 : decode cX8_remove 171 = .ok (.aload_n 0, 1) := by decide +kernel
theorem dX8_remove_172 : decode cX8_remove 172 = .ok (.getfield 31, 3) := by decide +kernel
theorem dX8_remove_175 : decode cX8_remove 175 = .ok (.iload 4, 2) := by decide +kernel
theorem dX8_remove_177 : decode cX8_remove 177 = .ok (.aload_n 0, 1) := by decide +kernel
theorem dX8_remove_178 : decode cX8_remove 178 = .ok (.getfield 31, 3) := by decide +kernel
theorem dX8_remove_181 : decode cX8_remove 181 = .ok (.iload 4, 2) := by decide +kernel
theorem dX8_remove_183 : decode cX8_remove 183 = .ok (.iconst 1, 1) := by decide +kernel
theorem dX8_remove_184 : decode cX8_remove 184 = .ok (.iadd, 1) := by decide +kernel
theorem dX8_remove_185 : decode cX8_remove 185 = .ok (.iaload, 1) := by decide +kernel
theorem dX8_remove_186 : decode cX8_remove 186 = .ok (.iastore, 1) := by decide +kernel
theorem dX8_remove_187 : decode cX8_remove 187 = .ok (.aload_n 0, 1) := by decide +kernel
theorem dX8_remove_188 : decode cX8_remove 188 = .ok (.getfield 34, 3) := by decide +kernel
theorem dX8_remove_191 : decode cX8_remove 191 = .ok (.iload 4, 2) := by decide +kernel
theorem dX8_remove_193 : decode cX8_remove 193 = .ok (.aload_n 0, 1) := by decide +kernel
theorem dX8_remove_194 : decode cX8_remove 194 = .ok (.getfield 34, 3) := by decide +kernel
theorem dX8_remove_197 : decode cX8_remove 197 = .ok (.iload 4, 2) := by decide +kernel
theorem dX8_remove_199 : decode cX8_remove 199 = .ok (.iconst 1, 1) := by decide +kernel
theorem dX8_remove_200 : decode cX8_remove 200 = .ok (.iadd, 1) := by decide +kernel
theorem dX8_remove_201 : decode cX8_remove 201 = .ok (.laload, 1) := by decide +kernel
theorem dX8_remove_202 : decode cX8_remove 202 = .ok (.lastore, 1) := by decide +kernel
theorem dX8_remove_203 : decode cX8_remove 203 = .ok (.aload_n 0, 1) := by decide +kernel
theorem dX8_remove_204 : decode cX8_remove 204 = .ok (.getfield 38, 3) := by decide +kernel
theorem dX8_remove_207 : decode cX8_remove 207 = .ok (.iload 4, 2) := by decide +kernel
theorem dX8_remove_209 : decode cX8_remove 209 = .ok (.aload_n 0, 1) := by decide +kernel
theorem dX8_remove_210 : decode cX8_remove 210 = .ok (.getfield 38, 3) := by decide +kernel
theorem dX8_remove_213 : decode cX8_remove 213 = .ok (.iload 4, 2) := by decide +kernel
theorem dX8_remove_215 : decode cX8_remove 215 = .ok (.iconst 1, 1) := by decide +kernel
theorem dX8_remove_216 : decode cX8_remove 216 = .ok (.iadd, 1) := by decide +kernel
theorem dX8_remove_217 : decode cX8_remove 217 = .ok (.iaload, 1) := by decide +kernel
theorem dX8_remove_218 : decode cX8_remove 218 = .ok (.iastore, 1) := by decide +kernel
theorem dX8_remove_219 : decode cX8_remove 219 = .ok (.iinc 4 1, 3) := by decide +kernel
theorem dX8_remove_222 : decode cX8_remove 222 = .ok (.goto (-60), 3) := by decide +kernel
theorem dX8_remove_225 : decode cX8_remove 225 = .ok (.aload_n 0, 1) := by decide +kernel
theorem dX8_remove_226 : decode cX8_remove 226 = .ok (.getfield 7, 3) := by decide +kernel
theorem dX8_remove_229 : decode cX8_remove 229 = .ok (.iload_n 3, 1) := by decide +kernel
theorem dX8_remove_230 : decode cX8_remove 230 = .ok (.aload_n 0, 1) := by decide +kernel
theorem dX8_remove_231 : decode cX8_remove 231 = .ok (.iload_n 3, 1) := by decide +kernel
theorem dX8_remove_232 : decode cX8_remove 232 = .ok (.invokevirtual 183, 3) := by decide +kernel
theorem dX8_remove_235 : decode cX8_remove 235 = .ok (.ifCond .ne 7, 3) := by decide +kernel
theorem dX8_remove_238 : decode cX8_remove 238 = .ok (.iconst 0, 1) := by decide +kernel
theorem dX8_remove_239 : decode cX8_remove 239 = .ok (.goto 9, 3) := by decide +kernel
theorem dX8_remove_242 : decode cX8_remove 242 = .ok (.aload_n 0, 1) := by decide +kernel
theorem dX8_remove_243 : decode cX8_remove 243 = .ok (.getfield 7, 3) := by decide +kernel
theorem dX8_remove_246 : decode cX8_remove 246 = .ok (.iload_n 3, 1) := by decide +kernel
theorem dX8_remove_247 : decode cX8_remove 247 = .ok (.iaload, 1) := by decide +kernel
theorem dX8_remove_248 : decode cX8_remove 248 = .ok (.iastore, 1) := by decide +kernel
theorem dX8_remove_249 : decode cX8_remove 249 = .ok (.iload_n 3, 1) := by decide +kernel
theorem dX8_remove_250 : decode cX8_remove 250 = .ok (.ireturn, 1) := by decide +kernel
theorem dX8_volume_0 : decode cX8_volume 0 = .ok (.aload_n 0, 1) := by decide +kernel
theorem dX8_volume_1 : decode cX8_volume 1 = .ok (.invokevirtual 174, 3) := by decide +kernel
theorem dX8_volume_4 : decode cX8_volume 4 = .ok (.istore_n 1, 1) := by decide +kernel
theorem dX8_volume_5 : decode cX8_volume 5 = .ok (.aload_n 0, 1) := by decide +kernel
theorem dX8_volume_6 : decode cX8_volume 6 = .ok (.getfield 41, 3) := by decide +kernel
theorem dX8_volume_9 : decode cX8_volume 9 = .ok (.iconst 4, 1) := by decide +kernel
theorem dX8_volume_10 : decode cX8_volume 10 = .ok (.if_icmp .eq 9, 3) := by decide +kernel
theorem dX8_volume_13 : decode cX8_volume 13 = .ok (.iload_n 1, 1) := by decide +kernel
theorem dX8_volume_14 : decode cX8_volume 14 = .ok (.bipush 40, 2) := by decide +kernel
theorem dX8_volume_16 : decode cX8_volume 16 = .ok (.if_icmp .ne 6, 3) := by decide +kernel
theorem dX8_volume_19 : decode cX8_volume 19 = .ok (.bipush (-10), 2) := by decide +kernel
theorem dX8_volume_21 : decode cX8_volume 21 = .ok (.ireturn, 1) := by decide +kernel
theorem dX8_volume_22 : decode cX8_volume 22 = .ok (.aload_n 0, 1) := by decide +kernel
theorem dX8_volume_23 : decode cX8_volume 23 = .ok (.getfield 7, 3) := by decide +kernel
theorem dX8_volume_26 : decode cX8_volume 26 = .ok (.iload_n 1, 1) := by decide +kernel
theorem dX8_volume_27 : decode cX8_volume 27 = .ok (.iconst 1, 1) := by decide +kernel
theorem dX8_volume_28 : decode cX8_volume 28 = .ok (.iastore, 1) := by decide +kernel
theorem dX8_volume_29 : decode cX8_volume 29 = .ok (.aload_n 0, 1) := by decide +kernel
theorem dX8_volume_30 : decode cX8_volume 30 = .ok (.getfield 13, 3) := by decide +kernel
theorem dX8_volume_33 : decode cX8_volume 33 = .ok (.iload_n 1, 1) := by decide +kernel
theorem dX8_volume_34 : decode cX8_volume 34 = .ok (.bipush 15, 2) := by decide +kernel
theorem dX8_volume_36 : decode cX8_volume 36 = .ok (.iastore, 1) := by decide +kernel
theorem dX8_volume_37 : decode cX8_volume 37 = .ok (.aload_n 0, 1) := by decide +kernel
theorem dX8_volume_38 : decode cX8_volume 38 = .ok (.getfield 16, 3) := by decide +kernel
theorem dX8_volume_41 : decode cX8_volume 41 = .ok (.iload_n 1, 1) := by decide +kernel
theorem dX8_volume_42 : decode cX8_volume 42 = .ok (.iconst 0, 1) := by decide +kernel
theorem dX8_volume_43 : decode cX8_volume 43 = .ok (.iastore, 1) := by decide +kernel
theorem dX8_volume_44 : decode cX8_volume 44 = .ok (.aload_n 0, 1) := by decide +kernel
theorem dX8_volume_45 : decode cX8_volume 45 = .ok (.getfield 19, 3) := by decide +kernel
theorem dX8_volume_48 : decode cX8_volume 48 = .ok (.iload_n 1, 1) := by decide +kernel
theorem dX8_volume_49 : decode cX8_volume 49 = .ok (.aload_n 0, 1) := by decide +kernel
theorem dX8_volume_50 : decode cX8_volume 50 = .ok (.getfield 41, 3) := by decide +kernel
theorem dX8_volume_53 : decode cX8_volume 53 = .ok (.iastore, 1) := by decide +kernel
theorem dX8_volume_54 : decode cX8_volume 54 = .ok (.aload_n 0, 1) := by decide +kernel
theorem dX8_volume_55 : decode cX8_volume 55 = .ok (.getfield 22, 3) := by decide +kernel
theorem dX8_volume_58 : decode cX8_volume 58 = .ok (.iload_n 1, 1) := by decide +kernel
theorem dX8_volume_59 : decode cX8_volume 59 = .ok (.iload_n 1, 1) := by decide +kernel
theorem dX8_volume_60 : decode cX8_volume 60 = .ok (.iastore, 1) := by decide +kernel
theorem dX8_volume_61 : decode cX8_volume 61 = .ok (.aload_n 0, 1) := by decide +kernel
theorem dX8_volume_62 : decode cX8_volume 62 = .ok (.getfield 45, 3) := by decide +kernel
theorem dX8_volume_65 : decode cX8_volume 65 = .ok (.aload_n 0, 1) := by decide +kernel
theorem dX8_volume_66 : decode cX8_volume 66 = .ok (.getfield 41, 3) := by decide +kernel
theorem dX8_volume_69 : decode cX8_volume 69 = .ok (.iload_n 1, 1) := by decide +kernel
theorem dX8_volume_70 : decode cX8_volume 70 = .ok (.iastore, 1) := by decide +kernel
theorem dX8_volume_71 : decode cX8_volume 71 = .ok (.aload_n 0, 1) := by decide +kernel
theorem dX8_volume_72 : decode cX8_volume 72 = .ok (.aload_n 0, 1) := by decide +kernel
theorem dX8_volume_73 : decode cX8_volume 73 = .ok (.getfield 41, 3) := by decide +kernel
theorem dX8_volume_76 : decode cX8_volume 76 = .ok (.iconst 1, 1) := by decide +kernel
theorem dX8_volume_77 : decode cX8_volume 77 = .ok (.iadd, 1) := by decide +kernel
theorem dX8_volume_78 : decode cX8_volume 78 = .ok (.putfield 41, 3) := by decide +kernel
theorem dX8_volume_81 : decode cX8_volume 81 = .ok (.aload_n 0, 1) := by decide +kernel
theorem dX8_volume_82 : decode cX8_volume 82 = .ok (.getfield 41, 3) := by decide +kernel
theorem dX8_volume_85 : decode cX8_volume 85 = .ok (.iconst 1, 1) := by decide +kernel
theorem dX8_volume_86 : decode cX8_volume 86 = .ok (.isub, 1) := by decide +kernel
theorem dX8_volume_87 : decode cX8_volume 87 = .ok (.ireturn, 1) := by decide +kernel
theorem dX8_below_0 : decode cX8_below 0 = .ok (.iload_n 1, 1) := by decide +kernel
theorem dX8_below_1 : decode cX8_below 1 = .ok (.istore_n 3, 1) := by decide +kernel
theorem dX8_below_2 : decode cX8_below 2 = .ok (.iconst 0, 1) := by decide +kernel
theorem dX8_below_3 : decode cX8_below 3 = .ok (.istore 4, 2) := by decide +kernel
theorem dX8_below_5 : decode cX8_below 5 = .ok (.iload 4, 2) := by decide +kernel
theorem dX8_below_7 : decode cX8_below 7 = .ok (.bipush 50, 2) := by decide +kernel
theorem dX8_below_9 : decode cX8_below 9 = .ok (.if_icmp .ge 25, 3) := by decide +kernel
theorem dX8_below_12 : decode cX8_below 12 = .ok (.iload_n 3, 1) := by decide +kernel
theorem dX8_below_13 : decode cX8_below 13 = .ok (.iload_n 2, 1) := by decide +kernel
theorem dX8_below_14 : decode cX8_below 14 = .ok (.if_icmp .eq 20, 3) := by decide +kernel
theorem dX8_below_17 : decode cX8_below 17 = .ok (.iload_n 3, 1) := by decide +kernel
theorem dX8_below_18 : decode cX8_below 18 = .ok (.ifCond .eq 16, 3) := by decide +kernel
theorem dX8_below_21 : decode cX8_below 21 = .ok (.aload_n 0, 1) := by decide +kernel
theorem dX8_below_22 : decode cX8_below 22 = .ok (.iload_n 3, 1) := by decide +kernel
theorem dX8_below_23 : decode cX8_below 23 = .ok (.iconst 0, 1) := by decide +kernel
theorem dX8_below_24 : decode cX8_below 24 = .ok (.invokevirtual 126, 3) := by decide +kernel
theorem dX8_below_27 : decode cX8_below 27 = .ok (.istore_n 3, 1) := by decide +kernel
theorem dX8_below_28 : decode cX8_below 28 = .ok (.iinc 4 1, 3) := by decide +kernel
theorem dX8_below_31 : decode cX8_below 31 = .ok (.goto (-26), 3) := by decide +kernel
theorem dX8_below_34 : decode cX8_below 34 = .ok (.iload_n 3, 1) := by decide +kernel
theorem dX8_below_35 : decode cX8_below 35 = .ok (.iload_n 2, 1) := by decide +kernel
theorem dX8_below_36 : decode cX8_below 36 = .ok (.if_icmp .ne 7, 3) := by decide +kernel
theorem dX8_below_39 : decode cX8_below 39 = .ok (.iconst 1, 1) := by decide +kernel
theorem dX8_below_40 : decode cX8_below 40 = .ok (.goto 4, 3) := by decide +kernel
theorem dX8_below_43 : decode cX8_below 43 = .ok (.iconst 0, 1) := by decide +kernel
theorem dX8_below_44 : decode cX8_below 44 = .ok (.ireturn, 1) := by decide +kernel
theorem dX8_mount_0 : decode cX8_mount 0 = .ok (.iload_n 1, 1) := by decide +kernel
theorem dX8_mount_1 : decode cX8_mount 1 = .ok (.iconst 1, 1) := by decide +kernel
theorem dX8_mount_2 : decode cX8_mount 2 = .ok (.if_icmp .lt 11, 3) := by decide +kernel
theorem dX8_mount_5 : decode cX8_mount 5 = .ok (.iload_n 1, 1) := by decide +kernel
theorem dX8_mount_6 : decode cX8_mount 6 = .ok (.aload_n 0, 1) := by decide +kernel
theorem dX8_mount_7 : decode cX8_mount 7 = .ok (.getfield 41, 3) := by decide +kernel
theorem dX8_mount_10 : decode cX8_mount 10 = .ok (.if_icmp .lt 6, 3) := by decide +kernel
theorem dX8_mount_13 : decode cX8_mount 13 = .ok (.bipush (-11), 2) := by decide +kernel
theorem dX8_mount_15 : decode cX8_mount 15 = .ok (.ireturn, 1) := by decide +kernel
theorem dX8_mount_16 : decode cX8_mount 16 = .ok (.aload_n 0, 1) := by decide +kernel
theorem dX8_mount_17 : decode cX8_mount 17 = .ok (.getfield 66, 3) := by decide +kernel
theorem dX8_mount_20 : decode cX8_mount 20 = .ok (.ifCond .eq 6, 3) := by decide +kernel
theorem dX8_mount_23 : decode cX8_mount 23 = .ok (.bipush (-3), 2) := by decide +kernel
theorem dX8_mount_25 : decode cX8_mount 25 = .ok (.ireturn, 1) := by decide +kernel
theorem dX8_mount_26 : decode cX8_mount 26 = .ok (.aload_n 0, 1) := by decide +kernel
theorem dX8_mount_27 : decode cX8_mount 27 = .ok (.getfield 48, 3) := by decide +kernel
theorem dX8_mount_30 : decode cX8_mount 30 = .ok (.iload_n 1, 1) := by decide +kernel
theorem dX8_mount_31 : decode cX8_mount 31 = .ok (.iaload, 1) := by decide +kernel
theorem dX8_mount_32 : decode cX8_mount 32 = .ok (.ifCond .lt 6, 3) := by decide +kernel
theorem dX8_mount_35 : decode cX8_mount 35 = .ok (.bipush (-7), 2) := by decide +kernel
theorem dX8_mount_37 : decode cX8_mount 37 = .ok (.ireturn, 1) := by decide +kernel
theorem dX8_mount_38 : decode cX8_mount 38 = .ok (.aload_n 0, 1) := by decide +kernel
theorem dX8_mount_39 : decode cX8_mount 39 = .ok (.iconst 0, 1) := by decide +kernel
theorem dX8_mount_40 : decode cX8_mount 40 = .ok (.iconst 1, 1) := by decide +kernel
theorem dX8_mount_41 : decode cX8_mount 41 = .ok (.invokevirtual 157, 3) := by decide +kernel
theorem dX8_mount_44 : decode cX8_mount 44 = .ok (.istore_n 2, 1) := by decide +kernel
theorem dX8_mount_45 : decode cX8_mount 45 = .ok (.iload_n 2, 1) := by decide +kernel
theorem dX8_mount_46 : decode cX8_mount 46 = .ok (.ifCond .ge 5, 3) := by decide +kernel
theorem dX8_mount_49 : decode cX8_mount 49 = .ok (.iload_n 2, 1) := by decide +kernel
theorem dX8_mount_50 : decode cX8_mount 50 = .ok (.ireturn, 1) := by decide +kernel
theorem dX8_mount_51 : decode cX8_mount 51 = .ok (.aload_n 0, 1) := by decide +kernel
theorem dX8_mount_52 : decode cX8_mount 52 = .ok (.getfield 7, 3) := by decide +kernel
theorem dX8_mount_55 : decode cX8_mount 55 = .ok (.iload_n 2, 1) := by decide +kernel
theorem dX8_mount_56 : decode cX8_mount 56 = .ok (.iaload, 1) := by decide +kernel
theorem dX8_mount_57 : decode cX8_mount 57 = .ok (.iconst 1, 1) := by decide +kernel
theorem dX8_mount_58 : decode cX8_mount 58 = .ok (.if_icmp .eq 6, 3) := by decide +kernel
theorem dX8_mount_61 : decode cX8_mount 61 = .ok (.bipush (-2), 2) := by decide +kernel
theorem dX8_mount_63 : decode cX8_mount 63 = .ok (.ireturn, 1) := by decide +kernel
theorem dX8_mount_64 : decode cX8_mount 64 = .ok (.aload_n 0, 1) := by decide +kernel
theorem dX8_mount_65 : decode cX8_mount 65 = .ok (.aload_n 0, 1) := by decide +kernel
theorem dX8_mount_66 : decode cX8_mount 66 = .ok (.getfield 108, 3) := by decide +kernel
theorem dX8_mount_69 : decode cX8_mount 69 = .ok (.iload_n 2, 1) := by decide +kernel
theorem dX8_mount_70 : decode cX8_mount 70 = .ok (.invokevirtual 186, 3) := by decide +kernel
theorem dX8_mount_73 : decode cX8_mount 73 = .ok (.ifCond .ne 15, 3) := by decide +kernel
theorem dX8_mount_76 : decode cX8_mount 76 = .ok (.aload_n 0, 1) := by decide +kernel
theorem dX8_mount_77 : decode cX8_mount 77 = .ok (.aload_n 0, 1) := by decide +kernel
theorem dX8_mount_78 : decode cX8_mount 78 = .ok (.getfield 111, 3) := by decide +kernel
theorem dX8_mount_81 : decode cX8_mount 81 = .ok (.iload_n 2, 1) := by decide +kernel
theorem dX8_mount_82 : decode cX8_mount 82 = .ok (.invokevirtual 186, 3) := by decide +kernel
theorem dX8_mount_85 : decode cX8_mount 85 = .ok (.ifCond .eq 6, 3) := by decide +kernel
theorem dX8_mount_88 : decode cX8_mount 88 = .ok (.bipush (-7), 2) := by decide +kernel
theorem dX8_mount_90 : decode cX8_mount 90 = .ok (.ireturn, 1) := by decide +kernel
theorem dX8_mount_91 : decode cX8_mount 91 = .ok (.aload_n 0, 1) := by decide +kernel
theorem dX8_mount_92 : decode cX8_mount 92 = .ok (.getfield 48, 3) := by decide +kernel
theorem dX8_mount_95 : decode cX8_mount 95 = .ok (.iload_n 1, 1) := by decide +kernel
theorem dX8_mount_96 : decode cX8_mount 96 = .ok (.iload_n 2, 1) := by decide +kernel
theorem dX8_mount_97 : decode cX8_mount 97 = .ok (.iastore, 1) := by decide +kernel
theorem dX8_mount_98 : decode cX8_mount 98 = .ok (.iload_n 2, 1) := by decide +kernel
theorem dX8_mount_99 : decode cX8_mount 99 = .ok (.ireturn, 1) := by decide +kernel
theorem dX8_unmount_0 : decode cX8_unmount 0 = .ok (.aload_n 0, 1) := by decide +kernel
theorem dX8_unmount_1 : decode cX8_unmount 1 = .ok (.getfield 66, 3) := by decide +kernel
theorem dX8_unmount_4 : decode cX8_unmount 4 = .ok (.ifCond .eq 6, 3) := by decide +kernel
theorem dX8_unmount_7 : decode cX8_unmount 7 = .ok (.bipush (-3), 2) := by decide +kernel
theorem dX8_unmount_9 : decode cX8_unmount 9 = .ok (.ireturn, 1) := by decide +kernel
theorem dX8_unmount_10 : decode cX8_unmount 10 = .ok (.aload_n 0, 1) := by decide +kernel
theorem dX8_unmount_11 : decode cX8_unmount 11 = .ok (.iconst 0, 1) := by decide +kernel
theorem dX8_unmount_12 : decode cX8_unmount 12 = .ok (.iconst 1, 1) := by decide +kernel
theorem dX8_unmount_13 : decode cX8_unmount 13 = .ok (.invokevirtual 157, 3) := by decide +kernel
theorem dX8_unmount_16 : decode cX8_unmount 16 = .ok (.istore_n 1, 1) := by decide +kernel
theorem dX8_unmount_17 : decode cX8_unmount 17 = .ok (.iload_n 1, 1) := by decide +kernel
theorem dX8_unmount_18 : decode cX8_unmount 18 = .ok (.ifCond .ge 5, 3) := by decide +kernel
theorem dX8_unmount_21 : decode cX8_unmount 21 = .ok (.iload_n 1, 1) := by decide +kernel
theorem dX8_unmount_22 : decode cX8_unmount 22 = .ok (.ireturn, 1) := by decide +kernel
theorem dX8_unmount_23 : decode cX8_unmount 23 = .ok (.aload_n 0, 1) := by decide +kernel
theorem dX8_unmount_24 : decode cX8_unmount 24 = .ok (.iload_n 1, 1) := by decide +kernel
theorem dX8_unmount_25 : decode cX8_unmount 25 = .ok (.invokevirtual 73, 3) := by decide +kernel
theorem dX8_unmount_28 : decode cX8_unmount 28 = .ok (.istore_n 2, 1) := by decide +kernel
theorem dX8_unmount_29 : decode cX8_unmount 29 = .ok (.iload_n 2, 1) := by decide +kernel
theorem dX8_unmount_30 : decode cX8_unmount 30 = .ok (.ifCond .ne 6, 3) := by decide +kernel
theorem dX8_unmount_33 : decode cX8_unmount 33 = .ok (.bipush (-11), 2) := by decide +kernel
theorem dX8_unmount_35 : decode cX8_unmount 35 = .ok (.ireturn, 1) := by decide +kernel
theorem dX8_unmount_36 : decode cX8_unmount 36 = .ok (.aload_n 0, 1) := by decide +kernel
theorem dX8_unmount_37 : decode cX8_unmount 37 = .ok (.getfield 19, 3) := by decide +kernel
theorem dX8_unmount_40 : decode cX8_unmount 40 = .ok (.aload_n 0, 1) := by decide +kernel
theorem dX8_unmount_41 : decode cX8_unmount 41 = .ok (.getfield 108, 3) := by decide +kernel
theorem dX8_unmount_44 : decode cX8_unmount 44 = .ok (.iaload, 1) := by decide +kernel
theorem dX8_unmount_45 : decode cX8_unmount 45 = .ok (.iload_n 2, 1) := by decide +kernel
theorem dX8_unmount_46 : decode cX8_unmount 46 = .ok (.if_icmp .eq 16, 3) := by decide +kernel
theorem dX8_unmount_49 : decode cX8_unmount 49 = .ok (.aload_n 0, 1) := by decide +kernel
theorem dX8_unmount_50 : decode cX8_unmount 50 = .ok (.getfield 19, 3) := by decide +kernel
theorem dX8_unmount_53 : decode cX8_unmount 53 = .ok (.aload_n 0, 1) := by decide +kernel
theorem dX8_unmount_54 : decode cX8_unmount 54 = .ok (.getfield 111, 3) := by decide +kernel
theorem dX8_unmount_57 : decode cX8_unmount 57 = .ok (.iaload, 1) := by decide +kernel
theorem dX8_unmount_58 : decode cX8_unmount 58 = .ok (.iload_n 2, 1) := by decide +kernel
theorem dX8_unmount_59 : decode cX8_unmount 59 = .ok (.if_icmp .ne 7, 3) := by decide +kernel
theorem dX8_unmount_62 : decode cX8_unmount 62 = .ok (.iconst 1, 1) := by decide +kernel
theorem dX8_unmount_63 : decode cX8_unmount 63 = .ok (.goto 4, 3) := by decide +kernel
theorem dX8_unmount_66 : decode cX8_unmount 66 = .ok (.iconst 0, 1) := by decide +kernel
theorem dX8_unmount_67 : decode cX8_unmount 67 = .ok (.istore_n 3, 1) := by decide +kernel
theorem dX8_unmount_68 : decode cX8_unmount 68 = .ok (.iconst 1, 1) := by decide +kernel
theorem dX8_unmount_69 : decode cX8_unmount 69 = .ok (.istore 4, 2) := by decide +kernel
theorem dX8_unmount_71 : decode cX8_unmount 71 = .ok (.iload 4, 2) := by decide +kernel
theorem dX8_unmount_73 : decode cX8_unmount 73 = .ok (.aload_n 0, 1) := by decide +kernel
theorem dX8_unmount_74 : decode cX8_unmount 74 = .ok (.getfield 41, 3) := by decide +kernel
theorem dX8_unmount_77 : decode cX8_unmount 77 = .ok (.if_icmp .ge 45, 3) := by decide +kernel
theorem dX8_unmount_80 : decode cX8_unmount 80 = .ok (.iload_n 3, 1) := by decide +kernel
theorem dX8_unmount_81 : decode cX8_unmount 81 = .ok (.ifCond .ne 29, 3) := by decide +kernel
theorem dX8_unmount_84 : decode cX8_unmount 84 = .ok (.aload_n 0, 1) := by decide +kernel
theorem dX8_unmount_85 : decode cX8_unmount 85 = .ok (.getfield 48, 3) := by decide +kernel
theorem dX8_unmount_88 : decode cX8_unmount 88 = .ok (.iload 4, 2) := by decide +kernel
theorem dX8_unmount_90 : decode cX8_unmount 90 = .ok (.iaload, 1) := by decide +kernel
theorem dX8_unmount_91 : decode cX8_unmount 91 = .ok (.ifCond .lt 23, 3) := by decide +kernel
theorem dX8_unmount_94 : decode cX8_unmount 94 = .ok (.aload_n 0, 1) := by decide +kernel
theorem dX8_unmount_95 : decode cX8_unmount 95 = .ok (.getfield 19, 3) := by decide +kernel
theorem dX8_unmount_98 : decode cX8_unmount 98 = .ok (.aload_n 0, 1) := by decide +kernel
theorem dX8_unmount_99 : decode cX8_unmount 99 = .ok (.getfield 48, 3) := by decide +kernel
theorem dX8_unmount_102 : decode cX8_unmount 102 = .ok (.iload 4, 2) := by decide +kernel
theorem dX8_unmount_104 : decode cX8_unmount 104 = .ok (.iaload, 1) := by decide +kernel
theorem dX8_unmount_105 : decode cX8_unmount 105 = .ok (.iaload, 1) := by decide +kernel
theorem dX8_unmount_106 : decode cX8_unmount 106 = .ok (.iload_n 2, 1) := by decide +kernel
theorem dX8_unmount_107 : decode cX8_unmount 107 = .ok (.if_icmp .ne 7, 3) := by decide +kernel
theorem dX8_unmount_110 : decode cX8_unmount 110 = .ok (.iconst 1, 1) := by decide +kernel
theorem dX8_unmount_111 : decode cX8_unmount 111 = .ok (.goto 4, 3) := by decide +kernel
theorem dX8_unmount_114 : decode cX8_unmount 114 = .ok (.iconst 0, 1) := by decide +kernel
theorem dX8_unmount_115 : decode cX8_unmount 115 = .ok (.istore_n 3, 1) := by decide +kernel
theorem dX8_unmount_116 : decode cX8_unmount 116 = .ok (.iinc 4 1, 3) := by decide +kernel
theorem dX8_unmount_119 : decode cX8_unmount 119 = .ok (.goto (-48), 3) := by decide +kernel
theorem dX8_unmount_122 : decode cX8_unmount 122 = .ok (.iload_n 3, 1) := by decide +kernel
theorem dX8_unmount_123 : decode cX8_unmount 123 = .ok (.ifCond .eq 6, 3) := by decide +kernel
theorem dX8_unmount_126 : decode cX8_unmount 126 = .ok (.bipush (-7), 2) := by decide +kernel
theorem dX8_unmount_128 : decode cX8_unmount 128 = .ok (.ireturn, 1) := by decide +kernel
theorem dX8_unmount_129 : decode cX8_unmount 129 = .ok (.aload_n 0, 1) := by decide +kernel
theorem dX8_unmount_130 : decode cX8_unmount 130 = .ok (.getfield 48, 3) := by decide +kernel
theorem dX8_unmount_133 : decode cX8_unmount 133 = .ok (.iload_n 2, 1) := by decide +kernel
theorem dX8_unmount_134 : decode cX8_unmount 134 = .ok (.iconst (-1), 1) := by decide +kernel
theorem dX8_unmount_135 : decode cX8_unmount 135 = .ok (.iastore, 1) := by decide +kernel
theorem dX8_unmount_136 : decode cX8_unmount 136 = .ok (.iload_n 2, 1) := by decide +kernel
theorem dX8_unmount_137 : decode cX8_unmount 137 = .ok (.ireturn, 1) := by decide +kernel
theorem dX8_enter_0 : decode cX8_enter 0 = .ok (.aload_n 0, 1) := by decide +kernel
theorem dX8_enter_1 : decode cX8_enter 1 = .ok (.iconst 0, 1) := by decide +kernel
theorem dX8_enter_2 : decode cX8_enter 2 = .ok (.iconst 1, 1) := by decide +kernel
theorem dX8_enter_3 : decode cX8_enter 3 = .ok (.invokevirtual 157, 3) := by decide +kernel
theorem dX8_enter_6 : decode cX8_enter 6 = .ok (.istore_n 2, 1) := by decide +kernel
theorem dX8_enter_7 : decode cX8_enter 7 = .ok (.iload_n 2, 1) := by decide +kernel
theorem dX8_enter_8 : decode cX8_enter 8 = .ok (.ifCond .ge 5, 3) := by decide +kernel
theorem dX8_enter_11 : decode cX8_enter 11 = .ok (.iload_n 2, 1) := by decide +kernel
theorem dX8_enter_12 : decode cX8_enter 12 = .ok (.ireturn, 1) := by decide +kernel
theorem dX8_enter_13 : decode cX8_enter 13 = .ok (.aload_n 0, 1) := by decide +kernel
theorem dX8_enter_14 : decode cX8_enter 14 = .ok (.getfield 7, 3) := by decide +kernel
theorem dX8_enter_17 : decode cX8_enter 17 = .ok (.iload_n 2, 1) := by decide +kernel
theorem dX8_enter_18 : decode cX8_enter 18 = .ok (.iaload, 1) := by decide +kernel
theorem dX8_enter_19 : decode cX8_enter 19 = .ok (.iconst 1, 1) := by decide +kernel
theorem dX8_enter_20 : decode cX8_enter 20 = .ok (.if_icmp .eq 6, 3) := by decide +kernel
theorem dX8_enter_23 : decode cX8_enter 23 = .ok (.bipush (-2), 2) := by decide +kernel
theorem dX8_enter_25 : decode cX8_enter 25 = .ok (.ireturn, 1) := by decide +kernel
theorem dX8_enter_26 : decode cX8_enter 26 = .ok (.aload_n 0, 1) := by decide +kernel
theorem dX8_enter_27 : decode cX8_enter 27 = .ok (.iload_n 2, 1) := by decide +kernel
theorem dX8_enter_28 : decode cX8_enter 28 = .ok (.iconst 0, 1) := by decide +kernel
theorem dX8_enter_29 : decode cX8_enter 29 = .ok (.invokevirtual 120, 3) := by decide +kernel
theorem dX8_enter_32 : decode cX8_enter 32 = .ok (.ifCond .ne 6, 3) := by decide +kernel
theorem dX8_enter_35 : decode cX8_enter 35 = .ok (.bipush (-3), 2) := by decide +kernel
theorem dX8_enter_37 : decode cX8_enter 37 = .ok (.ireturn, 1) := by decide +kernel
theorem dX8_enter_38 : decode cX8_enter 38 = .ok (.aload_n 0, 1) := by decide +kernel
theorem dX8_enter_39 : decode cX8_enter 39 = .ok (.iload_n 2, 1) := by decide +kernel
theorem dX8_enter_40 : decode cX8_enter 40 = .ok (.putfield 111, 3) := by decide +kernel
theorem dX8_enter_43 : decode cX8_enter 43 = .ok (.aload_n 0, 1) := by decide +kernel
theorem dX8_enter_44 : decode cX8_enter 44 = .ok (.iload_n 1, 1) := by decide +kernel
theorem dX8_enter_45 : decode cX8_enter 45 = .ok (.ifCond .eq 7, 3) := by decide +kernel
theorem dX8_enter_48 : decode cX8_enter 48 = .ok (.iload_n 2, 1) := by decide +kernel
theorem dX8_enter_49 : decode cX8_enter 49 = .ok (.goto 7, 3) := by decide +kernel
theorem dX8_enter_52 : decode cX8_enter 52 = .ok (.aload_n 0, 1) := by decide +kernel
theorem dX8_enter_53 : decode cX8_enter 53 = .ok (.getfield 108, 3) := by decide +kernel
theorem dX8_enter_56 : decode cX8_enter 56 = .ok (.putfield 108, 3) := by decide +kernel
theorem dX8_enter_59 : decode cX8_enter 59 = .ok (.iload_n 2, 1) := by decide +kernel
theorem dX8_enter_60 : decode cX8_enter 60 = .ok (.ireturn, 1) := by decide +kernel
theorem dX8_user_0 : decode cX8_user 0 = .ok (.iload_n 1, 1) := by decide +kernel
theorem dX8_user_1 : decode cX8_user 1 = .ok (.ifCond .lt 8, 3) := by decide +kernel
theorem dX8_user_4 : decode cX8_user 4 = .ok (.iload_n 1, 1) := by decide +kernel
theorem dX8_user_5 : decode cX8_user 5 = .ok (.iconst 3, 1) := by decide +kernel
theorem dX8_user_6 : decode cX8_user 6 = .ok (.if_icmp .le 5, 3) := by decide +kernel
theorem dX8_user_9 : decode cX8_user 9 = .ok (.iconst 0, 1) := by decide +kernel
theorem dX8_user_10 : decode cX8_user 10 = .ok (.ireturn, 1) := by decide +kernel
theorem dX8_user_11 : decode cX8_user 11 = .ok (.aload_n 0, 1) := by decide +kernel
theorem dX8_user_12 : decode cX8_user 12 = .ok (.iload_n 1, 1) := by decide +kernel
theorem dX8_user_13 : decode cX8_user 13 = .ok (.putfield 66, 3) := by decide +kernel
theorem dX8_user_16 : decode cX8_user 16 = .ok (.iconst 1, 1) := by decide +kernel
theorem dX8_user_17 : decode cX8_user 17 = .ok (.ireturn, 1) := by decide +kernel
theorem dX8_change_0 : decode cX8_change 0 = .ok (.iload_n 1, 1) := by decide +kernel
theorem dX8_change_1 : decode cX8_change 1 = .ok (.ifCond .lt 9, 3) := by decide +kernel
theorem dX8_change_4 : decode cX8_change 4 = .ok (.iload_n 1, 1) := by decide +kernel
theorem dX8_change_5 : decode cX8_change 5 = .ok (.bipush 15, 2) := by decide +kernel
theorem dX8_change_7 : decode cX8_change 7 = .ok (.if_icmp .le 6, 3) := by decide +kernel
theorem dX8_change_10 : decode cX8_change 10 = .ok (.bipush (-11), 2) := by decide +kernel
theorem dX8_change_12 : decode cX8_change 12 = .ok (.ireturn, 1) := by decide +kernel
theorem dX8_change_13 : decode cX8_change 13 = .ok (.aload_n 0, 1) := by decide +kernel
theorem dX8_change_14 : decode cX8_change 14 = .ok (.iconst 0, 1) := by decide +kernel
theorem dX8_change_15 : decode cX8_change 15 = .ok (.iconst 1, 1) := by decide +kernel
theorem dX8_change_16 : decode cX8_change 16 = .ok (.invokevirtual 157, 3) := by decide +kernel
theorem dX8_change_19 : decode cX8_change 19 = .ok (.istore_n 2, 1) := by decide +kernel
theorem dX8_change_20 : decode cX8_change 20 = .ok (.iload_n 2, 1) := by decide +kernel
theorem dX8_change_21 : decode cX8_change 21 = .ok (.ifCond .ge 5, 3) := by decide +kernel
theorem dX8_change_24 : decode cX8_change 24 = .ok (.iload_n 2, 1) := by decide +kernel
theorem dX8_change_25 : decode cX8_change 25 = .ok (.ireturn, 1) := by decide +kernel
theorem dX8_change_26 : decode cX8_change 26 = .ok (.aload_n 0, 1) := by decide +kernel
theorem dX8_change_27 : decode cX8_change 27 = .ok (.getfield 66, 3) := by decide +kernel
theorem dX8_change_30 : decode cX8_change 30 = .ok (.ifCond .eq 19, 3) := by decide +kernel
theorem dX8_change_33 : decode cX8_change 33 = .ok (.aload_n 0, 1) := by decide +kernel
theorem dX8_change_34 : decode cX8_change 34 = .ok (.getfield 16, 3) := by decide +kernel
theorem dX8_change_37 : decode cX8_change 37 = .ok (.iload_n 2, 1) := by decide +kernel
theorem dX8_change_38 : decode cX8_change 38 = .ok (.iaload, 1) := by decide +kernel
theorem dX8_change_39 : decode cX8_change 39 = .ok (.aload_n 0, 1) := by decide +kernel
theorem dX8_change_40 : decode cX8_change 40 = .ok (.getfield 66, 3) := by decide +kernel
theorem dX8_change_43 : decode cX8_change 43 = .ok (.if_icmp .eq 6, 3) := by decide +kernel
theorem dX8_change_46 : decode cX8_change 46 = .ok (.bipush (-3), 2) := by decide +kernel
theorem dX8_change_48 : decode cX8_change 48 = .ok (.ireturn, 1) := by decide +kernel
theorem dX8_change_49 : decode cX8_change 49 = .ok (.aload_n 0, 1) := by decide +kernel
theorem dX8_change_50 : decode cX8_change 50 = .ok (.getfield 13, 3) := by decide +kernel
theorem dX8_change_53 : decode cX8_change 53 = .ok (.iload_n 2, 1) := by decide +kernel
theorem dX8_change_54 : decode cX8_change 54 = .ok (.iaload, 1) := by decide +kernel
theorem dX8_change_55 : decode cX8_change 55 = .ok (.istore_n 3, 1) := by decide +kernel
theorem dX8_change_56 : decode cX8_change 56 = .ok (.aload_n 0, 1) := by decide +kernel
theorem dX8_change_57 : decode cX8_change 57 = .ok (.getfield 13, 3) := by decide +kernel
theorem dX8_change_60 : decode cX8_change 60 = .ok (.iload_n 2, 1) := by decide +kernel
theorem dX8_change_61 : decode cX8_change 61 = .ok (.iload_n 1, 1) := by decide +kernel
theorem dX8_change_62 : decode cX8_change 62 = .ok (.iastore, 1) := by decide +kernel
theorem dX8_change_63 : decode cX8_change 63 = .ok (.iload_n 3, 1) := by decide +kernel
theorem dX8_change_64 : decode cX8_change 64 = .ok (.ireturn, 1) := by decide +kernel
theorem dX8_characters_0 : decode cX8_characters 0 = .ok (.iconst 0, 1) := by decide +kernel
theorem dX8_characters_1 : decode cX8_characters 1 = .ok (.istore_n 2, 1) := by decide +kernel
theorem dX8_characters_2 : decode cX8_characters 2 = .ok (.lload_n 0, 1) := by decide +kernel
theorem dX8_characters_3 : decode cX8_characters 3 = .ok (.lstore_n 3, 1) := by decide +kernel
theorem dX8_characters_4 : decode cX8_characters 4 = .ok (.lload_n 3, 1) := by decide +kernel
theorem dX8_characters_5 : decode cX8_characters 5 = .ok (.lconst 0, 1) := by decide +kernel
theorem dX8_characters_6 : decode cX8_characters 6 = .ok (.lcmp, 1) := by decide +kernel
theorem dX8_characters_7 : decode cX8_characters 7 = .ok (.ifCond .le 14, 3) := by decide +kernel
theorem dX8_characters_10 : decode cX8_characters 10 = .ok (.lload_n 3, 1) := by decide +kernel
theorem dX8_characters_11 : decode cX8_characters 11 = .ok (.bipush 7, 2) := by decide +kernel
theorem dX8_characters_13 : decode cX8_characters 13 = .ok (.lshr, 1) := by decide +kernel
theorem dX8_characters_14 : decode cX8_characters 14 = .ok (.lstore_n 3, 1) := by decide +kernel
theorem dX8_characters_15 : decode cX8_characters 15 = .ok (.iinc 2 1, 3) := by decide +kernel
theorem dX8_characters_18 : decode cX8_characters 18 = .ok (.goto (-14), 3) := by decide +kernel
theorem dX8_characters_21 : decode cX8_characters 21 = .ok (.iload_n 2, 1) := by decide +kernel
theorem dX8_characters_22 : decode cX8_characters 22 = .ok (.ireturn, 1) := by decide +kernel
theorem dX8_nameOf_0 : decode cX8_nameOf 0 = .ok (.iconst 0, 1) := by decide +kernel
theorem dX8_nameOf_1 : decode cX8_nameOf 1 = .ok (.istore_n 2, 1) := by decide +kernel
theorem dX8_nameOf_2 : decode cX8_nameOf 2 = .ok (.iload_n 2, 1) := by decide +kernel
theorem dX8_nameOf_3 : decode cX8_nameOf 3 = .ok (.aload_n 0, 1) := by decide +kernel
theorem dX8_nameOf_4 : decode cX8_nameOf 4 = .ok (.getfield 82, 3) := by decide +kernel
theorem dX8_nameOf_7 : decode cX8_nameOf 7 = .ok (.if_icmp .ge 41, 3) := by decide +kernel
theorem dX8_nameOf_10 : decode cX8_nameOf 10 = .ok (.aload_n 0, 1) := by decide +kernel
theorem dX8_nameOf_11 : decode cX8_nameOf 11 = .ok (.getfield 38, 3) := by decide +kernel
theorem dX8_nameOf_14 : decode cX8_nameOf 14 = .ok (.iload_n 2, 1) := by decide +kernel
theorem dX8_nameOf_15 : decode cX8_nameOf 15 = .ok (.iaload, 1) := by decide +kernel
theorem dX8_nameOf_16 : decode cX8_nameOf 16 = .ok (.iload_n 1, 1) := by decide +kernel
theorem dX8_nameOf_17 : decode cX8_nameOf 17 = .ok (.if_icmp .ne 25, 3) := by decide +kernel
theorem dX8_nameOf_20 : decode cX8_nameOf 20 = .ok (.aload_n 0, 1) := by decide +kernel
theorem dX8_nameOf_21 : decode cX8_nameOf 21 = .ok (.getfield 31, 3) := by decide +kernel
theorem dX8_nameOf_24 : decode cX8_nameOf 24 = .ok (.iload_n 2, 1) := by decide +kernel
theorem dX8_nameOf_25 : decode cX8_nameOf 25 = .ok (.iaload, 1) := by decide +kernel
theorem dX8_nameOf_26 : decode cX8_nameOf 26 = .ok (.aload_n 0, 1) := by decide +kernel
theorem dX8_nameOf_27 : decode cX8_nameOf 27 = .ok (.getfield 22, 3) := by decide +kernel
theorem dX8_nameOf_30 : decode cX8_nameOf 30 = .ok (.iload_n 1, 1) := by decide +kernel
theorem dX8_nameOf_31 : decode cX8_nameOf 31 = .ok (.iaload, 1) := by decide +kernel
theorem dX8_nameOf_32 : decode cX8_nameOf 32 = .ok (.if_icmp .ne 10, 3) := by decide +kernel
theorem dX8_nameOf_35 : decode cX8_nameOf 35 = .ok (.aload_n 0, 1) := by decide +kernel
theorem dX8_nameOf_36 : decode cX8_nameOf 36 = .ok (.getfield 34, 3) := by decide +kernel
theorem dX8_nameOf_39 : decode cX8_nameOf 39 = .ok (.iload_n 2, 1) := by decide +kernel
theorem dX8_nameOf_40 : decode cX8_nameOf 40 = .ok (.laload, 1) := by decide +kernel
theorem dX8_nameOf_41 : decode cX8_nameOf 41 = .ok (.lreturn, 1) := by decide +kernel
theorem dX8_nameOf_42 : decode cX8_nameOf 42 = .ok (.iinc 2 1, 3) := by decide +kernel
theorem dX8_nameOf_45 : decode cX8_nameOf 45 = .ok (.goto (-43), 3) := by decide +kernel
theorem dX8_nameOf_48 : decode cX8_nameOf 48 = .ok (.lconst 0, 1) := by decide +kernel
theorem dX8_nameOf_49 : decode cX8_nameOf 49 = .ok (.lreturn, 1) := by decide +kernel
theorem dX8_path_0 : decode cX8_path 0 = .ok (.aload_n 0, 1) := by decide +kernel
theorem dX8_path_1 : decode cX8_path 1 = .ok (.getfield 111, 3) := by decide +kernel
theorem dX8_path_4 : decode cX8_path 4 = .ok (.aload_n 0, 1) := by decide +kernel
theorem dX8_path_5 : decode cX8_path 5 = .ok (.getfield 108, 3) := by decide +kernel
theorem dX8_path_8 : decode cX8_path 8 = .ok (.if_icmp .ne 18, 3) := by decide +kernel
theorem dX8_path_11 : decode cX8_path 11 = .ok (.aload_n 0, 1) := by decide +kernel
theorem dX8_path_12 : decode cX8_path 12 = .ok (.getfield 51, 3) := by decide +kernel
theorem dX8_path_15 : decode cX8_path 15 = .ok (.iconst 0, 1) := by decide +kernel
theorem dX8_path_16 : decode cX8_path 16 = .ok (.bipush 47, 2) := by decide +kernel
theorem dX8_path_18 : decode cX8_path 18 = .ok (.iastore, 1) := by decide +kernel
theorem dX8_path_19 : decode cX8_path 19 = .ok (.aload_n 0, 1) := by decide +kernel
theorem dX8_path_20 : decode cX8_path 20 = .ok (.iconst 1, 1) := by decide +kernel
theorem dX8_path_21 : decode cX8_path 21 = .ok (.putfield 60, 3) := by decide +kernel
theorem dX8_path_24 : decode cX8_path 24 = .ok (.iconst 1, 1) := by decide +kernel
theorem dX8_path_25 : decode cX8_path 25 = .ok (.ireturn, 1) := by decide +kernel
theorem dX8_path_26 : decode cX8_path 26 = .ok (.iconst 0, 1) := by decide +kernel
theorem dX8_path_27 : decode cX8_path 27 = .ok (.istore_n 1, 1) := by decide +kernel
theorem dX8_path_28 : decode cX8_path 28 = .ok (.aload_n 0, 1) := by decide +kernel
theorem dX8_path_29 : decode cX8_path 29 = .ok (.getfield 111, 3) := by decide +kernel
theorem dX8_path_32 : decode cX8_path 32 = .ok (.istore_n 2, 1) := by decide +kernel
theorem dX8_path_33 : decode cX8_path 33 = .ok (.iload_n 2, 1) := by decide +kernel
theorem dX8_path_34 : decode cX8_path 34 = .ok (.aload_n 0, 1) := by decide +kernel
theorem dX8_path_35 : decode cX8_path 35 = .ok (.getfield 108, 3) := by decide +kernel
theorem dX8_path_38 : decode cX8_path 38 = .ok (.if_icmp .eq 40, 3) := by decide +kernel
theorem dX8_path_41 : decode cX8_path 41 = .ok (.iload_n 1, 1) := by decide +kernel
theorem dX8_path_42 : decode cX8_path 42 = .ok (.sipush 1000, 3) := by decide +kernel
theorem dX8_path_45 : decode cX8_path 45 = .ok (.if_icmp .ge 33, 3) := by decide +kernel
theorem dX8_path_48 : decode cX8_path 48 = .ok (.iload_n 1, 1) := by decide +kernel
theorem dX8_path_49 : decode cX8_path 49 = .ok (.iconst 1, 1) := by decide +kernel
theorem dX8_path_50 : decode cX8_path 50 = .ok (.iadd, 1) := by decide +kernel
theorem dX8_path_51 : decode cX8_path 51 = .ok (.aload_n 0, 1) := by decide +kernel
theorem dX8_path_52 : decode cX8_path 52 = .ok (.aload_n 0, 1) := by decide +kernel
theorem dX8_path_53 : decode cX8_path 53 = .ok (.iload_n 2, 1) := by decide +kernel
theorem dX8_path_54 : decode cX8_path 54 = .ok (.invokevirtual 76, 3) := by decide +kernel
theorem dX8_path_57 : decode cX8_path 57 = .ok (.invokevirtual 189, 3) := by decide +kernel
theorem dX8_path_60 : decode cX8_path 60 = .ok (.invokestatic 193, 3) := by decide +kernel
theorem dX8_path_63 : decode cX8_path 63 = .ok (.iadd, 1) := by decide +kernel
theorem dX8_path_64 : decode cX8_path 64 = .ok (.istore_n 1, 1) := by decide +kernel
theorem dX8_path_65 : decode cX8_path 65 = .ok (.aload_n 0, 1) := by decide +kernel
theorem dX8_path_66 : decode cX8_path 66 = .ok (.iload_n 2, 1) := by decide +kernel
theorem dX8_path_67 : decode cX8_path 67 = .ok (.aload_n 0, 1) := by decide +kernel
theorem dX8_path_68 : decode cX8_path 68 = .ok (.getfield 108, 3) := by decide +kernel
theorem dX8_path_71 : decode cX8_path 71 = .ok (.invokevirtual 126, 3) := by decide +kernel
theorem dX8_path_74 : decode cX8_path 74 = .ok (.istore_n 2, 1) := by decide +kernel
theorem dX8_path_75 : decode cX8_path 75 = .ok (.goto (-42), 3) := by decide +kernel
theorem dX8_path_78 : decode cX8_path 78 = .ok (.iload_n 1, 1) := by decide +kernel
theorem dX8_path_79 : decode cX8_path 79 = .ok (.bipush 40, 2) := by decide +kernel
theorem dX8_path_81 : decode cX8_path 81 = .ok (.if_icmp .le 6, 3) := by decide +kernel
theorem dX8_path_84 : decode cX8_path 84 = .ok (.bipush (-5), 2) := by decide +kernel
theorem dX8_path_86 : decode cX8_path 86 = .ok (.ireturn, 1) := by decide +kernel
theorem dX8_path_87 : decode cX8_path 87 = .ok (.iload_n 1, 1) := by decide +kernel
theorem dX8_path_88 : decode cX8_path 88 = .ok (.istore_n 2, 1) := by decide +kernel
theorem dX8_path_89 : decode cX8_path 89 = .ok (.aload_n 0, 1) := by decide +kernel
theorem dX8_path_90 : decode cX8_path 90 = .ok (.getfield 111, 3) := by decide +kernel
theorem dX8_path_93 : decode cX8_path 93 = .ok (.istore_n 3, 1) := by decide +kernel
theorem dX8_path_94 : decode cX8_path 94 = .ok (.iload_n 3, 1) := by decide +kernel
theorem dX8_path_95 : decode cX8_path 95 = .ok (.aload_n 0, 1) := by decide +kernel
theorem dX8_path_96 : decode cX8_path 96 = .ok (.getfield 108, 3) := by decide +kernel
theorem dX8_path_99 : decode cX8_path 99 = .ok (.if_icmp .eq 73, 3) := by decide +kernel
theorem dX8_path_102 : decode cX8_path 102 = .ok (.aload_n 0, 1) := by decide +kernel
theorem dX8_path_103 : decode cX8_path 103 = .ok (.aload_n 0, 1) := by decide +kernel
theorem dX8_path_104 : decode cX8_path 104 = .ok (.iload_n 3, 1) := by decide +kernel
theorem dX8_path_105 : decode cX8_path 105 = .ok (.invokevirtual 76, 3) := by decide +kernel
theorem dX8_path_108 : decode cX8_path 108 = .ok (.invokevirtual 189, 3) := by decide +kernel
theorem dX8_path_111 : decode cX8_path 111 = .ok (.lstore 4, 2) := by decide +kernel
theorem dX8_path_113 : decode cX8_path 113 = .ok (.lload 4, 2) := by decide +kernel
theorem dX8_path_115 : decode cX8_path 115 = .ok (.lconst 0, 1) := by decide +kernel
theorem dX8_path_116 : decode cX8_path 116 = .ok (.lcmp, 1) := by decide +kernel
theorem dX8_path_117 : decode cX8_path 117 = .ok (.ifCond .le 30, 3) := by decide +kernel
theorem dX8_path_120 : decode cX8_path 120 = .ok (.iload_n 2, 1) := by decide +kernel
theorem dX8_path_121 : decode cX8_path 121 = .ok (.iconst 1, 1) := by decide +kernel
theorem dX8_path_122 : decode cX8_path 122 = .ok (.isub, 1) := by decide +kernel
theorem dX8_path_123 : decode cX8_path 123 = .ok (.istore_n 2, 1) := by decide +kernel
theorem dX8_path_124 : decode cX8_path 124 = .ok (.aload_n 0, 1) := by decide +kernel
theorem dX8_path_125 : decode cX8_path 125 = .ok (.getfield 51, 3) := by decide +kernel
theorem dX8_path_128 : decode cX8_path 128 = .ok (.iload_n 2, 1) := by decide +kernel
theorem dX8_path_129 : decode cX8_path 129 = .ok (.lload 4, 2) := by decide +kernel
theorem dX8_path_131 : decode cX8_path 131 = .ok (.ldc2_w 197, 3) := by decide +kernel
theorem dX8_path_134 : decode cX8_path 134 = .ok (.land, 1) := by decide +kernel
theorem dX8_path_135 : decode cX8_path 135 = .ok (.l2i, 1) := by decide +kernel
theorem dX8_path_136 : decode cX8_path 136 = .ok (.iastore, 1) := by decide +kernel
theorem dX8_path_137 : decode cX8_path 137 = .ok (.lload 4, 2) := by decide +kernel
theorem dX8_path_139 : decode cX8_path 139 = .ok (.bipush 7, 2) := by decide +kernel
theorem dX8_path_141 : decode cX8_path 141 = .ok (.lshr, 1) := by decide +kernel
theorem dX8_path_142 : decode cX8_path 142 = .ok (.lstore 4, 2) := by decide +kernel
theorem dX8_path_144 : decode cX8_path 144 = .ok (.goto (-31), 3) := by decide +kernel
theorem dX8_path_147 : decode cX8_path 147 = .ok (.iload_n 2, 1) := by decide +kernel
theorem dX8_path_148 : decode cX8_path 148 = .ok (.iconst 1, 1) := by decide +kernel
theorem dX8_path_149 : decode cX8_path 149 = .ok (.isub, 1) := by decide +kernel
theorem dX8_path_150 : decode cX8_path 150 = .ok (.istore_n 2, 1) := by decide +kernel
theorem dX8_path_151 : decode cX8_path 151 = .ok (.aload_n 0, 1) := by decide +kernel
theorem dX8_path_152 : decode cX8_path 152 = .ok (.getfield 51, 3) := by decide +kernel
theorem dX8_path_155 : decode cX8_path 155 = .ok (.iload_n 2, 1) := by decide +kernel
theorem dX8_path_156 : decode cX8_path 156 = .ok (.bipush 47, 2) := by decide +kernel
theorem dX8_path_158 : decode cX8_path 158 = .ok (.iastore, 1) := by decide +kernel
theorem dX8_path_159 : decode cX8_path 159 = .ok (.aload_n 0, 1) := by decide +kernel
theorem dX8_path_160 : decode cX8_path 160 = .ok (.iload_n 3, 1) := by decide +kernel
theorem dX8_path_161 : decode cX8_path 161 = .ok (.aload_n 0, 1) := by decide +kernel
theorem dX8_path_162 : decode cX8_path 162 = .ok (.getfield 108, 3) := by decide +kernel
theorem dX8_path_165 : decode cX8_path 165 = .ok (.invokevirtual 126, 3) := by decide +kernel
theorem dX8_path_168 : decode cX8_path 168 = .ok (.istore_n 3, 1) := by decide +kernel
theorem dX8_path_169 : decode cX8_path 169 = .ok (.goto (-75), 3) := by decide +kernel
theorem dX8_path_172 : decode cX8_path 172 = .ok (.aload_n 0, 1) := by decide +kernel
theorem dX8_path_173 : decode cX8_path 173 = .ok (.iload_n 1, 1) := by decide +kernel
theorem dX8_path_174 : decode cX8_path 174 = .ok (.putfield 60, 3) := by decide +kernel
theorem dX8_path_177 : decode cX8_path 177 = .ok (.aload_n 0, 1) := by decide +kernel
theorem dX8_path_178 : decode cX8_path 178 = .ok (.getfield 60, 3) := by decide +kernel
theorem dX8_path_181 : decode cX8_path 181 = .ok (.ireturn, 1) := by decide +kernel
theorem dX8_kind_0 : decode cX8_kind 0 = .ok (.aload_n 0, 1) := by decide +kernel
theorem dX8_kind_1 : decode cX8_kind 1 = .ok (.iload_n 1, 1) := by decide +kernel
theorem dX8_kind_2 : decode cX8_kind 2 = .ok (.invokevirtual 199, 3) := by decide +kernel
theorem dX8_kind_5 : decode cX8_kind 5 = .ok (.ifCond .eq 12, 3) := by decide +kernel
theorem dX8_kind_8 : decode cX8_kind 8 = .ok (.aload_n 0, 1) := by decide +kernel
theorem dX8_kind_9 : decode cX8_kind 9 = .ok (.getfield 7, 3) := by decide +kernel
theorem dX8_kind_12 : decode cX8_kind 12 = .ok (.iload_n 1, 1) := by decide +kernel
theorem dX8_kind_13 : decode cX8_kind 13 = .ok (.iaload, 1) := by decide +kernel
theorem dX8_kind_14 : decode cX8_kind 14 = .ok (.goto 4, 3) := by decide +kernel
theorem dX8_kind_17 : decode cX8_kind 17 = .ok (.iconst 0, 1) := by decide +kernel
theorem dX8_kind_18 : decode cX8_kind 18 = .ok (.ireturn, 1) := by decide +kernel
theorem dX8_about_0 : decode cX8_about 0 = .ok (.aload_n 0, 1) := by decide +kernel
theorem dX8_about_1 : decode cX8_about 1 = .ok (.iload_n 1, 1) := by decide +kernel
theorem dX8_about_2 : decode cX8_about 2 = .ok (.invokevirtual 199, 3) := by decide +kernel
theorem dX8_about_5 : decode cX8_about 5 = .ok (.ifCond .eq 12, 3) := by decide +kernel
theorem dX8_about_8 : decode cX8_about 8 = .ok (.iload_n 2, 1) := by decide +kernel
theorem dX8_about_9 : decode cX8_about 9 = .ok (.ifCond .lt 8, 3) := by decide +kernel
theorem dX8_about_12 : decode cX8_about 12 = .ok (.iload_n 2, 1) := by decide +kernel
theorem dX8_about_13 : decode cX8_about 13 = .ok (.iconst 5, 1) := by decide +kernel
theorem dX8_about_14 : decode cX8_about 14 = .ok (.if_icmp .le 6, 3) := by decide +kernel
theorem dX8_about_17 : decode cX8_about 17 = .ok (.bipush (-11), 2) := by decide +kernel
theorem dX8_about_19 : decode cX8_about 19 = .ok (.ireturn, 1) := by decide +kernel
theorem dX8_about_20 : decode cX8_about 20 = .ok (.iload_n 2, 1) := by decide +kernel
theorem dX8_about_21 : decode cX8_about 21 = .ok (.iconst 2, 1) := by decide +kernel
theorem dX8_about_22 : decode cX8_about 22 = .ok (.if_icmp .le 35, 3) := by decide +kernel
theorem dX8_about_25 : decode cX8_about 25 = .ok (.iload_n 2, 1) := by decide +kernel
theorem dX8_about_26 : decode cX8_about 26 = .ok (.iconst 3, 1) := by decide +kernel
theorem dX8_about_27 : decode cX8_about 27 = .ok (.if_icmp .ne 11, 3) := by decide +kernel
theorem dX8_about_30 : decode cX8_about 30 = .ok (.aload_n 0, 1) := by decide +kernel
theorem dX8_about_31 : decode cX8_about 31 = .ok (.iload_n 1, 1) := by decide +kernel
theorem dX8_about_32 : decode cX8_about 32 = .ok (.invokevirtual 183, 3) := by decide +kernel
theorem dX8_about_35 : decode cX8_about 35 = .ok (.goto 21, 3) := by decide +kernel
theorem dX8_about_38 : decode cX8_about 38 = .ok (.iload_n 2, 1) := by decide +kernel
theorem dX8_about_39 : decode cX8_about 39 = .ok (.iconst 4, 1) := by decide +kernel
theorem dX8_about_40 : decode cX8_about 40 = .ok (.if_icmp .ne 11, 3) := by decide +kernel
theorem dX8_about_43 : decode cX8_about 43 = .ok (.aload_n 0, 1) := by decide +kernel
theorem dX8_about_44 : decode cX8_about 44 = .ok (.iload_n 1, 1) := by decide +kernel
theorem dX8_about_45 : decode cX8_about 45 = .ok (.invokevirtual 180, 3) := by decide +kernel
theorem dX8_about_48 : decode cX8_about 48 = .ok (.goto 8, 3) := by decide +kernel
theorem dX8_about_51 : decode cX8_about 51 = .ok (.aload_n 0, 1) := by decide +kernel
theorem dX8_about_52 : decode cX8_about 52 = .ok (.iload_n 1, 1) := by decide +kernel
theorem dX8_about_53 : decode cX8_about 53 = .ok (.invokevirtual 69, 3) := by decide +kernel
theorem dX8_about_56 : decode cX8_about 56 = .ok (.ireturn, 1) := by decide +kernel
theorem dX8_about_57 : decode cX8_about 57 = .ok (.iload_n 2, 1) := by decide +kernel
theorem dX8_about_58 : decode cX8_about 58 = .ok (.ifCond .ne 12, 3) := by decide +kernel
theorem dX8_about_61 : decode cX8_about 61 = .ok (.aload_n 0, 1) := by decide +kernel
theorem dX8_about_62 : decode cX8_about 62 = .ok (.getfield 13, 3) := by decide +kernel
theorem dX8_about_65 : decode cX8_about 65 = .ok (.iload_n 1, 1) := by decide +kernel
theorem dX8_about_66 : decode cX8_about 66 = .ok (.iaload, 1) := by decide +kernel
theorem dX8_about_67 : decode cX8_about 67 = .ok (.goto 23, 3) := by decide +kernel
theorem dX8_about_70 : decode cX8_about 70 = .ok (.iload_n 2, 1) := by decide +kernel
theorem dX8_about_71 : decode cX8_about 71 = .ok (.iconst 1, 1) := by decide +kernel
theorem dX8_about_72 : decode cX8_about 72 = .ok (.if_icmp .ne 12, 3) := by decide +kernel
theorem dX8_about_75 : decode cX8_about 75 = .ok (.aload_n 0, 1) := by decide +kernel
theorem dX8_about_76 : decode cX8_about 76 = .ok (.getfield 16, 3) := by decide +kernel
theorem dX8_about_79 : decode cX8_about 79 = .ok (.iload_n 1, 1) := by decide +kernel
theorem dX8_about_80 : decode cX8_about 80 = .ok (.iaload, 1) := by decide +kernel
theorem dX8_about_81 : decode cX8_about 81 = .ok (.goto 9, 3) := by decide +kernel
theorem dX8_about_84 : decode cX8_about 84 = .ok (.aload_n 0, 1) := by decide +kernel
theorem dX8_about_85 : decode cX8_about 85 = .ok (.getfield 19, 3) := by decide +kernel
theorem dX8_about_88 : decode cX8_about 88 = .ok (.iload_n 1, 1) := by decide +kernel
theorem dX8_about_89 : decode cX8_about 89 = .ok (.iaload, 1) := by decide +kernel
theorem dX8_about_90 : decode cX8_about 90 = .ok (.ireturn, 1) := by decide +kernel
theorem dX8_entry_0 : decode cX8_entry 0 = .ok (.aload_n 0, 1) := by decide +kernel
theorem dX8_entry_1 : decode cX8_entry 1 = .ok (.iload_n 1, 1) := by decide +kernel
theorem dX8_entry_2 : decode cX8_entry 2 = .ok (.invokevirtual 199, 3) := by decide +kernel
theorem dX8_entry_5 : decode cX8_entry 5 = .ok (.ifCond .eq 7, 3) := by decide +kernel
theorem dX8_entry_8 : decode cX8_entry 8 = .ok (.iload_n 2, 1) := by decide +kernel
theorem dX8_entry_9 : decode cX8_entry 9 = .ok (.ifCond .ge 5, 3) := by decide +kernel
theorem dX8_entry_12 : decode cX8_entry 12 = .ok (.iconst (-1), 1) := by decide +kernel
theorem dX8_entry_13 : decode cX8_entry 13 = .ok (.ireturn, 1) := by decide +kernel
theorem dX8_entry_14 : decode cX8_entry 14 = .ok (.iload_n 2, 1) := by decide +kernel
theorem dX8_entry_15 : decode cX8_entry 15 = .ok (.istore_n 3, 1) := by decide +kernel
theorem dX8_entry_16 : decode cX8_entry 16 = .ok (.iconst 0, 1) := by decide +kernel
theorem dX8_entry_17 : decode cX8_entry 17 = .ok (.istore 4, 2) := by decide +kernel
theorem dX8_entry_19 : decode cX8_entry 19 = .ok (.iload 4, 2) := by decide +kernel
theorem dX8_entry_21 : decode cX8_entry 21 = .ok (.aload_n 0, 1) := by decide +kernel
theorem dX8_entry_22 : decode cX8_entry 22 = .ok (.getfield 82, 3) := by decide +kernel
theorem dX8_entry_25 : decode cX8_entry 25 = .ok (.if_icmp .ge 36, 3) := by decide +kernel
theorem dX8_entry_28 : decode cX8_entry 28 = .ok (.aload_n 0, 1) := by decide +kernel
theorem dX8_entry_29 : decode cX8_entry 29 = .ok (.getfield 31, 3) := by decide +kernel
theorem dX8_entry_32 : decode cX8_entry 32 = .ok (.iload 4, 2) := by decide +kernel
theorem dX8_entry_34 : decode cX8_entry 34 = .ok (.iaload, 1) := by decide +kernel
theorem dX8_entry_35 : decode cX8_entry 35 = .ok (.iload_n 1, 1) := by decide +kernel
theorem dX8_entry_36 : decode cX8_entry 36 = .ok (.if_icmp .ne 19, 3) := by decide +kernel
theorem dX8_entry_39 : decode cX8_entry 39 = .ok (.iload_n 3, 1) := by decide +kernel
theorem dX8_entry_40 : decode cX8_entry 40 = .ok (.ifCond .ne 11, 3) := by decide +kernel
theorem dX8_entry_43 : decode cX8_entry 43 = .ok (.aload_n 0, 1) := by decide +kernel
theorem dX8_entry_44 : decode cX8_entry 44 = .ok (.getfield 38, 3) := by decide +kernel
theorem dX8_entry_47 : decode cX8_entry 47 = .ok (.iload 4, 2) := by decide +kernel
theorem dX8_entry_49 : decode cX8_entry 49 = .ok (.iaload, 1) := by decide +kernel
theorem dX8_entry_50 : decode cX8_entry 50 = .ok (.ireturn, 1) := by decide +kernel
theorem dX8_entry_51 : decode cX8_entry 51 = .ok (.iload_n 3, 1) := by decide +kernel
theorem dX8_entry_52 : decode cX8_entry 52 = .ok (.iconst 1, 1) := by decide +kernel
theorem dX8_entry_53 : decode cX8_entry 53 = .ok (.isub, 1) := by decide +kernel
theorem dX8_entry_54 : decode cX8_entry 54 = .ok (.istore_n 3, 1) := by decide +kernel
theorem dX8_entry_55 : decode cX8_entry 55 = .ok (.iinc 4 1, 3) := by decide +kernel
theorem dX8_entry_58 : decode cX8_entry 58 = .ok (.goto (-39), 3) := by decide +kernel
theorem dX8_entry_61 : decode cX8_entry 61 = .ok (.iconst (-1), 1) := by decide +kernel
theorem dX8_entry_62 : decode cX8_entry 62 = .ok (.ireturn, 1) := by decide +kernel
theorem dX0_init_0 : decode cX0_init 0 = .ok (.aload_n 0, 1) := by decide +kernel
theorem dX0_init_1 : decode cX0_init 1 = .ok (.invokespecial 3, 3) := by decide +kernel
theorem dX0_init_4 : decode cX0_init 4 = .ok (.aload_n 0, 1) := by decide +kernel
theorem dX0_init_5 : decode cX0_init 5 = .ok (.bipush 80, 2) := by decide +kernel
theorem dX0_init_7 : decode cX0_init 7 = .ok (.newarray .int, 2) := by decide +kernel
theorem dX0_init_9 : decode cX0_init 9 = .ok (.putfield 9, 3) := by decide +kernel
theorem dX0_init_12 : decode cX0_init 12 = .ok (.aload_n 0, 1) := by decide +kernel
theorem dX0_init_13 : decode cX0_init 13 = .ok (.bipush 80, 2) := by decide +kernel
theorem dX0_init_15 : decode cX0_init 15 = .ok (.newarray .long, 2) := by decide +kernel
theorem dX0_init_17 : decode cX0_init 17 = .ok (.putfield 15, 3) := by decide +kernel
theorem dX0_init_20 : decode cX0_init 20 = .ok (.aload_n 0, 1) := by decide +kernel
theorem dX0_init_21 : decode cX0_init 21 = .ok (.bipush 80, 2) := by decide +kernel
theorem dX0_init_23 : decode cX0_init 23 = .ok (.newarray .int, 2) := by decide +kernel
theorem dX0_init_25 : decode cX0_init 25 = .ok (.putfield 19, 3) := by decide +kernel
theorem dX0_init_28 : decode cX0_init 28 = .ok (.return_, 1) := by decide +kernel
theorem dX0_isFull_0 : decode cX0_isFull 0 = .ok (.aload_n 0, 1) := by decide +kernel
theorem dX0_isFull_1 : decode cX0_isFull 1 = .ok (.getfield 22, 3) := by decide +kernel
theorem dX0_isFull_4 : decode cX0_isFull 4 = .ok (.bipush 80, 2) := by decide +kernel
theorem dX0_isFull_6 : decode cX0_isFull 6 = .ok (.if_icmp .lt 7, 3) := by decide +kernel
theorem dX0_isFull_9 : decode cX0_isFull 9 = .ok (.iconst 1, 1) := by decide +kernel
theorem dX0_isFull_10 : decode cX0_isFull 10 = .ok (.goto 4, 3) := by decide +kernel
theorem dX0_isFull_13 : decode cX0_isFull 13 = .ok (.iconst 0, 1) := by decide +kernel
theorem dX0_isFull_14 : decode cX0_isFull 14 = .ok (.ireturn, 1) := by decide +kernel
theorem dX0_add_0 : decode cX0_add 0 = .ok (.aload_n 0, 1) := by decide +kernel
theorem dX0_add_1 : decode cX0_add 1 = .ok (.getfield 22, 3) := by decide +kernel
theorem dX0_add_4 : decode cX0_add 4 = .ok (.bipush 80, 2) := by decide +kernel
theorem dX0_add_6 : decode cX0_add 6 = .ok (.if_icmp .ge 44, 3) := by decide +kernel
theorem dX0_add_9 : decode cX0_add 9 = .ok (.aload_n 0, 1) := by decide +kernel
theorem dX0_add_10 : decode cX0_add 10 = .ok (.getfield 9, 3) := by decide +kernel
theorem dX0_add_13 : decode cX0_add 13 = .ok (.aload_n 0, 1) := by decide +kernel
theorem dX0_add_14 : decode cX0_add 14 = .ok (.getfield 22, 3) := by decide +kernel
theorem dX0_add_17 : decode cX0_add 17 = .ok (.iload_n 1, 1) := by decide +kernel
theorem dX0_add_18 : decode cX0_add 18 = .ok (.iastore, 1) := by decide +kernel
theorem dX0_add_19 : decode cX0_add 19 = .ok (.aload_n 0, 1) := by decide +kernel
theorem dX0_add_20 : decode cX0_add 20 = .ok (.getfield 15, 3) := by decide +kernel
theorem dX0_add_23 : decode cX0_add 23 = .ok (.aload_n 0, 1) := by decide +kernel
theorem dX0_add_24 : decode cX0_add 24 = .ok (.getfield 22, 3) := by decide +kernel
theorem dX0_add_27 : decode cX0_add 27 = .ok (.lload_n 2, 1) := by decide +kernel
theorem dX0_add_28 : decode cX0_add 28 = .ok (.lastore, 1) := by decide +kernel
theorem dX0_add_29 : decode cX0_add 29 = .ok (.aload_n 0, 1) := by decide +kernel
theorem dX0_add_30 : decode cX0_add 30 = .ok (.getfield 19, 3) := by decide +kernel
theorem dX0_add_33 : decode cX0_add 33 = .ok (.aload_n 0, 1) := by decide +kernel
theorem dX0_add_34 : decode cX0_add 34 = .ok (.getfield 22, 3) := by decide +kernel
theorem dX0_add_37 : decode cX0_add 37 = .ok (.iload 4, 2) := by decide +kernel
theorem dX0_add_39 : decode cX0_add 39 = .ok (.iastore, 1) := by decide +kernel
theorem dX0_add_40 : decode cX0_add 40 = .ok (.aload_n 0, 1) := by decide +kernel
theorem dX0_add_41 : decode cX0_add 41 = .ok (.dup, 1) := by decide +kernel
theorem dX0_add_42 : decode cX0_add 42 = .ok (.getfield 22, 3) := by decide +kernel
theorem dX0_add_45 : decode cX0_add 45 = .ok (.iconst 1, 1) := by decide +kernel
theorem dX0_add_46 : decode cX0_add 46 = .ok (.iadd, 1) := by decide +kernel
theorem dX0_add_47 : decode cX0_add 47 = .ok (.putfield 22, 3) := by decide +kernel
theorem dX0_add_50 : decode cX0_add 50 = .ok (.return_, 1) := by decide +kernel
theorem dX0_drop_0 : decode cX0_drop 0 = .ok (.iload_n 1, 1) := by decide +kernel
theorem dX0_drop_1 : decode cX0_drop 1 = .ok (.ifCond .lt 11, 3) := by decide +kernel
theorem dX0_drop_4 : decode cX0_drop 4 = .ok (.iload_n 1, 1) := by decide +kernel
theorem dX0_drop_5 : decode cX0_drop 5 = .ok (.aload_n 0, 1) := by decide +kernel
theorem dX0_drop_6 : decode cX0_drop 6 = .ok (.getfield 22, 3) := by decide +kernel
theorem dX0_drop_9 : decode cX0_drop 9 = .ok (.if_icmp .lt 4, 3) := by decide +kernel
theorem dX0_drop_12 : decode cX0_drop 12 = .ok (.return_, 1) := by decide +kernel
theorem dX0_drop_13 : decode cX0_drop 13 = .ok (.aload_n 0, 1) := by decide +kernel
theorem dX0_drop_14 : decode cX0_drop 14 = .ok (.dup, 1) := by decide +kernel
theorem dX0_drop_15 : decode cX0_drop 15 = .ok (.getfield 22, 3) := by decide +kernel
theorem dX0_drop_18 : decode cX0_drop 18 = .ok (.iconst 1, 1) := by decide +kernel
theorem dX0_drop_19 : decode cX0_drop 19 = .ok (.isub, 1) := by decide +kernel
theorem dX0_drop_20 : decode cX0_drop 20 = .ok (.putfield 22, 3) := by decide +kernel
theorem dX0_drop_23 : decode cX0_drop 23 = .ok (.iload_n 1, 1) := by decide +kernel
theorem dX0_drop_24 : decode cX0_drop 24 = .ok (.istore_n 2, 1) := by decide +kernel
theorem dX0_drop_25 : decode cX0_drop 25 = .ok (.iload_n 2, 1) := by decide +kernel
theorem dX0_drop_26 : decode cX0_drop 26 = .ok (.aload_n 0, 1) := by decide +kernel
theorem dX0_drop_27 : decode cX0_drop 27 = .ok (.getfield 22, 3) := by decide +kernel
theorem dX0_drop_30 : decode cX0_drop 30 = .ok (.if_icmp .ge 51, 3) := by decide +kernel
theorem dX0_drop_33 : decode cX0_drop 33 = .ok (.aload_n 0, 1) := by decide +kernel
theorem dX0_drop_34 : decode cX0_drop 34 = .ok (.getfield 9, 3) := by decide +kernel
theorem dX0_drop_37 : decode cX0_drop 37 = .ok (.iload_n 2, 1) := by decide +kernel
theorem dX0_drop_38 : decode cX0_drop 38 = .ok (.aload_n 0, 1) := by decide +kernel
theorem dX0_drop_39 : decode cX0_drop 39 = .ok (.getfield 9, 3) := by decide +kernel
theorem dX0_drop_42 : decode cX0_drop 42 = .ok (.iload_n 2, 1) := by decide +kernel
theorem dX0_drop_43 : decode cX0_drop 43 = .ok (.iconst 1, 1) := by decide +kernel
theorem dX0_drop_44 : decode cX0_drop 44 = .ok (.iadd, 1) := by decide +kernel
theorem dX0_drop_45 : decode cX0_drop 45 = .ok (.iaload, 1) := by decide +kernel
theorem dX0_drop_46 : decode cX0_drop 46 = .ok (.iastore, 1) := by decide +kernel
theorem dX0_drop_47 : decode cX0_drop 47 = .ok (.aload_n 0, 1) := by decide +kernel
theorem dX0_drop_48 : decode cX0_drop 48 = .ok (.getfield 15, 3) := by decide +kernel
theorem dX0_drop_51 : decode cX0_drop 51 = .ok (.iload_n 2, 1) := by decide +kernel
theorem dX0_drop_52 : decode cX0_drop 52 = .ok (.aload_n 0, 1) := by decide +kernel
theorem dX0_drop_53 : decode cX0_drop 53 = .ok (.getfield 15, 3) := by decide +kernel
theorem dX0_drop_56 : decode cX0_drop 56 = .ok (.iload_n 2, 1) := by decide +kernel
theorem dX0_drop_57 : decode cX0_drop 57 = .ok (.iconst 1, 1) := by decide +kernel
theorem dX0_drop_58 : decode cX0_drop 58 = .ok (.iadd, 1) := by decide +kernel
theorem dX0_drop_59 : decode cX0_drop 59 = .ok (.laload, 1) := by decide +kernel
theorem dX0_drop_60 : decode cX0_drop 60 = .ok (.lastore, 1) := by decide +kernel
theorem dX0_drop_61 : decode cX0_drop 61 = .ok (.aload_n 0, 1) := by decide +kernel
theorem dX0_drop_62 : decode cX0_drop 62 = .ok (.getfield 19, 3) := by decide +kernel
theorem dX0_drop_65 : decode cX0_drop 65 = .ok (.iload_n 2, 1) := by decide +kernel
theorem dX0_drop_66 : decode cX0_drop 66 = .ok (.aload_n 0, 1) := by decide +kernel
theorem dX0_drop_67 : decode cX0_drop 67 = .ok (.getfield 19, 3) := by decide +kernel
theorem dX0_drop_70 : decode cX0_drop 70 = .ok (.iload_n 2, 1) := by decide +kernel
theorem dX0_drop_71 : decode cX0_drop 71 = .ok (.iconst 1, 1) := by decide +kernel
theorem dX0_drop_72 : decode cX0_drop 72 = .ok (.iadd, 1) := by decide +kernel
theorem dX0_drop_73 : decode cX0_drop 73 = .ok (.iaload, 1) := by decide +kernel
theorem dX0_drop_74 : decode cX0_drop 74 = .ok (.iastore, 1) := by decide +kernel
theorem dX0_drop_75 : decode cX0_drop 75 = .ok (.iinc 2 1, 3) := by decide +kernel
theorem dX0_drop_78 : decode cX0_drop 78 = .ok (.goto (-53), 3) := by decide +kernel
theorem dX0_drop_81 : decode cX0_drop 81 = .ok (.return_, 1) := by decide +kernel
theorem dX0_object_0 : decode cX0_object 0 = .ok (.aload_n 0, 1) := by decide +kernel
theorem dX0_object_1 : decode cX0_object 1 = .ok (.getfield 19, 3) := by decide +kernel
theorem dX0_object_4 : decode cX0_object 4 = .ok (.iload_n 1, 1) := by decide +kernel
theorem dX0_object_5 : decode cX0_object 5 = .ok (.iaload, 1) := by decide +kernel
theorem dX0_object_6 : decode cX0_object 6 = .ok (.ireturn, 1) := by decide +kernel
theorem dX0_find_0 : decode cX0_find 0 = .ok (.iconst 0, 1) := by decide +kernel
theorem dX0_find_1 : decode cX0_find 1 = .ok (.istore 4, 2) := by decide +kernel
theorem dX0_find_3 : decode cX0_find 3 = .ok (.iload 4, 2) := by decide +kernel
theorem dX0_find_5 : decode cX0_find 5 = .ok (.aload_n 0, 1) := by decide +kernel
theorem dX0_find_6 : decode cX0_find 6 = .ok (.getfield 22, 3) := by decide +kernel
theorem dX0_find_9 : decode cX0_find 9 = .ok (.if_icmp .ge 35, 3) := by decide +kernel
theorem dX0_find_12 : decode cX0_find 12 = .ok (.aload_n 0, 1) := by decide +kernel
theorem dX0_find_13 : decode cX0_find 13 = .ok (.getfield 9, 3) := by decide +kernel
theorem dX0_find_16 : decode cX0_find 16 = .ok (.iload 4, 2) := by decide +kernel
theorem dX0_find_18 : decode cX0_find 18 = .ok (.iaload, 1) := by decide +kernel
theorem dX0_find_19 : decode cX0_find 19 = .ok (.iload_n 1, 1) := by decide +kernel
theorem dX0_find_20 : decode cX0_find 20 = .ok (.if_icmp .ne 18, 3) := by decide +kernel
theorem dX0_find_23 : decode cX0_find 23 = .ok (.aload_n 0, 1) := by decide +kernel
theorem dX0_find_24 : decode cX0_find 24 = .ok (.getfield 15, 3) := by decide +kernel
theorem dX0_find_27 : decode cX0_find 27 = .ok (.iload 4, 2) := by decide +kernel
theorem dX0_find_29 : decode cX0_find 29 = .ok (.laload, 1) := by decide +kernel
theorem dX0_find_30 : decode cX0_find 30 = .ok (.lload_n 2, 1) := by decide +kernel
theorem dX0_find_31 : decode cX0_find 31 = .ok (.lcmp, 1) := by decide +kernel
theorem dX0_find_32 : decode cX0_find 32 = .ok (.ifCond .ne 6, 3) := by decide +kernel
theorem dX0_find_35 : decode cX0_find 35 = .ok (.iload 4, 2) := by decide +kernel
theorem dX0_find_37 : decode cX0_find 37 = .ok (.ireturn, 1) := by decide +kernel
theorem dX0_find_38 : decode cX0_find 38 = .ok (.iinc 4 1, 3) := by decide +kernel
theorem dX0_find_41 : decode cX0_find 41 = .ok (.goto (-38), 3) := by decide +kernel
theorem dX0_find_44 : decode cX0_find 44 = .ok (.iconst (-1), 1) := by decide +kernel
theorem dX0_find_45 : decode cX0_find 45 = .ok (.ireturn, 1) := by decide +kernel
theorem dX0_findNth_0 : decode cX0_findNth 0 = .ok (.iconst 0, 1) := by decide +kernel
theorem dX0_findNth_1 : decode cX0_findNth 1 = .ok (.istore_n 3, 1) := by decide +kernel
theorem dX0_findNth_2 : decode cX0_findNth 2 = .ok (.iconst 0, 1) := by decide +kernel
theorem dX0_findNth_3 : decode cX0_findNth 3 = .ok (.istore 4, 2) := by decide +kernel
theorem dX0_findNth_5 : decode cX0_findNth 5 = .ok (.iload 4, 2) := by decide +kernel
theorem dX0_findNth_7 : decode cX0_findNth 7 = .ok (.aload_n 0, 1) := by decide +kernel
theorem dX0_findNth_8 : decode cX0_findNth 8 = .ok (.getfield 22, 3) := by decide +kernel
theorem dX0_findNth_11 : decode cX0_findNth 11 = .ok (.if_icmp .ge 31, 3) := by decide +kernel
theorem dX0_findNth_14 : decode cX0_findNth 14 = .ok (.aload_n 0, 1) := by decide +kernel
theorem dX0_findNth_15 : decode cX0_findNth 15 = .ok (.getfield 9, 3) := by decide +kernel
theorem dX0_findNth_18 : decode cX0_findNth 18 = .ok (.iload 4, 2) := by decide +kernel
theorem dX0_findNth_20 : decode cX0_findNth 20 = .ok (.iaload, 1) := by decide +kernel
theorem dX0_findNth_21 : decode cX0_findNth 21 = .ok (.iload_n 1, 1) := by decide +kernel
theorem dX0_findNth_22 : decode cX0_findNth 22 = .ok (.if_icmp .ne 14, 3) := by decide +kernel
theorem dX0_findNth_25 : decode cX0_findNth 25 = .ok (.iload_n 3, 1) := by decide +kernel
theorem dX0_findNth_26 : decode cX0_findNth 26 = .ok (.iload_n 2, 1) := by decide +kernel
theorem dX0_findNth_27 : decode cX0_findNth 27 = .ok (.if_icmp .ne 6, 3) := by decide +kernel
theorem dX0_findNth_30 : decode cX0_findNth 30 = .ok (.iload 4, 2) := by decide +kernel
theorem dX0_findNth_32 : decode cX0_findNth 32 = .ok (.ireturn, 1) := by decide +kernel
theorem dX0_findNth_33 : decode cX0_findNth 33 = .ok (.iinc 3 1, 3) := by decide +kernel
theorem dX0_findNth_36 : decode cX0_findNth 36 = .ok (.iinc 4 1, 3) := by decide +kernel
theorem dX0_findNth_39 : decode cX0_findNth 39 = .ok (.goto (-34), 3) := by decide +kernel
theorem dX0_findNth_42 : decode cX0_findNth 42 = .ok (.iconst (-1), 1) := by decide +kernel
theorem dX0_findNth_43 : decode cX0_findNth 43 = .ok (.ireturn, 1) := by decide +kernel
theorem dX0_nameFor_0 : decode cX0_nameFor 0 = .ok (.iconst 0, 1) := by decide +kernel
theorem dX0_nameFor_1 : decode cX0_nameFor 1 = .ok (.istore_n 2, 1) := by decide +kernel
theorem dX0_nameFor_2 : decode cX0_nameFor 2 = .ok (.iload_n 2, 1) := by decide +kernel
theorem dX0_nameFor_3 : decode cX0_nameFor 3 = .ok (.aload_n 0, 1) := by decide +kernel
theorem dX0_nameFor_4 : decode cX0_nameFor 4 = .ok (.getfield 22, 3) := by decide +kernel
theorem dX0_nameFor_7 : decode cX0_nameFor 7 = .ok (.if_icmp .ge 26, 3) := by decide +kernel
theorem dX0_nameFor_10 : decode cX0_nameFor 10 = .ok (.aload_n 0, 1) := by decide +kernel
theorem dX0_nameFor_11 : decode cX0_nameFor 11 = .ok (.getfield 19, 3) := by decide +kernel
theorem dX0_nameFor_14 : decode cX0_nameFor 14 = .ok (.iload_n 2, 1) := by decide +kernel
theorem dX0_nameFor_15 : decode cX0_nameFor 15 = .ok (.iaload, 1) := by decide +kernel
theorem dX0_nameFor_16 : decode cX0_nameFor 16 = .ok (.iload_n 1, 1) := by decide +kernel
theorem dX0_nameFor_17 : decode cX0_nameFor 17 = .ok (.if_icmp .ne 10, 3) := by decide +kernel
theorem dX0_nameFor_20 : decode cX0_nameFor 20 = .ok (.aload_n 0, 1) := by decide +kernel
theorem dX0_nameFor_21 : decode cX0_nameFor 21 = .ok (.getfield 15, 3) := by decide +kernel
theorem dX0_nameFor_24 : decode cX0_nameFor 24 = .ok (.iload_n 2, 1) := by decide +kernel
theorem dX0_nameFor_25 : decode cX0_nameFor 25 = .ok (.laload, 1) := by decide +kernel
theorem dX0_nameFor_26 : decode cX0_nameFor 26 = .ok (.lreturn, 1) := by decide +kernel
theorem dX0_nameFor_27 : decode cX0_nameFor 27 = .ok (.iinc 2 1, 3) := by decide +kernel
theorem dX0_nameFor_30 : decode cX0_nameFor 30 = .ok (.goto (-28), 3) := by decide +kernel
theorem dX0_nameFor_33 : decode cX0_nameFor 33 = .ok (.lconst 0, 1) := by decide +kernel
theorem dX0_nameFor_34 : decode cX0_nameFor 34 = .ok (.lreturn, 1) := by decide +kernel
theorem dX0_countFor_0 : decode cX0_countFor 0 = .ok (.iconst 0, 1) := by decide +kernel
theorem dX0_countFor_1 : decode cX0_countFor 1 = .ok (.istore_n 2, 1) := by decide +kernel
theorem dX0_countFor_2 : decode cX0_countFor 2 = .ok (.iconst 0, 1) := by decide +kernel
theorem dX0_countFor_3 : decode cX0_countFor 3 = .ok (.istore_n 3, 1) := by decide +kernel
theorem dX0_countFor_4 : decode cX0_countFor 4 = .ok (.iload_n 3, 1) := by decide +kernel
theorem dX0_countFor_5 : decode cX0_countFor 5 = .ok (.aload_n 0, 1) := by decide +kernel
theorem dX0_countFor_6 : decode cX0_countFor 6 = .ok (.getfield 22, 3) := by decide +kernel
theorem dX0_countFor_9 : decode cX0_countFor 9 = .ok (.if_icmp .ge 27, 3) := by decide +kernel
theorem dX0_countFor_12 : decode cX0_countFor 12 = .ok (.iload_n 2, 1) := by decide +kernel
theorem dX0_countFor_13 : decode cX0_countFor 13 = .ok (.aload_n 0, 1) := by decide +kernel
theorem dX0_countFor_14 : decode cX0_countFor 14 = .ok (.getfield 19, 3) := by decide +kernel
theorem dX0_countFor_17 : decode cX0_countFor 17 = .ok (.iload_n 3, 1) := by decide +kernel
theorem dX0_countFor_18 : decode cX0_countFor 18 = .ok (.iaload, 1) := by decide +kernel
theorem dX0_countFor_19 : decode cX0_countFor 19 = .ok (.iload_n 1, 1) := by decide +kernel
theorem dX0_countFor_20 : decode cX0_countFor 20 = .ok (.if_icmp .ne 7, 3) := by decide +kernel
theorem dX0_countFor_23 : decode cX0_countFor 23 = .ok (.iconst 1, 1) := by decide +kernel
theorem dX0_countFor_24 : decode cX0_countFor 24 = .ok (.goto 4, 3) := by decide +kernel
theorem dX0_countFor_27 : decode cX0_countFor 27 = .ok (.iconst 0, 1) := by decide +kernel
theorem dX0_countFor_28 : decode cX0_countFor 28 = .ok (.iadd, 1) := by decide +kernel
theorem dX0_countFor_29 : decode cX0_countFor 29 = .ok (.istore_n 2, 1) := by decide +kernel
theorem dX0_countFor_30 : decode cX0_countFor 30 = .ok (.iinc 3 1, 3) := by decide +kernel
theorem dX0_countFor_33 : decode cX0_countFor 33 = .ok (.goto (-29), 3) := by decide +kernel
theorem dX0_countFor_36 : decode cX0_countFor 36 = .ok (.iload_n 2, 1) := by decide +kernel
theorem dX0_countFor_37 : decode cX0_countFor 37 = .ok (.ireturn, 1) := by decide +kernel
theorem dX0_countIn_0 : decode cX0_countIn 0 = .ok (.iconst 0, 1) := by decide +kernel
theorem dX0_countIn_1 : decode cX0_countIn 1 = .ok (.istore_n 2, 1) := by decide +kernel
theorem dX0_countIn_2 : decode cX0_countIn 2 = .ok (.iconst 0, 1) := by decide +kernel
theorem dX0_countIn_3 : decode cX0_countIn 3 = .ok (.istore_n 3, 1) := by decide +kernel
theorem dX0_countIn_4 : decode cX0_countIn 4 = .ok (.iload_n 3, 1) := by decide +kernel
theorem dX0_countIn_5 : decode cX0_countIn 5 = .ok (.aload_n 0, 1) := by decide +kernel
theorem dX0_countIn_6 : decode cX0_countIn 6 = .ok (.getfield 22, 3) := by decide +kernel
theorem dX0_countIn_9 : decode cX0_countIn 9 = .ok (.if_icmp .ge 27, 3) := by decide +kernel
theorem dX0_countIn_12 : decode cX0_countIn 12 = .ok (.iload_n 2, 1) := by decide +kernel
theorem dX0_countIn_13 : decode cX0_countIn 13 = .ok (.aload_n 0, 1) := by decide +kernel
theorem dX0_countIn_14 : decode cX0_countIn 14 = .ok (.getfield 9, 3) := by decide +kernel
theorem dX0_countIn_17 : decode cX0_countIn 17 = .ok (.iload_n 3, 1) := by decide +kernel
theorem dX0_countIn_18 : decode cX0_countIn 18 = .ok (.iaload, 1) := by decide +kernel
theorem dX0_countIn_19 : decode cX0_countIn 19 = .ok (.iload_n 1, 1) := by decide +kernel
theorem dX0_countIn_20 : decode cX0_countIn 20 = .ok (.if_icmp .ne 7, 3) := by decide +kernel
theorem dX0_countIn_23 : decode cX0_countIn 23 = .ok (.iconst 1, 1) := by decide +kernel
theorem dX0_countIn_24 : decode cX0_countIn 24 = .ok (.goto 4, 3) := by decide +kernel
theorem dX0_countIn_27 : decode cX0_countIn 27 = .ok (.iconst 0, 1) := by decide +kernel
theorem dX0_countIn_28 : decode cX0_countIn 28 = .ok (.iadd, 1) := by decide +kernel
theorem dX0_countIn_29 : decode cX0_countIn 29 = .ok (.istore_n 2, 1) := by decide +kernel
theorem dX0_countIn_30 : decode cX0_countIn 30 = .ok (.iinc 3 1, 3) := by decide +kernel
theorem dX0_countIn_33 : decode cX0_countIn 33 = .ok (.goto (-29), 3) := by decide +kernel
theorem dX0_countIn_36 : decode cX0_countIn 36 = .ok (.iload_n 2, 1) := by decide +kernel
theorem dX0_countIn_37 : decode cX0_countIn 37 = .ok (.ireturn, 1) := by decide +kernel
theorem dX1_init_0 : decode cX1_init 0 = .ok (.aload_n 0, 1) := by decide +kernel
theorem dX1_init_1 : decode cX1_init 1 = .ok (.invokespecial 3, 3) := by decide +kernel
theorem dX1_init_4 : decode cX1_init 4 = .ok (.aload_n 0, 1) := by decide +kernel
theorem dX1_init_5 : decode cX1_init 5 = .ok (.bipush 40, 2) := by decide +kernel
theorem dX1_init_7 : decode cX1_init 7 = .ok (.newarray .char, 2) := by decide +kernel
theorem dX1_init_9 : decode cX1_init 9 = .ok (.putfield 9, 3) := by decide +kernel
theorem dX1_init_12 : decode cX1_init 12 = .ok (.return_, 1) := by decide +kernel
theorem dX1_clear_0 : decode cX1_clear 0 = .ok (.aload_n 0, 1) := by decide +kernel
theorem dX1_clear_1 : decode cX1_clear 1 = .ok (.iconst 0, 1) := by decide +kernel
theorem dX1_clear_2 : decode cX1_clear 2 = .ok (.putfield 15, 3) := by decide +kernel
theorem dX1_clear_5 : decode cX1_clear 5 = .ok (.return_, 1) := by decide +kernel
theorem dX1_size_0 : decode cX1_size 0 = .ok (.aload_n 0, 1) := by decide +kernel
theorem dX1_size_1 : decode cX1_size 1 = .ok (.getfield 15, 3) := by decide +kernel
theorem dX1_size_4 : decode cX1_size 4 = .ok (.ireturn, 1) := by decide +kernel
theorem dX1_isEmpty_0 : decode cX1_isEmpty 0 = .ok (.aload_n 0, 1) := by decide +kernel
theorem dX1_isEmpty_1 : decode cX1_isEmpty 1 = .ok (.getfield 15, 3) := by decide +kernel
theorem dX1_isEmpty_4 : decode cX1_isEmpty 4 = .ok (.ifCond .ne 7, 3) := by decide +kernel
theorem dX1_isEmpty_7 : decode cX1_isEmpty 7 = .ok (.iconst 1, 1) := by decide +kernel
theorem dX1_isEmpty_8 : decode cX1_isEmpty 8 = .ok (.goto 4, 3) := by decide +kernel
theorem dX1_isEmpty_11 : decode cX1_isEmpty 11 = .ok (.iconst 0, 1) := by decide +kernel
theorem dX1_isEmpty_12 : decode cX1_isEmpty 12 = .ok (.ireturn, 1) := by decide +kernel
theorem dX1_hasRoom_0 : decode cX1_hasRoom 0 = .ok (.iload_n 1, 1) := by decide +kernel
theorem dX1_hasRoom_1 : decode cX1_hasRoom 1 = .ok (.bipush 40, 2) := by decide +kernel
theorem dX1_hasRoom_3 : decode cX1_hasRoom 3 = .ok (.aload_n 0, 1) := by decide +kernel
theorem dX1_hasRoom_4 : decode cX1_hasRoom 4 = .ok (.getfield 15, 3) := by decide +kernel
theorem dX1_hasRoom_7 : decode cX1_hasRoom 7 = .ok (.isub, 1) := by decide +kernel
theorem dX1_hasRoom_8 : decode cX1_hasRoom 8 = .ok (.if_icmp .gt 7, 3) := by decide +kernel
theorem dX1_hasRoom_11 : decode cX1_hasRoom 11 = .ok (.iconst 1, 1) := by decide +kernel
theorem dX1_hasRoom_12 : decode cX1_hasRoom 12 = .ok (.goto 4, 3) := by decide +kernel
theorem dX1_hasRoom_15 : decode cX1_hasRoom 15 = .ok (.iconst 0, 1) := by decide +kernel
theorem dX1_hasRoom_16 : decode cX1_hasRoom 16 = .ok (.ireturn, 1) := by decide +kernel
theorem dX1_append_0 : decode cX1_append 0 = .ok (.aload_n 0, 1) := by decide +kernel
theorem dX1_append_1 : decode cX1_append 1 = .ok (.getfield 15, 3) := by decide +kernel
theorem dX1_append_4 : decode cX1_append 4 = .ok (.bipush 40, 2) := by decide +kernel
theorem dX1_append_6 : decode cX1_append 6 = .ok (.if_icmp .ge 23, 3) := by decide +kernel
theorem dX1_append_9 : decode cX1_append 9 = .ok (.aload_n 0, 1) := by decide +kernel
theorem dX1_append_10 : decode cX1_append 10 = .ok (.getfield 9, 3) := by decide +kernel
theorem dX1_append_13 : decode cX1_append 13 = .ok (.aload_n 0, 1) := by decide +kernel
theorem dX1_append_14 : decode cX1_append 14 = .ok (.getfield 15, 3) := by decide +kernel
theorem dX1_append_17 : decode cX1_append 17 = .ok (.iload_n 1, 1) := by decide +kernel
theorem dX1_append_18 : decode cX1_append 18 = .ok (.castore, 1) := by decide +kernel
theorem dX1_append_19 : decode cX1_append 19 = .ok (.aload_n 0, 1) := by decide +kernel
theorem dX1_append_20 : decode cX1_append 20 = .ok (.dup, 1) := by decide +kernel
theorem dX1_append_21 : decode cX1_append 21 = .ok (.getfield 15, 3) := by decide +kernel
theorem dX1_append_24 : decode cX1_append 24 = .ok (.iconst 1, 1) := by decide +kernel
theorem dX1_append_25 : decode cX1_append 25 = .ok (.iadd, 1) := by decide +kernel
theorem dX1_append_26 : decode cX1_append 26 = .ok (.putfield 15, 3) := by decide +kernel
theorem dX1_append_29 : decode cX1_append 29 = .ok (.return_, 1) := by decide +kernel
theorem dX1_mark_0 : decode cX1_mark 0 = .ok (.iload_n 1, 1) := by decide +kernel
theorem dX1_mark_1 : decode cX1_mark 1 = .ok (.ifCond .lt 20, 3) := by decide +kernel
theorem dX1_mark_4 : decode cX1_mark 4 = .ok (.iload_n 1, 1) := by decide +kernel
theorem dX1_mark_5 : decode cX1_mark 5 = .ok (.aload_n 0, 1) := by decide +kernel
theorem dX1_mark_6 : decode cX1_mark 6 = .ok (.getfield 15, 3) := by decide +kernel
theorem dX1_mark_9 : decode cX1_mark 9 = .ok (.if_icmp .ge 12, 3) := by decide +kernel
theorem dX1_mark_12 : decode cX1_mark 12 = .ok (.aload_n 0, 1) := by decide +kernel
theorem dX1_mark_13 : decode cX1_mark 13 = .ok (.getfield 9, 3) := by decide +kernel
theorem dX1_mark_16 : decode cX1_mark 16 = .ok (.iload_n 1, 1) := by decide +kernel
theorem dX1_mark_17 : decode cX1_mark 17 = .ok (.caload, 1) := by decide +kernel
theorem dX1_mark_18 : decode cX1_mark 18 = .ok (.goto 4, 3) := by decide +kernel
theorem dX1_mark_21 : decode cX1_mark 21 = .ok (.iconst 0, 1) := by decide +kernel
theorem dX1_mark_22 : decode cX1_mark 22 = .ok (.ireturn, 1) := by decide +kernel
theorem dX1_copy_0 : decode cX1_copy 0 = .ok (.aload_n 1, 1) := by decide +kernel
theorem dX1_copy_1 : decode cX1_copy 1 = .ok (.getfield 9, 3) := by decide +kernel
theorem dX1_copy_4 : decode cX1_copy 4 = .ok (.iconst 0, 1) := by decide +kernel
theorem dX1_copy_5 : decode cX1_copy 5 = .ok (.aload_n 0, 1) := by decide +kernel
theorem dX1_copy_6 : decode cX1_copy 6 = .ok (.getfield 9, 3) := by decide +kernel
theorem dX1_copy_9 : decode cX1_copy 9 = .ok (.iconst 0, 1) := by decide +kernel
theorem dX1_copy_10 : decode cX1_copy 10 = .ok (.aload_n 1, 1) := by decide +kernel
theorem dX1_copy_11 : decode cX1_copy 11 = .ok (.getfield 15, 3) := by decide +kernel
theorem dX1_copy_14 : decode cX1_copy 14 = .ok (.invokestatic 19, 3) := by decide +kernel
theorem dX1_copy_17 : decode cX1_copy 17 = .ok (.aload_n 0, 1) := by decide +kernel
theorem dX1_copy_18 : decode cX1_copy 18 = .ok (.aload_n 1, 1) := by decide +kernel
theorem dX1_copy_19 : decode cX1_copy 19 = .ok (.getfield 15, 3) := by decide +kernel
theorem dX1_copy_22 : decode cX1_copy 22 = .ok (.putfield 15, 3) := by decide +kernel
theorem dX1_copy_25 : decode cX1_copy 25 = .ok (.return_, 1) := by decide +kernel
theorem dX1_hasSlashesAlone_0 : decode cX1_hasSlashesAlone 0 = .ok (.iconst 0, 1) := by decide +kernel
theorem dX1_hasSlashesAlone_1 : decode cX1_hasSlashesAlone 1 = .ok (.istore_n 1, 1) := by decide +kernel
theorem dX1_hasSlashesAlone_2 : decode cX1_hasSlashesAlone 2 = .ok (.iload_n 1, 1) := by decide +kernel
theorem dX1_hasSlashesAlone_3 : decode cX1_hasSlashesAlone 3 = .ok (.aload_n 0, 1) := by decide +kernel
theorem dX1_hasSlashesAlone_4 : decode cX1_hasSlashesAlone 4 = .ok (.getfield 15, 3) := by decide +kernel
theorem dX1_hasSlashesAlone_7 : decode cX1_hasSlashesAlone 7 = .ok (.if_icmp .ge 22, 3) := by decide +kernel
theorem dX1_hasSlashesAlone_10 : decode cX1_hasSlashesAlone 10 = .ok (.aload_n 0, 1) := by decide +kernel
theorem dX1_hasSlashesAlone_11 : decode cX1_hasSlashesAlone 11 = .ok (.getfield 9, 3) := by decide +kernel
theorem dX1_hasSlashesAlone_14 : decode cX1_hasSlashesAlone 14 = .ok (.iload_n 1, 1) := by decide +kernel
theorem dX1_hasSlashesAlone_15 : decode cX1_hasSlashesAlone 15 = .ok (.caload, 1) := by decide +kernel
theorem dX1_hasSlashesAlone_16 : decode cX1_hasSlashesAlone 16 = .ok (.bipush 47, 2) := by decide +kernel
theorem dX1_hasSlashesAlone_18 : decode cX1_hasSlashesAlone 18 = .ok (.if_icmp .eq 5, 3) := by decide +kernel
theorem dX1_hasSlashesAlone_21 : decode cX1_hasSlashesAlone 21 = .ok (.iconst 0, 1) := by decide +kernel
theorem dX1_hasSlashesAlone_22 : decode cX1_hasSlashesAlone 22 = .ok (.ireturn, 1) := by decide +kernel
theorem dX1_hasSlashesAlone_23 : decode cX1_hasSlashesAlone 23 = .ok (.iinc 1 1, 3) := by decide +kernel
theorem dX1_hasSlashesAlone_26 : decode cX1_hasSlashesAlone 26 = .ok (.goto (-24), 3) := by decide +kernel
theorem dX1_hasSlashesAlone_29 : decode cX1_hasSlashesAlone 29 = .ok (.iconst 1, 1) := by decide +kernel
theorem dX1_hasSlashesAlone_30 : decode cX1_hasSlashesAlone 30 = .ok (.ireturn, 1) := by decide +kernel
theorem dX2_init_0 : decode cX2_init 0 = .ok (.aload_n 0, 1) := by decide +kernel
theorem dX2_init_1 : decode cX2_init 1 = .ok (.invokespecial 3, 3) := by decide +kernel
theorem dX2_init_4 : decode cX2_init 4 = .ok (.aload_n 0, 1) := by decide +kernel
theorem dX2_init_5 : decode cX2_init 5 = .ok (.bipush 60, 2) := by decide +kernel
theorem dX2_init_7 : decode cX2_init 7 = .ok (.newarray .char, 2) := by decide +kernel
theorem dX2_init_9 : decode cX2_init 9 = .ok (.putfield 9, 3) := by decide +kernel
theorem dX2_init_12 : decode cX2_init 12 = .ok (.aload_n 0, 1) := by decide +kernel
theorem dX2_init_13 : decode cX2_init 13 = .ok (.bipush 60, 2) := by decide +kernel
theorem dX2_init_15 : decode cX2_init 15 = .ok (.putfield 15, 3) := by decide +kernel
theorem dX2_init_18 : decode cX2_init 18 = .ok (.return_, 1) := by decide +kernel
theorem dX2_clear_0 : decode cX2_clear 0 = .ok (.aload_n 0, 1) := by decide +kernel
theorem dX2_clear_1 : decode cX2_clear 1 = .ok (.bipush 60, 2) := by decide +kernel
theorem dX2_clear_3 : decode cX2_clear 3 = .ok (.putfield 15, 3) := by decide +kernel
theorem dX2_clear_6 : decode cX2_clear 6 = .ok (.return_, 1) := by decide +kernel
theorem dX2_size_0 : decode cX2_size 0 = .ok (.bipush 60, 2) := by decide +kernel
theorem dX2_size_2 : decode cX2_size 2 = .ok (.aload_n 0, 1) := by decide +kernel
theorem dX2_size_3 : decode cX2_size 3 = .ok (.getfield 15, 3) := by decide +kernel
theorem dX2_size_6 : decode cX2_size 6 = .ok (.isub, 1) := by decide +kernel
theorem dX2_size_7 : decode cX2_size 7 = .ok (.ireturn, 1) := by decide +kernel
theorem dX2_isEmpty_0 : decode cX2_isEmpty 0 = .ok (.aload_n 0, 1) := by decide +kernel
theorem dX2_isEmpty_1 : decode cX2_isEmpty 1 = .ok (.getfield 15, 3) := by decide +kernel
theorem dX2_isEmpty_4 : decode cX2_isEmpty 4 = .ok (.bipush 60, 2) := by decide +kernel
theorem dX2_isEmpty_6 : decode cX2_isEmpty 6 = .ok (.if_icmp .lt 7, 3) := by decide +kernel
theorem dX2_isEmpty_9 : decode cX2_isEmpty 9 = .ok (.iconst 1, 1) := by decide +kernel
theorem dX2_isEmpty_10 : decode cX2_isEmpty 10 = .ok (.goto 4, 3) := by decide +kernel
theorem dX2_isEmpty_13 : decode cX2_isEmpty 13 = .ok (.iconst 0, 1) := by decide +kernel
theorem dX2_isEmpty_14 : decode cX2_isEmpty 14 = .ok (.ireturn, 1) := by decide +kernel
theorem dX2_beginsWithSlash_0 : decode cX2_beginsWithSlash 0 = .ok (.aload_n 0, 1) := by decide +kernel
theorem dX2_beginsWithSlash_1 : decode cX2_beginsWithSlash 1 = .ok (.getfield 15, 3) := by decide +kernel
theorem dX2_beginsWithSlash_4 : decode cX2_beginsWithSlash 4 = .ok (.bipush 60, 2) := by decide +kernel
theorem dX2_beginsWithSlash_6 : decode cX2_beginsWithSlash 6 = .ok (.if_icmp .ge 21, 3) := by decide +kernel
theorem dX2_beginsWithSlash_9 : decode cX2_beginsWithSlash 9 = .ok (.aload_n 0, 1) := by decide +kernel
theorem dX2_beginsWithSlash_10 : decode cX2_beginsWithSlash 10 = .ok (.getfield 9, 3) := by decide +kernel
theorem dX2_beginsWithSlash_13 : decode cX2_beginsWithSlash 13 = .ok (.aload_n 0, 1) := by decide +kernel
theorem dX2_beginsWithSlash_14 : decode cX2_beginsWithSlash 14 = .ok (.getfield 15, 3) := by decide +kernel
theorem dX2_beginsWithSlash_17 : decode cX2_beginsWithSlash 17 = .ok (.caload, 1) := by decide +kernel
theorem dX2_beginsWithSlash_18 : decode cX2_beginsWithSlash 18 = .ok (.bipush 47, 2) := by decide +kernel
theorem dX2_beginsWithSlash_20 : decode cX2_beginsWithSlash 20 = .ok (.if_icmp .ne 7, 3) := by decide +kernel
theorem dX2_beginsWithSlash_23 : decode cX2_beginsWithSlash 23 = .ok (.iconst 1, 1) := by decide +kernel
theorem dX2_beginsWithSlash_24 : decode cX2_beginsWithSlash 24 = .ok (.goto 4, 3) := by decide +kernel
theorem dX2_beginsWithSlash_27 : decode cX2_beginsWithSlash 27 = .ok (.iconst 0, 1) := by decide +kernel
theorem dX2_beginsWithSlash_28 : decode cX2_beginsWithSlash 28 = .ok (.ireturn, 1) := by decide +kernel
theorem dX2_hasSlashesAlone_0 : decode cX2_hasSlashesAlone 0 = .ok (.aload_n 0, 1) := by decide +kernel
theorem dX2_hasSlashesAlone_1 : decode cX2_hasSlashesAlone 1 = .ok (.getfield 15, 3) := by decide +kernel
theorem dX2_hasSlashesAlone_4 : decode cX2_hasSlashesAlone 4 = .ok (.istore_n 1, 1) := by decide +kernel
theorem dX2_hasSlashesAlone_5 : decode cX2_hasSlashesAlone 5 = .ok (.iload_n 1, 1) := by decide +kernel
theorem dX2_hasSlashesAlone_6 : decode cX2_hasSlashesAlone 6 = .ok (.bipush 60, 2) := by decide +kernel
theorem dX2_hasSlashesAlone_8 : decode cX2_hasSlashesAlone 8 = .ok (.if_icmp .ge 22, 3) := by decide +kernel
theorem dX2_hasSlashesAlone_11 : decode cX2_hasSlashesAlone 11 = .ok (.aload_n 0, 1) := by decide +kernel
theorem dX2_hasSlashesAlone_12 : decode cX2_hasSlashesAlone 12 = .ok (.getfield 9, 3) := by decide +kernel
theorem dX2_hasSlashesAlone_15 : decode cX2_hasSlashesAlone 15 = .ok (.iload_n 1, 1) := by decide +kernel
theorem dX2_hasSlashesAlone_16 : decode cX2_hasSlashesAlone 16 = .ok (.caload, 1) := by decide +kernel
theorem dX2_hasSlashesAlone_17 : decode cX2_hasSlashesAlone 17 = .ok (.bipush 47, 2) := by decide +kernel
theorem dX2_hasSlashesAlone_19 : decode cX2_hasSlashesAlone 19 = .ok (.if_icmp .eq 5, 3) := by decide +kernel
theorem dX2_hasSlashesAlone_22 : decode cX2_hasSlashesAlone 22 = .ok (.iconst 0, 1) := by decide +kernel
theorem dX2_hasSlashesAlone_23 : decode cX2_hasSlashesAlone 23 = .ok (.ireturn, 1) := by decide +kernel
theorem dX2_hasSlashesAlone_24 : decode cX2_hasSlashesAlone 24 = .ok (.iinc 1 1, 3) := by decide +kernel
theorem dX2_hasSlashesAlone_27 : decode cX2_hasSlashesAlone 27 = .ok (.goto (-22), 3) := by decide +kernel
theorem dX2_hasSlashesAlone_30 : decode cX2_hasSlashesAlone 30 = .ok (.iconst 1, 1) := by decide +kernel
theorem dX2_hasSlashesAlone_31 : decode cX2_hasSlashesAlone 31 = .ok (.ireturn, 1) := by decide +kernel
theorem dX2_take_0 : decode cX2_take 0 = .ok (.aload_n 0, 1) := by decide +kernel
theorem dX2_take_1 : decode cX2_take 1 = .ok (.getfield 15, 3) := by decide +kernel
theorem dX2_take_4 : decode cX2_take 4 = .ok (.bipush 60, 2) := by decide +kernel
theorem dX2_take_6 : decode cX2_take 6 = .ok (.if_icmp .lt 5, 3) := by decide +kernel
theorem dX2_take_9 : decode cX2_take 9 = .ok (.iconst 0, 1) := by decide +kernel
theorem dX2_take_10 : decode cX2_take 10 = .ok (.ireturn, 1) := by decide +kernel
theorem dX2_take_11 : decode cX2_take 11 = .ok (.aload_n 0, 1) := by decide +kernel
theorem dX2_take_12 : decode cX2_take 12 = .ok (.getfield 9, 3) := by decide +kernel
theorem dX2_take_15 : decode cX2_take 15 = .ok (.aload_n 0, 1) := by decide +kernel
theorem dX2_take_16 : decode cX2_take 16 = .ok (.getfield 15, 3) := by decide +kernel
theorem dX2_take_19 : decode cX2_take 19 = .ok (.caload, 1) := by decide +kernel
theorem dX2_take_20 : decode cX2_take 20 = .ok (.istore_n 1, 1) := by decide +kernel
theorem dX2_take_21 : decode cX2_take 21 = .ok (.aload_n 0, 1) := by decide +kernel
theorem dX2_take_22 : decode cX2_take 22 = .ok (.dup, 1) := by decide +kernel
theorem dX2_take_23 : decode cX2_take 23 = .ok (.getfield 15, 3) := by decide +kernel
theorem dX2_take_26 : decode cX2_take 26 = .ok (.iconst 1, 1) := by decide +kernel
theorem dX2_take_27 : decode cX2_take 27 = .ok (.iadd, 1) := by decide +kernel
theorem dX2_take_28 : decode cX2_take 28 = .ok (.putfield 15, 3) := by decide +kernel
theorem dX2_take_31 : decode cX2_take 31 = .ok (.iload_n 1, 1) := by decide +kernel
theorem dX2_take_32 : decode cX2_take 32 = .ok (.ireturn, 1) := by decide +kernel
theorem dX2_putBefore_0 : decode cX2_putBefore 0 = .ok (.aload_n 0, 1) := by decide +kernel
theorem dX2_putBefore_1 : decode cX2_putBefore 1 = .ok (.getfield 15, 3) := by decide +kernel
theorem dX2_putBefore_4 : decode cX2_putBefore 4 = .ok (.ifCond .le 23, 3) := by decide +kernel
theorem dX2_putBefore_7 : decode cX2_putBefore 7 = .ok (.aload_n 0, 1) := by decide +kernel
theorem dX2_putBefore_8 : decode cX2_putBefore 8 = .ok (.dup, 1) := by decide +kernel
theorem dX2_putBefore_9 : decode cX2_putBefore 9 = .ok (.getfield 15, 3) := by decide +kernel
theorem dX2_putBefore_12 : decode cX2_putBefore 12 = .ok (.iconst 1, 1) := by decide +kernel
theorem dX2_putBefore_13 : decode cX2_putBefore 13 = .ok (.isub, 1) := by decide +kernel
theorem dX2_putBefore_14 : decode cX2_putBefore 14 = .ok (.putfield 15, 3) := by decide +kernel
theorem dX2_putBefore_17 : decode cX2_putBefore 17 = .ok (.aload_n 0, 1) := by decide +kernel
theorem dX2_putBefore_18 : decode cX2_putBefore 18 = .ok (.getfield 9, 3) := by decide +kernel
theorem dX2_putBefore_21 : decode cX2_putBefore 21 = .ok (.aload_n 0, 1) := by decide +kernel
theorem dX2_putBefore_22 : decode cX2_putBefore 22 = .ok (.getfield 15, 3) := by decide +kernel
theorem dX2_putBefore_25 : decode cX2_putBefore 25 = .ok (.iload_n 1, 1) := by decide +kernel
theorem dX2_putBefore_26 : decode cX2_putBefore 26 = .ok (.castore, 1) := by decide +kernel
theorem dX2_putBefore_27 : decode cX2_putBefore 27 = .ok (.return_, 1) := by decide +kernel
theorem dX2_putLineBefore_0 : decode cX2_putLineBefore 0 = .ok (.aload_n 1, 1) := by decide +kernel
theorem dX2_putLineBefore_1 : decode cX2_putLineBefore 1 = .ok (.invokevirtual 19, 3) := by decide +kernel
theorem dX2_putLineBefore_4 : decode cX2_putLineBefore 4 = .ok (.aload_n 0, 1) := by decide +kernel
theorem dX2_putLineBefore_5 : decode cX2_putLineBefore 5 = .ok (.getfield 15, 3) := by decide +kernel
theorem dX2_putLineBefore_8 : decode cX2_putLineBefore 8 = .ok (.if_icmp .le 5, 3) := by decide +kernel
theorem dX2_putLineBefore_11 : decode cX2_putLineBefore 11 = .ok (.iconst 0, 1) := by decide +kernel
theorem dX2_putLineBefore_12 : decode cX2_putLineBefore 12 = .ok (.ireturn, 1) := by decide +kernel
theorem dX2_putLineBefore_13 : decode cX2_putLineBefore 13 = .ok (.aload_n 1, 1) := by decide +kernel
theorem dX2_putLineBefore_14 : decode cX2_putLineBefore 14 = .ok (.invokevirtual 19, 3) := by decide +kernel
theorem dX2_putLineBefore_17 : decode cX2_putLineBefore 17 = .ok (.iconst 1, 1) := by decide +kernel
theorem dX2_putLineBefore_18 : decode cX2_putLineBefore 18 = .ok (.isub, 1) := by decide +kernel
theorem dX2_putLineBefore_19 : decode cX2_putLineBefore 19 = .ok (.istore_n 2, 1) := by decide +kernel
theorem dX2_putLineBefore_20 : decode cX2_putLineBefore 20 = .ok (.iload_n 2, 1) := by decide +kernel
theorem dX2_putLineBefore_21 : decode cX2_putLineBefore 21 = .ok (.ifCond .lt 18, 3) := by decide +kernel
theorem dX2_putLineBefore_24 : decode cX2_putLineBefore 24 = .ok (.aload_n 0, 1) := by decide +kernel
theorem dX2_putLineBefore_25 : decode cX2_putLineBefore 25 = .ok (.aload_n 1, 1) := by decide +kernel
theorem dX2_putLineBefore_26 : decode cX2_putLineBefore 26 = .ok (.iload_n 2, 1) := by decide +kernel
theorem dX2_putLineBefore_27 : decode cX2_putLineBefore 27 = .ok (.invokevirtual 25, 3) := by decide +kernel
theorem dX2_putLineBefore_30 : decode cX2_putLineBefore 30 = .ok (.invokevirtual 29, 3) := by decide +kernel
theorem dX2_putLineBefore_33 : decode cX2_putLineBefore 33 = .ok (.iinc 2 (-1), 3) := by decide +kernel
theorem dX2_putLineBefore_36 : decode cX2_putLineBefore 36 = .ok (.goto (-16), 3) := by decide +kernel
theorem dX2_putLineBefore_39 : decode cX2_putLineBefore 39 = .ok (.iconst 1, 1) := by decide +kernel
theorem dX2_putLineBefore_40 : decode cX2_putLineBefore 40 = .ok (.ireturn, 1) := by decide +kernel
theorem dX2_putNameBefore_0 : decode cX2_putNameBefore 0 = .ok (.lload_n 1, 1) := by decide +kernel
theorem dX2_putNameBefore_1 : decode cX2_putNameBefore 1 = .ok (.lstore_n 3, 1) := by decide +kernel
theorem dX2_putNameBefore_2 : decode cX2_putNameBefore 2 = .ok (.iconst 0, 1) := by decide +kernel
theorem dX2_putNameBefore_3 : decode cX2_putNameBefore 3 = .ok (.istore 5, 2) := by decide +kernel
theorem dX2_putNameBefore_5 : decode cX2_putNameBefore 5 = .ok (.iload 5, 2) := by decide +kernel
theorem dX2_putNameBefore_7 : decode cX2_putNameBefore 7 = .ok (.bipush 6, 2) := by decide +kernel
theorem dX2_putNameBefore_9 : decode cX2_putNameBefore 9 = .ok (.if_icmp .ge 31, 3) := by decide +kernel
theorem dX2_putNameBefore_12 : decode cX2_putNameBefore 12 = .ok (.lload_n 3, 1) := by decide +kernel
theorem dX2_putNameBefore_13 : decode cX2_putNameBefore 13 = .ok (.lconst 0, 1) := by decide +kernel
theorem dX2_putNameBefore_14 : decode cX2_putNameBefore 14 = .ok (.lcmp, 1) := by decide +kernel
theorem dX2_putNameBefore_15 : decode cX2_putNameBefore 15 = .ok (.ifCond .eq 25, 3) := by decide +kernel
theorem dX2_putNameBefore_18 : decode cX2_putNameBefore 18 = .ok (.aload_n 0, 1) := by decide +kernel
theorem dX2_putNameBefore_19 : decode cX2_putNameBefore 19 = .ok (.lload_n 3, 1) := by decide +kernel
theorem dX2_putNameBefore_20 : decode cX2_putNameBefore 20 = .ok (.ldc2_w 33, 3) := by decide +kernel
theorem dX2_putNameBefore_23 : decode cX2_putNameBefore 23 = .ok (.land, 1) := by decide +kernel
theorem dX2_putNameBefore_24 : decode cX2_putNameBefore 24 = .ok (.l2i, 1) := by decide +kernel
theorem dX2_putNameBefore_25 : decode cX2_putNameBefore 25 = .ok (.i2c, 1) := by decide +kernel
theorem dX2_putNameBefore_26 : decode cX2_putNameBefore 26 = .ok (.invokevirtual 29, 3) := by decide +kernel
theorem dX2_putNameBefore_29 : decode cX2_putNameBefore 29 = .ok (.lload_n 3, 1) := by decide +kernel
theorem dX2_putNameBefore_30 : decode cX2_putNameBefore 30 = .ok (.bipush 8, 2) := by decide +kernel
theorem dX2_putNameBefore_32 : decode cX2_putNameBefore 32 = .ok (.lushr, 1) := by decide +kernel
theorem dX2_putNameBefore_33 : decode cX2_putNameBefore 33 = .ok (.lstore_n 3, 1) := by decide +kernel
theorem dX2_putNameBefore_34 : decode cX2_putNameBefore 34 = .ok (.iinc 5 1, 3) := by decide +kernel
theorem dX2_putNameBefore_37 : decode cX2_putNameBefore 37 = .ok (.goto (-32), 3) := by decide +kernel
theorem dX2_putNameBefore_40 : decode cX2_putNameBefore 40 = .ok (.aload_n 0, 1) := by decide +kernel
theorem dX2_putNameBefore_41 : decode cX2_putNameBefore 41 = .ok (.bipush 47, 2) := by decide +kernel
theorem dX2_putNameBefore_43 : decode cX2_putNameBefore 43 = .ok (.invokevirtual 29, 3) := by decide +kernel
theorem dX2_putNameBefore_46 : decode cX2_putNameBefore 46 = .ok (.return_, 1) := by decide +kernel
theorem dX3_init_0 : decode cX3_init 0 = .ok (.aload_n 0, 1) := by decide +kernel
theorem dX3_init_1 : decode cX3_init 1 = .ok (.invokespecial 1, 3) := by decide +kernel
theorem dX3_init_4 : decode cX3_init 4 = .ok (.aload_n 0, 1) := by decide +kernel
theorem dX3_init_5 : decode cX3_init 5 = .ok (.aload_n 1, 1) := by decide +kernel
theorem dX3_init_6 : decode cX3_init 6 = .ok (.putfield 7, 3) := by decide +kernel
theorem dX3_init_9 : decode cX3_init 9 = .ok (.return_, 1) := by decide +kernel
theorem dX3_may_0 : decode cX3_may 0 = .ok (.aload_n 0, 1) := by decide +kernel
theorem dX3_may_1 : decode cX3_may 1 = .ok (.getfield 7, 3) := by decide +kernel
theorem dX3_may_4 : decode cX3_may 4 = .ok (.iload_n 2, 1) := by decide +kernel
theorem dX3_may_5 : decode cX3_may 5 = .ok (.invokevirtual 13, 3) := by decide +kernel
theorem dX3_may_8 : decode cX3_may 8 = .ok (.istore_n 3, 1) := by decide +kernel
theorem dX3_may_9 : decode cX3_may 9 = .ok (.aload_n 0, 1) := by decide +kernel
theorem dX3_may_10 : decode cX3_may 10 = .ok (.getfield 19, 3) := by decide +kernel
theorem dX3_may_13 : decode cX3_may 13 = .ok (.aload_n 0, 1) := by decide +kernel
theorem dX3_may_14 : decode cX3_may 14 = .ok (.getfield 7, 3) := by decide +kernel
theorem dX3_may_17 : decode cX3_may 17 = .ok (.iload_n 2, 1) := by decide +kernel
theorem dX3_may_18 : decode cX3_may 18 = .ok (.invokevirtual 23, 3) := by decide +kernel
theorem dX3_may_21 : decode cX3_may 21 = .ok (.if_icmp .ne 9, 3) := by decide +kernel
theorem dX3_may_24 : decode cX3_may 24 = .ok (.iload_n 3, 1) := by decide +kernel
theorem dX3_may_25 : decode cX3_may 25 = .ok (.iconst 4, 1) := by decide +kernel
theorem dX3_may_26 : decode cX3_may 26 = .ok (.idiv, 1) := by decide +kernel
theorem dX3_may_27 : decode cX3_may 27 = .ok (.goto 6, 3) := by decide +kernel
theorem dX3_may_30 : decode cX3_may 30 = .ok (.iload_n 3, 1) := by decide +kernel
theorem dX3_may_31 : decode cX3_may 31 = .ok (.iconst 4, 1) := by decide +kernel
theorem dX3_may_32 : decode cX3_may 32 = .ok (.irem, 1) := by decide +kernel
theorem dX3_may_33 : decode cX3_may 33 = .ok (.istore 4, 2) := by decide +kernel
theorem dX3_may_35 : decode cX3_may 35 = .ok (.aload_n 0, 1) := by decide +kernel
theorem dX3_may_36 : decode cX3_may 36 = .ok (.getfield 19, 3) := by decide +kernel
theorem dX3_may_39 : decode cX3_may 39 = .ok (.ifCond .eq 10, 3) := by decide +kernel
theorem dX3_may_42 : decode cX3_may 42 = .ok (.iload 4, 2) := by decide +kernel
theorem dX3_may_44 : decode cX3_may 44 = .ok (.iload_n 1, 1) := by decide +kernel
theorem dX3_may_45 : decode cX3_may 45 = .ok (.iand, 1) := by decide +kernel
theorem dX3_may_46 : decode cX3_may 46 = .ok (.ifCond .eq 7, 3) := by decide +kernel
theorem dX3_may_49 : decode cX3_may 49 = .ok (.iconst 1, 1) := by decide +kernel
theorem dX3_may_50 : decode cX3_may 50 = .ok (.goto 4, 3) := by decide +kernel
theorem dX3_may_53 : decode cX3_may 53 = .ok (.iconst 0, 1) := by decide +kernel
theorem dX3_may_54 : decode cX3_may 54 = .ok (.ireturn, 1) := by decide +kernel
theorem dX4_init_0 : decode cX4_init 0 = .ok (.aload_n 0, 1) := by decide +kernel
theorem dX4_init_1 : decode cX4_init 1 = .ok (.invokespecial 3, 3) := by decide +kernel
theorem dX4_init_4 : decode cX4_init 4 = .ok (.aload_n 0, 1) := by decide +kernel
theorem dX4_init_5 : decode cX4_init 5 = .ok (.bipush 40, 2) := by decide +kernel
theorem dX4_init_7 : decode cX4_init 7 = .ok (.newarray .int, 2) := by decide +kernel
theorem dX4_init_9 : decode cX4_init 9 = .ok (.putfield 9, 3) := by decide +kernel
theorem dX4_init_12 : decode cX4_init 12 = .ok (.aload_n 0, 1) := by decide +kernel
theorem dX4_init_13 : decode cX4_init 13 = .ok (.bipush 40, 2) := by decide +kernel
theorem dX4_init_15 : decode cX4_init 15 = .ok (.newarray .int, 2) := by decide +kernel
theorem dX4_init_17 : decode cX4_init 17 = .ok (.putfield 15, 3) := by decide +kernel
theorem dX4_init_20 : decode cX4_init 20 = .ok (.aload_n 0, 1) := by decide +kernel
theorem dX4_init_21 : decode cX4_init 21 = .ok (.bipush 40, 2) := by decide +kernel
theorem dX4_init_23 : decode cX4_init 23 = .ok (.newarray .int, 2) := by decide +kernel
theorem dX4_init_25 : decode cX4_init 25 = .ok (.putfield 18, 3) := by decide +kernel
theorem dX4_init_28 : decode cX4_init 28 = .ok (.aload_n 0, 1) := by decide +kernel
theorem dX4_init_29 : decode cX4_init 29 = .ok (.bipush 40, 2) := by decide +kernel
theorem dX4_init_31 : decode cX4_init 31 = .ok (.newarray .int, 2) := by decide +kernel
theorem dX4_init_33 : decode cX4_init 33 = .ok (.putfield 21, 3) := by decide +kernel
theorem dX4_init_36 : decode cX4_init 36 = .ok (.aload_n 0, 1) := by decide +kernel
theorem dX4_init_37 : decode cX4_init 37 = .ok (.bipush 40, 2) := by decide +kernel
theorem dX4_init_39 : decode cX4_init 39 = .ok (.newarray .int, 2) := by decide +kernel
theorem dX4_init_41 : decode cX4_init 41 = .ok (.putfield 24, 3) := by decide +kernel
theorem dX4_init_44 : decode cX4_init 44 = .ok (.aload_n 0, 1) := by decide +kernel
theorem dX4_init_45 : decode cX4_init 45 = .ok (.bipush 40, 2) := by decide +kernel
theorem dX4_init_47 : decode cX4_init 47 = .ok (.anewarray 27, 3) := by decide +kernel
theorem dX4_init_50 : decode cX4_init 50 = .ok (.putfield 29, 3) := by decide +kernel
theorem dX4_init_53 : decode cX4_init 53 = .ok (.return_, 1) := by decide +kernel
end
section
theorem dX4_leastFree_0 : decode cX4_leastFree 0 = .ok (.iconst 0, 1) := by decide +kernel
theorem dX4_leastFree_1 : decode cX4_leastFree 1 = .ok (.istore_n 1, 1) := by decide +kernel
theorem dX4_leastFree_2 : decode cX4_leastFree 2 = .ok (.iload_n 1, 1) := by decide +kernel
theorem dX4_leastFree_3 : decode cX4_leastFree 3 = .ok (.bipush 40, 2) := by decide +kernel
theorem dX4_leastFree_5 : decode cX4_leastFree 5 = .ok (.if_icmp .ge 20, 3) := by decide +kernel
theorem dX4_leastFree_8 : decode cX4_leastFree 8 = .ok (.aload_n 0, 1) := by decide +kernel
theorem dX4_leastFree_9 : decode cX4_leastFree 9 = .ok (.getfield 9, 3) := by decide +kernel
theorem dX4_leastFree_12 : decode cX4_leastFree 12 = .ok (.iload_n 1, 1) := by decide +kernel
theorem dX4_leastFree_13 : decode cX4_leastFree 13 = .ok (.iaload, 1) := by decide +kernel
theorem dX4_leastFree_14 : decode cX4_leastFree 14 = .ok (.ifCond .ne 5, 3) := by decide +kernel
theorem dX4_leastFree_17 : decode cX4_leastFree 17 = .ok (.iload_n 1, 1) := by decide +kernel
theorem dX4_leastFree_18 : decode cX4_leastFree 18 = .ok (.ireturn, 1) := by decide +kernel
theorem dX4_leastFree_19 : decode cX4_leastFree 19 = .ok (.iinc 1 1, 3) := by decide +kernel
theorem dX4_leastFree_22 : decode cX4_leastFree 22 = .ok (.goto (-20), 3) := by decide +kernel
theorem dX4_leastFree_25 : decode cX4_leastFree 25 = .ok (.iconst (-1), 1) := by decide +kernel
theorem dX4_leastFree_26 : decode cX4_leastFree 26 = .ok (.ireturn, 1) := by decide +kernel
theorem dX4_put_0 : decode cX4_put 0 = .ok (.aload_n 0, 1) := by decide +kernel
theorem dX4_put_1 : decode cX4_put 1 = .ok (.getfield 9, 3) := by decide +kernel
theorem dX4_put_4 : decode cX4_put 4 = .ok (.iload_n 1, 1) := by decide +kernel
theorem dX4_put_5 : decode cX4_put 5 = .ok (.iload_n 2, 1) := by decide +kernel
theorem dX4_put_6 : decode cX4_put 6 = .ok (.iastore, 1) := by decide +kernel
theorem dX4_put_7 : decode cX4_put 7 = .ok (.aload_n 0, 1) := by decide +kernel
theorem dX4_put_8 : decode cX4_put 8 = .ok (.getfield 15, 3) := by decide +kernel
theorem dX4_put_11 : decode cX4_put 11 = .ok (.iload_n 1, 1) := by decide +kernel
theorem dX4_put_12 : decode cX4_put 12 = .ok (.iload_n 3, 1) := by decide +kernel
theorem dX4_put_13 : decode cX4_put 13 = .ok (.iastore, 1) := by decide +kernel
theorem dX4_put_14 : decode cX4_put 14 = .ok (.aload_n 0, 1) := by decide +kernel
theorem dX4_put_15 : decode cX4_put 15 = .ok (.getfield 18, 3) := by decide +kernel
theorem dX4_put_18 : decode cX4_put 18 = .ok (.iload_n 1, 1) := by decide +kernel
theorem dX4_put_19 : decode cX4_put 19 = .ok (.iload 4, 2) := by decide +kernel
theorem dX4_put_21 : decode cX4_put 21 = .ok (.iastore, 1) := by decide +kernel
theorem dX4_put_22 : decode cX4_put 22 = .ok (.aload_n 0, 1) := by decide +kernel
theorem dX4_put_23 : decode cX4_put 23 = .ok (.getfield 21, 3) := by decide +kernel
theorem dX4_put_26 : decode cX4_put 26 = .ok (.iload_n 1, 1) := by decide +kernel
theorem dX4_put_27 : decode cX4_put 27 = .ok (.iload 5, 2) := by decide +kernel
theorem dX4_put_29 : decode cX4_put 29 = .ok (.iastore, 1) := by decide +kernel
theorem dX4_put_30 : decode cX4_put 30 = .ok (.aload_n 0, 1) := by decide +kernel
theorem dX4_put_31 : decode cX4_put 31 = .ok (.getfield 24, 3) := by decide +kernel
theorem dX4_put_34 : decode cX4_put 34 = .ok (.iload_n 1, 1) := by decide +kernel
theorem dX4_put_35 : decode cX4_put 35 = .ok (.iload_n 1, 1) := by decide +kernel
theorem dX4_put_36 : decode cX4_put 36 = .ok (.iastore, 1) := by decide +kernel
theorem dX4_put_37 : decode cX4_put 37 = .ok (.return_, 1) := by decide +kernel
theorem dX4_free_0 : decode cX4_free 0 = .ok (.aload_n 0, 1) := by decide +kernel
theorem dX4_free_1 : decode cX4_free 1 = .ok (.getfield 9, 3) := by decide +kernel
theorem dX4_free_4 : decode cX4_free 4 = .ok (.iload_n 1, 1) := by decide +kernel
theorem dX4_free_5 : decode cX4_free 5 = .ok (.iconst 0, 1) := by decide +kernel
theorem dX4_free_6 : decode cX4_free 6 = .ok (.iastore, 1) := by decide +kernel
theorem dX4_free_7 : decode cX4_free 7 = .ok (.return_, 1) := by decide +kernel
theorem dX4_sort_0 : decode cX4_sort 0 = .ok (.aload_n 0, 1) := by decide +kernel
theorem dX4_sort_1 : decode cX4_sort 1 = .ok (.getfield 9, 3) := by decide +kernel
theorem dX4_sort_4 : decode cX4_sort 4 = .ok (.iload_n 1, 1) := by decide +kernel
theorem dX4_sort_5 : decode cX4_sort 5 = .ok (.iaload, 1) := by decide +kernel
theorem dX4_sort_6 : decode cX4_sort 6 = .ok (.ireturn, 1) := by decide +kernel
theorem dX4_isDirectory_0 : decode cX4_isDirectory 0 = .ok (.aload_n 0, 1) := by decide +kernel
theorem dX4_isDirectory_1 : decode cX4_isDirectory 1 = .ok (.getfield 9, 3) := by decide +kernel
theorem dX4_isDirectory_4 : decode cX4_isDirectory 4 = .ok (.iload_n 1, 1) := by decide +kernel
theorem dX4_isDirectory_5 : decode cX4_isDirectory 5 = .ok (.iaload, 1) := by decide +kernel
theorem dX4_isDirectory_6 : decode cX4_isDirectory 6 = .ok (.iconst 1, 1) := by decide +kernel
theorem dX4_isDirectory_7 : decode cX4_isDirectory 7 = .ok (.if_icmp .ne 7, 3) := by decide +kernel
theorem dX4_isDirectory_10 : decode cX4_isDirectory 10 = .ok (.iconst 1, 1) := by decide +kernel
theorem dX4_isDirectory_11 : decode cX4_isDirectory 11 = .ok (.goto 4, 3) := by decide +kernel
theorem dX4_isDirectory_14 : decode cX4_isDirectory 14 = .ok (.iconst 0, 1) := by decide +kernel
theorem dX4_isDirectory_15 : decode cX4_isDirectory 15 = .ok (.ireturn, 1) := by decide +kernel
theorem dX4_isLink_0 : decode cX4_isLink 0 = .ok (.aload_n 0, 1) := by decide +kernel
theorem dX4_isLink_1 : decode cX4_isLink 1 = .ok (.getfield 9, 3) := by decide +kernel
theorem dX4_isLink_4 : decode cX4_isLink 4 = .ok (.iload_n 1, 1) := by decide +kernel
theorem dX4_isLink_5 : decode cX4_isLink 5 = .ok (.iaload, 1) := by decide +kernel
theorem dX4_isLink_6 : decode cX4_isLink 6 = .ok (.iconst 3, 1) := by decide +kernel
theorem dX4_isLink_7 : decode cX4_isLink 7 = .ok (.if_icmp .ne 7, 3) := by decide +kernel
theorem dX4_isLink_10 : decode cX4_isLink 10 = .ok (.iconst 1, 1) := by decide +kernel
theorem dX4_isLink_11 : decode cX4_isLink 11 = .ok (.goto 4, 3) := by decide +kernel
theorem dX4_isLink_14 : decode cX4_isLink 14 = .ok (.iconst 0, 1) := by decide +kernel
theorem dX4_isLink_15 : decode cX4_isLink 15 = .ok (.ireturn, 1) := by decide +kernel
theorem dX4_mode_0 : decode cX4_mode 0 = .ok (.aload_n 0, 1) := by decide +kernel
theorem dX4_mode_1 : decode cX4_mode 1 = .ok (.getfield 15, 3) := by decide +kernel
theorem dX4_mode_4 : decode cX4_mode 4 = .ok (.iload_n 1, 1) := by decide +kernel
theorem dX4_mode_5 : decode cX4_mode 5 = .ok (.iaload, 1) := by decide +kernel
theorem dX4_mode_6 : decode cX4_mode 6 = .ok (.ireturn, 1) := by decide +kernel
theorem dX4_setMode_0 : decode cX4_setMode 0 = .ok (.aload_n 0, 1) := by decide +kernel
theorem dX4_setMode_1 : decode cX4_setMode 1 = .ok (.getfield 15, 3) := by decide +kernel
theorem dX4_setMode_4 : decode cX4_setMode 4 = .ok (.iload_n 1, 1) := by decide +kernel
theorem dX4_setMode_5 : decode cX4_setMode 5 = .ok (.iload_n 2, 1) := by decide +kernel
theorem dX4_setMode_6 : decode cX4_setMode 6 = .ok (.iastore, 1) := by decide +kernel
theorem dX4_setMode_7 : decode cX4_setMode 7 = .ok (.return_, 1) := by decide +kernel
theorem dX4_owner_0 : decode cX4_owner 0 = .ok (.aload_n 0, 1) := by decide +kernel
theorem dX4_owner_1 : decode cX4_owner 1 = .ok (.getfield 18, 3) := by decide +kernel
theorem dX4_owner_4 : decode cX4_owner 4 = .ok (.iload_n 1, 1) := by decide +kernel
theorem dX4_owner_5 : decode cX4_owner 5 = .ok (.iaload, 1) := by decide +kernel
theorem dX4_owner_6 : decode cX4_owner 6 = .ok (.ireturn, 1) := by decide +kernel
theorem dX4_volumeOf_0 : decode cX4_volumeOf 0 = .ok (.aload_n 0, 1) := by decide +kernel
theorem dX4_volumeOf_1 : decode cX4_volumeOf 1 = .ok (.getfield 21, 3) := by decide +kernel
theorem dX4_volumeOf_4 : decode cX4_volumeOf 4 = .ok (.iload_n 1, 1) := by decide +kernel
theorem dX4_volumeOf_5 : decode cX4_volumeOf 5 = .ok (.iaload, 1) := by decide +kernel
theorem dX4_volumeOf_6 : decode cX4_volumeOf 6 = .ok (.ireturn, 1) := by decide +kernel
theorem dX4_parent_0 : decode cX4_parent 0 = .ok (.aload_n 0, 1) := by decide +kernel
theorem dX4_parent_1 : decode cX4_parent 1 = .ok (.getfield 24, 3) := by decide +kernel
theorem dX4_parent_4 : decode cX4_parent 4 = .ok (.iload_n 1, 1) := by decide +kernel
theorem dX4_parent_5 : decode cX4_parent 5 = .ok (.iaload, 1) := by decide +kernel
theorem dX4_parent_6 : decode cX4_parent 6 = .ok (.ireturn, 1) := by decide +kernel
theorem dX4_setParent_0 : decode cX4_setParent 0 = .ok (.aload_n 0, 1) := by decide +kernel
theorem dX4_setParent_1 : decode cX4_setParent 1 = .ok (.getfield 24, 3) := by decide +kernel
theorem dX4_setParent_4 : decode cX4_setParent 4 = .ok (.iload_n 1, 1) := by decide +kernel
theorem dX4_setParent_5 : decode cX4_setParent 5 = .ok (.iload_n 2, 1) := by decide +kernel
theorem dX4_setParent_6 : decode cX4_setParent 6 = .ok (.iastore, 1) := by decide +kernel
theorem dX4_setParent_7 : decode cX4_setParent 7 = .ok (.return_, 1) := by decide +kernel
theorem dX4_target_0 : decode cX4_target 0 = .ok (.aload_n 0, 1) := by decide +kernel
theorem dX4_target_1 : decode cX4_target 1 = .ok (.getfield 29, 3) := by decide +kernel
theorem dX4_target_4 : decode cX4_target 4 = .ok (.iload_n 1, 1) := by decide +kernel
theorem dX4_target_5 : decode cX4_target 5 = .ok (.aaload, 1) := by decide +kernel
theorem dX4_target_6 : decode cX4_target 6 = .ok (.areturn, 1) := by decide +kernel
theorem dX4_setTarget_0 : decode cX4_setTarget 0 = .ok (.aload_n 0, 1) := by decide +kernel
theorem dX4_setTarget_1 : decode cX4_setTarget 1 = .ok (.getfield 29, 3) := by decide +kernel
theorem dX4_setTarget_4 : decode cX4_setTarget 4 = .ok (.iload_n 1, 1) := by decide +kernel
theorem dX4_setTarget_5 : decode cX4_setTarget 5 = .ok (.aaload, 1) := by decide +kernel
theorem dX4_setTarget_6 : decode cX4_setTarget 6 = .ok (.ifnonnull 16, 3) := by decide +kernel
theorem dX4_setTarget_9 : decode cX4_setTarget 9 = .ok (.aload_n 0, 1) := by decide +kernel
theorem dX4_setTarget_10 : decode cX4_setTarget 10 = .ok (.getfield 29, 3) := by decide +kernel
theorem dX4_setTarget_13 : decode cX4_setTarget 13 = .ok (.iload_n 1, 1) := by decide +kernel
theorem dX4_setTarget_14 : decode cX4_setTarget 14 = .ok (.new 27, 3) := by decide +kernel
theorem dX4_setTarget_17 : decode cX4_setTarget 17 = .ok (.dup, 1) := by decide +kernel
theorem dX4_setTarget_18 : decode cX4_setTarget 18 = .ok (.invokespecial 33, 3) := by decide +kernel
theorem dX4_setTarget_21 : decode cX4_setTarget 21 = .ok (.aastore, 1) := by decide +kernel
theorem dX4_setTarget_22 : decode cX4_setTarget 22 = .ok (.aload_n 0, 1) := by decide +kernel
theorem dX4_setTarget_23 : decode cX4_setTarget 23 = .ok (.getfield 29, 3) := by decide +kernel
theorem dX4_setTarget_26 : decode cX4_setTarget 26 = .ok (.iload_n 1, 1) := by decide +kernel
theorem dX4_setTarget_27 : decode cX4_setTarget 27 = .ok (.aaload, 1) := by decide +kernel
theorem dX4_setTarget_28 : decode cX4_setTarget 28 = .ok (.aload_n 2, 1) := by decide +kernel
theorem dX4_setTarget_29 : decode cX4_setTarget 29 = .ok (.invokevirtual 34, 3) := by decide +kernel
theorem dX4_setTarget_32 : decode cX4_setTarget 32 = .ok (.return_, 1) := by decide +kernel
theorem dX5_init_0 : decode cX5_init 0 = .ok (.aload_n 0, 1) := by decide +kernel
theorem dX5_init_1 : decode cX5_init 1 = .ok (.invokespecial 3, 3) := by decide +kernel
theorem dX5_init_4 : decode cX5_init 4 = .ok (.aload_n 0, 1) := by decide +kernel
theorem dX5_init_5 : decode cX5_init 5 = .ok (.iconst 4, 1) := by decide +kernel
theorem dX5_init_6 : decode cX5_init 6 = .ok (.newarray .int, 2) := by decide +kernel
theorem dX5_init_8 : decode cX5_init 8 = .ok (.putfield 9, 3) := by decide +kernel
theorem dX5_init_11 : decode cX5_init 11 = .ok (.aload_n 0, 1) := by decide +kernel
theorem dX5_init_12 : decode cX5_init 12 = .ok (.iconst 4, 1) := by decide +kernel
theorem dX5_init_13 : decode cX5_init 13 = .ok (.newarray .int, 2) := by decide +kernel
theorem dX5_init_15 : decode cX5_init 15 = .ok (.putfield 15, 3) := by decide +kernel
theorem dX5_init_18 : decode cX5_init 18 = .ok (.aload_n 0, 1) := by decide +kernel
theorem dX5_init_19 : decode cX5_init 19 = .ok (.aload_n 1, 1) := by decide +kernel
theorem dX5_init_20 : decode cX5_init 20 = .ok (.putfield 18, 3) := by decide +kernel
theorem dX5_init_23 : decode cX5_init 23 = .ok (.aload_n 0, 1) := by decide +kernel
theorem dX5_init_24 : decode cX5_init 24 = .ok (.getfield 15, 3) := by decide +kernel
theorem dX5_init_27 : decode cX5_init 27 = .ok (.iconst (-1), 1) := by decide +kernel
theorem dX5_init_28 : decode cX5_init 28 = .ok (.invokestatic 22, 3) := by decide +kernel
theorem dX5_init_31 : decode cX5_init 31 = .ok (.return_, 1) := by decide +kernel
theorem dX5_isFull_0 : decode cX5_isFull 0 = .ok (.aload_n 0, 1) := by decide +kernel
theorem dX5_isFull_1 : decode cX5_isFull 1 = .ok (.getfield 28, 3) := by decide +kernel
theorem dX5_isFull_4 : decode cX5_isFull 4 = .ok (.iconst 4, 1) := by decide +kernel
theorem dX5_isFull_5 : decode cX5_isFull 5 = .ok (.if_icmp .lt 7, 3) := by decide +kernel
theorem dX5_isFull_8 : decode cX5_isFull 8 = .ok (.iconst 1, 1) := by decide +kernel
theorem dX5_isFull_9 : decode cX5_isFull 9 = .ok (.goto 4, 3) := by decide +kernel
theorem dX5_isFull_12 : decode cX5_isFull 12 = .ok (.iconst 0, 1) := by decide +kernel
theorem dX5_isFull_13 : decode cX5_isFull 13 = .ok (.ireturn, 1) := by decide +kernel
theorem dX5_add_0 : decode cX5_add 0 = .ok (.aload_n 0, 1) := by decide +kernel
theorem dX5_add_1 : decode cX5_add 1 = .ok (.getfield 28, 3) := by decide +kernel
theorem dX5_add_4 : decode cX5_add 4 = .ok (.iconst 4, 1) := by decide +kernel
theorem dX5_add_5 : decode cX5_add 5 = .ok (.if_icmp .lt 5, 3) := by decide +kernel
theorem dX5_add_8 : decode cX5_add 8 = .ok (.iconst (-1), 1) := by decide +kernel
theorem dX5_add_9 : decode cX5_add 9 = .ok (.ireturn, 1) := by decide +kernel
theorem dX5_add_10 : decode cX5_add 10 = .ok (.aload_n 0, 1) := by decide +kernel
theorem dX5_add_11 : decode cX5_add 11 = .ok (.getfield 9, 3) := by decide +kernel
theorem dX5_add_14 : decode cX5_add 14 = .ok (.aload_n 0, 1) := by decide +kernel
theorem dX5_add_15 : decode cX5_add 15 = .ok (.getfield 28, 3) := by decide +kernel
theorem dX5_add_18 : decode cX5_add 18 = .ok (.iload_n 1, 1) := by decide +kernel
theorem dX5_add_19 : decode cX5_add 19 = .ok (.iastore, 1) := by decide +kernel
theorem dX5_add_20 : decode cX5_add 20 = .ok (.aload_n 0, 1) := by decide +kernel
theorem dX5_add_21 : decode cX5_add 21 = .ok (.dup, 1) := by decide +kernel
theorem dX5_add_22 : decode cX5_add 22 = .ok (.getfield 28, 3) := by decide +kernel
theorem dX5_add_25 : decode cX5_add 25 = .ok (.iconst 1, 1) := by decide +kernel
theorem dX5_add_26 : decode cX5_add 26 = .ok (.iadd, 1) := by decide +kernel
theorem dX5_add_27 : decode cX5_add 27 = .ok (.putfield 28, 3) := by decide +kernel
theorem dX5_add_30 : decode cX5_add 30 = .ok (.aload_n 0, 1) := by decide +kernel
theorem dX5_add_31 : decode cX5_add 31 = .ok (.getfield 28, 3) := by decide +kernel
theorem dX5_add_34 : decode cX5_add 34 = .ok (.iconst 1, 1) := by decide +kernel
theorem dX5_add_35 : decode cX5_add 35 = .ok (.isub, 1) := by decide +kernel
theorem dX5_add_36 : decode cX5_add 36 = .ok (.ireturn, 1) := by decide +kernel
theorem dX5_mayBeMounted_0 : decode cX5_mayBeMounted 0 = .ok (.iload_n 1, 1) := by decide +kernel
theorem dX5_mayBeMounted_1 : decode cX5_mayBeMounted 1 = .ok (.ifCond .le 15, 3) := by decide +kernel
theorem dX5_mayBeMounted_4 : decode cX5_mayBeMounted 4 = .ok (.iload_n 1, 1) := by decide +kernel
theorem dX5_mayBeMounted_5 : decode cX5_mayBeMounted 5 = .ok (.aload_n 0, 1) := by decide +kernel
theorem dX5_mayBeMounted_6 : decode cX5_mayBeMounted 6 = .ok (.getfield 28, 3) := by decide +kernel
theorem dX5_mayBeMounted_9 : decode cX5_mayBeMounted 9 = .ok (.if_icmp .ge 7, 3) := by decide +kernel
theorem dX5_mayBeMounted_12 : decode cX5_mayBeMounted 12 = .ok (.iconst 1, 1) := by decide +kernel
theorem dX5_mayBeMounted_13 : decode cX5_mayBeMounted 13 = .ok (.goto 4, 3) := by decide +kernel
theorem dX5_mayBeMounted_16 : decode cX5_mayBeMounted 16 = .ok (.iconst 0, 1) := by decide +kernel
theorem dX5_mayBeMounted_17 : decode cX5_mayBeMounted 17 = .ok (.ireturn, 1) := by decide +kernel
theorem dX5_isMounted_0 : decode cX5_isMounted 0 = .ok (.aload_n 0, 1) := by decide +kernel
theorem dX5_isMounted_1 : decode cX5_isMounted 1 = .ok (.getfield 15, 3) := by decide +kernel
theorem dX5_isMounted_4 : decode cX5_isMounted 4 = .ok (.iload_n 1, 1) := by decide +kernel
theorem dX5_isMounted_5 : decode cX5_isMounted 5 = .ok (.iaload, 1) := by decide +kernel
theorem dX5_isMounted_6 : decode cX5_isMounted 6 = .ok (.iconst (-1), 1) := by decide +kernel
theorem dX5_isMounted_7 : decode cX5_isMounted 7 = .ok (.if_icmp .eq 7, 3) := by decide +kernel
theorem dX5_isMounted_10 : decode cX5_isMounted 10 = .ok (.iconst 1, 1) := by decide +kernel
theorem dX5_isMounted_11 : decode cX5_isMounted 11 = .ok (.goto 4, 3) := by decide +kernel
theorem dX5_isMounted_14 : decode cX5_isMounted 14 = .ok (.iconst 0, 1) := by decide +kernel
theorem dX5_isMounted_15 : decode cX5_isMounted 15 = .ok (.ireturn, 1) := by decide +kernel
theorem dX5_cover_0 : decode cX5_cover 0 = .ok (.aload_n 0, 1) := by decide +kernel
theorem dX5_cover_1 : decode cX5_cover 1 = .ok (.getfield 15, 3) := by decide +kernel
theorem dX5_cover_4 : decode cX5_cover 4 = .ok (.iload_n 1, 1) := by decide +kernel
theorem dX5_cover_5 : decode cX5_cover 5 = .ok (.iload_n 2, 1) := by decide +kernel
theorem dX5_cover_6 : decode cX5_cover 6 = .ok (.iastore, 1) := by decide +kernel
theorem dX5_cover_7 : decode cX5_cover 7 = .ok (.return_, 1) := by decide +kernel
theorem dX5_uncover_0 : decode cX5_uncover 0 = .ok (.aload_n 0, 1) := by decide +kernel
theorem dX5_uncover_1 : decode cX5_uncover 1 = .ok (.getfield 15, 3) := by decide +kernel
theorem dX5_uncover_4 : decode cX5_uncover 4 = .ok (.iload_n 1, 1) := by decide +kernel
theorem dX5_uncover_5 : decode cX5_uncover 5 = .ok (.iconst (-1), 1) := by decide +kernel
theorem dX5_uncover_6 : decode cX5_uncover 6 = .ok (.iastore, 1) := by decide +kernel
theorem dX5_uncover_7 : decode cX5_uncover 7 = .ok (.return_, 1) := by decide +kernel
theorem dX5_covering_0 : decode cX5_covering 0 = .ok (.iconst 1, 1) := by decide +kernel
theorem dX5_covering_1 : decode cX5_covering 1 = .ok (.istore_n 2, 1) := by decide +kernel
theorem dX5_covering_2 : decode cX5_covering 2 = .ok (.iload_n 2, 1) := by decide +kernel
theorem dX5_covering_3 : decode cX5_covering 3 = .ok (.aload_n 0, 1) := by decide +kernel
theorem dX5_covering_4 : decode cX5_covering 4 = .ok (.getfield 28, 3) := by decide +kernel
theorem dX5_covering_7 : decode cX5_covering 7 = .ok (.if_icmp .ge 21, 3) := by decide +kernel
theorem dX5_covering_10 : decode cX5_covering 10 = .ok (.aload_n 0, 1) := by decide +kernel
theorem dX5_covering_11 : decode cX5_covering 11 = .ok (.getfield 15, 3) := by decide +kernel
theorem dX5_covering_14 : decode cX5_covering 14 = .ok (.iload_n 2, 1) := by decide +kernel
theorem dX5_covering_15 : decode cX5_covering 15 = .ok (.iaload, 1) := by decide +kernel
theorem dX5_covering_16 : decode cX5_covering 16 = .ok (.iload_n 1, 1) := by decide +kernel
theorem dX5_covering_17 : decode cX5_covering 17 = .ok (.if_icmp .ne 5, 3) := by decide +kernel
theorem dX5_covering_20 : decode cX5_covering 20 = .ok (.iload_n 2, 1) := by decide +kernel
theorem dX5_covering_21 : decode cX5_covering 21 = .ok (.ireturn, 1) := by decide +kernel
theorem dX5_covering_22 : decode cX5_covering 22 = .ok (.iinc 2 1, 3) := by decide +kernel
theorem dX5_covering_25 : decode cX5_covering 25 = .ok (.goto (-23), 3) := by decide +kernel
theorem dX5_covering_28 : decode cX5_covering 28 = .ok (.iconst 0, 1) := by decide +kernel
theorem dX5_covering_29 : decode cX5_covering 29 = .ok (.ireturn, 1) := by decide +kernel
theorem dX5_mountedWithRoot_0 : decode cX5_mountedWithRoot 0 = .ok (.iconst 1, 1) := by decide +kernel
theorem dX5_mountedWithRoot_1 : decode cX5_mountedWithRoot 1 = .ok (.istore_n 2, 1) := by decide +kernel
theorem dX5_mountedWithRoot_2 : decode cX5_mountedWithRoot 2 = .ok (.iload_n 2, 1) := by decide +kernel
theorem dX5_mountedWithRoot_3 : decode cX5_mountedWithRoot 3 = .ok (.aload_n 0, 1) := by decide +kernel
theorem dX5_mountedWithRoot_4 : decode cX5_mountedWithRoot 4 = .ok (.getfield 28, 3) := by decide +kernel
theorem dX5_mountedWithRoot_7 : decode cX5_mountedWithRoot 7 = .ok (.if_icmp .ge 31, 3) := by decide +kernel
theorem dX5_mountedWithRoot_10 : decode cX5_mountedWithRoot 10 = .ok (.aload_n 0, 1) := by decide +kernel
theorem dX5_mountedWithRoot_11 : decode cX5_mountedWithRoot 11 = .ok (.getfield 9, 3) := by decide +kernel
theorem dX5_mountedWithRoot_14 : decode cX5_mountedWithRoot 14 = .ok (.iload_n 2, 1) := by decide +kernel
theorem dX5_mountedWithRoot_15 : decode cX5_mountedWithRoot 15 = .ok (.iaload, 1) := by decide +kernel
theorem dX5_mountedWithRoot_16 : decode cX5_mountedWithRoot 16 = .ok (.iload_n 1, 1) := by decide +kernel
theorem dX5_mountedWithRoot_17 : decode cX5_mountedWithRoot 17 = .ok (.if_icmp .ne 15, 3) := by decide +kernel
theorem dX5_mountedWithRoot_20 : decode cX5_mountedWithRoot 20 = .ok (.aload_n 0, 1) := by decide +kernel
theorem dX5_mountedWithRoot_21 : decode cX5_mountedWithRoot 21 = .ok (.getfield 15, 3) := by decide +kernel
theorem dX5_mountedWithRoot_24 : decode cX5_mountedWithRoot 24 = .ok (.iload_n 2, 1) := by decide +kernel
theorem dX5_mountedWithRoot_25 : decode cX5_mountedWithRoot 25 = .ok (.iaload, 1) := by decide +kernel
theorem dX5_mountedWithRoot_26 : decode cX5_mountedWithRoot 26 = .ok (.iconst (-1), 1) := by decide +kernel
theorem dX5_mountedWithRoot_27 : decode cX5_mountedWithRoot 27 = .ok (.if_icmp .eq 5, 3) := by decide +kernel
theorem dX5_mountedWithRoot_30 : decode cX5_mountedWithRoot 30 = .ok (.iload_n 2, 1) := by decide +kernel
theorem dX5_mountedWithRoot_31 : decode cX5_mountedWithRoot 31 = .ok (.ireturn, 1) := by decide +kernel
theorem dX5_mountedWithRoot_32 : decode cX5_mountedWithRoot 32 = .ok (.iinc 2 1, 3) := by decide +kernel
theorem dX5_mountedWithRoot_35 : decode cX5_mountedWithRoot 35 = .ok (.goto (-33), 3) := by decide +kernel
theorem dX5_mountedWithRoot_38 : decode cX5_mountedWithRoot 38 = .ok (.iconst (-1), 1) := by decide +kernel
theorem dX5_mountedWithRoot_39 : decode cX5_mountedWithRoot 39 = .ok (.ireturn, 1) := by decide +kernel
theorem dX5_hasCovered_0 : decode cX5_hasCovered 0 = .ok (.iconst 1, 1) := by decide +kernel
theorem dX5_hasCovered_1 : decode cX5_hasCovered 1 = .ok (.istore_n 2, 1) := by decide +kernel
theorem dX5_hasCovered_2 : decode cX5_hasCovered 2 = .ok (.iload_n 2, 1) := by decide +kernel
theorem dX5_hasCovered_3 : decode cX5_hasCovered 3 = .ok (.aload_n 0, 1) := by decide +kernel
theorem dX5_hasCovered_4 : decode cX5_hasCovered 4 = .ok (.getfield 28, 3) := by decide +kernel
theorem dX5_hasCovered_7 : decode cX5_hasCovered 7 = .ok (.if_icmp .ge 38, 3) := by decide +kernel
theorem dX5_hasCovered_10 : decode cX5_hasCovered 10 = .ok (.aload_n 0, 1) := by decide +kernel
theorem dX5_hasCovered_11 : decode cX5_hasCovered 11 = .ok (.getfield 15, 3) := by decide +kernel
theorem dX5_hasCovered_14 : decode cX5_hasCovered 14 = .ok (.iload_n 2, 1) := by decide +kernel
theorem dX5_hasCovered_15 : decode cX5_hasCovered 15 = .ok (.iaload, 1) := by decide +kernel
theorem dX5_hasCovered_16 : decode cX5_hasCovered 16 = .ok (.iconst (-1), 1) := by decide +kernel
theorem dX5_hasCovered_17 : decode cX5_hasCovered 17 = .ok (.if_icmp .eq 22, 3) := by decide +kernel
theorem dX5_hasCovered_20 : decode cX5_hasCovered 20 = .ok (.aload_n 0, 1) := by decide +kernel
theorem dX5_hasCovered_21 : decode cX5_hasCovered 21 = .ok (.getfield 18, 3) := by decide +kernel
theorem dX5_hasCovered_24 : decode cX5_hasCovered 24 = .ok (.aload_n 0, 1) := by decide +kernel
theorem dX5_hasCovered_25 : decode cX5_hasCovered 25 = .ok (.getfield 15, 3) := by decide +kernel
theorem dX5_hasCovered_28 : decode cX5_hasCovered 28 = .ok (.iload_n 2, 1) := by decide +kernel
theorem dX5_hasCovered_29 : decode cX5_hasCovered 29 = .ok (.iaload, 1) := by decide +kernel
theorem dX5_hasCovered_30 : decode cX5_hasCovered 30 = .ok (.invokevirtual 32, 3) := by decide +kernel
theorem dX5_hasCovered_33 : decode cX5_hasCovered 33 = .ok (.iload_n 1, 1) := by decide +kernel
theorem dX5_hasCovered_34 : decode cX5_hasCovered 34 = .ok (.if_icmp .ne 5, 3) := by decide +kernel
theorem dX5_hasCovered_37 : decode cX5_hasCovered 37 = .ok (.iconst 1, 1) := by decide +kernel
theorem dX5_hasCovered_38 : decode cX5_hasCovered 38 = .ok (.ireturn, 1) := by decide +kernel
theorem dX5_hasCovered_39 : decode cX5_hasCovered 39 = .ok (.iinc 2 1, 3) := by decide +kernel
theorem dX5_hasCovered_42 : decode cX5_hasCovered 42 = .ok (.goto (-40), 3) := by decide +kernel
theorem dX5_hasCovered_45 : decode cX5_hasCovered 45 = .ok (.iconst 0, 1) := by decide +kernel
theorem dX5_hasCovered_46 : decode cX5_hasCovered 46 = .ok (.ireturn, 1) := by decide +kernel
theorem dX5_top_0 : decode cX5_top 0 = .ok (.iload_n 1, 1) := by decide +kernel
theorem dX5_top_1 : decode cX5_top 1 = .ok (.istore_n 2, 1) := by decide +kernel
theorem dX5_top_2 : decode cX5_top 2 = .ok (.iconst 0, 1) := by decide +kernel
theorem dX5_top_3 : decode cX5_top 3 = .ok (.istore_n 3, 1) := by decide +kernel
theorem dX5_top_4 : decode cX5_top 4 = .ok (.iload_n 3, 1) := by decide +kernel
theorem dX5_top_5 : decode cX5_top 5 = .ok (.iconst 4, 1) := by decide +kernel
theorem dX5_top_6 : decode cX5_top 6 = .ok (.if_icmp .ge 31, 3) := by decide +kernel
theorem dX5_top_9 : decode cX5_top 9 = .ok (.aload_n 0, 1) := by decide +kernel
theorem dX5_top_10 : decode cX5_top 10 = .ok (.iload_n 2, 1) := by decide +kernel
theorem dX5_top_11 : decode cX5_top 11 = .ok (.invokevirtual 38, 3) := by decide +kernel
theorem dX5_top_14 : decode cX5_top 14 = .ok (.istore 4, 2) := by decide +kernel
theorem dX5_top_16 : decode cX5_top 16 = .ok (.iload 4, 2) := by decide +kernel
theorem dX5_top_18 : decode cX5_top 18 = .ok (.ifCond .ne 5, 3) := by decide +kernel
theorem dX5_top_21 : decode cX5_top 21 = .ok (.iload_n 2, 1) := by decide +kernel
theorem dX5_top_22 : decode cX5_top 22 = .ok (.ireturn, 1) := by decide +kernel
theorem dX5_top_23 : decode cX5_top 23 = .ok (.aload_n 0, 1) := by decide +kernel
theorem dX5_top_24 : decode cX5_top 24 = .ok (.getfield 9, 3) := by decide +kernel
theorem dX5_top_27 : decode cX5_top 27 = .ok (.iload 4, 2) := by decide +kernel
theorem dX5_top_29 : decode cX5_top 29 = .ok (.iaload, 1) := by decide +kernel
theorem dX5_top_30 : decode cX5_top 30 = .ok (.istore_n 2, 1) := by decide +kernel
theorem dX5_top_31 : decode cX5_top 31 = .ok (.iinc 3 1, 3) := by decide +kernel
theorem dX5_top_34 : decode cX5_top 34 = .ok (.goto (-30), 3) := by decide +kernel
theorem dX5_top_37 : decode cX5_top 37 = .ok (.iload_n 2, 1) := by decide +kernel
theorem dX5_top_38 : decode cX5_top 38 = .ok (.ireturn, 1) := by decide +kernel
theorem dX5_ground_0 : decode cX5_ground 0 = .ok (.iload_n 1, 1) := by decide +kernel
theorem dX5_ground_1 : decode cX5_ground 1 = .ok (.istore_n 2, 1) := by decide +kernel
theorem dX5_ground_2 : decode cX5_ground 2 = .ok (.iconst 0, 1) := by decide +kernel
theorem dX5_ground_3 : decode cX5_ground 3 = .ok (.istore_n 3, 1) := by decide +kernel
theorem dX5_ground_4 : decode cX5_ground 4 = .ok (.iload_n 3, 1) := by decide +kernel
theorem dX5_ground_5 : decode cX5_ground 5 = .ok (.iconst 4, 1) := by decide +kernel
theorem dX5_ground_6 : decode cX5_ground 6 = .ok (.if_icmp .ge 32, 3) := by decide +kernel
theorem dX5_ground_9 : decode cX5_ground 9 = .ok (.aload_n 0, 1) := by decide +kernel
theorem dX5_ground_10 : decode cX5_ground 10 = .ok (.iload_n 2, 1) := by decide +kernel
theorem dX5_ground_11 : decode cX5_ground 11 = .ok (.invokevirtual 41, 3) := by decide +kernel
theorem dX5_ground_14 : decode cX5_ground 14 = .ok (.istore 4, 2) := by decide +kernel
theorem dX5_ground_16 : decode cX5_ground 16 = .ok (.iload 4, 2) := by decide +kernel
theorem dX5_ground_18 : decode cX5_ground 18 = .ok (.iconst (-1), 1) := by decide +kernel
theorem dX5_ground_19 : decode cX5_ground 19 = .ok (.if_icmp .ne 5, 3) := by decide +kernel
theorem dX5_ground_22 : decode cX5_ground 22 = .ok (.iload_n 2, 1) := by decide +kernel
theorem dX5_ground_23 : decode cX5_ground 23 = .ok (.ireturn, 1) := by decide +kernel
theorem dX5_ground_24 : decode cX5_ground 24 = .ok (.aload_n 0, 1) := by decide +kernel
theorem dX5_ground_25 : decode cX5_ground 25 = .ok (.getfield 15, 3) := by decide +kernel
theorem dX5_ground_28 : decode cX5_ground 28 = .ok (.iload 4, 2) := by decide +kernel
theorem dX5_ground_30 : decode cX5_ground 30 = .ok (.iaload, 1) := by decide +kernel
theorem dX5_ground_31 : decode cX5_ground 31 = .ok (.istore_n 2, 1) := by decide +kernel
theorem dX5_ground_32 : decode cX5_ground 32 = .ok (.iinc 3 1, 3) := by decide +kernel
theorem dX5_ground_35 : decode cX5_ground 35 = .ok (.goto (-31), 3) := by decide +kernel
theorem dX5_ground_38 : decode cX5_ground 38 = .ok (.iload_n 2, 1) := by decide +kernel
theorem dX5_ground_39 : decode cX5_ground 39 = .ok (.ireturn, 1) := by decide +kernel
theorem dX5_above_0 : decode cX5_above 0 = .ok (.iload_n 1, 1) := by decide +kernel
theorem dX5_above_1 : decode cX5_above 1 = .ok (.iload_n 2, 1) := by decide +kernel
theorem dX5_above_2 : decode cX5_above 2 = .ok (.if_icmp .ne 7, 3) := by decide +kernel
theorem dX5_above_5 : decode cX5_above 5 = .ok (.iload_n 2, 1) := by decide +kernel
theorem dX5_above_6 : decode cX5_above 6 = .ok (.goto 19, 3) := by decide +kernel
theorem dX5_above_9 : decode cX5_above 9 = .ok (.aload_n 0, 1) := by decide +kernel
theorem dX5_above_10 : decode cX5_above 10 = .ok (.aload_n 0, 1) := by decide +kernel
theorem dX5_above_11 : decode cX5_above 11 = .ok (.getfield 18, 3) := by decide +kernel
theorem dX5_above_14 : decode cX5_above 14 = .ok (.aload_n 0, 1) := by decide +kernel
theorem dX5_above_15 : decode cX5_above 15 = .ok (.iload_n 1, 1) := by decide +kernel
theorem dX5_above_16 : decode cX5_above 16 = .ok (.invokevirtual 44, 3) := by decide +kernel
theorem dX5_above_19 : decode cX5_above 19 = .ok (.invokevirtual 47, 3) := by decide +kernel
theorem dX5_above_22 : decode cX5_above 22 = .ok (.invokevirtual 50, 3) := by decide +kernel
theorem dX5_above_25 : decode cX5_above 25 = .ok (.ireturn, 1) := by decide +kernel
theorem dX6_init_0 : decode cX6_init 0 = .ok (.aload_n 0, 1) := by decide +kernel
theorem dX6_init_1 : decode cX6_init 1 = .ok (.invokespecial 3, 3) := by decide +kernel
theorem dX6_init_4 : decode cX6_init 4 = .ok (.aload_n 0, 1) := by decide +kernel
theorem dX6_init_5 : decode cX6_init 5 = .ok (.new 9, 3) := by decide +kernel
theorem dX6_init_8 : decode cX6_init 8 = .ok (.dup, 1) := by decide +kernel
theorem dX6_init_9 : decode cX6_init 9 = .ok (.invokespecial 11, 3) := by decide +kernel
theorem dX6_init_12 : decode cX6_init 12 = .ok (.putfield 12, 3) := by decide +kernel
theorem dX6_init_15 : decode cX6_init 15 = .ok (.aload_n 0, 1) := by decide +kernel
theorem dX6_init_16 : decode cX6_init 16 = .ok (.aload_n 1, 1) := by decide +kernel
theorem dX6_init_17 : decode cX6_init 17 = .ok (.putfield 18, 3) := by decide +kernel
theorem dX6_init_20 : decode cX6_init 20 = .ok (.aload_n 0, 1) := by decide +kernel
theorem dX6_init_21 : decode cX6_init 21 = .ok (.aload_n 2, 1) := by decide +kernel
theorem dX6_init_22 : decode cX6_init 22 = .ok (.putfield 22, 3) := by decide +kernel
theorem dX6_init_25 : decode cX6_init 25 = .ok (.aload_n 0, 1) := by decide +kernel
theorem dX6_init_26 : decode cX6_init 26 = .ok (.aload_n 3, 1) := by decide +kernel
theorem dX6_init_27 : decode cX6_init 27 = .ok (.putfield 26, 3) := by decide +kernel
theorem dX6_init_30 : decode cX6_init 30 = .ok (.aload_n 0, 1) := by decide +kernel
theorem dX6_init_31 : decode cX6_init 31 = .ok (.aload 4, 2) := by decide +kernel
theorem dX6_init_33 : decode cX6_init 33 = .ok (.putfield 30, 3) := by decide +kernel
theorem dX6_init_36 : decode cX6_init 36 = .ok (.return_, 1) := by decide +kernel
theorem dX6_place_0 : decode cX6_place 0 = .ok (.aload_n 0, 1) := by decide +kernel
theorem dX6_place_1 : decode cX6_place 1 = .ok (.getfield 34, 3) := by decide +kernel
theorem dX6_place_4 : decode cX6_place 4 = .ok (.ireturn, 1) := by decide +kernel
theorem dX6_name_0 : decode cX6_name 0 = .ok (.aload_n 0, 1) := by decide +kernel
theorem dX6_name_1 : decode cX6_name 1 = .ok (.getfield 38, 3) := by decide +kernel
theorem dX6_name_4 : decode cX6_name 4 = .ok (.lreturn, 1) := by decide +kernel
theorem dX6_isSlashed_0 : decode cX6_isSlashed 0 = .ok (.aload_n 0, 1) := by decide +kernel
theorem dX6_isSlashed_1 : decode cX6_isSlashed 1 = .ok (.getfield 42, 3) := by decide +kernel
theorem dX6_isSlashed_4 : decode cX6_isSlashed 4 = .ok (.ireturn, 1) := by decide +kernel
theorem dX6_isOnDots_0 : decode cX6_isOnDots 0 = .ok (.aload_n 0, 1) := by decide +kernel
theorem dX6_isOnDots_1 : decode cX6_isOnDots 1 = .ok (.getfield 38, 3) := by decide +kernel
theorem dX6_isOnDots_4 : decode cX6_isOnDots 4 = .ok (.ldc2_w 46, 3) := by decide +kernel
theorem dX6_isOnDots_7 : decode cX6_isOnDots 7 = .ok (.lcmp, 1) := by decide +kernel
theorem dX6_isOnDots_8 : decode cX6_isOnDots 8 = .ok (.ifCond .eq 14, 3) := by decide +kernel
theorem dX6_isOnDots_11 : decode cX6_isOnDots 11 = .ok (.aload_n 0, 1) := by decide +kernel
theorem dX6_isOnDots_12 : decode cX6_isOnDots 12 = .ok (.getfield 38, 3) := by decide +kernel
theorem dX6_isOnDots_15 : decode cX6_isOnDots 15 = .ok (.ldc2_w 48, 3) := by decide +kernel
theorem dX6_isOnDots_18 : decode cX6_isOnDots 18 = .ok (.lcmp, 1) := by decide +kernel
theorem dX6_isOnDots_19 : decode cX6_isOnDots 19 = .ok (.ifCond .ne 7, 3) := by decide +kernel
theorem dX6_isOnDots_22 : decode cX6_isOnDots 22 = .ok (.iconst 1, 1) := by decide +kernel
theorem dX6_isOnDots_23 : decode cX6_isOnDots 23 = .ok (.goto 4, 3) := by decide +kernel
theorem dX6_isOnDots_26 : decode cX6_isOnDots 26 = .ok (.iconst 0, 1) := by decide +kernel
theorem dX6_isOnDots_27 : decode cX6_isOnDots 27 = .ok (.ireturn, 1) := by decide +kernel
theorem dX6_through_0 : decode cX6_through 0 = .ok (.aload_n 1, 1) := by decide +kernel
theorem dX6_through_1 : decode cX6_through 1 = .ok (.invokevirtual 50, 3) := by decide +kernel
theorem dX6_through_4 : decode cX6_through 4 = .ok (.ifCond .eq 5, 3) := by decide +kernel
theorem dX6_through_7 : decode cX6_through 7 = .ok (.iconst (-1), 1) := by decide +kernel
theorem dX6_through_8 : decode cX6_through 8 = .ok (.ireturn, 1) := by decide +kernel
theorem dX6_through_9 : decode cX6_through 9 = .ok (.aload_n 0, 1) := by decide +kernel
theorem dX6_through_10 : decode cX6_through 10 = .ok (.aload_n 1, 1) := by decide +kernel
theorem dX6_through_11 : decode cX6_through 11 = .ok (.invokevirtual 56, 3) := by decide +kernel
theorem dX6_through_14 : decode cX6_through 14 = .ok (.iconst 0, 1) := by decide +kernel
theorem dX6_through_15 : decode cX6_through 15 = .ok (.istore_n 3, 1) := by decide +kernel
theorem dX6_through_16 : decode cX6_through 16 = .ok (.iload_n 3, 1) := by decide +kernel
theorem dX6_through_17 : decode cX6_through 17 = .ok (.sipush 1000, 3) := by decide +kernel
theorem dX6_through_20 : decode cX6_through 20 = .ok (.if_icmp .ge 42, 3) := by decide +kernel
theorem dX6_through_23 : decode cX6_through 23 = .ok (.aload_n 0, 1) := by decide +kernel
theorem dX6_through_24 : decode cX6_through 24 = .ok (.invokevirtual 60, 3) := by decide +kernel
theorem dX6_through_27 : decode cX6_through 27 = .ok (.ifCond .eq 35, 3) := by decide +kernel
theorem dX6_through_30 : decode cX6_through 30 = .ok (.aload_n 0, 1) := by decide +kernel
theorem dX6_through_31 : decode cX6_through 31 = .ok (.invokevirtual 63, 3) := by decide +kernel
theorem dX6_through_34 : decode cX6_through 34 = .ok (.istore 4, 2) := by decide +kernel
theorem dX6_through_36 : decode cX6_through 36 = .ok (.iload 4, 2) := by decide +kernel
theorem dX6_through_38 : decode cX6_through 38 = .ok (.ifCond .ne 10, 3) := by decide +kernel
theorem dX6_through_41 : decode cX6_through 41 = .ok (.aload_n 0, 1) := by decide +kernel
theorem dX6_through_42 : decode cX6_through 42 = .ok (.iload_n 2, 1) := by decide +kernel
theorem dX6_through_43 : decode cX6_through 43 = .ok (.invokevirtual 67, 3) := by decide +kernel
theorem dX6_through_46 : decode cX6_through 46 = .ok (.istore 4, 2) := by decide +kernel
theorem dX6_through_48 : decode cX6_through 48 = .ok (.iload 4, 2) := by decide +kernel
theorem dX6_through_50 : decode cX6_through 50 = .ok (.ifCond .eq 6, 3) := by decide +kernel
theorem dX6_through_53 : decode cX6_through 53 = .ok (.iload 4, 2) := by decide +kernel
theorem dX6_through_55 : decode cX6_through 55 = .ok (.ireturn, 1) := by decide +kernel
theorem dX6_through_56 : decode cX6_through 56 = .ok (.iinc 3 1, 3) := by decide +kernel
theorem dX6_through_59 : decode cX6_through 59 = .ok (.goto (-43), 3) := by decide +kernel
theorem dX6_through_62 : decode cX6_through 62 = .ok (.aload_n 0, 1) := by decide +kernel
theorem dX6_through_63 : decode cX6_through 63 = .ok (.getfield 34, 3) := by decide +kernel
theorem dX6_through_66 : decode cX6_through 66 = .ok (.ireturn, 1) := by decide +kernel
theorem dX6_toLastName_0 : decode cX6_toLastName 0 = .ok (.aload_n 0, 1) := by decide +kernel
theorem dX6_toLastName_1 : decode cX6_toLastName 1 = .ok (.aload_n 1, 1) := by decide +kernel
theorem dX6_toLastName_2 : decode cX6_toLastName 2 = .ok (.invokevirtual 56, 3) := by decide +kernel
theorem dX6_toLastName_5 : decode cX6_toLastName 5 = .ok (.iconst 0, 1) := by decide +kernel
theorem dX6_toLastName_6 : decode cX6_toLastName 6 = .ok (.istore_n 2, 1) := by decide +kernel
theorem dX6_toLastName_7 : decode cX6_toLastName 7 = .ok (.iload_n 2, 1) := by decide +kernel
theorem dX6_toLastName_8 : decode cX6_toLastName 8 = .ok (.sipush 1000, 3) := by decide +kernel
theorem dX6_toLastName_11 : decode cX6_toLastName 11 = .ok (.if_icmp .ge 46, 3) := by decide +kernel
theorem dX6_toLastName_14 : decode cX6_toLastName 14 = .ok (.aload_n 0, 1) := by decide +kernel
theorem dX6_toLastName_15 : decode cX6_toLastName 15 = .ok (.invokevirtual 60, 3) := by decide +kernel
theorem dX6_toLastName_18 : decode cX6_toLastName 18 = .ok (.ifCond .eq 39, 3) := by decide +kernel
theorem dX6_toLastName_21 : decode cX6_toLastName 21 = .ok (.aload_n 0, 1) := by decide +kernel
theorem dX6_toLastName_22 : decode cX6_toLastName 22 = .ok (.invokevirtual 63, 3) := by decide +kernel
theorem dX6_toLastName_25 : decode cX6_toLastName 25 = .ok (.istore_n 3, 1) := by decide +kernel
theorem dX6_toLastName_26 : decode cX6_toLastName 26 = .ok (.iload_n 3, 1) := by decide +kernel
theorem dX6_toLastName_27 : decode cX6_toLastName 27 = .ok (.ifCond .ne 10, 3) := by decide +kernel
theorem dX6_toLastName_30 : decode cX6_toLastName 30 = .ok (.aload_n 0, 1) := by decide +kernel
theorem dX6_toLastName_31 : decode cX6_toLastName 31 = .ok (.getfield 71, 3) := by decide +kernel
theorem dX6_toLastName_34 : decode cX6_toLastName 34 = .ok (.ifCond .eq 5, 3) := by decide +kernel
theorem dX6_toLastName_37 : decode cX6_toLastName 37 = .ok (.iload_n 3, 1) := by decide +kernel
theorem dX6_toLastName_38 : decode cX6_toLastName 38 = .ok (.ireturn, 1) := by decide +kernel
theorem dX6_toLastName_39 : decode cX6_toLastName 39 = .ok (.aload_n 0, 1) := by decide +kernel
theorem dX6_toLastName_40 : decode cX6_toLastName 40 = .ok (.iconst 1, 1) := by decide +kernel
theorem dX6_toLastName_41 : decode cX6_toLastName 41 = .ok (.invokevirtual 67, 3) := by decide +kernel
theorem dX6_toLastName_44 : decode cX6_toLastName 44 = .ok (.istore_n 3, 1) := by decide +kernel
theorem dX6_toLastName_45 : decode cX6_toLastName 45 = .ok (.iload_n 3, 1) := by decide +kernel
theorem dX6_toLastName_46 : decode cX6_toLastName 46 = .ok (.ifCond .eq 5, 3) := by decide +kernel
theorem dX6_toLastName_49 : decode cX6_toLastName 49 = .ok (.iload_n 3, 1) := by decide +kernel
theorem dX6_toLastName_50 : decode cX6_toLastName 50 = .ok (.ireturn, 1) := by decide +kernel
theorem dX6_toLastName_51 : decode cX6_toLastName 51 = .ok (.iinc 2 1, 3) := by decide +kernel
theorem dX6_toLastName_54 : decode cX6_toLastName 54 = .ok (.goto (-47), 3) := by decide +kernel
theorem dX6_toLastName_57 : decode cX6_toLastName 57 = .ok (.iconst (-1), 1) := by decide +kernel
theorem dX6_toLastName_58 : decode cX6_toLastName 58 = .ok (.ireturn, 1) := by decide +kernel
theorem dX6_begin_0 : decode cX6_begin 0 = .ok (.aload_n 0, 1) := by decide +kernel
theorem dX6_begin_1 : decode cX6_begin 1 = .ok (.getfield 12, 3) := by decide +kernel
theorem dX6_begin_4 : decode cX6_begin 4 = .ok (.invokevirtual 74, 3) := by decide +kernel
theorem dX6_begin_7 : decode cX6_begin 7 = .ok (.aload_n 0, 1) := by decide +kernel
theorem dX6_begin_8 : decode cX6_begin 8 = .ok (.getfield 12, 3) := by decide +kernel
theorem dX6_begin_11 : decode cX6_begin 11 = .ok (.aload_n 1, 1) := by decide +kernel
theorem dX6_begin_12 : decode cX6_begin 12 = .ok (.invokevirtual 77, 3) := by decide +kernel
theorem dX6_begin_15 : decode cX6_begin 15 = .ok (.pop, 1) := by decide +kernel
theorem dX6_begin_16 : decode cX6_begin 16 = .ok (.aload_n 0, 1) := by decide +kernel
theorem dX6_begin_17 : decode cX6_begin 17 = .ok (.aload_n 0, 1) := by decide +kernel
theorem dX6_begin_18 : decode cX6_begin 18 = .ok (.getfield 12, 3) := by decide +kernel
theorem dX6_begin_21 : decode cX6_begin 21 = .ok (.invokevirtual 81, 3) := by decide +kernel
theorem dX6_begin_24 : decode cX6_begin 24 = .ok (.ifCond .eq 13, 3) := by decide +kernel
theorem dX6_begin_27 : decode cX6_begin 27 = .ok (.aload_n 0, 1) := by decide +kernel
theorem dX6_begin_28 : decode cX6_begin 28 = .ok (.getfield 30, 3) := by decide +kernel
theorem dX6_begin_31 : decode cX6_begin 31 = .ok (.getfield 84, 3) := by decide +kernel
theorem dX6_begin_34 : decode cX6_begin 34 = .ok (.goto 10, 3) := by decide +kernel
theorem dX6_begin_37 : decode cX6_begin 37 = .ok (.aload_n 0, 1) := by decide +kernel
theorem dX6_begin_38 : decode cX6_begin 38 = .ok (.getfield 30, 3) := by decide +kernel
theorem dX6_begin_41 : decode cX6_begin 41 = .ok (.getfield 89, 3) := by decide +kernel
theorem dX6_begin_44 : decode cX6_begin 44 = .ok (.putfield 34, 3) := by decide +kernel
theorem dX6_begin_47 : decode cX6_begin 47 = .ok (.aload_n 0, 1) := by decide +kernel
theorem dX6_begin_48 : decode cX6_begin 48 = .ok (.iconst 0, 1) := by decide +kernel
theorem dX6_begin_49 : decode cX6_begin 49 = .ok (.putfield 92, 3) := by decide +kernel
theorem dX6_begin_52 : decode cX6_begin 52 = .ok (.return_, 1) := by decide +kernel
theorem dX6_hasName_0 : decode cX6_hasName 0 = .ok (.iconst 0, 1) := by decide +kernel
theorem dX6_hasName_1 : decode cX6_hasName 1 = .ok (.istore_n 1, 1) := by decide +kernel
theorem dX6_hasName_2 : decode cX6_hasName 2 = .ok (.iload_n 1, 1) := by decide +kernel
theorem dX6_hasName_3 : decode cX6_hasName 3 = .ok (.bipush 60, 2) := by decide +kernel
theorem dX6_hasName_5 : decode cX6_hasName 5 = .ok (.if_icmp .ge 27, 3) := by decide +kernel
theorem dX6_hasName_8 : decode cX6_hasName 8 = .ok (.aload_n 0, 1) := by decide +kernel
theorem dX6_hasName_9 : decode cX6_hasName 9 = .ok (.getfield 12, 3) := by decide +kernel
theorem dX6_hasName_12 : decode cX6_hasName 12 = .ok (.invokevirtual 81, 3) := by decide +kernel
theorem dX6_hasName_15 : decode cX6_hasName 15 = .ok (.ifCond .eq 17, 3) := by decide +kernel
theorem dX6_hasName_18 : decode cX6_hasName 18 = .ok (.aload_n 0, 1) := by decide +kernel
theorem dX6_hasName_19 : decode cX6_hasName 19 = .ok (.getfield 12, 3) := by decide +kernel
theorem dX6_hasName_22 : decode cX6_hasName 22 = .ok (.invokevirtual 95, 3) := by decide +kernel
theorem dX6_hasName_25 : decode cX6_hasName 25 = .ok (.pop, 1) := by decide +kernel
theorem dX6_hasName_26 : decode cX6_hasName 26 = .ok (.iinc 1 1, 3) := by decide +kernel
theorem dX6_hasName_29 : decode cX6_hasName 29 = .ok (.goto (-27), 3) := by decide +kernel
theorem dX6_hasName_32 : decode cX6_hasName 32 = .ok (.aload_n 0, 1) := by decide +kernel
theorem dX6_hasName_33 : decode cX6_hasName 33 = .ok (.getfield 12, 3) := by decide +kernel
theorem dX6_hasName_36 : decode cX6_hasName 36 = .ok (.invokevirtual 99, 3) := by decide +kernel
theorem dX6_hasName_39 : decode cX6_hasName 39 = .ok (.ifCond .ne 7, 3) := by decide +kernel
theorem dX6_hasName_42 : decode cX6_hasName 42 = .ok (.iconst 1, 1) := by decide +kernel
theorem dX6_hasName_43 : decode cX6_hasName 43 = .ok (.goto 4, 3) := by decide +kernel
theorem dX6_hasName_46 : decode cX6_hasName 46 = .ok (.iconst 0, 1) := by decide +kernel
theorem dX6_hasName_47 : decode cX6_hasName 47 = .ok (.ireturn, 1) := by decide +kernel
theorem dX6_takeName_0 : decode cX6_takeName 0 = .ok (.aload_n 0, 1) := by decide +kernel
theorem dX6_takeName_1 : decode cX6_takeName 1 = .ok (.lconst 0, 1) := by decide +kernel
theorem dX6_takeName_2 : decode cX6_takeName 2 = .ok (.putfield 38, 3) := by decide +kernel
theorem dX6_takeName_5 : decode cX6_takeName 5 = .ok (.aload_n 0, 1) := by decide +kernel
theorem dX6_takeName_6 : decode cX6_takeName 6 = .ok (.getfield 12, 3) := by decide +kernel
theorem dX6_takeName_9 : decode cX6_takeName 9 = .ok (.invokevirtual 100, 3) := by decide +kernel
theorem dX6_takeName_12 : decode cX6_takeName 12 = .ok (.istore_n 1, 1) := by decide +kernel
theorem dX6_takeName_13 : decode cX6_takeName 13 = .ok (.iconst 0, 1) := by decide +kernel
theorem dX6_takeName_14 : decode cX6_takeName 14 = .ok (.istore_n 2, 1) := by decide +kernel
theorem dX6_takeName_15 : decode cX6_takeName 15 = .ok (.iload_n 2, 1) := by decide +kernel
theorem dX6_takeName_16 : decode cX6_takeName 16 = .ok (.bipush 60, 2) := by decide +kernel
theorem dX6_takeName_18 : decode cX6_takeName 18 = .ok (.if_icmp .ge 49, 3) := by decide +kernel
theorem dX6_takeName_21 : decode cX6_takeName 21 = .ok (.aload_n 0, 1) := by decide +kernel
theorem dX6_takeName_22 : decode cX6_takeName 22 = .ok (.getfield 12, 3) := by decide +kernel
theorem dX6_takeName_25 : decode cX6_takeName 25 = .ok (.invokevirtual 99, 3) := by decide +kernel
theorem dX6_takeName_28 : decode cX6_takeName 28 = .ok (.ifCond .ne 39, 3) := by decide +kernel
theorem dX6_takeName_31 : decode cX6_takeName 31 = .ok (.aload_n 0, 1) := by decide +kernel
theorem dX6_takeName_32 : decode cX6_takeName 32 = .ok (.getfield 12, 3) := by decide +kernel
theorem dX6_takeName_35 : decode cX6_takeName 35 = .ok (.invokevirtual 81, 3) := by decide +kernel
theorem dX6_takeName_38 : decode cX6_takeName 38 = .ok (.ifCond .ne 29, 3) := by decide +kernel
theorem dX6_takeName_41 : decode cX6_takeName 41 = .ok (.aload_n 0, 1) := by decide +kernel
theorem dX6_takeName_42 : decode cX6_takeName 42 = .ok (.aload_n 0, 1) := by decide +kernel
theorem dX6_takeName_43 : decode cX6_takeName 43 = .ok (.getfield 38, 3) := by decide +kernel
theorem dX6_takeName_46 : decode cX6_takeName 46 = .ok (.bipush 8, 2) := by decide +kernel
theorem dX6_takeName_48 : decode cX6_takeName 48 = .ok (.lshl, 1) := by decide +kernel
theorem dX6_takeName_49 : decode cX6_takeName 49 = .ok (.aload_n 0, 1) := by decide +kernel
theorem dX6_takeName_50 : decode cX6_takeName 50 = .ok (.getfield 12, 3) := by decide +kernel
theorem dX6_takeName_53 : decode cX6_takeName 53 = .ok (.invokevirtual 95, 3) := by decide +kernel
theorem dX6_takeName_56 : decode cX6_takeName 56 = .ok (.i2l, 1) := by decide +kernel
theorem dX6_takeName_57 : decode cX6_takeName 57 = .ok (.lor, 1) := by decide +kernel
theorem dX6_takeName_58 : decode cX6_takeName 58 = .ok (.putfield 38, 3) := by decide +kernel
theorem dX6_takeName_61 : decode cX6_takeName 61 = .ok (.iinc 2 1, 3) := by decide +kernel
theorem dX6_takeName_64 : decode cX6_takeName 64 = .ok (.goto (-49), 3) := by decide +kernel
theorem dX6_takeName_67 : decode cX6_takeName 67 = .ok (.iload_n 1, 1) := by decide +kernel
theorem dX6_takeName_68 : decode cX6_takeName 68 = .ok (.aload_n 0, 1) := by decide +kernel
theorem dX6_takeName_69 : decode cX6_takeName 69 = .ok (.getfield 12, 3) := by decide +kernel
theorem dX6_takeName_72 : decode cX6_takeName 72 = .ok (.invokevirtual 100, 3) := by decide +kernel
theorem dX6_takeName_75 : decode cX6_takeName 75 = .ok (.isub, 1) := by decide +kernel
theorem dX6_takeName_76 : decode cX6_takeName 76 = .ok (.istore_n 2, 1) := by decide +kernel
theorem dX6_takeName_77 : decode cX6_takeName 77 = .ok (.aload_n 0, 1) := by decide +kernel
theorem dX6_takeName_78 : decode cX6_takeName 78 = .ok (.aload_n 0, 1) := by decide +kernel
theorem dX6_takeName_79 : decode cX6_takeName 79 = .ok (.getfield 12, 3) := by decide +kernel
theorem dX6_takeName_82 : decode cX6_takeName 82 = .ok (.invokevirtual 103, 3) := by decide +kernel
theorem dX6_takeName_85 : decode cX6_takeName 85 = .ok (.putfield 71, 3) := by decide +kernel
theorem dX6_takeName_88 : decode cX6_takeName 88 = .ok (.aload_n 0, 1) := by decide +kernel
theorem dX6_takeName_89 : decode cX6_takeName 89 = .ok (.aload_n 0, 1) := by decide +kernel
theorem dX6_takeName_90 : decode cX6_takeName 90 = .ok (.getfield 12, 3) := by decide +kernel
theorem dX6_takeName_93 : decode cX6_takeName 93 = .ok (.invokevirtual 99, 3) := by decide +kernel
theorem dX6_takeName_96 : decode cX6_takeName 96 = .ok (.ifCond .ne 7, 3) := by decide +kernel
theorem dX6_takeName_99 : decode cX6_takeName 99 = .ok (.iconst 1, 1) := by decide +kernel
theorem dX6_takeName_100 : decode cX6_takeName 100 = .ok (.goto 4, 3) := by decide +kernel
theorem dX6_takeName_103 : decode cX6_takeName 103 = .ok (.iconst 0, 1) := by decide +kernel
theorem dX6_takeName_104 : decode cX6_takeName 104 = .ok (.putfield 42, 3) := by decide +kernel
theorem dX6_takeName_107 : decode cX6_takeName 107 = .ok (.aload_n 0, 1) := by decide +kernel
theorem dX6_takeName_108 : decode cX6_takeName 108 = .ok (.getfield 18, 3) := by decide +kernel
theorem dX6_takeName_111 : decode cX6_takeName 111 = .ok (.aload_n 0, 1) := by decide +kernel
theorem dX6_takeName_112 : decode cX6_takeName 112 = .ok (.getfield 34, 3) := by decide +kernel
theorem dX6_takeName_115 : decode cX6_takeName 115 = .ok (.invokevirtual 106, 3) := by decide +kernel
theorem dX6_takeName_118 : decode cX6_takeName 118 = .ok (.ifCond .ne 6, 3) := by decide +kernel
theorem dX6_takeName_121 : decode cX6_takeName 121 = .ok (.bipush (-2), 2) := by decide +kernel
theorem dX6_takeName_123 : decode cX6_takeName 123 = .ok (.ireturn, 1) := by decide +kernel
theorem dX6_takeName_124 : decode cX6_takeName 124 = .ok (.aload_n 0, 1) := by decide +kernel
theorem dX6_takeName_125 : decode cX6_takeName 125 = .ok (.getfield 30, 3) := by decide +kernel
theorem dX6_takeName_128 : decode cX6_takeName 128 = .ok (.iconst 1, 1) := by decide +kernel
theorem dX6_takeName_129 : decode cX6_takeName 129 = .ok (.aload_n 0, 1) := by decide +kernel
theorem dX6_takeName_130 : decode cX6_takeName 130 = .ok (.getfield 34, 3) := by decide +kernel
theorem dX6_takeName_133 : decode cX6_takeName 133 = .ok (.invokevirtual 112, 3) := by decide +kernel
theorem dX6_takeName_136 : decode cX6_takeName 136 = .ok (.ifCond .ne 6, 3) := by decide +kernel
theorem dX6_takeName_139 : decode cX6_takeName 139 = .ok (.bipush (-3), 2) := by decide +kernel
theorem dX6_takeName_141 : decode cX6_takeName 141 = .ok (.ireturn, 1) := by decide +kernel
theorem dX6_takeName_142 : decode cX6_takeName 142 = .ok (.iload_n 2, 1) := by decide +kernel
theorem dX6_takeName_143 : decode cX6_takeName 143 = .ok (.bipush 6, 2) := by decide +kernel
theorem dX6_takeName_145 : decode cX6_takeName 145 = .ok (.if_icmp .le 8, 3) := by decide +kernel
theorem dX6_takeName_148 : decode cX6_takeName 148 = .ok (.bipush (-5), 2) := by decide +kernel
theorem dX6_takeName_150 : decode cX6_takeName 150 = .ok (.goto 4, 3) := by decide +kernel
theorem dX6_takeName_153 : decode cX6_takeName 153 = .ok (.iconst 0, 1) := by decide +kernel
theorem dX6_takeName_154 : decode cX6_takeName 154 = .ok (.ireturn, 1) := by decide +kernel
theorem dX6_passName_0 : decode cX6_passName 0 = .ok (.aload_n 0, 1) := by decide +kernel
theorem dX6_passName_1 : decode cX6_passName 1 = .ok (.getfield 34, 3) := by decide +kernel
theorem dX6_passName_4 : decode cX6_passName 4 = .ok (.istore_n 2, 1) := by decide +kernel
theorem dX6_passName_5 : decode cX6_passName 5 = .ok (.aload_n 0, 1) := by decide +kernel
theorem dX6_passName_6 : decode cX6_passName 6 = .ok (.getfield 38, 3) := by decide +kernel
theorem dX6_passName_9 : decode cX6_passName 9 = .ok (.ldc2_w 48, 3) := by decide +kernel
theorem dX6_passName_12 : decode cX6_passName 12 = .ok (.lcmp, 1) := by decide +kernel
theorem dX6_passName_13 : decode cX6_passName 13 = .ok (.ifCond .ne 25, 3) := by decide +kernel
theorem dX6_passName_16 : decode cX6_passName 16 = .ok (.aload_n 0, 1) := by decide +kernel
theorem dX6_passName_17 : decode cX6_passName 17 = .ok (.getfield 26, 3) := by decide +kernel
theorem dX6_passName_20 : decode cX6_passName 20 = .ok (.aload_n 0, 1) := by decide +kernel
theorem dX6_passName_21 : decode cX6_passName 21 = .ok (.getfield 34, 3) := by decide +kernel
theorem dX6_passName_24 : decode cX6_passName 24 = .ok (.aload_n 0, 1) := by decide +kernel
theorem dX6_passName_25 : decode cX6_passName 25 = .ok (.getfield 30, 3) := by decide +kernel
theorem dX6_passName_28 : decode cX6_passName 28 = .ok (.getfield 84, 3) := by decide +kernel
theorem dX6_passName_31 : decode cX6_passName 31 = .ok (.invokevirtual 116, 3) := by decide +kernel
theorem dX6_passName_34 : decode cX6_passName 34 = .ok (.istore_n 2, 1) := by decide +kernel
theorem dX6_passName_35 : decode cX6_passName 35 = .ok (.goto 27, 3) := by decide +kernel
theorem dX6_passName_38 : decode cX6_passName 38 = .ok (.aload_n 0, 1) := by decide +kernel
theorem dX6_passName_39 : decode cX6_passName 39 = .ok (.getfield 38, 3) := by decide +kernel
theorem dX6_passName_42 : decode cX6_passName 42 = .ok (.ldc2_w 46, 3) := by decide +kernel
theorem dX6_passName_45 : decode cX6_passName 45 = .ok (.lcmp, 1) := by decide +kernel
theorem dX6_passName_46 : decode cX6_passName 46 = .ok (.ifCond .eq 16, 3) := by decide +kernel
theorem dX6_passName_49 : decode cX6_passName 49 = .ok (.aload_n 0, 1) := by decide +kernel
theorem dX6_passName_50 : decode cX6_passName 50 = .ok (.aload_n 0, 1) := by decide +kernel
theorem dX6_passName_51 : decode cX6_passName 51 = .ok (.getfield 34, 3) := by decide +kernel
theorem dX6_passName_54 : decode cX6_passName 54 = .ok (.aload_n 0, 1) := by decide +kernel
theorem dX6_passName_55 : decode cX6_passName 55 = .ok (.getfield 38, 3) := by decide +kernel
theorem dX6_passName_58 : decode cX6_passName 58 = .ok (.invokevirtual 122, 3) := by decide +kernel
theorem dX6_passName_61 : decode cX6_passName 61 = .ok (.istore_n 2, 1) := by decide +kernel
theorem dX6_passName_62 : decode cX6_passName 62 = .ok (.iload_n 2, 1) := by decide +kernel
theorem dX6_passName_63 : decode cX6_passName 63 = .ok (.iconst (-1), 1) := by decide +kernel
theorem dX6_passName_64 : decode cX6_passName 64 = .ok (.if_icmp .ne 5, 3) := by decide +kernel
theorem dX6_passName_67 : decode cX6_passName 67 = .ok (.iconst (-1), 1) := by decide +kernel
theorem dX6_passName_68 : decode cX6_passName 68 = .ok (.ireturn, 1) := by decide +kernel
theorem dX6_passName_69 : decode cX6_passName 69 = .ok (.aload_n 0, 1) := by decide +kernel
theorem dX6_passName_70 : decode cX6_passName 70 = .ok (.getfield 18, 3) := by decide +kernel
theorem dX6_passName_73 : decode cX6_passName 73 = .ok (.iload_n 2, 1) := by decide +kernel
theorem dX6_passName_74 : decode cX6_passName 74 = .ok (.invokevirtual 126, 3) := by decide +kernel
theorem dX6_passName_77 : decode cX6_passName 77 = .ok (.ifCond .eq 34, 3) := by decide +kernel
theorem dX6_passName_80 : decode cX6_passName 80 = .ok (.aload_n 0, 1) := by decide +kernel
theorem dX6_passName_81 : decode cX6_passName 81 = .ok (.getfield 71, 3) := by decide +kernel
theorem dX6_passName_84 : decode cX6_passName 84 = .ok (.ifCond .eq 14, 3) := by decide +kernel
theorem dX6_passName_87 : decode cX6_passName 87 = .ok (.aload_n 0, 1) := by decide +kernel
theorem dX6_passName_88 : decode cX6_passName 88 = .ok (.getfield 42, 3) := by decide +kernel
theorem dX6_passName_91 : decode cX6_passName 91 = .ok (.ifCond .ne 7, 3) := by decide +kernel
theorem dX6_passName_94 : decode cX6_passName 94 = .ok (.iload_n 1, 1) := by decide +kernel
theorem dX6_passName_95 : decode cX6_passName 95 = .ok (.ifCond .eq 16, 3) := by decide +kernel
theorem dX6_passName_98 : decode cX6_passName 98 = .ok (.aload_n 0, 1) := by decide +kernel
theorem dX6_passName_99 : decode cX6_passName 99 = .ok (.aload_n 0, 1) := by decide +kernel
theorem dX6_passName_100 : decode cX6_passName 100 = .ok (.getfield 18, 3) := by decide +kernel
theorem dX6_passName_103 : decode cX6_passName 103 = .ok (.iload_n 2, 1) := by decide +kernel
theorem dX6_passName_104 : decode cX6_passName 104 = .ok (.invokevirtual 129, 3) := by decide +kernel
theorem dX6_passName_107 : decode cX6_passName 107 = .ok (.invokevirtual 133, 3) := by decide +kernel
theorem dX6_passName_110 : decode cX6_passName 110 = .ok (.ireturn, 1) := by decide +kernel
theorem dX6_passName_111 : decode cX6_passName 111 = .ok (.aload_n 0, 1) := by decide +kernel
theorem dX6_passName_112 : decode cX6_passName 112 = .ok (.iload_n 2, 1) := by decide +kernel
theorem dX6_passName_113 : decode cX6_passName 113 = .ok (.putfield 34, 3) := by decide +kernel
theorem dX6_passName_116 : decode cX6_passName 116 = .ok (.aload_n 0, 1) := by decide +kernel
theorem dX6_passName_117 : decode cX6_passName 117 = .ok (.getfield 42, 3) := by decide +kernel
theorem dX6_passName_120 : decode cX6_passName 120 = .ok (.ifCond .eq 19, 3) := by decide +kernel
theorem dX6_passName_123 : decode cX6_passName 123 = .ok (.aload_n 0, 1) := by decide +kernel
theorem dX6_passName_124 : decode cX6_passName 124 = .ok (.getfield 18, 3) := by decide +kernel
theorem dX6_passName_127 : decode cX6_passName 127 = .ok (.iload_n 2, 1) := by decide +kernel
theorem dX6_passName_128 : decode cX6_passName 128 = .ok (.invokevirtual 106, 3) := by decide +kernel
theorem dX6_passName_131 : decode cX6_passName 131 = .ok (.ifCond .ne 8, 3) := by decide +kernel
theorem dX6_passName_134 : decode cX6_passName 134 = .ok (.bipush (-2), 2) := by decide +kernel
theorem dX6_passName_136 : decode cX6_passName 136 = .ok (.goto 4, 3) := by decide +kernel
theorem dX6_passName_139 : decode cX6_passName 139 = .ok (.iconst 0, 1) := by decide +kernel
theorem dX6_passName_140 : decode cX6_passName 140 = .ok (.ireturn, 1) := by decide +kernel
theorem dX6_topUnder_0 : decode cX6_topUnder 0 = .ok (.aload_n 0, 1) := by decide +kernel
theorem dX6_topUnder_1 : decode cX6_topUnder 1 = .ok (.getfield 22, 3) := by decide +kernel
theorem dX6_topUnder_4 : decode cX6_topUnder 4 = .ok (.iload_n 1, 1) := by decide +kernel
theorem dX6_topUnder_5 : decode cX6_topUnder 5 = .ok (.lload_n 2, 1) := by decide +kernel
theorem dX6_topUnder_6 : decode cX6_topUnder 6 = .ok (.invokevirtual 137, 3) := by decide +kernel
theorem dX6_topUnder_9 : decode cX6_topUnder 9 = .ok (.istore 4, 2) := by decide +kernel
theorem dX6_topUnder_11 : decode cX6_topUnder 11 = .ok (.iload 4, 2) := by decide +kernel
theorem dX6_topUnder_13 : decode cX6_topUnder 13 = .ok (.iconst (-1), 1) := by decide +kernel
theorem dX6_topUnder_14 : decode cX6_topUnder 14 = .ok (.if_icmp .ne 7, 3) := by decide +kernel
theorem dX6_topUnder_17 : decode cX6_topUnder 17 = .ok (.iconst (-1), 1) := by decide +kernel
theorem dX6_topUnder_18 : decode cX6_topUnder 18 = .ok (.goto 19, 3) := by decide +kernel
theorem dX6_topUnder_21 : decode cX6_topUnder 21 = .ok (.aload_n 0, 1) := by decide +kernel
theorem dX6_topUnder_22 : decode cX6_topUnder 22 = .ok (.getfield 26, 3) := by decide +kernel
theorem dX6_topUnder_25 : decode cX6_topUnder 25 = .ok (.aload_n 0, 1) := by decide +kernel
theorem dX6_topUnder_26 : decode cX6_topUnder 26 = .ok (.getfield 22, 3) := by decide +kernel
theorem dX6_topUnder_29 : decode cX6_topUnder 29 = .ok (.iload 4, 2) := by decide +kernel
theorem dX6_topUnder_31 : decode cX6_topUnder 31 = .ok (.invokevirtual 142, 3) := by decide +kernel
theorem dX6_topUnder_34 : decode cX6_topUnder 34 = .ok (.invokevirtual 146, 3) := by decide +kernel
theorem dX6_topUnder_37 : decode cX6_topUnder 37 = .ok (.ireturn, 1) := by decide +kernel
theorem dX6_passLink_0 : decode cX6_passLink 0 = .ok (.aload_n 0, 1) := by decide +kernel
theorem dX6_passLink_1 : decode cX6_passLink 1 = .ok (.dup, 1) := by decide +kernel
theorem dX6_passLink_2 : decode cX6_passLink 2 = .ok (.getfield 92, 3) := by decide +kernel
theorem dX6_passLink_5 : decode cX6_passLink 5 = .ok (.iconst 1, 1) := by decide +kernel
theorem dX6_passLink_6 : decode cX6_passLink 6 = .ok (.iadd, 1) := by decide +kernel
theorem dX6_passLink_7 : decode cX6_passLink 7 = .ok (.putfield 92, 3) := by decide +kernel
theorem dX6_passLink_10 : decode cX6_passLink 10 = .ok (.aload_n 0, 1) := by decide +kernel
theorem dX6_passLink_11 : decode cX6_passLink 11 = .ok (.getfield 92, 3) := by decide +kernel
theorem dX6_passLink_14 : decode cX6_passLink 14 = .ok (.bipush 8, 2) := by decide +kernel
theorem dX6_passLink_16 : decode cX6_passLink 16 = .ok (.if_icmp .le 6, 3) := by decide +kernel
theorem dX6_passLink_19 : decode cX6_passLink 19 = .ok (.bipush (-4), 2) := by decide +kernel
theorem dX6_passLink_21 : decode cX6_passLink 21 = .ok (.ireturn, 1) := by decide +kernel
theorem dX6_passLink_22 : decode cX6_passLink 22 = .ok (.aload_n 1, 1) := by decide +kernel
theorem dX6_passLink_23 : decode cX6_passLink 23 = .ok (.ifnull 14, 3) := by decide +kernel
theorem dX6_passLink_26 : decode cX6_passLink 26 = .ok (.aload_n 0, 1) := by decide +kernel
theorem dX6_passLink_27 : decode cX6_passLink 27 = .ok (.getfield 12, 3) := by decide +kernel
theorem dX6_passLink_30 : decode cX6_passLink 30 = .ok (.aload_n 1, 1) := by decide +kernel
theorem dX6_passLink_31 : decode cX6_passLink 31 = .ok (.invokevirtual 77, 3) := by decide +kernel
theorem dX6_passLink_34 : decode cX6_passLink 34 = .ok (.ifCond .ne 6, 3) := by decide +kernel
theorem dX6_passLink_37 : decode cX6_passLink 37 = .ok (.bipush (-5), 2) := by decide +kernel
theorem dX6_passLink_39 : decode cX6_passLink 39 = .ok (.ireturn, 1) := by decide +kernel
theorem dX6_passLink_40 : decode cX6_passLink 40 = .ok (.aload_n 0, 1) := by decide +kernel
theorem dX6_passLink_41 : decode cX6_passLink 41 = .ok (.getfield 12, 3) := by decide +kernel
theorem dX6_passLink_44 : decode cX6_passLink 44 = .ok (.invokevirtual 81, 3) := by decide +kernel
theorem dX6_passLink_47 : decode cX6_passLink 47 = .ok (.ifCond .eq 14, 3) := by decide +kernel
theorem dX6_passLink_50 : decode cX6_passLink 50 = .ok (.aload_n 0, 1) := by decide +kernel
theorem dX6_passLink_51 : decode cX6_passLink 51 = .ok (.aload_n 0, 1) := by decide +kernel
theorem dX6_passLink_52 : decode cX6_passLink 52 = .ok (.getfield 30, 3) := by decide +kernel
theorem dX6_passLink_55 : decode cX6_passLink 55 = .ok (.getfield 84, 3) := by decide +kernel
theorem dX6_passLink_58 : decode cX6_passLink 58 = .ok (.putfield 34, 3) := by decide +kernel
theorem dX6_passLink_61 : decode cX6_passLink 61 = .ok (.iconst 0, 1) := by decide +kernel
theorem dX6_passLink_62 : decode cX6_passLink 62 = .ok (.ireturn, 1) := by decide +kernel
end
section
/-! my own rows over the kit's: one world shape for all contracts, calls with their frame, returns, reads and writes by a number -/
abbrev GG : Type := va_G × ClassId × ClassId × ClassId × ClassId
def tyG (G : GG) : List (ClassId × FieldType) := [(G.2.1, .int), (G.2.2.1, .long), (G.2.2.2.1, .char), (G.2.2.2.2, .object "MountedPaths$Line")]
abbrev KG (G : GG) (U : State) : Prop := va_K G.1 vwM (tyG G) U ∧ NW U
theorem KG.warm {G : GG} {s U : State} (hW : s.WarmedH U.vm) (h : KG G s) : KG G U := ⟨va_K.moved hW.alike h.1, h.2.warm hW⟩
theorem KG.same {G : GG} {s U : State} (hv : s.vm = U.vm) (h : KG G s) : KG G U := ⟨va_K.moved (hv ▸ Vm.Alike.refl s.vm) h.1, h.2.same hv⟩
theorem inT {c0 : Cond} {l : List Cond} (h : ∀ w ∈ l, w ∈ BIG) : ∀ w ∈ l, w ∈ c0 :: BIG := fun w hw => List.mem_cons_of_mem _ (h w hw)
abbrev PG (G : GG) (ws : va_W) (H : Heap) : Prop := va_P G.1 vwM ws H
abbrev oC (a ci : Nat) (fs : List Value) : Nat × va_E := (a, .inr (ci, fs))
abbrev aI (G : GG) (a n : Nat) (f : Nat → Int32) : Nat × va_E := (a, .inl (G.2.1, n, .inl f))
abbrev aJ (G : GG) (a n : Nat) (f : Nat → Int64) : Nat × va_E := (a, .inl (G.2.2.1, n, .inr (.inl f)))
abbrev aC (G : GG) (a n : Nat) (f : Nat → Int32) : Nat × va_E := (a, .inl (G.2.2.2.1, n, .inl f))
abbrev aL (G : GG) (a n : Nat) (f : Nat → Option Nat) : Nat × va_E := (a, .inl (G.2.2.2.2, n, .inr (.inr (.inr (.inr f)))))
abbrev Rm (fr mc ms lo : Nat) : Room := { frames := fr, cells := mc, slots := ms, locals := lo }
abbrev PreG (G : GG) (av : List Value) (WS : va_W) (sz : Nat) : Array Value → State → Prop := va_Pc av (fun U => U.heap.size = sz ∧ PG G WS U.heap ∧ KG G U ∧ va_D (fun _ => True) WS)
abbrev Bw {S : Type} (G : GG) (A : Nat → Prop) (out : S → va_W) : S → State → Prop := fun u t => PG G (out u) t.heap ∧ va_D A (out u)
abbrev CtI {S : Type} (l : Launch) (G : GG) (y : MethodName) (ws : List Cond) (fr lo mc ms sz : Nat) (av : List Value) (WS : va_W) (post : Int32 → S → Prop) (out : S → va_W) : Prop := Met l y ws (Rm fr mc ms lo) (PreG G av WS sz) (va_Qi post (Bw G (va_A WS sz) out) (va_A WS sz)) mc ms (va_A WS sz)
abbrev CtL {S : Type} (l : Launch) (G : GG) (y : MethodName) (ws : List Cond) (fr lo mc ms sz : Nat) (av : List Value) (WS : va_W) (post : Int64 → S → Prop) (out : S → va_W) : Prop := Met l y ws (Rm fr mc ms lo) (PreG G av WS sz) (va_Ql post (Bw G (va_A WS sz) out) (va_A WS sz)) mc ms (va_A WS sz)
abbrev CtV {S : Type} (l : Launch) (G : GG) (y : MethodName) (ws : List Cond) (fr lo mc ms sz : Nat) (av : List Value) (WS : va_W) (post : S → Prop) (out : S → va_W) : Prop := Met l y ws (Rm fr mc ms lo) (PreG G av WS sz) (va_Qv post (Bw G (va_A WS sz) out) (va_A WS sz)) mc ms (va_A WS sz)
abbrev CtQ {S : Type} (l : Launch) (G : GG) (y : MethodName) (ws : List Cond) (fr lo mc ms sz : Nat) (av : List Value) (WS : va_W) (post : Option Nat → S → Prop) (out : S → va_W) : Prop := Met l y ws (Rm fr mc ms lo) (PreG G av WS sz) (va_Qq post (Bw G (va_A WS sz) out) (va_A WS sz)) mc ms (va_A WS sz)
/-- a proposition as Java's boolean -/
noncomputable def zI (P : Prop) : Int32 := @ite Int32 P (Classical.propDecidable P) (nI 1) (nI 0)
theorem zI_t {P : Prop} (h : P) : zI P = nI 1 := if_pos h
theorem zI_f {P : Prop} (h : ¬ P) : zI P = nI 0 := if_neg h
theorem zI_1 {P : Prop} (h : P) : nI 1 = zI P := (zI_t h).symm
theorem zI_0 {P : Prop} (h : ¬ P) : nI 0 = zI P := (zI_f h).symm
theorem zI_eq0 {P : Prop} : zI P = 0 ↔ ¬ P := by
  by_cases h : P
  · rw [zI_t h]; exact ⟨fun h2 => absurd h2 (by decide), fun h2 => absurd h h2⟩
  · rw [zI_f h]; exact ⟨fun _ => h, fun _ => by decide⟩
theorem zI_ne0 {P : Prop} : ¬ zI P = 0 ↔ P := by rw [zI_eq0, Classical.not_not]
theorem zI_cg {P Q : Prop} (h : P ↔ Q) : zI P = zI Q := by rw [propext h]
theorem zI_nar (P : Prop) : narrow .boolean (.int (zI P)) = .int (zI P) := by
  by_cases h : P
  · rw [zI_t h]; rfl
  · rw [zI_f h]; rfl
theorem zI_fit (P : Prop) : fits .boolean (.int (zI P)) = true := by
  by_cases h : P
  · rw [zI_t h]; rfl
  · rw [zI_f h]; rfl
/-- a choice without a decision at hand -/
noncomputable def pI {α : Type} (P : Prop) (a b : α) : α := @ite α P (Classical.propDecidable P) a b
theorem pI_t {α : Type} {P : Prop} {a b : α} (h : P) : pI P a b = a := if_pos h
theorem pI_f {α : Type} {P : Prop} {a b : α} (h : ¬ P) : pI P a b = b := if_neg h
abbrev ix (i : Int32) : Nat := i.toNatClampNeg
/-- a char's value -/
def okC (x : Int32) : Prop := ∃ q : Nat, q < 65536 ∧ x = nI q
theorem okC_cn {x : Int32} (h : okC x) : narrow .char (.int x) = .int x := by obtain ⟨q, hq, rfl⟩ := h; exact (pk_charN hq).1
theorem okC_fit {x : Int32} (h : okC x) : fits .char (.int x) = true := by obtain ⟨q, hq, rfl⟩ := h; exact (pk_charN hq).2
theorem okC_nar {x : Int32} (h : okC x) : vp_nar .char x = x := by unfold vp_nar; rw [okC_cn h]
theorem okC_n {q : Nat} (h : q < 65536) : okC (nI q) := ⟨q, h, rfl⟩
theorem okC_upd {f : Nat → Int32} {k : Nat} {x : Int32} (hf : ∀ j, okC (f j)) (hx : okC x) : ∀ j, okC (upd f k x j) := fun j => by unfold upd; split; exact hx; exact hf j
theorem okC_cpy {f g : Nat → Int32} {a b n : Nat} (hf : ∀ j, okC (f j)) (hg : ∀ j, okC (g j)) : ∀ j, okC (va_cpy f g a b n j) := fun j => by unfold va_cpy; split; exact hf _; exact hg j
section MKC
variable {p : Program} {l : Launch} {e : Env} {R : Room} {s : State} {m : MethodId} {args : Array Value} {below : List Frame} {meth : Method} {c : Code} {H : Heap} {locs : List Loc} {cells slots mc ms pc : Nat} {Q : State → Prop} {G : GG} {A : Nat → Prop} {ws wc wr WS : va_W} {ls : Array Slot} {rest st0 : List Value} {cc : ByteArray} {nL : Nat} {Ts : List Cond} {own : String} {a : Array Value}
theorem cwVB {c0 : Cond} {C : String} {index maxL : Nat} {y : MethodName} {bytes : ByteArray} {ret : Option FieldType} {wsy : List Cond} {rm : Room} (n : Nat) (hF : CallFix p m c cc nL s args (c0 :: BIG) own) (hws : wsy = Cond.code y bytes maxL ret :: BIG) (hl : Cond.methodLink own index y ∈ BIG) (hi : Cond.instanceMethod y ∈ BIG) (hse : Cond.selects C y y ∈ BIG) (hini : Cond.initialized C ∈ BIG) (hco : Cond.code y bytes maxL ret ∈ BIG) (hC : y.cls = C) (hd : y.cls ≠ "java/lang/invoke/MethodHandle" ∧ y.cls ≠ "java/lang/invoke/VarHandle" ∧ (parseMethodDescriptor y.desc).map (fun d => d.parameters.length) = some n) (hrc : rm.cells = mc) (hrs : rm.slots = ms) (hR : rm.frames + 1 ≤ R.frames ∧ 8 + (maxL + 11) + rm.locals ≤ R.locals) : CallW R s args own C index y bytes maxL ret wsy rm mc ms n := by
  subst hws
  refine cwV n hF.2.2.2.2 ?_ rfl hrc hrs ⟨hC, hd⟩ hR
  exact gBig (c0 := c0) (pre := [.methodLink own index y, .instanceMethod y, .selects C y y, .initialized C, .code y bytes maxL ret]) (by
    intro w hw
    simp only [List.mem_cons, List.not_mem_nil, or_false] at hw
    rcases hw with rfl | rfl | rfl | rfl | rfl <;> assumption)
theorem cwSB {c0 : Cond} {index maxL : Nat} {y : MethodName} {bytes : ByteArray} {ret : Option FieldType} {wsy : List Cond} {rm : Room} (n : Nat) (hF : CallFix p m c cc nL s args (c0 :: BIG) own) (hws : wsy = Cond.code y bytes maxL ret :: BIG) (hl : Cond.methodLink own index y ∈ BIG) (hi : Cond.static y ∈ BIG) (hini : Cond.initialized y.cls ∈ BIG) (hco : Cond.code y bytes maxL ret ∈ BIG) (hd : y.cls ≠ "java/lang/invoke/MethodHandle" ∧ y.cls ≠ "java/lang/invoke/VarHandle" ∧ (parseMethodDescriptor y.desc).map (fun d => d.parameters.length) = some n) (hrc : rm.cells = mc) (hrs : rm.slots = ms) (hR : rm.frames + 1 ≤ R.frames ∧ 8 + (maxL + 11) + rm.locals ≤ R.locals) : CallB R s args own index y bytes maxL ret wsy rm mc ms n ∧ (Cond.static y).before args s = true := by
  subst hws
  refine va_cwS n hF.2.2.2.2 ?_ rfl hrc hrs hd hR
  exact gBig (c0 := c0) (pre := [.methodLink own index y, .static y, .initialized y.cls, .code y bytes maxL ret]) (by
    intro w hw
    simp only [List.mem_cons, List.not_mem_nil, or_false] at hw
    rcases hw with rfl | rfl | rfl | rfl <;> assumption)
theorem cwIB {c0 : Cond} {index maxL : Nat} {y : MethodName} {bytes : ByteArray} {wsy : List Cond} {rm : Room} (n : Nat) (hF : CallFix p m c cc nL s args (c0 :: BIG) own) (hws : wsy = Cond.code y bytes maxL none :: BIG) (hl : Cond.methodLink own index y ∈ BIG) (hi : Cond.instanceMethod y ∈ BIG) (hini : Cond.initialized y.cls ∈ BIG) (hco : Cond.code y bytes maxL none ∈ BIG) (hy1 : y.name = "<init>") (hd : y.cls ≠ "java/lang/invoke/MethodHandle" ∧ y.cls ≠ "java/lang/invoke/VarHandle" ∧ (parseMethodDescriptor y.desc).map (fun d => d.parameters.length) = some n) (hrc : rm.cells = mc) (hrs : rm.slots = ms) (hR : rm.frames + 1 ≤ R.frames ∧ 8 + (maxL + 11) + rm.locals ≤ R.locals) : CallB R s args own index y bytes maxL none wsy rm mc ms n ∧ y.name = "<init>" ∧ (Cond.instanceMethod y).before args s = true := by
  subst hws
  refine cwI n hF.2.2.2.2 ?_ rfl hrc hrs (hF.2.2.2.2 _ (List.mem_cons_of_mem _ hini)) (hF.2.2.2.2 _ (List.mem_cons_of_mem _ hl)) (hF.2.2.2.2 _ (List.mem_cons_of_mem _ hi)) hy1 hd hR
  exact gBig (c0 := c0) (pre := [.code y bytes maxL none]) (by
    intro w hw
    simp only [List.mem_cons, List.not_mem_nil, or_false] at hw
    rcases hw with rfl; assumption)
theorem cwIN {c0 : Cond} {host : String} {index maxL : Nat} {y : MethodName} {bytes : ByteArray} {wsy : List Cond} {rm : Room} (n : Nat) (hF : CallFix p m c cc nL s args (c0 :: BIG) own) (hws : wsy = Cond.code y bytes maxL none :: BIG) (hl : va_Nw (.methodLinkNest own index y host) s) (hi : Cond.instanceMethod y ∈ BIG) (hini : Cond.initialized y.cls ∈ BIG) (hco : Cond.code y bytes maxL none ∈ BIG) (hy1 : y.name = "<init>") (hd : y.cls ≠ "java/lang/invoke/MethodHandle" ∧ y.cls ≠ "java/lang/invoke/VarHandle" ∧ (parseMethodDescriptor y.desc).map (fun d => d.parameters.length) = some n) (hrc : rm.cells = mc) (hrs : rm.slots = ms) (hR : rm.frames + 1 ≤ R.frames ∧ 8 + (maxL + 11) + rm.locals ≤ R.locals) : va_CN R s args own index y host bytes maxL none wsy rm mc ms n ∧ y.name = "<init>" ∧ (Cond.instanceMethod y).before args s = true := by
  subst hws
  refine ⟨va_cnB n hF.2.2.2.2 ?_ rfl hrc hrs hl (hF.2.2.2.2 _ (List.mem_cons_of_mem _ hini)) hd hR, hy1, hF.2.2.2.2 _ (List.mem_cons_of_mem _ hi)⟩
  exact gBig (c0 := c0) (pre := [.code y bytes maxL none]) (by
    intro w hw
    simp only [List.mem_cons, List.not_mem_nil, or_false] at hw
    rcases hw with rfl; assumption)
theorem kPre {b : Nat} {As : List Value} {C : String} (hK : KG G s) (hP : PG G ws H) (hD : va_D A ws) (isC : List Nat) (hn : va_nd isC = true) (hC : isC.map (fun i => ws[i]?) = wc.map some) {q0 ci : Nat} {q : vw_C} {fs : List Value} (hc : vwM[ci]? = some q) (he : ws[q0]? = some (b, .inr (ci, fs))) (hq : q.1 = C) : PreV s H C b (PreG G (.ref b :: As) wc H.size) As := by
  subst hq
  have hPc : PG G wc H := fun k x hk => by
    have h1 : (isC.map (fun i => ws[i]?))[k]? = some (some x) := by rw [hC, List.getElem?_map, hk]; rfl
    rw [List.getElem?_map] at h1
    cases hi : isC[k]? with
    | none => rw [hi] at h1; cases h1
    | some i => rw [hi] at h1; exact hP i x (Option.some.inj h1)
  have hDc := hD.sub isC hn hC
  exact ⟨fun a U g mk z => by obtain ⟨z0, z1, zP, zK, zD⟩ := z; exact ⟨z0, z1, zP, KG.same (s := U) (U := U.calling g mk a) rfl zK, zD⟩, va_recv hK.1 hP hc he, fun U hU hW => ⟨rfl, by rw [hU], by rw [hU]; exact hPc, hK.warm hW, hDc.weaken (fun _ _ _ _ => trivial)⟩⟩
theorem kPreS {As : List Value} (hK : KG G s) (hP : PG G ws H) (hD : va_D A ws) (isC : List Nat) (hn : va_nd isC = true) (hC : isC.map (fun i => ws[i]?) = wc.map some) : PreS s H (PreG G As wc H.size) As := by
  have hPc : PG G wc H := fun k x hk => by
    have h1 : (isC.map (fun i => ws[i]?))[k]? = some (some x) := by rw [hC, List.getElem?_map, hk]; rfl
    rw [List.getElem?_map] at h1
    cases hi : isC[k]? with
    | none => rw [hi] at h1; cases h1
    | some i => rw [hi] at h1; exact hP i x (Option.some.inj h1)
  have hDc := hD.sub isC hn hC
  exact ⟨fun a U g mk z => by obtain ⟨z0, z1, zP, zK, zD⟩ := z; exact ⟨z0, z1, zP, KG.same (s := U) (U := U.calling g mk a) rfl zK, zD⟩, fun U hU hW => ⟨rfl, by rw [hU], by rw [hU]; exact hPc, hK.warm hW, hDc.weaken (fun _ _ _ _ => trivial)⟩⟩
theorem kApp {X pl : va_W} (hP : PG G (X ++ pl) H) : PG G X H := fun k x hx => hP k x (by rw [List.getElem?_append_left (List.getElem?_eq_some_iff.mp hx).1]; exact hx)
theorem kAppD {X pl : va_W} (hD : va_D A (X ++ pl)) : va_D A X := ⟨fun i j x y hx hy h => hD.1 i j x y (by rw [List.getElem?_append_left (List.getElem?_eq_some_iff.mp hx).1]; exact hx) (by rw [List.getElem?_append_left (List.getElem?_eq_some_iff.mp hy).1]; exact hy) h, fun k x hx => hD.2 k x (by rw [List.getElem?_append_left (List.getElem?_eq_some_iff.mp hx).1]; exact hx)⟩
theorem kPreQ {b : Nat} {As : List Value} {C : String} {X pl : va_W} (hK : KG G s) (hP : PG G (X ++ pl) H) (hD : va_D A (X ++ pl)) (isC : List Nat) (hn : va_nd isC = true) (hC : isC.map (fun i => X[i]?) = wc.map some) {q0 ci : Nat} {q : vw_C} {fs : List Value} (hc : vwM[ci]? = some q) (he : X[q0]? = some (b, .inr (ci, fs))) (hq : q.1 = C) : PreV s H C b (PreG G (.ref b :: As) wc H.size) As := kPre hK (kApp hP) (kAppD hD) isC hn hC hc he hq
theorem kPreSQ {As : List Value} {X pl : va_W} (hK : KG G s) (hP : PG G (X ++ pl) H) (hD : va_D A (X ++ pl)) (isC : List Nat) (hn : va_nd isC = true) (hC : isC.map (fun i => X[i]?) = wc.map some) : PreS s H (PreG G As wc H.size) As := kPreS hK (kApp hP) (kAppD hD) isC hn hC
theorem kPreP {b : Nat} {As : List Value} {C : String} {X pl : va_W} (hK : KG G s) (hP : PG G (X ++ pl) H) (hD : va_D A (X ++ pl)) (isC : List Nat) (hn : va_nd isC = true) (hC : isC.map (fun i => X[i]?) = wc.map some) {q0 ci : Nat} {q : vw_C} {fs : List Value} (hc : vwM[ci]? = some q) (he : X[q0]? = some (b, .inr (ci, fs))) (hq : q.1 = C) : PreV s H C b (PreG G (.ref b :: As) (wc ++ pl) H.size) As := by
  subst hq
  have hPc : PG G (wc ++ pl) H := hP.part isC hC
  have hDc : va_D A (wc ++ pl) := hD.part isC hn hC
  exact ⟨fun a U g mk z => by obtain ⟨z0, z1, zP, zK, zD⟩ := z; exact ⟨z0, z1, zP, KG.same (s := U) (U := U.calling g mk a) rfl zK, zD⟩, va_recv hK.1 (kApp hP) hc he, fun U hU hW => ⟨rfl, by rw [hU], by rw [hU]; exact hPc, hK.warm hW, hDc.weaken (fun _ _ _ _ => trivial)⟩⟩
theorem kCallI {S : Type} {post : Int32 → S → Prop} {out : S → va_W} (hr : va_Run p l e R s m args below meth c H locs cells slots mc ms (F0 m pc ls st0) rest (va_Qi post (Bw G (va_A wc H.size) out) (va_A wc H.size) a) (va_A wc H.size)) (hP : PG G ws H) (hD : va_D A ws) (hS : va_S A s.heap H locs) (hA : ∀ q, s.heap.size ≤ q → A q) (isC isR : List Nat) (hC : isC.map (fun i => ws[i]?) = wc.map some) (hR : isR.map (fun i => ws[i]?) = wr.map some) (hn : va_nd isR = true) (hdis : ∀ i ∈ isR, i ∉ isC)
    (kk : ∀ (r : Int32) (u : S) (H1 : Heap) (locs1 : List Loc), post r u → PG G (wr ++ out u) H1 → va_D A (wr ++ out u) → va_S A s.heap H1 locs1 → W p l e R s m args below meth c H1 locs1 (cells + mc) (slots + ms) Q (F0 m (pc + 3) ls (.int r :: rest))) : W p l e R s m args below meth c H locs cells slots Q (F0 m pc ls st0) := by
  have hFc := va_free (wc := wc) hD hS hA isC hC
  refine va_calli hr hS (fun q _ h => hFc q h) hFc (fun r u t H1 locs1 ht hvm hw hB hz1 hk1 hS1 => ?_)
  obtain ⟨hP1, hD1⟩ := hB
  rw [ht] at hP1
  obtain ⟨hP2, hD2⟩ := va_join (wr := wr) hP hD isC isR hC hR hn hdis hk1 hFc hP1 hD1
  exact kk r u H1 locs1 hw hP2 hD2 hS1
theorem kCallL {S : Type} {post : Int64 → S → Prop} {out : S → va_W} (hr : va_Run p l e R s m args below meth c H locs cells slots mc ms (F0 m pc ls st0) rest (va_Ql post (Bw G (va_A wc H.size) out) (va_A wc H.size) a) (va_A wc H.size)) (hP : PG G ws H) (hD : va_D A ws) (hS : va_S A s.heap H locs) (hA : ∀ q, s.heap.size ≤ q → A q) (isC isR : List Nat) (hC : isC.map (fun i => ws[i]?) = wc.map some) (hR : isR.map (fun i => ws[i]?) = wr.map some) (hn : va_nd isR = true) (hdis : ∀ i ∈ isR, i ∉ isC)
    (kk : ∀ (r : Int64) (u : S) (H1 : Heap) (locs1 : List Loc), post r u → PG G (wr ++ out u) H1 → va_D A (wr ++ out u) → va_S A s.heap H1 locs1 → W p l e R s m args below meth c H1 locs1 (cells + mc) (slots + ms) Q (F0 m (pc + 3) ls (.long r :: rest))) : W p l e R s m args below meth c H locs cells slots Q (F0 m pc ls st0) := by
  have hFc := va_free (wc := wc) hD hS hA isC hC
  refine va_calll hr hS (fun q _ h => hFc q h) hFc (fun r u t H1 locs1 ht hvm hw hB hz1 hk1 hS1 => ?_)
  obtain ⟨hP1, hD1⟩ := hB
  rw [ht] at hP1
  obtain ⟨hP2, hD2⟩ := va_join (wr := wr) hP hD isC isR hC hR hn hdis hk1 hFc hP1 hD1
  exact kk r u H1 locs1 hw hP2 hD2 hS1
theorem kCallQ {S : Type} {post : Option Nat → S → Prop} {out : S → va_W} (hr : va_Run p l e R s m args below meth c H locs cells slots mc ms (F0 m pc ls st0) rest (va_Qq post (Bw G (va_A wc H.size) out) (va_A wc H.size) a) (va_A wc H.size)) (hP : PG G ws H) (hD : va_D A ws) (hS : va_S A s.heap H locs) (hA : ∀ q, s.heap.size ≤ q → A q) (isC isR : List Nat) (hC : isC.map (fun i => ws[i]?) = wc.map some) (hR : isR.map (fun i => ws[i]?) = wr.map some) (hn : va_nd isR = true) (hdis : ∀ i ∈ isR, i ∉ isC)
    (kk : ∀ (r : Option Nat) (u : S) (H1 : Heap) (locs1 : List Loc), post r u → PG G (wr ++ out u) H1 → va_D A (wr ++ out u) → va_S A s.heap H1 locs1 → W p l e R s m args below meth c H1 locs1 (cells + mc) (slots + ms) Q (F0 m (pc + 3) ls (va_rf r :: rest))) : W p l e R s m args below meth c H locs cells slots Q (F0 m pc ls st0) := by
  have hFc := va_free (wc := wc) hD hS hA isC hC
  refine va_callq hr hS (fun q _ h => hFc q h) hFc (fun r u t H1 locs1 ht hvm hw hB hz1 hk1 hS1 => ?_)
  obtain ⟨hP1, hD1⟩ := hB
  rw [ht] at hP1
  obtain ⟨hP2, hD2⟩ := va_join (wr := wr) hP hD isC isR hC hR hn hdis hk1 hFc hP1 hD1
  exact kk r u H1 locs1 hw hP2 hD2 hS1
theorem kCallV {S : Type} {post : S → Prop} {out : S → va_W} (hr : va_Run p l e R s m args below meth c H locs cells slots mc ms (F0 m pc ls st0) rest (va_Qv post (Bw G (va_A wc H.size) out) (va_A wc H.size) a) (va_A wc H.size)) (hP : PG G ws H) (hD : va_D A ws) (hS : va_S A s.heap H locs) (hA : ∀ q, s.heap.size ≤ q → A q) (isC isR : List Nat) (hC : isC.map (fun i => ws[i]?) = wc.map some) (hR : isR.map (fun i => ws[i]?) = wr.map some) (hn : va_nd isR = true) (hdis : ∀ i ∈ isR, i ∉ isC)
    (kk : ∀ (u : S) (H1 : Heap) (locs1 : List Loc), post u → PG G (wr ++ out u) H1 → va_D A (wr ++ out u) → va_S A s.heap H1 locs1 → W p l e R s m args below meth c H1 locs1 (cells + mc) (slots + ms) Q (F0 m (pc + 3) ls rest)) : W p l e R s m args below meth c H locs cells slots Q (F0 m pc ls st0) := by
  have hFc := va_free (wc := wc) hD hS hA isC hC
  refine va_callv hr hS (fun q _ h => hFc q h) hFc (fun u t H1 locs1 ht hvm hw hB hz1 hk1 hS1 => ?_)
  obtain ⟨hP1, hD1⟩ := hB
  rw [ht] at hP1
  obtain ⟨hP2, hD2⟩ := va_join (wr := wr) hP hD isC isR hC hR hn hdis hk1 hFc hP1 hD1
  exact kk u H1 locs1 hw hP2 hD2 hS1
theorem kFreeQ {X pl : va_W} (hD : va_D A (X ++ pl)) (hS : va_S A s.heap H locs) (hA : ∀ q, s.heap.size ≤ q → A q) (isC : List Nat) (hC : isC.map (fun i => X[i]?) = wc.map some) : ∀ q, va_A wc H.size q → A q := by
  refine va_free (wc := wc) (ws := X) ⟨fun i j x y hx hy h => hD.1 i j x y ?_ ?_ h, fun k x hx => hD.2 k x ?_⟩ hS hA isC hC
  · rw [List.getElem?_append_left (List.getElem?_eq_some_iff.mp hx).1]; exact hx
  · rw [List.getElem?_append_left (List.getElem?_eq_some_iff.mp hy).1]; exact hy
  · rw [List.getElem?_append_left (List.getElem?_eq_some_iff.mp hx).1]; exact hx
theorem kCallIQ {S : Type} {post : Int32 → S → Prop} {out : S → va_W} {X pl : va_W} (hr : va_Run p l e R s m args below meth c H locs cells slots mc ms (F0 m pc ls st0) rest (va_Qi post (Bw G (va_A wc H.size) out) (va_A wc H.size) a) (va_A wc H.size)) (hP : PG G (X ++ pl) H) (hD : va_D A (X ++ pl)) (hS : va_S A s.heap H locs) (hA : ∀ q, s.heap.size ≤ q → A q) (isC isR : List Nat) (hC : isC.map (fun i => X[i]?) = wc.map some) (hR : isR.map (fun i => X[i]?) = wr.map some) (hn : va_nd isR = true) (hdis : ∀ i ∈ isR, i ∉ isC)
    (kk : ∀ (r : Int32) (u : S) (H1 : Heap) (locs1 : List Loc), post r u → PG G ((wr ++ out u) ++ pl) H1 → va_D A ((wr ++ out u) ++ pl) → va_S A s.heap H1 locs1 → W p l e R s m args below meth c H1 locs1 (cells + mc) (slots + ms) Q (F0 m (pc + 3) ls (.int r :: rest))) : W p l e R s m args below meth c H locs cells slots Q (F0 m pc ls st0) := by
  have hFc : ∀ q, va_A wc H.size q → A q := kFreeQ hD hS hA isC hC
  refine va_calli hr hS (fun q _ h => hFc q h) hFc (fun r u t H1 locs1 ht hvm hw hB hz1 hk1 hS1 => ?_)
  obtain ⟨hP1, hD1⟩ := hB
  rw [ht] at hP1
  obtain ⟨hP2, hD2⟩ := va_joinQ hP hD isC isR hC hR hn hdis hk1 hFc hP1 hD1
  exact kk r u H1 locs1 hw hP2 hD2 hS1
theorem kCallIP {S : Type} {post : Int32 → S → Prop} {out : S → va_W} {X pl : va_W} (hr : va_Run p l e R s m args below meth c H locs cells slots mc ms (F0 m pc ls st0) rest (va_Qi post (Bw G (va_A (wc ++ pl) H.size) (fun u => out u ++ pl)) (va_A (wc ++ pl) H.size) a) (va_A (wc ++ pl) H.size)) (hP : PG G (X ++ pl) H) (hD : va_D A (X ++ pl)) (hS : va_S A s.heap H locs) (hA : ∀ q, s.heap.size ≤ q → A q) (isC isR : List Nat) (hC : isC.map (fun i => X[i]?) = wc.map some) (hR : isR.map (fun i => X[i]?) = wr.map some) (hn : va_nd isR = true) (hdis : ∀ i ∈ isR, i ∉ isC)
    (kk : ∀ (r : Int32) (u : S) (H1 : Heap) (locs1 : List Loc), post r u → PG G ((wr ++ out u) ++ pl) H1 → va_D A ((wr ++ out u) ++ pl) → va_S A s.heap H1 locs1 → W p l e R s m args below meth c H1 locs1 (cells + mc) (slots + ms) Q (F0 m (pc + 3) ls (.int r :: rest))) : W p l e R s m args below meth c H locs cells slots Q (F0 m pc ls st0) := by
  have hFc : ∀ q, va_A (wc ++ pl) H.size q → A q := va_freeP hD hS hA isC hC
  refine va_calli hr hS (fun q _ h => hFc q h) hFc (fun r u t H1 locs1 ht hvm hw hB hz1 hk1 hS1 => ?_)
  obtain ⟨hP1, hD1⟩ := hB
  rw [ht] at hP1
  obtain ⟨hP2, hD2⟩ := va_joinP hP hD isC isR hC hR hn hdis hk1 hFc hP1 hD1
  exact kk r u H1 locs1 hw hP2 hD2 hS1
theorem kCallLQ {S : Type} {post : Int64 → S → Prop} {out : S → va_W} {X pl : va_W} (hr : va_Run p l e R s m args below meth c H locs cells slots mc ms (F0 m pc ls st0) rest (va_Ql post (Bw G (va_A wc H.size) out) (va_A wc H.size) a) (va_A wc H.size)) (hP : PG G (X ++ pl) H) (hD : va_D A (X ++ pl)) (hS : va_S A s.heap H locs) (hA : ∀ q, s.heap.size ≤ q → A q) (isC isR : List Nat) (hC : isC.map (fun i => X[i]?) = wc.map some) (hR : isR.map (fun i => X[i]?) = wr.map some) (hn : va_nd isR = true) (hdis : ∀ i ∈ isR, i ∉ isC)
    (kk : ∀ (r : Int64) (u : S) (H1 : Heap) (locs1 : List Loc), post r u → PG G ((wr ++ out u) ++ pl) H1 → va_D A ((wr ++ out u) ++ pl) → va_S A s.heap H1 locs1 → W p l e R s m args below meth c H1 locs1 (cells + mc) (slots + ms) Q (F0 m (pc + 3) ls (.long r :: rest))) : W p l e R s m args below meth c H locs cells slots Q (F0 m pc ls st0) := by
  have hFc : ∀ q, va_A wc H.size q → A q := kFreeQ hD hS hA isC hC
  refine va_calll hr hS (fun q _ h => hFc q h) hFc (fun r u t H1 locs1 ht hvm hw hB hz1 hk1 hS1 => ?_)
  obtain ⟨hP1, hD1⟩ := hB
  rw [ht] at hP1
  obtain ⟨hP2, hD2⟩ := va_joinQ hP hD isC isR hC hR hn hdis hk1 hFc hP1 hD1
  exact kk r u H1 locs1 hw hP2 hD2 hS1
theorem kCallLP {S : Type} {post : Int64 → S → Prop} {out : S → va_W} {X pl : va_W} (hr : va_Run p l e R s m args below meth c H locs cells slots mc ms (F0 m pc ls st0) rest (va_Ql post (Bw G (va_A (wc ++ pl) H.size) (fun u => out u ++ pl)) (va_A (wc ++ pl) H.size) a) (va_A (wc ++ pl) H.size)) (hP : PG G (X ++ pl) H) (hD : va_D A (X ++ pl)) (hS : va_S A s.heap H locs) (hA : ∀ q, s.heap.size ≤ q → A q) (isC isR : List Nat) (hC : isC.map (fun i => X[i]?) = wc.map some) (hR : isR.map (fun i => X[i]?) = wr.map some) (hn : va_nd isR = true) (hdis : ∀ i ∈ isR, i ∉ isC)
    (kk : ∀ (r : Int64) (u : S) (H1 : Heap) (locs1 : List Loc), post r u → PG G ((wr ++ out u) ++ pl) H1 → va_D A ((wr ++ out u) ++ pl) → va_S A s.heap H1 locs1 → W p l e R s m args below meth c H1 locs1 (cells + mc) (slots + ms) Q (F0 m (pc + 3) ls (.long r :: rest))) : W p l e R s m args below meth c H locs cells slots Q (F0 m pc ls st0) := by
  have hFc : ∀ q, va_A (wc ++ pl) H.size q → A q := va_freeP hD hS hA isC hC
  refine va_calll hr hS (fun q _ h => hFc q h) hFc (fun r u t H1 locs1 ht hvm hw hB hz1 hk1 hS1 => ?_)
  obtain ⟨hP1, hD1⟩ := hB
  rw [ht] at hP1
  obtain ⟨hP2, hD2⟩ := va_joinP hP hD isC isR hC hR hn hdis hk1 hFc hP1 hD1
  exact kk r u H1 locs1 hw hP2 hD2 hS1
theorem kCallQQ {S : Type} {post : Option Nat → S → Prop} {out : S → va_W} {X pl : va_W} (hr : va_Run p l e R s m args below meth c H locs cells slots mc ms (F0 m pc ls st0) rest (va_Qq post (Bw G (va_A wc H.size) out) (va_A wc H.size) a) (va_A wc H.size)) (hP : PG G (X ++ pl) H) (hD : va_D A (X ++ pl)) (hS : va_S A s.heap H locs) (hA : ∀ q, s.heap.size ≤ q → A q) (isC isR : List Nat) (hC : isC.map (fun i => X[i]?) = wc.map some) (hR : isR.map (fun i => X[i]?) = wr.map some) (hn : va_nd isR = true) (hdis : ∀ i ∈ isR, i ∉ isC)
    (kk : ∀ (r : Option Nat) (u : S) (H1 : Heap) (locs1 : List Loc), post r u → PG G ((wr ++ out u) ++ pl) H1 → va_D A ((wr ++ out u) ++ pl) → va_S A s.heap H1 locs1 → W p l e R s m args below meth c H1 locs1 (cells + mc) (slots + ms) Q (F0 m (pc + 3) ls (va_rf r :: rest))) : W p l e R s m args below meth c H locs cells slots Q (F0 m pc ls st0) := by
  have hFc : ∀ q, va_A wc H.size q → A q := kFreeQ hD hS hA isC hC
  refine va_callq hr hS (fun q _ h => hFc q h) hFc (fun r u t H1 locs1 ht hvm hw hB hz1 hk1 hS1 => ?_)
  obtain ⟨hP1, hD1⟩ := hB
  rw [ht] at hP1
  obtain ⟨hP2, hD2⟩ := va_joinQ hP hD isC isR hC hR hn hdis hk1 hFc hP1 hD1
  exact kk r u H1 locs1 hw hP2 hD2 hS1
theorem kCallQP {S : Type} {post : Option Nat → S → Prop} {out : S → va_W} {X pl : va_W} (hr : va_Run p l e R s m args below meth c H locs cells slots mc ms (F0 m pc ls st0) rest (va_Qq post (Bw G (va_A (wc ++ pl) H.size) (fun u => out u ++ pl)) (va_A (wc ++ pl) H.size) a) (va_A (wc ++ pl) H.size)) (hP : PG G (X ++ pl) H) (hD : va_D A (X ++ pl)) (hS : va_S A s.heap H locs) (hA : ∀ q, s.heap.size ≤ q → A q) (isC isR : List Nat) (hC : isC.map (fun i => X[i]?) = wc.map some) (hR : isR.map (fun i => X[i]?) = wr.map some) (hn : va_nd isR = true) (hdis : ∀ i ∈ isR, i ∉ isC)
    (kk : ∀ (r : Option Nat) (u : S) (H1 : Heap) (locs1 : List Loc), post r u → PG G ((wr ++ out u) ++ pl) H1 → va_D A ((wr ++ out u) ++ pl) → va_S A s.heap H1 locs1 → W p l e R s m args below meth c H1 locs1 (cells + mc) (slots + ms) Q (F0 m (pc + 3) ls (va_rf r :: rest))) : W p l e R s m args below meth c H locs cells slots Q (F0 m pc ls st0) := by
  have hFc : ∀ q, va_A (wc ++ pl) H.size q → A q := va_freeP hD hS hA isC hC
  refine va_callq hr hS (fun q _ h => hFc q h) hFc (fun r u t H1 locs1 ht hvm hw hB hz1 hk1 hS1 => ?_)
  obtain ⟨hP1, hD1⟩ := hB
  rw [ht] at hP1
  obtain ⟨hP2, hD2⟩ := va_joinP hP hD isC isR hC hR hn hdis hk1 hFc hP1 hD1
  exact kk r u H1 locs1 hw hP2 hD2 hS1
theorem kCallVQ {S : Type} {post : S → Prop} {out : S → va_W} {X pl : va_W} (hr : va_Run p l e R s m args below meth c H locs cells slots mc ms (F0 m pc ls st0) rest (va_Qv post (Bw G (va_A wc H.size) out) (va_A wc H.size) a) (va_A wc H.size)) (hP : PG G (X ++ pl) H) (hD : va_D A (X ++ pl)) (hS : va_S A s.heap H locs) (hA : ∀ q, s.heap.size ≤ q → A q) (isC isR : List Nat) (hC : isC.map (fun i => X[i]?) = wc.map some) (hR : isR.map (fun i => X[i]?) = wr.map some) (hn : va_nd isR = true) (hdis : ∀ i ∈ isR, i ∉ isC)
    (kk : ∀ (u : S) (H1 : Heap) (locs1 : List Loc), post u → PG G ((wr ++ out u) ++ pl) H1 → va_D A ((wr ++ out u) ++ pl) → va_S A s.heap H1 locs1 → W p l e R s m args below meth c H1 locs1 (cells + mc) (slots + ms) Q (F0 m (pc + 3) ls rest)) : W p l e R s m args below meth c H locs cells slots Q (F0 m pc ls st0) := by
  have hFc : ∀ q, va_A wc H.size q → A q := kFreeQ hD hS hA isC hC
  refine va_callv hr hS (fun q _ h => hFc q h) hFc (fun u t H1 locs1 ht hvm hw hB hz1 hk1 hS1 => ?_)
  obtain ⟨hP1, hD1⟩ := hB
  rw [ht] at hP1
  obtain ⟨hP2, hD2⟩ := va_joinQ hP hD isC isR hC hR hn hdis hk1 hFc hP1 hD1
  exact kk u H1 locs1 hw hP2 hD2 hS1
theorem kCallVP {S : Type} {post : S → Prop} {out : S → va_W} {X pl : va_W} (hr : va_Run p l e R s m args below meth c H locs cells slots mc ms (F0 m pc ls st0) rest (va_Qv post (Bw G (va_A (wc ++ pl) H.size) (fun u => out u ++ pl)) (va_A (wc ++ pl) H.size) a) (va_A (wc ++ pl) H.size)) (hP : PG G (X ++ pl) H) (hD : va_D A (X ++ pl)) (hS : va_S A s.heap H locs) (hA : ∀ q, s.heap.size ≤ q → A q) (isC isR : List Nat) (hC : isC.map (fun i => X[i]?) = wc.map some) (hR : isR.map (fun i => X[i]?) = wr.map some) (hn : va_nd isR = true) (hdis : ∀ i ∈ isR, i ∉ isC)
    (kk : ∀ (u : S) (H1 : Heap) (locs1 : List Loc), post u → PG G ((wr ++ out u) ++ pl) H1 → va_D A ((wr ++ out u) ++ pl) → va_S A s.heap H1 locs1 → W p l e R s m args below meth c H1 locs1 (cells + mc) (slots + ms) Q (F0 m (pc + 3) ls rest)) : W p l e R s m args below meth c H locs cells slots Q (F0 m pc ls st0) := by
  have hFc : ∀ q, va_A (wc ++ pl) H.size q → A q := va_freeP hD hS hA isC hC
  refine va_callv hr hS (fun q _ h => hFc q h) hFc (fun u t H1 locs1 ht hvm hw hB hz1 hk1 hS1 => ?_)
  obtain ⟨hP1, hD1⟩ := hB
  rw [ht] at hP1
  obtain ⟨hP2, hD2⟩ := va_joinP hP hD isC isR hC hR hn hdis hk1 hFc hP1 hD1
  exact kk u H1 locs1 hw hP2 hD2 hS1
/-- a field is read -/
theorem kGet (hF : CallFix p m c cc nL s args Ts own) (hK : KG G s) (hP : PG G ws H) {C : String} {T : u_T} {N ci index b : Nat} (hin : ∀ w ∈ u_ws C T N, w ∈ Ts) (q0 : Nat) {fs : List Value} (he : ws[q0]? = some (b, .inr (ci, fs))) (hc : vwM[ci]? = some (C, T, N)) (k : Nat) (hk : k < N) (hsm : (T k).1 = C) (hlink : Cond.fieldLink own index C (T k).2.1 (T k).2.2.1 ∈ Ts) {v : Value} (hv : fs[k]? = some v) (hdg : decode cc pc = .ok (.getfield index, 3))
    (kk : W p l e R s m args below meth c H locs cells slots Q (F0 m (pc + 3) ls (v :: rest))) : W p l e R s m args below meth c H locs cells slots Q (F0 m pc ls (.ref b :: rest)) :=
  va_get (D := G.1) hF.1 hF.2.1 hF.2.2.2.2 hin hF.2.2.2.1 hK.1 hP q0 he hc k hk (hF.2.2.2.2 _ hlink) (fun x h => by rw [← hsm]; exact h) hv hdg kk
theorem kGetN {host : String} (hF : CallFix p m c cc nL s args Ts own) (hK : KG G s) (hP : PG G ws H) {C : String} {T : u_T} {N ci index b : Nat} (hin : ∀ w ∈ u_ws C T N, w ∈ Ts) (q0 : Nat) {fs : List Value} (he : ws[q0]? = some (b, .inr (ci, fs))) (hc : vwM[ci]? = some (C, T, N)) (k : Nat) (hk : k < N) (hsm : (T k).1 = C) (hlink : va_Nw (.fieldLinkNest own index C (T k).2.1 (T k).2.2.1 host) s) {v : Value} (hv : fs[k]? = some v) (hdg : decode cc pc = .ok (.getfield index, 3))
    (kk : W p l e R s m args below meth c H locs cells slots Q (F0 m (pc + 3) ls (v :: rest))) : W p l e R s m args below meth c H locs cells slots Q (F0 m pc ls (.ref b :: rest)) :=
  va_getN (D := G.1) hF.1 hF.2.1 hF.2.2.2.2 hin hF.2.2.2.1 hK.1 hP q0 he hc k hk (va_Nw.use rfl hlink) (fun x h => by rw [← hsm]; exact h) hv hdg kk
/-- a field is written -/
theorem kPut (hF : CallFix p m c cc nL s args Ts own) (hK : KG G s) (hP : PG G ws H) (hD : va_D A ws) (hS : va_S A s.heap H locs) {C : String} {T : u_T} {N ci index b : Nat} (hin : ∀ w ∈ u_ws C T N, w ∈ Ts) {ty0 : Nat → FieldType} (hty : ∀ k, k < N → parseFieldDescriptor (T k).2.2.1 = some (ty0 k)) (hnm : ∀ a, a < N → ∀ b, b < N → a ≠ b → (T a).2.1 ≠ (T b).2.1) (q0 : Nat) {fs : List Value} (he : ws[q0]? = some (b, .inr (ci, fs))) (hc : vwM[ci]? = some (C, T, N)) (k : Nat) (hk : k < N) (hsm : (T k).1 = C) (hlink : Cond.fieldLink own index C (T k).2.1 (T k).2.2.1 ∈ Ts) (hfin : (T k).2.2.2 = false) {v : Value} (hn : narrow (ty0 k) v = v) (hfit : fits (ty0 k) v = true) (hl : k < fs.length) (hdg : decode cc pc = .ok (.putfield index, 3))
    (kk : ∀ (H1 : Heap) (locs1 : List Loc), PG G (ws.set q0 (b, .inr (ci, fs.set k v))) H1 → va_D A (ws.set q0 (b, .inr (ci, fs.set k v))) → va_S A s.heap H1 locs1 → W p l e R s m args below meth c H1 locs1 cells slots Q (F0 m (pc + 3) ls rest)) : W p l e R s m args below meth c H locs cells slots Q (F0 m pc ls (v :: .ref b :: rest)) :=
  va_put (D := G.1) hF.1 hF.2.1 hF.2.2.2.2 hin ty0 hty hnm hF.2.2.2.1 hK.1 hP hD hS q0 he hc k hk (hF.2.2.2.2 _ hlink) (fun x h => by rw [← hsm]; exact h) hfin (hty k hk) hn hfit hl hdg kk
theorem kPutN {host : String} (hF : CallFix p m c cc nL s args Ts own) (hK : KG G s) (hP : PG G ws H) (hD : va_D A ws) (hS : va_S A s.heap H locs) {C : String} {T : u_T} {N ci index b : Nat} (hin : ∀ w ∈ u_ws C T N, w ∈ Ts) {ty0 : Nat → FieldType} (hty : ∀ k, k < N → parseFieldDescriptor (T k).2.2.1 = some (ty0 k)) (hnm : ∀ a, a < N → ∀ b, b < N → a ≠ b → (T a).2.1 ≠ (T b).2.1) (q0 : Nat) {fs : List Value} (he : ws[q0]? = some (b, .inr (ci, fs))) (hc : vwM[ci]? = some (C, T, N)) (k : Nat) (hk : k < N) (hsm : (T k).1 = C) (hlink : va_Nw (.fieldLinkNest own index C (T k).2.1 (T k).2.2.1 host) s) (hfin : (T k).2.2.2 = false) {v : Value} (hn : narrow (ty0 k) v = v) (hfit : fits (ty0 k) v = true) (hl : k < fs.length) (hdg : decode cc pc = .ok (.putfield index, 3))
    (kk : ∀ (H1 : Heap) (locs1 : List Loc), PG G (ws.set q0 (b, .inr (ci, fs.set k v))) H1 → va_D A (ws.set q0 (b, .inr (ci, fs.set k v))) → va_S A s.heap H1 locs1 → W p l e R s m args below meth c H1 locs1 cells slots Q (F0 m (pc + 3) ls rest)) : W p l e R s m args below meth c H locs cells slots Q (F0 m pc ls (v :: .ref b :: rest)) :=
  va_putN (D := G.1) hF.1 hF.2.1 hF.2.2.2.2 hin ty0 hty hnm hF.2.2.2.1 hK.1 hP hD hS q0 he hc k hk (va_Nw.use rfl hlink) (fun x h => by rw [← hsm]; exact h) hfin (hty k hk) hn hfit hl hdg kk
theorem kPutF (hF : CallFix p m c cc nL s args Ts own) (hnme : meth.name = "<init>") (hK : KG G s) (hP : PG G ws H) (hD : va_D A ws) (hS : va_S A s.heap H locs) {C : String} {T : u_T} {N ci index b : Nat} (hin : ∀ w ∈ u_ws C T N, w ∈ Ts) {ty0 : Nat → FieldType} (hty : ∀ k, k < N → parseFieldDescriptor (T k).2.2.1 = some (ty0 k)) (hnm : ∀ a, a < N → ∀ b, b < N → a ≠ b → (T a).2.1 ≠ (T b).2.1) (q0 : Nat) {fs : List Value} (he : ws[q0]? = some (b, .inr (ci, fs))) (hc : vwM[ci]? = some (C, T, N)) (k : Nat) (hk : k < N) (hsm : (T k).1 = C) (hlink : Cond.fieldLink own index C (T k).2.1 (T k).2.2.1 ∈ Ts) (hfin : (T k).2.2.2 = true) (hdecl : (T k).1 = own) {v : Value} (hn : narrow (ty0 k) v = v) (hfit : fits (ty0 k) v = true) (hl : k < fs.length) (hdg : decode cc pc = .ok (.putfield index, 3))
    (kk : ∀ (H1 : Heap) (locs1 : List Loc), PG G (ws.set q0 (b, .inr (ci, fs.set k v))) H1 → va_D A (ws.set q0 (b, .inr (ci, fs.set k v))) → va_S A s.heap H1 locs1 → W p l e R s m args below meth c H1 locs1 cells slots Q (F0 m (pc + 3) ls rest)) : W p l e R s m args below meth c H locs cells slots Q (F0 m pc ls (v :: .ref b :: rest)) :=
  va_putF (D := G.1) hF.1 hF.2.1 hF.2.2.2.2 hin ty0 hty hnm hF.2.2.2.1 hK.1 hP hD hS q0 he hc k hk (hF.2.2.2.2 _ hlink) (fun x h => by rw [← hsm]; exact h) hfin hnme hdecl (hty k hk) hn hfit hl hdg kk
/-- arrays by a number -/
theorem kIald (hF : CallFix p m c cc nL s args Ts own) (hK : KG G s) (hP : PG G ws H) (q0 : Nat) {b n : Nat} {f : Nat → Int32} (ha : ws[q0]? = some (aI G b n f)) {i : Int32} (hin : vp_in i n) (hdg : decode cc pc = .ok (.iaload, 1))
    (kk : W p l e R s m args below meth c H locs cells slots Q (F0 m (pc + 1) ls (.int (f (ix i)) :: rest))) : W p l e R s m args below meth c H locs cells slots Q (F0 m pc ls (.int i :: .ref b :: rest)) :=
  va_iald (D := G.1) hF.1 hF.2.1 hK.1 hP q0 0 ha rfl hin hdg kk
theorem kIaldN (hF : CallFix p m c cc nL s args Ts own) (hK : KG G s) (hP : PG G ws H) (q0 : Nat) {b n k : Nat} {f : Nat → Int32} (ha : ws[q0]? = some (aI G b n f)) (hk : k < n) (hn : n < 2 ^ 31) (hdg : decode cc pc = .ok (.iaload, 1))
    (kk : W p l e R s m args below meth c H locs cells slots Q (F0 m (pc + 1) ls (.int (f k) :: rest))) : W p l e R s m args below meth c H locs cells slots Q (F0 m pc ls (.int (nI k) :: .ref b :: rest)) :=
  va_iald (D := G.1) hF.1 hF.2.1 hK.1 hP q0 0 ha rfl (vp_in_nI hk hn) hdg (by rw [nI_clamp (Nat.lt_trans hk hn)]; exact kk)
theorem kCald (hF : CallFix p m c cc nL s args Ts own) (hK : KG G s) (hP : PG G ws H) (q0 : Nat) {b n : Nat} {f : Nat → Int32} (ha : ws[q0]? = some (aC G b n f)) {i : Int32} (hin : vp_in i n) (hdg : decode cc pc = .ok (.caload, 1))
    (kk : W p l e R s m args below meth c H locs cells slots Q (F0 m (pc + 1) ls (.int (f (ix i)) :: rest))) : W p l e R s m args below meth c H locs cells slots Q (F0 m pc ls (.int i :: .ref b :: rest)) :=
  va_cald (D := G.1) hF.1 hF.2.1 hK.1 hP q0 2 ha rfl hin hdg kk
theorem kCaldN (hF : CallFix p m c cc nL s args Ts own) (hK : KG G s) (hP : PG G ws H) (q0 : Nat) {b n k : Nat} {f : Nat → Int32} (ha : ws[q0]? = some (aC G b n f)) (hk : k < n) (hn : n < 2 ^ 31) (hdg : decode cc pc = .ok (.caload, 1))
    (kk : W p l e R s m args below meth c H locs cells slots Q (F0 m (pc + 1) ls (.int (f k) :: rest))) : W p l e R s m args below meth c H locs cells slots Q (F0 m pc ls (.int (nI k) :: .ref b :: rest)) :=
  va_cald (D := G.1) hF.1 hF.2.1 hK.1 hP q0 2 ha rfl (vp_in_nI hk hn) hdg (by rw [nI_clamp (Nat.lt_trans hk hn)]; exact kk)
theorem kLald (hF : CallFix p m c cc nL s args Ts own) (hK : KG G s) (hP : PG G ws H) (q0 : Nat) {b n : Nat} {f : Nat → Int64} (ha : ws[q0]? = some (aJ G b n f)) {i : Int32} (hin : vp_in i n) (hdg : decode cc pc = .ok (.laload, 1))
    (kk : W p l e R s m args below meth c H locs cells slots Q (F0 m (pc + 1) ls (.long (f (ix i)) :: rest))) : W p l e R s m args below meth c H locs cells slots Q (F0 m pc ls (.int i :: .ref b :: rest)) :=
  va_lald (D := G.1) hF.1 hF.2.1 hK.1 hP q0 1 ha rfl hin hdg kk
theorem kLaldN (hF : CallFix p m c cc nL s args Ts own) (hK : KG G s) (hP : PG G ws H) (q0 : Nat) {b n k : Nat} {f : Nat → Int64} (ha : ws[q0]? = some (aJ G b n f)) (hk : k < n) (hn : n < 2 ^ 31) (hdg : decode cc pc = .ok (.laload, 1))
    (kk : W p l e R s m args below meth c H locs cells slots Q (F0 m (pc + 1) ls (.long (f k) :: rest))) : W p l e R s m args below meth c H locs cells slots Q (F0 m pc ls (.int (nI k) :: .ref b :: rest)) :=
  va_lald (D := G.1) hF.1 hF.2.1 hK.1 hP q0 1 ha rfl (vp_in_nI hk hn) hdg (by rw [nI_clamp (Nat.lt_trans hk hn)]; exact kk)
theorem kAald (hF : CallFix p m c cc nL s args Ts own) (hK : KG G s) (hP : PG G ws H) (q0 : Nat) {b n : Nat} {f : Nat → Option Nat} (ha : ws[q0]? = some (aL G b n f)) {i : Int32} (hin : vp_in i n) (hdg : decode cc pc = .ok (.aaload, 1))
    (kk : W p l e R s m args below meth c H locs cells slots Q (F0 m (pc + 1) ls (va_rf (f (ix i)) :: rest))) : W p l e R s m args below meth c H locs cells slots Q (F0 m pc ls (.int i :: .ref b :: rest)) :=
  va_aldq (D := G.1) (C := "MountedPaths$Line") hF.1 hF.2.1 hK.1 hP q0 3 ha rfl hin hdg kk
theorem kIast (hF : CallFix p m c cc nL s args Ts own) (hK : KG G s) (hP : PG G ws H) (hD : va_D A ws) (hS : va_S A s.heap H locs) (q0 : Nat) {b n : Nat} {f : Nat → Int32} (ha : ws[q0]? = some (aI G b n f)) {i x : Int32} (hin : vp_in i n) (hdg : decode cc pc = .ok (.iastore, 1))
    (kk : ∀ (H1 : Heap) (locs1 : List Loc), PG G (ws.set q0 (aI G b n (upd f (ix i) x))) H1 → va_D A (ws.set q0 (aI G b n (upd f (ix i) x))) → va_S A s.heap H1 locs1 → W p l e R s m args below meth c H1 locs1 cells slots Q (F0 m (pc + 1) ls rest)) : W p l e R s m args below meth c H locs cells slots Q (F0 m pc ls (.int x :: .int i :: .ref b :: rest)) :=
  va_iast (D := G.1) hF.1 hF.2.1 hK.1 hP hD hS q0 0 ha rfl hin hdg kk
theorem kIastN (hF : CallFix p m c cc nL s args Ts own) (hK : KG G s) (hP : PG G ws H) (hD : va_D A ws) (hS : va_S A s.heap H locs) (q0 : Nat) {b n k : Nat} {f : Nat → Int32} (ha : ws[q0]? = some (aI G b n f)) {x : Int32} (hk : k < n) (hn : n < 2 ^ 31) (hdg : decode cc pc = .ok (.iastore, 1))
    (kk : ∀ (H1 : Heap) (locs1 : List Loc), PG G (ws.set q0 (aI G b n (upd f k x))) H1 → va_D A (ws.set q0 (aI G b n (upd f k x))) → va_S A s.heap H1 locs1 → W p l e R s m args below meth c H1 locs1 cells slots Q (F0 m (pc + 1) ls rest)) : W p l e R s m args below meth c H locs cells slots Q (F0 m pc ls (.int x :: .int (nI k) :: .ref b :: rest)) :=
  va_iast (D := G.1) hF.1 hF.2.1 hK.1 hP hD hS q0 0 ha rfl (vp_in_nI hk hn) hdg (by rw [nI_clamp (Nat.lt_trans hk hn)]; exact kk)
theorem kLastN (hF : CallFix p m c cc nL s args Ts own) (hK : KG G s) (hP : PG G ws H) (hD : va_D A ws) (hS : va_S A s.heap H locs) (q0 : Nat) {b n k : Nat} {f : Nat → Int64} (ha : ws[q0]? = some (aJ G b n f)) {x : Int64} (hk : k < n) (hn : n < 2 ^ 31) (hdg : decode cc pc = .ok (.lastore, 1))
    (kk : ∀ (H1 : Heap) (locs1 : List Loc), PG G (ws.set q0 (aJ G b n (vp_updL f k x))) H1 → va_D A (ws.set q0 (aJ G b n (vp_updL f k x))) → va_S A s.heap H1 locs1 → W p l e R s m args below meth c H1 locs1 cells slots Q (F0 m (pc + 1) ls rest)) : W p l e R s m args below meth c H locs cells slots Q (F0 m pc ls (.long x :: .int (nI k) :: .ref b :: rest)) :=
  va_last (D := G.1) hF.1 hF.2.1 hK.1 hP hD hS q0 1 ha rfl (vp_in_nI hk hn) hdg (by rw [nI_clamp (Nat.lt_trans hk hn)]; exact kk)
theorem kCastN (hF : CallFix p m c cc nL s args Ts own) (hK : KG G s) (hP : PG G ws H) (hD : va_D A ws) (hS : va_S A s.heap H locs) (q0 : Nat) {b n k : Nat} {f : Nat → Int32} (ha : ws[q0]? = some (aC G b n f)) {x : Int32} (hx : vp_nar .char x = x) (hk : k < n) (hn : n < 2 ^ 31) (hdg : decode cc pc = .ok (.castore, 1))
    (kk : ∀ (H1 : Heap) (locs1 : List Loc), PG G (ws.set q0 (aC G b n (upd f k x))) H1 → va_D A (ws.set q0 (aC G b n (upd f k x))) → va_S A s.heap H1 locs1 → W p l e R s m args below meth c H1 locs1 cells slots Q (F0 m (pc + 1) ls rest)) : W p l e R s m args below meth c H locs cells slots Q (F0 m pc ls (.int x :: .int (nI k) :: .ref b :: rest)) :=
  va_cast (D := G.1) hF.1 hF.2.1 hK.1 hP hD hS q0 2 ha rfl (vp_in_nI hk hn) hdg (by rw [nI_clamp (Nat.lt_trans hk hn), hx]; exact kk)
/-- what is made -/
theorem kNew {C : String} {T : u_T} {N ci index : Nat} {ty : Nat → FieldType} (hF : CallFix p m c cc nL s args Ts own) (hK : KG G s) (hP : PG G ws H) (hD : va_D A ws) (hS : va_S A s.heap H locs) (hA : ∀ q, s.heap.size ≤ q → A q) (hin : ∀ w ∈ u_ws C T N, w ∈ Ts) (hty : ∀ k, k < N → parseFieldDescriptor (T k).2.2.1 = some (ty k)) (hcl : Cond.classLink own index C ∈ Ts) (hinst : Cond.instantiable C N ∈ Ts) (hini : Cond.initialized C ∈ Ts) (hc : vwM[ci]? = some (C, T, N)) {fs : List Value} (hfs : ∀ j, j < N → defaultValue (ty j) = vp_V fs j) (hcells : cells + 1 ≤ R.cells) (hslots : slots + N ≤ R.slots) (hdg : decode cc pc = .ok (.new index, 3))
    (kk : ∀ (q : Nat) (H1 : Heap), PG G (ws ++ [(q, .inr (ci, fs))]) H1 → va_D A (ws ++ [(q, .inr (ci, fs))]) → va_S A s.heap H1 locs → W p l e R s m args below meth c H1 locs (cells + 1) (slots + N) Q (F0 m (pc + 3) ls (.ref q :: rest))) : W p l e R s m args below meth c H locs cells slots Q (F0 m pc ls rest) :=
  va_new (D := G.1) hF.1 hF.2.1 hF.2.2.2.2 hin ty hty hF.2.2.2.1 (hF.2.2.2.2 _ hcl) (hF.2.2.2.2 _ hinst) (hF.2.2.2.2 _ hini) hK.1 hP hD hS hA hc hfs hcells hslots hdg kk
theorem kNewX {c0 : Cond} {atype : ArrayType} {ty : FieldType} {t0 N0 : Nat} {cA0 : ClassId} {a0 : vp_A} (hF : CallFix p m c cc nL s args (c0 :: BIG) own) (hK : KG G s) (hP : PG G ws H) (hD : va_D A ws) (hS : va_S A s.heap H locs) (hA : ∀ q, s.heap.size ≤ q → A q) (harr : Cond.arrayClass (newarray.typeOf atype) ∈ BIG) (hty : newarray.typeOf atype = ty) (ht : (tyG G)[t0]? = some (cA0, ty)) (hra : ∀ cA, va_RA s cA ty → s.vm.findClass ("[" ++ ty.toString) = some cA) (ha : ∀ cA : ClassId, vp_cell cA a0 = arrV cA N0 (fun _ => defaultValue ty)) (hN0 : N0 < 2 ^ 20) (hbytes : N0 * componentBytes ty ≤ 536870912) (hcells : cells + 1 ≤ R.cells) (hslots : slots + N0 ≤ R.slots) (hdg : decode cc pc = .ok (.newarray atype, 2))
    (kk : ∀ (q : Nat) (H1 : Heap), PG G (ws ++ [(q, .inl (cA0, a0))]) H1 → va_D A (ws ++ [(q, .inl (cA0, a0))]) → va_S A s.heap H1 locs → W p l e R s m args below meth c H1 locs (cells + 1) (slots + N0) Q (F0 m (pc + 2) ls (.ref q :: rest))) : W p l e R s m args below meth c H locs cells slots Q (F0 m pc ls (.int (nI N0) :: rest)) := by
  refine va_newa (D := G.1) hF.1 hF.2.1 (hF.2.2.2.2 _ (List.mem_cons_of_mem _ harr)) hty hK.1 hP hD hS hA ha (nI_pos (by omega)) (nI_clamp (by omega)) hbytes hcells hslots hdg (fun q cA H1 hK1 hP1 hD1 hS1 => ?_)
  have h1 := hra cA (hK1.2 (tyG G).length (cA, ty) (by simp)).2
  have h2 := hra cA0 (hK.1.2 t0 (cA0, ty) ht).2
  have h3 : cA = cA0 := Option.some.inj (h1.symm.trans h2)
  subst h3
  exact kk q H1 hP1 hD1 hS1
theorem kNewI {c0 : Cond} {N0 : Nat} (hF : CallFix p m c cc nL s args (c0 :: BIG) own) (hK : KG G s) (hP : PG G ws H) (hD : va_D A ws) (hS : va_S A s.heap H locs) (hA : ∀ q, s.heap.size ≤ q → A q) (hN0 : N0 < 2 ^ 20) (hcells : cells + 1 ≤ R.cells) (hslots : slots + N0 ≤ R.slots) (hdg : decode cc pc = .ok (.newarray .int, 2))
    (kk : ∀ (q : Nat) (H1 : Heap), PG G (ws ++ [aI G q N0 (fun _ => nI 0)]) H1 → va_D A (ws ++ [aI G q N0 (fun _ => nI 0)]) → va_S A s.heap H1 locs → W p l e R s m args below meth c H1 locs (cells + 1) (slots + N0) Q (F0 m (pc + 2) ls (.ref q :: rest))) : W p l e R s m args below meth c H locs cells slots Q (F0 m pc ls (.int (nI N0) :: rest)) :=
  kNewX (atype := .int) (ty := .int) (t0 := 0) hF hK hP hD hS hA mA_int rfl rfl (fun _ h => h) (fun cA => rfl) hN0 (by show N0 * 4 ≤ _; omega) hcells hslots hdg kk
theorem kNewJ {c0 : Cond} {N0 : Nat} (hF : CallFix p m c cc nL s args (c0 :: BIG) own) (hK : KG G s) (hP : PG G ws H) (hD : va_D A ws) (hS : va_S A s.heap H locs) (hA : ∀ q, s.heap.size ≤ q → A q) (hN0 : N0 < 2 ^ 20) (hcells : cells + 1 ≤ R.cells) (hslots : slots + N0 ≤ R.slots) (hdg : decode cc pc = .ok (.newarray .long, 2))
    (kk : ∀ (q : Nat) (H1 : Heap), PG G (ws ++ [aJ G q N0 (fun _ => lN 0)]) H1 → va_D A (ws ++ [aJ G q N0 (fun _ => lN 0)]) → va_S A s.heap H1 locs → W p l e R s m args below meth c H1 locs (cells + 1) (slots + N0) Q (F0 m (pc + 2) ls (.ref q :: rest))) : W p l e R s m args below meth c H locs cells slots Q (F0 m pc ls (.int (nI N0) :: rest)) :=
  kNewX (atype := .long) (ty := .long) (t0 := 1) hF hK hP hD hS hA mA_long rfl rfl (fun _ h => h) (fun cA => rfl) hN0 (by show N0 * 8 ≤ _; omega) hcells hslots hdg kk
theorem kNewC {c0 : Cond} {N0 : Nat} (hF : CallFix p m c cc nL s args (c0 :: BIG) own) (hK : KG G s) (hP : PG G ws H) (hD : va_D A ws) (hS : va_S A s.heap H locs) (hA : ∀ q, s.heap.size ≤ q → A q) (hN0 : N0 < 2 ^ 20) (hcells : cells + 1 ≤ R.cells) (hslots : slots + N0 ≤ R.slots) (hdg : decode cc pc = .ok (.newarray .char, 2))
    (kk : ∀ (q : Nat) (H1 : Heap), PG G (ws ++ [aC G q N0 (fun _ => nI 0)]) H1 → va_D A (ws ++ [aC G q N0 (fun _ => nI 0)]) → va_S A s.heap H1 locs → W p l e R s m args below meth c H1 locs (cells + 1) (slots + N0) Q (F0 m (pc + 2) ls (.ref q :: rest))) : W p l e R s m args below meth c H locs cells slots Q (F0 m pc ls (.int (nI N0) :: rest)) :=
  kNewX (atype := .char) (ty := .char) (t0 := 2) hF hK hP hD hS hA mA_char rfl rfl (fun _ h => h) (fun cA => rfl) hN0 (by show N0 * 2 ≤ _; omega) hcells hslots hdg kk
theorem kNewL {c0 : Cond} {index N0 : Nat} (hF : CallFix p m c cc nL s args (c0 :: BIG) own) (hK : KG G s) (hP : PG G ws H) (hD : va_D A ws) (hS : va_S A s.heap H locs) (hA : ∀ q, s.heap.size ≤ q → A q) (hcl : Cond.classLink own index RX1 ∈ c0 :: BIG) (hN0 : N0 < 2 ^ 20) (hcells : cells + 1 ≤ R.cells) (hslots : slots + N0 ≤ R.slots) (hdg : decode cc pc = .ok (.anewarray index, 3))
    (kk : ∀ (q : Nat) (H1 : Heap), PG G (ws ++ [aL G q N0 (fun _ => none)]) H1 → va_D A (ws ++ [aL G q N0 (fun _ => none)]) → va_S A s.heap H1 locs → W p l e R s m args below meth c H1 locs (cells + 1) (slots + N0) Q (F0 m (pc + 3) ls (.ref q :: rest))) : W p l e R s m args below meth c H locs cells slots Q (F0 m pc ls (.int (nI N0) :: rest)) := by
  refine va_newq (D := G.1) hF.1 hF.2.1 hF.2.2.2.1 (hF.2.2.2.2 _ hcl) hK.2.2 hK.1 hP hD hS hA (nI_pos (by omega)) (nI_clamp (by omega)) (by omega) hcells hslots hdg (fun q cA H1 hK1 hP1 hD1 hS1 => ?_)
  obtain ⟨_, _, _, _, _, h1⟩ := (hK1.2 (tyG G).length (cA, .object RX1) (by simp)).2
  obtain ⟨_, _, _, _, _, h2⟩ := (hK.1.2 3 (G.2.2.2.2, .object "MountedPaths$Line") rfl).2
  have h3 : cA = G.2.2.2.2 := Option.some.inj (h1.symm.trans h2)
  subst h3
  exact kk q H1 hP1 hD1 hS1
/-- System.arraycopy among char arrays -/
theorem kCopyC {c0 : Cond} {index a0 b n0 n1 sp dp n : Nat} {f g : Nat → Int32} (hF : CallFix p m c cc nL s args (c0 :: BIG) own) (hl : Cond.methodLink own index arraycopyName ∈ BIG) (hsz : ls.size = nL) (hK : KG G s) (hP : PG G ws H) (hD : va_D A ws) (hS : va_S A s.heap H locs) (q0 q1 : Nat) (ha0 : ws[q0]? = some (aC G a0 n0 f)) (ha1 : ws[q1]? = some (aC G b n1 g)) (h1 : sp + n ≤ n0) (h2 : dp + n ≤ n1) (h3 : n0 < 2 ^ 31) (h4 : n1 < 2 ^ 31) (h5 : n < 2 ^ 31) (hfit : ∀ j, okC (f j)) (hframes : 1 ≤ R.frames) (hlocals : (rest.map fun v => v.category).sum + (nativeFrameWords "java/lang/System" "arraycopy" 5 + 11) ≤ R.locals) (hdg : decode cc pc = .ok (.invokestatic index, 3))
    (kk : ∀ (H1 : Heap) (locs1 : List Loc), PG G (ws.set q1 (aC G b n1 (va_cpy f g sp dp n))) H1 → va_D A (ws.set q1 (aC G b n1 (va_cpy f g sp dp n))) → va_S A s.heap H1 locs1 → W p l e R s m args below meth c H1 locs1 cells slots Q (F0 m (pc + 3) ls rest)) : W p l e R s m args below meth c H locs cells slots Q (F0 m pc ls (.int (nI n) :: .int (nI dp) :: .ref b :: .int (nI sp) :: .ref a0 :: rest)) := by
  have e1 : (nI sp).toNatClampNeg = sp := nI_clamp (by omega)
  have e2 : (nI dp).toNatClampNeg = dp := nI_clamp (by omega)
  have e3 : (nI n).toNatClampNeg = n := nI_clamp h5
  refine va_copyi (D := G.1) hF.1 hF.2.1 (hF.2.2.1.trans hsz.symm) hF.2.2.2.1 (hF.2.2.2.2 _ (List.mem_cons_of_mem _ hl)) (hF.2.2.2.2 _ (List.mem_cons_of_mem _ mY_n)) (hF.2.2.2.2 _ (List.mem_cons_of_mem _ mY_s)) (hF.2.2.2.2 _ (List.mem_cons_of_mem _ mY_i)) hK.1 hP hD hS q0 q1 2 2 ha0 ha1 rfl rfl rfl (nI_pos (by omega)) (nI_pos (by omega)) (nI_pos h5) (by rw [e1, e3]; exact h1) (by rw [e2, e3]; exact h2) (fun i _ => okC_fit (hfit _)) hframes hlocals hdg ?_
  rw [e1, e2, e3]
  exact kk
/-- the top of the stack under another name -/
theorem kTop {x y : Int32} (h : x = y) (k : W p l e R s m args below meth c H locs cells slots Q (F0 m pc ls (.int y :: rest))) : W p l e R s m args below meth c H locs cells slots Q (F0 m pc ls (.int x :: rest)) := h ▸ k
theorem kTopL {x y : Int64} (h : x = y) (k : W p l e R s m args below meth c H locs cells slots Q (F0 m pc ls (.long y :: rest))) : W p l e R s m args below meth c H locs cells slots Q (F0 m pc ls (.long x :: rest)) := h ▸ k
theorem kTopV {x y : Value} (h : x = y) (k : W p l e R s m args below meth c H locs cells slots Q (F0 m pc ls (y :: rest))) : W p l e R s m args below meth c H locs cells slots Q (F0 m pc ls (x :: rest)) := h ▸ k
/-- branches over numbers -/
theorem kLtN (hF : CallFix p m c cc nL s args Ts own) {x y : Nat} {off : Int} {tgt : Nat} (hdg : decode cc pc = .ok (.if_icmp .lt off, 3)) (ht : (pc : Int) + off = (tgt : Int)) (hx : x < 2 ^ 31) (hy : y < 2 ^ 31) (kt : x < y → W p l e R s m args below meth c H locs cells slots Q (F0 m tgt ls rest)) (kf : y ≤ x → W p l e R s m args below meth c H locs cells slots Q (F0 m (pc + 3) ls rest)) : W p l e R s m args below meth c H locs cells slots Q (F0 m pc ls (.int (nI y) :: .int (nI x) :: rest)) :=
  lv_icmp_lt hF.1 hF.2.1 hdg ht (fun h => kt ((nI_ltI hx hy).1 h)) (fun h => kf (Nat.le_of_not_lt fun h2 => h ((nI_ltI hx hy).2 h2)))
theorem kGeN (hF : CallFix p m c cc nL s args Ts own) {x y : Nat} {off : Int} {tgt : Nat} (hdg : decode cc pc = .ok (.if_icmp .ge off, 3)) (ht : (pc : Int) + off = (tgt : Int)) (hx : x < 2 ^ 31) (hy : y < 2 ^ 31) (kt : y ≤ x → W p l e R s m args below meth c H locs cells slots Q (F0 m tgt ls rest)) (kf : x < y → W p l e R s m args below meth c H locs cells slots Q (F0 m (pc + 3) ls rest)) : W p l e R s m args below meth c H locs cells slots Q (F0 m pc ls (.int (nI y) :: .int (nI x) :: rest)) :=
  lv_icmp_ge hF.1 hF.2.1 hdg ht (fun h => kt ((nI_leI hy hx).1 h)) (fun h => kf (Nat.lt_of_not_le fun h2 => h ((nI_leI hy hx).2 h2)))
theorem kGtN (hF : CallFix p m c cc nL s args Ts own) {x y : Nat} {off : Int} {tgt : Nat} (hdg : decode cc pc = .ok (.if_icmp .gt off, 3)) (ht : (pc : Int) + off = (tgt : Int)) (hx : x < 2 ^ 31) (hy : y < 2 ^ 31) (kt : y < x → W p l e R s m args below meth c H locs cells slots Q (F0 m tgt ls rest)) (kf : x ≤ y → W p l e R s m args below meth c H locs cells slots Q (F0 m (pc + 3) ls rest)) : W p l e R s m args below meth c H locs cells slots Q (F0 m pc ls (.int (nI y) :: .int (nI x) :: rest)) :=
  lv_icmp_gt hF.1 hF.2.1 hdg ht (fun h => kt ((nI_ltI hy hx).1 h)) (fun h => kf (Nat.le_of_not_lt fun h2 => h ((nI_ltI hy hx).2 h2)))
theorem kLeN (hF : CallFix p m c cc nL s args Ts own) {x y : Nat} {off : Int} {tgt : Nat} (hdg : decode cc pc = .ok (.if_icmp .le off, 3)) (ht : (pc : Int) + off = (tgt : Int)) (hx : x < 2 ^ 31) (hy : y < 2 ^ 31) (kt : x ≤ y → W p l e R s m args below meth c H locs cells slots Q (F0 m tgt ls rest)) (kf : y < x → W p l e R s m args below meth c H locs cells slots Q (F0 m (pc + 3) ls rest)) : W p l e R s m args below meth c H locs cells slots Q (F0 m pc ls (.int (nI y) :: .int (nI x) :: rest)) :=
  lv_icmp_le hF.1 hF.2.1 hdg ht (fun h => kt ((nI_leI hx hy).1 h)) (fun h => kf (Nat.lt_of_not_le fun h2 => h ((nI_leI hx hy).2 h2)))
theorem kEqN (hF : CallFix p m c cc nL s args Ts own) {x y : Nat} {off : Int} {tgt : Nat} (hdg : decode cc pc = .ok (.if_icmp .eq off, 3)) (ht : (pc : Int) + off = (tgt : Int)) (hx : x < 2 ^ 31) (hy : y < 2 ^ 31) (kt : x = y → W p l e R s m args below meth c H locs cells slots Q (F0 m tgt ls rest)) (kf : ¬ x = y → W p l e R s m args below meth c H locs cells slots Q (F0 m (pc + 3) ls rest)) : W p l e R s m args below meth c H locs cells slots Q (F0 m pc ls (.int (nI y) :: .int (nI x) :: rest)) :=
  lv_icmp_eq hF.1 hF.2.1 hdg ht (fun h => kt ((nI_eq hx hy).1 h)) (fun h => kf (fun h2 => h ((nI_eq hx hy).2 h2)))
theorem kNeN (hF : CallFix p m c cc nL s args Ts own) {x y : Nat} {off : Int} {tgt : Nat} (hdg : decode cc pc = .ok (.if_icmp .ne off, 3)) (ht : (pc : Int) + off = (tgt : Int)) (hx : x < 2 ^ 31) (hy : y < 2 ^ 31) (kt : ¬ x = y → W p l e R s m args below meth c H locs cells slots Q (F0 m tgt ls rest)) (kf : x = y → W p l e R s m args below meth c H locs cells slots Q (F0 m (pc + 3) ls rest)) : W p l e R s m args below meth c H locs cells slots Q (F0 m pc ls (.int (nI y) :: .int (nI x) :: rest)) :=
  lv_icmp_ne hF.1 hF.2.1 hdg ht (fun h => kt (fun h2 => h ((nI_eq hx hy).2 h2))) (fun h => kf ((nI_eq hx hy).1 h))
theorem nI_eq0 {x : Nat} (hx : x < 2 ^ 31) : nI x = 0 ↔ x = 0 := nI_eq hx (by decide)
theorem kIfEqN (hF : CallFix p m c cc nL s args Ts own) {x : Nat} {off : Int} {tgt : Nat} (hdg : decode cc pc = .ok (.ifCond .eq off, 3)) (ht : (pc : Int) + off = (tgt : Int)) (hx : x < 2 ^ 31) (kt : x = 0 → W p l e R s m args below meth c H locs cells slots Q (F0 m tgt ls rest)) (kf : 0 < x → W p l e R s m args below meth c H locs cells slots Q (F0 m (pc + 3) ls rest)) : W p l e R s m args below meth c H locs cells slots Q (F0 m pc ls (.int (nI x) :: rest)) :=
  lv_if_eq hF.1 hF.2.1 hdg ht (fun h => kt ((nI_eq0 hx).1 h)) (fun h => kf (Nat.pos_of_ne_zero fun h2 => h ((nI_eq0 hx).2 h2)))
theorem kIfNeN (hF : CallFix p m c cc nL s args Ts own) {x : Nat} {off : Int} {tgt : Nat} (hdg : decode cc pc = .ok (.ifCond .ne off, 3)) (ht : (pc : Int) + off = (tgt : Int)) (hx : x < 2 ^ 31) (kt : 0 < x → W p l e R s m args below meth c H locs cells slots Q (F0 m tgt ls rest)) (kf : x = 0 → W p l e R s m args below meth c H locs cells slots Q (F0 m (pc + 3) ls rest)) : W p l e R s m args below meth c H locs cells slots Q (F0 m pc ls (.int (nI x) :: rest)) :=
  lv_if_ne hF.1 hF.2.1 hdg ht (fun h => kt (Nat.pos_of_ne_zero fun h2 => h ((nI_eq0 hx).2 h2))) (fun h => kf ((nI_eq0 hx).1 h))
theorem kIfLtN (hF : CallFix p m c cc nL s args Ts own) {x : Nat} {off : Int} (hdg : decode cc pc = .ok (.ifCond .lt off, 3)) {tgt : Nat} (ht : (pc : Int) + off = (tgt : Int)) (hx : x < 2 ^ 31) (kf : W p l e R s m args below meth c H locs cells slots Q (F0 m (pc + 3) ls rest)) : W p l e R s m args below meth c H locs cells slots Q (F0 m pc ls (.int (nI x) :: rest)) :=
  lv_if_lt hF.1 hF.2.1 hdg ht (fun h => absurd h (nI_pos hx)) (fun _ => kf)
theorem kIfGeN (hF : CallFix p m c cc nL s args Ts own) {x : Nat} {off : Int} (hdg : decode cc pc = .ok (.ifCond .ge off, 3)) {tgt : Nat} (ht : (pc : Int) + off = (tgt : Int)) (hx : x < 2 ^ 31) (kf : W p l e R s m args below meth c H locs cells slots Q (F0 m tgt ls rest)) : W p l e R s m args below meth c H locs cells slots Q (F0 m pc ls (.int (nI x) :: rest)) :=
  lv_if_ge hF.1 hF.2.1 hdg ht (fun _ => kf) (fun h => absurd (nI_pos' hx) h)
theorem kIfLeN (hF : CallFix p m c cc nL s args Ts own) {x : Nat} {off : Int} {tgt : Nat} (hdg : decode cc pc = .ok (.ifCond .le off, 3)) (ht : (pc : Int) + off = (tgt : Int)) (hx : x < 2 ^ 31) (kt : x = 0 → W p l e R s m args below meth c H locs cells slots Q (F0 m tgt ls rest)) (kf : 0 < x → W p l e R s m args below meth c H locs cells slots Q (F0 m (pc + 3) ls rest)) : W p l e R s m args below meth c H locs cells slots Q (F0 m pc ls (.int (nI x) :: rest)) :=
  lv_if_le hF.1 hF.2.1 hdg ht (fun h => kt (Nat.le_zero.1 ((nI_leI hx (by decide : 0 < 2 ^ 31)).1 h))) (fun h => kf (Nat.pos_of_ne_zero fun h2 => h (by rw [h2]; decide)))
theorem kIfGtN (hF : CallFix p m c cc nL s args Ts own) {x : Nat} {off : Int} {tgt : Nat} (hdg : decode cc pc = .ok (.ifCond .gt off, 3)) (ht : (pc : Int) + off = (tgt : Int)) (hx : x < 2 ^ 31) (kt : 0 < x → W p l e R s m args below meth c H locs cells slots Q (F0 m tgt ls rest)) (kf : x = 0 → W p l e R s m args below meth c H locs cells slots Q (F0 m (pc + 3) ls rest)) : W p l e R s m args below meth c H locs cells slots Q (F0 m pc ls (.int (nI x) :: rest)) :=
  lv_if_gt hF.1 hF.2.1 hdg ht (fun h => kt ((nI_ltI (by decide : 0 < 2 ^ 31) hx).1 h)) (fun h => kf (Nat.eq_zero_of_not_pos fun h2 => h ((nI_ltI (by decide : 0 < 2 ^ 31) hx).2 h2)))
theorem kIfEqZ (hF : CallFix p m c cc nL s args Ts own) {P : Prop} {off : Int} {tgt : Nat} (hdg : decode cc pc = .ok (.ifCond .eq off, 3)) (ht : (pc : Int) + off = (tgt : Int)) (kt : ¬ P → W p l e R s m args below meth c H locs cells slots Q (F0 m tgt ls rest)) (kf : P → W p l e R s m args below meth c H locs cells slots Q (F0 m (pc + 3) ls rest)) : W p l e R s m args below meth c H locs cells slots Q (F0 m pc ls (.int (zI P) :: rest)) :=
  lv_if_eq hF.1 hF.2.1 hdg ht (fun h => kt (zI_eq0.1 h)) (fun h => kf (zI_ne0.1 h))
theorem kIfNeZ (hF : CallFix p m c cc nL s args Ts own) {P : Prop} {off : Int} {tgt : Nat} (hdg : decode cc pc = .ok (.ifCond .ne off, 3)) (ht : (pc : Int) + off = (tgt : Int)) (kt : P → W p l e R s m args below meth c H locs cells slots Q (F0 m tgt ls rest)) (kf : ¬ P → W p l e R s m args below meth c H locs cells slots Q (F0 m (pc + 3) ls rest)) : W p l e R s m args below meth c H locs cells slots Q (F0 m pc ls (.int (zI P) :: rest)) :=
  lv_if_ne hF.1 hF.2.1 hdg ht (fun h => kt (zI_ne0.1 h)) (fun h => kf (zI_eq0.1 h))
theorem kRetI {S : Type} {post : Int32 → S → Prop} {out : S → va_W} {v : Int32} {ty : FieldType} (hF : CallFix p m c cc nL s args Ts own) (hr : meth.sig.returnType = some ty) (hlk : meth.locks = false) (hK : KG G s) (hP : PG G ws H) (hD : va_D A ws) (hS : va_S A s.heap H locs) (hQ : Q = MQ below (va_Qi post (Bw G A out) A) args s mc ms A) (hn : narrow ty (.int v) = .int v) (u : S) (is : List Nat) (hnd : va_nd is = true) (hs : is.map (fun i => ws[i]?) = (out u).map some) (hc : cells ≤ mc) (hsl : slots ≤ ms) (hdg : decode cc pc = .ok (.ireturn, 1)) (hp : post v u) : W p l e R s m args below meth c H locs cells slots Q (F0 m pc ls [.int v]) := by
  rw [hQ]
  refine W.widen hc hsl ?_
  have hD9 := hD.sub is hnd hs
  have hP9 : PG G (out u) H := fun k x hk => by
    have h1 : (is.map (fun i => ws[i]?))[k]? = some (some x) := by rw [hs, List.getElem?_map, hk]; rfl
    rw [List.getElem?_map] at h1
    cases hi : is[k]? with
    | none => rw [hi] at h1; cases h1
    | some i => rw [hi] at h1; exact hP i x (Option.some.inj h1)
  exact W.zret hF.1 hF.2.1 hr hn (fun t ht hW => ⟨⟨v, u, rfl, hp, by rw [ht]; exact hP9, hD9⟩, hS.F ht⟩) hS.2.2 hdg hlk
theorem kRetL {S : Type} {post : Int64 → S → Prop} {out : S → va_W} {v : Int64} (hF : CallFix p m c cc nL s args Ts own) (hr : meth.sig.returnType = some .long) (hlk : meth.locks = false) (hK : KG G s) (hP : PG G ws H) (hD : va_D A ws) (hS : va_S A s.heap H locs) (hQ : Q = MQ below (va_Ql post (Bw G A out) A) args s mc ms A) (u : S) (is : List Nat) (hnd : va_nd is = true) (hs : is.map (fun i => ws[i]?) = (out u).map some) (hc : cells ≤ mc) (hsl : slots ≤ ms) (hdg : decode cc pc = .ok (.lreturn, 1)) (hp : post v u) : W p l e R s m args below meth c H locs cells slots Q (F0 m pc ls [.long v]) := by
  rw [hQ]
  refine W.widen hc hsl ?_
  have hD9 := hD.sub is hnd hs
  have hP9 : PG G (out u) H := fun k x hk => by
    have h1 : (is.map (fun i => ws[i]?))[k]? = some (some x) := by rw [hs, List.getElem?_map, hk]; rfl
    rw [List.getElem?_map] at h1
    cases hi : is[k]? with
    | none => rw [hi] at h1; cases h1
    | some i => rw [hi] at h1; exact hP i x (Option.some.inj h1)
  exact W.lret hF.1 hF.2.1 hr (fun t ht hW => ⟨⟨v, u, rfl, hp, by rw [ht]; exact hP9, hD9⟩, hS.F ht⟩) hS.2.2 hdg hlk
theorem kRetV {S : Type} {post : S → Prop} {out : S → va_W} (hF : CallFix p m c cc nL s args Ts own) (hr : meth.sig.returnType = none) (hlk : meth.locks = false) (hK : KG G s) (hP : PG G ws H) (hD : va_D A ws) (hS : va_S A s.heap H locs) (hQ : Q = MQ below (va_Qv post (Bw G A out) A) args s mc ms A) (u : S) (is : List Nat) (hnd : va_nd is = true) (hs : is.map (fun i => ws[i]?) = (out u).map some) (hc : cells ≤ mc) (hsl : slots ≤ ms) (hdg : decode cc pc = .ok (.return_, 1)) (hp : post u) : W p l e R s m args below meth c H locs cells slots Q (F0 m pc ls []) := by
  rw [hQ]
  refine W.widen hc hsl ?_
  have hD9 := hD.sub is hnd hs
  have hP9 : PG G (out u) H := fun k x hk => by
    have h1 : (is.map (fun i => ws[i]?))[k]? = some (some x) := by rw [hs, List.getElem?_map, hk]; rfl
    rw [List.getElem?_map] at h1
    cases hi : is[k]? with
    | none => rw [hi] at h1; cases h1
    | some i => rw [hi] at h1; exact hP i x (Option.some.inj h1)
  exact W.vret hF.1 hF.2.1 hr (fun t ht hW => ⟨⟨u, rfl, hp, by rw [ht]; exact hP9, hD9⟩, hS.F ht⟩) hS.2.2 hdg hlk
theorem kRetQ {S : Type} {post : Option Nat → S → Prop} {out : S → va_W} {v : Option Nat} {rt : FieldType} (hF : CallFix p m c cc nL s args Ts own) (hr : meth.sig.returnType = some rt) (hrt : (∃ n, rt = .object n) ∨ ∃ t, rt = .array t) (hlk : meth.locks = false) (hK : KG G s) (hP : PG G ws H) (hD : va_D A ws) (hS : va_S A s.heap H locs) (hQ : Q = MQ below (va_Qq post (Bw G A out) A) args s mc ms A) (u : S) (is : List Nat) (hnd : va_nd is = true) (hs : is.map (fun i => ws[i]?) = (out u).map some) (hc : cells ≤ mc) (hsl : slots ≤ ms) (hdg : decode cc pc = .ok (.areturn, 1)) (hp : post v u) : W p l e R s m args below meth c H locs cells slots Q (F0 m pc ls [va_rf v]) := by
  rw [hQ]
  refine W.widen hc hsl ?_
  have hD9 := hD.sub is hnd hs
  have hP9 : PG G (out u) H := fun k x hk => by
    have h1 : (is.map (fun i => ws[i]?))[k]? = some (some x) := by rw [hs, List.getElem?_map, hk]; rfl
    rw [List.getElem?_map] at h1
    cases hi : is[k]? with
    | none => rw [hi] at h1; cases h1
    | some i => rw [hi] at h1; exact hP i x (Option.some.inj h1)
  exact W.aret hF.1 hF.2.1 hr hrt (va_rf_or v) (fun t ht hW => ⟨⟨v, u, rfl, hp, by rw [ht]; exact hP9, hD9⟩, hS.F ht⟩) hS.2.2 hdg hlk
theorem kRetIT {S : Type} {post : Int32 → S → Prop} {ox : S → va_W} {X pl : va_W} {v : Int32} {ty : FieldType} (hF : CallFix p m c cc nL s args Ts own) (hr : meth.sig.returnType = some ty) (hlk : meth.locks = false) (hK : KG G s) (hP : PG G (X ++ pl) H) (hD : va_D A (X ++ pl)) (hS : va_S A s.heap H locs) (hQ : Q = MQ below (va_Qi post (Bw G A (fun u => ox u ++ pl)) A) args s mc ms A) (hn : narrow ty (.int v) = .int v) (u : S) (is : List Nat) (hnd : va_nd is = true) (hs : is.map (fun i => X[i]?) = (ox u).map some) (hc : cells ≤ mc) (hsl : slots ≤ ms) (hdg : decode cc pc = .ok (.ireturn, 1)) (hp : post v u) : W p l e R s m args below meth c H locs cells slots Q (F0 m pc ls [.int v]) := by
  rw [hQ]
  refine W.widen hc hsl ?_
  have hD9 : va_D A (ox u ++ pl) := hD.part is hnd hs
  have hP9 : PG G (ox u ++ pl) H := hP.part is hs
  exact W.zret hF.1 hF.2.1 hr hn (fun t ht hW => ⟨⟨v, u, rfl, hp, by rw [ht]; exact hP9, hD9⟩, hS.F ht⟩) hS.2.2 hdg hlk
theorem kRetVT {S : Type} {post : S → Prop} {ox : S → va_W} {X pl : va_W} (hF : CallFix p m c cc nL s args Ts own) (hr : meth.sig.returnType = none) (hlk : meth.locks = false) (hK : KG G s) (hP : PG G (X ++ pl) H) (hD : va_D A (X ++ pl)) (hS : va_S A s.heap H locs) (hQ : Q = MQ below (va_Qv post (Bw G A (fun u => ox u ++ pl)) A) args s mc ms A) (u : S) (is : List Nat) (hnd : va_nd is = true) (hs : is.map (fun i => X[i]?) = (ox u).map some) (hc : cells ≤ mc) (hsl : slots ≤ ms) (hdg : decode cc pc = .ok (.return_, 1)) (hp : post u) : W p l e R s m args below meth c H locs cells slots Q (F0 m pc ls []) := by
  rw [hQ]
  refine W.widen hc hsl ?_
  have hD9 : va_D A (ox u ++ pl) := hD.part is hnd hs
  have hP9 : PG G (ox u ++ pl) H := hP.part is hs
  exact W.vret hF.1 hF.2.1 hr (fun t ht hW => ⟨⟨u, rfl, hp, by rw [ht]; exact hP9, hD9⟩, hS.F ht⟩) hS.2.2 hdg hlk
end MKC
/-- a contract out of the walk of its body -/
theorem kMet {l : Launch} {G : GG} {y : MethodName} {ws : List Cond} {fr lo mc ms sz : Nat} {av : List Value} {WS : va_W} {Qc : (Nat → Prop) → Array Value → State → Outcome → State → Prop} {cc : ByteArray} {nL : Nat} {ret : Option FieldType} (hy : plainName y.cls = true) (hw : ws = Cond.code y cc nL ret :: BIG) (hlen : (lg_sl av).length ≤ nL)
    (body : ∀ (p : Program) (e : Env) (s : State) (m : MethodId) (args : Array Value) (below : List Frame) (meth : Method) (c : Code) (A : Nat → Prop) (Q : State → Prop), CallFix p m c cc nL s args (Cond.code y cc nL ret :: BIG) y.cls → meth.sig.returnType = ret → meth.locks = false → meth.name = y.name → KG G s → PG G WS s.heap → va_D A WS → (∀ q, s.heap.size ≤ q → A q) → va_S A s.heap s.heap [] → Q = MQ below (Qc A) args s mc ms A → s.heap.size = sz → ∀ ls : Array Slot, lv_has ls nL (lv_args 0 av) → W p l e (Rm fr mc ms lo) s m args below meth c s.heap [] 0 0 Q (F0 m 0 ls [])) :
    Met l y ws (Rm fr mc ms lo) (PreG G av WS sz) (Qc (va_A WS sz)) mc ms (va_A WS sz) := by
  subst hw
  refine Met.ofW (cc := cc) (maxL := nL) (ret := ret) hy rfl ?_
  intro p e s m args below meth c s₁ B hml hv
  obtain ⟨rfl, hsz, hP, hK, hD0⟩ := hv
  have hts := atoms_spec (ws := Cond.code y cc nL ret :: BIG) B.pre
  have hown : s.vm.findClass y.cls = some m.cls := findClass_of_methodNamed B.named
  subst hsz
  have hD := hD0.self (sz := s.heap.size)
  have hl := lv_entry av (n := nL) hlen
  rw [lg_entry_eq]
  exact body p e s m av.toArray below meth c _ _ ⟨B.exec, B.bytes, hml, hown, hts⟩ B.returns B.notSynchronized (name_of_methodNamed B.named B.method).1 hK hP hD (fun q h => Or.inr h) va_S.rf rfl rfl _ hl
end
section
/-! numbers, scans and counts -/
theorem nI_inc1 (n : Nat) : nI n + Int32.ofInt 1 = nI (n + 1) := by rw [show Int32.ofInt 1 = (1 : Int32) from by decide]; exact nI_1 n
theorem nI_dec1 {n : Nat} (h : 0 < n) : nI n + Int32.ofInt (-1) = nI (n - 1) := by rw [show Int32.ofInt (-1) = (-1 : Int32) from by decide]; exact sb_m1 h
theorem nI_dec8 {n : Nat} (h : 8 ≤ n) : nI n + Int32.ofInt (-8) = nI (n - 8) := by
  obtain ⟨k, rfl⟩ : ∃ k, n = k + 8 := ⟨n - 8, by omega⟩
  rw [← nI_add, Int32.add_assoc, show nI 8 + Int32.ofInt (-8) = (0 : Int32) from by decide, Int32.add_zero, show k + 8 - 8 = k by omega]
section KC
variable {p : Program} {l : Launch} {e : Env} {R : Room} {s : State} {m : MethodId} {args : Array Value} {below : List Frame} {meth : Method} {c : Code} {H : Heap} {locs : List Loc} {cells slots pc : Nat} {Q : State → Prop} {ls : Array Slot} {rest : List Value} {cc : ByteArray} {nL : Nat} {Ts : List Cond} {own : String}
theorem kIfEqC (hF : CallFix p m c cc nL s args Ts own) {x y : Int64} {off : Int} {tgt : Nat} (hdg : decode cc pc = .ok (.ifCond .eq off, 3)) (ht : (pc : Int) + off = (tgt : Int)) (kt : x = y → W p l e R s m args below meth c H locs cells slots Q (F0 m tgt ls rest)) (kf : ¬ x = y → W p l e R s m args below meth c H locs cells slots Q (F0 m (pc + 3) ls rest)) : W p l e R s m args below meth c H locs cells slots Q (F0 m pc ls (.int (lg_cmp x y) :: rest)) :=
  lv_if_eq hF.1 hF.2.1 hdg ht (fun h => kt ((lg_cmp_eq x y).1 h)) (fun h => kf (fun h2 => h ((lg_cmp_eq x y).2 h2)))
theorem kIfNeC (hF : CallFix p m c cc nL s args Ts own) {x y : Int64} {off : Int} {tgt : Nat} (hdg : decode cc pc = .ok (.ifCond .ne off, 3)) (ht : (pc : Int) + off = (tgt : Int)) (kt : ¬ x = y → W p l e R s m args below meth c H locs cells slots Q (F0 m tgt ls rest)) (kf : x = y → W p l e R s m args below meth c H locs cells slots Q (F0 m (pc + 3) ls rest)) : W p l e R s m args below meth c H locs cells slots Q (F0 m pc ls (.int (lg_cmp x y) :: rest)) :=
  lv_if_ne hF.1 hF.2.1 hdg ht (fun h => kt (fun h2 => h ((lg_cmp_eq x y).2 h2))) (fun h => kf ((lg_cmp_eq x y).1 h))
theorem kIfLeC (hF : CallFix p m c cc nL s args Ts own) {x y : Int64} {off : Int} {tgt : Nat} (hdg : decode cc pc = .ok (.ifCond .le off, 3)) (ht : (pc : Int) + off = (tgt : Int)) (kt : x ≤ y → W p l e R s m args below meth c H locs cells slots Q (F0 m tgt ls rest)) (kf : ¬ x ≤ y → W p l e R s m args below meth c H locs cells slots Q (F0 m (pc + 3) ls rest)) : W p l e R s m args below meth c H locs cells slots Q (F0 m pc ls (.int (lg_cmp x y) :: rest)) :=
  lv_if_le hF.1 hF.2.1 hdg ht (fun h => kt ((lg_cmp_le x y).1 h)) (fun h => kf (fun h2 => h ((lg_cmp_le x y).2 h2)))
end KC
/-- the least place from k on, below k + n, where p fails; k + n if none -/
def scan (p : Nat → Bool) : Nat → Nat → Nat
  | 0, k => k
  | n + 1, k => if p k then scan p n (k + 1) else k
theorem scan_t {p : Nat → Bool} {n k : Nat} (hk : k < n) (h : p k = true) : scan p (n - k) k = scan p (n - (k + 1)) (k + 1) := by
  rw [show n - k = n - (k + 1) + 1 by omega]
  show (if p k then scan p (n - (k + 1)) (k + 1) else k) = _
  rw [h]; rfl
theorem scan_f {p : Nat → Bool} {n k : Nat} (hk : k < n) (h : p k = false) : scan p (n - k) k = k := by
  rw [show n - k = n - (k + 1) + 1 by omega]
  show (if p k then scan p (n - (k + 1)) (k + 1) else k) = _
  rw [h]; rfl
theorem scan_e {p : Nat → Bool} {n k : Nat} (h : n ≤ k) : scan p (n - k) k = k := by rw [Nat.sub_eq_zero_of_le h]; rfl
theorem scan_le {p : Nat → Bool} : ∀ (n k : Nat), k ≤ scan p n k ∧ scan p n k ≤ k + n
  | 0, k => ⟨Nat.le_refl k, Nat.le_refl _⟩
  | n + 1, k => by
    show k ≤ (if p k then scan p n (k + 1) else k) ∧ (if p k then scan p n (k + 1) else k) ≤ k + (n + 1)
    have h := scan_le (p := p) n (k + 1)
    split <;> omega
theorem scan_in {p : Nat → Bool} : ∀ (n k j : Nat), k ≤ j → j < scan p n k → p j = true
  | 0, k, j, h1, h2 => by have h2 : j < k := h2; omega
  | n + 1, k, j, h1, h2 => by
    have h2 : j < (if p k then scan p n (k + 1) else k) := h2
    by_cases hp : p k = true
    · rw [if_pos hp] at h2
      by_cases hj : j = k
      · rw [hj]; exact hp
      · exact scan_in n (k + 1) j (by omega) h2
    · rw [if_neg hp] at h2; omega
theorem scan_at {p : Nat → Bool} : ∀ (n k : Nat), scan p n k < k + n → p (scan p n k) = false
  | 0, k, h => by have h : k < k := h; omega
  | n + 1, k, h => by
    have h : (if p k then scan p n (k + 1) else k) < k + (n + 1) := h
    show p (if p k then scan p n (k + 1) else k) = false
    by_cases hp : p k = true
    · rw [if_pos hp] at h ⊢
      exact scan_at n (k + 1) (by omega)
    · rw [if_neg hp]; simpa using hp
theorem scan_uniq {p : Nat → Bool} {n k j : Nat} (h1 : k ≤ j) (h2 : j ≤ k + n) (h3 : ∀ i, k ≤ i → i < j → p i = true) (h4 : j < k + n → p j = false) : scan p n k = j := by
  have a := scan_le (p := p) n k
  rcases Nat.lt_trichotomy (scan p n k) j with h | h | h
  · have b := scan_at (p := p) n k (by omega)
    rw [h3 _ a.1 h] at b; cases b
  · exact h
  · have b := scan_in (p := p) n k j h1 h
    rw [h4 (by omega)] at b; cases b
/-- how many places below n have p -/
def cntB (p : Nat → Bool) : Nat → Nat
  | 0 => 0
  | n + 1 => cntB p n + (if p n then 1 else 0)
theorem cntB_t {p : Nat → Bool} {k : Nat} (h : p k = true) : cntB p (k + 1) = cntB p k + 1 := by show cntB p k + (if p k then 1 else 0) = _; rw [h]; rfl
theorem cntB_f {p : Nat → Bool} {k : Nat} (h : p k = false) : cntB p (k + 1) = cntB p k := by show cntB p k + (if p k then 1 else 0) = _; rw [h]; rfl
theorem cntB_le {p : Nat → Bool} : ∀ n, cntB p n ≤ n
  | 0 => Nat.le_refl 0
  | n + 1 => by show cntB p n + (if p n then 1 else 0) ≤ n + 1; have := cntB_le (p := p) n; split <;> omega
/-- a place as the answer of a search below n -/
def rI (j n : Nat) : Int32 := if j < n then nI j else -1
theorem rI_t {j n : Nat} (h : j < n) : rI j n = nI j := if_pos h
theorem rI_f {j n : Nat} (h : n ≤ j) : rI j n = -1 := if_neg (by omega)
def shf {α : Type} (f : Nat → α) (p k : Nat) : Nat → α := fun j => if p ≤ j ∧ j < k then f (j + 1) else f j
theorem shf_0 {α : Type} (f : Nat → α) (p : Nat) : shf f p p = f := by funext j; unfold shf; rw [if_neg (by omega)]
theorem shf_s {f : Nat → Int32} {p k : Nat} (h : p ≤ k) : upd (shf f p k) k (shf f p k (k + 1)) = shf f p (k + 1) := by
  funext j
  unfold upd shf
  by_cases hj : j = k
  · rw [if_pos hj, if_neg (by omega), if_pos (by omega), hj]
  · rw [if_neg hj]
    by_cases hk : p ≤ j ∧ j < k
    · rw [if_pos hk, if_pos (by omega)]
    · rw [if_neg hk, if_neg (by omega)]
theorem shf_sL {f : Nat → Int64} {p k : Nat} (h : p ≤ k) : vp_updL (shf f p k) k (shf f p k (k + 1)) = shf f p (k + 1) := by
  funext j
  unfold vp_updL shf
  by_cases hj : j = k
  · rw [if_pos hj, if_neg (by omega), if_pos (by omega), hj]
  · rw [if_neg hj]
    by_cases hk : p ≤ j ∧ j < k
    · rw [if_pos hk, if_pos (by omega)]
    · rw [if_neg hk, if_neg (by omega)]
def fndE (dF : Nat → Int32) (nF : Nat → Int64) (d : Int32) (nm : Int64) (ec : Nat) : Nat := scan (fun j => !(decide (dF j = d) && decide (nF j = nm))) ec 0
/-- the place of the q-th that has p -/
def nth (p : Nat → Bool) (q : Int32) : Nat → Nat → Nat → Nat
  | 0, k, _ => k
  | n + 1, k, b => if p k then (if nI b = q then k else nth p q n (k + 1) (b + 1)) else nth p q n (k + 1) b
theorem nth_e {p : Nat → Bool} {q : Int32} {n k b : Nat} (h : n ≤ k) : nth p q (n - k) k b = k := by rw [Nat.sub_eq_zero_of_le h]; rfl
theorem nth_t {p : Nat → Bool} {q : Int32} {n k b : Nat} (hk : k < n) (h : p k = true) (hb : nI b = q) : nth p q (n - k) k b = k := by
  rw [show n - k = n - (k + 1) + 1 by omega]
  show (if p k then (if nI b = q then k else nth p q (n - (k + 1)) (k + 1) (b + 1)) else nth p q (n - (k + 1)) (k + 1) b) = _
  rw [if_pos h, if_pos hb]
theorem nth_n {p : Nat → Bool} {q : Int32} {n k b : Nat} (hk : k < n) (h : p k = true) (hb : ¬ nI b = q) : nth p q (n - k) k b = nth p q (n - (k + 1)) (k + 1) (b + 1) := by
  rw [show n - k = n - (k + 1) + 1 by omega]
  show (if p k then (if nI b = q then k else nth p q (n - (k + 1)) (k + 1) (b + 1)) else nth p q (n - (k + 1)) (k + 1) b) = _
  rw [if_pos h, if_neg hb]
theorem nth_f {p : Nat → Bool} {q : Int32} {n k b : Nat} (hk : k < n) (h : p k = false) : nth p q (n - k) k b = nth p q (n - (k + 1)) (k + 1) b := by
  rw [show n - k = n - (k + 1) + 1 by omega]
  show (if p k then (if nI b = q then k else nth p q (n - (k + 1)) (k + 1) (b + 1)) else nth p q (n - (k + 1)) (k + 1) b) = _
  rw [h]; rfl
def rL (j n : Nat) (f : Nat → Int64) : Int64 := if j < n then f j else lN 0
theorem rL_t {j n : Nat} {f : Nat → Int64} (h : j < n) : rL j n f = f j := if_pos h
theorem rL_f {j n : Nat} {f : Nat → Int64} (h : n ≤ j) : rL j n f = lN 0 := if_neg (by omega)
theorem rI_lt {j n : Nat} (h : ¬ rI j n = -1) : j < n := by
  by_cases h2 : j < n
  · exact h2
  · exact absurd (rI_f (by omega)) h
theorem rI_ge {j n : Nat} (h : rI j n = -1) (hj : n < 2 ^ 31 := by omega) : n ≤ j := by
  by_cases h2 : j < n
  · rw [rI_t h2] at h
    have := nI_pos (n := j) (by omega)
    rw [h] at this
    exact absurd (by decide) this
  · omega
/-- the volume over o, 0 if none -/
def covJ (cF : Nat → Int32) (o : Int32) (vn : Nat) : Nat := scan (fun v => !decide (cF v = o)) (vn - 1) 1
def covN (cF : Nat → Int32) (o : Int32) (vn : Nat) : Nat := if covJ cF o vn < vn then covJ cF o vn else 0
theorem covN_t {cF : Nat → Int32} {o : Int32} {vn k : Nat} (h : scan (fun v => !decide (cF v = o)) (vn - 1) 1 = k) (hk : k < vn) : covN cF o vn = k := by
  unfold covN covJ; rw [h, if_pos hk]
theorem covN_f {cF : Nat → Int32} {o : Int32} {vn : Nat} (h : vn ≤ scan (fun v => !decide (cF v = o)) (vn - 1) 1) : covN cF o vn = 0 := by
  unfold covN covJ; rw [if_neg (by omega)]
theorem covN_lt {cF : Nat → Int32} {o : Int32} {vn : Nat} (h : 1 ≤ vn ∧ vn ≤ 4) : covN cF o vn < vn := by
  unfold covN; split <;> omega
def mwrN (rF cF : Nat → Int32) (o : Int32) (vn : Nat) : Nat := scan (fun v => !(decide (rF v = o) && !decide (cF v = -1))) (vn - 1) 1
def topC (rF cF : Nat → Int32) (vn : Nat) : Nat → Int32 → Int32
  | 0, h => h
  | n + 1, h => if covN cF h vn = 0 then h else topC rF cF vn n (rF (covN cF h vn))
theorem topC_e {rF cF : Nat → Int32} {vn n k : Nat} {h : Int32} (hk : n ≤ k) : topC rF cF vn (n - k) h = h := by rw [Nat.sub_eq_zero_of_le hk]; rfl
theorem topC_r {rF cF : Nat → Int32} {vn n k : Nat} {h : Int32} (hk : k < n) (h0 : covN cF h vn = 0) : topC rF cF vn (n - k) h = h := by
  rw [show n - k = n - (k + 1) + 1 by omega]; show (if covN cF h vn = 0 then h else _) = _; rw [if_pos h0]
theorem topC_s {rF cF : Nat → Int32} {vn n k : Nat} {h : Int32} (hk : k < n) (h0 : 0 < covN cF h vn) : topC rF cF vn (n - k) h = topC rF cF vn (n - (k + 1)) (rF (covN cF h vn)) := by
  rw [show n - k = n - (k + 1) + 1 by omega]; show (if covN cF h vn = 0 then h else topC rF cF vn (n - (k + 1)) (rF (covN cF h vn))) = _; rw [if_neg (by omega)]
def grdC (rF cF : Nat → Int32) (vn : Nat) : Nat → Int32 → Int32
  | 0, h => h
  | n + 1, h => if vn ≤ mwrN rF cF h vn then h else grdC rF cF vn n (cF (mwrN rF cF h vn))
theorem grdC_e {rF cF : Nat → Int32} {vn n k : Nat} {h : Int32} (hk : n ≤ k) : grdC rF cF vn (n - k) h = h := by rw [Nat.sub_eq_zero_of_le hk]; rfl
theorem grdC_r {rF cF : Nat → Int32} {vn n k : Nat} {h : Int32} (hk : k < n) (h0 : vn ≤ mwrN rF cF h vn) : grdC rF cF vn (n - k) h = h := by
  rw [show n - k = n - (k + 1) + 1 by omega]; show (if vn ≤ mwrN rF cF h vn then h else _) = _; rw [if_pos h0]
theorem grdC_s {rF cF : Nat → Int32} {vn n k : Nat} {h : Int32} (hk : k < n) (h0 : mwrN rF cF h vn < vn) : grdC rF cF vn (n - k) h = grdC rF cF vn (n - (k + 1)) (cF (mwrN rF cF h vn)) := by
  rw [show n - k = n - (k + 1) + 1 by omega]; show (if vn ≤ mwrN rF cF h vn then h else grdC rF cF vn (n - (k + 1)) (cF (mwrN rF cF h vn))) = _; rw [if_neg (by omega)]
theorem mwr_spec {rF cF : Nat → Int32} {o : Int32} {vn : Nat} (h : mwrN rF cF o vn < vn) (h1 : 1 ≤ vn) : 1 ≤ mwrN rF cF o vn ∧ rF (mwrN rF cF o vn) = o ∧ ¬ cF (mwrN rF cF o vn) = -1 := by
  have a := scan_le (p := fun v => !(decide (rF v = o) && !decide (cF v = -1))) (vn - 1) 1
  have b := scan_at (p := fun v => !(decide (rF v = o) && !decide (cF v = -1))) (vn - 1) 1 (by unfold mwrN at h; omega)
  refine ⟨a.1, ?_⟩
  unfold mwrN
  simpa using b
theorem grdC_in {rF cF : Nat → Int32} {vn : Nat} {d : Int32} (hcr : ∀ v, v < 4 → cF v = -1 ∨ vp_in (cF v) 40) (hd : vp_in d 40) (hvn : 1 ≤ vn ∧ vn ≤ 4 := by assumption) : ∀ {n : Nat}, vp_in (grdC rF cF vn n d) 40 := by
  intro n
  induction n generalizing d with
  | zero => exact hd
  | succ n ih =>
    show vp_in (if vn ≤ mwrN rF cF d vn then d else grdC rF cF vn n (cF (mwrN rF cF d vn))) 40
    by_cases h : vn ≤ mwrN rF cF d vn
    · rw [if_pos h]; exact hd
    · rw [if_neg h]
      refine ih ?_
      have a := mwr_spec (rF := rF) (cF := cF) (o := d) (vn := vn) (by omega) hvn.1
      rcases hcr (mwrN rF cF d vn) (by omega) with h2 | h2
      · exact absurd h2 a.2.2
      · exact h2
theorem topC_in {rF cF : Nat → Int32} {vn : Nat} {d : Int32} (hrr : ∀ v, v < 4 → vp_in (rF v) 40) (hd : vp_in d 40) (hvn : 1 ≤ vn ∧ vn ≤ 4 := by assumption) : ∀ {n : Nat}, vp_in (topC rF cF vn n d) 40 := by
  intro n
  induction n generalizing d with
  | zero => exact hd
  | succ n ih =>
    show vp_in (if covN cF d vn = 0 then d else topC rF cF vn n (rF (covN cF d vn))) 40
    by_cases h : covN cF d vn = 0
    · rw [if_pos h]; exact hd
    · rw [if_neg h]
      have := covN_lt (cF := cF) (o := d) hvn
      exact ih (hrr _ (by omega))
theorem vp_ix {i : Int32} {n : Nat} (h : vp_in i n) : ix i < n := by
  rcases Nat.lt_or_ge (ix i) n with a | a
  · exact a
  · exact absurd (Or.inr a) h
def abvC (rF cF pF : Nat → Int32) (vn : Nat) (d r0 : Int32) : Int32 := if d = r0 then r0 else topC rF cF vn 4 (pF (ix (grdC rF cF vn 4 d)))
theorem abvC_t {rF cF pF : Nat → Int32} {vn : Nat} {d r0 : Int32} (h : d = r0) : abvC rF cF pF vn d r0 = r0 := if_pos h
theorem abvC_f {rF cF pF : Nat → Int32} {vn : Nat} {d r0 : Int32} (h : ¬ d = r0) : abvC rF cF pF vn d r0 = topC rF cF vn 4 (pF (ix (grdC rF cF vn 4 d))) := if_neg h
theorem abvC_in {rF cF pF : Nat → Int32} {vn : Nat} {d r0 : Int32} (hvn : 1 ≤ vn ∧ vn ≤ 4) (hcr : ∀ v, v < 4 → cF v = -1 ∨ vp_in (cF v) 40) (hrr : ∀ v, v < 4 → vp_in (rF v) 40) (hpr : ∀ i, i < 40 → vp_in (pF i) 40) (hd : vp_in d 40) (hr : vp_in r0 40) : vp_in (abvC rF cF pF vn d r0) 40 := by
  unfold abvC
  split
  · exact hr
  · exact topC_in hrr (hpr _ (vp_ix (grdC_in hcr hd)))
def mayP (us md ow rt : Int32) : Prop := us = 0 ∨ ¬ ((if us = ow then md / nI 4 else md - md / nI 4 * nI 4) &&& rt) = 0
abbrev isS (f : Nat → Int32) : Nat → Bool := fun j => decide (f j = nI 47)
abbrev noS (f : Nat → Int32) : Nat → Bool := fun j => !decide (f j = nI 47)
/-- a name out of its characters, a byte each -/
def nmC (f : Nat → Int32) : Nat → Nat → Int64 → Int64
  | 0, _, a => a
  | n + 1, k, a => nmC f n (k + 1) ((a <<< ((nI 8).toInt64 &&& 63)) ||| (f k).toInt64)
theorem nmC_e {f : Nat → Int32} {n k : Nat} {a : Int64} (h : n ≤ k) : nmC f (n - k) k a = a := by rw [Nat.sub_eq_zero_of_le h]; rfl
theorem nmC_s {f : Nat → Int32} {n k : Nat} {a : Int64} (h : k < n) : nmC f (n - k) k a = nmC f (n - (k + 1)) (k + 1) ((a <<< ((nI 8).toInt64 &&& 63)) ||| (f k).toInt64) := by
  rw [show n - k = n - (k + 1) + 1 by omega]; rfl
/-- what stands against a name: the codes of takeName -/
noncomputable def tkR (kF mF oF : Nat → Int32) (us a : Int32) (len : Nat) : Int32 := if kF (ix a) = nI 1 then pI (mayP us (mF (ix a)) (oF (ix a)) (nI 1)) (if 6 < len then -5 else nI 0) (-3) else -2
theorem cpy_s {fl f : Nat → Int32} {n st i : Nat} (hi : i < n) (hn : n ≤ st) : upd (va_cpy fl f (n - i) (st - i) i) (st - i - 1) (fl (n - i - 1)) = va_cpy fl f (n - i - 1) (st - i - 1) (i + 1) := by
  funext j
  unfold upd va_cpy
  by_cases hj : j = st - i - 1
  · rw [if_pos hj, if_pos (by omega), show n - i - 1 + (j - (st - i - 1)) = n - i - 1 by omega]
  · rw [if_neg hj]
    by_cases hk : st - i ≤ j ∧ j < st - i + i
    · rw [if_pos hk, if_pos (by omega), show n - i + (j - (st - i)) = n - i - 1 + (j - (st - i - 1)) by omega]
    · rw [if_neg hk, if_neg (by omega)]
theorem nI_m1s (x : Int32) : x + Int32.ofInt (-1) = x - nI 1 := by rw [Int32.sub_eq_add_neg]; congr 1
theorem nI_m1lt {i : Nat} (h : i < 2 ^ 31) : (nI i - nI 1 < 0) ↔ i = 0 := by
  constructor
  · intro h2
    rcases Nat.eq_zero_or_pos i with h3 | h3
    · exact h3
    · rw [pk_sub (by omega : 1 ≤ i)] at h2
      exact absurd h2 (nI_pos (by omega))
  · intro h2; rw [h2]; decide
end
section
set_option maxHeartbeats 4000000 in
set_option maxRecDepth 100000 in
theorem c_X1_clear (l : Launch) (G : GG) (sz : Nat) (a b n : Nat) (f : Nat → Int32) : CtV l G yX1_clear wsX1_clear 0 0 0 0 sz [.ref a] [oC a 1 [.ref b, .int (nI n)], aC G b 40 f] (fun (_ : Unit) => True) (fun (_ : Unit) => [oC a 1 [.ref b, .int (nI 0)], aC G b 40 f]) := by
  refine kMet (Qc := fun A => va_Qv _ (Bw G A _) A) (cc := cX1_clear) (nL := 1) (ret := none) (by decide) rfl (Nat.le_of_ble_eq_true rfl) ?_
  intro p e s m args below meth c A Q hF hr hlk hnme hK hP hD hA hS hQ hsz ls hl
  have hl : lv_has ls 1 [(0, .ref a)] := hl
  refine lv_aload_n hF.1 hF.2.1 dX1_clear_0 rfl (lv_at hl 0 rfl) ?_
  refine lv_iconst (v := (nI 0)) hF.1 hF.2.1 dX1_clear_1 (by decide) ?_
  refine kPut (C := RX1) (T := TX1) (N := 2) (index := 15) (v := .int (nI 0)) hF hK hP hD hS (inT inBX1) tyX1_ok nmX1 0 rfl rfl 1 (by decide) rfl (List.mem_cons_of_mem _ mF_X1_15) rfl rfl rfl (Nat.le_of_ble_eq_true rfl) dX1_clear_2 (fun H locs hP hD hS => ?_)
  have hP : PG G [oC a 1 [.ref b, .int (nI 0)], aC G b 40 f] H := hP
  have hD : va_D A [oC a 1 [.ref b, .int (nI 0)], aC G b 40 f] := hD
  refine kRetV hF hr hlk hK hP hD hS hQ () [0, 1] (by decide) rfl (by omega) (by omega) dX1_clear_5 ?_
  exact (by first | rfl | trivial | exact zI_1 (by first | assumption | omega) | exact zI_0 (by first | assumption | omega) | (simp_all; done))
set_option maxHeartbeats 4000000 in
set_option maxRecDepth 100000 in
theorem c_X1_size (l : Launch) (G : GG) (sz : Nat) (a b n : Nat) (f : Nat → Int32) : CtI l G yX1_size wsX1_size 0 0 0 0 sz [.ref a] [oC a 1 [.ref b, .int (nI n)], aC G b 40 f] (fun r (_ : Unit) => r = (nI n)) (fun (_ : Unit) => [oC a 1 [.ref b, .int (nI n)], aC G b 40 f]) := by
  refine kMet (Qc := fun A => va_Qi _ (Bw G A _) A) (cc := cX1_size) (nL := 1) (ret := some (.int)) (by decide) rfl (Nat.le_of_ble_eq_true rfl) ?_
  intro p e s m args below meth c A Q hF hr hlk hnme hK hP hD hA hS hQ hsz ls hl
  have hl : lv_has ls 1 [(0, .ref a)] := hl
  refine lv_aload_n hF.1 hF.2.1 dX1_size_0 rfl (lv_at hl 0 rfl) ?_
  refine kGet (C := RX1) (T := TX1) (N := 2) (index := 15) hF hK hP (inT inBX1) 0 rfl rfl 1 (by decide) rfl (List.mem_cons_of_mem _ mF_X1_15) rfl dX1_size_1 ?_
  refine kRetI (v := (nI n)) hF hr hlk hK hP hD hS hQ rfl () [0, 1] (by decide) rfl (by omega) (by omega) dX1_size_4 ?_
  exact (by first | rfl | trivial | exact zI_1 (by first | assumption | omega) | exact zI_0 (by first | assumption | omega) | (simp_all; done))
set_option maxHeartbeats 4000000 in
set_option maxRecDepth 100000 in
theorem c_X1_isEmpty (l : Launch) (G : GG) (sz : Nat) (a b n : Nat) (f : Nat → Int32) (hn : n ≤ 40) : CtI l G yX1_isEmpty wsX1_isEmpty 0 0 0 0 sz [.ref a] [oC a 1 [.ref b, .int (nI n)], aC G b 40 f] (fun r (_ : Unit) => r = (zI (n = 0))) (fun (_ : Unit) => [oC a 1 [.ref b, .int (nI n)], aC G b 40 f]) := by
  refine kMet (Qc := fun A => va_Qi _ (Bw G A _) A) (cc := cX1_isEmpty) (nL := 1) (ret := some (.boolean)) (by decide) rfl (Nat.le_of_ble_eq_true rfl) ?_
  intro p e s m args below meth c A Q hF hr hlk hnme hK hP hD hA hS hQ hsz ls hl
  have hl : lv_has ls 1 [(0, .ref a)] := hl
  refine lv_aload_n hF.1 hF.2.1 dX1_isEmpty_0 rfl (lv_at hl 0 rfl) ?_
  refine kGet (C := RX1) (T := TX1) (N := 2) (index := 15) hF hK hP (inT inBX1) 0 rfl rfl 1 (by decide) rfl (List.mem_cons_of_mem _ mF_X1_15) rfl dX1_isEmpty_1 ?_
  refine kIfNeN (tgt := 11) hF dX1_isEmpty_4 (by decide) (by omega) (fun c_1 => ?_) (fun c_1 => ?_)
  · refine lv_iconst (v := (nI 0)) hF.1 hF.2.1 dX1_isEmpty_11 (by decide) ?_
    refine kRetI (v := (nI 0)) hF hr hlk hK hP hD hS hQ rfl () [0, 1] (by decide) rfl (by omega) (by omega) dX1_isEmpty_12 ?_
    exact (by first | rfl | trivial | exact zI_1 (by first | assumption | omega) | exact zI_0 (by first | assumption | omega) | (simp_all; done))
  · refine lv_iconst (v := (nI 1)) hF.1 hF.2.1 dX1_isEmpty_7 (by decide) ?_
    refine lv_goto (tgt := 12) hF.1 hF.2.1 dX1_isEmpty_8 (by decide) ?_
    refine kRetI (v := (nI 1)) hF hr hlk hK hP hD hS hQ rfl () [0, 1] (by decide) rfl (by omega) (by omega) dX1_isEmpty_12 ?_
    exact (by first | rfl | trivial | exact zI_1 (by first | assumption | omega) | exact zI_0 (by first | assumption | omega) | (simp_all; done))
set_option maxHeartbeats 4000000 in
set_option maxRecDepth 100000 in
theorem c_X1_hasRoom (l : Launch) (G : GG) (sz : Nat) (a b n : Nat) (f : Nat → Int32) (mr : Nat) (hn : n ≤ 40) (hm : mr ≤ 4) : CtI l G yX1_hasRoom wsX1_hasRoom 0 0 0 0 sz [.ref a, .int (nI mr)] [oC a 1 [.ref b, .int (nI n)], aC G b 40 f] (fun r (_ : Unit) => r = (zI (mr + n ≤ 40))) (fun (_ : Unit) => [oC a 1 [.ref b, .int (nI n)], aC G b 40 f]) := by
  refine kMet (Qc := fun A => va_Qi _ (Bw G A _) A) (cc := cX1_hasRoom) (nL := 2) (ret := some (.boolean)) (by decide) rfl (Nat.le_of_ble_eq_true rfl) ?_
  intro p e s m args below meth c A Q hF hr hlk hnme hK hP hD hA hS hQ hsz ls hl
  have hl : lv_has ls 2 [(0, .ref a), (1, .int (nI mr))] := hl
  refine lv_iload_n hF.1 hF.2.1 dX1_hasRoom_0 rfl (lv_at hl 1 rfl) ?_
  refine lv_bipush (v := (nI 40)) hF.1 hF.2.1 dX1_hasRoom_1 (by decide) ?_
  refine lv_aload_n hF.1 hF.2.1 dX1_hasRoom_3 rfl (lv_at hl 0 rfl) ?_
  refine kGet (C := RX1) (T := TX1) (N := 2) (index := 15) hF hK hP (inT inBX1) 0 rfl rfl 1 (by decide) rfl (List.mem_cons_of_mem _ mF_X1_15) rfl dX1_hasRoom_4 ?_
  refine lv_isub hF.1 hF.2.1 dX1_hasRoom_7 ?_
  refine kTop (y := (nI (40 - n))) (pk_sub (by omega)) ?_
  refine kGtN (tgt := 15) hF dX1_hasRoom_8 (by decide) (by omega) (by omega) (fun c_1 => ?_) (fun c_1 => ?_)
  · refine lv_iconst (v := (nI 0)) hF.1 hF.2.1 dX1_hasRoom_15 (by decide) ?_
    refine kRetI (v := (nI 0)) hF hr hlk hK hP hD hS hQ rfl () [0, 1] (by decide) rfl (by omega) (by omega) dX1_hasRoom_16 ?_
    exact (by first | rfl | trivial | exact zI_1 (by first | assumption | omega) | exact zI_0 (by first | assumption | omega) | (simp_all; done))
  · refine lv_iconst (v := (nI 1)) hF.1 hF.2.1 dX1_hasRoom_11 (by decide) ?_
    refine lv_goto (tgt := 16) hF.1 hF.2.1 dX1_hasRoom_12 (by decide) ?_
    refine kRetI (v := (nI 1)) hF hr hlk hK hP hD hS hQ rfl () [0, 1] (by decide) rfl (by omega) (by omega) dX1_hasRoom_16 ?_
    exact (by first | rfl | trivial | exact zI_1 (by first | assumption | omega) | exact zI_0 (by first | assumption | omega) | (simp_all; done))
set_option maxHeartbeats 4000000 in
set_option maxRecDepth 100000 in
theorem c_X1_append (l : Launch) (G : GG) (sz : Nat) (a b n : Nat) (f : Nat → Int32) (ch : Int32) (hn : n < 40) (hc : okC ch) : CtV l G yX1_append wsX1_append 0 0 0 0 sz [.ref a, .int ch] [oC a 1 [.ref b, .int (nI n)], aC G b 40 f] (fun (_ : Unit) => True) (fun (_ : Unit) => [oC a 1 [.ref b, .int (nI (n + 1))], aC G b 40 (upd f n ch)]) := by
  refine kMet (Qc := fun A => va_Qv _ (Bw G A _) A) (cc := cX1_append) (nL := 2) (ret := none) (by decide) rfl (Nat.le_of_ble_eq_true rfl) ?_
  intro p e s m args below meth c A Q hF hr hlk hnme hK hP hD hA hS hQ hsz ls hl
  have hl : lv_has ls 2 [(0, .ref a), (1, .int ch)] := hl
  refine lv_aload_n hF.1 hF.2.1 dX1_append_0 rfl (lv_at hl 0 rfl) ?_
  refine kGet (C := RX1) (T := TX1) (N := 2) (index := 15) hF hK hP (inT inBX1) 0 rfl rfl 1 (by decide) rfl (List.mem_cons_of_mem _ mF_X1_15) rfl dX1_append_1 ?_
  refine lv_bipush (v := (nI 40)) hF.1 hF.2.1 dX1_append_4 (by decide) ?_
  refine kGeN (tgt := 29) hF dX1_append_6 (by decide) (by omega) (by omega) (fun c_1 => ?_) (fun c_1 => ?_)
  · exfalso; omega
  · refine lv_aload_n hF.1 hF.2.1 dX1_append_9 rfl (lv_at hl 0 rfl) ?_
    refine kGet (C := RX1) (T := TX1) (N := 2) (index := 9) hF hK hP (inT inBX1) 0 rfl rfl 0 (by decide) rfl (List.mem_cons_of_mem _ mF_X1_9) rfl dX1_append_10 ?_
    refine lv_aload_n hF.1 hF.2.1 dX1_append_13 rfl (lv_at hl 0 rfl) ?_
    refine kGet (C := RX1) (T := TX1) (N := 2) (index := 15) hF hK hP (inT inBX1) 0 rfl rfl 1 (by decide) rfl (List.mem_cons_of_mem _ mF_X1_15) rfl dX1_append_14 ?_
    refine lv_iload_n hF.1 hF.2.1 dX1_append_17 rfl (lv_at hl 1 rfl) ?_
    refine kCastN hF hK hP hD hS 1 rfl (okC_nar hc) (by omega) (by decide) dX1_append_18 (fun H locs hP hD hS => ?_)
    have hP : PG G [oC a 1 [.ref b, .int (nI n)], aC G b 40 (upd f n ch)] H := hP
    have hD : va_D A [oC a 1 [.ref b, .int (nI n)], aC G b 40 (upd f n ch)] := hD
    refine lv_aload_n hF.1 hF.2.1 dX1_append_19 rfl (lv_at hl 0 rfl) ?_
    refine lv_dup hF.1 hF.2.1 dX1_append_20 rfl ?_
    refine kGet (C := RX1) (T := TX1) (N := 2) (index := 15) hF hK hP (inT inBX1) 0 rfl rfl 1 (by decide) rfl (List.mem_cons_of_mem _ mF_X1_15) rfl dX1_append_21 ?_
    refine lv_iconst (v := (nI 1)) hF.1 hF.2.1 dX1_append_24 (by decide) ?_
    refine lv_iadd hF.1 hF.2.1 dX1_append_25 ?_
    refine kTop (y := (nI (n + 1))) (nI_add _ _) ?_
    refine kPut (C := RX1) (T := TX1) (N := 2) (index := 15) (v := .int (nI (n + 1))) hF hK hP hD hS (inT inBX1) tyX1_ok nmX1 0 rfl rfl 1 (by decide) rfl (List.mem_cons_of_mem _ mF_X1_15) rfl rfl rfl (Nat.le_of_ble_eq_true rfl) dX1_append_26 (fun H locs hP hD hS => ?_)
    have hP : PG G [oC a 1 [.ref b, .int (nI (n + 1))], aC G b 40 (upd f n ch)] H := hP
    have hD : va_D A [oC a 1 [.ref b, .int (nI (n + 1))], aC G b 40 (upd f n ch)] := hD
    refine kRetV hF hr hlk hK hP hD hS hQ () [0, 1] (by decide) rfl (by omega) (by omega) dX1_append_29 ?_
    exact (by first | rfl | trivial | exact zI_1 (by first | assumption | omega) | exact zI_0 (by first | assumption | omega) | (simp_all; done))
set_option maxHeartbeats 4000000 in
set_option maxRecDepth 100000 in
theorem c_X1_mark (l : Launch) (G : GG) (sz : Nat) (a b n : Nat) (f : Nat → Int32) (k : Nat) (hn : n ≤ 40) (hk : k < n) (hf : ∀ j, okC (f j)) : CtI l G yX1_mark wsX1_mark 0 0 0 0 sz [.ref a, .int (nI k)] [oC a 1 [.ref b, .int (nI n)], aC G b 40 f] (fun r (_ : Unit) => r = (f k)) (fun (_ : Unit) => [oC a 1 [.ref b, .int (nI n)], aC G b 40 f]) := by
  refine kMet (Qc := fun A => va_Qi _ (Bw G A _) A) (cc := cX1_mark) (nL := 2) (ret := some (.char)) (by decide) rfl (Nat.le_of_ble_eq_true rfl) ?_
  intro p e s m args below meth c A Q hF hr hlk hnme hK hP hD hA hS hQ hsz ls hl
  have hl : lv_has ls 2 [(0, .ref a), (1, .int (nI k))] := hl
  refine lv_iload_n hF.1 hF.2.1 dX1_mark_0 rfl (lv_at hl 1 rfl) ?_
  refine kIfLtN (tgt := 21) hF dX1_mark_1 (by decide) (by omega) ?_
  refine lv_iload_n hF.1 hF.2.1 dX1_mark_4 rfl (lv_at hl 1 rfl) ?_
  refine lv_aload_n hF.1 hF.2.1 dX1_mark_5 rfl (lv_at hl 0 rfl) ?_
  refine kGet (C := RX1) (T := TX1) (N := 2) (index := 15) hF hK hP (inT inBX1) 0 rfl rfl 1 (by decide) rfl (List.mem_cons_of_mem _ mF_X1_15) rfl dX1_mark_6 ?_
  refine kGeN (tgt := 21) hF dX1_mark_9 (by decide) (by omega) (by omega) (fun c_1 => ?_) (fun c_1 => ?_)
  · exfalso; omega
  · refine lv_aload_n hF.1 hF.2.1 dX1_mark_12 rfl (lv_at hl 0 rfl) ?_
    refine kGet (C := RX1) (T := TX1) (N := 2) (index := 9) hF hK hP (inT inBX1) 0 rfl rfl 0 (by decide) rfl (List.mem_cons_of_mem _ mF_X1_9) rfl dX1_mark_13 ?_
    refine lv_iload_n hF.1 hF.2.1 dX1_mark_16 rfl (lv_at hl 1 rfl) ?_
    refine kCaldN hF hK hP 1 rfl (by omega) (by decide) dX1_mark_17 ?_
    refine lv_goto (tgt := 22) hF.1 hF.2.1 dX1_mark_18 (by decide) ?_
    refine kRetI (v := (f k)) hF hr hlk hK hP hD hS hQ (okC_cn (hf _)) () [0, 1] (by decide) rfl (by omega) (by omega) dX1_mark_22 ?_
    exact (by first | rfl | trivial | exact zI_1 (by first | assumption | omega) | exact zI_0 (by first | assumption | omega) | (simp_all; done))
set_option maxHeartbeats 4000000 in
set_option maxRecDepth 100000 in
theorem c_X1_hasSlashesAlone (l : Launch) (G : GG) (sz : Nat) (a b n : Nat) (f : Nat → Int32) (hn : n ≤ 40) : CtI l G yX1_hasSlashesAlone wsX1_hasSlashesAlone 0 0 0 0 sz [.ref a] [oC a 1 [.ref b, .int (nI n)], aC G b 40 f] (fun r (_ : Unit) => r = (zI (scan (isS f) n 0 = n))) (fun (_ : Unit) => [oC a 1 [.ref b, .int (nI n)], aC G b 40 f]) := by
  refine kMet (Qc := fun A => va_Qi _ (Bw G A _) A) (cc := cX1_hasSlashesAlone) (nL := 2) (ret := some (.boolean)) (by decide) rfl (Nat.le_of_ble_eq_true rfl) ?_
  intro p e s m args below meth c A Q hF hr hlk hnme hK hP hD hA hS hQ hsz ls hl
  have hl : lv_has ls 2 [(0, .ref a)] := hl
  refine lv_iconst (v := (nI 0)) hF.1 hF.2.1 dX1_hasSlashesAlone_0 (by decide) ?_
  refine lv_istore_n (lv' := [(1, .int (nI 0)), (0, .ref a)]) hF.1 hF.2.1 dX1_hasSlashesAlone_1 rfl hl (by decide) rfl (fun ls hl => ?_)
  have loop_2 : ∀ (n_2 : Nat) (k : Nat), n - k < n_2 → k ≤ n → scan (isS f) (n - k) k = scan (isS f) n 0 → ∀ (H : Heap) (locs : List Loc) (ls : Array Slot), PG G [oC a 1 [.ref b, .int (nI n)], aC G b 40 f] H → va_D A [oC a 1 [.ref b, .int (nI n)], aC G b 40 f] → va_S A s.heap H locs → lv_has ls 2 [(1, .int (nI k)), (0, .ref a)] → W p l e (Rm 0 0 0 0) s m args below meth c H locs 0 0 Q (F0 m 2 ls []) := by
    intro n_2
    induction n_2 with
    | zero => intro k hm; exact absurd hm (Nat.not_lt_zero _)
    | succ n_2 ih_2 =>
      intro k hm_2 hk hR H locs ls hP hD hS hl
      refine lv_iload_n hF.1 hF.2.1 dX1_hasSlashesAlone_2 rfl (lv_at hl 0 rfl) ?_
      refine lv_aload_n hF.1 hF.2.1 dX1_hasSlashesAlone_3 rfl (lv_at hl 1 rfl) ?_
      refine kGet (C := RX1) (T := TX1) (N := 2) (index := 15) hF hK hP (inT inBX1) 0 rfl rfl 1 (by decide) rfl (List.mem_cons_of_mem _ mF_X1_15) rfl dX1_hasSlashesAlone_4 ?_
      refine kGeN (tgt := 29) hF dX1_hasSlashesAlone_7 (by decide) (by omega) (by omega) (fun c_1 => ?_) (fun c_1 => ?_)
      · refine lv_iconst (v := (nI 1)) hF.1 hF.2.1 dX1_hasSlashesAlone_29 (by decide) ?_
        refine kRetI (v := (nI 1)) hF hr hlk hK hP hD hS hQ rfl () [0, 1] (by decide) rfl (by omega) (by omega) dX1_hasSlashesAlone_30 ?_
        exact zI_1 (by rw [← hR, scan_e (by omega)]; omega)
      · refine lv_aload_n hF.1 hF.2.1 dX1_hasSlashesAlone_10 rfl (lv_at hl 1 rfl) ?_
        refine kGet (C := RX1) (T := TX1) (N := 2) (index := 9) hF hK hP (inT inBX1) 0 rfl rfl 0 (by decide) rfl (List.mem_cons_of_mem _ mF_X1_9) rfl dX1_hasSlashesAlone_11 ?_
        refine lv_iload_n hF.1 hF.2.1 dX1_hasSlashesAlone_14 rfl (lv_at hl 0 rfl) ?_
        refine kCaldN hF hK hP 1 rfl (by omega) (by decide) dX1_hasSlashesAlone_15 ?_
        refine lv_bipush (v := (nI 47)) hF.1 hF.2.1 dX1_hasSlashesAlone_16 (by decide) ?_
        refine lv_icmp_eq (tgt := 23) hF.1 hF.2.1 dX1_hasSlashesAlone_18 (by decide) (fun c_2 => ?_) (fun c_2 => ?_)
        · refine lv_iinc (v := (nI (k + 1))) (lv' := [(1, .int (nI (k + 1))), (0, .ref a)]) hF.1 hF.2.1 dX1_hasSlashesAlone_23 hl (k := 0) rfl (nI_inc1 _) (by decide) rfl (fun ls hl => ?_)
          refine lv_goto (tgt := 2) hF.1 hF.2.1 dX1_hasSlashesAlone_26 (by decide) ?_
          exact ih_2 (k + 1) (by omega) (by first | assumption | omega) (by rw [← hR]; exact (scan_t (by omega) (decide_eq_true (by assumption))).symm) H locs ls hP hD hS (lv_sub hl [0, 1] rfl)
        · refine lv_iconst (v := (nI 0)) hF.1 hF.2.1 dX1_hasSlashesAlone_21 (by decide) ?_
          refine kRetI (v := (nI 0)) hF hr hlk hK hP hD hS hQ rfl () [0, 1] (by decide) rfl (by omega) (by omega) dX1_hasSlashesAlone_22 ?_
          exact zI_0 (by rw [← hR, scan_f (by omega) (decide_eq_false (by assumption))]; omega)
  exact loop_2 _ 0 (Nat.lt_succ_self _) (by first | assumption | omega) (rfl) _ _ _ hP hD hS (lv_sub hl [0, 1] rfl)
end
section
set_option maxHeartbeats 4000000 in
set_option maxRecDepth 100000 in
theorem c_X2_clear (l : Launch) (G : GG) (sz : Nat) (a b st : Nat) (f : Nat → Int32) : CtV l G yX2_clear wsX2_clear 0 0 0 0 sz [.ref a] [oC a 2 [.ref b, .int (nI st)], aC G b 60 f] (fun (_ : Unit) => True) (fun (_ : Unit) => [oC a 2 [.ref b, .int (nI 60)], aC G b 60 f]) := by
  refine kMet (Qc := fun A => va_Qv _ (Bw G A _) A) (cc := cX2_clear) (nL := 1) (ret := none) (by decide) rfl (Nat.le_of_ble_eq_true rfl) ?_
  intro p e s m args below meth c A Q hF hr hlk hnme hK hP hD hA hS hQ hsz ls hl
  have hl : lv_has ls 1 [(0, .ref a)] := hl
  refine lv_aload_n hF.1 hF.2.1 dX2_clear_0 rfl (lv_at hl 0 rfl) ?_
  refine lv_bipush (v := (nI 60)) hF.1 hF.2.1 dX2_clear_1 (by decide) ?_
  refine kPut (C := RX2) (T := TX2) (N := 2) (index := 15) (v := .int (nI 60)) hF hK hP hD hS (inT inBX2) tyX2_ok nmX2 0 rfl rfl 1 (by decide) rfl (List.mem_cons_of_mem _ mF_X2_15) rfl rfl rfl (Nat.le_of_ble_eq_true rfl) dX2_clear_3 (fun H locs hP hD hS => ?_)
  have hP : PG G [oC a 2 [.ref b, .int (nI 60)], aC G b 60 f] H := hP
  have hD : va_D A [oC a 2 [.ref b, .int (nI 60)], aC G b 60 f] := hD
  refine kRetV hF hr hlk hK hP hD hS hQ () [0, 1] (by decide) rfl (by omega) (by omega) dX2_clear_6 ?_
  exact (by first | rfl | trivial | exact zI_1 (by first | assumption | omega) | exact zI_0 (by first | assumption | omega) | (simp_all; done))
set_option maxHeartbeats 4000000 in
set_option maxRecDepth 100000 in
theorem c_X2_size (l : Launch) (G : GG) (sz : Nat) (a b st : Nat) (f : Nat → Int32) (hs : st ≤ 60) : CtI l G yX2_size wsX2_size 0 0 0 0 sz [.ref a] [oC a 2 [.ref b, .int (nI st)], aC G b 60 f] (fun r (_ : Unit) => r = (nI (60 - st))) (fun (_ : Unit) => [oC a 2 [.ref b, .int (nI st)], aC G b 60 f]) := by
  refine kMet (Qc := fun A => va_Qi _ (Bw G A _) A) (cc := cX2_size) (nL := 1) (ret := some (.int)) (by decide) rfl (Nat.le_of_ble_eq_true rfl) ?_
  intro p e s m args below meth c A Q hF hr hlk hnme hK hP hD hA hS hQ hsz ls hl
  have hl : lv_has ls 1 [(0, .ref a)] := hl
  refine lv_bipush (v := (nI 60)) hF.1 hF.2.1 dX2_size_0 (by decide) ?_
  refine lv_aload_n hF.1 hF.2.1 dX2_size_2 rfl (lv_at hl 0 rfl) ?_
  refine kGet (C := RX2) (T := TX2) (N := 2) (index := 15) hF hK hP (inT inBX2) 0 rfl rfl 1 (by decide) rfl (List.mem_cons_of_mem _ mF_X2_15) rfl dX2_size_3 ?_
  refine lv_isub hF.1 hF.2.1 dX2_size_6 ?_
  refine kTop (y := (nI (60 - st))) (pk_sub (by omega)) ?_
  refine kRetI (v := (nI (60 - st))) hF hr hlk hK hP hD hS hQ rfl () [0, 1] (by decide) rfl (by omega) (by omega) dX2_size_7 ?_
  exact (by first | rfl | trivial | exact zI_1 (by first | assumption | omega) | exact zI_0 (by first | assumption | omega) | (simp_all; done))
set_option maxHeartbeats 4000000 in
set_option maxRecDepth 100000 in
theorem c_X2_isEmpty (l : Launch) (G : GG) (sz : Nat) (a b st : Nat) (f : Nat → Int32) (hs : st ≤ 60) : CtI l G yX2_isEmpty wsX2_isEmpty 0 0 0 0 sz [.ref a] [oC a 2 [.ref b, .int (nI st)], aC G b 60 f] (fun r (_ : Unit) => r = (zI (60 ≤ st))) (fun (_ : Unit) => [oC a 2 [.ref b, .int (nI st)], aC G b 60 f]) := by
  refine kMet (Qc := fun A => va_Qi _ (Bw G A _) A) (cc := cX2_isEmpty) (nL := 1) (ret := some (.boolean)) (by decide) rfl (Nat.le_of_ble_eq_true rfl) ?_
  intro p e s m args below meth c A Q hF hr hlk hnme hK hP hD hA hS hQ hsz ls hl
  have hl : lv_has ls 1 [(0, .ref a)] := hl
  refine lv_aload_n hF.1 hF.2.1 dX2_isEmpty_0 rfl (lv_at hl 0 rfl) ?_
  refine kGet (C := RX2) (T := TX2) (N := 2) (index := 15) hF hK hP (inT inBX2) 0 rfl rfl 1 (by decide) rfl (List.mem_cons_of_mem _ mF_X2_15) rfl dX2_isEmpty_1 ?_
  refine lv_bipush (v := (nI 60)) hF.1 hF.2.1 dX2_isEmpty_4 (by decide) ?_
  refine kLtN (tgt := 13) hF dX2_isEmpty_6 (by decide) (by omega) (by omega) (fun c_1 => ?_) (fun c_1 => ?_)
  · refine lv_iconst (v := (nI 0)) hF.1 hF.2.1 dX2_isEmpty_13 (by decide) ?_
    refine kRetI (v := (nI 0)) hF hr hlk hK hP hD hS hQ rfl () [0, 1] (by decide) rfl (by omega) (by omega) dX2_isEmpty_14 ?_
    exact (by first | rfl | trivial | exact zI_1 (by first | assumption | omega) | exact zI_0 (by first | assumption | omega) | (simp_all; done))
  · refine lv_iconst (v := (nI 1)) hF.1 hF.2.1 dX2_isEmpty_9 (by decide) ?_
    refine lv_goto (tgt := 14) hF.1 hF.2.1 dX2_isEmpty_10 (by decide) ?_
    refine kRetI (v := (nI 1)) hF hr hlk hK hP hD hS hQ rfl () [0, 1] (by decide) rfl (by omega) (by omega) dX2_isEmpty_14 ?_
    exact (by first | rfl | trivial | exact zI_1 (by first | assumption | omega) | exact zI_0 (by first | assumption | omega) | (simp_all; done))
set_option maxHeartbeats 4000000 in
set_option maxRecDepth 100000 in
theorem c_X2_beginsWithSlash (l : Launch) (G : GG) (sz : Nat) (a b st : Nat) (f : Nat → Int32) (hs : st ≤ 60) : CtI l G yX2_beginsWithSlash wsX2_beginsWithSlash 0 0 0 0 sz [.ref a] [oC a 2 [.ref b, .int (nI st)], aC G b 60 f] (fun r (_ : Unit) => r = (zI (st < 60 ∧ f st = nI 47))) (fun (_ : Unit) => [oC a 2 [.ref b, .int (nI st)], aC G b 60 f]) := by
  refine kMet (Qc := fun A => va_Qi _ (Bw G A _) A) (cc := cX2_beginsWithSlash) (nL := 1) (ret := some (.boolean)) (by decide) rfl (Nat.le_of_ble_eq_true rfl) ?_
  intro p e s m args below meth c A Q hF hr hlk hnme hK hP hD hA hS hQ hsz ls hl
  have hl : lv_has ls 1 [(0, .ref a)] := hl
  refine lv_aload_n hF.1 hF.2.1 dX2_beginsWithSlash_0 rfl (lv_at hl 0 rfl) ?_
  refine kGet (C := RX2) (T := TX2) (N := 2) (index := 15) hF hK hP (inT inBX2) 0 rfl rfl 1 (by decide) rfl (List.mem_cons_of_mem _ mF_X2_15) rfl dX2_beginsWithSlash_1 ?_
  refine lv_bipush (v := (nI 60)) hF.1 hF.2.1 dX2_beginsWithSlash_4 (by decide) ?_
  refine kGeN (tgt := 27) hF dX2_beginsWithSlash_6 (by decide) (by omega) (by omega) (fun c_1 => ?_) (fun c_1 => ?_)
  · refine lv_iconst (v := (nI 0)) hF.1 hF.2.1 dX2_beginsWithSlash_27 (by decide) ?_
    refine kRetI (v := (nI 0)) hF hr hlk hK hP hD hS hQ rfl () [0, 1] (by decide) rfl (by omega) (by omega) dX2_beginsWithSlash_28 ?_
    exact zI_0 (fun h => by first | exact absurd h.2 (by assumption) | omega)
  · refine lv_aload_n hF.1 hF.2.1 dX2_beginsWithSlash_9 rfl (lv_at hl 0 rfl) ?_
    refine kGet (C := RX2) (T := TX2) (N := 2) (index := 9) hF hK hP (inT inBX2) 0 rfl rfl 0 (by decide) rfl (List.mem_cons_of_mem _ mF_X2_9) rfl dX2_beginsWithSlash_10 ?_
    refine lv_aload_n hF.1 hF.2.1 dX2_beginsWithSlash_13 rfl (lv_at hl 0 rfl) ?_
    refine kGet (C := RX2) (T := TX2) (N := 2) (index := 15) hF hK hP (inT inBX2) 0 rfl rfl 1 (by decide) rfl (List.mem_cons_of_mem _ mF_X2_15) rfl dX2_beginsWithSlash_14 ?_
    refine kCaldN hF hK hP 1 rfl (by omega) (by decide) dX2_beginsWithSlash_17 ?_
    refine lv_bipush (v := (nI 47)) hF.1 hF.2.1 dX2_beginsWithSlash_18 (by decide) ?_
    refine lv_icmp_ne (tgt := 27) hF.1 hF.2.1 dX2_beginsWithSlash_20 (by decide) (fun c_2 => ?_) (fun c_2 => ?_)
    · refine lv_iconst (v := (nI 0)) hF.1 hF.2.1 dX2_beginsWithSlash_27 (by decide) ?_
      refine kRetI (v := (nI 0)) hF hr hlk hK hP hD hS hQ rfl () [0, 1] (by decide) rfl (by omega) (by omega) dX2_beginsWithSlash_28 ?_
      exact zI_0 (fun h => by first | exact absurd h.2 (by assumption) | omega)
    · refine lv_iconst (v := (nI 1)) hF.1 hF.2.1 dX2_beginsWithSlash_23 (by decide) ?_
      refine lv_goto (tgt := 28) hF.1 hF.2.1 dX2_beginsWithSlash_24 (by decide) ?_
      refine kRetI (v := (nI 1)) hF hr hlk hK hP hD hS hQ rfl () [0, 1] (by decide) rfl (by omega) (by omega) dX2_beginsWithSlash_28 ?_
      exact zI_1 ⟨by omega, by assumption⟩
set_option maxHeartbeats 4000000 in
set_option maxRecDepth 100000 in
theorem c_X2_hasSlashesAlone (l : Launch) (G : GG) (sz : Nat) (a b st : Nat) (f : Nat → Int32) (hs : st ≤ 60) : CtI l G yX2_hasSlashesAlone wsX2_hasSlashesAlone 0 0 0 0 sz [.ref a] [oC a 2 [.ref b, .int (nI st)], aC G b 60 f] (fun r (_ : Unit) => r = (zI (scan (isS f) (60 - st) st = 60))) (fun (_ : Unit) => [oC a 2 [.ref b, .int (nI st)], aC G b 60 f]) := by
  refine kMet (Qc := fun A => va_Qi _ (Bw G A _) A) (cc := cX2_hasSlashesAlone) (nL := 2) (ret := some (.boolean)) (by decide) rfl (Nat.le_of_ble_eq_true rfl) ?_
  intro p e s m args below meth c A Q hF hr hlk hnme hK hP hD hA hS hQ hsz ls hl
  have hl : lv_has ls 2 [(0, .ref a)] := hl
  refine lv_aload_n hF.1 hF.2.1 dX2_hasSlashesAlone_0 rfl (lv_at hl 0 rfl) ?_
  refine kGet (C := RX2) (T := TX2) (N := 2) (index := 15) hF hK hP (inT inBX2) 0 rfl rfl 1 (by decide) rfl (List.mem_cons_of_mem _ mF_X2_15) rfl dX2_hasSlashesAlone_1 ?_
  refine lv_istore_n (lv' := [(1, .int (nI st)), (0, .ref a)]) hF.1 hF.2.1 dX2_hasSlashesAlone_4 rfl hl (by decide) rfl (fun ls hl => ?_)
  have loop_5 : ∀ (n_5 : Nat) (k : Nat), 60 - k < n_5 → k ≤ 60 → scan (isS f) (60 - k) k = scan (isS f) (60 - st) st → ∀ (H : Heap) (locs : List Loc) (ls : Array Slot), PG G [oC a 2 [.ref b, .int (nI st)], aC G b 60 f] H → va_D A [oC a 2 [.ref b, .int (nI st)], aC G b 60 f] → va_S A s.heap H locs → lv_has ls 2 [(1, .int (nI k)), (0, .ref a)] → W p l e (Rm 0 0 0 0) s m args below meth c H locs 0 0 Q (F0 m 5 ls []) := by
    intro n_5
    induction n_5 with
    | zero => intro k hm; exact absurd hm (Nat.not_lt_zero _)
    | succ n_5 ih_5 =>
      intro k hm_5 hk hR H locs ls hP hD hS hl
      refine lv_iload_n hF.1 hF.2.1 dX2_hasSlashesAlone_5 rfl (lv_at hl 0 rfl) ?_
      refine lv_bipush (v := (nI 60)) hF.1 hF.2.1 dX2_hasSlashesAlone_6 (by decide) ?_
      refine kGeN (tgt := 30) hF dX2_hasSlashesAlone_8 (by decide) (by omega) (by omega) (fun c_1 => ?_) (fun c_1 => ?_)
      · refine lv_iconst (v := (nI 1)) hF.1 hF.2.1 dX2_hasSlashesAlone_30 (by decide) ?_
        refine kRetI (v := (nI 1)) hF hr hlk hK hP hD hS hQ rfl () [0, 1] (by decide) rfl (by omega) (by omega) dX2_hasSlashesAlone_31 ?_
        exact zI_1 (by rw [← hR, scan_e (by omega)]; omega)
      · refine lv_aload_n hF.1 hF.2.1 dX2_hasSlashesAlone_11 rfl (lv_at hl 1 rfl) ?_
        refine kGet (C := RX2) (T := TX2) (N := 2) (index := 9) hF hK hP (inT inBX2) 0 rfl rfl 0 (by decide) rfl (List.mem_cons_of_mem _ mF_X2_9) rfl dX2_hasSlashesAlone_12 ?_
        refine lv_iload_n hF.1 hF.2.1 dX2_hasSlashesAlone_15 rfl (lv_at hl 0 rfl) ?_
        refine kCaldN hF hK hP 1 rfl (by omega) (by decide) dX2_hasSlashesAlone_16 ?_
        refine lv_bipush (v := (nI 47)) hF.1 hF.2.1 dX2_hasSlashesAlone_17 (by decide) ?_
        refine lv_icmp_eq (tgt := 24) hF.1 hF.2.1 dX2_hasSlashesAlone_19 (by decide) (fun c_2 => ?_) (fun c_2 => ?_)
        · refine lv_iinc (v := (nI (k + 1))) (lv' := [(1, .int (nI (k + 1))), (0, .ref a)]) hF.1 hF.2.1 dX2_hasSlashesAlone_24 hl (k := 0) rfl (nI_inc1 _) (by decide) rfl (fun ls hl => ?_)
          refine lv_goto (tgt := 5) hF.1 hF.2.1 dX2_hasSlashesAlone_27 (by decide) ?_
          exact ih_5 (k + 1) (by omega) (by first | assumption | omega) (by rw [← hR]; exact (scan_t (by omega) (decide_eq_true (by assumption))).symm) H locs ls hP hD hS (lv_sub hl [0, 1] rfl)
        · refine lv_iconst (v := (nI 0)) hF.1 hF.2.1 dX2_hasSlashesAlone_22 (by decide) ?_
          refine kRetI (v := (nI 0)) hF hr hlk hK hP hD hS hQ rfl () [0, 1] (by decide) rfl (by omega) (by omega) dX2_hasSlashesAlone_23 ?_
          exact zI_0 (by rw [← hR, scan_f (by omega) (decide_eq_false (by assumption))]; omega)
  exact loop_5 _ st (Nat.lt_succ_self _) (by first | assumption | omega) (rfl) _ _ _ hP hD hS (lv_sub hl [0, 1] rfl)
set_option maxHeartbeats 4000000 in
set_option maxRecDepth 100000 in
theorem c_X2_take (l : Launch) (G : GG) (sz : Nat) (a b st : Nat) (f : Nat → Int32) (hs : st < 60) (hf : ∀ j, okC (f j)) : CtI l G yX2_take wsX2_take 0 0 0 0 sz [.ref a] [oC a 2 [.ref b, .int (nI st)], aC G b 60 f] (fun r (_ : Unit) => r = (f st)) (fun (_ : Unit) => [oC a 2 [.ref b, .int (nI (st + 1))], aC G b 60 f]) := by
  refine kMet (Qc := fun A => va_Qi _ (Bw G A _) A) (cc := cX2_take) (nL := 2) (ret := some (.char)) (by decide) rfl (Nat.le_of_ble_eq_true rfl) ?_
  intro p e s m args below meth c A Q hF hr hlk hnme hK hP hD hA hS hQ hsz ls hl
  have hl : lv_has ls 2 [(0, .ref a)] := hl
  refine lv_aload_n hF.1 hF.2.1 dX2_take_0 rfl (lv_at hl 0 rfl) ?_
  refine kGet (C := RX2) (T := TX2) (N := 2) (index := 15) hF hK hP (inT inBX2) 0 rfl rfl 1 (by decide) rfl (List.mem_cons_of_mem _ mF_X2_15) rfl dX2_take_1 ?_
  refine lv_bipush (v := (nI 60)) hF.1 hF.2.1 dX2_take_4 (by decide) ?_
  refine kLtN (tgt := 11) hF dX2_take_6 (by decide) (by omega) (by omega) (fun c_1 => ?_) (fun c_1 => ?_)
  · refine lv_aload_n hF.1 hF.2.1 dX2_take_11 rfl (lv_at hl 0 rfl) ?_
    refine kGet (C := RX2) (T := TX2) (N := 2) (index := 9) hF hK hP (inT inBX2) 0 rfl rfl 0 (by decide) rfl (List.mem_cons_of_mem _ mF_X2_9) rfl dX2_take_12 ?_
    refine lv_aload_n hF.1 hF.2.1 dX2_take_15 rfl (lv_at hl 0 rfl) ?_
    refine kGet (C := RX2) (T := TX2) (N := 2) (index := 15) hF hK hP (inT inBX2) 0 rfl rfl 1 (by decide) rfl (List.mem_cons_of_mem _ mF_X2_15) rfl dX2_take_16 ?_
    refine kCaldN hF hK hP 1 rfl (by omega) (by decide) dX2_take_19 ?_
    refine lv_istore_n (lv' := [(1, .int (f st)), (0, .ref a)]) hF.1 hF.2.1 dX2_take_20 rfl hl (by decide) rfl (fun ls hl => ?_)
    refine lv_aload_n hF.1 hF.2.1 dX2_take_21 rfl (lv_at hl 1 rfl) ?_
    refine lv_dup hF.1 hF.2.1 dX2_take_22 rfl ?_
    refine kGet (C := RX2) (T := TX2) (N := 2) (index := 15) hF hK hP (inT inBX2) 0 rfl rfl 1 (by decide) rfl (List.mem_cons_of_mem _ mF_X2_15) rfl dX2_take_23 ?_
    refine lv_iconst (v := (nI 1)) hF.1 hF.2.1 dX2_take_26 (by decide) ?_
    refine lv_iadd hF.1 hF.2.1 dX2_take_27 ?_
    refine kTop (y := (nI (st + 1))) (nI_add _ _) ?_
    refine kPut (C := RX2) (T := TX2) (N := 2) (index := 15) (v := .int (nI (st + 1))) hF hK hP hD hS (inT inBX2) tyX2_ok nmX2 0 rfl rfl 1 (by decide) rfl (List.mem_cons_of_mem _ mF_X2_15) rfl rfl rfl (Nat.le_of_ble_eq_true rfl) dX2_take_28 (fun H locs hP hD hS => ?_)
    have hP : PG G [oC a 2 [.ref b, .int (nI (st + 1))], aC G b 60 f] H := hP
    have hD : va_D A [oC a 2 [.ref b, .int (nI (st + 1))], aC G b 60 f] := hD
    refine lv_iload_n hF.1 hF.2.1 dX2_take_31 rfl (lv_at hl 0 rfl) ?_
    refine kRetI (v := (f st)) hF hr hlk hK hP hD hS hQ (okC_cn (hf _)) () [0, 1] (by decide) rfl (by omega) (by omega) dX2_take_32 ?_
    exact (by first | rfl | trivial | exact zI_1 (by first | assumption | omega) | exact zI_0 (by first | assumption | omega) | (simp_all; done))
  · exfalso; omega
set_option maxHeartbeats 4000000 in
set_option maxRecDepth 100000 in
theorem c_X2_putBefore (l : Launch) (G : GG) (sz : Nat) (a b st : Nat) (f : Nat → Int32) (ch : Int32) (hs : st ≤ 60) (h0 : 0 < st) (hc : okC ch) : CtV l G yX2_putBefore wsX2_putBefore 0 0 0 0 sz [.ref a, .int ch] [oC a 2 [.ref b, .int (nI st)], aC G b 60 f] (fun (_ : Unit) => True) (fun (_ : Unit) => [oC a 2 [.ref b, .int (nI (st - 1))], aC G b 60 (upd f (st - 1) ch)]) := by
  refine kMet (Qc := fun A => va_Qv _ (Bw G A _) A) (cc := cX2_putBefore) (nL := 2) (ret := none) (by decide) rfl (Nat.le_of_ble_eq_true rfl) ?_
  intro p e s m args below meth c A Q hF hr hlk hnme hK hP hD hA hS hQ hsz ls hl
  have hl : lv_has ls 2 [(0, .ref a), (1, .int ch)] := hl
  refine lv_aload_n hF.1 hF.2.1 dX2_putBefore_0 rfl (lv_at hl 0 rfl) ?_
  refine kGet (C := RX2) (T := TX2) (N := 2) (index := 15) hF hK hP (inT inBX2) 0 rfl rfl 1 (by decide) rfl (List.mem_cons_of_mem _ mF_X2_15) rfl dX2_putBefore_1 ?_
  refine kIfLeN (tgt := 27) hF dX2_putBefore_4 (by decide) (by omega) (fun c_1 => ?_) (fun c_1 => ?_)
  · exfalso; omega
  · refine lv_aload_n hF.1 hF.2.1 dX2_putBefore_7 rfl (lv_at hl 0 rfl) ?_
    refine lv_dup hF.1 hF.2.1 dX2_putBefore_8 rfl ?_
    refine kGet (C := RX2) (T := TX2) (N := 2) (index := 15) hF hK hP (inT inBX2) 0 rfl rfl 1 (by decide) rfl (List.mem_cons_of_mem _ mF_X2_15) rfl dX2_putBefore_9 ?_
    refine lv_iconst (v := (nI 1)) hF.1 hF.2.1 dX2_putBefore_12 (by decide) ?_
    refine lv_isub hF.1 hF.2.1 dX2_putBefore_13 ?_
    refine kTop (y := (nI (st - 1))) (pk_sub (by omega)) ?_
    refine kPut (C := RX2) (T := TX2) (N := 2) (index := 15) (v := .int (nI (st - 1))) hF hK hP hD hS (inT inBX2) tyX2_ok nmX2 0 rfl rfl 1 (by decide) rfl (List.mem_cons_of_mem _ mF_X2_15) rfl rfl rfl (Nat.le_of_ble_eq_true rfl) dX2_putBefore_14 (fun H locs hP hD hS => ?_)
    have hP : PG G [oC a 2 [.ref b, .int (nI (st - 1))], aC G b 60 f] H := hP
    have hD : va_D A [oC a 2 [.ref b, .int (nI (st - 1))], aC G b 60 f] := hD
    refine lv_aload_n hF.1 hF.2.1 dX2_putBefore_17 rfl (lv_at hl 0 rfl) ?_
    refine kGet (C := RX2) (T := TX2) (N := 2) (index := 9) hF hK hP (inT inBX2) 0 rfl rfl 0 (by decide) rfl (List.mem_cons_of_mem _ mF_X2_9) rfl dX2_putBefore_18 ?_
    refine lv_aload_n hF.1 hF.2.1 dX2_putBefore_21 rfl (lv_at hl 0 rfl) ?_
    refine kGet (C := RX2) (T := TX2) (N := 2) (index := 15) hF hK hP (inT inBX2) 0 rfl rfl 1 (by decide) rfl (List.mem_cons_of_mem _ mF_X2_15) rfl dX2_putBefore_22 ?_
    refine lv_iload_n hF.1 hF.2.1 dX2_putBefore_25 rfl (lv_at hl 1 rfl) ?_
    refine kCastN hF hK hP hD hS 1 rfl (okC_nar hc) (by omega) (by decide) dX2_putBefore_26 (fun H locs hP hD hS => ?_)
    have hP : PG G [oC a 2 [.ref b, .int (nI (st - 1))], aC G b 60 (upd f (st - 1) ch)] H := hP
    have hD : va_D A [oC a 2 [.ref b, .int (nI (st - 1))], aC G b 60 (upd f (st - 1) ch)] := hD
    refine kRetV hF hr hlk hK hP hD hS hQ () [0, 1] (by decide) rfl (by omega) (by omega) dX2_putBefore_27 ?_
    exact (by first | rfl | trivial | exact zI_1 (by first | assumption | omega) | exact zI_0 (by first | assumption | omega) | (simp_all; done))
end
section
set_option maxHeartbeats 4000000 in
set_option maxRecDepth 100000 in
theorem c_X4_leastFree (l : Launch) (G : GG) (sz : Nat) (t tk tm to_ tv tp tl : Nat) (kF : Nat → Int32) : CtI l G yX4_leastFree wsX4_leastFree 0 0 0 0 sz [.ref t] [oC t 4 [.ref tk, .ref tm, .ref to_, .ref tv, .ref tp, .ref tl], aI G tk 40 kF] (fun r (_ : Unit) => r = (rI (scan (fun j => !decide (kF j = nI 0)) 40 0) 40)) (fun (_ : Unit) => [oC t 4 [.ref tk, .ref tm, .ref to_, .ref tv, .ref tp, .ref tl], aI G tk 40 kF]) := by
  refine kMet (Qc := fun A => va_Qi _ (Bw G A _) A) (cc := cX4_leastFree) (nL := 2) (ret := some (.int)) (by decide) rfl (Nat.le_of_ble_eq_true rfl) ?_
  intro p e s m args below meth c A Q hF hr hlk hnme hK hP hD hA hS hQ hsz ls hl
  have hl : lv_has ls 2 [(0, .ref t)] := hl
  refine lv_iconst (v := (nI 0)) hF.1 hF.2.1 dX4_leastFree_0 (by decide) ?_
  refine lv_istore_n (lv' := [(1, .int (nI 0)), (0, .ref t)]) hF.1 hF.2.1 dX4_leastFree_1 rfl hl (by decide) rfl (fun ls hl => ?_)
  have loop_2 : ∀ (n_2 : Nat) (k : Nat), 40 - k < n_2 → k ≤ 40 → scan (fun j => !decide (kF j = nI 0)) (40 - k) k = scan (fun j => !decide (kF j = nI 0)) 40 0 → ∀ (H : Heap) (locs : List Loc) (ls : Array Slot), PG G [oC t 4 [.ref tk, .ref tm, .ref to_, .ref tv, .ref tp, .ref tl], aI G tk 40 kF] H → va_D A [oC t 4 [.ref tk, .ref tm, .ref to_, .ref tv, .ref tp, .ref tl], aI G tk 40 kF] → va_S A s.heap H locs → lv_has ls 2 [(1, .int (nI k)), (0, .ref t)] → W p l e (Rm 0 0 0 0) s m args below meth c H locs 0 0 Q (F0 m 2 ls []) := by
    intro n_2
    induction n_2 with
    | zero => intro k hm; exact absurd hm (Nat.not_lt_zero _)
    | succ n_2 ih_2 =>
      intro k hm_2 hk hR H locs ls hP hD hS hl
      refine lv_iload_n hF.1 hF.2.1 dX4_leastFree_2 rfl (lv_at hl 0 rfl) ?_
      refine lv_bipush (v := (nI 40)) hF.1 hF.2.1 dX4_leastFree_3 (by decide) ?_
      refine kGeN (tgt := 25) hF dX4_leastFree_5 (by decide) (by omega) (by omega) (fun c_1 => ?_) (fun c_1 => ?_)
      · refine lv_iconst (v := (-1)) hF.1 hF.2.1 dX4_leastFree_25 (by decide) ?_
        refine kRetI (v := (-1)) hF hr hlk hK hP hD hS hQ rfl () [0, 1] (by decide) rfl (by omega) (by omega) dX4_leastFree_26 ?_
        rw [← hR, scan_e (by omega), rI_f (by omega)]
      · refine lv_aload_n hF.1 hF.2.1 dX4_leastFree_8 rfl (lv_at hl 1 rfl) ?_
        refine kGet (C := RX4) (T := TX4) (N := 6) (index := 9) hF hK hP (inT inBX4) 0 rfl rfl 0 (by decide) rfl (List.mem_cons_of_mem _ mF_X4_9) rfl dX4_leastFree_9 ?_
        refine lv_iload_n hF.1 hF.2.1 dX4_leastFree_12 rfl (lv_at hl 0 rfl) ?_
        refine kIaldN hF hK hP 1 rfl (by omega) (by decide) dX4_leastFree_13 ?_
        refine lv_if_ne (tgt := 19) hF.1 hF.2.1 dX4_leastFree_14 (by decide) (fun c_2 => ?_) (fun c_2 => ?_)
        · refine lv_iinc (v := (nI (k + 1))) (lv' := [(1, .int (nI (k + 1))), (0, .ref t)]) hF.1 hF.2.1 dX4_leastFree_19 hl (k := 0) rfl (nI_inc1 _) (by decide) rfl (fun ls hl => ?_)
          refine lv_goto (tgt := 2) hF.1 hF.2.1 dX4_leastFree_22 (by decide) ?_
          exact ih_2 (k + 1) (by omega) (by first | assumption | omega) (by rw [← hR]; exact (scan_t (by omega) (by simpa using (by assumption))).symm) H locs ls hP hD hS (lv_sub hl [0, 1] rfl)
        · refine lv_iload_n hF.1 hF.2.1 dX4_leastFree_17 rfl (lv_at hl 0 rfl) ?_
          refine kRetI (v := (nI k)) hF hr hlk hK hP hD hS hQ rfl () [0, 1] (by decide) rfl (by omega) (by omega) dX4_leastFree_18 ?_
          rw [← hR, scan_f (by omega) (by simpa using (by assumption)), rI_t (by omega)]
  exact loop_2 _ 0 (Nat.lt_succ_self _) (by first | assumption | omega) (rfl) _ _ _ hP hD hS (lv_sub hl [0, 1] rfl)
set_option maxHeartbeats 4000000 in
set_option maxRecDepth 100000 in
theorem c_X4_put (l : Launch) (G : GG) (sz : Nat) (t tk tm to_ tv tp tl : Nat) (kF mF oF vF pF : Nat → Int32) (i so mo ow vu : Int32) (hi : vp_in i 40) : CtV l G yX4_put wsX4_put 0 0 0 0 sz [.ref t, .int i, .int so, .int mo, .int ow, .int vu] [oC t 4 [.ref tk, .ref tm, .ref to_, .ref tv, .ref tp, .ref tl], aI G tk 40 kF, aI G tm 40 mF, aI G to_ 40 oF, aI G tv 40 vF, aI G tp 40 pF] (fun (_ : Unit) => True) (fun (_ : Unit) => [oC t 4 [.ref tk, .ref tm, .ref to_, .ref tv, .ref tp, .ref tl], aI G tk 40 (upd kF (ix i) so), aI G tm 40 (upd mF (ix i) mo), aI G to_ 40 (upd oF (ix i) ow), aI G tv 40 (upd vF (ix i) vu), aI G tp 40 (upd pF (ix i) i)]) := by
  refine kMet (Qc := fun A => va_Qv _ (Bw G A _) A) (cc := cX4_put) (nL := 6) (ret := none) (by decide) rfl (Nat.le_of_ble_eq_true rfl) ?_
  intro p e s m args below meth c A Q hF hr hlk hnme hK hP hD hA hS hQ hsz ls hl
  have hl : lv_has ls 6 [(0, .ref t), (1, .int i), (2, .int so), (3, .int mo), (4, .int ow), (5, .int vu)] := hl
  refine lv_aload_n hF.1 hF.2.1 dX4_put_0 rfl (lv_at hl 0 rfl) ?_
  refine kGet (C := RX4) (T := TX4) (N := 6) (index := 9) hF hK hP (inT inBX4) 0 rfl rfl 0 (by decide) rfl (List.mem_cons_of_mem _ mF_X4_9) rfl dX4_put_1 ?_
  refine lv_iload_n hF.1 hF.2.1 dX4_put_4 rfl (lv_at hl 1 rfl) ?_
  refine lv_iload_n hF.1 hF.2.1 dX4_put_5 rfl (lv_at hl 2 rfl) ?_
  refine kIast hF hK hP hD hS 1 rfl (by assumption) dX4_put_6 (fun H locs hP hD hS => ?_)
  have hP : PG G [oC t 4 [.ref tk, .ref tm, .ref to_, .ref tv, .ref tp, .ref tl], aI G tk 40 (upd kF (ix i) so), aI G tm 40 mF, aI G to_ 40 oF, aI G tv 40 vF, aI G tp 40 pF] H := hP
  have hD : va_D A [oC t 4 [.ref tk, .ref tm, .ref to_, .ref tv, .ref tp, .ref tl], aI G tk 40 (upd kF (ix i) so), aI G tm 40 mF, aI G to_ 40 oF, aI G tv 40 vF, aI G tp 40 pF] := hD
  refine lv_aload_n hF.1 hF.2.1 dX4_put_7 rfl (lv_at hl 0 rfl) ?_
  refine kGet (C := RX4) (T := TX4) (N := 6) (index := 15) hF hK hP (inT inBX4) 0 rfl rfl 1 (by decide) rfl (List.mem_cons_of_mem _ mF_X4_15) rfl dX4_put_8 ?_
  refine lv_iload_n hF.1 hF.2.1 dX4_put_11 rfl (lv_at hl 1 rfl) ?_
  refine lv_iload_n hF.1 hF.2.1 dX4_put_12 rfl (lv_at hl 3 rfl) ?_
  refine kIast hF hK hP hD hS 2 rfl (by assumption) dX4_put_13 (fun H locs hP hD hS => ?_)
  have hP : PG G [oC t 4 [.ref tk, .ref tm, .ref to_, .ref tv, .ref tp, .ref tl], aI G tk 40 (upd kF (ix i) so), aI G tm 40 (upd mF (ix i) mo), aI G to_ 40 oF, aI G tv 40 vF, aI G tp 40 pF] H := hP
  have hD : va_D A [oC t 4 [.ref tk, .ref tm, .ref to_, .ref tv, .ref tp, .ref tl], aI G tk 40 (upd kF (ix i) so), aI G tm 40 (upd mF (ix i) mo), aI G to_ 40 oF, aI G tv 40 vF, aI G tp 40 pF] := hD
  refine lv_aload_n hF.1 hF.2.1 dX4_put_14 rfl (lv_at hl 0 rfl) ?_
  refine kGet (C := RX4) (T := TX4) (N := 6) (index := 18) hF hK hP (inT inBX4) 0 rfl rfl 2 (by decide) rfl (List.mem_cons_of_mem _ mF_X4_18) rfl dX4_put_15 ?_
  refine lv_iload_n hF.1 hF.2.1 dX4_put_18 rfl (lv_at hl 1 rfl) ?_
  refine lv_iload hF.1 hF.2.1 dX4_put_19 (lv_at hl 4 rfl) ?_
  refine kIast hF hK hP hD hS 3 rfl (by assumption) dX4_put_21 (fun H locs hP hD hS => ?_)
  have hP : PG G [oC t 4 [.ref tk, .ref tm, .ref to_, .ref tv, .ref tp, .ref tl], aI G tk 40 (upd kF (ix i) so), aI G tm 40 (upd mF (ix i) mo), aI G to_ 40 (upd oF (ix i) ow), aI G tv 40 vF, aI G tp 40 pF] H := hP
  have hD : va_D A [oC t 4 [.ref tk, .ref tm, .ref to_, .ref tv, .ref tp, .ref tl], aI G tk 40 (upd kF (ix i) so), aI G tm 40 (upd mF (ix i) mo), aI G to_ 40 (upd oF (ix i) ow), aI G tv 40 vF, aI G tp 40 pF] := hD
  refine lv_aload_n hF.1 hF.2.1 dX4_put_22 rfl (lv_at hl 0 rfl) ?_
  refine kGet (C := RX4) (T := TX4) (N := 6) (index := 21) hF hK hP (inT inBX4) 0 rfl rfl 3 (by decide) rfl (List.mem_cons_of_mem _ mF_X4_21) rfl dX4_put_23 ?_
  refine lv_iload_n hF.1 hF.2.1 dX4_put_26 rfl (lv_at hl 1 rfl) ?_
  refine lv_iload hF.1 hF.2.1 dX4_put_27 (lv_at hl 5 rfl) ?_
  refine kIast hF hK hP hD hS 4 rfl (by assumption) dX4_put_29 (fun H locs hP hD hS => ?_)
  have hP : PG G [oC t 4 [.ref tk, .ref tm, .ref to_, .ref tv, .ref tp, .ref tl], aI G tk 40 (upd kF (ix i) so), aI G tm 40 (upd mF (ix i) mo), aI G to_ 40 (upd oF (ix i) ow), aI G tv 40 (upd vF (ix i) vu), aI G tp 40 pF] H := hP
  have hD : va_D A [oC t 4 [.ref tk, .ref tm, .ref to_, .ref tv, .ref tp, .ref tl], aI G tk 40 (upd kF (ix i) so), aI G tm 40 (upd mF (ix i) mo), aI G to_ 40 (upd oF (ix i) ow), aI G tv 40 (upd vF (ix i) vu), aI G tp 40 pF] := hD
  refine lv_aload_n hF.1 hF.2.1 dX4_put_30 rfl (lv_at hl 0 rfl) ?_
  refine kGet (C := RX4) (T := TX4) (N := 6) (index := 24) hF hK hP (inT inBX4) 0 rfl rfl 4 (by decide) rfl (List.mem_cons_of_mem _ mF_X4_24) rfl dX4_put_31 ?_
  refine lv_iload_n hF.1 hF.2.1 dX4_put_34 rfl (lv_at hl 1 rfl) ?_
  refine lv_iload_n hF.1 hF.2.1 dX4_put_35 rfl (lv_at hl 1 rfl) ?_
  refine kIast hF hK hP hD hS 5 rfl (by assumption) dX4_put_36 (fun H locs hP hD hS => ?_)
  have hP : PG G [oC t 4 [.ref tk, .ref tm, .ref to_, .ref tv, .ref tp, .ref tl], aI G tk 40 (upd kF (ix i) so), aI G tm 40 (upd mF (ix i) mo), aI G to_ 40 (upd oF (ix i) ow), aI G tv 40 (upd vF (ix i) vu), aI G tp 40 (upd pF (ix i) i)] H := hP
  have hD : va_D A [oC t 4 [.ref tk, .ref tm, .ref to_, .ref tv, .ref tp, .ref tl], aI G tk 40 (upd kF (ix i) so), aI G tm 40 (upd mF (ix i) mo), aI G to_ 40 (upd oF (ix i) ow), aI G tv 40 (upd vF (ix i) vu), aI G tp 40 (upd pF (ix i) i)] := hD
  refine kRetV hF hr hlk hK hP hD hS hQ () [0, 1, 2, 3, 4, 5] (by decide) rfl (by omega) (by omega) dX4_put_37 ?_
  exact (by first | rfl | trivial | exact zI_1 (by first | assumption | omega) | exact zI_0 (by first | assumption | omega) | (simp_all; done))
set_option maxHeartbeats 4000000 in
set_option maxRecDepth 100000 in
theorem c_X4_free (l : Launch) (G : GG) (sz : Nat) (t tk tm to_ tv tp tl : Nat) (kF : Nat → Int32) (i : Int32) (hi : vp_in i 40) : CtV l G yX4_free wsX4_free 0 0 0 0 sz [.ref t, .int i] [oC t 4 [.ref tk, .ref tm, .ref to_, .ref tv, .ref tp, .ref tl], aI G tk 40 kF] (fun (_ : Unit) => True) (fun (_ : Unit) => [oC t 4 [.ref tk, .ref tm, .ref to_, .ref tv, .ref tp, .ref tl], aI G tk 40 (upd kF (ix i) (nI 0))]) := by
  refine kMet (Qc := fun A => va_Qv _ (Bw G A _) A) (cc := cX4_free) (nL := 2) (ret := none) (by decide) rfl (Nat.le_of_ble_eq_true rfl) ?_
  intro p e s m args below meth c A Q hF hr hlk hnme hK hP hD hA hS hQ hsz ls hl
  have hl : lv_has ls 2 [(0, .ref t), (1, .int i)] := hl
  refine lv_aload_n hF.1 hF.2.1 dX4_free_0 rfl (lv_at hl 0 rfl) ?_
  refine kGet (C := RX4) (T := TX4) (N := 6) (index := 9) hF hK hP (inT inBX4) 0 rfl rfl 0 (by decide) rfl (List.mem_cons_of_mem _ mF_X4_9) rfl dX4_free_1 ?_
  refine lv_iload_n hF.1 hF.2.1 dX4_free_4 rfl (lv_at hl 1 rfl) ?_
  refine lv_iconst (v := (nI 0)) hF.1 hF.2.1 dX4_free_5 (by decide) ?_
  refine kIast hF hK hP hD hS 1 rfl (by assumption) dX4_free_6 (fun H locs hP hD hS => ?_)
  have hP : PG G [oC t 4 [.ref tk, .ref tm, .ref to_, .ref tv, .ref tp, .ref tl], aI G tk 40 (upd kF (ix i) (nI 0))] H := hP
  have hD : va_D A [oC t 4 [.ref tk, .ref tm, .ref to_, .ref tv, .ref tp, .ref tl], aI G tk 40 (upd kF (ix i) (nI 0))] := hD
  refine kRetV hF hr hlk hK hP hD hS hQ () [0, 1] (by decide) rfl (by omega) (by omega) dX4_free_7 ?_
  exact (by first | rfl | trivial | exact zI_1 (by first | assumption | omega) | exact zI_0 (by first | assumption | omega) | (simp_all; done))
set_option maxHeartbeats 4000000 in
set_option maxRecDepth 100000 in
theorem c_X4_sort (l : Launch) (G : GG) (sz : Nat) (t tk tm to_ tv tp tl : Nat) (kF : Nat → Int32) (i : Int32) (hi : vp_in i 40) : CtI l G yX4_sort wsX4_sort 0 0 0 0 sz [.ref t, .int i] [oC t 4 [.ref tk, .ref tm, .ref to_, .ref tv, .ref tp, .ref tl], aI G tk 40 kF] (fun r (_ : Unit) => r = (kF (ix i))) (fun (_ : Unit) => [oC t 4 [.ref tk, .ref tm, .ref to_, .ref tv, .ref tp, .ref tl], aI G tk 40 kF]) := by
  refine kMet (Qc := fun A => va_Qi _ (Bw G A _) A) (cc := cX4_sort) (nL := 2) (ret := some (.int)) (by decide) rfl (Nat.le_of_ble_eq_true rfl) ?_
  intro p e s m args below meth c A Q hF hr hlk hnme hK hP hD hA hS hQ hsz ls hl
  have hl : lv_has ls 2 [(0, .ref t), (1, .int i)] := hl
  refine lv_aload_n hF.1 hF.2.1 dX4_sort_0 rfl (lv_at hl 0 rfl) ?_
  refine kGet (C := RX4) (T := TX4) (N := 6) (index := 9) hF hK hP (inT inBX4) 0 rfl rfl 0 (by decide) rfl (List.mem_cons_of_mem _ mF_X4_9) rfl dX4_sort_1 ?_
  refine lv_iload_n hF.1 hF.2.1 dX4_sort_4 rfl (lv_at hl 1 rfl) ?_
  refine kIald hF hK hP 1 rfl (by assumption) dX4_sort_5 ?_
  refine kRetI (v := (kF (ix i))) hF hr hlk hK hP hD hS hQ rfl () [0, 1] (by decide) rfl (by omega) (by omega) dX4_sort_6 ?_
  exact (by first | rfl | trivial | exact zI_1 (by first | assumption | omega) | exact zI_0 (by first | assumption | omega) | (simp_all; done))
set_option maxHeartbeats 4000000 in
set_option maxRecDepth 100000 in
theorem c_X4_isDirectory (l : Launch) (G : GG) (sz : Nat) (t tk tm to_ tv tp tl : Nat) (kF : Nat → Int32) (i : Int32) (hi : vp_in i 40) : CtI l G yX4_isDirectory wsX4_isDirectory 0 0 0 0 sz [.ref t, .int i] [oC t 4 [.ref tk, .ref tm, .ref to_, .ref tv, .ref tp, .ref tl], aI G tk 40 kF] (fun r (_ : Unit) => r = (zI (kF (ix i) = nI 1))) (fun (_ : Unit) => [oC t 4 [.ref tk, .ref tm, .ref to_, .ref tv, .ref tp, .ref tl], aI G tk 40 kF]) := by
  refine kMet (Qc := fun A => va_Qi _ (Bw G A _) A) (cc := cX4_isDirectory) (nL := 2) (ret := some (.boolean)) (by decide) rfl (Nat.le_of_ble_eq_true rfl) ?_
  intro p e s m args below meth c A Q hF hr hlk hnme hK hP hD hA hS hQ hsz ls hl
  have hl : lv_has ls 2 [(0, .ref t), (1, .int i)] := hl
  refine lv_aload_n hF.1 hF.2.1 dX4_isDirectory_0 rfl (lv_at hl 0 rfl) ?_
  refine kGet (C := RX4) (T := TX4) (N := 6) (index := 9) hF hK hP (inT inBX4) 0 rfl rfl 0 (by decide) rfl (List.mem_cons_of_mem _ mF_X4_9) rfl dX4_isDirectory_1 ?_
  refine lv_iload_n hF.1 hF.2.1 dX4_isDirectory_4 rfl (lv_at hl 1 rfl) ?_
  refine kIald hF hK hP 1 rfl (by assumption) dX4_isDirectory_5 ?_
  refine lv_iconst (v := (nI 1)) hF.1 hF.2.1 dX4_isDirectory_6 (by decide) ?_
  refine lv_icmp_ne (tgt := 14) hF.1 hF.2.1 dX4_isDirectory_7 (by decide) (fun c_1 => ?_) (fun c_1 => ?_)
  · refine lv_iconst (v := (nI 0)) hF.1 hF.2.1 dX4_isDirectory_14 (by decide) ?_
    refine kRetI (v := (nI 0)) hF hr hlk hK hP hD hS hQ rfl () [0, 1] (by decide) rfl (by omega) (by omega) dX4_isDirectory_15 ?_
    exact (by first | rfl | trivial | exact zI_1 (by first | assumption | omega) | exact zI_0 (by first | assumption | omega) | (simp_all; done))
  · refine lv_iconst (v := (nI 1)) hF.1 hF.2.1 dX4_isDirectory_10 (by decide) ?_
    refine lv_goto (tgt := 15) hF.1 hF.2.1 dX4_isDirectory_11 (by decide) ?_
    refine kRetI (v := (nI 1)) hF hr hlk hK hP hD hS hQ rfl () [0, 1] (by decide) rfl (by omega) (by omega) dX4_isDirectory_15 ?_
    exact (by first | rfl | trivial | exact zI_1 (by first | assumption | omega) | exact zI_0 (by first | assumption | omega) | (simp_all; done))
set_option maxHeartbeats 4000000 in
set_option maxRecDepth 100000 in
theorem c_X4_isLink (l : Launch) (G : GG) (sz : Nat) (t tk tm to_ tv tp tl : Nat) (kF : Nat → Int32) (i : Int32) (hi : vp_in i 40) : CtI l G yX4_isLink wsX4_isLink 0 0 0 0 sz [.ref t, .int i] [oC t 4 [.ref tk, .ref tm, .ref to_, .ref tv, .ref tp, .ref tl], aI G tk 40 kF] (fun r (_ : Unit) => r = (zI (kF (ix i) = nI 3))) (fun (_ : Unit) => [oC t 4 [.ref tk, .ref tm, .ref to_, .ref tv, .ref tp, .ref tl], aI G tk 40 kF]) := by
  refine kMet (Qc := fun A => va_Qi _ (Bw G A _) A) (cc := cX4_isLink) (nL := 2) (ret := some (.boolean)) (by decide) rfl (Nat.le_of_ble_eq_true rfl) ?_
  intro p e s m args below meth c A Q hF hr hlk hnme hK hP hD hA hS hQ hsz ls hl
  have hl : lv_has ls 2 [(0, .ref t), (1, .int i)] := hl
  refine lv_aload_n hF.1 hF.2.1 dX4_isLink_0 rfl (lv_at hl 0 rfl) ?_
  refine kGet (C := RX4) (T := TX4) (N := 6) (index := 9) hF hK hP (inT inBX4) 0 rfl rfl 0 (by decide) rfl (List.mem_cons_of_mem _ mF_X4_9) rfl dX4_isLink_1 ?_
  refine lv_iload_n hF.1 hF.2.1 dX4_isLink_4 rfl (lv_at hl 1 rfl) ?_
  refine kIald hF hK hP 1 rfl (by assumption) dX4_isLink_5 ?_
  refine lv_iconst (v := (nI 3)) hF.1 hF.2.1 dX4_isLink_6 (by decide) ?_
  refine lv_icmp_ne (tgt := 14) hF.1 hF.2.1 dX4_isLink_7 (by decide) (fun c_1 => ?_) (fun c_1 => ?_)
  · refine lv_iconst (v := (nI 0)) hF.1 hF.2.1 dX4_isLink_14 (by decide) ?_
    refine kRetI (v := (nI 0)) hF hr hlk hK hP hD hS hQ rfl () [0, 1] (by decide) rfl (by omega) (by omega) dX4_isLink_15 ?_
    exact (by first | rfl | trivial | exact zI_1 (by first | assumption | omega) | exact zI_0 (by first | assumption | omega) | (simp_all; done))
  · refine lv_iconst (v := (nI 1)) hF.1 hF.2.1 dX4_isLink_10 (by decide) ?_
    refine lv_goto (tgt := 15) hF.1 hF.2.1 dX4_isLink_11 (by decide) ?_
    refine kRetI (v := (nI 1)) hF hr hlk hK hP hD hS hQ rfl () [0, 1] (by decide) rfl (by omega) (by omega) dX4_isLink_15 ?_
    exact (by first | rfl | trivial | exact zI_1 (by first | assumption | omega) | exact zI_0 (by first | assumption | omega) | (simp_all; done))
set_option maxHeartbeats 4000000 in
set_option maxRecDepth 100000 in
theorem c_X4_mode (l : Launch) (G : GG) (sz : Nat) (t tk tm to_ tv tp tl : Nat) (mF : Nat → Int32) (i : Int32) (hi : vp_in i 40) : CtI l G yX4_mode wsX4_mode 0 0 0 0 sz [.ref t, .int i] [oC t 4 [.ref tk, .ref tm, .ref to_, .ref tv, .ref tp, .ref tl], aI G tm 40 mF] (fun r (_ : Unit) => r = (mF (ix i))) (fun (_ : Unit) => [oC t 4 [.ref tk, .ref tm, .ref to_, .ref tv, .ref tp, .ref tl], aI G tm 40 mF]) := by
  refine kMet (Qc := fun A => va_Qi _ (Bw G A _) A) (cc := cX4_mode) (nL := 2) (ret := some (.int)) (by decide) rfl (Nat.le_of_ble_eq_true rfl) ?_
  intro p e s m args below meth c A Q hF hr hlk hnme hK hP hD hA hS hQ hsz ls hl
  have hl : lv_has ls 2 [(0, .ref t), (1, .int i)] := hl
  refine lv_aload_n hF.1 hF.2.1 dX4_mode_0 rfl (lv_at hl 0 rfl) ?_
  refine kGet (C := RX4) (T := TX4) (N := 6) (index := 15) hF hK hP (inT inBX4) 0 rfl rfl 1 (by decide) rfl (List.mem_cons_of_mem _ mF_X4_15) rfl dX4_mode_1 ?_
  refine lv_iload_n hF.1 hF.2.1 dX4_mode_4 rfl (lv_at hl 1 rfl) ?_
  refine kIald hF hK hP 1 rfl (by assumption) dX4_mode_5 ?_
  refine kRetI (v := (mF (ix i))) hF hr hlk hK hP hD hS hQ rfl () [0, 1] (by decide) rfl (by omega) (by omega) dX4_mode_6 ?_
  exact (by first | rfl | trivial | exact zI_1 (by first | assumption | omega) | exact zI_0 (by first | assumption | omega) | (simp_all; done))
set_option maxHeartbeats 4000000 in
set_option maxRecDepth 100000 in
theorem c_X4_setMode (l : Launch) (G : GG) (sz : Nat) (t tk tm to_ tv tp tl : Nat) (mF : Nat → Int32) (i mo : Int32) (hi : vp_in i 40) : CtV l G yX4_setMode wsX4_setMode 0 0 0 0 sz [.ref t, .int i, .int mo] [oC t 4 [.ref tk, .ref tm, .ref to_, .ref tv, .ref tp, .ref tl], aI G tm 40 mF] (fun (_ : Unit) => True) (fun (_ : Unit) => [oC t 4 [.ref tk, .ref tm, .ref to_, .ref tv, .ref tp, .ref tl], aI G tm 40 (upd mF (ix i) mo)]) := by
  refine kMet (Qc := fun A => va_Qv _ (Bw G A _) A) (cc := cX4_setMode) (nL := 3) (ret := none) (by decide) rfl (Nat.le_of_ble_eq_true rfl) ?_
  intro p e s m args below meth c A Q hF hr hlk hnme hK hP hD hA hS hQ hsz ls hl
  have hl : lv_has ls 3 [(0, .ref t), (1, .int i), (2, .int mo)] := hl
  refine lv_aload_n hF.1 hF.2.1 dX4_setMode_0 rfl (lv_at hl 0 rfl) ?_
  refine kGet (C := RX4) (T := TX4) (N := 6) (index := 15) hF hK hP (inT inBX4) 0 rfl rfl 1 (by decide) rfl (List.mem_cons_of_mem _ mF_X4_15) rfl dX4_setMode_1 ?_
  refine lv_iload_n hF.1 hF.2.1 dX4_setMode_4 rfl (lv_at hl 1 rfl) ?_
  refine lv_iload_n hF.1 hF.2.1 dX4_setMode_5 rfl (lv_at hl 2 rfl) ?_
  refine kIast hF hK hP hD hS 1 rfl (by assumption) dX4_setMode_6 (fun H locs hP hD hS => ?_)
  have hP : PG G [oC t 4 [.ref tk, .ref tm, .ref to_, .ref tv, .ref tp, .ref tl], aI G tm 40 (upd mF (ix i) mo)] H := hP
  have hD : va_D A [oC t 4 [.ref tk, .ref tm, .ref to_, .ref tv, .ref tp, .ref tl], aI G tm 40 (upd mF (ix i) mo)] := hD
  refine kRetV hF hr hlk hK hP hD hS hQ () [0, 1] (by decide) rfl (by omega) (by omega) dX4_setMode_7 ?_
  exact (by first | rfl | trivial | exact zI_1 (by first | assumption | omega) | exact zI_0 (by first | assumption | omega) | (simp_all; done))
set_option maxHeartbeats 4000000 in
set_option maxRecDepth 100000 in
theorem c_X4_owner (l : Launch) (G : GG) (sz : Nat) (t tk tm to_ tv tp tl : Nat) (oF : Nat → Int32) (i : Int32) (hi : vp_in i 40) : CtI l G yX4_owner wsX4_owner 0 0 0 0 sz [.ref t, .int i] [oC t 4 [.ref tk, .ref tm, .ref to_, .ref tv, .ref tp, .ref tl], aI G to_ 40 oF] (fun r (_ : Unit) => r = (oF (ix i))) (fun (_ : Unit) => [oC t 4 [.ref tk, .ref tm, .ref to_, .ref tv, .ref tp, .ref tl], aI G to_ 40 oF]) := by
  refine kMet (Qc := fun A => va_Qi _ (Bw G A _) A) (cc := cX4_owner) (nL := 2) (ret := some (.int)) (by decide) rfl (Nat.le_of_ble_eq_true rfl) ?_
  intro p e s m args below meth c A Q hF hr hlk hnme hK hP hD hA hS hQ hsz ls hl
  have hl : lv_has ls 2 [(0, .ref t), (1, .int i)] := hl
  refine lv_aload_n hF.1 hF.2.1 dX4_owner_0 rfl (lv_at hl 0 rfl) ?_
  refine kGet (C := RX4) (T := TX4) (N := 6) (index := 18) hF hK hP (inT inBX4) 0 rfl rfl 2 (by decide) rfl (List.mem_cons_of_mem _ mF_X4_18) rfl dX4_owner_1 ?_
  refine lv_iload_n hF.1 hF.2.1 dX4_owner_4 rfl (lv_at hl 1 rfl) ?_
  refine kIald hF hK hP 1 rfl (by assumption) dX4_owner_5 ?_
  refine kRetI (v := (oF (ix i))) hF hr hlk hK hP hD hS hQ rfl () [0, 1] (by decide) rfl (by omega) (by omega) dX4_owner_6 ?_
  exact (by first | rfl | trivial | exact zI_1 (by first | assumption | omega) | exact zI_0 (by first | assumption | omega) | (simp_all; done))
set_option maxHeartbeats 4000000 in
set_option maxRecDepth 100000 in
theorem c_X4_volumeOf (l : Launch) (G : GG) (sz : Nat) (t tk tm to_ tv tp tl : Nat) (vF : Nat → Int32) (i : Int32) (hi : vp_in i 40) : CtI l G yX4_volumeOf wsX4_volumeOf 0 0 0 0 sz [.ref t, .int i] [oC t 4 [.ref tk, .ref tm, .ref to_, .ref tv, .ref tp, .ref tl], aI G tv 40 vF] (fun r (_ : Unit) => r = (vF (ix i))) (fun (_ : Unit) => [oC t 4 [.ref tk, .ref tm, .ref to_, .ref tv, .ref tp, .ref tl], aI G tv 40 vF]) := by
  refine kMet (Qc := fun A => va_Qi _ (Bw G A _) A) (cc := cX4_volumeOf) (nL := 2) (ret := some (.int)) (by decide) rfl (Nat.le_of_ble_eq_true rfl) ?_
  intro p e s m args below meth c A Q hF hr hlk hnme hK hP hD hA hS hQ hsz ls hl
  have hl : lv_has ls 2 [(0, .ref t), (1, .int i)] := hl
  refine lv_aload_n hF.1 hF.2.1 dX4_volumeOf_0 rfl (lv_at hl 0 rfl) ?_
  refine kGet (C := RX4) (T := TX4) (N := 6) (index := 21) hF hK hP (inT inBX4) 0 rfl rfl 3 (by decide) rfl (List.mem_cons_of_mem _ mF_X4_21) rfl dX4_volumeOf_1 ?_
  refine lv_iload_n hF.1 hF.2.1 dX4_volumeOf_4 rfl (lv_at hl 1 rfl) ?_
  refine kIald hF hK hP 1 rfl (by assumption) dX4_volumeOf_5 ?_
  refine kRetI (v := (vF (ix i))) hF hr hlk hK hP hD hS hQ rfl () [0, 1] (by decide) rfl (by omega) (by omega) dX4_volumeOf_6 ?_
  exact (by first | rfl | trivial | exact zI_1 (by first | assumption | omega) | exact zI_0 (by first | assumption | omega) | (simp_all; done))
set_option maxHeartbeats 4000000 in
set_option maxRecDepth 100000 in
theorem c_X4_parent (l : Launch) (G : GG) (sz : Nat) (t tk tm to_ tv tp tl : Nat) (pF : Nat → Int32) (i : Int32) (hi : vp_in i 40) : CtI l G yX4_parent wsX4_parent 0 0 0 0 sz [.ref t, .int i] [oC t 4 [.ref tk, .ref tm, .ref to_, .ref tv, .ref tp, .ref tl], aI G tp 40 pF] (fun r (_ : Unit) => r = (pF (ix i))) (fun (_ : Unit) => [oC t 4 [.ref tk, .ref tm, .ref to_, .ref tv, .ref tp, .ref tl], aI G tp 40 pF]) := by
  refine kMet (Qc := fun A => va_Qi _ (Bw G A _) A) (cc := cX4_parent) (nL := 2) (ret := some (.int)) (by decide) rfl (Nat.le_of_ble_eq_true rfl) ?_
  intro p e s m args below meth c A Q hF hr hlk hnme hK hP hD hA hS hQ hsz ls hl
  have hl : lv_has ls 2 [(0, .ref t), (1, .int i)] := hl
  refine lv_aload_n hF.1 hF.2.1 dX4_parent_0 rfl (lv_at hl 0 rfl) ?_
  refine kGet (C := RX4) (T := TX4) (N := 6) (index := 24) hF hK hP (inT inBX4) 0 rfl rfl 4 (by decide) rfl (List.mem_cons_of_mem _ mF_X4_24) rfl dX4_parent_1 ?_
  refine lv_iload_n hF.1 hF.2.1 dX4_parent_4 rfl (lv_at hl 1 rfl) ?_
  refine kIald hF hK hP 1 rfl (by assumption) dX4_parent_5 ?_
  refine kRetI (v := (pF (ix i))) hF hr hlk hK hP hD hS hQ rfl () [0, 1] (by decide) rfl (by omega) (by omega) dX4_parent_6 ?_
  exact (by first | rfl | trivial | exact zI_1 (by first | assumption | omega) | exact zI_0 (by first | assumption | omega) | (simp_all; done))
set_option maxHeartbeats 4000000 in
set_option maxRecDepth 100000 in
theorem c_X4_setParent (l : Launch) (G : GG) (sz : Nat) (t tk tm to_ tv tp tl : Nat) (pF : Nat → Int32) (i pa : Int32) (hi : vp_in i 40) : CtV l G yX4_setParent wsX4_setParent 0 0 0 0 sz [.ref t, .int i, .int pa] [oC t 4 [.ref tk, .ref tm, .ref to_, .ref tv, .ref tp, .ref tl], aI G tp 40 pF] (fun (_ : Unit) => True) (fun (_ : Unit) => [oC t 4 [.ref tk, .ref tm, .ref to_, .ref tv, .ref tp, .ref tl], aI G tp 40 (upd pF (ix i) pa)]) := by
  refine kMet (Qc := fun A => va_Qv _ (Bw G A _) A) (cc := cX4_setParent) (nL := 3) (ret := none) (by decide) rfl (Nat.le_of_ble_eq_true rfl) ?_
  intro p e s m args below meth c A Q hF hr hlk hnme hK hP hD hA hS hQ hsz ls hl
  have hl : lv_has ls 3 [(0, .ref t), (1, .int i), (2, .int pa)] := hl
  refine lv_aload_n hF.1 hF.2.1 dX4_setParent_0 rfl (lv_at hl 0 rfl) ?_
  refine kGet (C := RX4) (T := TX4) (N := 6) (index := 24) hF hK hP (inT inBX4) 0 rfl rfl 4 (by decide) rfl (List.mem_cons_of_mem _ mF_X4_24) rfl dX4_setParent_1 ?_
  refine lv_iload_n hF.1 hF.2.1 dX4_setParent_4 rfl (lv_at hl 1 rfl) ?_
  refine lv_iload_n hF.1 hF.2.1 dX4_setParent_5 rfl (lv_at hl 2 rfl) ?_
  refine kIast hF hK hP hD hS 1 rfl (by assumption) dX4_setParent_6 (fun H locs hP hD hS => ?_)
  have hP : PG G [oC t 4 [.ref tk, .ref tm, .ref to_, .ref tv, .ref tp, .ref tl], aI G tp 40 (upd pF (ix i) pa)] H := hP
  have hD : va_D A [oC t 4 [.ref tk, .ref tm, .ref to_, .ref tv, .ref tp, .ref tl], aI G tp 40 (upd pF (ix i) pa)] := hD
  refine kRetV hF hr hlk hK hP hD hS hQ () [0, 1] (by decide) rfl (by omega) (by omega) dX4_setParent_7 ?_
  exact (by first | rfl | trivial | exact zI_1 (by first | assumption | omega) | exact zI_0 (by first | assumption | omega) | (simp_all; done))
set_option maxHeartbeats 4000000 in
set_option maxRecDepth 100000 in
theorem c_X4_target (l : Launch) (G : GG) (sz : Nat) (t tk tm to_ tv tp tl : Nat) (tF : Nat → Option Nat) (i : Int32) (hi : vp_in i 40) : CtQ l G yX4_target wsX4_target 0 0 0 0 sz [.ref t, .int i] [oC t 4 [.ref tk, .ref tm, .ref to_, .ref tv, .ref tp, .ref tl], aL G tl 40 tF] (fun r (_ : Unit) => r = tF (ix i)) (fun (_ : Unit) => [oC t 4 [.ref tk, .ref tm, .ref to_, .ref tv, .ref tp, .ref tl], aL G tl 40 tF]) := by
  refine kMet (Qc := fun A => va_Qq _ (Bw G A _) A) (cc := cX4_target) (nL := 2) (ret := some (.object "MountedPaths$Line")) (by decide) rfl (Nat.le_of_ble_eq_true rfl) ?_
  intro p e s m args below meth c A Q hF hr hlk hnme hK hP hD hA hS hQ hsz ls hl
  have hl : lv_has ls 2 [(0, .ref t), (1, .int i)] := hl
  refine lv_aload_n hF.1 hF.2.1 dX4_target_0 rfl (lv_at hl 0 rfl) ?_
  refine kGet (C := RX4) (T := TX4) (N := 6) (index := 29) hF hK hP (inT inBX4) 0 rfl rfl 5 (by decide) rfl (List.mem_cons_of_mem _ mF_X4_29) rfl dX4_target_1 ?_
  refine lv_iload_n hF.1 hF.2.1 dX4_target_4 rfl (lv_at hl 1 rfl) ?_
  refine kAald hF hK hP 1 rfl (by assumption) dX4_target_5 ?_
  refine kRetQ (v := tF (ix i)) hF hr (Or.inl ⟨_, rfl⟩) hlk hK hP hD hS hQ () [0, 1] (by decide) rfl (by omega) (by omega) dX4_target_6 ?_
  exact (by first | rfl | trivial | exact zI_1 (by first | assumption | omega) | exact zI_0 (by first | assumption | omega) | (simp_all; done))
end
section
set_option maxHeartbeats 4000000 in
set_option maxRecDepth 100000 in
theorem c_X0_isFull (l : Launch) (G : GG) (sz : Nat) (en ed em eo ec : Nat) (dF bF : Nat → Int32) (nF : Nat → Int64) (hec : ec ≤ 80) : CtI l G yX0_isFull wsX0_isFull 0 0 0 0 sz [.ref en] [oC en 0 [.ref ed, .ref em, .ref eo, .int (nI ec)]] (fun r (_ : Unit) => r = (zI (80 ≤ ec))) (fun (_ : Unit) => [oC en 0 [.ref ed, .ref em, .ref eo, .int (nI ec)]]) := by
  refine kMet (Qc := fun A => va_Qi _ (Bw G A _) A) (cc := cX0_isFull) (nL := 1) (ret := some (.boolean)) (by decide) rfl (Nat.le_of_ble_eq_true rfl) ?_
  intro p e s m args below meth c A Q hF hr hlk hnme hK hP hD hA hS hQ hsz ls hl
  have hl : lv_has ls 1 [(0, .ref en)] := hl
  refine lv_aload_n hF.1 hF.2.1 dX0_isFull_0 rfl (lv_at hl 0 rfl) ?_
  refine kGet (C := RX0) (T := TX0) (N := 4) (index := 22) hF hK hP (inT inBX0) 0 rfl rfl 3 (by decide) rfl (List.mem_cons_of_mem _ mF_X0_22) rfl dX0_isFull_1 ?_
  refine lv_bipush (v := (nI 80)) hF.1 hF.2.1 dX0_isFull_4 (by decide) ?_
  refine kLtN (tgt := 13) hF dX0_isFull_6 (by decide) (by omega) (by omega) (fun c_1 => ?_) (fun c_1 => ?_)
  · refine lv_iconst (v := (nI 0)) hF.1 hF.2.1 dX0_isFull_13 (by decide) ?_
    refine kRetI (v := (nI 0)) hF hr hlk hK hP hD hS hQ rfl () [0] (by decide) rfl (by omega) (by omega) dX0_isFull_14 ?_
    exact (by first | rfl | trivial | exact zI_1 (by first | assumption | omega) | exact zI_0 (by first | assumption | omega) | (simp_all; done))
  · refine lv_iconst (v := (nI 1)) hF.1 hF.2.1 dX0_isFull_9 (by decide) ?_
    refine lv_goto (tgt := 14) hF.1 hF.2.1 dX0_isFull_10 (by decide) ?_
    refine kRetI (v := (nI 1)) hF hr hlk hK hP hD hS hQ rfl () [0] (by decide) rfl (by omega) (by omega) dX0_isFull_14 ?_
    exact (by first | rfl | trivial | exact zI_1 (by first | assumption | omega) | exact zI_0 (by first | assumption | omega) | (simp_all; done))
set_option maxHeartbeats 4000000 in
set_option maxRecDepth 100000 in
theorem c_X0_add (l : Launch) (G : GG) (sz : Nat) (en ed em eo ec : Nat) (dF bF : Nat → Int32) (nF : Nat → Int64) (d ob : Int32) (nm : Int64) (hec : ec < 80) : CtV l G yX0_add wsX0_add 0 0 0 0 sz [.ref en, .int d, .long nm, .int ob] [oC en 0 [.ref ed, .ref em, .ref eo, .int (nI ec)], aI G ed 80 dF, aJ G em 80 nF, aI G eo 80 bF] (fun (_ : Unit) => True) (fun (_ : Unit) => [oC en 0 [.ref ed, .ref em, .ref eo, .int (nI (ec + 1))], aI G ed 80 (upd dF ec d), aJ G em 80 (vp_updL nF ec nm), aI G eo 80 (upd bF ec ob)]) := by
  refine kMet (Qc := fun A => va_Qv _ (Bw G A _) A) (cc := cX0_add) (nL := 5) (ret := none) (by decide) rfl (Nat.le_of_ble_eq_true rfl) ?_
  intro p e s m args below meth c A Q hF hr hlk hnme hK hP hD hA hS hQ hsz ls hl
  have hl : lv_has ls 5 [(0, .ref en), (1, .int d), (2, .long nm), (4, .int ob)] := hl
  refine lv_aload_n hF.1 hF.2.1 dX0_add_0 rfl (lv_at hl 0 rfl) ?_
  refine kGet (C := RX0) (T := TX0) (N := 4) (index := 22) hF hK hP (inT inBX0) 0 rfl rfl 3 (by decide) rfl (List.mem_cons_of_mem _ mF_X0_22) rfl dX0_add_1 ?_
  refine lv_bipush (v := (nI 80)) hF.1 hF.2.1 dX0_add_4 (by decide) ?_
  refine kGeN (tgt := 50) hF dX0_add_6 (by decide) (by omega) (by omega) (fun c_1 => ?_) (fun c_1 => ?_)
  · exfalso; omega
  · refine lv_aload_n hF.1 hF.2.1 dX0_add_9 rfl (lv_at hl 0 rfl) ?_
    refine kGet (C := RX0) (T := TX0) (N := 4) (index := 9) hF hK hP (inT inBX0) 0 rfl rfl 0 (by decide) rfl (List.mem_cons_of_mem _ mF_X0_9) rfl dX0_add_10 ?_
    refine lv_aload_n hF.1 hF.2.1 dX0_add_13 rfl (lv_at hl 0 rfl) ?_
    refine kGet (C := RX0) (T := TX0) (N := 4) (index := 22) hF hK hP (inT inBX0) 0 rfl rfl 3 (by decide) rfl (List.mem_cons_of_mem _ mF_X0_22) rfl dX0_add_14 ?_
    refine lv_iload_n hF.1 hF.2.1 dX0_add_17 rfl (lv_at hl 1 rfl) ?_
    refine kIastN hF hK hP hD hS 1 rfl (by omega) (by decide) dX0_add_18 (fun H locs hP hD hS => ?_)
    have hP : PG G [oC en 0 [.ref ed, .ref em, .ref eo, .int (nI ec)], aI G ed 80 (upd dF ec d), aJ G em 80 nF, aI G eo 80 bF] H := hP
    have hD : va_D A [oC en 0 [.ref ed, .ref em, .ref eo, .int (nI ec)], aI G ed 80 (upd dF ec d), aJ G em 80 nF, aI G eo 80 bF] := hD
    refine lv_aload_n hF.1 hF.2.1 dX0_add_19 rfl (lv_at hl 0 rfl) ?_
    refine kGet (C := RX0) (T := TX0) (N := 4) (index := 15) hF hK hP (inT inBX0) 0 rfl rfl 1 (by decide) rfl (List.mem_cons_of_mem _ mF_X0_15) rfl dX0_add_20 ?_
    refine lv_aload_n hF.1 hF.2.1 dX0_add_23 rfl (lv_at hl 0 rfl) ?_
    refine kGet (C := RX0) (T := TX0) (N := 4) (index := 22) hF hK hP (inT inBX0) 0 rfl rfl 3 (by decide) rfl (List.mem_cons_of_mem _ mF_X0_22) rfl dX0_add_24 ?_
    refine lv_lload_n hF.1 hF.2.1 dX0_add_27 rfl (lv_at hl 2 rfl) ?_
    refine kLastN hF hK hP hD hS 2 rfl (by omega) (by decide) dX0_add_28 (fun H locs hP hD hS => ?_)
    have hP : PG G [oC en 0 [.ref ed, .ref em, .ref eo, .int (nI ec)], aI G ed 80 (upd dF ec d), aJ G em 80 (vp_updL nF ec nm), aI G eo 80 bF] H := hP
    have hD : va_D A [oC en 0 [.ref ed, .ref em, .ref eo, .int (nI ec)], aI G ed 80 (upd dF ec d), aJ G em 80 (vp_updL nF ec nm), aI G eo 80 bF] := hD
    refine lv_aload_n hF.1 hF.2.1 dX0_add_29 rfl (lv_at hl 0 rfl) ?_
    refine kGet (C := RX0) (T := TX0) (N := 4) (index := 19) hF hK hP (inT inBX0) 0 rfl rfl 2 (by decide) rfl (List.mem_cons_of_mem _ mF_X0_19) rfl dX0_add_30 ?_
    refine lv_aload_n hF.1 hF.2.1 dX0_add_33 rfl (lv_at hl 0 rfl) ?_
    refine kGet (C := RX0) (T := TX0) (N := 4) (index := 22) hF hK hP (inT inBX0) 0 rfl rfl 3 (by decide) rfl (List.mem_cons_of_mem _ mF_X0_22) rfl dX0_add_34 ?_
    refine lv_iload hF.1 hF.2.1 dX0_add_37 (lv_at hl 3 rfl) ?_
    refine kIastN hF hK hP hD hS 3 rfl (by omega) (by decide) dX0_add_39 (fun H locs hP hD hS => ?_)
    have hP : PG G [oC en 0 [.ref ed, .ref em, .ref eo, .int (nI ec)], aI G ed 80 (upd dF ec d), aJ G em 80 (vp_updL nF ec nm), aI G eo 80 (upd bF ec ob)] H := hP
    have hD : va_D A [oC en 0 [.ref ed, .ref em, .ref eo, .int (nI ec)], aI G ed 80 (upd dF ec d), aJ G em 80 (vp_updL nF ec nm), aI G eo 80 (upd bF ec ob)] := hD
    refine lv_aload_n hF.1 hF.2.1 dX0_add_40 rfl (lv_at hl 0 rfl) ?_
    refine lv_dup hF.1 hF.2.1 dX0_add_41 rfl ?_
    refine kGet (C := RX0) (T := TX0) (N := 4) (index := 22) hF hK hP (inT inBX0) 0 rfl rfl 3 (by decide) rfl (List.mem_cons_of_mem _ mF_X0_22) rfl dX0_add_42 ?_
    refine lv_iconst (v := (nI 1)) hF.1 hF.2.1 dX0_add_45 (by decide) ?_
    refine lv_iadd hF.1 hF.2.1 dX0_add_46 ?_
    refine kTop (y := (nI (ec + 1))) (nI_add _ _) ?_
    refine kPut (C := RX0) (T := TX0) (N := 4) (index := 22) (v := .int (nI (ec + 1))) hF hK hP hD hS (inT inBX0) tyX0_ok nmX0 0 rfl rfl 3 (by decide) rfl (List.mem_cons_of_mem _ mF_X0_22) rfl rfl rfl (Nat.le_of_ble_eq_true rfl) dX0_add_47 (fun H locs hP hD hS => ?_)
    have hP : PG G [oC en 0 [.ref ed, .ref em, .ref eo, .int (nI (ec + 1))], aI G ed 80 (upd dF ec d), aJ G em 80 (vp_updL nF ec nm), aI G eo 80 (upd bF ec ob)] H := hP
    have hD : va_D A [oC en 0 [.ref ed, .ref em, .ref eo, .int (nI (ec + 1))], aI G ed 80 (upd dF ec d), aJ G em 80 (vp_updL nF ec nm), aI G eo 80 (upd bF ec ob)] := hD
    refine kRetV hF hr hlk hK hP hD hS hQ () [0, 1, 2, 3] (by decide) rfl (by omega) (by omega) dX0_add_50 ?_
    exact (by first | rfl | trivial | exact zI_1 (by first | assumption | omega) | exact zI_0 (by first | assumption | omega) | (simp_all; done))
set_option maxHeartbeats 4000000 in
set_option maxRecDepth 100000 in
theorem c_X0_drop (l : Launch) (G : GG) (sz : Nat) (en ed em eo ec : Nat) (dF bF : Nat → Int32) (nF : Nat → Int64) (pl : Nat) (hec : ec ≤ 80) (hp : pl < ec) : CtV l G yX0_drop wsX0_drop 0 0 0 0 sz [.ref en, .int (nI pl)] [oC en 0 [.ref ed, .ref em, .ref eo, .int (nI ec)], aI G ed 80 dF, aJ G em 80 nF, aI G eo 80 bF] (fun (_ : Unit) => True) (fun (_ : Unit) => [oC en 0 [.ref ed, .ref em, .ref eo, .int (nI (ec - 1))], aI G ed 80 (shf dF pl (ec - 1)), aJ G em 80 (shf nF pl (ec - 1)), aI G eo 80 (shf bF pl (ec - 1))]) := by
  refine kMet (Qc := fun A => va_Qv _ (Bw G A _) A) (cc := cX0_drop) (nL := 3) (ret := none) (by decide) rfl (Nat.le_of_ble_eq_true rfl) ?_
  intro p e s m args below meth c A Q hF hr hlk hnme hK hP hD hA hS hQ hsz ls hl
  have hl : lv_has ls 3 [(0, .ref en), (1, .int (nI pl))] := hl
  refine lv_iload_n hF.1 hF.2.1 dX0_drop_0 rfl (lv_at hl 1 rfl) ?_
  refine kIfLtN (tgt := 12) hF dX0_drop_1 (by decide) (by omega) ?_
  refine lv_iload_n hF.1 hF.2.1 dX0_drop_4 rfl (lv_at hl 1 rfl) ?_
  refine lv_aload_n hF.1 hF.2.1 dX0_drop_5 rfl (lv_at hl 0 rfl) ?_
  refine kGet (C := RX0) (T := TX0) (N := 4) (index := 22) hF hK hP (inT inBX0) 0 rfl rfl 3 (by decide) rfl (List.mem_cons_of_mem _ mF_X0_22) rfl dX0_drop_6 ?_
  refine kLtN (tgt := 13) hF dX0_drop_9 (by decide) (by omega) (by omega) (fun c_1 => ?_) (fun c_1 => ?_)
  · refine lv_aload_n hF.1 hF.2.1 dX0_drop_13 rfl (lv_at hl 0 rfl) ?_
    refine lv_dup hF.1 hF.2.1 dX0_drop_14 rfl ?_
    refine kGet (C := RX0) (T := TX0) (N := 4) (index := 22) hF hK hP (inT inBX0) 0 rfl rfl 3 (by decide) rfl (List.mem_cons_of_mem _ mF_X0_22) rfl dX0_drop_15 ?_
    refine lv_iconst (v := (nI 1)) hF.1 hF.2.1 dX0_drop_18 (by decide) ?_
    refine lv_isub hF.1 hF.2.1 dX0_drop_19 ?_
    refine kTop (y := (nI (ec - 1))) (pk_sub (by omega)) ?_
    refine kPut (C := RX0) (T := TX0) (N := 4) (index := 22) (v := .int (nI (ec - 1))) hF hK hP hD hS (inT inBX0) tyX0_ok nmX0 0 rfl rfl 3 (by decide) rfl (List.mem_cons_of_mem _ mF_X0_22) rfl rfl rfl (Nat.le_of_ble_eq_true rfl) dX0_drop_20 (fun H locs hP hD hS => ?_)
    have hP : PG G [oC en 0 [.ref ed, .ref em, .ref eo, .int (nI (ec - 1))], aI G ed 80 dF, aJ G em 80 nF, aI G eo 80 bF] H := hP
    have hD : va_D A [oC en 0 [.ref ed, .ref em, .ref eo, .int (nI (ec - 1))], aI G ed 80 dF, aJ G em 80 nF, aI G eo 80 bF] := hD
    refine lv_iload_n hF.1 hF.2.1 dX0_drop_23 rfl (lv_at hl 1 rfl) ?_
    refine lv_istore_n (lv' := [(2, .int (nI pl)), (0, .ref en), (1, .int (nI pl))]) hF.1 hF.2.1 dX0_drop_24 rfl hl (by decide) rfl (fun ls hl => ?_)
    have loop_25 : ∀ (n_25 : Nat) (k : Nat) (d1 : Nat → Int32) (n1 : Nat → Int64) (b1 : Nat → Int32), ec - k < n_25 → pl ≤ k ∧ k ≤ ec - 1 → d1 = shf dF pl k → n1 = shf nF pl k → b1 = shf bF pl k → ∀ (H : Heap) (locs : List Loc) (ls : Array Slot), PG G [oC en 0 [.ref ed, .ref em, .ref eo, .int (nI (ec - 1))], aI G ed 80 d1, aJ G em 80 n1, aI G eo 80 b1] H → va_D A [oC en 0 [.ref ed, .ref em, .ref eo, .int (nI (ec - 1))], aI G ed 80 d1, aJ G em 80 n1, aI G eo 80 b1] → va_S A s.heap H locs → lv_has ls 3 [(2, .int (nI k)), (0, .ref en), (1, .int (nI pl))] → W p l e (Rm 0 0 0 0) s m args below meth c H locs 0 0 Q (F0 m 25 ls []) := by
      intro n_25
      induction n_25 with
      | zero => intro k d1 n1 b1 hm; exact absurd hm (Nat.not_lt_zero _)
      | succ n_25 ih_25 =>
        intro k d1 n1 b1 hm_25 hk hd hn hb H locs ls hP hD hS hl
        refine lv_iload_n hF.1 hF.2.1 dX0_drop_25 rfl (lv_at hl 0 rfl) ?_
        refine lv_aload_n hF.1 hF.2.1 dX0_drop_26 rfl (lv_at hl 1 rfl) ?_
        refine kGet (C := RX0) (T := TX0) (N := 4) (index := 22) hF hK hP (inT inBX0) 0 rfl rfl 3 (by decide) rfl (List.mem_cons_of_mem _ mF_X0_22) rfl dX0_drop_27 ?_
        refine kGeN (tgt := 81) hF dX0_drop_30 (by decide) (by omega) (by omega) (fun c_2 => ?_) (fun c_2 => ?_)
        · rw [hd, hn, hb, show k = ec - 1 by omega] at hP hD
          refine kRetV hF hr hlk hK hP hD hS hQ () [0, 1, 2, 3] (by decide) rfl (by omega) (by omega) dX0_drop_81 ?_
          trivial
        · refine lv_aload_n hF.1 hF.2.1 dX0_drop_33 rfl (lv_at hl 1 rfl) ?_
          refine kGet (C := RX0) (T := TX0) (N := 4) (index := 9) hF hK hP (inT inBX0) 0 rfl rfl 0 (by decide) rfl (List.mem_cons_of_mem _ mF_X0_9) rfl dX0_drop_34 ?_
          refine lv_iload_n hF.1 hF.2.1 dX0_drop_37 rfl (lv_at hl 0 rfl) ?_
          refine lv_aload_n hF.1 hF.2.1 dX0_drop_38 rfl (lv_at hl 1 rfl) ?_
          refine kGet (C := RX0) (T := TX0) (N := 4) (index := 9) hF hK hP (inT inBX0) 0 rfl rfl 0 (by decide) rfl (List.mem_cons_of_mem _ mF_X0_9) rfl dX0_drop_39 ?_
          refine lv_iload_n hF.1 hF.2.1 dX0_drop_42 rfl (lv_at hl 0 rfl) ?_
          refine lv_iconst (v := (nI 1)) hF.1 hF.2.1 dX0_drop_43 (by decide) ?_
          refine lv_iadd hF.1 hF.2.1 dX0_drop_44 ?_
          refine kTop (y := (nI (k + 1))) (nI_add _ _) ?_
          refine kIaldN hF hK hP 1 rfl (by omega) (by decide) dX0_drop_45 ?_
          refine kIastN hF hK hP hD hS 1 rfl (by omega) (by decide) dX0_drop_46 (fun H locs hP hD hS => ?_)
          have hP : PG G [oC en 0 [.ref ed, .ref em, .ref eo, .int (nI (ec - 1))], aI G ed 80 (upd d1 k (d1 (k + 1))), aJ G em 80 n1, aI G eo 80 b1] H := hP
          have hD : va_D A [oC en 0 [.ref ed, .ref em, .ref eo, .int (nI (ec - 1))], aI G ed 80 (upd d1 k (d1 (k + 1))), aJ G em 80 n1, aI G eo 80 b1] := hD
          refine lv_aload_n hF.1 hF.2.1 dX0_drop_47 rfl (lv_at hl 1 rfl) ?_
          refine kGet (C := RX0) (T := TX0) (N := 4) (index := 15) hF hK hP (inT inBX0) 0 rfl rfl 1 (by decide) rfl (List.mem_cons_of_mem _ mF_X0_15) rfl dX0_drop_48 ?_
          refine lv_iload_n hF.1 hF.2.1 dX0_drop_51 rfl (lv_at hl 0 rfl) ?_
          refine lv_aload_n hF.1 hF.2.1 dX0_drop_52 rfl (lv_at hl 1 rfl) ?_
          refine kGet (C := RX0) (T := TX0) (N := 4) (index := 15) hF hK hP (inT inBX0) 0 rfl rfl 1 (by decide) rfl (List.mem_cons_of_mem _ mF_X0_15) rfl dX0_drop_53 ?_
          refine lv_iload_n hF.1 hF.2.1 dX0_drop_56 rfl (lv_at hl 0 rfl) ?_
          refine lv_iconst (v := (nI 1)) hF.1 hF.2.1 dX0_drop_57 (by decide) ?_
          refine lv_iadd hF.1 hF.2.1 dX0_drop_58 ?_
          refine kTop (y := (nI (k + 1))) (nI_add _ _) ?_
          refine kLaldN hF hK hP 2 rfl (by omega) (by decide) dX0_drop_59 ?_
          refine kLastN hF hK hP hD hS 2 rfl (by omega) (by decide) dX0_drop_60 (fun H locs hP hD hS => ?_)
          have hP : PG G [oC en 0 [.ref ed, .ref em, .ref eo, .int (nI (ec - 1))], aI G ed 80 (upd d1 k (d1 (k + 1))), aJ G em 80 (vp_updL n1 k (n1 (k + 1))), aI G eo 80 b1] H := hP
          have hD : va_D A [oC en 0 [.ref ed, .ref em, .ref eo, .int (nI (ec - 1))], aI G ed 80 (upd d1 k (d1 (k + 1))), aJ G em 80 (vp_updL n1 k (n1 (k + 1))), aI G eo 80 b1] := hD
          refine lv_aload_n hF.1 hF.2.1 dX0_drop_61 rfl (lv_at hl 1 rfl) ?_
          refine kGet (C := RX0) (T := TX0) (N := 4) (index := 19) hF hK hP (inT inBX0) 0 rfl rfl 2 (by decide) rfl (List.mem_cons_of_mem _ mF_X0_19) rfl dX0_drop_62 ?_
          refine lv_iload_n hF.1 hF.2.1 dX0_drop_65 rfl (lv_at hl 0 rfl) ?_
          refine lv_aload_n hF.1 hF.2.1 dX0_drop_66 rfl (lv_at hl 1 rfl) ?_
          refine kGet (C := RX0) (T := TX0) (N := 4) (index := 19) hF hK hP (inT inBX0) 0 rfl rfl 2 (by decide) rfl (List.mem_cons_of_mem _ mF_X0_19) rfl dX0_drop_67 ?_
          refine lv_iload_n hF.1 hF.2.1 dX0_drop_70 rfl (lv_at hl 0 rfl) ?_
          refine lv_iconst (v := (nI 1)) hF.1 hF.2.1 dX0_drop_71 (by decide) ?_
          refine lv_iadd hF.1 hF.2.1 dX0_drop_72 ?_
          refine kTop (y := (nI (k + 1))) (nI_add _ _) ?_
          refine kIaldN hF hK hP 3 rfl (by omega) (by decide) dX0_drop_73 ?_
          refine kIastN hF hK hP hD hS 3 rfl (by omega) (by decide) dX0_drop_74 (fun H locs hP hD hS => ?_)
          have hP : PG G [oC en 0 [.ref ed, .ref em, .ref eo, .int (nI (ec - 1))], aI G ed 80 (upd d1 k (d1 (k + 1))), aJ G em 80 (vp_updL n1 k (n1 (k + 1))), aI G eo 80 (upd b1 k (b1 (k + 1)))] H := hP
          have hD : va_D A [oC en 0 [.ref ed, .ref em, .ref eo, .int (nI (ec - 1))], aI G ed 80 (upd d1 k (d1 (k + 1))), aJ G em 80 (vp_updL n1 k (n1 (k + 1))), aI G eo 80 (upd b1 k (b1 (k + 1)))] := hD
          refine lv_iinc (v := (nI (k + 1))) (lv' := [(2, .int (nI (k + 1))), (0, .ref en), (1, .int (nI pl))]) hF.1 hF.2.1 dX0_drop_75 hl (k := 0) rfl (nI_inc1 _) (by decide) rfl (fun ls hl => ?_)
          refine lv_goto (tgt := 25) hF.1 hF.2.1 dX0_drop_78 (by decide) ?_
          exact ih_25 (k + 1) (upd d1 k (d1 (k + 1))) (vp_updL n1 k (n1 (k + 1))) (upd b1 k (b1 (k + 1))) (by omega) (by omega) (by rw [hd]; exact shf_s (by omega)) (by rw [hn]; exact shf_sL (by omega)) (by rw [hb]; exact shf_s (by omega)) H locs ls hP hD hS (lv_sub hl [0, 1, 2] rfl)
    exact loop_25 _ pl dF nF bF (Nat.lt_succ_self _) (by omega) ((shf_0 _ _).symm) ((shf_0 _ _).symm) ((shf_0 _ _).symm) _ _ _ hP hD hS (lv_sub hl [0, 1, 2] rfl)
  · exfalso; omega
set_option maxHeartbeats 4000000 in
set_option maxRecDepth 100000 in
theorem c_X0_object (l : Launch) (G : GG) (sz : Nat) (en ed em eo ec : Nat) (dF bF : Nat → Int32) (nF : Nat → Int64) (k : Nat) (hi : k < 80) : CtI l G yX0_object wsX0_object 0 0 0 0 sz [.ref en, .int (nI k)] [oC en 0 [.ref ed, .ref em, .ref eo, .int (nI ec)], aI G eo 80 bF] (fun r (_ : Unit) => r = (bF k)) (fun (_ : Unit) => [oC en 0 [.ref ed, .ref em, .ref eo, .int (nI ec)], aI G eo 80 bF]) := by
  refine kMet (Qc := fun A => va_Qi _ (Bw G A _) A) (cc := cX0_object) (nL := 2) (ret := some (.int)) (by decide) rfl (Nat.le_of_ble_eq_true rfl) ?_
  intro p e s m args below meth c A Q hF hr hlk hnme hK hP hD hA hS hQ hsz ls hl
  have hl : lv_has ls 2 [(0, .ref en), (1, .int (nI k))] := hl
  refine lv_aload_n hF.1 hF.2.1 dX0_object_0 rfl (lv_at hl 0 rfl) ?_
  refine kGet (C := RX0) (T := TX0) (N := 4) (index := 19) hF hK hP (inT inBX0) 0 rfl rfl 2 (by decide) rfl (List.mem_cons_of_mem _ mF_X0_19) rfl dX0_object_1 ?_
  refine lv_iload_n hF.1 hF.2.1 dX0_object_4 rfl (lv_at hl 1 rfl) ?_
  refine kIaldN hF hK hP 1 rfl (by omega) (by decide) dX0_object_5 ?_
  refine kRetI (v := (bF k)) hF hr hlk hK hP hD hS hQ rfl () [0, 1] (by decide) rfl (by omega) (by omega) dX0_object_6 ?_
  exact (by first | rfl | trivial | exact zI_1 (by first | assumption | omega) | exact zI_0 (by first | assumption | omega) | (simp_all; done))
set_option maxHeartbeats 4000000 in
set_option maxRecDepth 100000 in
theorem c_X0_find (l : Launch) (G : GG) (sz : Nat) (en ed em eo ec : Nat) (dF bF : Nat → Int32) (nF : Nat → Int64) (d : Int32) (nm : Int64) (hec : ec ≤ 80) : CtI l G yX0_find wsX0_find 0 0 0 0 sz [.ref en, .int d, .long nm] [oC en 0 [.ref ed, .ref em, .ref eo, .int (nI ec)], aI G ed 80 dF, aJ G em 80 nF] (fun r (_ : Unit) => r = (rI (fndE dF nF d nm ec) ec)) (fun (_ : Unit) => [oC en 0 [.ref ed, .ref em, .ref eo, .int (nI ec)], aI G ed 80 dF, aJ G em 80 nF]) := by
  refine kMet (Qc := fun A => va_Qi _ (Bw G A _) A) (cc := cX0_find) (nL := 5) (ret := some (.int)) (by decide) rfl (Nat.le_of_ble_eq_true rfl) ?_
  intro p e s m args below meth c A Q hF hr hlk hnme hK hP hD hA hS hQ hsz ls hl
  have hl : lv_has ls 5 [(0, .ref en), (1, .int d), (2, .long nm)] := hl
  refine lv_iconst (v := (nI 0)) hF.1 hF.2.1 dX0_find_0 (by decide) ?_
  refine lv_istore (lv' := [(4, .int (nI 0)), (0, .ref en), (1, .int d), (2, .long nm)]) hF.1 hF.2.1 dX0_find_1 hl (by decide) rfl (fun ls hl => ?_)
  have loop_3 : ∀ (n_3 : Nat) (k : Nat), ec - k < n_3 → 0 ≤ k ∧ k ≤ ec → scan (fun j => !(decide (dF j = d) && decide (nF j = nm))) (ec - k) k = scan (fun j => !(decide (dF j = d) && decide (nF j = nm))) (ec - 0) 0 → ∀ (H : Heap) (locs : List Loc) (ls : Array Slot), PG G [oC en 0 [.ref ed, .ref em, .ref eo, .int (nI ec)], aI G ed 80 dF, aJ G em 80 nF] H → va_D A [oC en 0 [.ref ed, .ref em, .ref eo, .int (nI ec)], aI G ed 80 dF, aJ G em 80 nF] → va_S A s.heap H locs → lv_has ls 5 [(4, .int (nI k)), (0, .ref en), (1, .int d), (2, .long nm)] → W p l e (Rm 0 0 0 0) s m args below meth c H locs 0 0 Q (F0 m 3 ls []) := by
    intro n_3
    induction n_3 with
    | zero => intro k hm; exact absurd hm (Nat.not_lt_zero _)
    | succ n_3 ih_3 =>
      intro k hm_3 hk hR H locs ls hP hD hS hl
      refine lv_iload hF.1 hF.2.1 dX0_find_3 (lv_at hl 0 rfl) ?_
      refine lv_aload_n hF.1 hF.2.1 dX0_find_5 rfl (lv_at hl 1 rfl) ?_
      refine kGet (C := RX0) (T := TX0) (N := 4) (index := 22) hF hK hP (inT inBX0) 0 rfl rfl 3 (by decide) rfl (List.mem_cons_of_mem _ mF_X0_22) rfl dX0_find_6 ?_
      refine kGeN (tgt := 44) hF dX0_find_9 (by decide) (by omega) (by omega) (fun c_1 => ?_) (fun c_1 => ?_)
      · refine lv_iconst (v := (-1)) hF.1 hF.2.1 dX0_find_44 (by decide) ?_
        refine kRetI (v := (-1)) hF hr hlk hK hP hD hS hQ rfl () [0, 1, 2] (by decide) rfl (by omega) (by omega) dX0_find_45 ?_
        rw [show fndE dF nF d nm ec = _ from hR.symm, scan_e (by omega), rI_f (by omega)]
      · refine lv_aload_n hF.1 hF.2.1 dX0_find_12 rfl (lv_at hl 1 rfl) ?_
        refine kGet (C := RX0) (T := TX0) (N := 4) (index := 9) hF hK hP (inT inBX0) 0 rfl rfl 0 (by decide) rfl (List.mem_cons_of_mem _ mF_X0_9) rfl dX0_find_13 ?_
        refine lv_iload hF.1 hF.2.1 dX0_find_16 (lv_at hl 0 rfl) ?_
        refine kIaldN hF hK hP 1 rfl (by omega) (by decide) dX0_find_18 ?_
        refine lv_iload_n hF.1 hF.2.1 dX0_find_19 rfl (lv_at hl 2 rfl) ?_
        refine lv_icmp_ne (tgt := 38) hF.1 hF.2.1 dX0_find_20 (by decide) (fun c_2 => ?_) (fun c_2 => ?_)
        · refine lv_iinc (v := (nI (k + 1))) (lv' := [(4, .int (nI (k + 1))), (0, .ref en), (1, .int d), (2, .long nm)]) hF.1 hF.2.1 dX0_find_38 hl (k := 0) rfl (nI_inc1 _) (by decide) rfl (fun ls hl => ?_)
          refine lv_goto (tgt := 3) hF.1 hF.2.1 dX0_find_41 (by decide) ?_
          exact ih_3 (k + 1) (by omega) (by omega) (by rw [← hR]; exact (scan_t (by omega) (by simp [*])).symm) H locs ls hP hD hS (lv_sub hl [0, 1, 2, 3] rfl)
        · refine lv_aload_n hF.1 hF.2.1 dX0_find_23 rfl (lv_at hl 1 rfl) ?_
          refine kGet (C := RX0) (T := TX0) (N := 4) (index := 15) hF hK hP (inT inBX0) 0 rfl rfl 1 (by decide) rfl (List.mem_cons_of_mem _ mF_X0_15) rfl dX0_find_24 ?_
          refine lv_iload hF.1 hF.2.1 dX0_find_27 (lv_at hl 0 rfl) ?_
          refine kLaldN hF hK hP 2 rfl (by omega) (by decide) dX0_find_29 ?_
          refine lv_lload_n hF.1 hF.2.1 dX0_find_30 rfl (lv_at hl 3 rfl) ?_
          refine W.lcmp hF.1 hF.2.1 dX0_find_31 ?_
          refine kIfNeC (tgt := 38) hF dX0_find_32 (by decide) (fun c_3 => ?_) (fun c_3 => ?_)
          · refine lv_iinc (v := (nI (k + 1))) (lv' := [(4, .int (nI (k + 1))), (0, .ref en), (1, .int d), (2, .long nm)]) hF.1 hF.2.1 dX0_find_38 hl (k := 0) rfl (nI_inc1 _) (by decide) rfl (fun ls hl => ?_)
            refine lv_goto (tgt := 3) hF.1 hF.2.1 dX0_find_41 (by decide) ?_
            exact ih_3 (k + 1) (by omega) (by omega) (by rw [← hR]; exact (scan_t (by omega) (by simp [*])).symm) H locs ls hP hD hS (lv_sub hl [0, 1, 2, 3] rfl)
          · refine lv_iload hF.1 hF.2.1 dX0_find_35 (lv_at hl 0 rfl) ?_
            refine kRetI (v := (nI k)) hF hr hlk hK hP hD hS hQ rfl () [0, 1, 2] (by decide) rfl (by omega) (by omega) dX0_find_37 ?_
            rw [show fndE dF nF d nm ec = _ from hR.symm, scan_f (by omega) (by simp [*]), rI_t (by omega)]
  exact loop_3 _ 0 (Nat.lt_succ_self _) (by omega) (rfl) _ _ _ hP hD hS (lv_sub hl [0, 1, 2, 3] rfl)
set_option maxHeartbeats 4000000 in
set_option maxRecDepth 100000 in
theorem c_X0_findNth (l : Launch) (G : GG) (sz : Nat) (en ed em eo ec : Nat) (dF bF : Nat → Int32) (nF : Nat → Int64) (d nq : Int32) (hec : ec ≤ 80) : CtI l G yX0_findNth wsX0_findNth 0 0 0 0 sz [.ref en, .int d, .int nq] [oC en 0 [.ref ed, .ref em, .ref eo, .int (nI ec)], aI G ed 80 dF] (fun r (_ : Unit) => r = (rI (nth (fun j => decide (dF j = d)) nq ec 0 0) ec)) (fun (_ : Unit) => [oC en 0 [.ref ed, .ref em, .ref eo, .int (nI ec)], aI G ed 80 dF]) := by
  refine kMet (Qc := fun A => va_Qi _ (Bw G A _) A) (cc := cX0_findNth) (nL := 5) (ret := some (.int)) (by decide) rfl (Nat.le_of_ble_eq_true rfl) ?_
  intro p e s m args below meth c A Q hF hr hlk hnme hK hP hD hA hS hQ hsz ls hl
  have hl : lv_has ls 5 [(0, .ref en), (1, .int d), (2, .int nq)] := hl
  refine lv_iconst (v := (nI 0)) hF.1 hF.2.1 dX0_findNth_0 (by decide) ?_
  refine lv_istore_n (lv' := [(3, .int (nI 0)), (0, .ref en), (1, .int d), (2, .int nq)]) hF.1 hF.2.1 dX0_findNth_1 rfl hl (by decide) rfl (fun ls hl => ?_)
  refine lv_iconst (v := (nI 0)) hF.1 hF.2.1 dX0_findNth_2 (by decide) ?_
  refine lv_istore (lv' := [(4, .int (nI 0)), (3, .int (nI 0)), (0, .ref en), (1, .int d), (2, .int nq)]) hF.1 hF.2.1 dX0_findNth_3 hl (by decide) rfl (fun ls hl => ?_)
  have loop_5 : ∀ (n_5 : Nat) (k bf : Nat), ec - k < n_5 → bf ≤ k ∧ k ≤ ec → nth (fun j => decide (dF j = d)) nq (ec - k) k bf = nth (fun j => decide (dF j = d)) nq ec 0 0 → ∀ (H : Heap) (locs : List Loc) (ls : Array Slot), PG G [oC en 0 [.ref ed, .ref em, .ref eo, .int (nI ec)], aI G ed 80 dF] H → va_D A [oC en 0 [.ref ed, .ref em, .ref eo, .int (nI ec)], aI G ed 80 dF] → va_S A s.heap H locs → lv_has ls 5 [(4, .int (nI k)), (3, .int (nI bf)), (0, .ref en), (1, .int d), (2, .int nq)] → W p l e (Rm 0 0 0 0) s m args below meth c H locs 0 0 Q (F0 m 5 ls []) := by
    intro n_5
    induction n_5 with
    | zero => intro k bf hm; exact absurd hm (Nat.not_lt_zero _)
    | succ n_5 ih_5 =>
      intro k bf hm_5 hk hR H locs ls hP hD hS hl
      refine lv_iload hF.1 hF.2.1 dX0_findNth_5 (lv_at hl 0 rfl) ?_
      refine lv_aload_n hF.1 hF.2.1 dX0_findNth_7 rfl (lv_at hl 2 rfl) ?_
      refine kGet (C := RX0) (T := TX0) (N := 4) (index := 22) hF hK hP (inT inBX0) 0 rfl rfl 3 (by decide) rfl (List.mem_cons_of_mem _ mF_X0_22) rfl dX0_findNth_8 ?_
      refine kGeN (tgt := 42) hF dX0_findNth_11 (by decide) (by omega) (by omega) (fun c_1 => ?_) (fun c_1 => ?_)
      · refine lv_iconst (v := (-1)) hF.1 hF.2.1 dX0_findNth_42 (by decide) ?_
        refine kRetI (v := (-1)) hF hr hlk hK hP hD hS hQ rfl () [0, 1] (by decide) rfl (by omega) (by omega) dX0_findNth_43 ?_
        rw [← hR, nth_e (by omega), rI_f (by omega)]
      · refine lv_aload_n hF.1 hF.2.1 dX0_findNth_14 rfl (lv_at hl 2 rfl) ?_
        refine kGet (C := RX0) (T := TX0) (N := 4) (index := 9) hF hK hP (inT inBX0) 0 rfl rfl 0 (by decide) rfl (List.mem_cons_of_mem _ mF_X0_9) rfl dX0_findNth_15 ?_
        refine lv_iload hF.1 hF.2.1 dX0_findNth_18 (lv_at hl 0 rfl) ?_
        refine kIaldN hF hK hP 1 rfl (by omega) (by decide) dX0_findNth_20 ?_
        refine lv_iload_n hF.1 hF.2.1 dX0_findNth_21 rfl (lv_at hl 3 rfl) ?_
        refine lv_icmp_ne (tgt := 36) hF.1 hF.2.1 dX0_findNth_22 (by decide) (fun c_2 => ?_) (fun c_2 => ?_)
        · refine lv_iinc (v := (nI (k + 1))) (lv' := [(4, .int (nI (k + 1))), (3, .int (nI bf)), (0, .ref en), (1, .int d), (2, .int nq)]) hF.1 hF.2.1 dX0_findNth_36 hl (k := 0) rfl (nI_inc1 _) (by decide) rfl (fun ls hl => ?_)
          refine lv_goto (tgt := 5) hF.1 hF.2.1 dX0_findNth_39 (by decide) ?_
          exact ih_5 (k + 1) bf (by omega) (by omega) (by rw [← hR]; first | exact (nth_n (by omega) (by simp [*]) (by assumption)).symm | exact (nth_f (by omega) (by simp [*])).symm) H locs ls hP hD hS (lv_sub hl [0, 1, 2, 3, 4] rfl)
        · refine lv_iload_n hF.1 hF.2.1 dX0_findNth_25 rfl (lv_at hl 1 rfl) ?_
          refine lv_iload_n hF.1 hF.2.1 dX0_findNth_26 rfl (lv_at hl 4 rfl) ?_
          refine lv_icmp_ne (tgt := 33) hF.1 hF.2.1 dX0_findNth_27 (by decide) (fun c_3 => ?_) (fun c_3 => ?_)
          · refine lv_iinc (v := (nI (bf + 1))) (lv' := [(3, .int (nI (bf + 1))), (4, .int (nI k)), (0, .ref en), (1, .int d), (2, .int nq)]) hF.1 hF.2.1 dX0_findNth_33 hl (k := 1) rfl (nI_inc1 _) (by decide) rfl (fun ls hl => ?_)
            refine lv_iinc (v := (nI (k + 1))) (lv' := [(4, .int (nI (k + 1))), (3, .int (nI (bf + 1))), (0, .ref en), (1, .int d), (2, .int nq)]) hF.1 hF.2.1 dX0_findNth_36 hl (k := 1) rfl (nI_inc1 _) (by decide) rfl (fun ls hl => ?_)
            refine lv_goto (tgt := 5) hF.1 hF.2.1 dX0_findNth_39 (by decide) ?_
            exact ih_5 (k + 1) (bf + 1) (by omega) (by omega) (by rw [← hR]; first | exact (nth_n (by omega) (by simp [*]) (by assumption)).symm | exact (nth_f (by omega) (by simp [*])).symm) H locs ls hP hD hS (lv_sub hl [0, 1, 2, 3, 4] rfl)
          · refine lv_iload hF.1 hF.2.1 dX0_findNth_30 (lv_at hl 0 rfl) ?_
            refine kRetI (v := (nI k)) hF hr hlk hK hP hD hS hQ rfl () [0, 1] (by decide) rfl (by omega) (by omega) dX0_findNth_32 ?_
            rw [← hR, nth_t (by omega) (by simp [*]) (by assumption), rI_t (by omega)]
  exact loop_5 _ 0 0 (Nat.lt_succ_self _) (by omega) (rfl) _ _ _ hP hD hS (lv_sub hl [0, 1, 2, 3, 4] rfl)
set_option maxHeartbeats 4000000 in
set_option maxRecDepth 100000 in
theorem c_X0_nameFor (l : Launch) (G : GG) (sz : Nat) (en ed em eo ec : Nat) (dF bF : Nat → Int32) (nF : Nat → Int64) (ob : Int32) (hec : ec ≤ 80) : CtL l G yX0_nameFor wsX0_nameFor 0 0 0 0 sz [.ref en, .int ob] [oC en 0 [.ref ed, .ref em, .ref eo, .int (nI ec)], aJ G em 80 nF, aI G eo 80 bF] (fun r (_ : Unit) => r = rL (scan (fun j => !decide (bF j = ob)) ec 0) ec nF) (fun (_ : Unit) => [oC en 0 [.ref ed, .ref em, .ref eo, .int (nI ec)], aJ G em 80 nF, aI G eo 80 bF]) := by
  refine kMet (Qc := fun A => va_Ql _ (Bw G A _) A) (cc := cX0_nameFor) (nL := 3) (ret := some (.long)) (by decide) rfl (Nat.le_of_ble_eq_true rfl) ?_
  intro p e s m args below meth c A Q hF hr hlk hnme hK hP hD hA hS hQ hsz ls hl
  have hl : lv_has ls 3 [(0, .ref en), (1, .int ob)] := hl
  refine lv_iconst (v := (nI 0)) hF.1 hF.2.1 dX0_nameFor_0 (by decide) ?_
  refine lv_istore_n (lv' := [(2, .int (nI 0)), (0, .ref en), (1, .int ob)]) hF.1 hF.2.1 dX0_nameFor_1 rfl hl (by decide) rfl (fun ls hl => ?_)
  have loop_2 : ∀ (n_2 : Nat) (k : Nat), ec - k < n_2 → 0 ≤ k ∧ k ≤ ec → scan (fun j => !decide (bF j = ob)) (ec - k) k = scan (fun j => !decide (bF j = ob)) (ec - 0) 0 → ∀ (H : Heap) (locs : List Loc) (ls : Array Slot), PG G [oC en 0 [.ref ed, .ref em, .ref eo, .int (nI ec)], aJ G em 80 nF, aI G eo 80 bF] H → va_D A [oC en 0 [.ref ed, .ref em, .ref eo, .int (nI ec)], aJ G em 80 nF, aI G eo 80 bF] → va_S A s.heap H locs → lv_has ls 3 [(2, .int (nI k)), (0, .ref en), (1, .int ob)] → W p l e (Rm 0 0 0 0) s m args below meth c H locs 0 0 Q (F0 m 2 ls []) := by
    intro n_2
    induction n_2 with
    | zero => intro k hm; exact absurd hm (Nat.not_lt_zero _)
    | succ n_2 ih_2 =>
      intro k hm_2 hk hR H locs ls hP hD hS hl
      refine lv_iload_n hF.1 hF.2.1 dX0_nameFor_2 rfl (lv_at hl 0 rfl) ?_
      refine lv_aload_n hF.1 hF.2.1 dX0_nameFor_3 rfl (lv_at hl 1 rfl) ?_
      refine kGet (C := RX0) (T := TX0) (N := 4) (index := 22) hF hK hP (inT inBX0) 0 rfl rfl 3 (by decide) rfl (List.mem_cons_of_mem _ mF_X0_22) rfl dX0_nameFor_4 ?_
      refine kGeN (tgt := 33) hF dX0_nameFor_7 (by decide) (by omega) (by omega) (fun c_1 => ?_) (fun c_1 => ?_)
      · refine lv_lconst (v := lN 0) hF.1 hF.2.1 dX0_nameFor_33 (by decide) ?_
        refine kRetL (v := lN 0) hF hr hlk hK hP hD hS hQ () [0, 1, 2] (by decide) rfl (by omega) (by omega) dX0_nameFor_34 ?_
        rw [show scan (fun j => !decide (bF j = ob)) ec 0 = _ from hR.symm, scan_e (by omega), rL_f (by omega)]
      · refine lv_aload_n hF.1 hF.2.1 dX0_nameFor_10 rfl (lv_at hl 1 rfl) ?_
        refine kGet (C := RX0) (T := TX0) (N := 4) (index := 19) hF hK hP (inT inBX0) 0 rfl rfl 2 (by decide) rfl (List.mem_cons_of_mem _ mF_X0_19) rfl dX0_nameFor_11 ?_
        refine lv_iload_n hF.1 hF.2.1 dX0_nameFor_14 rfl (lv_at hl 0 rfl) ?_
        refine kIaldN hF hK hP 2 rfl (by omega) (by decide) dX0_nameFor_15 ?_
        refine lv_iload_n hF.1 hF.2.1 dX0_nameFor_16 rfl (lv_at hl 2 rfl) ?_
        refine lv_icmp_ne (tgt := 27) hF.1 hF.2.1 dX0_nameFor_17 (by decide) (fun c_2 => ?_) (fun c_2 => ?_)
        · refine lv_iinc (v := (nI (k + 1))) (lv' := [(2, .int (nI (k + 1))), (0, .ref en), (1, .int ob)]) hF.1 hF.2.1 dX0_nameFor_27 hl (k := 0) rfl (nI_inc1 _) (by decide) rfl (fun ls hl => ?_)
          refine lv_goto (tgt := 2) hF.1 hF.2.1 dX0_nameFor_30 (by decide) ?_
          exact ih_2 (k + 1) (by omega) (by omega) (by rw [← hR]; exact (scan_t (by omega) (by simp [*])).symm) H locs ls hP hD hS (lv_sub hl [0, 1, 2] rfl)
        · refine lv_aload_n hF.1 hF.2.1 dX0_nameFor_20 rfl (lv_at hl 1 rfl) ?_
          refine kGet (C := RX0) (T := TX0) (N := 4) (index := 15) hF hK hP (inT inBX0) 0 rfl rfl 1 (by decide) rfl (List.mem_cons_of_mem _ mF_X0_15) rfl dX0_nameFor_21 ?_
          refine lv_iload_n hF.1 hF.2.1 dX0_nameFor_24 rfl (lv_at hl 0 rfl) ?_
          refine kLaldN hF hK hP 1 rfl (by omega) (by decide) dX0_nameFor_25 ?_
          refine kRetL (v := nF k) hF hr hlk hK hP hD hS hQ () [0, 1, 2] (by decide) rfl (by omega) (by omega) dX0_nameFor_26 ?_
          rw [show scan (fun j => !decide (bF j = ob)) ec 0 = _ from hR.symm, scan_f (by omega) (by simp [*]), rL_t (by omega)]
  exact loop_2 _ 0 (Nat.lt_succ_self _) (by omega) (rfl) _ _ _ hP hD hS (lv_sub hl [0, 1, 2] rfl)
set_option maxHeartbeats 4000000 in
set_option maxRecDepth 100000 in
theorem c_X0_countFor (l : Launch) (G : GG) (sz : Nat) (en ed em eo ec : Nat) (dF bF : Nat → Int32) (nF : Nat → Int64) (ob : Int32) (hec : ec ≤ 80) : CtI l G yX0_countFor wsX0_countFor 0 0 0 0 sz [.ref en, .int ob] [oC en 0 [.ref ed, .ref em, .ref eo, .int (nI ec)], aI G eo 80 bF] (fun r (_ : Unit) => r = (nI (cntB (fun j => decide (bF j = ob)) ec))) (fun (_ : Unit) => [oC en 0 [.ref ed, .ref em, .ref eo, .int (nI ec)], aI G eo 80 bF]) := by
  refine kMet (Qc := fun A => va_Qi _ (Bw G A _) A) (cc := cX0_countFor) (nL := 4) (ret := some (.int)) (by decide) rfl (Nat.le_of_ble_eq_true rfl) ?_
  intro p e s m args below meth c A Q hF hr hlk hnme hK hP hD hA hS hQ hsz ls hl
  have hl : lv_has ls 4 [(0, .ref en), (1, .int ob)] := hl
  refine lv_iconst (v := (nI 0)) hF.1 hF.2.1 dX0_countFor_0 (by decide) ?_
  refine lv_istore_n (lv' := [(2, .int (nI 0)), (0, .ref en), (1, .int ob)]) hF.1 hF.2.1 dX0_countFor_1 rfl hl (by decide) rfl (fun ls hl => ?_)
  refine lv_iconst (v := (nI 0)) hF.1 hF.2.1 dX0_countFor_2 (by decide) ?_
  refine lv_istore_n (lv' := [(3, .int (nI 0)), (2, .int (nI 0)), (0, .ref en), (1, .int ob)]) hF.1 hF.2.1 dX0_countFor_3 rfl hl (by decide) rfl (fun ls hl => ?_)
  have loop_4 : ∀ (n_4 : Nat) (k fd : Nat), ec - k < n_4 → k ≤ ec → fd = cntB (fun j => decide (bF j = ob)) k → ∀ (H : Heap) (locs : List Loc) (ls : Array Slot), PG G [oC en 0 [.ref ed, .ref em, .ref eo, .int (nI ec)], aI G eo 80 bF] H → va_D A [oC en 0 [.ref ed, .ref em, .ref eo, .int (nI ec)], aI G eo 80 bF] → va_S A s.heap H locs → lv_has ls 4 [(3, .int (nI k)), (2, .int (nI fd)), (0, .ref en), (1, .int ob)] → W p l e (Rm 0 0 0 0) s m args below meth c H locs 0 0 Q (F0 m 4 ls []) := by
    intro n_4
    induction n_4 with
    | zero => intro k fd hm; exact absurd hm (Nat.not_lt_zero _)
    | succ n_4 ih_4 =>
      intro k fd hm_4 hk hc H locs ls hP hD hS hl
      refine lv_iload_n hF.1 hF.2.1 dX0_countFor_4 rfl (lv_at hl 0 rfl) ?_
      refine lv_aload_n hF.1 hF.2.1 dX0_countFor_5 rfl (lv_at hl 2 rfl) ?_
      refine kGet (C := RX0) (T := TX0) (N := 4) (index := 22) hF hK hP (inT inBX0) 0 rfl rfl 3 (by decide) rfl (List.mem_cons_of_mem _ mF_X0_22) rfl dX0_countFor_6 ?_
      refine kGeN (tgt := 36) hF dX0_countFor_9 (by decide) (by omega) (by omega) (fun c_1 => ?_) (fun c_1 => ?_)
      · refine lv_iload_n hF.1 hF.2.1 dX0_countFor_36 rfl (lv_at hl 1 rfl) ?_
        refine kRetI (v := (nI fd)) hF hr hlk hK hP hD hS hQ rfl () [0, 1] (by decide) rfl (by omega) (by omega) dX0_countFor_37 ?_
        rw [hc, show k = ec by omega]
      · refine lv_iload_n hF.1 hF.2.1 dX0_countFor_12 rfl (lv_at hl 1 rfl) ?_
        refine lv_aload_n hF.1 hF.2.1 dX0_countFor_13 rfl (lv_at hl 2 rfl) ?_
        refine kGet (C := RX0) (T := TX0) (N := 4) (index := 19) hF hK hP (inT inBX0) 0 rfl rfl 2 (by decide) rfl (List.mem_cons_of_mem _ mF_X0_19) rfl dX0_countFor_14 ?_
        refine lv_iload_n hF.1 hF.2.1 dX0_countFor_17 rfl (lv_at hl 0 rfl) ?_
        refine kIaldN hF hK hP 1 rfl (by omega) (by decide) dX0_countFor_18 ?_
        refine lv_iload_n hF.1 hF.2.1 dX0_countFor_19 rfl (lv_at hl 3 rfl) ?_
        refine lv_icmp_ne (tgt := 27) hF.1 hF.2.1 dX0_countFor_20 (by decide) (fun c_2 => ?_) (fun c_2 => ?_)
        · refine lv_iconst (v := (nI 0)) hF.1 hF.2.1 dX0_countFor_27 (by decide) ?_
          refine lv_iadd hF.1 hF.2.1 dX0_countFor_28 ?_
          refine kTop (y := (nI (fd + 0))) (nI_add _ _) ?_
          refine lv_istore_n (lv' := [(2, .int (nI (fd + 0))), (3, .int (nI k)), (0, .ref en), (1, .int ob)]) hF.1 hF.2.1 dX0_countFor_29 rfl hl (by decide) rfl (fun ls hl => ?_)
          refine lv_iinc (v := (nI (k + 1))) (lv' := [(3, .int (nI (k + 1))), (2, .int (nI (fd + 0))), (0, .ref en), (1, .int ob)]) hF.1 hF.2.1 dX0_countFor_30 hl (k := 1) rfl (nI_inc1 _) (by decide) rfl (fun ls hl => ?_)
          refine lv_goto (tgt := 4) hF.1 hF.2.1 dX0_countFor_33 (by decide) ?_
          exact ih_4 (k + 1) (fd + 0) (by omega) (by omega) (by first | (rw [cntB_t (p := fun j => decide (bF j = ob)) (decide_eq_true (by assumption))]; omega) | (rw [cntB_f (p := fun j => decide (bF j = ob)) (decide_eq_false (by assumption))]; omega)) H locs ls hP hD hS (lv_sub hl [0, 1, 2, 3] rfl)
        · refine lv_iconst (v := (nI 1)) hF.1 hF.2.1 dX0_countFor_23 (by decide) ?_
          refine lv_goto (tgt := 28) hF.1 hF.2.1 dX0_countFor_24 (by decide) ?_
          refine lv_iadd hF.1 hF.2.1 dX0_countFor_28 ?_
          refine kTop (y := (nI (fd + 1))) (nI_add _ _) ?_
          refine lv_istore_n (lv' := [(2, .int (nI (fd + 1))), (3, .int (nI k)), (0, .ref en), (1, .int ob)]) hF.1 hF.2.1 dX0_countFor_29 rfl hl (by decide) rfl (fun ls hl => ?_)
          refine lv_iinc (v := (nI (k + 1))) (lv' := [(3, .int (nI (k + 1))), (2, .int (nI (fd + 1))), (0, .ref en), (1, .int ob)]) hF.1 hF.2.1 dX0_countFor_30 hl (k := 1) rfl (nI_inc1 _) (by decide) rfl (fun ls hl => ?_)
          refine lv_goto (tgt := 4) hF.1 hF.2.1 dX0_countFor_33 (by decide) ?_
          exact ih_4 (k + 1) (fd + 1) (by omega) (by omega) (by first | (rw [cntB_t (p := fun j => decide (bF j = ob)) (decide_eq_true (by assumption))]; omega) | (rw [cntB_f (p := fun j => decide (bF j = ob)) (decide_eq_false (by assumption))]; omega)) H locs ls hP hD hS (lv_sub hl [0, 1, 2, 3] rfl)
  exact loop_4 _ 0 0 (Nat.lt_succ_self _) (by first | assumption | omega) (rfl) _ _ _ hP hD hS (lv_sub hl [0, 1, 2, 3] rfl)
set_option maxHeartbeats 4000000 in
set_option maxRecDepth 100000 in
theorem c_X0_countIn (l : Launch) (G : GG) (sz : Nat) (en ed em eo ec : Nat) (dF bF : Nat → Int32) (nF : Nat → Int64) (d : Int32) (hec : ec ≤ 80) : CtI l G yX0_countIn wsX0_countIn 0 0 0 0 sz [.ref en, .int d] [oC en 0 [.ref ed, .ref em, .ref eo, .int (nI ec)], aI G ed 80 dF] (fun r (_ : Unit) => r = (nI (cntB (fun j => decide (dF j = d)) ec))) (fun (_ : Unit) => [oC en 0 [.ref ed, .ref em, .ref eo, .int (nI ec)], aI G ed 80 dF]) := by
  refine kMet (Qc := fun A => va_Qi _ (Bw G A _) A) (cc := cX0_countIn) (nL := 4) (ret := some (.int)) (by decide) rfl (Nat.le_of_ble_eq_true rfl) ?_
  intro p e s m args below meth c A Q hF hr hlk hnme hK hP hD hA hS hQ hsz ls hl
  have hl : lv_has ls 4 [(0, .ref en), (1, .int d)] := hl
  refine lv_iconst (v := (nI 0)) hF.1 hF.2.1 dX0_countIn_0 (by decide) ?_
  refine lv_istore_n (lv' := [(2, .int (nI 0)), (0, .ref en), (1, .int d)]) hF.1 hF.2.1 dX0_countIn_1 rfl hl (by decide) rfl (fun ls hl => ?_)
  refine lv_iconst (v := (nI 0)) hF.1 hF.2.1 dX0_countIn_2 (by decide) ?_
  refine lv_istore_n (lv' := [(3, .int (nI 0)), (2, .int (nI 0)), (0, .ref en), (1, .int d)]) hF.1 hF.2.1 dX0_countIn_3 rfl hl (by decide) rfl (fun ls hl => ?_)
  have loop_4 : ∀ (n_4 : Nat) (k fd : Nat), ec - k < n_4 → k ≤ ec → fd = cntB (fun j => decide (dF j = d)) k → ∀ (H : Heap) (locs : List Loc) (ls : Array Slot), PG G [oC en 0 [.ref ed, .ref em, .ref eo, .int (nI ec)], aI G ed 80 dF] H → va_D A [oC en 0 [.ref ed, .ref em, .ref eo, .int (nI ec)], aI G ed 80 dF] → va_S A s.heap H locs → lv_has ls 4 [(3, .int (nI k)), (2, .int (nI fd)), (0, .ref en), (1, .int d)] → W p l e (Rm 0 0 0 0) s m args below meth c H locs 0 0 Q (F0 m 4 ls []) := by
    intro n_4
    induction n_4 with
    | zero => intro k fd hm; exact absurd hm (Nat.not_lt_zero _)
    | succ n_4 ih_4 =>
      intro k fd hm_4 hk hc H locs ls hP hD hS hl
      refine lv_iload_n hF.1 hF.2.1 dX0_countIn_4 rfl (lv_at hl 0 rfl) ?_
      refine lv_aload_n hF.1 hF.2.1 dX0_countIn_5 rfl (lv_at hl 2 rfl) ?_
      refine kGet (C := RX0) (T := TX0) (N := 4) (index := 22) hF hK hP (inT inBX0) 0 rfl rfl 3 (by decide) rfl (List.mem_cons_of_mem _ mF_X0_22) rfl dX0_countIn_6 ?_
      refine kGeN (tgt := 36) hF dX0_countIn_9 (by decide) (by omega) (by omega) (fun c_1 => ?_) (fun c_1 => ?_)
      · refine lv_iload_n hF.1 hF.2.1 dX0_countIn_36 rfl (lv_at hl 1 rfl) ?_
        refine kRetI (v := (nI fd)) hF hr hlk hK hP hD hS hQ rfl () [0, 1] (by decide) rfl (by omega) (by omega) dX0_countIn_37 ?_
        rw [hc, show k = ec by omega]
      · refine lv_iload_n hF.1 hF.2.1 dX0_countIn_12 rfl (lv_at hl 1 rfl) ?_
        refine lv_aload_n hF.1 hF.2.1 dX0_countIn_13 rfl (lv_at hl 2 rfl) ?_
        refine kGet (C := RX0) (T := TX0) (N := 4) (index := 9) hF hK hP (inT inBX0) 0 rfl rfl 0 (by decide) rfl (List.mem_cons_of_mem _ mF_X0_9) rfl dX0_countIn_14 ?_
        refine lv_iload_n hF.1 hF.2.1 dX0_countIn_17 rfl (lv_at hl 0 rfl) ?_
        refine kIaldN hF hK hP 1 rfl (by omega) (by decide) dX0_countIn_18 ?_
        refine lv_iload_n hF.1 hF.2.1 dX0_countIn_19 rfl (lv_at hl 3 rfl) ?_
        refine lv_icmp_ne (tgt := 27) hF.1 hF.2.1 dX0_countIn_20 (by decide) (fun c_2 => ?_) (fun c_2 => ?_)
        · refine lv_iconst (v := (nI 0)) hF.1 hF.2.1 dX0_countIn_27 (by decide) ?_
          refine lv_iadd hF.1 hF.2.1 dX0_countIn_28 ?_
          refine kTop (y := (nI (fd + 0))) (nI_add _ _) ?_
          refine lv_istore_n (lv' := [(2, .int (nI (fd + 0))), (3, .int (nI k)), (0, .ref en), (1, .int d)]) hF.1 hF.2.1 dX0_countIn_29 rfl hl (by decide) rfl (fun ls hl => ?_)
          refine lv_iinc (v := (nI (k + 1))) (lv' := [(3, .int (nI (k + 1))), (2, .int (nI (fd + 0))), (0, .ref en), (1, .int d)]) hF.1 hF.2.1 dX0_countIn_30 hl (k := 1) rfl (nI_inc1 _) (by decide) rfl (fun ls hl => ?_)
          refine lv_goto (tgt := 4) hF.1 hF.2.1 dX0_countIn_33 (by decide) ?_
          exact ih_4 (k + 1) (fd + 0) (by omega) (by omega) (by first | (rw [cntB_t (p := fun j => decide (dF j = d)) (decide_eq_true (by assumption))]; omega) | (rw [cntB_f (p := fun j => decide (dF j = d)) (decide_eq_false (by assumption))]; omega)) H locs ls hP hD hS (lv_sub hl [0, 1, 2, 3] rfl)
        · refine lv_iconst (v := (nI 1)) hF.1 hF.2.1 dX0_countIn_23 (by decide) ?_
          refine lv_goto (tgt := 28) hF.1 hF.2.1 dX0_countIn_24 (by decide) ?_
          refine lv_iadd hF.1 hF.2.1 dX0_countIn_28 ?_
          refine kTop (y := (nI (fd + 1))) (nI_add _ _) ?_
          refine lv_istore_n (lv' := [(2, .int (nI (fd + 1))), (3, .int (nI k)), (0, .ref en), (1, .int d)]) hF.1 hF.2.1 dX0_countIn_29 rfl hl (by decide) rfl (fun ls hl => ?_)
          refine lv_iinc (v := (nI (k + 1))) (lv' := [(3, .int (nI (k + 1))), (2, .int (nI (fd + 1))), (0, .ref en), (1, .int d)]) hF.1 hF.2.1 dX0_countIn_30 hl (k := 1) rfl (nI_inc1 _) (by decide) rfl (fun ls hl => ?_)
          refine lv_goto (tgt := 4) hF.1 hF.2.1 dX0_countIn_33 (by decide) ?_
          exact ih_4 (k + 1) (fd + 1) (by omega) (by omega) (by first | (rw [cntB_t (p := fun j => decide (dF j = d)) (decide_eq_true (by assumption))]; omega) | (rw [cntB_f (p := fun j => decide (dF j = d)) (decide_eq_false (by assumption))]; omega)) H locs ls hP hD hS (lv_sub hl [0, 1, 2, 3] rfl)
  exact loop_4 _ 0 0 (Nat.lt_succ_self _) (by first | assumption | omega) (rfl) _ _ _ hP hD hS (lv_sub hl [0, 1, 2, 3] rfl)
end
section
set_option maxHeartbeats 4000000 in
set_option maxRecDepth 100000 in
theorem c_X5_isFull (l : Launch) (G : GG) (sz : Nat) (vo t vr vc vn : Nat) (rF cF : Nat → Int32) (hvn : vn ≤ 4) : CtI l G yX5_isFull wsX5_isFull 0 0 0 0 sz [.ref vo] [oC vo 5 [.ref t, .ref vr, .ref vc, .int (nI vn)]] (fun r (_ : Unit) => r = (zI (4 ≤ vn))) (fun (_ : Unit) => [oC vo 5 [.ref t, .ref vr, .ref vc, .int (nI vn)]]) := by
  refine kMet (Qc := fun A => va_Qi _ (Bw G A _) A) (cc := cX5_isFull) (nL := 1) (ret := some (.boolean)) (by decide) rfl (Nat.le_of_ble_eq_true rfl) ?_
  intro p e s m args below meth c A Q hF hr hlk hnme hK hP hD hA hS hQ hsz ls hl
  have hl : lv_has ls 1 [(0, .ref vo)] := hl
  refine lv_aload_n hF.1 hF.2.1 dX5_isFull_0 rfl (lv_at hl 0 rfl) ?_
  refine kGet (C := RX5) (T := TX5) (N := 4) (index := 28) hF hK hP (inT inBX5) 0 rfl rfl 3 (by decide) rfl (List.mem_cons_of_mem _ mF_X5_28) rfl dX5_isFull_1 ?_
  refine lv_iconst (v := (nI 4)) hF.1 hF.2.1 dX5_isFull_4 (by decide) ?_
  refine kLtN (tgt := 12) hF dX5_isFull_5 (by decide) (by omega) (by omega) (fun c_1 => ?_) (fun c_1 => ?_)
  · refine lv_iconst (v := (nI 0)) hF.1 hF.2.1 dX5_isFull_12 (by decide) ?_
    refine kRetI (v := (nI 0)) hF hr hlk hK hP hD hS hQ rfl () [0] (by decide) rfl (by omega) (by omega) dX5_isFull_13 ?_
    exact (by first | rfl | trivial | exact zI_1 (by first | assumption | omega) | exact zI_0 (by first | assumption | omega) | (simp_all; done))
  · refine lv_iconst (v := (nI 1)) hF.1 hF.2.1 dX5_isFull_8 (by decide) ?_
    refine lv_goto (tgt := 13) hF.1 hF.2.1 dX5_isFull_9 (by decide) ?_
    refine kRetI (v := (nI 1)) hF hr hlk hK hP hD hS hQ rfl () [0] (by decide) rfl (by omega) (by omega) dX5_isFull_13 ?_
    exact (by first | rfl | trivial | exact zI_1 (by first | assumption | omega) | exact zI_0 (by first | assumption | omega) | (simp_all; done))
set_option maxHeartbeats 4000000 in
set_option maxRecDepth 100000 in
theorem c_X5_add (l : Launch) (G : GG) (sz : Nat) (vo t vr vc vn : Nat) (rF cF : Nat → Int32) (o : Int32) (hvn : vn < 4) : CtI l G yX5_add wsX5_add 0 0 0 0 sz [.ref vo, .int o] [oC vo 5 [.ref t, .ref vr, .ref vc, .int (nI vn)], aI G vr 4 rF] (fun r (_ : Unit) => r = (nI vn)) (fun (_ : Unit) => [oC vo 5 [.ref t, .ref vr, .ref vc, .int (nI (vn + 1))], aI G vr 4 (upd rF vn o)]) := by
  refine kMet (Qc := fun A => va_Qi _ (Bw G A _) A) (cc := cX5_add) (nL := 2) (ret := some (.int)) (by decide) rfl (Nat.le_of_ble_eq_true rfl) ?_
  intro p e s m args below meth c A Q hF hr hlk hnme hK hP hD hA hS hQ hsz ls hl
  have hl : lv_has ls 2 [(0, .ref vo), (1, .int o)] := hl
  refine lv_aload_n hF.1 hF.2.1 dX5_add_0 rfl (lv_at hl 0 rfl) ?_
  refine kGet (C := RX5) (T := TX5) (N := 4) (index := 28) hF hK hP (inT inBX5) 0 rfl rfl 3 (by decide) rfl (List.mem_cons_of_mem _ mF_X5_28) rfl dX5_add_1 ?_
  refine lv_iconst (v := (nI 4)) hF.1 hF.2.1 dX5_add_4 (by decide) ?_
  refine kLtN (tgt := 10) hF dX5_add_5 (by decide) (by omega) (by omega) (fun c_1 => ?_) (fun c_1 => ?_)
  · refine lv_aload_n hF.1 hF.2.1 dX5_add_10 rfl (lv_at hl 0 rfl) ?_
    refine kGet (C := RX5) (T := TX5) (N := 4) (index := 9) hF hK hP (inT inBX5) 0 rfl rfl 1 (by decide) rfl (List.mem_cons_of_mem _ mF_X5_9) rfl dX5_add_11 ?_
    refine lv_aload_n hF.1 hF.2.1 dX5_add_14 rfl (lv_at hl 0 rfl) ?_
    refine kGet (C := RX5) (T := TX5) (N := 4) (index := 28) hF hK hP (inT inBX5) 0 rfl rfl 3 (by decide) rfl (List.mem_cons_of_mem _ mF_X5_28) rfl dX5_add_15 ?_
    refine lv_iload_n hF.1 hF.2.1 dX5_add_18 rfl (lv_at hl 1 rfl) ?_
    refine kIastN hF hK hP hD hS 1 rfl (by omega) (by decide) dX5_add_19 (fun H locs hP hD hS => ?_)
    have hP : PG G [oC vo 5 [.ref t, .ref vr, .ref vc, .int (nI vn)], aI G vr 4 (upd rF vn o)] H := hP
    have hD : va_D A [oC vo 5 [.ref t, .ref vr, .ref vc, .int (nI vn)], aI G vr 4 (upd rF vn o)] := hD
    refine lv_aload_n hF.1 hF.2.1 dX5_add_20 rfl (lv_at hl 0 rfl) ?_
    refine lv_dup hF.1 hF.2.1 dX5_add_21 rfl ?_
    refine kGet (C := RX5) (T := TX5) (N := 4) (index := 28) hF hK hP (inT inBX5) 0 rfl rfl 3 (by decide) rfl (List.mem_cons_of_mem _ mF_X5_28) rfl dX5_add_22 ?_
    refine lv_iconst (v := (nI 1)) hF.1 hF.2.1 dX5_add_25 (by decide) ?_
    refine lv_iadd hF.1 hF.2.1 dX5_add_26 ?_
    refine kTop (y := (nI (vn + 1))) (nI_add _ _) ?_
    refine kPut (C := RX5) (T := TX5) (N := 4) (index := 28) (v := .int (nI (vn + 1))) hF hK hP hD hS (inT inBX5) tyX5_ok nmX5 0 rfl rfl 3 (by decide) rfl (List.mem_cons_of_mem _ mF_X5_28) rfl rfl rfl (Nat.le_of_ble_eq_true rfl) dX5_add_27 (fun H locs hP hD hS => ?_)
    have hP : PG G [oC vo 5 [.ref t, .ref vr, .ref vc, .int (nI (vn + 1))], aI G vr 4 (upd rF vn o)] H := hP
    have hD : va_D A [oC vo 5 [.ref t, .ref vr, .ref vc, .int (nI (vn + 1))], aI G vr 4 (upd rF vn o)] := hD
    refine lv_aload_n hF.1 hF.2.1 dX5_add_30 rfl (lv_at hl 0 rfl) ?_
    refine kGet (C := RX5) (T := TX5) (N := 4) (index := 28) hF hK hP (inT inBX5) 0 rfl rfl 3 (by decide) rfl (List.mem_cons_of_mem _ mF_X5_28) rfl dX5_add_31 ?_
    refine lv_iconst (v := (nI 1)) hF.1 hF.2.1 dX5_add_34 (by decide) ?_
    refine lv_isub hF.1 hF.2.1 dX5_add_35 ?_
    refine kTop (y := (nI ((vn + 1) - 1))) (pk_sub (by omega)) ?_
    refine kRetI (v := (nI ((vn + 1) - 1))) hF hr hlk hK hP hD hS hQ rfl () [0, 1] (by decide) rfl (by omega) (by omega) dX5_add_36 ?_
    rfl
  · exfalso; omega
set_option maxHeartbeats 4000000 in
set_option maxRecDepth 100000 in
theorem c_X5_mayBeMounted (l : Launch) (G : GG) (sz : Nat) (vo t vr vc vn : Nat) (rF cF : Nat → Int32) (v : Int32) : CtI l G yX5_mayBeMounted wsX5_mayBeMounted 0 0 0 0 sz [.ref vo, .int v] [oC vo 5 [.ref t, .ref vr, .ref vc, .int (nI vn)]] (fun r (_ : Unit) => r = (zI (0 < v ∧ v < nI vn))) (fun (_ : Unit) => [oC vo 5 [.ref t, .ref vr, .ref vc, .int (nI vn)]]) := by
  refine kMet (Qc := fun A => va_Qi _ (Bw G A _) A) (cc := cX5_mayBeMounted) (nL := 2) (ret := some (.boolean)) (by decide) rfl (Nat.le_of_ble_eq_true rfl) ?_
  intro p e s m args below meth c A Q hF hr hlk hnme hK hP hD hA hS hQ hsz ls hl
  have hl : lv_has ls 2 [(0, .ref vo), (1, .int v)] := hl
  refine lv_iload_n hF.1 hF.2.1 dX5_mayBeMounted_0 rfl (lv_at hl 1 rfl) ?_
  refine lv_if_le (tgt := 16) hF.1 hF.2.1 dX5_mayBeMounted_1 (by decide) (fun c_1 => ?_) (fun c_1 => ?_)
  · refine lv_iconst (v := (nI 0)) hF.1 hF.2.1 dX5_mayBeMounted_16 (by decide) ?_
    refine kRetI (v := (nI 0)) hF hr hlk hK hP hD hS hQ rfl () [0] (by decide) rfl (by omega) (by omega) dX5_mayBeMounted_17 ?_
    exact zI_0 (fun h => by first | exact absurd h.1 (Int32.not_lt.mpr (by assumption)) | exact absurd h.2 (Int32.not_lt.mpr (by assumption)))
  · refine lv_iload_n hF.1 hF.2.1 dX5_mayBeMounted_4 rfl (lv_at hl 1 rfl) ?_
    refine lv_aload_n hF.1 hF.2.1 dX5_mayBeMounted_5 rfl (lv_at hl 0 rfl) ?_
    refine kGet (C := RX5) (T := TX5) (N := 4) (index := 28) hF hK hP (inT inBX5) 0 rfl rfl 3 (by decide) rfl (List.mem_cons_of_mem _ mF_X5_28) rfl dX5_mayBeMounted_6 ?_
    refine lv_icmp_ge (tgt := 16) hF.1 hF.2.1 dX5_mayBeMounted_9 (by decide) (fun c_2 => ?_) (fun c_2 => ?_)
    · refine lv_iconst (v := (nI 0)) hF.1 hF.2.1 dX5_mayBeMounted_16 (by decide) ?_
      refine kRetI (v := (nI 0)) hF hr hlk hK hP hD hS hQ rfl () [0] (by decide) rfl (by omega) (by omega) dX5_mayBeMounted_17 ?_
      exact zI_0 (fun h => by first | exact absurd h.1 (Int32.not_lt.mpr (by assumption)) | exact absurd h.2 (Int32.not_lt.mpr (by assumption)))
    · refine lv_iconst (v := (nI 1)) hF.1 hF.2.1 dX5_mayBeMounted_12 (by decide) ?_
      refine lv_goto (tgt := 17) hF.1 hF.2.1 dX5_mayBeMounted_13 (by decide) ?_
      refine kRetI (v := (nI 1)) hF hr hlk hK hP hD hS hQ rfl () [0] (by decide) rfl (by omega) (by omega) dX5_mayBeMounted_17 ?_
      exact zI_1 ⟨Int32.not_le.mp (by assumption), Int32.not_le.mp (by assumption)⟩
set_option maxHeartbeats 4000000 in
set_option maxRecDepth 100000 in
theorem c_X5_isMounted (l : Launch) (G : GG) (sz : Nat) (vo t vr vc vn : Nat) (rF cF : Nat → Int32) (v : Int32) (hi : vp_in v 4) : CtI l G yX5_isMounted wsX5_isMounted 0 0 0 0 sz [.ref vo, .int v] [oC vo 5 [.ref t, .ref vr, .ref vc, .int (nI vn)], aI G vc 4 cF] (fun r (_ : Unit) => r = (zI (¬ cF (ix v) = -1))) (fun (_ : Unit) => [oC vo 5 [.ref t, .ref vr, .ref vc, .int (nI vn)], aI G vc 4 cF]) := by
  refine kMet (Qc := fun A => va_Qi _ (Bw G A _) A) (cc := cX5_isMounted) (nL := 2) (ret := some (.boolean)) (by decide) rfl (Nat.le_of_ble_eq_true rfl) ?_
  intro p e s m args below meth c A Q hF hr hlk hnme hK hP hD hA hS hQ hsz ls hl
  have hl : lv_has ls 2 [(0, .ref vo), (1, .int v)] := hl
  refine lv_aload_n hF.1 hF.2.1 dX5_isMounted_0 rfl (lv_at hl 0 rfl) ?_
  refine kGet (C := RX5) (T := TX5) (N := 4) (index := 15) hF hK hP (inT inBX5) 0 rfl rfl 2 (by decide) rfl (List.mem_cons_of_mem _ mF_X5_15) rfl dX5_isMounted_1 ?_
  refine lv_iload_n hF.1 hF.2.1 dX5_isMounted_4 rfl (lv_at hl 1 rfl) ?_
  refine kIald hF hK hP 1 rfl (by assumption) dX5_isMounted_5 ?_
  refine lv_iconst (v := (-1)) hF.1 hF.2.1 dX5_isMounted_6 (by decide) ?_
  refine lv_icmp_eq (tgt := 14) hF.1 hF.2.1 dX5_isMounted_7 (by decide) (fun c_1 => ?_) (fun c_1 => ?_)
  · refine lv_iconst (v := (nI 0)) hF.1 hF.2.1 dX5_isMounted_14 (by decide) ?_
    refine kRetI (v := (nI 0)) hF hr hlk hK hP hD hS hQ rfl () [0, 1] (by decide) rfl (by omega) (by omega) dX5_isMounted_15 ?_
    exact zI_0 (by simp [*])
  · refine lv_iconst (v := (nI 1)) hF.1 hF.2.1 dX5_isMounted_10 (by decide) ?_
    refine lv_goto (tgt := 15) hF.1 hF.2.1 dX5_isMounted_11 (by decide) ?_
    refine kRetI (v := (nI 1)) hF hr hlk hK hP hD hS hQ rfl () [0, 1] (by decide) rfl (by omega) (by omega) dX5_isMounted_15 ?_
    exact zI_1 (by assumption)
set_option maxHeartbeats 4000000 in
set_option maxRecDepth 100000 in
theorem c_X5_cover (l : Launch) (G : GG) (sz : Nat) (vo t vr vc vn : Nat) (rF cF : Nat → Int32) (v d : Int32) (hi : vp_in v 4) : CtV l G yX5_cover wsX5_cover 0 0 0 0 sz [.ref vo, .int v, .int d] [oC vo 5 [.ref t, .ref vr, .ref vc, .int (nI vn)], aI G vc 4 cF] (fun (_ : Unit) => True) (fun (_ : Unit) => [oC vo 5 [.ref t, .ref vr, .ref vc, .int (nI vn)], aI G vc 4 (upd cF (ix v) d)]) := by
  refine kMet (Qc := fun A => va_Qv _ (Bw G A _) A) (cc := cX5_cover) (nL := 3) (ret := none) (by decide) rfl (Nat.le_of_ble_eq_true rfl) ?_
  intro p e s m args below meth c A Q hF hr hlk hnme hK hP hD hA hS hQ hsz ls hl
  have hl : lv_has ls 3 [(0, .ref vo), (1, .int v), (2, .int d)] := hl
  refine lv_aload_n hF.1 hF.2.1 dX5_cover_0 rfl (lv_at hl 0 rfl) ?_
  refine kGet (C := RX5) (T := TX5) (N := 4) (index := 15) hF hK hP (inT inBX5) 0 rfl rfl 2 (by decide) rfl (List.mem_cons_of_mem _ mF_X5_15) rfl dX5_cover_1 ?_
  refine lv_iload_n hF.1 hF.2.1 dX5_cover_4 rfl (lv_at hl 1 rfl) ?_
  refine lv_iload_n hF.1 hF.2.1 dX5_cover_5 rfl (lv_at hl 2 rfl) ?_
  refine kIast hF hK hP hD hS 1 rfl (by assumption) dX5_cover_6 (fun H locs hP hD hS => ?_)
  have hP : PG G [oC vo 5 [.ref t, .ref vr, .ref vc, .int (nI vn)], aI G vc 4 (upd cF (ix v) d)] H := hP
  have hD : va_D A [oC vo 5 [.ref t, .ref vr, .ref vc, .int (nI vn)], aI G vc 4 (upd cF (ix v) d)] := hD
  refine kRetV hF hr hlk hK hP hD hS hQ () [0, 1] (by decide) rfl (by omega) (by omega) dX5_cover_7 ?_
  exact (by first | rfl | trivial | exact zI_1 (by first | assumption | omega) | exact zI_0 (by first | assumption | omega) | (simp_all; done))
set_option maxHeartbeats 4000000 in
set_option maxRecDepth 100000 in
theorem c_X5_uncover (l : Launch) (G : GG) (sz : Nat) (vo t vr vc vn : Nat) (rF cF : Nat → Int32) (v : Int32) (hi : vp_in v 4) : CtV l G yX5_uncover wsX5_uncover 0 0 0 0 sz [.ref vo, .int v] [oC vo 5 [.ref t, .ref vr, .ref vc, .int (nI vn)], aI G vc 4 cF] (fun (_ : Unit) => True) (fun (_ : Unit) => [oC vo 5 [.ref t, .ref vr, .ref vc, .int (nI vn)], aI G vc 4 (upd cF (ix v) (-1))]) := by
  refine kMet (Qc := fun A => va_Qv _ (Bw G A _) A) (cc := cX5_uncover) (nL := 2) (ret := none) (by decide) rfl (Nat.le_of_ble_eq_true rfl) ?_
  intro p e s m args below meth c A Q hF hr hlk hnme hK hP hD hA hS hQ hsz ls hl
  have hl : lv_has ls 2 [(0, .ref vo), (1, .int v)] := hl
  refine lv_aload_n hF.1 hF.2.1 dX5_uncover_0 rfl (lv_at hl 0 rfl) ?_
  refine kGet (C := RX5) (T := TX5) (N := 4) (index := 15) hF hK hP (inT inBX5) 0 rfl rfl 2 (by decide) rfl (List.mem_cons_of_mem _ mF_X5_15) rfl dX5_uncover_1 ?_
  refine lv_iload_n hF.1 hF.2.1 dX5_uncover_4 rfl (lv_at hl 1 rfl) ?_
  refine lv_iconst (v := (-1)) hF.1 hF.2.1 dX5_uncover_5 (by decide) ?_
  refine kIast hF hK hP hD hS 1 rfl (by assumption) dX5_uncover_6 (fun H locs hP hD hS => ?_)
  have hP : PG G [oC vo 5 [.ref t, .ref vr, .ref vc, .int (nI vn)], aI G vc 4 (upd cF (ix v) (-1))] H := hP
  have hD : va_D A [oC vo 5 [.ref t, .ref vr, .ref vc, .int (nI vn)], aI G vc 4 (upd cF (ix v) (-1))] := hD
  refine kRetV hF hr hlk hK hP hD hS hQ () [0, 1] (by decide) rfl (by omega) (by omega) dX5_uncover_7 ?_
  exact (by first | rfl | trivial | exact zI_1 (by first | assumption | omega) | exact zI_0 (by first | assumption | omega) | (simp_all; done))
set_option maxHeartbeats 4000000 in
set_option maxRecDepth 100000 in
theorem c_X5_covering (l : Launch) (G : GG) (sz : Nat) (vo t vr vc vn : Nat) (rF cF : Nat → Int32) (o : Int32) (hvn : 1 ≤ vn ∧ vn ≤ 4) : CtI l G yX5_covering wsX5_covering 0 0 0 0 sz [.ref vo, .int o] [oC vo 5 [.ref t, .ref vr, .ref vc, .int (nI vn)], aI G vc 4 cF] (fun r (_ : Unit) => r = (nI (covN cF o vn))) (fun (_ : Unit) => [oC vo 5 [.ref t, .ref vr, .ref vc, .int (nI vn)], aI G vc 4 cF]) := by
  refine kMet (Qc := fun A => va_Qi _ (Bw G A _) A) (cc := cX5_covering) (nL := 3) (ret := some (.int)) (by decide) rfl (Nat.le_of_ble_eq_true rfl) ?_
  intro p e s m args below meth c A Q hF hr hlk hnme hK hP hD hA hS hQ hsz ls hl
  have hl : lv_has ls 3 [(0, .ref vo), (1, .int o)] := hl
  refine lv_iconst (v := (nI 1)) hF.1 hF.2.1 dX5_covering_0 (by decide) ?_
  refine lv_istore_n (lv' := [(2, .int (nI 1)), (0, .ref vo), (1, .int o)]) hF.1 hF.2.1 dX5_covering_1 rfl hl (by decide) rfl (fun ls hl => ?_)
  have loop_2 : ∀ (n_2 : Nat) (k : Nat), vn - k < n_2 → 1 ≤ k ∧ k ≤ vn → scan (fun v => !decide (cF v = o)) (vn - k) k = scan (fun v => !decide (cF v = o)) (vn - 1) 1 → ∀ (H : Heap) (locs : List Loc) (ls : Array Slot), PG G [oC vo 5 [.ref t, .ref vr, .ref vc, .int (nI vn)], aI G vc 4 cF] H → va_D A [oC vo 5 [.ref t, .ref vr, .ref vc, .int (nI vn)], aI G vc 4 cF] → va_S A s.heap H locs → lv_has ls 3 [(2, .int (nI k)), (0, .ref vo), (1, .int o)] → W p l e (Rm 0 0 0 0) s m args below meth c H locs 0 0 Q (F0 m 2 ls []) := by
    intro n_2
    induction n_2 with
    | zero => intro k hm; exact absurd hm (Nat.not_lt_zero _)
    | succ n_2 ih_2 =>
      intro k hm_2 hk hR H locs ls hP hD hS hl
      refine lv_iload_n hF.1 hF.2.1 dX5_covering_2 rfl (lv_at hl 0 rfl) ?_
      refine lv_aload_n hF.1 hF.2.1 dX5_covering_3 rfl (lv_at hl 1 rfl) ?_
      refine kGet (C := RX5) (T := TX5) (N := 4) (index := 28) hF hK hP (inT inBX5) 0 rfl rfl 3 (by decide) rfl (List.mem_cons_of_mem _ mF_X5_28) rfl dX5_covering_4 ?_
      refine kGeN (tgt := 28) hF dX5_covering_7 (by decide) (by omega) (by omega) (fun c_1 => ?_) (fun c_1 => ?_)
      · refine lv_iconst (v := (nI 0)) hF.1 hF.2.1 dX5_covering_28 (by decide) ?_
        refine kRetI (v := (nI 0)) hF hr hlk hK hP hD hS hQ rfl () [0, 1] (by decide) rfl (by omega) (by omega) dX5_covering_29 ?_
        rw [covN_f (by rw [← hR, scan_e (by omega)]; omega)]
      · refine lv_aload_n hF.1 hF.2.1 dX5_covering_10 rfl (lv_at hl 1 rfl) ?_
        refine kGet (C := RX5) (T := TX5) (N := 4) (index := 15) hF hK hP (inT inBX5) 0 rfl rfl 2 (by decide) rfl (List.mem_cons_of_mem _ mF_X5_15) rfl dX5_covering_11 ?_
        refine lv_iload_n hF.1 hF.2.1 dX5_covering_14 rfl (lv_at hl 0 rfl) ?_
        refine kIaldN hF hK hP 1 rfl (by omega) (by decide) dX5_covering_15 ?_
        refine lv_iload_n hF.1 hF.2.1 dX5_covering_16 rfl (lv_at hl 2 rfl) ?_
        refine lv_icmp_ne (tgt := 22) hF.1 hF.2.1 dX5_covering_17 (by decide) (fun c_2 => ?_) (fun c_2 => ?_)
        · refine lv_iinc (v := (nI (k + 1))) (lv' := [(2, .int (nI (k + 1))), (0, .ref vo), (1, .int o)]) hF.1 hF.2.1 dX5_covering_22 hl (k := 0) rfl (nI_inc1 _) (by decide) rfl (fun ls hl => ?_)
          refine lv_goto (tgt := 2) hF.1 hF.2.1 dX5_covering_25 (by decide) ?_
          exact ih_2 (k + 1) (by omega) (by omega) (by rw [← hR]; exact (scan_t (by omega) (by simp [*])).symm) H locs ls hP hD hS (lv_sub hl [0, 1, 2] rfl)
        · refine lv_iload_n hF.1 hF.2.1 dX5_covering_20 rfl (lv_at hl 0 rfl) ?_
          refine kRetI (v := (nI k)) hF hr hlk hK hP hD hS hQ rfl () [0, 1] (by decide) rfl (by omega) (by omega) dX5_covering_21 ?_
          rw [covN_t (k := k) (by rw [← hR, scan_f (by omega) (by simp [*])]) (by omega)]
  exact loop_2 _ 1 (Nat.lt_succ_self _) (by omega) (rfl) _ _ _ hP hD hS (lv_sub hl [0, 1, 2] rfl)
set_option maxHeartbeats 4000000 in
set_option maxRecDepth 100000 in
theorem c_X5_mountedWithRoot (l : Launch) (G : GG) (sz : Nat) (vo t vr vc vn : Nat) (rF cF : Nat → Int32) (o : Int32) (hvn : 1 ≤ vn ∧ vn ≤ 4) : CtI l G yX5_mountedWithRoot wsX5_mountedWithRoot 0 0 0 0 sz [.ref vo, .int o] [oC vo 5 [.ref t, .ref vr, .ref vc, .int (nI vn)], aI G vr 4 rF, aI G vc 4 cF] (fun r (_ : Unit) => r = (rI (mwrN rF cF o vn) vn)) (fun (_ : Unit) => [oC vo 5 [.ref t, .ref vr, .ref vc, .int (nI vn)], aI G vr 4 rF, aI G vc 4 cF]) := by
  refine kMet (Qc := fun A => va_Qi _ (Bw G A _) A) (cc := cX5_mountedWithRoot) (nL := 3) (ret := some (.int)) (by decide) rfl (Nat.le_of_ble_eq_true rfl) ?_
  intro p e s m args below meth c A Q hF hr hlk hnme hK hP hD hA hS hQ hsz ls hl
  have hl : lv_has ls 3 [(0, .ref vo), (1, .int o)] := hl
  refine lv_iconst (v := (nI 1)) hF.1 hF.2.1 dX5_mountedWithRoot_0 (by decide) ?_
  refine lv_istore_n (lv' := [(2, .int (nI 1)), (0, .ref vo), (1, .int o)]) hF.1 hF.2.1 dX5_mountedWithRoot_1 rfl hl (by decide) rfl (fun ls hl => ?_)
  have loop_2 : ∀ (n_2 : Nat) (k : Nat), vn - k < n_2 → 1 ≤ k ∧ k ≤ vn → scan (fun v => !(decide (rF v = o) && !decide (cF v = -1))) (vn - k) k = scan (fun v => !(decide (rF v = o) && !decide (cF v = -1))) (vn - 1) 1 → ∀ (H : Heap) (locs : List Loc) (ls : Array Slot), PG G [oC vo 5 [.ref t, .ref vr, .ref vc, .int (nI vn)], aI G vr 4 rF, aI G vc 4 cF] H → va_D A [oC vo 5 [.ref t, .ref vr, .ref vc, .int (nI vn)], aI G vr 4 rF, aI G vc 4 cF] → va_S A s.heap H locs → lv_has ls 3 [(2, .int (nI k)), (0, .ref vo), (1, .int o)] → W p l e (Rm 0 0 0 0) s m args below meth c H locs 0 0 Q (F0 m 2 ls []) := by
    intro n_2
    induction n_2 with
    | zero => intro k hm; exact absurd hm (Nat.not_lt_zero _)
    | succ n_2 ih_2 =>
      intro k hm_2 hk hR H locs ls hP hD hS hl
      refine lv_iload_n hF.1 hF.2.1 dX5_mountedWithRoot_2 rfl (lv_at hl 0 rfl) ?_
      refine lv_aload_n hF.1 hF.2.1 dX5_mountedWithRoot_3 rfl (lv_at hl 1 rfl) ?_
      refine kGet (C := RX5) (T := TX5) (N := 4) (index := 28) hF hK hP (inT inBX5) 0 rfl rfl 3 (by decide) rfl (List.mem_cons_of_mem _ mF_X5_28) rfl dX5_mountedWithRoot_4 ?_
      refine kGeN (tgt := 38) hF dX5_mountedWithRoot_7 (by decide) (by omega) (by omega) (fun c_1 => ?_) (fun c_1 => ?_)
      · refine lv_iconst (v := (-1)) hF.1 hF.2.1 dX5_mountedWithRoot_38 (by decide) ?_
        refine kRetI (v := (-1)) hF hr hlk hK hP hD hS hQ rfl () [0, 1, 2] (by decide) rfl (by omega) (by omega) dX5_mountedWithRoot_39 ?_
        rw [show mwrN rF cF o vn = _ from hR.symm, scan_e (by omega), rI_f (by omega)]
      · refine lv_aload_n hF.1 hF.2.1 dX5_mountedWithRoot_10 rfl (lv_at hl 1 rfl) ?_
        refine kGet (C := RX5) (T := TX5) (N := 4) (index := 9) hF hK hP (inT inBX5) 0 rfl rfl 1 (by decide) rfl (List.mem_cons_of_mem _ mF_X5_9) rfl dX5_mountedWithRoot_11 ?_
        refine lv_iload_n hF.1 hF.2.1 dX5_mountedWithRoot_14 rfl (lv_at hl 0 rfl) ?_
        refine kIaldN hF hK hP 1 rfl (by omega) (by decide) dX5_mountedWithRoot_15 ?_
        refine lv_iload_n hF.1 hF.2.1 dX5_mountedWithRoot_16 rfl (lv_at hl 2 rfl) ?_
        refine lv_icmp_ne (tgt := 32) hF.1 hF.2.1 dX5_mountedWithRoot_17 (by decide) (fun c_2 => ?_) (fun c_2 => ?_)
        · refine lv_iinc (v := (nI (k + 1))) (lv' := [(2, .int (nI (k + 1))), (0, .ref vo), (1, .int o)]) hF.1 hF.2.1 dX5_mountedWithRoot_32 hl (k := 0) rfl (nI_inc1 _) (by decide) rfl (fun ls hl => ?_)
          refine lv_goto (tgt := 2) hF.1 hF.2.1 dX5_mountedWithRoot_35 (by decide) ?_
          exact ih_2 (k + 1) (by omega) (by omega) (by rw [← hR]; exact (scan_t (by omega) (by simp [*])).symm) H locs ls hP hD hS (lv_sub hl [0, 1, 2] rfl)
        · refine lv_aload_n hF.1 hF.2.1 dX5_mountedWithRoot_20 rfl (lv_at hl 1 rfl) ?_
          refine kGet (C := RX5) (T := TX5) (N := 4) (index := 15) hF hK hP (inT inBX5) 0 rfl rfl 2 (by decide) rfl (List.mem_cons_of_mem _ mF_X5_15) rfl dX5_mountedWithRoot_21 ?_
          refine lv_iload_n hF.1 hF.2.1 dX5_mountedWithRoot_24 rfl (lv_at hl 0 rfl) ?_
          refine kIaldN hF hK hP 2 rfl (by omega) (by decide) dX5_mountedWithRoot_25 ?_
          refine lv_iconst (v := (-1)) hF.1 hF.2.1 dX5_mountedWithRoot_26 (by decide) ?_
          refine lv_icmp_eq (tgt := 32) hF.1 hF.2.1 dX5_mountedWithRoot_27 (by decide) (fun c_3 => ?_) (fun c_3 => ?_)
          · refine lv_iinc (v := (nI (k + 1))) (lv' := [(2, .int (nI (k + 1))), (0, .ref vo), (1, .int o)]) hF.1 hF.2.1 dX5_mountedWithRoot_32 hl (k := 0) rfl (nI_inc1 _) (by decide) rfl (fun ls hl => ?_)
            refine lv_goto (tgt := 2) hF.1 hF.2.1 dX5_mountedWithRoot_35 (by decide) ?_
            exact ih_2 (k + 1) (by omega) (by omega) (by rw [← hR]; exact (scan_t (by omega) (by simp [*])).symm) H locs ls hP hD hS (lv_sub hl [0, 1, 2] rfl)
          · refine lv_iload_n hF.1 hF.2.1 dX5_mountedWithRoot_30 rfl (lv_at hl 0 rfl) ?_
            refine kRetI (v := (nI k)) hF hr hlk hK hP hD hS hQ rfl () [0, 1, 2] (by decide) rfl (by omega) (by omega) dX5_mountedWithRoot_31 ?_
            rw [show mwrN rF cF o vn = _ from hR.symm, scan_f (by omega) (by simp [*]), rI_t (by omega)]
  exact loop_2 _ 1 (Nat.lt_succ_self _) (by omega) (rfl) _ _ _ hP hD hS (lv_sub hl [0, 1, 2] rfl)
set_option maxHeartbeats 4000000 in
set_option maxRecDepth 100000 in
theorem c_X5_hasCovered (l : Launch) (G : GG) (sz : Nat) (vo t vr vc vn : Nat) (rF cF : Nat → Int32) (tk tm to_ tv tp tl : Nat) (vF : Nat → Int32) (w : Int32) (hvn : 1 ≤ vn ∧ vn ≤ 4) (hcr : ∀ v, v < 4 → cF v = -1 ∨ vp_in (cF v) 40) : CtI l G yX5_hasCovered wsX5_hasCovered 1 21 0 0 sz [.ref vo, .int w] [oC vo 5 [.ref t, .ref vr, .ref vc, .int (nI vn)], aI G vc 4 cF, oC t 4 [.ref tk, .ref tm, .ref to_, .ref tv, .ref tp, .ref tl], aI G tv 40 vF] (fun r (_ : Unit) => r = (zI (scan (fun v => !(!decide (cF v = -1) && decide (vF (ix (cF v)) = w))) (vn - 1) 1 < vn))) (fun (_ : Unit) => [oC vo 5 [.ref t, .ref vr, .ref vc, .int (nI vn)], aI G vc 4 cF, oC t 4 [.ref tk, .ref tm, .ref to_, .ref tv, .ref tp, .ref tl], aI G tv 40 vF]) := by
  refine kMet (Qc := fun A => va_Qi _ (Bw G A _) A) (cc := cX5_hasCovered) (nL := 3) (ret := some (.boolean)) (by decide) rfl (Nat.le_of_ble_eq_true rfl) ?_
  intro p e s m args below meth c A Q hF hr hlk hnme hK hP hD hA hS hQ hsz ls hl
  have hl : lv_has ls 3 [(0, .ref vo), (1, .int w)] := hl
  refine lv_iconst (v := (nI 1)) hF.1 hF.2.1 dX5_hasCovered_0 (by decide) ?_
  refine lv_istore_n (lv' := [(2, .int (nI 1)), (0, .ref vo), (1, .int w)]) hF.1 hF.2.1 dX5_hasCovered_1 rfl hl (by decide) rfl (fun ls hl => ?_)
  have loop_2 : ∀ (n_2 : Nat) (k : Nat), vn - k < n_2 → 1 ≤ k ∧ k ≤ vn → scan (fun v => !(!decide (cF v = -1) && decide (vF (ix (cF v)) = w))) (vn - k) k = scan (fun v => !(!decide (cF v = -1) && decide (vF (ix (cF v)) = w))) (vn - 1) 1 → ∀ (H : Heap) (locs : List Loc) (ls : Array Slot), PG G [oC vo 5 [.ref t, .ref vr, .ref vc, .int (nI vn)], aI G vc 4 cF, oC t 4 [.ref tk, .ref tm, .ref to_, .ref tv, .ref tp, .ref tl], aI G tv 40 vF] H → va_D A [oC vo 5 [.ref t, .ref vr, .ref vc, .int (nI vn)], aI G vc 4 cF, oC t 4 [.ref tk, .ref tm, .ref to_, .ref tv, .ref tp, .ref tl], aI G tv 40 vF] → va_S A s.heap H locs → lv_has ls 3 [(2, .int (nI k)), (0, .ref vo), (1, .int w)] → W p l e (Rm 1 0 0 21) s m args below meth c H locs 0 0 Q (F0 m 2 ls []) := by
    intro n_2
    induction n_2 with
    | zero => intro k hm; exact absurd hm (Nat.not_lt_zero _)
    | succ n_2 ih_2 =>
      intro k hm_2 hk hR H locs ls hP hD hS hl
      refine lv_iload_n hF.1 hF.2.1 dX5_hasCovered_2 rfl (lv_at hl 0 rfl) ?_
      refine lv_aload_n hF.1 hF.2.1 dX5_hasCovered_3 rfl (lv_at hl 1 rfl) ?_
      refine kGet (C := RX5) (T := TX5) (N := 4) (index := 28) hF hK hP (inT inBX5) 0 rfl rfl 3 (by decide) rfl (List.mem_cons_of_mem _ mF_X5_28) rfl dX5_hasCovered_4 ?_
      refine kGeN (tgt := 45) hF dX5_hasCovered_7 (by decide) (by omega) (by omega) (fun c_1 => ?_) (fun c_1 => ?_)
      · refine lv_iconst (v := (nI 0)) hF.1 hF.2.1 dX5_hasCovered_45 (by decide) ?_
        refine kRetI (v := (nI 0)) hF hr hlk hK hP hD hS hQ rfl () [0, 1, 2, 3] (by decide) rfl (by omega) (by omega) dX5_hasCovered_46 ?_
        exact zI_0 (by rw [← hR, scan_e (by omega)]; omega)
      · refine lv_aload_n hF.1 hF.2.1 dX5_hasCovered_10 rfl (lv_at hl 1 rfl) ?_
        refine kGet (C := RX5) (T := TX5) (N := 4) (index := 15) hF hK hP (inT inBX5) 0 rfl rfl 2 (by decide) rfl (List.mem_cons_of_mem _ mF_X5_15) rfl dX5_hasCovered_11 ?_
        refine lv_iload_n hF.1 hF.2.1 dX5_hasCovered_14 rfl (lv_at hl 0 rfl) ?_
        refine kIaldN hF hK hP 1 rfl (by omega) (by decide) dX5_hasCovered_15 ?_
        refine lv_iconst (v := (-1)) hF.1 hF.2.1 dX5_hasCovered_16 (by decide) ?_
        refine lv_icmp_eq (tgt := 39) hF.1 hF.2.1 dX5_hasCovered_17 (by decide) (fun c_2 => ?_) (fun c_2 => ?_)
        · refine lv_iinc (v := (nI (k + 1))) (lv' := [(2, .int (nI (k + 1))), (0, .ref vo), (1, .int w)]) hF.1 hF.2.1 dX5_hasCovered_39 hl (k := 0) rfl (nI_inc1 _) (by decide) rfl (fun ls hl => ?_)
          refine lv_goto (tgt := 2) hF.1 hF.2.1 dX5_hasCovered_42 (by decide) ?_
          exact ih_2 (k + 1) (by omega) (by omega) (by rw [← hR]; exact (scan_t (by omega) (by simp [*])).symm) H locs ls hP hD hS (lv_sub hl [0, 1, 2] rfl)
        · refine lv_aload_n hF.1 hF.2.1 dX5_hasCovered_20 rfl (lv_at hl 1 rfl) ?_
          refine kGet (C := RX5) (T := TX5) (N := 4) (index := 18) hF hK hP (inT inBX5) 0 rfl rfl 0 (by decide) rfl (List.mem_cons_of_mem _ mF_X5_18) rfl dX5_hasCovered_21 ?_
          refine lv_aload_n hF.1 hF.2.1 dX5_hasCovered_24 rfl (lv_at hl 1 rfl) ?_
          refine kGet (C := RX5) (T := TX5) (N := 4) (index := 15) hF hK hP (inT inBX5) 0 rfl rfl 2 (by decide) rfl (List.mem_cons_of_mem _ mF_X5_15) rfl dX5_hasCovered_25 ?_
          refine lv_iload_n hF.1 hF.2.1 dX5_hasCovered_28 rfl (lv_at hl 0 rfl) ?_
          refine kIaldN hF hK hP 1 rfl (by omega) (by decide) dX5_hasCovered_29 ?_
          refine kCallI (wr := [oC vo 5 [.ref t, .ref vr, .ref vc, .int (nI vn)], aI G vc 4 cF]) (va_runV (As := [.int (cF k)]) (rest := []) hF (c_X4_volumeOf l G _ t tk tm to_ tv tp tl vF (cF k) (by rcases hcr k (by omega) with h | h; exact absurd h (by assumption); exact h)) (cwVB 1 hF rfl mL_X5_32 mI_X4_volumeOf mS_X4_volumeOf mN_X4 mC_X4_volumeOf rfl hd_X4_volumeOf rfl rfl ⟨Nat.le_of_ble_eq_true rfl, Nat.le_of_ble_eq_true rfl⟩) (kPre hK hP hD [2, 3] (by decide) rfl (q0 := 2) (ci := 4) rfl rfl rfl) rfl rfl hl.1 rfl (lv_room (Nat.le_of_ble_eq_true rfl)) dX5_hasCovered_30 ⟨by omega, by omega⟩) hP hD hS hA [2, 3] [0, 1] rfl rfl (by decide) (by decide) (fun r u H locs hw_3 hP hD hS => ?_)
          subst hw_3
          have hP : PG G [oC vo 5 [.ref t, .ref vr, .ref vc, .int (nI vn)], aI G vc 4 cF, oC t 4 [.ref tk, .ref tm, .ref to_, .ref tv, .ref tp, .ref tl], aI G tv 40 vF] H := hP
          have hD : va_D A [oC vo 5 [.ref t, .ref vr, .ref vc, .int (nI vn)], aI G vc 4 cF, oC t 4 [.ref tk, .ref tm, .ref to_, .ref tv, .ref tp, .ref tl], aI G tv 40 vF] := hD
          refine lv_iload_n hF.1 hF.2.1 dX5_hasCovered_33 rfl (lv_at hl 2 rfl) ?_
          refine lv_icmp_ne (tgt := 39) hF.1 hF.2.1 dX5_hasCovered_34 (by decide) (fun c_4 => ?_) (fun c_4 => ?_)
          · refine lv_iinc (v := (nI (k + 1))) (lv' := [(2, .int (nI (k + 1))), (0, .ref vo), (1, .int w)]) hF.1 hF.2.1 dX5_hasCovered_39 hl (k := 0) rfl (nI_inc1 _) (by decide) rfl (fun ls hl => ?_)
            refine lv_goto (tgt := 2) hF.1 hF.2.1 dX5_hasCovered_42 (by decide) ?_
            exact ih_2 (k + 1) (by omega) (by omega) (by rw [← hR]; exact (scan_t (by omega) (by simp [*])).symm) H locs ls hP hD hS (lv_sub hl [0, 1, 2] rfl)
          · refine lv_iconst (v := (nI 1)) hF.1 hF.2.1 dX5_hasCovered_37 (by decide) ?_
            refine kRetI (v := (nI 1)) hF hr hlk hK hP hD hS hQ rfl () [0, 1, 2, 3] (by decide) rfl (by omega) (by omega) dX5_hasCovered_38 ?_
            exact zI_1 (by rw [← hR, scan_f (by omega) (by simp [*])]; omega)
  exact loop_2 _ 1 (Nat.lt_succ_self _) (by omega) (rfl) _ _ _ hP hD hS (lv_sub hl [0, 1, 2] rfl)
set_option maxHeartbeats 4000000 in
set_option maxRecDepth 100000 in
theorem c_X5_top (l : Launch) (G : GG) (sz : Nat) (vo t vr vc vn : Nat) (rF cF : Nat → Int32) (o : Int32) (hvn : 1 ≤ vn ∧ vn ≤ 4) : CtI l G yX5_top wsX5_top 1 22 0 0 sz [.ref vo, .int o] [oC vo 5 [.ref t, .ref vr, .ref vc, .int (nI vn)], aI G vr 4 rF, aI G vc 4 cF] (fun r (_ : Unit) => r = (topC rF cF vn 4 o)) (fun (_ : Unit) => [oC vo 5 [.ref t, .ref vr, .ref vc, .int (nI vn)], aI G vr 4 rF, aI G vc 4 cF]) := by
  refine kMet (Qc := fun A => va_Qi _ (Bw G A _) A) (cc := cX5_top) (nL := 5) (ret := some (.int)) (by decide) rfl (Nat.le_of_ble_eq_true rfl) ?_
  intro p e s m args below meth c A Q hF hr hlk hnme hK hP hD hA hS hQ hsz ls hl
  have hl : lv_has ls 5 [(0, .ref vo), (1, .int o)] := hl
  refine lv_iload_n hF.1 hF.2.1 dX5_top_0 rfl (lv_at hl 1 rfl) ?_
  refine lv_istore_n (lv' := [(2, .int o), (0, .ref vo), (1, .int o)]) hF.1 hF.2.1 dX5_top_1 rfl hl (by decide) rfl (fun ls hl => ?_)
  refine lv_iconst (v := (nI 0)) hF.1 hF.2.1 dX5_top_2 (by decide) ?_
  refine lv_istore_n (lv' := [(3, .int (nI 0)), (2, .int o), (0, .ref vo), (1, .int o)]) hF.1 hF.2.1 dX5_top_3 rfl hl (by decide) rfl (fun ls hl => ?_)
  have loop_4 : ∀ (n_4 : Nat) (k : Nat) (h : Int32), 4 - k < n_4 → k ≤ 4 → topC rF cF vn (4 - k) h = topC rF cF vn 4 o → ∀ (H : Heap) (locs : List Loc) (ls : Array Slot), PG G [oC vo 5 [.ref t, .ref vr, .ref vc, .int (nI vn)], aI G vr 4 rF, aI G vc 4 cF] H → va_D A [oC vo 5 [.ref t, .ref vr, .ref vc, .int (nI vn)], aI G vr 4 rF, aI G vc 4 cF] → va_S A s.heap H locs → lv_has ls 5 [(3, .int (nI k)), (2, .int h), (0, .ref vo), (1, .int o)] → W p l e (Rm 1 0 0 22) s m args below meth c H locs 0 0 Q (F0 m 4 ls []) := by
    intro n_4
    induction n_4 with
    | zero => intro k h hm; exact absurd hm (Nat.not_lt_zero _)
    | succ n_4 ih_4 =>
      intro k h hm_4 hk hR H locs ls hP hD hS hl
      have hlt := covN_lt (cF := cF) (o := h) hvn
      refine lv_iload_n hF.1 hF.2.1 dX5_top_4 rfl (lv_at hl 0 rfl) ?_
      refine lv_iconst (v := (nI 4)) hF.1 hF.2.1 dX5_top_5 (by decide) ?_
      refine kGeN (tgt := 37) hF dX5_top_6 (by decide) (by omega) (by omega) (fun c_1 => ?_) (fun c_1 => ?_)
      · refine lv_iload_n hF.1 hF.2.1 dX5_top_37 rfl (lv_at hl 1 rfl) ?_
        refine kRetI (v := h) hF hr hlk hK hP hD hS hQ rfl () [0, 1, 2] (by decide) rfl (by omega) (by omega) dX5_top_38 ?_
        rw [← hR]; first | rw [topC_e (by omega)] | rw [topC_r (by omega) (by omega)]
      · refine lv_aload_n hF.1 hF.2.1 dX5_top_9 rfl (lv_at hl 2 rfl) ?_
        refine lv_iload_n hF.1 hF.2.1 dX5_top_10 rfl (lv_at hl 1 rfl) ?_
        refine kCallI (wr := [aI G vr 4 rF]) (va_runV (As := [.int h]) (rest := []) hF (c_X5_covering l G _ vo t vr vc vn rF cF h (by first | assumption | omega)) (cwVB 1 hF rfl mL_X5_38 mI_X5_covering mS_X5_covering mN_X5 mC_X5_covering rfl hd_X5_covering rfl rfl ⟨Nat.le_of_ble_eq_true rfl, Nat.le_of_ble_eq_true rfl⟩) (kPre hK hP hD [0, 2] (by decide) rfl (q0 := 0) (ci := 5) rfl rfl rfl) rfl rfl hl.1 rfl (lv_room (Nat.le_of_ble_eq_true rfl)) dX5_top_11 ⟨by omega, by omega⟩) hP hD hS hA [0, 2] [1] rfl rfl (by decide) (by decide) (fun r u H locs hw_2 hP hD hS => ?_)
        subst hw_2
        have hP : PG G [oC vo 5 [.ref t, .ref vr, .ref vc, .int (nI vn)], aI G vr 4 rF, aI G vc 4 cF] H := va_P.sub hP [1, 0, 2] rfl
        have hD : va_D A [oC vo 5 [.ref t, .ref vr, .ref vc, .int (nI vn)], aI G vr 4 rF, aI G vc 4 cF] := va_D.sub hD [1, 0, 2] (by decide) rfl
        refine lv_istore (lv' := [(4, .int (nI (covN cF h vn))), (3, .int (nI k)), (2, .int h), (0, .ref vo), (1, .int o)]) hF.1 hF.2.1 dX5_top_14 hl (by decide) rfl (fun ls hl => ?_)
        refine lv_iload hF.1 hF.2.1 dX5_top_16 (lv_at hl 0 rfl) ?_
        refine kIfNeN (tgt := 23) hF dX5_top_18 (by decide) (by omega) (fun c_3 => ?_) (fun c_3 => ?_)
        · refine lv_aload_n hF.1 hF.2.1 dX5_top_23 rfl (lv_at hl 3 rfl) ?_
          refine kGet (C := RX5) (T := TX5) (N := 4) (index := 9) hF hK hP (inT inBX5) 0 rfl rfl 1 (by decide) rfl (List.mem_cons_of_mem _ mF_X5_9) rfl dX5_top_24 ?_
          refine lv_iload hF.1 hF.2.1 dX5_top_27 (lv_at hl 0 rfl) ?_
          refine kIaldN hF hK hP 1 rfl (by omega) (by decide) dX5_top_29 ?_
          refine lv_istore_n (lv' := [(2, .int (rF (covN cF h vn))), (4, .int (nI (covN cF h vn))), (3, .int (nI k)), (0, .ref vo), (1, .int o)]) hF.1 hF.2.1 dX5_top_30 rfl hl (by decide) rfl (fun ls hl => ?_)
          refine lv_iinc (v := (nI (k + 1))) (lv' := [(3, .int (nI (k + 1))), (2, .int (rF (covN cF h vn))), (4, .int (nI (covN cF h vn))), (0, .ref vo), (1, .int o)]) hF.1 hF.2.1 dX5_top_31 hl (k := 2) rfl (nI_inc1 _) (by decide) rfl (fun ls hl => ?_)
          refine lv_goto (tgt := 4) hF.1 hF.2.1 dX5_top_34 (by decide) ?_
          exact ih_4 (k + 1) (rF (covN cF h vn)) (by omega) (by omega) (by rw [← hR]; exact (topC_s (by omega) (by omega)).symm) H locs ls hP hD hS (lv_sub hl [0, 1, 3, 4] rfl)
        · refine lv_iload_n hF.1 hF.2.1 dX5_top_21 rfl (lv_at hl 2 rfl) ?_
          refine kRetI (v := h) hF hr hlk hK hP hD hS hQ rfl () [0, 1, 2] (by decide) rfl (by omega) (by omega) dX5_top_22 ?_
          rw [← hR]; first | rw [topC_e (by omega)] | rw [topC_r (by omega) (by omega)]
  exact loop_4 _ 0 o (Nat.lt_succ_self _) (by first | assumption | omega) (rfl) _ _ _ hP hD hS (lv_sub hl [0, 1, 2, 3] rfl)
set_option maxHeartbeats 4000000 in
set_option maxRecDepth 100000 in
theorem c_X5_ground (l : Launch) (G : GG) (sz : Nat) (vo t vr vc vn : Nat) (rF cF : Nat → Int32) (o : Int32) (hvn : 1 ≤ vn ∧ vn ≤ 4) : CtI l G yX5_ground wsX5_ground 1 22 0 0 sz [.ref vo, .int o] [oC vo 5 [.ref t, .ref vr, .ref vc, .int (nI vn)], aI G vr 4 rF, aI G vc 4 cF] (fun r (_ : Unit) => r = (grdC rF cF vn 4 o)) (fun (_ : Unit) => [oC vo 5 [.ref t, .ref vr, .ref vc, .int (nI vn)], aI G vr 4 rF, aI G vc 4 cF]) := by
  refine kMet (Qc := fun A => va_Qi _ (Bw G A _) A) (cc := cX5_ground) (nL := 5) (ret := some (.int)) (by decide) rfl (Nat.le_of_ble_eq_true rfl) ?_
  intro p e s m args below meth c A Q hF hr hlk hnme hK hP hD hA hS hQ hsz ls hl
  have hl : lv_has ls 5 [(0, .ref vo), (1, .int o)] := hl
  refine lv_iload_n hF.1 hF.2.1 dX5_ground_0 rfl (lv_at hl 1 rfl) ?_
  refine lv_istore_n (lv' := [(2, .int o), (0, .ref vo), (1, .int o)]) hF.1 hF.2.1 dX5_ground_1 rfl hl (by decide) rfl (fun ls hl => ?_)
  refine lv_iconst (v := (nI 0)) hF.1 hF.2.1 dX5_ground_2 (by decide) ?_
  refine lv_istore_n (lv' := [(3, .int (nI 0)), (2, .int o), (0, .ref vo), (1, .int o)]) hF.1 hF.2.1 dX5_ground_3 rfl hl (by decide) rfl (fun ls hl => ?_)
  have loop_4 : ∀ (n_4 : Nat) (k : Nat) (h : Int32), 4 - k < n_4 → k ≤ 4 → grdC rF cF vn (4 - k) h = grdC rF cF vn 4 o → ∀ (H : Heap) (locs : List Loc) (ls : Array Slot), PG G [oC vo 5 [.ref t, .ref vr, .ref vc, .int (nI vn)], aI G vr 4 rF, aI G vc 4 cF] H → va_D A [oC vo 5 [.ref t, .ref vr, .ref vc, .int (nI vn)], aI G vr 4 rF, aI G vc 4 cF] → va_S A s.heap H locs → lv_has ls 5 [(3, .int (nI k)), (2, .int h), (0, .ref vo), (1, .int o)] → W p l e (Rm 1 0 0 22) s m args below meth c H locs 0 0 Q (F0 m 4 ls []) := by
    intro n_4
    induction n_4 with
    | zero => intro k h hm; exact absurd hm (Nat.not_lt_zero _)
    | succ n_4 ih_4 =>
      intro k h hm_4 hk hR H locs ls hP hD hS hl
      refine lv_iload_n hF.1 hF.2.1 dX5_ground_4 rfl (lv_at hl 0 rfl) ?_
      refine lv_iconst (v := (nI 4)) hF.1 hF.2.1 dX5_ground_5 (by decide) ?_
      refine kGeN (tgt := 38) hF dX5_ground_6 (by decide) (by omega) (by omega) (fun c_1 => ?_) (fun c_1 => ?_)
      · refine lv_iload_n hF.1 hF.2.1 dX5_ground_38 rfl (lv_at hl 1 rfl) ?_
        refine kRetI (v := h) hF hr hlk hK hP hD hS hQ rfl () [0, 1, 2] (by decide) rfl (by omega) (by omega) dX5_ground_39 ?_
        rw [← hR]; first | rw [grdC_e (by omega)] | rw [grdC_r (by omega) (rI_ge (by assumption))]
      · refine lv_aload_n hF.1 hF.2.1 dX5_ground_9 rfl (lv_at hl 2 rfl) ?_
        refine lv_iload_n hF.1 hF.2.1 dX5_ground_10 rfl (lv_at hl 1 rfl) ?_
        refine kCallI (wr := []) (va_runV (As := [.int h]) (rest := []) hF (c_X5_mountedWithRoot l G _ vo t vr vc vn rF cF h (by first | assumption | omega)) (cwVB 1 hF rfl mL_X5_41 mI_X5_mountedWithRoot mS_X5_mountedWithRoot mN_X5 mC_X5_mountedWithRoot rfl hd_X5_mountedWithRoot rfl rfl ⟨Nat.le_of_ble_eq_true rfl, Nat.le_of_ble_eq_true rfl⟩) (kPre hK hP hD [0, 1, 2] (by decide) rfl (q0 := 0) (ci := 5) rfl rfl rfl) rfl rfl hl.1 rfl (lv_room (Nat.le_of_ble_eq_true rfl)) dX5_ground_11 ⟨by omega, by omega⟩) hP hD hS hA [0, 1, 2] [] rfl rfl (by decide) (by decide) (fun r u H locs hw_2 hP hD hS => ?_)
        subst hw_2
        have hP : PG G [oC vo 5 [.ref t, .ref vr, .ref vc, .int (nI vn)], aI G vr 4 rF, aI G vc 4 cF] H := hP
        have hD : va_D A [oC vo 5 [.ref t, .ref vr, .ref vc, .int (nI vn)], aI G vr 4 rF, aI G vc 4 cF] := hD
        refine lv_istore (lv' := [(4, .int (rI (mwrN rF cF h vn) vn)), (3, .int (nI k)), (2, .int h), (0, .ref vo), (1, .int o)]) hF.1 hF.2.1 dX5_ground_14 hl (by decide) rfl (fun ls hl => ?_)
        refine lv_iload hF.1 hF.2.1 dX5_ground_16 (lv_at hl 0 rfl) ?_
        refine lv_iconst (v := (-1)) hF.1 hF.2.1 dX5_ground_18 (by decide) ?_
        refine lv_icmp_ne (tgt := 24) hF.1 hF.2.1 dX5_ground_19 (by decide) (fun c_3 => ?_) (fun c_3 => ?_)
        · have hJ : mwrN rF cF h vn < vn := rI_lt c_3
          rw [rI_t hJ] at hl
          refine lv_aload_n hF.1 hF.2.1 dX5_ground_24 rfl (lv_at hl 3 rfl) ?_
          refine kGet (C := RX5) (T := TX5) (N := 4) (index := 15) hF hK hP (inT inBX5) 0 rfl rfl 2 (by decide) rfl (List.mem_cons_of_mem _ mF_X5_15) rfl dX5_ground_25 ?_
          refine lv_iload hF.1 hF.2.1 dX5_ground_28 (lv_at hl 0 rfl) ?_
          refine kIaldN hF hK hP 2 rfl (by omega) (by decide) dX5_ground_30 ?_
          refine lv_istore_n (lv' := [(2, .int (cF (mwrN rF cF h vn))), (4, .int (nI (mwrN rF cF h vn))), (3, .int (nI k)), (0, .ref vo), (1, .int o)]) hF.1 hF.2.1 dX5_ground_31 rfl hl (by decide) rfl (fun ls hl => ?_)
          refine lv_iinc (v := (nI (k + 1))) (lv' := [(3, .int (nI (k + 1))), (2, .int (cF (mwrN rF cF h vn))), (4, .int (nI (mwrN rF cF h vn))), (0, .ref vo), (1, .int o)]) hF.1 hF.2.1 dX5_ground_32 hl (k := 2) rfl (nI_inc1 _) (by decide) rfl (fun ls hl => ?_)
          refine lv_goto (tgt := 4) hF.1 hF.2.1 dX5_ground_35 (by decide) ?_
          exact ih_4 (k + 1) (cF (mwrN rF cF h vn)) (by omega) (by omega) (by rw [← hR]; exact (grdC_s (by omega) (by assumption)).symm) H locs ls hP hD hS (lv_sub hl [0, 1, 3, 4] rfl)
        · refine lv_iload_n hF.1 hF.2.1 dX5_ground_22 rfl (lv_at hl 2 rfl) ?_
          refine kRetI (v := h) hF hr hlk hK hP hD hS hQ rfl () [0, 1, 2] (by decide) rfl (by omega) (by omega) dX5_ground_23 ?_
          rw [← hR]; first | rw [grdC_e (by omega)] | rw [grdC_r (by omega) (rI_ge (by assumption))]
  exact loop_4 _ 0 o (Nat.lt_succ_self _) (by first | assumption | omega) (rfl) _ _ _ hP hD hS (lv_sub hl [0, 1, 2, 3] rfl)
set_option maxHeartbeats 4000000 in
set_option maxRecDepth 100000 in
theorem c_X5_above (l : Launch) (G : GG) (sz : Nat) (vo t vr vc vn : Nat) (rF cF : Nat → Int32) (tk tm to_ tv tp tl : Nat) (pF : Nat → Int32) (d r0 : Int32) (hvn : 1 ≤ vn ∧ vn ≤ 4) (hcr : ∀ v, v < 4 → cF v = -1 ∨ vp_in (cF v) 40) (hrr : ∀ v, v < 4 → vp_in (rF v) 40) (hpr : ∀ i, i < 40 → vp_in (pF i) 40) (hd : vp_in d 40) : CtI l G yX5_above wsX5_above 2 46 0 0 sz [.ref vo, .int d, .int r0] [oC vo 5 [.ref t, .ref vr, .ref vc, .int (nI vn)], aI G vr 4 rF, aI G vc 4 cF, oC t 4 [.ref tk, .ref tm, .ref to_, .ref tv, .ref tp, .ref tl], aI G tp 40 pF] (fun r (_ : Unit) => r = (abvC rF cF pF vn d r0)) (fun (_ : Unit) => [oC vo 5 [.ref t, .ref vr, .ref vc, .int (nI vn)], aI G vr 4 rF, aI G vc 4 cF, oC t 4 [.ref tk, .ref tm, .ref to_, .ref tv, .ref tp, .ref tl], aI G tp 40 pF]) := by
  refine kMet (Qc := fun A => va_Qi _ (Bw G A _) A) (cc := cX5_above) (nL := 3) (ret := some (.int)) (by decide) rfl (Nat.le_of_ble_eq_true rfl) ?_
  intro p e s m args below meth c A Q hF hr hlk hnme hK hP hD hA hS hQ hsz ls hl
  have hl : lv_has ls 3 [(0, .ref vo), (1, .int d), (2, .int r0)] := hl
  refine lv_iload_n hF.1 hF.2.1 dX5_above_0 rfl (lv_at hl 1 rfl) ?_
  refine lv_iload_n hF.1 hF.2.1 dX5_above_1 rfl (lv_at hl 2 rfl) ?_
  refine lv_icmp_ne (tgt := 9) hF.1 hF.2.1 dX5_above_2 (by decide) (fun c_1 => ?_) (fun c_1 => ?_)
  · refine lv_aload_n hF.1 hF.2.1 dX5_above_9 rfl (lv_at hl 0 rfl) ?_
    refine lv_aload_n hF.1 hF.2.1 dX5_above_10 rfl (lv_at hl 0 rfl) ?_
    refine kGet (C := RX5) (T := TX5) (N := 4) (index := 18) hF hK hP (inT inBX5) 0 rfl rfl 0 (by decide) rfl (List.mem_cons_of_mem _ mF_X5_18) rfl dX5_above_11 ?_
    refine lv_aload_n hF.1 hF.2.1 dX5_above_14 rfl (lv_at hl 0 rfl) ?_
    refine lv_iload_n hF.1 hF.2.1 dX5_above_15 rfl (lv_at hl 1 rfl) ?_
    refine kCallI (wr := [oC t 4 [.ref tk, .ref tm, .ref to_, .ref tv, .ref tp, .ref tl], aI G tp 40 pF]) (va_runV (As := [.int d]) (rest := [.ref t, .ref vo]) hF (c_X5_ground l G _ vo t vr vc vn rF cF d (by first | assumption | omega)) (cwVB 1 hF rfl mL_X5_44 mI_X5_ground mS_X5_ground mN_X5 mC_X5_ground rfl hd_X5_ground rfl rfl ⟨Nat.le_of_ble_eq_true rfl, Nat.le_of_ble_eq_true rfl⟩) (kPre hK hP hD [0, 1, 2] (by decide) rfl (q0 := 0) (ci := 5) rfl rfl rfl) rfl rfl hl.1 rfl (lv_room (Nat.le_of_ble_eq_true rfl)) dX5_above_16 ⟨by omega, by omega⟩) hP hD hS hA [0, 1, 2] [3, 4] rfl rfl (by decide) (by decide) (fun r u H locs hw_2 hP hD hS => ?_)
    subst hw_2
    have hP : PG G [oC vo 5 [.ref t, .ref vr, .ref vc, .int (nI vn)], aI G vr 4 rF, aI G vc 4 cF, oC t 4 [.ref tk, .ref tm, .ref to_, .ref tv, .ref tp, .ref tl], aI G tp 40 pF] H := va_P.sub hP [2, 3, 4, 0, 1] rfl
    have hD : va_D A [oC vo 5 [.ref t, .ref vr, .ref vc, .int (nI vn)], aI G vr 4 rF, aI G vc 4 cF, oC t 4 [.ref tk, .ref tm, .ref to_, .ref tv, .ref tp, .ref tl], aI G tp 40 pF] := va_D.sub hD [2, 3, 4, 0, 1] (by decide) rfl
    refine kCallI (wr := [oC vo 5 [.ref t, .ref vr, .ref vc, .int (nI vn)], aI G vr 4 rF, aI G vc 4 cF]) (va_runV (As := [.int (grdC rF cF vn 4 d)]) (rest := [.ref vo]) hF (c_X4_parent l G H.size t tk tm to_ tv tp tl pF (grdC rF cF vn 4 d) (grdC_in hcr hd)) (cwVB 1 hF rfl mL_X5_47 mI_X4_parent mS_X4_parent mN_X4 mC_X4_parent rfl hd_X4_parent rfl rfl ⟨Nat.le_of_ble_eq_true rfl, Nat.le_of_ble_eq_true rfl⟩) (kPre hK hP hD [3, 4] (by decide) rfl (q0 := 3) (ci := 4) rfl rfl rfl) rfl rfl hl.1 rfl (lv_room (Nat.le_of_ble_eq_true rfl)) dX5_above_19 ⟨by omega, by omega⟩) hP hD hS hA [3, 4] [0, 1, 2] rfl rfl (by decide) (by decide) (fun r u H locs hw_3 hP hD hS => ?_)
    subst hw_3
    have hP : PG G [oC vo 5 [.ref t, .ref vr, .ref vc, .int (nI vn)], aI G vr 4 rF, aI G vc 4 cF, oC t 4 [.ref tk, .ref tm, .ref to_, .ref tv, .ref tp, .ref tl], aI G tp 40 pF] H := hP
    have hD : va_D A [oC vo 5 [.ref t, .ref vr, .ref vc, .int (nI vn)], aI G vr 4 rF, aI G vc 4 cF, oC t 4 [.ref tk, .ref tm, .ref to_, .ref tv, .ref tp, .ref tl], aI G tp 40 pF] := hD
    refine kCallI (wr := [oC t 4 [.ref tk, .ref tm, .ref to_, .ref tv, .ref tp, .ref tl], aI G tp 40 pF]) (va_runV (As := [.int (pF (ix (grdC rF cF vn 4 d)))]) (rest := []) hF (c_X5_top l G H.size vo t vr vc vn rF cF (pF (ix (grdC rF cF vn 4 d))) (by first | assumption | omega)) (cwVB 1 hF rfl mL_X5_50 mI_X5_top mS_X5_top mN_X5 mC_X5_top rfl hd_X5_top rfl rfl ⟨Nat.le_of_ble_eq_true rfl, Nat.le_of_ble_eq_true rfl⟩) (kPre hK hP hD [0, 1, 2] (by decide) rfl (q0 := 0) (ci := 5) rfl rfl rfl) rfl rfl hl.1 rfl (lv_room (Nat.le_of_ble_eq_true rfl)) dX5_above_22 ⟨by omega, by omega⟩) hP hD hS hA [0, 1, 2] [3, 4] rfl rfl (by decide) (by decide) (fun r u H locs hw_4 hP hD hS => ?_)
    subst hw_4
    have hP : PG G [oC vo 5 [.ref t, .ref vr, .ref vc, .int (nI vn)], aI G vr 4 rF, aI G vc 4 cF, oC t 4 [.ref tk, .ref tm, .ref to_, .ref tv, .ref tp, .ref tl], aI G tp 40 pF] H := va_P.sub hP [2, 3, 4, 0, 1] rfl
    have hD : va_D A [oC vo 5 [.ref t, .ref vr, .ref vc, .int (nI vn)], aI G vr 4 rF, aI G vc 4 cF, oC t 4 [.ref tk, .ref tm, .ref to_, .ref tv, .ref tp, .ref tl], aI G tp 40 pF] := va_D.sub hD [2, 3, 4, 0, 1] (by decide) rfl
    refine kRetI (v := (topC rF cF vn 4 (pF (ix (grdC rF cF vn 4 d))))) hF hr hlk hK hP hD hS hQ rfl () [0, 1, 2, 3, 4] (by decide) rfl (by omega) (by omega) dX5_above_25 ?_
    first | rw [abvC_t (by assumption)] | rw [abvC_f (by assumption)]
  · refine lv_iload_n hF.1 hF.2.1 dX5_above_5 rfl (lv_at hl 2 rfl) ?_
    refine lv_goto (tgt := 25) hF.1 hF.2.1 dX5_above_6 (by decide) ?_
    refine kRetI (v := r0) hF hr hlk hK hP hD hS hQ rfl () [0, 1, 2, 3, 4] (by decide) rfl (by omega) (by omega) dX5_above_25 ?_
    first | rw [abvC_t (by assumption)] | rw [abvC_f (by assumption)]
end
section
set_option maxHeartbeats 4000000 in
set_option maxRecDepth 100000 in
theorem c_X3_may (l : Launch) (G : GG) (sz : Nat) (se t : Nat) (us ro pr : Int32) (tk tm to_ tv tp tl : Nat) (mF oF : Nat → Int32) (rt d : Int32) (hd : vp_in d 40) : CtI l G yX3_may wsX3_may 1 21 0 0 sz [.ref se, .int rt, .int d] [oC se 3 [.ref t, .int us, .int ro, .int pr], oC t 4 [.ref tk, .ref tm, .ref to_, .ref tv, .ref tp, .ref tl], aI G tm 40 mF, aI G to_ 40 oF] (fun r (_ : Unit) => r = (zI (mayP us (mF (ix d)) (oF (ix d)) rt))) (fun (_ : Unit) => [oC se 3 [.ref t, .int us, .int ro, .int pr], oC t 4 [.ref tk, .ref tm, .ref to_, .ref tv, .ref tp, .ref tl], aI G tm 40 mF, aI G to_ 40 oF]) := by
  refine kMet (Qc := fun A => va_Qi _ (Bw G A _) A) (cc := cX3_may) (nL := 5) (ret := some (.boolean)) (by decide) rfl (Nat.le_of_ble_eq_true rfl) ?_
  intro p e s m args below meth c A Q hF hr hlk hnme hK hP hD hA hS hQ hsz ls hl
  have hl : lv_has ls 5 [(0, .ref se), (1, .int rt), (2, .int d)] := hl
  refine lv_aload_n hF.1 hF.2.1 dX3_may_0 rfl (lv_at hl 0 rfl) ?_
  refine kGet (C := RX3) (T := TX3) (N := 4) (index := 7) hF hK hP (inT inBX3) 0 rfl rfl 0 (by decide) rfl (List.mem_cons_of_mem _ mF_X3_7) rfl dX3_may_1 ?_
  refine lv_iload_n hF.1 hF.2.1 dX3_may_4 rfl (lv_at hl 2 rfl) ?_
  refine kCallI (wr := [oC se 3 [.ref t, .int us, .int ro, .int pr], aI G to_ 40 oF]) (va_runV (As := [.int d]) (rest := []) hF (c_X4_mode l G _ t tk tm to_ tv tp tl mF d (by first | assumption | omega)) (cwVB 1 hF rfl mL_X3_13 mI_X4_mode mS_X4_mode mN_X4 mC_X4_mode rfl hd_X4_mode rfl rfl ⟨Nat.le_of_ble_eq_true rfl, Nat.le_of_ble_eq_true rfl⟩) (kPre hK hP hD [1, 2] (by decide) rfl (q0 := 1) (ci := 4) rfl rfl rfl) rfl rfl hl.1 rfl (lv_room (Nat.le_of_ble_eq_true rfl)) dX3_may_5 ⟨by omega, by omega⟩) hP hD hS hA [1, 2] [0, 3] rfl rfl (by decide) (by decide) (fun r u H locs hw_1 hP hD hS => ?_)
  subst hw_1
  have hP : PG G [oC se 3 [.ref t, .int us, .int ro, .int pr], oC t 4 [.ref tk, .ref tm, .ref to_, .ref tv, .ref tp, .ref tl], aI G tm 40 mF, aI G to_ 40 oF] H := va_P.sub hP [0, 2, 3, 1] rfl
  have hD : va_D A [oC se 3 [.ref t, .int us, .int ro, .int pr], oC t 4 [.ref tk, .ref tm, .ref to_, .ref tv, .ref tp, .ref tl], aI G tm 40 mF, aI G to_ 40 oF] := va_D.sub hD [0, 2, 3, 1] (by decide) rfl
  refine lv_istore_n (lv' := [(3, .int (mF (ix d))), (0, .ref se), (1, .int rt), (2, .int d)]) hF.1 hF.2.1 dX3_may_8 rfl hl (by decide) rfl (fun ls hl => ?_)
  refine lv_aload_n hF.1 hF.2.1 dX3_may_9 rfl (lv_at hl 1 rfl) ?_
  refine kGet (C := RX3) (T := TX3) (N := 4) (index := 19) hF hK hP (inT inBX3) 0 rfl rfl 1 (by decide) rfl (List.mem_cons_of_mem _ mF_X3_19) rfl dX3_may_10 ?_
  refine lv_aload_n hF.1 hF.2.1 dX3_may_13 rfl (lv_at hl 1 rfl) ?_
  refine kGet (C := RX3) (T := TX3) (N := 4) (index := 7) hF hK hP (inT inBX3) 0 rfl rfl 0 (by decide) rfl (List.mem_cons_of_mem _ mF_X3_7) rfl dX3_may_14 ?_
  refine lv_iload_n hF.1 hF.2.1 dX3_may_17 rfl (lv_at hl 3 rfl) ?_
  refine kCallI (wr := [oC se 3 [.ref t, .int us, .int ro, .int pr], aI G tm 40 mF]) (va_runV (As := [.int d]) (rest := [.int us]) hF (c_X4_owner l G H.size t tk tm to_ tv tp tl oF d (by first | assumption | omega)) (cwVB 1 hF rfl mL_X3_23 mI_X4_owner mS_X4_owner mN_X4 mC_X4_owner rfl hd_X4_owner rfl rfl ⟨Nat.le_of_ble_eq_true rfl, Nat.le_of_ble_eq_true rfl⟩) (kPre hK hP hD [1, 3] (by decide) rfl (q0 := 1) (ci := 4) rfl rfl rfl) rfl rfl hl.1 rfl (lv_room (Nat.le_of_ble_eq_true rfl)) dX3_may_18 ⟨by omega, by omega⟩) hP hD hS hA [1, 3] [0, 2] rfl rfl (by decide) (by decide) (fun r u H locs hw_2 hP hD hS => ?_)
  subst hw_2
  have hP : PG G [oC se 3 [.ref t, .int us, .int ro, .int pr], oC t 4 [.ref tk, .ref tm, .ref to_, .ref tv, .ref tp, .ref tl], aI G tm 40 mF, aI G to_ 40 oF] H := va_P.sub hP [0, 2, 1, 3] rfl
  have hD : va_D A [oC se 3 [.ref t, .int us, .int ro, .int pr], oC t 4 [.ref tk, .ref tm, .ref to_, .ref tv, .ref tp, .ref tl], aI G tm 40 mF, aI G to_ 40 oF] := va_D.sub hD [0, 2, 1, 3] (by decide) rfl
  refine lv_icmp_ne (tgt := 30) hF.1 hF.2.1 dX3_may_21 (by decide) (fun c_3 => ?_) (fun c_3 => ?_)
  · refine lv_iload_n hF.1 hF.2.1 dX3_may_30 rfl (lv_at hl 0 rfl) ?_
    refine lv_iconst (v := (nI 4)) hF.1 hF.2.1 dX3_may_31 (by decide) ?_
    refine lv_irem hF.1 hF.2.1 dX3_may_32 (by decide) ?_
    refine lv_istore (lv' := [(4, .int ((mF (ix d)) - (mF (ix d)) / (nI 4) * (nI 4))), (3, .int (mF (ix d))), (0, .ref se), (1, .int rt), (2, .int d)]) hF.1 hF.2.1 dX3_may_33 hl (by decide) rfl (fun ls hl => ?_)
    refine lv_aload_n hF.1 hF.2.1 dX3_may_35 rfl (lv_at hl 2 rfl) ?_
    refine kGet (C := RX3) (T := TX3) (N := 4) (index := 19) hF hK hP (inT inBX3) 0 rfl rfl 1 (by decide) rfl (List.mem_cons_of_mem _ mF_X3_19) rfl dX3_may_36 ?_
    refine lv_if_eq (tgt := 49) hF.1 hF.2.1 dX3_may_39 (by decide) (fun c_4 => ?_) (fun c_4 => ?_)
    · refine lv_iconst (v := (nI 1)) hF.1 hF.2.1 dX3_may_49 (by decide) ?_
      refine lv_goto (tgt := 54) hF.1 hF.2.1 dX3_may_50 (by decide) ?_
      refine kRetI (v := (nI 1)) hF hr hlk hK hP hD hS hQ rfl () [0, 1, 2, 3] (by decide) rfl (by omega) (by omega) dX3_may_54 ?_
      exact zI_1 (by unfold mayP; first | exact Or.inl (by assumption) | (refine Or.inr ?_; simp [*]))
    · refine lv_iload hF.1 hF.2.1 dX3_may_42 (lv_at hl 0 rfl) ?_
      refine lv_iload_n hF.1 hF.2.1 dX3_may_44 rfl (lv_at hl 3 rfl) ?_
      refine lv_iand hF.1 hF.2.1 dX3_may_45 ?_
      refine lv_if_eq (tgt := 53) hF.1 hF.2.1 dX3_may_46 (by decide) (fun c_5 => ?_) (fun c_5 => ?_)
      · refine lv_iconst (v := (nI 0)) hF.1 hF.2.1 dX3_may_53 (by decide) ?_
        refine kRetI (v := (nI 0)) hF hr hlk hK hP hD hS hQ rfl () [0, 1, 2, 3] (by decide) rfl (by omega) (by omega) dX3_may_54 ?_
        exact zI_0 (by unfold mayP; simp_all)
      · refine lv_iconst (v := (nI 1)) hF.1 hF.2.1 dX3_may_49 (by decide) ?_
        refine lv_goto (tgt := 54) hF.1 hF.2.1 dX3_may_50 (by decide) ?_
        refine kRetI (v := (nI 1)) hF hr hlk hK hP hD hS hQ rfl () [0, 1, 2, 3] (by decide) rfl (by omega) (by omega) dX3_may_54 ?_
        exact zI_1 (by unfold mayP; first | exact Or.inl (by assumption) | (refine Or.inr ?_; simp [*]))
  · refine lv_iload_n hF.1 hF.2.1 dX3_may_24 rfl (lv_at hl 0 rfl) ?_
    refine lv_iconst (v := (nI 4)) hF.1 hF.2.1 dX3_may_25 (by decide) ?_
    refine lv_idiv hF.1 hF.2.1 dX3_may_26 (by decide) ?_
    refine lv_goto (tgt := 33) hF.1 hF.2.1 dX3_may_27 (by decide) ?_
    refine lv_istore (lv' := [(4, .int ((mF (ix d)) / (nI 4))), (3, .int (mF (ix d))), (0, .ref se), (1, .int rt), (2, .int d)]) hF.1 hF.2.1 dX3_may_33 hl (by decide) rfl (fun ls hl => ?_)
    refine lv_aload_n hF.1 hF.2.1 dX3_may_35 rfl (lv_at hl 2 rfl) ?_
    refine kGet (C := RX3) (T := TX3) (N := 4) (index := 19) hF hK hP (inT inBX3) 0 rfl rfl 1 (by decide) rfl (List.mem_cons_of_mem _ mF_X3_19) rfl dX3_may_36 ?_
    refine lv_if_eq (tgt := 49) hF.1 hF.2.1 dX3_may_39 (by decide) (fun c_6 => ?_) (fun c_6 => ?_)
    · refine lv_iconst (v := (nI 1)) hF.1 hF.2.1 dX3_may_49 (by decide) ?_
      refine lv_goto (tgt := 54) hF.1 hF.2.1 dX3_may_50 (by decide) ?_
      refine kRetI (v := (nI 1)) hF hr hlk hK hP hD hS hQ rfl () [0, 1, 2, 3] (by decide) rfl (by omega) (by omega) dX3_may_54 ?_
      exact zI_1 (by unfold mayP; first | exact Or.inl (by assumption) | (refine Or.inr ?_; simp [*]))
    · refine lv_iload hF.1 hF.2.1 dX3_may_42 (lv_at hl 0 rfl) ?_
      refine lv_iload_n hF.1 hF.2.1 dX3_may_44 rfl (lv_at hl 3 rfl) ?_
      refine lv_iand hF.1 hF.2.1 dX3_may_45 ?_
      refine lv_if_eq (tgt := 53) hF.1 hF.2.1 dX3_may_46 (by decide) (fun c_7 => ?_) (fun c_7 => ?_)
      · refine lv_iconst (v := (nI 0)) hF.1 hF.2.1 dX3_may_53 (by decide) ?_
        refine kRetI (v := (nI 0)) hF hr hlk hK hP hD hS hQ rfl () [0, 1, 2, 3] (by decide) rfl (by omega) (by omega) dX3_may_54 ?_
        exact zI_0 (by unfold mayP; simp_all)
      · refine lv_iconst (v := (nI 1)) hF.1 hF.2.1 dX3_may_49 (by decide) ?_
        refine lv_goto (tgt := 54) hF.1 hF.2.1 dX3_may_50 (by decide) ?_
        refine kRetI (v := (nI 1)) hF hr hlk hK hP hD hS hQ rfl () [0, 1, 2, 3] (by decide) rfl (by omega) (by omega) dX3_may_54 ?_
        exact zI_1 (by unfold mayP; first | exact Or.inl (by assumption) | (refine Or.inr ?_; simp [*]))
end
section
/-! the walk in pure words: the class's side -/
theorem scan_x {p : Nat → Bool} {n k : Nat} (h : k < n → p k = false) : scan p (n - k) k = k := by
  by_cases hk : k < n
  · exact scan_f hk (h hk)
  · exact scan_e (by omega)
theorem okC_char (x : Int32) : okC (x.toUInt32 % 65536).toInt32 := ⟨x.toBitVec.toNat % 65536, Nat.mod_lt _ (by decide), pk_char x⟩
def chI (z : Int64) : Int32 := (((z &&& lN 255).toInt32).toUInt32 % 65536).toInt32
def usI (z : Int64) : Int64 := (z.toUInt64 >>> ((nI 8).toInt64.toUInt64 &&& Int64.toUInt64 63)).toInt64
def pnb : Nat → Int64 → Nat → (Nat → Int32) → Nat × (Nat → Int32)
  | 0, _, st, f => (st, f)
  | n + 1, z, st, f => if z = lN 0 then (st, f) else pnb n (usI z) (st - 1) (upd f (st - 1) (chI z))
theorem pnb_e {n k st : Nat} {z : Int64} {f : Nat → Int32} (h : n ≤ k) : pnb (n - k) z st f = (st, f) := by rw [Nat.sub_eq_zero_of_le h]; rfl
theorem pnb_0 {n st : Nat} {z : Int64} {f : Nat → Int32} (h : z = lN 0) : pnb n z st f = (st, f) := by
  cases n with
  | zero => rfl
  | succ n => exact if_pos h
theorem pnb_s {n k st : Nat} {z : Int64} {f : Nat → Int32} (hk : k < n) (h : ¬ z = lN 0) : pnb (n - k) z st f = pnb (n - (k + 1)) (usI z) (st - 1) (upd f (st - 1) (chI z)) := by
  rw [show n - k = n - (k + 1) + 1 by omega]; exact if_neg h
theorem pnb_in : ∀ (n : Nat) (z : Int64) (st : Nat) (f : Nat → Int32), n ≤ st → st - n ≤ (pnb n z st f).1 ∧ (pnb n z st f).1 ≤ st
  | 0, z, st, f, h => ⟨Nat.le_refl _, Nat.le_refl _⟩
  | n + 1, z, st, f, h => by
    show st - (n + 1) ≤ (if z = lN 0 then (st, f) else pnb n (usI z) (st - 1) (upd f (st - 1) (chI z))).1 ∧ (if z = lN 0 then (st, f) else pnb n (usI z) (st - 1) (upd f (st - 1) (chI z))).1 ≤ st
    split
    · show st - (n + 1) ≤ st ∧ st ≤ st; omega
    · have := pnb_in n (usI z) (st - 1) (upd f (st - 1) (chI z)) (by omega); omega
def tuC (rF cF : Nat → Int32) (vn : Nat) (dF : Nat → Int32) (nF : Nat → Int64) (bF : Nat → Int32) (ec : Nat) (d : Int32) (nm : Int64) : Int32 := if fndE dF nF d nm ec < ec then topC rF cF vn 4 (bF (fndE dF nF d nm ec)) else -1
/-- a link's text comes before the rest -/
def plC (st : Nat) (f : Nat → Int32) (n : Nat) (fl : Nat → Int32) (wa ro : Int32) (hp : Nat) : Int32 × Nat × (Nat → Int32) × Int32 := if 8 < hp + 1 then (-4, st, f, wa) else if n ≤ st then (nI 0, st - n, va_cpy fl f 0 (st - n) n, if fl 0 = nI 47 then ro else wa) else (-5, st, f, wa)
theorem cpy_0 {fl f : Nat → Int32} {k n : Nat} (h : 0 < n) : va_cpy fl f 0 k n k = fl 0 := by unfold va_cpy; rw [if_pos (by omega)]; congr 1; omega
/-- where a name leads, before links -/
def nxC (rF cF pF : Nat → Int32) (vn : Nat) (dF : Nat → Int32) (nF : Nat → Int64) (bF : Nat → Int32) (ec : Nat) (wa ro : Int32) (nm : Int64) : Int32 := if nm = lN 11822 then abvC rF cF pF vn wa ro else if nm = lN 46 then wa else tuC rF cF vn dF nF bF ec wa nm
noncomputable def pnC (kF : Nat → Int32) (LN : Nat → Nat) (LF : Nat → Nat → Int32) (nx : Int32) (st : Nat) (f : Nat → Int32) (wa ro : Int32) (hp : Nat) (la sl : Prop) (fo : Int32) : Int32 × Nat × (Nat → Int32) × Int32 × Nat :=
  if nx = -1 then (-1, st, f, wa, hp) else pI (kF (ix nx) = nI 3 ∧ (¬ la ∨ sl ∨ ¬ fo = 0)) ((plC st f (LN (ix nx)) (LF (ix nx)) wa ro hp).1, (plC st f (LN (ix nx)) (LF (ix nx)) wa ro hp).2.1, (plC st f (LN (ix nx)) (LF (ix nx)) wa ro hp).2.2.1, (plC st f (LN (ix nx)) (LF (ix nx)) wa ro hp).2.2.2, hp + 1) (pI (sl ∧ ¬ kF (ix nx) = nI 1) (-2) (nI 0), st, f, nx, hp)
theorem tuC_in {rF cF : Nat → Int32} {vn : Nat} {dF : Nat → Int32} {nF : Nat → Int64} {bF : Nat → Int32} {ec : Nat} {d : Int32} {nm : Int64} (hvn : 1 ≤ vn ∧ vn ≤ 4) (hrr : ∀ v, v < 4 → vp_in (rF v) 40) (hbr : ∀ k, k < ec → vp_in (bF k) 40) : tuC rF cF vn dF nF bF ec d nm = -1 ∨ vp_in (tuC rF cF vn dF nF bF ec d nm) 40 := by
  unfold tuC
  split
  · rename_i h; exact Or.inr (topC_in hrr (hbr _ h))
  · exact Or.inl rfl
theorem nxC_in {rF cF pF : Nat → Int32} {vn : Nat} {dF : Nat → Int32} {nF : Nat → Int64} {bF : Nat → Int32} {ec : Nat} {wa ro : Int32} {nm : Int64} (hvn : 1 ≤ vn ∧ vn ≤ 4) (hcr : ∀ v, v < 4 → cF v = -1 ∨ vp_in (cF v) 40) (hrr : ∀ v, v < 4 → vp_in (rF v) 40) (hpr : ∀ i, i < 40 → vp_in (pF i) 40) (hbr : ∀ k, k < ec → vp_in (bF k) 40) (hwa : vp_in wa 40) (hro : vp_in ro 40) : nxC rF cF pF vn dF nF bF ec wa ro nm = -1 ∨ vp_in (nxC rF cF pF vn dF nF bF ec wa ro nm) 40 := by
  unfold nxC
  split
  · exact Or.inr (abvC_in hvn hcr hrr hpr hwa hro)
  · split
    · exact Or.inr hwa
    · exact tuC_in hvn hrr hbr
/-- the links' texts, as the class holds them: cells among pl -/
def TgOK (G : GG) (kF : Nat → Int32) (tF : Nat → Option Nat) (pl : va_W) (LN : Nat → Nat) (LF : Nat → Nat → Int32) : Prop := ∀ i, i < 40 → kF i = nI 3 → 0 < LN i ∧ LN i ≤ 40 ∧ (∀ j, okC (LF i j)) ∧ ∃ y b k1 k2 : Nat, tF i = some y ∧ pl[k1]? = some (oC y 1 [.ref b, .int (nI (LN i))]) ∧ pl[k2]? = some (aC G b 40 (LF i))
theorem vaP_perm {D : va_G} {cl : List vw_C} {w1 w2 : va_W} {H : Heap} (h : w1.Perm w2) (hP : va_P D cl w1 H) : va_P D cl w2 H := fun k q hq => by
  obtain ⟨i, hi⟩ := List.getElem?_of_mem (h.mem_iff.mpr (List.mem_of_getElem? hq))
  exact hP i q hi
theorem vaD_iff {A : Nat → Prop} {w : va_W} : va_D A w ↔ (w.map Prod.fst).Nodup ∧ ∀ q ∈ w, A q.1 := by
  constructor
  · intro h
    refine ⟨?_, fun q hq => by obtain ⟨i, hi⟩ := List.getElem?_of_mem hq; exact h.2 i q hi⟩
    refine List.pairwise_iff_getElem.mpr (fun i j hi hj hij he => ?_)
    rw [List.length_map] at hi hj
    rw [List.getElem_map, List.getElem_map] at he
    have := h.1 i j w[i] w[j] (List.getElem?_eq_getElem hi) (List.getElem?_eq_getElem hj) he
    omega
  · intro h
    refine ⟨fun i j p q hp hq he => ?_, fun k q hq => h.2 q (List.mem_of_getElem? hq)⟩
    obtain ⟨hi, ei⟩ := List.getElem?_eq_some_iff.mp hp
    obtain ⟨hj, ej⟩ := List.getElem?_eq_some_iff.mp hq
    have hpw := List.pairwise_iff_getElem.mp h.1
    rcases Nat.lt_trichotomy i j with h1 | h1 | h1
    · refine absurd ?_ (hpw i j (by rw [List.length_map]; exact hi) (by rw [List.length_map]; exact hj) h1)
      rw [List.getElem_map, List.getElem_map, ei, ej]; exact he
    · exact h1
    · refine absurd ?_ (hpw j i (by rw [List.length_map]; exact hj) (by rw [List.length_map]; exact hi) h1)
      rw [List.getElem_map, List.getElem_map, ei, ej]; exact he.symm
theorem vaD_perm {A : Nat → Prop} {w1 w2 : va_W} (h : w1.Perm w2) (hD : va_D A w1) : va_D A w2 := by
  rw [vaD_iff] at hD ⊢
  exact ⟨(h.map Prod.fst).nodup_iff.mp hD.1, fun q hq => hD.2 q (h.mem_iff.mpr hq)⟩
theorem pl_two {pl : va_W} {x y : Nat × va_E} {k1 k2 : Nat} (h1 : pl[k1]? = some x) (h2 : pl[k2]? = some y) (hne : x ≠ y) : ∃ pl', pl.Perm (x :: y :: pl') := by
  obtain ⟨l1, l2, rfl⟩ := List.append_of_mem (List.mem_of_getElem? h1)
  have hy : y ∈ l1 ++ l2 := by
    have := List.mem_of_getElem? h2
    simp only [List.mem_append, List.mem_cons] at this ⊢
    rcases this with h | h | h
    · exact Or.inl h
    · exact absurd h.symm hne
    · exact Or.inr h
  obtain ⟨m1, m2, hm⟩ := List.append_of_mem hy
  refine ⟨m1 ++ m2, ?_⟩
  have p1 : (l1 ++ x :: l2).Perm (x :: (l1 ++ l2)) := List.perm_middle
  have p2 : (l1 ++ l2).Perm (y :: (m1 ++ m2)) := by rw [hm]; exact List.perm_middle
  exact p1.trans (List.Perm.cons x p2)
def bgA (fl : Nat → Int32) (ro pr : Int32) : Int32 := if fl 0 = nI 47 then ro else pr
theorem first_z {v : Int32} {P : Prop} (h : (v = nI 1 ∧ P) ∨ (v = nI 0 ∧ ¬ P)) : v = zI P := by
  rcases h with ⟨rfl, h⟩ | ⟨rfl, h⟩
  · exact zI_1 h
  · exact zI_0 h
end
section
set_option maxHeartbeats 4000000 in
set_option maxRecDepth 100000 in
theorem c_X1_copy (l : Launch) (G : GG) (sz : Nat) (a : Nat) (b : Nat) (n : Nat) (f : Nat → Int32) (a2 : Nat) (b2 : Nat) (n0 : Nat) (fl : Nat → Int32) (hn : n ≤ 40) (hfl : ∀ j, okC (fl j)) : CtV l G yX1_copy wsX1_copy 1 40 0 0 sz [.ref a, .ref a2] [oC a 1 [.ref b, .int (nI n0)], aC G b 40 f, oC a2 1 [.ref b2, .int (nI n)], aC G b2 40 fl] (fun (_ : Unit) => True) (fun (_ : Unit) => [oC a 1 [.ref b, .int (nI n)], aC G b 40 (va_cpy fl f 0 0 n), oC a2 1 [.ref b2, .int (nI n)], aC G b2 40 fl]) := by
  refine kMet (Qc := fun A => va_Qv _ (Bw G A _) A) (cc := cX1_copy) (nL := 2) (ret := none) (by decide) rfl (Nat.le_of_ble_eq_true rfl) ?_
  intro p e s m args below meth c A Q hF hr hlk hnme hK hP hD hA hS hQ hsz ls hl
  have hl : lv_has ls 2 [(0, .ref a), (1, .ref a2)] := hl
  refine lv_aload_n hF.1 hF.2.1 dX1_copy_0 rfl (lv_at hl 1 rfl) ?_
  refine kGet (C := RX1) (T := TX1) (N := 2) (index := 9) hF hK hP (inT inBX1) 2 rfl rfl 0 (by decide) rfl (List.mem_cons_of_mem _ mF_X1_9) rfl dX1_copy_1 ?_
  refine lv_iconst (v := (nI 0)) hF.1 hF.2.1 dX1_copy_4 (by decide) ?_
  refine lv_aload_n hF.1 hF.2.1 dX1_copy_5 rfl (lv_at hl 0 rfl) ?_
  refine kGet (C := RX1) (T := TX1) (N := 2) (index := 9) hF hK hP (inT inBX1) 0 rfl rfl 0 (by decide) rfl (List.mem_cons_of_mem _ mF_X1_9) rfl dX1_copy_6 ?_
  refine lv_iconst (v := (nI 0)) hF.1 hF.2.1 dX1_copy_9 (by decide) ?_
  refine lv_aload_n hF.1 hF.2.1 dX1_copy_10 rfl (lv_at hl 1 rfl) ?_
  refine kGet (C := RX1) (T := TX1) (N := 2) (index := 15) hF hK hP (inT inBX1) 2 rfl rfl 1 (by decide) rfl (List.mem_cons_of_mem _ mF_X1_15) rfl dX1_copy_11 ?_
  refine kCopyC hF mL_X1_19 hl.1 hK hP hD hS 3 1 rfl rfl (by omega) (by omega) (by omega) (by omega) (by omega) (hfl) (Nat.le_of_ble_eq_true rfl) (Nat.le_of_ble_eq_true rfl) dX1_copy_14 (fun H locs hP hD hS => ?_)
  have hP : PG G [oC a 1 [.ref b, .int (nI n0)], aC G b 40 (va_cpy fl f 0 0 n), oC a2 1 [.ref b2, .int (nI n)], aC G b2 40 fl] H := hP
  have hD : va_D A [oC a 1 [.ref b, .int (nI n0)], aC G b 40 (va_cpy fl f 0 0 n), oC a2 1 [.ref b2, .int (nI n)], aC G b2 40 fl] := hD
  refine lv_aload_n hF.1 hF.2.1 dX1_copy_17 rfl (lv_at hl 0 rfl) ?_
  refine lv_aload_n hF.1 hF.2.1 dX1_copy_18 rfl (lv_at hl 1 rfl) ?_
  refine kGet (C := RX1) (T := TX1) (N := 2) (index := 15) hF hK hP (inT inBX1) 2 rfl rfl 1 (by decide) rfl (List.mem_cons_of_mem _ mF_X1_15) rfl dX1_copy_19 ?_
  refine kPut (C := RX1) (T := TX1) (N := 2) (index := 15) (v := .int (nI n)) hF hK hP hD hS (inT inBX1) tyX1_ok nmX1 0 rfl rfl 1 (by decide) rfl (List.mem_cons_of_mem _ mF_X1_15) rfl rfl rfl (Nat.le_of_ble_eq_true rfl) dX1_copy_22 (fun H locs hP hD hS => ?_)
  have hP : PG G [oC a 1 [.ref b, .int (nI n)], aC G b 40 (va_cpy fl f 0 0 n), oC a2 1 [.ref b2, .int (nI n)], aC G b2 40 fl] H := hP
  have hD : va_D A [oC a 1 [.ref b, .int (nI n)], aC G b 40 (va_cpy fl f 0 0 n), oC a2 1 [.ref b2, .int (nI n)], aC G b2 40 fl] := hD
  refine kRetV hF hr hlk hK hP hD hS hQ () [0, 1, 2, 3] (by decide) rfl (by omega) (by omega) dX1_copy_25 ?_
  exact (by first | rfl | trivial | exact zI_1 (by first | assumption | omega) | exact zI_0 (by first | assumption | omega) | (simp_all; done))
set_option maxHeartbeats 4000000 in
set_option maxRecDepth 100000 in
theorem c_X2_putLineBefore (l : Launch) (G : GG) (sz : Nat) (a : Nat) (b : Nat) (st : Nat) (f : Nat → Int32) (a2 : Nat) (b2 : Nat) (n : Nat) (fl : Nat → Int32) (hs : st ≤ 60) (hn : n ≤ 40) (h0 : 0 < n) (hfl : ∀ j, okC (fl j)) : CtI l G yX2_putLineBefore wsX2_putLineBefore 1 21 0 0 sz [.ref a, .ref a2] [oC a 2 [.ref b, .int (nI st)], aC G b 60 f, oC a2 1 [.ref b2, .int (nI n)], aC G b2 40 fl] (fun r (u : Nat × (Nat → Int32)) => match u with | (s2, f2) => r = (zI (n ≤ st)) ∧ (n ≤ st → s2 = st - n ∧ f2 = va_cpy fl f 0 (st - n) n) ∧ (¬ n ≤ st → s2 = st ∧ f2 = f)) (fun (u : Nat × (Nat → Int32)) => match u with | (s2, f2) => [oC a 2 [.ref b, .int (nI s2)], aC G b 60 f2, oC a2 1 [.ref b2, .int (nI n)], aC G b2 40 fl]) := by
  refine kMet (Qc := fun A => va_Qi _ (Bw G A _) A) (cc := cX2_putLineBefore) (nL := 3) (ret := some (.boolean)) (by decide) rfl (Nat.le_of_ble_eq_true rfl) ?_
  intro p e s m args below meth c A Q hF hr hlk hnme hK hP hD hA hS hQ hsz ls hl
  have hl : lv_has ls 3 [(0, .ref a), (1, .ref a2)] := hl
  refine lv_aload_n hF.1 hF.2.1 dX2_putLineBefore_0 rfl (lv_at hl 1 rfl) ?_
  refine kCallI (wr := [oC a 2 [.ref b, .int (nI st)], aC G b 60 f]) (va_runV (As := []) (rest := []) hF (c_X1_size l G _ a2 b2 n fl) (cwVB 0 hF rfl mL_X2_19 mI_X1_size mS_X1_size mN_X1 mC_X1_size rfl hd_X1_size rfl rfl ⟨Nat.le_of_ble_eq_true rfl, Nat.le_of_ble_eq_true rfl⟩) (kPre hK hP hD [2, 3] (by decide) rfl (q0 := 2) (ci := 1) rfl rfl rfl) rfl rfl hl.1 rfl (lv_room (Nat.le_of_ble_eq_true rfl)) dX2_putLineBefore_1 ⟨by omega, by omega⟩) hP hD hS hA [2, 3] [0, 1] rfl rfl (by decide) (by decide) (fun r u H locs hw_1 hP hD hS => ?_)
  subst hw_1
  have hP : PG G [oC a 2 [.ref b, .int (nI st)], aC G b 60 f, oC a2 1 [.ref b2, .int (nI n)], aC G b2 40 fl] H := hP
  have hD : va_D A [oC a 2 [.ref b, .int (nI st)], aC G b 60 f, oC a2 1 [.ref b2, .int (nI n)], aC G b2 40 fl] := hD
  refine lv_aload_n hF.1 hF.2.1 dX2_putLineBefore_4 rfl (lv_at hl 0 rfl) ?_
  refine kGet (C := RX2) (T := TX2) (N := 2) (index := 15) hF hK hP (inT inBX2) 0 rfl rfl 1 (by decide) rfl (List.mem_cons_of_mem _ mF_X2_15) rfl dX2_putLineBefore_5 ?_
  refine kLeN (tgt := 13) hF dX2_putLineBefore_8 (by decide) (by omega) (by omega) (fun c_2 => ?_) (fun c_2 => ?_)
  · refine lv_aload_n hF.1 hF.2.1 dX2_putLineBefore_13 rfl (lv_at hl 1 rfl) ?_
    refine kCallI (wr := [oC a 2 [.ref b, .int (nI st)], aC G b 60 f]) (va_runV (As := []) (rest := []) hF (c_X1_size l G H.size a2 b2 n fl) (cwVB 0 hF rfl mL_X2_19 mI_X1_size mS_X1_size mN_X1 mC_X1_size rfl hd_X1_size rfl rfl ⟨Nat.le_of_ble_eq_true rfl, Nat.le_of_ble_eq_true rfl⟩) (kPre hK hP hD [2, 3] (by decide) rfl (q0 := 2) (ci := 1) rfl rfl rfl) rfl rfl hl.1 rfl (lv_room (Nat.le_of_ble_eq_true rfl)) dX2_putLineBefore_14 ⟨by omega, by omega⟩) hP hD hS hA [2, 3] [0, 1] rfl rfl (by decide) (by decide) (fun r u H locs hw_3 hP hD hS => ?_)
    subst hw_3
    have hP : PG G [oC a 2 [.ref b, .int (nI st)], aC G b 60 f, oC a2 1 [.ref b2, .int (nI n)], aC G b2 40 fl] H := hP
    have hD : va_D A [oC a 2 [.ref b, .int (nI st)], aC G b 60 f, oC a2 1 [.ref b2, .int (nI n)], aC G b2 40 fl] := hD
    refine lv_iconst (v := (nI 1)) hF.1 hF.2.1 dX2_putLineBefore_17 (by decide) ?_
    refine lv_isub hF.1 hF.2.1 dX2_putLineBefore_18 ?_
    refine lv_istore_n (lv' := [(2, .int ((nI n) - (nI 1))), (0, .ref a), (1, .ref a2)]) hF.1 hF.2.1 dX2_putLineBefore_19 rfl hl (by decide) rfl (fun ls hl => ?_)
    have loop_20 : ∀ (n_20 : Nat) (i s1 : Nat) (f1 : Nat → Int32), i < n_20 → i ≤ n ∧ s1 = st - (n - i) → f1 = va_cpy fl f i s1 (n - i) → ∀ (H : Heap) (locs : List Loc) (ls : Array Slot), PG G [oC a 2 [.ref b, .int (nI s1)], aC G b 60 f1, oC a2 1 [.ref b2, .int (nI n)], aC G b2 40 fl] H → va_D A [oC a 2 [.ref b, .int (nI s1)], aC G b 60 f1, oC a2 1 [.ref b2, .int (nI n)], aC G b2 40 fl] → va_S A s.heap H locs → lv_has ls 3 [(2, .int ((nI i) - (nI 1))), (0, .ref a), (1, .ref a2)] → W p l e (Rm 1 0 0 21) s m args below meth c H locs 0 0 Q (F0 m 20 ls []) := by
      intro n_20
      induction n_20 with
      | zero => intro i s1 f1 hm; exact absurd hm (Nat.not_lt_zero _)
      | succ n_20 ih_20 =>
        intro i s1 f1 hm_20 hi hf1 H locs ls hP hD hS hl
        refine lv_iload_n hF.1 hF.2.1 dX2_putLineBefore_20 rfl (lv_at hl 0 rfl) ?_
        refine lv_if_lt (tgt := 39) hF.1 hF.2.1 dX2_putLineBefore_21 (by decide) (fun c_4 => ?_) (fun c_4 => ?_)
        · have c_4 := (nI_m1lt (by omega)).1 c_4
          refine lv_iconst (v := (nI 1)) hF.1 hF.2.1 dX2_putLineBefore_39 (by decide) ?_
          refine kRetI (v := (nI 1)) hF hr hlk hK hP hD hS hQ rfl (s1, f1) [0, 1, 2, 3] (by decide) rfl (by omega) (by omega) dX2_putLineBefore_40 ?_
          exact ⟨zI_1 (by omega), fun _ => ⟨by omega, by rw [hf1, show i = 0 by omega, show s1 = st - n by omega, Nat.sub_zero]⟩, fun h => absurd (by omega) h⟩
        · have c_4 : ¬ i = 0 := fun h => c_4 ((nI_m1lt (by omega)).2 h)
          rw [pk_sub (by omega)] at hl
          refine lv_aload_n hF.1 hF.2.1 dX2_putLineBefore_24 rfl (lv_at hl 1 rfl) ?_
          refine lv_aload_n hF.1 hF.2.1 dX2_putLineBefore_25 rfl (lv_at hl 2 rfl) ?_
          refine lv_iload_n hF.1 hF.2.1 dX2_putLineBefore_26 rfl (lv_at hl 0 rfl) ?_
          refine kCallI (wr := [oC a 2 [.ref b, .int (nI s1)], aC G b 60 f1]) (va_runV (As := [.int (nI (i - 1))]) (rest := [.ref a]) hF (c_X1_mark l G H.size a2 b2 n fl (i - 1) (by first | assumption | omega) (by first | assumption | omega) (by first | assumption | omega)) (cwVB 1 hF rfl mL_X2_25 mI_X1_mark mS_X1_mark mN_X1 mC_X1_mark rfl hd_X1_mark rfl rfl ⟨Nat.le_of_ble_eq_true rfl, Nat.le_of_ble_eq_true rfl⟩) (kPre hK hP hD [2, 3] (by decide) rfl (q0 := 2) (ci := 1) rfl rfl rfl) rfl rfl hl.1 rfl (lv_room (Nat.le_of_ble_eq_true rfl)) dX2_putLineBefore_27 ⟨by omega, by omega⟩) hP hD hS hA [2, 3] [0, 1] rfl rfl (by decide) (by decide) (fun r u H locs hw_5 hP hD hS => ?_)
          subst hw_5
          have hP : PG G [oC a 2 [.ref b, .int (nI s1)], aC G b 60 f1, oC a2 1 [.ref b2, .int (nI n)], aC G b2 40 fl] H := hP
          have hD : va_D A [oC a 2 [.ref b, .int (nI s1)], aC G b 60 f1, oC a2 1 [.ref b2, .int (nI n)], aC G b2 40 fl] := hD
          refine kCallV (wr := [oC a2 1 [.ref b2, .int (nI n)], aC G b2 40 fl]) (va_runV (As := [.int (fl (i - 1))]) (rest := []) hF (c_X2_putBefore l G H.size a b s1 f1 (fl (i - 1)) (by first | assumption | omega) (by first | assumption | omega) (hfl _)) (cwVB 1 hF rfl mL_X2_29 mI_X2_putBefore mS_X2_putBefore mN_X2 mC_X2_putBefore rfl hd_X2_putBefore rfl rfl ⟨Nat.le_of_ble_eq_true rfl, Nat.le_of_ble_eq_true rfl⟩) (kPre hK hP hD [0, 1] (by decide) rfl (q0 := 0) (ci := 2) rfl rfl rfl) rfl rfl hl.1 rfl (lv_room (Nat.le_of_ble_eq_true rfl)) dX2_putLineBefore_30 ⟨by omega, by omega⟩) hP hD hS hA [0, 1] [2, 3] rfl rfl (by decide) (by decide) (fun u H locs hw_6 hP hD hS => ?_)
          have hP : PG G [oC a 2 [.ref b, .int (nI (s1 - 1))], aC G b 60 (upd f1 (s1 - 1) (fl (i - 1))), oC a2 1 [.ref b2, .int (nI n)], aC G b2 40 fl] H := va_P.sub hP [2, 3, 0, 1] rfl
          have hD : va_D A [oC a 2 [.ref b, .int (nI (s1 - 1))], aC G b 60 (upd f1 (s1 - 1) (fl (i - 1))), oC a2 1 [.ref b2, .int (nI n)], aC G b2 40 fl] := va_D.sub hD [2, 3, 0, 1] (by decide) rfl
          refine lv_iinc (v := ((nI (i - 1)) - (nI 1))) (lv' := [(2, .int ((nI (i - 1)) - (nI 1))), (0, .ref a), (1, .ref a2)]) hF.1 hF.2.1 dX2_putLineBefore_33 hl (k := 0) rfl (nI_m1s _) (by decide) rfl (fun ls hl => ?_)
          refine lv_goto (tgt := 20) hF.1 hF.2.1 dX2_putLineBefore_36 (by decide) ?_
          exact ih_20 (i - 1) (s1 - 1) (upd f1 (s1 - 1) (fl (i - 1))) (by omega) (by omega) (by rw [hf1]; have := cpy_s (fl := fl) (f := f) (n := n) (st := st) (i := n - i) (by omega) (by omega); rw [show n - (n - i) = i by omega, show st - (n - i) = s1 by omega] at this; rw [this, show n - (i - 1) = n - i + 1 by omega]) H locs ls hP hD hS (lv_sub hl [0, 1, 2] rfl)
    exact loop_20 _ n st f (Nat.lt_succ_self _) (by omega) (by rw [Nat.sub_self]; funext j; unfold va_cpy; rw [if_neg (by omega)]) _ _ _ hP hD hS (lv_sub hl [0, 1, 2] rfl)
  · refine lv_iconst (v := (nI 0)) hF.1 hF.2.1 dX2_putLineBefore_11 (by decide) ?_
    refine kRetI (v := (nI 0)) hF hr hlk hK hP hD hS hQ rfl (st, f) [0, 1, 2, 3] (by decide) rfl (by omega) (by omega) dX2_putLineBefore_12 ?_
    exact ⟨zI_0 (by omega), fun h => absurd h (by omega), fun _ => ⟨rfl, rfl⟩⟩
set_option maxHeartbeats 4000000 in
set_option maxRecDepth 100000 in
theorem c_X2_putNameBefore (l : Launch) (G : GG) (sz : Nat) (a : Nat) (b : Nat) (st : Nat) (f : Nat → Int32) (nm : Int64) (hs : 7 ≤ st ∧ st ≤ 60) : CtV l G yX2_putNameBefore wsX2_putNameBefore 1 21 0 0 sz [.ref a, .long nm] [oC a 2 [.ref b, .int (nI st)], aC G b 60 f] (fun (_ : Unit) => True) (fun (_ : Unit) => [oC a 2 [.ref b, .int (nI ((pnb 6 nm st f).1 - 1))], aC G b 60 (upd (pnb 6 nm st f).2 ((pnb 6 nm st f).1 - 1) (nI 47))]) := by
  refine kMet (Qc := fun A => va_Qv _ (Bw G A _) A) (cc := cX2_putNameBefore) (nL := 6) (ret := none) (by decide) rfl (Nat.le_of_ble_eq_true rfl) ?_
  intro p e s m args below meth c A Q hF hr hlk hnme hK hP hD hA hS hQ hsz ls hl
  have hl : lv_has ls 6 [(0, .ref a), (1, .long nm)] := hl
  refine lv_lload_n hF.1 hF.2.1 dX2_putNameBefore_0 rfl (lv_at hl 1 rfl) ?_
  refine lv_lstore_n (lv' := [(3, .long nm), (0, .ref a), (1, .long nm)]) hF.1 hF.2.1 dX2_putNameBefore_1 rfl hl (by decide) rfl (fun ls hl => ?_)
  refine lv_iconst (v := (nI 0)) hF.1 hF.2.1 dX2_putNameBefore_2 (by decide) ?_
  refine lv_istore (lv' := [(5, .int (nI 0)), (3, .long nm), (0, .ref a), (1, .long nm)]) hF.1 hF.2.1 dX2_putNameBefore_3 hl (by decide) rfl (fun ls hl => ?_)
  have loop_5 : ∀ (n_5 : Nat) (k : Nat) (z : Int64) (s1 : Nat) (f1 : Nat → Int32), 6 - k < n_5 → k ≤ 6 ∧ 7 - k ≤ s1 ∧ s1 ≤ 60 → pnb (6 - k) z s1 f1 = pnb 6 nm st f → ∀ (H : Heap) (locs : List Loc) (ls : Array Slot), PG G [oC a 2 [.ref b, .int (nI s1)], aC G b 60 f1] H → va_D A [oC a 2 [.ref b, .int (nI s1)], aC G b 60 f1] → va_S A s.heap H locs → lv_has ls 6 [(5, .int (nI k)), (3, .long z), (0, .ref a), (1, .long nm)] → W p l e (Rm 1 0 0 21) s m args below meth c H locs 0 0 Q (F0 m 5 ls []) := by
    intro n_5
    induction n_5 with
    | zero => intro k z s1 f1 hm; exact absurd hm (Nat.not_lt_zero _)
    | succ n_5 ih_5 =>
      intro k z s1 f1 hm_5 hk hR H locs ls hP hD hS hl
      refine lv_iload hF.1 hF.2.1 dX2_putNameBefore_5 (lv_at hl 0 rfl) ?_
      refine lv_bipush (v := (nI 6)) hF.1 hF.2.1 dX2_putNameBefore_7 (by decide) ?_
      refine kGeN (tgt := 40) hF dX2_putNameBefore_9 (by decide) (by omega) (by omega) (fun c_1 => ?_) (fun c_1 => ?_)
      · have hE : pnb 6 nm st f = (s1, f1) := by rw [← hR]; first | exact pnb_0 (by assumption) | exact pnb_e (by omega)
        have hb := pnb_in 6 nm st f (by omega)
        rw [show s1 = (pnb 6 nm st f).1 from by rw [hE], show f1 = (pnb 6 nm st f).2 from by rw [hE]] at hP hD
        refine lv_aload_n hF.1 hF.2.1 dX2_putNameBefore_40 rfl (lv_at hl 2 rfl) ?_
        refine lv_bipush (v := (nI 47)) hF.1 hF.2.1 dX2_putNameBefore_41 (by decide) ?_
        refine kCallV (wr := []) (va_runV (As := [.int (nI 47)]) (rest := []) hF (c_X2_putBefore l G _ a b ((pnb 6 nm st f).1) ((pnb 6 nm st f).2) (nI 47) (by first | assumption | omega) (by first | assumption | omega) (by first | exact okC_char _ | exact okC_n (by decide))) (cwVB 1 hF rfl mL_X2_29 mI_X2_putBefore mS_X2_putBefore mN_X2 mC_X2_putBefore rfl hd_X2_putBefore rfl rfl ⟨Nat.le_of_ble_eq_true rfl, Nat.le_of_ble_eq_true rfl⟩) (kPre hK hP hD [0, 1] (by decide) rfl (q0 := 0) (ci := 2) rfl rfl rfl) rfl rfl hl.1 rfl (lv_room (Nat.le_of_ble_eq_true rfl)) dX2_putNameBefore_43 ⟨by omega, by omega⟩) hP hD hS hA [0, 1] [] rfl rfl (by decide) (by decide) (fun u H locs hw_2 hP hD hS => ?_)
        have hP : PG G [oC a 2 [.ref b, .int (nI (((pnb 6 nm st f).1) - 1))], aC G b 60 (upd ((pnb 6 nm st f).2) (((pnb 6 nm st f).1) - 1) (nI 47))] H := hP
        have hD : va_D A [oC a 2 [.ref b, .int (nI (((pnb 6 nm st f).1) - 1))], aC G b 60 (upd ((pnb 6 nm st f).2) (((pnb 6 nm st f).1) - 1) (nI 47))] := hD
        refine kRetV hF hr hlk hK hP hD hS hQ () [0, 1] (by decide) rfl (by omega) (by omega) dX2_putNameBefore_46 ?_
        trivial
      · refine lv_lload_n hF.1 hF.2.1 dX2_putNameBefore_12 rfl (lv_at hl 1 rfl) ?_
        refine lv_lconst (v := lN 0) hF.1 hF.2.1 dX2_putNameBefore_13 (by decide) ?_
        refine W.lcmp hF.1 hF.2.1 dX2_putNameBefore_14 ?_
        refine kIfEqC (tgt := 40) hF dX2_putNameBefore_15 (by decide) (fun c_3 => ?_) (fun c_3 => ?_)
        · have hE : pnb 6 nm st f = (s1, f1) := by rw [← hR]; first | exact pnb_0 (by assumption) | exact pnb_e (by omega)
          have hb := pnb_in 6 nm st f (by omega)
          rw [show s1 = (pnb 6 nm st f).1 from by rw [hE], show f1 = (pnb 6 nm st f).2 from by rw [hE]] at hP hD
          refine lv_aload_n hF.1 hF.2.1 dX2_putNameBefore_40 rfl (lv_at hl 2 rfl) ?_
          refine lv_bipush (v := (nI 47)) hF.1 hF.2.1 dX2_putNameBefore_41 (by decide) ?_
          refine kCallV (wr := []) (va_runV (As := [.int (nI 47)]) (rest := []) hF (c_X2_putBefore l G _ a b ((pnb 6 nm st f).1) ((pnb 6 nm st f).2) (nI 47) (by first | assumption | omega) (by first | assumption | omega) (by first | exact okC_char _ | exact okC_n (by decide))) (cwVB 1 hF rfl mL_X2_29 mI_X2_putBefore mS_X2_putBefore mN_X2 mC_X2_putBefore rfl hd_X2_putBefore rfl rfl ⟨Nat.le_of_ble_eq_true rfl, Nat.le_of_ble_eq_true rfl⟩) (kPre hK hP hD [0, 1] (by decide) rfl (q0 := 0) (ci := 2) rfl rfl rfl) rfl rfl hl.1 rfl (lv_room (Nat.le_of_ble_eq_true rfl)) dX2_putNameBefore_43 ⟨by omega, by omega⟩) hP hD hS hA [0, 1] [] rfl rfl (by decide) (by decide) (fun u H locs hw_4 hP hD hS => ?_)
          have hP : PG G [oC a 2 [.ref b, .int (nI (((pnb 6 nm st f).1) - 1))], aC G b 60 (upd ((pnb 6 nm st f).2) (((pnb 6 nm st f).1) - 1) (nI 47))] H := hP
          have hD : va_D A [oC a 2 [.ref b, .int (nI (((pnb 6 nm st f).1) - 1))], aC G b 60 (upd ((pnb 6 nm st f).2) (((pnb 6 nm st f).1) - 1) (nI 47))] := hD
          refine kRetV hF hr hlk hK hP hD hS hQ () [0, 1] (by decide) rfl (by omega) (by omega) dX2_putNameBefore_46 ?_
          trivial
        · refine lv_aload_n hF.1 hF.2.1 dX2_putNameBefore_18 rfl (lv_at hl 2 rfl) ?_
          refine lv_lload_n hF.1 hF.2.1 dX2_putNameBefore_19 rfl (lv_at hl 1 rfl) ?_
          refine lv_ldc2 (v := lN 255) hF.1 hF.2.1 hF.2.2.2.1 (hF.2.2.2.2 _ (List.mem_cons_of_mem _ mG_X2_33)) dX2_putNameBefore_20 ?_
          refine lv_land hF.1 hF.2.1 dX2_putNameBefore_23 ?_
          refine lv_l2i hF.1 hF.2.1 dX2_putNameBefore_24 rfl ?_
          refine lv_i2c hF.1 hF.2.1 dX2_putNameBefore_25 rfl ?_
          refine kCallV (wr := []) (va_runV (As := [.int ((((z &&& (lN 255)).toInt32).toUInt32 % 65536).toInt32)]) (rest := []) hF (c_X2_putBefore l G _ a b s1 f1 ((((z &&& (lN 255)).toInt32).toUInt32 % 65536).toInt32) (by first | assumption | omega) (by first | assumption | omega) (by first | exact okC_char _ | exact okC_n (by decide))) (cwVB 1 hF rfl mL_X2_29 mI_X2_putBefore mS_X2_putBefore mN_X2 mC_X2_putBefore rfl hd_X2_putBefore rfl rfl ⟨Nat.le_of_ble_eq_true rfl, Nat.le_of_ble_eq_true rfl⟩) (kPre hK hP hD [0, 1] (by decide) rfl (q0 := 0) (ci := 2) rfl rfl rfl) rfl rfl hl.1 rfl (lv_room (Nat.le_of_ble_eq_true rfl)) dX2_putNameBefore_26 ⟨by omega, by omega⟩) hP hD hS hA [0, 1] [] rfl rfl (by decide) (by decide) (fun u H locs hw_5 hP hD hS => ?_)
          have hP : PG G [oC a 2 [.ref b, .int (nI (s1 - 1))], aC G b 60 (upd f1 (s1 - 1) ((((z &&& (lN 255)).toInt32).toUInt32 % 65536).toInt32))] H := hP
          have hD : va_D A [oC a 2 [.ref b, .int (nI (s1 - 1))], aC G b 60 (upd f1 (s1 - 1) ((((z &&& (lN 255)).toInt32).toUInt32 % 65536).toInt32))] := hD
          refine lv_lload_n hF.1 hF.2.1 dX2_putNameBefore_29 rfl (lv_at hl 1 rfl) ?_
          refine lv_bipush (v := (nI 8)) hF.1 hF.2.1 dX2_putNameBefore_30 (by decide) ?_
          refine lv_lushr hF.1 hF.2.1 dX2_putNameBefore_32 rfl ?_
          refine lv_lstore_n (lv' := [(3, .long ((z.toUInt64 >>> ((nI 8).toInt64.toUInt64 &&& Int64.toUInt64 63)).toInt64)), (5, .int (nI k)), (0, .ref a), (1, .long nm)]) hF.1 hF.2.1 dX2_putNameBefore_33 rfl hl (by decide) rfl (fun ls hl => ?_)
          refine lv_iinc (v := (nI (k + 1))) (lv' := [(5, .int (nI (k + 1))), (3, .long ((z.toUInt64 >>> ((nI 8).toInt64.toUInt64 &&& Int64.toUInt64 63)).toInt64)), (0, .ref a), (1, .long nm)]) hF.1 hF.2.1 dX2_putNameBefore_34 hl (k := 1) rfl (nI_inc1 _) (by decide) rfl (fun ls hl => ?_)
          refine lv_goto (tgt := 5) hF.1 hF.2.1 dX2_putNameBefore_37 (by decide) ?_
          exact ih_5 (k + 1) ((z.toUInt64 >>> ((nI 8).toInt64.toUInt64 &&& Int64.toUInt64 63)).toInt64) (s1 - 1) (upd f1 (s1 - 1) ((((z &&& (lN 255)).toInt32).toUInt32 % 65536).toInt32)) (by omega) (by omega) (by rw [← hR]; exact (pnb_s (by omega) (by assumption)).symm) H locs ls hP hD hS (lv_sub hl [0, 1, 2, 3] rfl)
  exact loop_5 _ 0 nm st f (Nat.lt_succ_self _) (by omega) (rfl) _ _ _ hP hD hS (lv_sub hl [0, 1, 2, 3] rfl)
end
section
set_option maxHeartbeats 4000000 in
set_option maxRecDepth 100000 in
theorem c_X6_place (l : Launch) (G : GG) (sz : Nat) (wk : Nat) (t : Nat) (en : Nat) (vo : Nat) (se : Nat) (rs : Nat) (wa : Int32) (hp : Nat) (nm : Int64) (la : Prop) (sl : Prop) : CtI l G yX6_place wsX6_place 0 0 0 0 sz [.ref wk] [oC wk 6 [.ref t, .ref en, .ref vo, .ref se, .ref rs, .int wa, .int (nI hp), .long nm, .int (zI la), .int (zI sl)]] (fun r (_ : Unit) => r = wa) (fun (_ : Unit) => [oC wk 6 [.ref t, .ref en, .ref vo, .ref se, .ref rs, .int wa, .int (nI hp), .long nm, .int (zI la), .int (zI sl)]]) := by
  refine kMet (Qc := fun A => va_Qi _ (Bw G A _) A) (cc := cX6_place) (nL := 1) (ret := some (.int)) (by decide) rfl (Nat.le_of_ble_eq_true rfl) ?_
  intro p e s m args below meth c A Q hF hr hlk hnme hK hP hD hA hS hQ hsz ls hl
  have hl : lv_has ls 1 [(0, .ref wk)] := hl
  refine lv_aload_n hF.1 hF.2.1 dX6_place_0 rfl (lv_at hl 0 rfl) ?_
  refine kGet (C := RX6) (T := TX6) (N := 10) (index := 34) hF hK hP (inT inBX6) 0 rfl rfl 5 (by decide) rfl (List.mem_cons_of_mem _ mF_X6_34) rfl dX6_place_1 ?_
  refine kRetI (v := wa) hF hr hlk hK hP hD hS hQ rfl () [0] (by decide) rfl (by omega) (by omega) dX6_place_4 ?_
  exact (by first | rfl | trivial | exact zI_1 (by first | assumption | omega) | exact zI_0 (by first | assumption | omega) | (simp_all; done))
set_option maxHeartbeats 4000000 in
set_option maxRecDepth 100000 in
theorem c_X6_name (l : Launch) (G : GG) (sz : Nat) (wk : Nat) (t : Nat) (en : Nat) (vo : Nat) (se : Nat) (rs : Nat) (wa : Int32) (hp : Nat) (nm : Int64) (la : Prop) (sl : Prop) : CtL l G yX6_name wsX6_name 0 0 0 0 sz [.ref wk] [oC wk 6 [.ref t, .ref en, .ref vo, .ref se, .ref rs, .int wa, .int (nI hp), .long nm, .int (zI la), .int (zI sl)]] (fun r (_ : Unit) => r = nm) (fun (_ : Unit) => [oC wk 6 [.ref t, .ref en, .ref vo, .ref se, .ref rs, .int wa, .int (nI hp), .long nm, .int (zI la), .int (zI sl)]]) := by
  refine kMet (Qc := fun A => va_Ql _ (Bw G A _) A) (cc := cX6_name) (nL := 1) (ret := some (.long)) (by decide) rfl (Nat.le_of_ble_eq_true rfl) ?_
  intro p e s m args below meth c A Q hF hr hlk hnme hK hP hD hA hS hQ hsz ls hl
  have hl : lv_has ls 1 [(0, .ref wk)] := hl
  refine lv_aload_n hF.1 hF.2.1 dX6_name_0 rfl (lv_at hl 0 rfl) ?_
  refine kGet (C := RX6) (T := TX6) (N := 10) (index := 38) hF hK hP (inT inBX6) 0 rfl rfl 7 (by decide) rfl (List.mem_cons_of_mem _ mF_X6_38) rfl dX6_name_1 ?_
  refine kRetL (v := nm) hF hr hlk hK hP hD hS hQ () [0] (by decide) rfl (by omega) (by omega) dX6_name_4 ?_
  exact (by first | rfl | trivial | exact zI_1 (by first | assumption | omega) | exact zI_0 (by first | assumption | omega) | (simp_all; done))
set_option maxHeartbeats 4000000 in
set_option maxRecDepth 100000 in
theorem c_X6_isSlashed (l : Launch) (G : GG) (sz : Nat) (wk : Nat) (t : Nat) (en : Nat) (vo : Nat) (se : Nat) (rs : Nat) (wa : Int32) (hp : Nat) (nm : Int64) (la : Prop) (sl : Prop) : CtI l G yX6_isSlashed wsX6_isSlashed 0 0 0 0 sz [.ref wk] [oC wk 6 [.ref t, .ref en, .ref vo, .ref se, .ref rs, .int wa, .int (nI hp), .long nm, .int (zI la), .int (zI sl)]] (fun r (_ : Unit) => r = (zI sl)) (fun (_ : Unit) => [oC wk 6 [.ref t, .ref en, .ref vo, .ref se, .ref rs, .int wa, .int (nI hp), .long nm, .int (zI la), .int (zI sl)]]) := by
  refine kMet (Qc := fun A => va_Qi _ (Bw G A _) A) (cc := cX6_isSlashed) (nL := 1) (ret := some (.boolean)) (by decide) rfl (Nat.le_of_ble_eq_true rfl) ?_
  intro p e s m args below meth c A Q hF hr hlk hnme hK hP hD hA hS hQ hsz ls hl
  have hl : lv_has ls 1 [(0, .ref wk)] := hl
  refine lv_aload_n hF.1 hF.2.1 dX6_isSlashed_0 rfl (lv_at hl 0 rfl) ?_
  refine kGet (C := RX6) (T := TX6) (N := 10) (index := 42) hF hK hP (inT inBX6) 0 rfl rfl 9 (by decide) rfl (List.mem_cons_of_mem _ mF_X6_42) rfl dX6_isSlashed_1 ?_
  refine kRetI (v := (zI sl)) hF hr hlk hK hP hD hS hQ (zI_nar _) () [0] (by decide) rfl (by omega) (by omega) dX6_isSlashed_4 ?_
  exact (by first | rfl | trivial | exact zI_1 (by first | assumption | omega) | exact zI_0 (by first | assumption | omega) | (simp_all; done))
set_option maxHeartbeats 4000000 in
set_option maxRecDepth 100000 in
theorem c_X6_isOnDots (l : Launch) (G : GG) (sz : Nat) (wk : Nat) (t : Nat) (en : Nat) (vo : Nat) (se : Nat) (rs : Nat) (wa : Int32) (hp : Nat) (nm : Int64) (la : Prop) (sl : Prop) : CtI l G yX6_isOnDots wsX6_isOnDots 0 0 0 0 sz [.ref wk] [oC wk 6 [.ref t, .ref en, .ref vo, .ref se, .ref rs, .int wa, .int (nI hp), .long nm, .int (zI la), .int (zI sl)]] (fun r (_ : Unit) => r = (zI (nm = lN 46 ∨ nm = lN 11822))) (fun (_ : Unit) => [oC wk 6 [.ref t, .ref en, .ref vo, .ref se, .ref rs, .int wa, .int (nI hp), .long nm, .int (zI la), .int (zI sl)]]) := by
  refine kMet (Qc := fun A => va_Qi _ (Bw G A _) A) (cc := cX6_isOnDots) (nL := 1) (ret := some (.boolean)) (by decide) rfl (Nat.le_of_ble_eq_true rfl) ?_
  intro p e s m args below meth c A Q hF hr hlk hnme hK hP hD hA hS hQ hsz ls hl
  have hl : lv_has ls 1 [(0, .ref wk)] := hl
  refine lv_aload_n hF.1 hF.2.1 dX6_isOnDots_0 rfl (lv_at hl 0 rfl) ?_
  refine kGet (C := RX6) (T := TX6) (N := 10) (index := 38) hF hK hP (inT inBX6) 0 rfl rfl 7 (by decide) rfl (List.mem_cons_of_mem _ mF_X6_38) rfl dX6_isOnDots_1 ?_
  refine lv_ldc2 (v := lN 46) hF.1 hF.2.1 hF.2.2.2.1 (hF.2.2.2.2 _ (List.mem_cons_of_mem _ mG_X6_46)) dX6_isOnDots_4 ?_
  refine W.lcmp hF.1 hF.2.1 dX6_isOnDots_7 ?_
  refine kIfEqC (tgt := 22) hF dX6_isOnDots_8 (by decide) (fun c_1 => ?_) (fun c_1 => ?_)
  · refine lv_iconst (v := (nI 1)) hF.1 hF.2.1 dX6_isOnDots_22 (by decide) ?_
    refine lv_goto (tgt := 27) hF.1 hF.2.1 dX6_isOnDots_23 (by decide) ?_
    refine kRetI (v := (nI 1)) hF hr hlk hK hP hD hS hQ rfl () [0] (by decide) rfl (by omega) (by omega) dX6_isOnDots_27 ?_
    exact zI_1 (by first | exact Or.inl (by assumption) | exact Or.inr (by assumption))
  · refine lv_aload_n hF.1 hF.2.1 dX6_isOnDots_11 rfl (lv_at hl 0 rfl) ?_
    refine kGet (C := RX6) (T := TX6) (N := 10) (index := 38) hF hK hP (inT inBX6) 0 rfl rfl 7 (by decide) rfl (List.mem_cons_of_mem _ mF_X6_38) rfl dX6_isOnDots_12 ?_
    refine lv_ldc2 (v := lN 11822) hF.1 hF.2.1 hF.2.2.2.1 (hF.2.2.2.2 _ (List.mem_cons_of_mem _ mG_X6_48)) dX6_isOnDots_15 ?_
    refine W.lcmp hF.1 hF.2.1 dX6_isOnDots_18 ?_
    refine kIfNeC (tgt := 26) hF dX6_isOnDots_19 (by decide) (fun c_2 => ?_) (fun c_2 => ?_)
    · refine lv_iconst (v := (nI 0)) hF.1 hF.2.1 dX6_isOnDots_26 (by decide) ?_
      refine kRetI (v := (nI 0)) hF hr hlk hK hP hD hS hQ rfl () [0] (by decide) rfl (by omega) (by omega) dX6_isOnDots_27 ?_
      exact zI_0 (fun h => by rcases h with h | h <;> contradiction)
    · refine lv_iconst (v := (nI 1)) hF.1 hF.2.1 dX6_isOnDots_22 (by decide) ?_
      refine lv_goto (tgt := 27) hF.1 hF.2.1 dX6_isOnDots_23 (by decide) ?_
      refine kRetI (v := (nI 1)) hF hr hlk hK hP hD hS hQ rfl () [0] (by decide) rfl (by omega) (by omega) dX6_isOnDots_27 ?_
      exact zI_1 (by first | exact Or.inl (by assumption) | exact Or.inr (by assumption))
set_option maxHeartbeats 4000000 in
set_option maxRecDepth 100000 in
theorem c_X6_begin (l : Launch) (G : GG) (sz : Nat) (wk : Nat) (t : Nat) (en : Nat) (vo : Nat) (se : Nat) (rs : Nat) (ra : Nat) (st : Nat) (f : Nat → Int32) (wa : Int32) (hp : Nat) (nm : Int64) (la : Prop) (sl : Prop) (us : Int32) (ro : Int32) (pr : Int32) (a2 : Nat) (b2 : Nat) (n : Nat) (fl : Nat → Int32) (hn : n ≤ 40) (h0 : 0 < n) (hfl : ∀ j, okC (fl j)) : CtV l G yX6_begin wsX6_begin 2 43 0 0 sz [.ref wk, .ref a2] [oC wk 6 [.ref t, .ref en, .ref vo, .ref se, .ref rs, .int wa, .int (nI hp), .long nm, .int (zI la), .int (zI sl)], oC rs 2 [.ref ra, .int (nI st)], aC G ra 60 f, oC se 3 [.ref t, .int us, .int ro, .int pr], oC a2 1 [.ref b2, .int (nI n)], aC G b2 40 fl] (fun (_ : Unit) => True) (fun (_ : Unit) => [oC wk 6 [.ref t, .ref en, .ref vo, .ref se, .ref rs, .int (bgA fl ro pr), .int (nI 0), .long nm, .int (zI la), .int (zI sl)], oC rs 2 [.ref ra, .int (nI (60 - n))], aC G ra 60 (va_cpy fl f 0 (60 - n) n), oC se 3 [.ref t, .int us, .int ro, .int pr], oC a2 1 [.ref b2, .int (nI n)], aC G b2 40 fl]) := by
  refine kMet (Qc := fun A => va_Qv _ (Bw G A _) A) (cc := cX6_begin) (nL := 2) (ret := none) (by decide) rfl (Nat.le_of_ble_eq_true rfl) ?_
  intro p e s m args below meth c A Q hF hr hlk hnme hK hP hD hA hS hQ hsz ls hl
  have hl : lv_has ls 2 [(0, .ref wk), (1, .ref a2)] := hl
  refine lv_aload_n hF.1 hF.2.1 dX6_begin_0 rfl (lv_at hl 0 rfl) ?_
  refine kGet (C := RX6) (T := TX6) (N := 10) (index := 12) hF hK hP (inT inBX6) 0 rfl rfl 4 (by decide) rfl (List.mem_cons_of_mem _ mF_X6_12) rfl dX6_begin_1 ?_
  refine kCallV (wr := [oC wk 6 [.ref t, .ref en, .ref vo, .ref se, .ref rs, .int wa, .int (nI hp), .long nm, .int (zI la), .int (zI sl)], oC se 3 [.ref t, .int us, .int ro, .int pr], oC a2 1 [.ref b2, .int (nI n)], aC G b2 40 fl]) (va_runV (As := []) (rest := []) hF (c_X2_clear l G _ rs ra st f) (cwVB 0 hF rfl mL_X6_74 mI_X2_clear mS_X2_clear mN_X2 mC_X2_clear rfl hd_X2_clear rfl rfl ⟨Nat.le_of_ble_eq_true rfl, Nat.le_of_ble_eq_true rfl⟩) (kPre hK hP hD [1, 2] (by decide) rfl (q0 := 1) (ci := 2) rfl rfl rfl) rfl rfl hl.1 rfl (lv_room (Nat.le_of_ble_eq_true rfl)) dX6_begin_4 ⟨by omega, by omega⟩) hP hD hS hA [1, 2] [0, 3, 4, 5] rfl rfl (by decide) (by decide) (fun u H locs hw_1 hP hD hS => ?_)
  have hP : PG G [oC wk 6 [.ref t, .ref en, .ref vo, .ref se, .ref rs, .int wa, .int (nI hp), .long nm, .int (zI la), .int (zI sl)], oC rs 2 [.ref ra, .int (nI 60)], aC G ra 60 f, oC se 3 [.ref t, .int us, .int ro, .int pr], oC a2 1 [.ref b2, .int (nI n)], aC G b2 40 fl] H := va_P.sub hP [0, 4, 5, 1, 2, 3] rfl
  have hD : va_D A [oC wk 6 [.ref t, .ref en, .ref vo, .ref se, .ref rs, .int wa, .int (nI hp), .long nm, .int (zI la), .int (zI sl)], oC rs 2 [.ref ra, .int (nI 60)], aC G ra 60 f, oC se 3 [.ref t, .int us, .int ro, .int pr], oC a2 1 [.ref b2, .int (nI n)], aC G b2 40 fl] := va_D.sub hD [0, 4, 5, 1, 2, 3] (by decide) rfl
  refine lv_aload_n hF.1 hF.2.1 dX6_begin_7 rfl (lv_at hl 0 rfl) ?_
  refine kGet (C := RX6) (T := TX6) (N := 10) (index := 12) hF hK hP (inT inBX6) 0 rfl rfl 4 (by decide) rfl (List.mem_cons_of_mem _ mF_X6_12) rfl dX6_begin_8 ?_
  refine lv_aload_n hF.1 hF.2.1 dX6_begin_11 rfl (lv_at hl 1 rfl) ?_
  refine kCallI (wr := [oC wk 6 [.ref t, .ref en, .ref vo, .ref se, .ref rs, .int wa, .int (nI hp), .long nm, .int (zI la), .int (zI sl)], oC se 3 [.ref t, .int us, .int ro, .int pr]]) (va_runV (As := [.ref a2]) (rest := []) hF (c_X2_putLineBefore l G H.size rs ra 60 f a2 b2 n fl (by first | assumption | omega) (by first | assumption | omega) (by first | assumption | omega) (by first | assumption | omega)) (cwVB 1 hF rfl mL_X6_77 mI_X2_putLineBefore mS_X2_putLineBefore mN_X2 mC_X2_putLineBefore rfl hd_X2_putLineBefore rfl rfl ⟨Nat.le_of_ble_eq_true rfl, Nat.le_of_ble_eq_true rfl⟩) (kPre hK hP hD [1, 2, 4, 5] (by decide) rfl (q0 := 1) (ci := 2) rfl rfl rfl) rfl rfl hl.1 rfl (lv_room (Nat.le_of_ble_eq_true rfl)) dX6_begin_12 ⟨by omega, by omega⟩) hP hD hS hA [1, 2, 4, 5] [0, 3] rfl rfl (by decide) (by decide) (fun r u H locs hw_4 hP hD hS => ?_)
  obtain ⟨s2_2, f2_3⟩ := u
  obtain ⟨rfl, hw_4⟩ := hw_4
  have hP : PG G [oC wk 6 [.ref t, .ref en, .ref vo, .ref se, .ref rs, .int wa, .int (nI hp), .long nm, .int (zI la), .int (zI sl)], oC rs 2 [.ref ra, .int (nI s2_2)], aC G ra 60 f2_3, oC se 3 [.ref t, .int us, .int ro, .int pr], oC a2 1 [.ref b2, .int (nI n)], aC G b2 40 fl] H := va_P.sub hP [0, 2, 3, 1, 4, 5] rfl
  have hD : va_D A [oC wk 6 [.ref t, .ref en, .ref vo, .ref se, .ref rs, .int wa, .int (nI hp), .long nm, .int (zI la), .int (zI sl)], oC rs 2 [.ref ra, .int (nI s2_2)], aC G ra 60 f2_3, oC se 3 [.ref t, .int us, .int ro, .int pr], oC a2 1 [.ref b2, .int (nI n)], aC G b2 40 fl] := va_D.sub hD [0, 2, 3, 1, 4, 5] (by decide) rfl
  obtain ⟨rfl, rfl⟩ := hw_4.1 (by omega)
  refine lv_pop hF.1 hF.2.1 dX6_begin_15 rfl ?_
  refine lv_aload_n hF.1 hF.2.1 dX6_begin_16 rfl (lv_at hl 0 rfl) ?_
  refine lv_aload_n hF.1 hF.2.1 dX6_begin_17 rfl (lv_at hl 0 rfl) ?_
  refine kGet (C := RX6) (T := TX6) (N := 10) (index := 12) hF hK hP (inT inBX6) 0 rfl rfl 4 (by decide) rfl (List.mem_cons_of_mem _ mF_X6_12) rfl dX6_begin_18 ?_
  refine kCallI (wr := [oC wk 6 [.ref t, .ref en, .ref vo, .ref se, .ref rs, .int wa, .int (nI hp), .long nm, .int (zI la), .int (zI sl)], oC se 3 [.ref t, .int us, .int ro, .int pr], oC a2 1 [.ref b2, .int (nI n)], aC G b2 40 fl]) (va_runV (As := []) (rest := [.ref wk]) hF (c_X2_beginsWithSlash l G H.size rs ra (60 - n) (va_cpy fl f 0 (60 - n) n) (by first | assumption | omega)) (cwVB 0 hF rfl mL_X6_81 mI_X2_beginsWithSlash mS_X2_beginsWithSlash mN_X2 mC_X2_beginsWithSlash rfl hd_X2_beginsWithSlash rfl rfl ⟨Nat.le_of_ble_eq_true rfl, Nat.le_of_ble_eq_true rfl⟩) (kPre hK hP hD [1, 2] (by decide) rfl (q0 := 1) (ci := 2) rfl rfl rfl) rfl rfl hl.1 rfl (lv_room (Nat.le_of_ble_eq_true rfl)) dX6_begin_21 ⟨by omega, by omega⟩) hP hD hS hA [1, 2] [0, 3, 4, 5] rfl rfl (by decide) (by decide) (fun r u H locs hw_5 hP hD hS => ?_)
  subst hw_5
  have hP : PG G [oC wk 6 [.ref t, .ref en, .ref vo, .ref se, .ref rs, .int wa, .int (nI hp), .long nm, .int (zI la), .int (zI sl)], oC rs 2 [.ref ra, .int (nI (60 - n))], aC G ra 60 (va_cpy fl f 0 (60 - n) n), oC se 3 [.ref t, .int us, .int ro, .int pr], oC a2 1 [.ref b2, .int (nI n)], aC G b2 40 fl] H := va_P.sub hP [0, 4, 5, 1, 2, 3] rfl
  have hD : va_D A [oC wk 6 [.ref t, .ref en, .ref vo, .ref se, .ref rs, .int wa, .int (nI hp), .long nm, .int (zI la), .int (zI sl)], oC rs 2 [.ref ra, .int (nI (60 - n))], aC G ra 60 (va_cpy fl f 0 (60 - n) n), oC se 3 [.ref t, .int us, .int ro, .int pr], oC a2 1 [.ref b2, .int (nI n)], aC G b2 40 fl] := va_D.sub hD [0, 4, 5, 1, 2, 3] (by decide) rfl
  refine kIfEqZ (tgt := 37) hF dX6_begin_24 (by decide) (fun c_6 => ?_) (fun c_6 => ?_)
  · have hA1 : bgA fl ro pr = pr := if_neg (fun h => c_6 ⟨by omega, by rw [cpy_0 h0]; exact h⟩)
    refine lv_aload_n hF.1 hF.2.1 dX6_begin_37 rfl (lv_at hl 0 rfl) ?_
    refine kGet (C := RX6) (T := TX6) (N := 10) (index := 30) hF hK hP (inT inBX6) 0 rfl rfl 3 (by decide) rfl (List.mem_cons_of_mem _ mF_X6_30) rfl dX6_begin_38 ?_
    refine kGetN (C := RX3) (T := TX3) (N := 4) (index := 89) hF hK hP (inT inBX3) 3 rfl rfl 3 (by decide) rfl (nw_7 hK.2) rfl dX6_begin_41 ?_
    refine kTop (y := bgA fl ro pr) hA1.symm ?_
    refine kPut (C := RX6) (T := TX6) (N := 10) (index := 34) (v := .int (bgA fl ro pr)) hF hK hP hD hS (inT inBX6) tyX6_ok nmX6 0 rfl rfl 5 (by decide) rfl (List.mem_cons_of_mem _ mF_X6_34) rfl rfl rfl (Nat.le_of_ble_eq_true rfl) dX6_begin_44 (fun H locs hP hD hS => ?_)
    have hP : PG G [oC wk 6 [.ref t, .ref en, .ref vo, .ref se, .ref rs, .int (bgA fl ro pr), .int (nI hp), .long nm, .int (zI la), .int (zI sl)], oC rs 2 [.ref ra, .int (nI (60 - n))], aC G ra 60 (va_cpy fl f 0 (60 - n) n), oC se 3 [.ref t, .int us, .int ro, .int pr], oC a2 1 [.ref b2, .int (nI n)], aC G b2 40 fl] H := hP
    have hD : va_D A [oC wk 6 [.ref t, .ref en, .ref vo, .ref se, .ref rs, .int (bgA fl ro pr), .int (nI hp), .long nm, .int (zI la), .int (zI sl)], oC rs 2 [.ref ra, .int (nI (60 - n))], aC G ra 60 (va_cpy fl f 0 (60 - n) n), oC se 3 [.ref t, .int us, .int ro, .int pr], oC a2 1 [.ref b2, .int (nI n)], aC G b2 40 fl] := hD
    refine lv_aload_n hF.1 hF.2.1 dX6_begin_47 rfl (lv_at hl 0 rfl) ?_
    refine lv_iconst (v := (nI 0)) hF.1 hF.2.1 dX6_begin_48 (by decide) ?_
    refine kPut (C := RX6) (T := TX6) (N := 10) (index := 92) (v := .int (nI 0)) hF hK hP hD hS (inT inBX6) tyX6_ok nmX6 0 rfl rfl 6 (by decide) rfl (List.mem_cons_of_mem _ mF_X6_92) rfl rfl rfl (Nat.le_of_ble_eq_true rfl) dX6_begin_49 (fun H locs hP hD hS => ?_)
    have hP : PG G [oC wk 6 [.ref t, .ref en, .ref vo, .ref se, .ref rs, .int (bgA fl ro pr), .int (nI 0), .long nm, .int (zI la), .int (zI sl)], oC rs 2 [.ref ra, .int (nI (60 - n))], aC G ra 60 (va_cpy fl f 0 (60 - n) n), oC se 3 [.ref t, .int us, .int ro, .int pr], oC a2 1 [.ref b2, .int (nI n)], aC G b2 40 fl] H := hP
    have hD : va_D A [oC wk 6 [.ref t, .ref en, .ref vo, .ref se, .ref rs, .int (bgA fl ro pr), .int (nI 0), .long nm, .int (zI la), .int (zI sl)], oC rs 2 [.ref ra, .int (nI (60 - n))], aC G ra 60 (va_cpy fl f 0 (60 - n) n), oC se 3 [.ref t, .int us, .int ro, .int pr], oC a2 1 [.ref b2, .int (nI n)], aC G b2 40 fl] := hD
    refine kRetV hF hr hlk hK hP hD hS hQ () [0, 1, 2, 3, 4, 5] (by decide) rfl (by omega) (by omega) dX6_begin_52 ?_
    exact (by first | rfl | trivial | exact zI_1 (by first | assumption | omega) | exact zI_0 (by first | assumption | omega) | (simp_all; done))
  · have hA1 : bgA fl ro pr = ro := if_pos (by have := c_6.2; rw [cpy_0 h0] at this; exact this)
    refine lv_aload_n hF.1 hF.2.1 dX6_begin_27 rfl (lv_at hl 0 rfl) ?_
    refine kGet (C := RX6) (T := TX6) (N := 10) (index := 30) hF hK hP (inT inBX6) 0 rfl rfl 3 (by decide) rfl (List.mem_cons_of_mem _ mF_X6_30) rfl dX6_begin_28 ?_
    refine kGetN (C := RX3) (T := TX3) (N := 4) (index := 84) hF hK hP (inT inBX3) 3 rfl rfl 2 (by decide) rfl (nw_5 hK.2) rfl dX6_begin_31 ?_
    refine lv_goto (tgt := 44) hF.1 hF.2.1 dX6_begin_34 (by decide) ?_
    refine kTop (y := bgA fl ro pr) hA1.symm ?_
    refine kPut (C := RX6) (T := TX6) (N := 10) (index := 34) (v := .int (bgA fl ro pr)) hF hK hP hD hS (inT inBX6) tyX6_ok nmX6 0 rfl rfl 5 (by decide) rfl (List.mem_cons_of_mem _ mF_X6_34) rfl rfl rfl (Nat.le_of_ble_eq_true rfl) dX6_begin_44 (fun H locs hP hD hS => ?_)
    have hP : PG G [oC wk 6 [.ref t, .ref en, .ref vo, .ref se, .ref rs, .int (bgA fl ro pr), .int (nI hp), .long nm, .int (zI la), .int (zI sl)], oC rs 2 [.ref ra, .int (nI (60 - n))], aC G ra 60 (va_cpy fl f 0 (60 - n) n), oC se 3 [.ref t, .int us, .int ro, .int pr], oC a2 1 [.ref b2, .int (nI n)], aC G b2 40 fl] H := hP
    have hD : va_D A [oC wk 6 [.ref t, .ref en, .ref vo, .ref se, .ref rs, .int (bgA fl ro pr), .int (nI hp), .long nm, .int (zI la), .int (zI sl)], oC rs 2 [.ref ra, .int (nI (60 - n))], aC G ra 60 (va_cpy fl f 0 (60 - n) n), oC se 3 [.ref t, .int us, .int ro, .int pr], oC a2 1 [.ref b2, .int (nI n)], aC G b2 40 fl] := hD
    refine lv_aload_n hF.1 hF.2.1 dX6_begin_47 rfl (lv_at hl 0 rfl) ?_
    refine lv_iconst (v := (nI 0)) hF.1 hF.2.1 dX6_begin_48 (by decide) ?_
    refine kPut (C := RX6) (T := TX6) (N := 10) (index := 92) (v := .int (nI 0)) hF hK hP hD hS (inT inBX6) tyX6_ok nmX6 0 rfl rfl 6 (by decide) rfl (List.mem_cons_of_mem _ mF_X6_92) rfl rfl rfl (Nat.le_of_ble_eq_true rfl) dX6_begin_49 (fun H locs hP hD hS => ?_)
    have hP : PG G [oC wk 6 [.ref t, .ref en, .ref vo, .ref se, .ref rs, .int (bgA fl ro pr), .int (nI 0), .long nm, .int (zI la), .int (zI sl)], oC rs 2 [.ref ra, .int (nI (60 - n))], aC G ra 60 (va_cpy fl f 0 (60 - n) n), oC se 3 [.ref t, .int us, .int ro, .int pr], oC a2 1 [.ref b2, .int (nI n)], aC G b2 40 fl] H := hP
    have hD : va_D A [oC wk 6 [.ref t, .ref en, .ref vo, .ref se, .ref rs, .int (bgA fl ro pr), .int (nI 0), .long nm, .int (zI la), .int (zI sl)], oC rs 2 [.ref ra, .int (nI (60 - n))], aC G ra 60 (va_cpy fl f 0 (60 - n) n), oC se 3 [.ref t, .int us, .int ro, .int pr], oC a2 1 [.ref b2, .int (nI n)], aC G b2 40 fl] := hD
    refine kRetV hF hr hlk hK hP hD hS hQ () [0, 1, 2, 3, 4, 5] (by decide) rfl (by omega) (by omega) dX6_begin_52 ?_
    exact (by first | rfl | trivial | exact zI_1 (by first | assumption | omega) | exact zI_0 (by first | assumption | omega) | (simp_all; done))
set_option maxHeartbeats 4000000 in
set_option maxRecDepth 100000 in
theorem c_X6_hasName (l : Launch) (G : GG) (sz : Nat) (wk : Nat) (t : Nat) (en : Nat) (vo : Nat) (se : Nat) (rs : Nat) (ra : Nat) (st : Nat) (f : Nat → Int32) (wa : Int32) (hp : Nat) (nm : Int64) (la : Prop) (sl : Prop) (hs : st ≤ 60) (hf : ∀ j, okC (f j)) : CtI l G yX6_hasName wsX6_hasName 1 21 0 0 sz [.ref wk] [oC wk 6 [.ref t, .ref en, .ref vo, .ref se, .ref rs, .int wa, .int (nI hp), .long nm, .int (zI la), .int (zI sl)], oC rs 2 [.ref ra, .int (nI st)], aC G ra 60 f] (fun r (u : Nat) => match u with | (s2) => r = (zI (s2 < 60)) ∧ s2 = scan (isS f) (60 - st) st) (fun (u : Nat) => match u with | (s2) => [oC wk 6 [.ref t, .ref en, .ref vo, .ref se, .ref rs, .int wa, .int (nI hp), .long nm, .int (zI la), .int (zI sl)], oC rs 2 [.ref ra, .int (nI s2)], aC G ra 60 f]) := by
  refine kMet (Qc := fun A => va_Qi _ (Bw G A _) A) (cc := cX6_hasName) (nL := 2) (ret := some (.boolean)) (by decide) rfl (Nat.le_of_ble_eq_true rfl) ?_
  intro p e s m args below meth c A Q hF hr hlk hnme hK hP hD hA hS hQ hsz ls hl
  have hl : lv_has ls 2 [(0, .ref wk)] := hl
  refine lv_iconst (v := (nI 0)) hF.1 hF.2.1 dX6_hasName_0 (by decide) ?_
  refine lv_istore_n (lv' := [(1, .int (nI 0)), (0, .ref wk)]) hF.1 hF.2.1 dX6_hasName_1 rfl hl (by decide) rfl (fun ls hl => ?_)
  have loop_2 : ∀ (n_2 : Nat) (k s1 : Nat), 60 - k < n_2 → s1 = st + k ∧ s1 ≤ 60 → scan (isS f) (60 - s1) s1 = scan (isS f) (60 - st) st → ∀ (H : Heap) (locs : List Loc) (ls : Array Slot), PG G [oC wk 6 [.ref t, .ref en, .ref vo, .ref se, .ref rs, .int wa, .int (nI hp), .long nm, .int (zI la), .int (zI sl)], oC rs 2 [.ref ra, .int (nI s1)], aC G ra 60 f] H → va_D A [oC wk 6 [.ref t, .ref en, .ref vo, .ref se, .ref rs, .int wa, .int (nI hp), .long nm, .int (zI la), .int (zI sl)], oC rs 2 [.ref ra, .int (nI s1)], aC G ra 60 f] → va_S A s.heap H locs → lv_has ls 2 [(1, .int (nI k)), (0, .ref wk)] → W p l e (Rm 1 0 0 21) s m args below meth c H locs 0 0 Q (F0 m 2 ls []) := by
    intro n_2
    induction n_2 with
    | zero => intro k s1 hm; exact absurd hm (Nat.not_lt_zero _)
    | succ n_2 ih_2 =>
      intro k s1 hm_2 hk hR H locs ls hP hD hS hl
      refine lv_iload_n hF.1 hF.2.1 dX6_hasName_2 rfl (lv_at hl 0 rfl) ?_
      refine lv_bipush (v := (nI 60)) hF.1 hF.2.1 dX6_hasName_3 (by decide) ?_
      refine kGeN (tgt := 32) hF dX6_hasName_5 (by decide) (by omega) (by omega) (fun c_1 => ?_) (fun c_1 => ?_)
      · refine lv_aload_n hF.1 hF.2.1 dX6_hasName_32 rfl (lv_at hl 1 rfl) ?_
        refine kGet (C := RX6) (T := TX6) (N := 10) (index := 12) hF hK hP (inT inBX6) 0 rfl rfl 4 (by decide) rfl (List.mem_cons_of_mem _ mF_X6_12) rfl dX6_hasName_33 ?_
        refine kCallI (wr := [oC wk 6 [.ref t, .ref en, .ref vo, .ref se, .ref rs, .int wa, .int (nI hp), .long nm, .int (zI la), .int (zI sl)]]) (va_runV (As := []) (rest := []) hF (c_X2_isEmpty l G _ rs ra s1 f (by first | assumption | omega)) (cwVB 0 hF rfl mL_X6_99 mI_X2_isEmpty mS_X2_isEmpty mN_X2 mC_X2_isEmpty rfl hd_X2_isEmpty rfl rfl ⟨Nat.le_of_ble_eq_true rfl, Nat.le_of_ble_eq_true rfl⟩) (kPre hK hP hD [1, 2] (by decide) rfl (q0 := 1) (ci := 2) rfl rfl rfl) rfl rfl hl.1 rfl (lv_room (Nat.le_of_ble_eq_true rfl)) dX6_hasName_36 ⟨by omega, by omega⟩) hP hD hS hA [1, 2] [0] rfl rfl (by decide) (by decide) (fun r u H locs hw_2 hP hD hS => ?_)
        subst hw_2
        have hP : PG G [oC wk 6 [.ref t, .ref en, .ref vo, .ref se, .ref rs, .int wa, .int (nI hp), .long nm, .int (zI la), .int (zI sl)], oC rs 2 [.ref ra, .int (nI s1)], aC G ra 60 f] H := hP
        have hD : va_D A [oC wk 6 [.ref t, .ref en, .ref vo, .ref se, .ref rs, .int wa, .int (nI hp), .long nm, .int (zI la), .int (zI sl)], oC rs 2 [.ref ra, .int (nI s1)], aC G ra 60 f] := hD
        refine kIfNeZ (tgt := 46) hF dX6_hasName_39 (by decide) (fun c_3 => ?_) (fun c_3 => ?_)
        · refine lv_iconst (v := (nI 0)) hF.1 hF.2.1 dX6_hasName_46 (by decide) ?_
          refine kRetI (v := (nI 0)) hF hr hlk hK hP hD hS hQ rfl (s1) [0, 1, 2] (by decide) rfl (by omega) (by omega) dX6_hasName_47 ?_
          exact ⟨zI_0 (by omega), by rw [← hR]; exact (scan_x (fun h9 => by first | (exfalso; omega) | exact decide_eq_false (fun h8 => ‹¬ (s1 < 60 ∧ f s1 = nI 47)› ⟨h9, h8⟩))).symm⟩
        · refine lv_iconst (v := (nI 1)) hF.1 hF.2.1 dX6_hasName_42 (by decide) ?_
          refine lv_goto (tgt := 47) hF.1 hF.2.1 dX6_hasName_43 (by decide) ?_
          refine kRetI (v := (nI 1)) hF hr hlk hK hP hD hS hQ rfl (s1) [0, 1, 2] (by decide) rfl (by omega) (by omega) dX6_hasName_47 ?_
          exact ⟨zI_1 (by omega), by rw [← hR]; exact (scan_x (fun h9 => by first | (exfalso; omega) | exact decide_eq_false (fun h8 => ‹¬ (s1 < 60 ∧ f s1 = nI 47)› ⟨h9, h8⟩))).symm⟩
      · refine lv_aload_n hF.1 hF.2.1 dX6_hasName_8 rfl (lv_at hl 1 rfl) ?_
        refine kGet (C := RX6) (T := TX6) (N := 10) (index := 12) hF hK hP (inT inBX6) 0 rfl rfl 4 (by decide) rfl (List.mem_cons_of_mem _ mF_X6_12) rfl dX6_hasName_9 ?_
        refine kCallI (wr := [oC wk 6 [.ref t, .ref en, .ref vo, .ref se, .ref rs, .int wa, .int (nI hp), .long nm, .int (zI la), .int (zI sl)]]) (va_runV (As := []) (rest := []) hF (c_X2_beginsWithSlash l G _ rs ra s1 f (by first | assumption | omega)) (cwVB 0 hF rfl mL_X6_81 mI_X2_beginsWithSlash mS_X2_beginsWithSlash mN_X2 mC_X2_beginsWithSlash rfl hd_X2_beginsWithSlash rfl rfl ⟨Nat.le_of_ble_eq_true rfl, Nat.le_of_ble_eq_true rfl⟩) (kPre hK hP hD [1, 2] (by decide) rfl (q0 := 1) (ci := 2) rfl rfl rfl) rfl rfl hl.1 rfl (lv_room (Nat.le_of_ble_eq_true rfl)) dX6_hasName_12 ⟨by omega, by omega⟩) hP hD hS hA [1, 2] [0] rfl rfl (by decide) (by decide) (fun r u H locs hw_4 hP hD hS => ?_)
        subst hw_4
        have hP : PG G [oC wk 6 [.ref t, .ref en, .ref vo, .ref se, .ref rs, .int wa, .int (nI hp), .long nm, .int (zI la), .int (zI sl)], oC rs 2 [.ref ra, .int (nI s1)], aC G ra 60 f] H := hP
        have hD : va_D A [oC wk 6 [.ref t, .ref en, .ref vo, .ref se, .ref rs, .int wa, .int (nI hp), .long nm, .int (zI la), .int (zI sl)], oC rs 2 [.ref ra, .int (nI s1)], aC G ra 60 f] := hD
        refine kIfEqZ (tgt := 32) hF dX6_hasName_15 (by decide) (fun c_5 => ?_) (fun c_5 => ?_)
        · refine lv_aload_n hF.1 hF.2.1 dX6_hasName_32 rfl (lv_at hl 1 rfl) ?_
          refine kGet (C := RX6) (T := TX6) (N := 10) (index := 12) hF hK hP (inT inBX6) 0 rfl rfl 4 (by decide) rfl (List.mem_cons_of_mem _ mF_X6_12) rfl dX6_hasName_33 ?_
          refine kCallI (wr := [oC wk 6 [.ref t, .ref en, .ref vo, .ref se, .ref rs, .int wa, .int (nI hp), .long nm, .int (zI la), .int (zI sl)]]) (va_runV (As := []) (rest := []) hF (c_X2_isEmpty l G H.size rs ra s1 f (by first | assumption | omega)) (cwVB 0 hF rfl mL_X6_99 mI_X2_isEmpty mS_X2_isEmpty mN_X2 mC_X2_isEmpty rfl hd_X2_isEmpty rfl rfl ⟨Nat.le_of_ble_eq_true rfl, Nat.le_of_ble_eq_true rfl⟩) (kPre hK hP hD [1, 2] (by decide) rfl (q0 := 1) (ci := 2) rfl rfl rfl) rfl rfl hl.1 rfl (lv_room (Nat.le_of_ble_eq_true rfl)) dX6_hasName_36 ⟨by omega, by omega⟩) hP hD hS hA [1, 2] [0] rfl rfl (by decide) (by decide) (fun r u H locs hw_6 hP hD hS => ?_)
          subst hw_6
          have hP : PG G [oC wk 6 [.ref t, .ref en, .ref vo, .ref se, .ref rs, .int wa, .int (nI hp), .long nm, .int (zI la), .int (zI sl)], oC rs 2 [.ref ra, .int (nI s1)], aC G ra 60 f] H := hP
          have hD : va_D A [oC wk 6 [.ref t, .ref en, .ref vo, .ref se, .ref rs, .int wa, .int (nI hp), .long nm, .int (zI la), .int (zI sl)], oC rs 2 [.ref ra, .int (nI s1)], aC G ra 60 f] := hD
          refine kIfNeZ (tgt := 46) hF dX6_hasName_39 (by decide) (fun c_7 => ?_) (fun c_7 => ?_)
          · refine lv_iconst (v := (nI 0)) hF.1 hF.2.1 dX6_hasName_46 (by decide) ?_
            refine kRetI (v := (nI 0)) hF hr hlk hK hP hD hS hQ rfl (s1) [0, 1, 2] (by decide) rfl (by omega) (by omega) dX6_hasName_47 ?_
            exact ⟨zI_0 (by omega), by rw [← hR]; exact (scan_x (fun h9 => by first | (exfalso; omega) | exact decide_eq_false (fun h8 => ‹¬ (s1 < 60 ∧ f s1 = nI 47)› ⟨h9, h8⟩))).symm⟩
          · refine lv_iconst (v := (nI 1)) hF.1 hF.2.1 dX6_hasName_42 (by decide) ?_
            refine lv_goto (tgt := 47) hF.1 hF.2.1 dX6_hasName_43 (by decide) ?_
            refine kRetI (v := (nI 1)) hF hr hlk hK hP hD hS hQ rfl (s1) [0, 1, 2] (by decide) rfl (by omega) (by omega) dX6_hasName_47 ?_
            exact ⟨zI_1 (by omega), by rw [← hR]; exact (scan_x (fun h9 => by first | (exfalso; omega) | exact decide_eq_false (fun h8 => ‹¬ (s1 < 60 ∧ f s1 = nI 47)› ⟨h9, h8⟩))).symm⟩
        · obtain ⟨hx1, hx2⟩ := c_5
          refine lv_aload_n hF.1 hF.2.1 dX6_hasName_18 rfl (lv_at hl 1 rfl) ?_
          refine kGet (C := RX6) (T := TX6) (N := 10) (index := 12) hF hK hP (inT inBX6) 0 rfl rfl 4 (by decide) rfl (List.mem_cons_of_mem _ mF_X6_12) rfl dX6_hasName_19 ?_
          refine kCallI (wr := [oC wk 6 [.ref t, .ref en, .ref vo, .ref se, .ref rs, .int wa, .int (nI hp), .long nm, .int (zI la), .int (zI sl)]]) (va_runV (As := []) (rest := []) hF (c_X2_take l G H.size rs ra s1 f (by first | assumption | omega) (by first | assumption | omega)) (cwVB 0 hF rfl mL_X6_95 mI_X2_take mS_X2_take mN_X2 mC_X2_take rfl hd_X2_take rfl rfl ⟨Nat.le_of_ble_eq_true rfl, Nat.le_of_ble_eq_true rfl⟩) (kPre hK hP hD [1, 2] (by decide) rfl (q0 := 1) (ci := 2) rfl rfl rfl) rfl rfl hl.1 rfl (lv_room (Nat.le_of_ble_eq_true rfl)) dX6_hasName_22 ⟨by omega, by omega⟩) hP hD hS hA [1, 2] [0] rfl rfl (by decide) (by decide) (fun r u H locs hw_8 hP hD hS => ?_)
          subst hw_8
          have hP : PG G [oC wk 6 [.ref t, .ref en, .ref vo, .ref se, .ref rs, .int wa, .int (nI hp), .long nm, .int (zI la), .int (zI sl)], oC rs 2 [.ref ra, .int (nI (s1 + 1))], aC G ra 60 f] H := hP
          have hD : va_D A [oC wk 6 [.ref t, .ref en, .ref vo, .ref se, .ref rs, .int wa, .int (nI hp), .long nm, .int (zI la), .int (zI sl)], oC rs 2 [.ref ra, .int (nI (s1 + 1))], aC G ra 60 f] := hD
          refine lv_pop hF.1 hF.2.1 dX6_hasName_25 rfl ?_
          refine lv_iinc (v := (nI (k + 1))) (lv' := [(1, .int (nI (k + 1))), (0, .ref wk)]) hF.1 hF.2.1 dX6_hasName_26 hl (k := 0) rfl (nI_inc1 _) (by decide) rfl (fun ls hl => ?_)
          refine lv_goto (tgt := 2) hF.1 hF.2.1 dX6_hasName_29 (by decide) ?_
          exact ih_2 (k + 1) (s1 + 1) (by omega) (by omega) (by rw [← hR]; exact (scan_t (by omega) (decide_eq_true hx2)).symm) H locs ls hP hD hS (lv_sub hl [0, 1] rfl)
  exact loop_2 _ 0 st (Nat.lt_succ_self _) (by omega) (rfl) _ _ _ hP hD hS (lv_sub hl [0, 1] rfl)
set_option maxHeartbeats 4000000 in
set_option maxRecDepth 100000 in
theorem c_X6_takeName (l : Launch) (G : GG) (sz : Nat) (wk : Nat) (t : Nat) (en : Nat) (vo : Nat) (se : Nat) (rs : Nat) (ra : Nat) (st : Nat) (f : Nat → Int32) (wa : Int32) (hp : Nat) (nm : Int64) (la : Prop) (sl : Prop) (us : Int32) (ro : Int32) (pr : Int32) (tk : Nat) (tm : Nat) (to_ : Nat) (tv : Nat) (tp : Nat) (tl : Nat) (kF : Nat → Int32) (mF : Nat → Int32) (oF : Nat → Int32) (hs : st ≤ 60) (hf : ∀ j, okC (f j)) (hwa : vp_in wa 40) : CtI l G yX6_takeName wsX6_takeName 2 45 0 0 sz [.ref wk] [oC wk 6 [.ref t, .ref en, .ref vo, .ref se, .ref rs, .int wa, .int (nI hp), .long nm, .int (zI la), .int (zI sl)], oC rs 2 [.ref ra, .int (nI st)], aC G ra 60 f, oC se 3 [.ref t, .int us, .int ro, .int pr], oC t 4 [.ref tk, .ref tm, .ref to_, .ref tv, .ref tp, .ref tl], aI G tk 40 kF, aI G tm 40 mF, aI G to_ 40 oF] (fun r (u : Nat × Int64) => match u with | (s2, n2) => r = (tkR kF mF oF us wa (s2 - st)) ∧ s2 = scan (noS f) (60 - st) st ∧ n2 = nmC f (s2 - st) st (lN 0) ∧ st ≤ s2 ∧ s2 ≤ 60) (fun (u : Nat × Int64) => match u with | (s2, n2) => [oC wk 6 [.ref t, .ref en, .ref vo, .ref se, .ref rs, .int wa, .int (nI hp), .long n2, .int (zI (scan (isS f) (60 - s2) s2 = 60)), .int (zI (s2 < 60))], oC rs 2 [.ref ra, .int (nI s2)], aC G ra 60 f, oC se 3 [.ref t, .int us, .int ro, .int pr], oC t 4 [.ref tk, .ref tm, .ref to_, .ref tv, .ref tp, .ref tl], aI G tk 40 kF, aI G tm 40 mF, aI G to_ 40 oF]) := by
  refine kMet (Qc := fun A => va_Qi _ (Bw G A _) A) (cc := cX6_takeName) (nL := 3) (ret := some (.int)) (by decide) rfl (Nat.le_of_ble_eq_true rfl) ?_
  intro p e s m args below meth c A Q hF hr hlk hnme hK hP hD hA hS hQ hsz ls hl
  have hl : lv_has ls 3 [(0, .ref wk)] := hl
  refine lv_aload_n hF.1 hF.2.1 dX6_takeName_0 rfl (lv_at hl 0 rfl) ?_
  refine lv_lconst (v := lN 0) hF.1 hF.2.1 dX6_takeName_1 (by decide) ?_
  refine kPut (C := RX6) (T := TX6) (N := 10) (index := 38) (v := .long (lN 0)) hF hK hP hD hS (inT inBX6) tyX6_ok nmX6 0 rfl rfl 7 (by decide) rfl (List.mem_cons_of_mem _ mF_X6_38) rfl rfl rfl (Nat.le_of_ble_eq_true rfl) dX6_takeName_2 (fun H locs hP hD hS => ?_)
  have hP : PG G [oC wk 6 [.ref t, .ref en, .ref vo, .ref se, .ref rs, .int wa, .int (nI hp), .long (lN 0), .int (zI la), .int (zI sl)], oC rs 2 [.ref ra, .int (nI st)], aC G ra 60 f, oC se 3 [.ref t, .int us, .int ro, .int pr], oC t 4 [.ref tk, .ref tm, .ref to_, .ref tv, .ref tp, .ref tl], aI G tk 40 kF, aI G tm 40 mF, aI G to_ 40 oF] H := hP
  have hD : va_D A [oC wk 6 [.ref t, .ref en, .ref vo, .ref se, .ref rs, .int wa, .int (nI hp), .long (lN 0), .int (zI la), .int (zI sl)], oC rs 2 [.ref ra, .int (nI st)], aC G ra 60 f, oC se 3 [.ref t, .int us, .int ro, .int pr], oC t 4 [.ref tk, .ref tm, .ref to_, .ref tv, .ref tp, .ref tl], aI G tk 40 kF, aI G tm 40 mF, aI G to_ 40 oF] := hD
  refine lv_aload_n hF.1 hF.2.1 dX6_takeName_5 rfl (lv_at hl 0 rfl) ?_
  refine kGet (C := RX6) (T := TX6) (N := 10) (index := 12) hF hK hP (inT inBX6) 0 rfl rfl 4 (by decide) rfl (List.mem_cons_of_mem _ mF_X6_12) rfl dX6_takeName_6 ?_
  refine kCallI (wr := [oC wk 6 [.ref t, .ref en, .ref vo, .ref se, .ref rs, .int wa, .int (nI hp), .long (lN 0), .int (zI la), .int (zI sl)], oC se 3 [.ref t, .int us, .int ro, .int pr], oC t 4 [.ref tk, .ref tm, .ref to_, .ref tv, .ref tp, .ref tl], aI G tk 40 kF, aI G tm 40 mF, aI G to_ 40 oF]) (va_runV (As := []) (rest := []) hF (c_X2_size l G _ rs ra st f (by first | assumption | omega)) (cwVB 0 hF rfl mL_X6_100 mI_X2_size mS_X2_size mN_X2 mC_X2_size rfl hd_X2_size rfl rfl ⟨Nat.le_of_ble_eq_true rfl, Nat.le_of_ble_eq_true rfl⟩) (kPre hK hP hD [1, 2] (by decide) rfl (q0 := 1) (ci := 2) rfl rfl rfl) rfl rfl hl.1 rfl (lv_room (Nat.le_of_ble_eq_true rfl)) dX6_takeName_9 ⟨by omega, by omega⟩) hP hD hS hA [1, 2] [0, 3, 4, 5, 6, 7] rfl rfl (by decide) (by decide) (fun r u H locs hw_1 hP hD hS => ?_)
  subst hw_1
  have hP : PG G [oC wk 6 [.ref t, .ref en, .ref vo, .ref se, .ref rs, .int wa, .int (nI hp), .long (lN 0), .int (zI la), .int (zI sl)], oC rs 2 [.ref ra, .int (nI st)], aC G ra 60 f, oC se 3 [.ref t, .int us, .int ro, .int pr], oC t 4 [.ref tk, .ref tm, .ref to_, .ref tv, .ref tp, .ref tl], aI G tk 40 kF, aI G tm 40 mF, aI G to_ 40 oF] H := va_P.sub hP [0, 6, 7, 1, 2, 3, 4, 5] rfl
  have hD : va_D A [oC wk 6 [.ref t, .ref en, .ref vo, .ref se, .ref rs, .int wa, .int (nI hp), .long (lN 0), .int (zI la), .int (zI sl)], oC rs 2 [.ref ra, .int (nI st)], aC G ra 60 f, oC se 3 [.ref t, .int us, .int ro, .int pr], oC t 4 [.ref tk, .ref tm, .ref to_, .ref tv, .ref tp, .ref tl], aI G tk 40 kF, aI G tm 40 mF, aI G to_ 40 oF] := va_D.sub hD [0, 6, 7, 1, 2, 3, 4, 5] (by decide) rfl
  refine lv_istore_n (lv' := [(1, .int (nI (60 - st))), (0, .ref wk)]) hF.1 hF.2.1 dX6_takeName_12 rfl hl (by decide) rfl (fun ls hl => ?_)
  refine lv_iconst (v := (nI 0)) hF.1 hF.2.1 dX6_takeName_13 (by decide) ?_
  refine lv_istore_n (lv' := [(2, .int (nI 0)), (1, .int (nI (60 - st))), (0, .ref wk)]) hF.1 hF.2.1 dX6_takeName_14 rfl hl (by decide) rfl (fun ls hl => ?_)
  have loop_15 : ∀ (n_15 : Nat) (k s1 : Nat) (z : Int64), 60 - k < n_15 → s1 = st + k ∧ s1 ≤ 60 → scan (noS f) (60 - s1) s1 = scan (noS f) (60 - st) st → nmC f (scan (noS f) (60 - st) st - s1) s1 z = nmC f (scan (noS f) (60 - st) st - st) st (lN 0) → ∀ (H : Heap) (locs : List Loc) (ls : Array Slot), PG G [oC wk 6 [.ref t, .ref en, .ref vo, .ref se, .ref rs, .int wa, .int (nI hp), .long z, .int (zI la), .int (zI sl)], oC rs 2 [.ref ra, .int (nI s1)], aC G ra 60 f, oC se 3 [.ref t, .int us, .int ro, .int pr], oC t 4 [.ref tk, .ref tm, .ref to_, .ref tv, .ref tp, .ref tl], aI G tk 40 kF, aI G tm 40 mF, aI G to_ 40 oF] H → va_D A [oC wk 6 [.ref t, .ref en, .ref vo, .ref se, .ref rs, .int wa, .int (nI hp), .long z, .int (zI la), .int (zI sl)], oC rs 2 [.ref ra, .int (nI s1)], aC G ra 60 f, oC se 3 [.ref t, .int us, .int ro, .int pr], oC t 4 [.ref tk, .ref tm, .ref to_, .ref tv, .ref tp, .ref tl], aI G tk 40 kF, aI G tm 40 mF, aI G to_ 40 oF] → va_S A s.heap H locs → lv_has ls 3 [(2, .int (nI k)), (1, .int (nI (60 - st))), (0, .ref wk)] → W p l e (Rm 2 0 0 45) s m args below meth c H locs 0 0 Q (F0 m 15 ls []) := by
    intro n_15
    induction n_15 with
    | zero => intro k s1 z hm; exact absurd hm (Nat.not_lt_zero _)
    | succ n_15 ih_15 =>
      intro k s1 z hm_15 hk hR hN H locs ls hP hD hS hl
      refine lv_iload_n hF.1 hF.2.1 dX6_takeName_15 rfl (lv_at hl 0 rfl) ?_
      refine lv_bipush (v := (nI 60)) hF.1 hF.2.1 dX6_takeName_16 (by decide) ?_
      refine kGeN (tgt := 67) hF dX6_takeName_18 (by decide) (by omega) (by omega) (fun c_2 => ?_) (fun c_2 => ?_)
      · have hJ : scan (noS f) (60 - st) st = s1 := by rw [← hR]; exact scan_x (fun h9 => by first | (exfalso; omega) | (simp only [Bool.not_eq_false', decide_eq_true_eq]; exact (by assumption : s1 < 60 ∧ f s1 = nI 47).2))
        have hZ : z = nmC f (s1 - st) st (lN 0) := by have h := hN; rw [hJ, nmC_e (Nat.le_refl s1)] at h; exact h
        refine lv_iload_n hF.1 hF.2.1 dX6_takeName_67 rfl (lv_at hl 1 rfl) ?_
        refine lv_aload_n hF.1 hF.2.1 dX6_takeName_68 rfl (lv_at hl 2 rfl) ?_
        refine kGet (C := RX6) (T := TX6) (N := 10) (index := 12) hF hK hP (inT inBX6) 0 rfl rfl 4 (by decide) rfl (List.mem_cons_of_mem _ mF_X6_12) rfl dX6_takeName_69 ?_
        refine kCallI (wr := [oC wk 6 [.ref t, .ref en, .ref vo, .ref se, .ref rs, .int wa, .int (nI hp), .long z, .int (zI la), .int (zI sl)], oC se 3 [.ref t, .int us, .int ro, .int pr], oC t 4 [.ref tk, .ref tm, .ref to_, .ref tv, .ref tp, .ref tl], aI G tk 40 kF, aI G tm 40 mF, aI G to_ 40 oF]) (va_runV (As := []) (rest := [.int (nI (60 - st))]) hF (c_X2_size l G H.size rs ra s1 f (by first | assumption | omega)) (cwVB 0 hF rfl mL_X6_100 mI_X2_size mS_X2_size mN_X2 mC_X2_size rfl hd_X2_size rfl rfl ⟨Nat.le_of_ble_eq_true rfl, Nat.le_of_ble_eq_true rfl⟩) (kPre hK hP hD [1, 2] (by decide) rfl (q0 := 1) (ci := 2) rfl rfl rfl) rfl rfl hl.1 rfl (lv_room (Nat.le_of_ble_eq_true rfl)) dX6_takeName_72 ⟨by omega, by omega⟩) hP hD hS hA [1, 2] [0, 3, 4, 5, 6, 7] rfl rfl (by decide) (by decide) (fun r u H locs hw_3 hP hD hS => ?_)
        subst hw_3
        have hP : PG G [oC wk 6 [.ref t, .ref en, .ref vo, .ref se, .ref rs, .int wa, .int (nI hp), .long z, .int (zI la), .int (zI sl)], oC rs 2 [.ref ra, .int (nI s1)], aC G ra 60 f, oC se 3 [.ref t, .int us, .int ro, .int pr], oC t 4 [.ref tk, .ref tm, .ref to_, .ref tv, .ref tp, .ref tl], aI G tk 40 kF, aI G tm 40 mF, aI G to_ 40 oF] H := va_P.sub hP [0, 6, 7, 1, 2, 3, 4, 5] rfl
        have hD : va_D A [oC wk 6 [.ref t, .ref en, .ref vo, .ref se, .ref rs, .int wa, .int (nI hp), .long z, .int (zI la), .int (zI sl)], oC rs 2 [.ref ra, .int (nI s1)], aC G ra 60 f, oC se 3 [.ref t, .int us, .int ro, .int pr], oC t 4 [.ref tk, .ref tm, .ref to_, .ref tv, .ref tp, .ref tl], aI G tk 40 kF, aI G tm 40 mF, aI G to_ 40 oF] := va_D.sub hD [0, 6, 7, 1, 2, 3, 4, 5] (by decide) rfl
        refine lv_isub hF.1 hF.2.1 dX6_takeName_75 ?_
        refine kTop (y := (nI ((60 - st) - (60 - s1)))) (pk_sub (by omega)) ?_
        refine lv_istore_n (lv' := [(2, .int (nI ((60 - st) - (60 - s1)))), (1, .int (nI (60 - st))), (0, .ref wk)]) hF.1 hF.2.1 dX6_takeName_76 rfl hl (by decide) rfl (fun ls hl => ?_)
        refine lv_aload_n hF.1 hF.2.1 dX6_takeName_77 rfl (lv_at hl 2 rfl) ?_
        refine lv_aload_n hF.1 hF.2.1 dX6_takeName_78 rfl (lv_at hl 2 rfl) ?_
        refine kGet (C := RX6) (T := TX6) (N := 10) (index := 12) hF hK hP (inT inBX6) 0 rfl rfl 4 (by decide) rfl (List.mem_cons_of_mem _ mF_X6_12) rfl dX6_takeName_79 ?_
        refine kCallI (wr := [oC wk 6 [.ref t, .ref en, .ref vo, .ref se, .ref rs, .int wa, .int (nI hp), .long z, .int (zI la), .int (zI sl)], oC se 3 [.ref t, .int us, .int ro, .int pr], oC t 4 [.ref tk, .ref tm, .ref to_, .ref tv, .ref tp, .ref tl], aI G tk 40 kF, aI G tm 40 mF, aI G to_ 40 oF]) (va_runV (As := []) (rest := [.ref wk]) hF (c_X2_hasSlashesAlone l G H.size rs ra s1 f (by first | assumption | omega)) (cwVB 0 hF rfl mL_X6_103 mI_X2_hasSlashesAlone mS_X2_hasSlashesAlone mN_X2 mC_X2_hasSlashesAlone rfl hd_X2_hasSlashesAlone rfl rfl ⟨Nat.le_of_ble_eq_true rfl, Nat.le_of_ble_eq_true rfl⟩) (kPre hK hP hD [1, 2] (by decide) rfl (q0 := 1) (ci := 2) rfl rfl rfl) rfl rfl hl.1 rfl (lv_room (Nat.le_of_ble_eq_true rfl)) dX6_takeName_82 ⟨by omega, by omega⟩) hP hD hS hA [1, 2] [0, 3, 4, 5, 6, 7] rfl rfl (by decide) (by decide) (fun r u H locs hw_4 hP hD hS => ?_)
        subst hw_4
        have hP : PG G [oC wk 6 [.ref t, .ref en, .ref vo, .ref se, .ref rs, .int wa, .int (nI hp), .long z, .int (zI la), .int (zI sl)], oC rs 2 [.ref ra, .int (nI s1)], aC G ra 60 f, oC se 3 [.ref t, .int us, .int ro, .int pr], oC t 4 [.ref tk, .ref tm, .ref to_, .ref tv, .ref tp, .ref tl], aI G tk 40 kF, aI G tm 40 mF, aI G to_ 40 oF] H := va_P.sub hP [0, 6, 7, 1, 2, 3, 4, 5] rfl
        have hD : va_D A [oC wk 6 [.ref t, .ref en, .ref vo, .ref se, .ref rs, .int wa, .int (nI hp), .long z, .int (zI la), .int (zI sl)], oC rs 2 [.ref ra, .int (nI s1)], aC G ra 60 f, oC se 3 [.ref t, .int us, .int ro, .int pr], oC t 4 [.ref tk, .ref tm, .ref to_, .ref tv, .ref tp, .ref tl], aI G tk 40 kF, aI G tm 40 mF, aI G to_ 40 oF] := va_D.sub hD [0, 6, 7, 1, 2, 3, 4, 5] (by decide) rfl
        refine kPut (C := RX6) (T := TX6) (N := 10) (index := 71) (v := .int (zI (scan (isS f) (60 - s1) s1 = 60))) hF hK hP hD hS (inT inBX6) tyX6_ok nmX6 0 rfl rfl 8 (by decide) rfl (List.mem_cons_of_mem _ mF_X6_71) rfl (zI_nar _) (zI_fit _) (Nat.le_of_ble_eq_true rfl) dX6_takeName_85 (fun H locs hP hD hS => ?_)
        have hP : PG G [oC wk 6 [.ref t, .ref en, .ref vo, .ref se, .ref rs, .int wa, .int (nI hp), .long z, .int (zI (scan (isS f) (60 - s1) s1 = 60)), .int (zI sl)], oC rs 2 [.ref ra, .int (nI s1)], aC G ra 60 f, oC se 3 [.ref t, .int us, .int ro, .int pr], oC t 4 [.ref tk, .ref tm, .ref to_, .ref tv, .ref tp, .ref tl], aI G tk 40 kF, aI G tm 40 mF, aI G to_ 40 oF] H := hP
        have hD : va_D A [oC wk 6 [.ref t, .ref en, .ref vo, .ref se, .ref rs, .int wa, .int (nI hp), .long z, .int (zI (scan (isS f) (60 - s1) s1 = 60)), .int (zI sl)], oC rs 2 [.ref ra, .int (nI s1)], aC G ra 60 f, oC se 3 [.ref t, .int us, .int ro, .int pr], oC t 4 [.ref tk, .ref tm, .ref to_, .ref tv, .ref tp, .ref tl], aI G tk 40 kF, aI G tm 40 mF, aI G to_ 40 oF] := hD
        refine lv_aload_n hF.1 hF.2.1 dX6_takeName_88 rfl (lv_at hl 2 rfl) ?_
        refine lv_aload_n hF.1 hF.2.1 dX6_takeName_89 rfl (lv_at hl 2 rfl) ?_
        refine kGet (C := RX6) (T := TX6) (N := 10) (index := 12) hF hK hP (inT inBX6) 0 rfl rfl 4 (by decide) rfl (List.mem_cons_of_mem _ mF_X6_12) rfl dX6_takeName_90 ?_
        refine kCallI (wr := [oC wk 6 [.ref t, .ref en, .ref vo, .ref se, .ref rs, .int wa, .int (nI hp), .long z, .int (zI (scan (isS f) (60 - s1) s1 = 60)), .int (zI sl)], oC se 3 [.ref t, .int us, .int ro, .int pr], oC t 4 [.ref tk, .ref tm, .ref to_, .ref tv, .ref tp, .ref tl], aI G tk 40 kF, aI G tm 40 mF, aI G to_ 40 oF]) (va_runV (As := []) (rest := [.ref wk]) hF (c_X2_isEmpty l G H.size rs ra s1 f (by first | assumption | omega)) (cwVB 0 hF rfl mL_X6_99 mI_X2_isEmpty mS_X2_isEmpty mN_X2 mC_X2_isEmpty rfl hd_X2_isEmpty rfl rfl ⟨Nat.le_of_ble_eq_true rfl, Nat.le_of_ble_eq_true rfl⟩) (kPre hK hP hD [1, 2] (by decide) rfl (q0 := 1) (ci := 2) rfl rfl rfl) rfl rfl hl.1 rfl (lv_room (Nat.le_of_ble_eq_true rfl)) dX6_takeName_93 ⟨by omega, by omega⟩) hP hD hS hA [1, 2] [0, 3, 4, 5, 6, 7] rfl rfl (by decide) (by decide) (fun r u H locs hw_5 hP hD hS => ?_)
        subst hw_5
        have hP : PG G [oC wk 6 [.ref t, .ref en, .ref vo, .ref se, .ref rs, .int wa, .int (nI hp), .long z, .int (zI (scan (isS f) (60 - s1) s1 = 60)), .int (zI sl)], oC rs 2 [.ref ra, .int (nI s1)], aC G ra 60 f, oC se 3 [.ref t, .int us, .int ro, .int pr], oC t 4 [.ref tk, .ref tm, .ref to_, .ref tv, .ref tp, .ref tl], aI G tk 40 kF, aI G tm 40 mF, aI G to_ 40 oF] H := va_P.sub hP [0, 6, 7, 1, 2, 3, 4, 5] rfl
        have hD : va_D A [oC wk 6 [.ref t, .ref en, .ref vo, .ref se, .ref rs, .int wa, .int (nI hp), .long z, .int (zI (scan (isS f) (60 - s1) s1 = 60)), .int (zI sl)], oC rs 2 [.ref ra, .int (nI s1)], aC G ra 60 f, oC se 3 [.ref t, .int us, .int ro, .int pr], oC t 4 [.ref tk, .ref tm, .ref to_, .ref tv, .ref tp, .ref tl], aI G tk 40 kF, aI G tm 40 mF, aI G to_ 40 oF] := va_D.sub hD [0, 6, 7, 1, 2, 3, 4, 5] (by decide) rfl
        refine kIfNeZ (tgt := 103) hF dX6_takeName_96 (by decide) (fun c_6 => ?_) (fun c_6 => ?_)
        · refine lv_iconst (v := (nI 0)) hF.1 hF.2.1 dX6_takeName_103 (by decide) ?_
          refine kTop (y := zI (s1 < 60)) (first_z (by first | exact Or.inl ⟨rfl, by omega⟩ | exact Or.inr ⟨rfl, by omega⟩)) ?_
          refine kPut (C := RX6) (T := TX6) (N := 10) (index := 42) (v := .int (zI (s1 < 60))) hF hK hP hD hS (inT inBX6) tyX6_ok nmX6 0 rfl rfl 9 (by decide) rfl (List.mem_cons_of_mem _ mF_X6_42) rfl (zI_nar _) (zI_fit _) (Nat.le_of_ble_eq_true rfl) dX6_takeName_104 (fun H locs hP hD hS => ?_)
          have hP : PG G [oC wk 6 [.ref t, .ref en, .ref vo, .ref se, .ref rs, .int wa, .int (nI hp), .long z, .int (zI (scan (isS f) (60 - s1) s1 = 60)), .int (zI (s1 < 60))], oC rs 2 [.ref ra, .int (nI s1)], aC G ra 60 f, oC se 3 [.ref t, .int us, .int ro, .int pr], oC t 4 [.ref tk, .ref tm, .ref to_, .ref tv, .ref tp, .ref tl], aI G tk 40 kF, aI G tm 40 mF, aI G to_ 40 oF] H := hP
          have hD : va_D A [oC wk 6 [.ref t, .ref en, .ref vo, .ref se, .ref rs, .int wa, .int (nI hp), .long z, .int (zI (scan (isS f) (60 - s1) s1 = 60)), .int (zI (s1 < 60))], oC rs 2 [.ref ra, .int (nI s1)], aC G ra 60 f, oC se 3 [.ref t, .int us, .int ro, .int pr], oC t 4 [.ref tk, .ref tm, .ref to_, .ref tv, .ref tp, .ref tl], aI G tk 40 kF, aI G tm 40 mF, aI G to_ 40 oF] := hD
          refine lv_aload_n hF.1 hF.2.1 dX6_takeName_107 rfl (lv_at hl 2 rfl) ?_
          refine kGet (C := RX6) (T := TX6) (N := 10) (index := 18) hF hK hP (inT inBX6) 0 rfl rfl 0 (by decide) rfl (List.mem_cons_of_mem _ mF_X6_18) rfl dX6_takeName_108 ?_
          refine lv_aload_n hF.1 hF.2.1 dX6_takeName_111 rfl (lv_at hl 2 rfl) ?_
          refine kGet (C := RX6) (T := TX6) (N := 10) (index := 34) hF hK hP (inT inBX6) 0 rfl rfl 5 (by decide) rfl (List.mem_cons_of_mem _ mF_X6_34) rfl dX6_takeName_112 ?_
          refine kCallI (wr := [oC wk 6 [.ref t, .ref en, .ref vo, .ref se, .ref rs, .int wa, .int (nI hp), .long z, .int (zI (scan (isS f) (60 - s1) s1 = 60)), .int (zI (s1 < 60))], oC rs 2 [.ref ra, .int (nI s1)], aC G ra 60 f, oC se 3 [.ref t, .int us, .int ro, .int pr], aI G tm 40 mF, aI G to_ 40 oF]) (va_runV (As := [.int wa]) (rest := []) hF (c_X4_isDirectory l G H.size t tk tm to_ tv tp tl kF wa (by first | assumption | omega)) (cwVB 1 hF rfl mL_X6_106 mI_X4_isDirectory mS_X4_isDirectory mN_X4 mC_X4_isDirectory rfl hd_X4_isDirectory rfl rfl ⟨Nat.le_of_ble_eq_true rfl, Nat.le_of_ble_eq_true rfl⟩) (kPre hK hP hD [4, 5] (by decide) rfl (q0 := 4) (ci := 4) rfl rfl rfl) rfl rfl hl.1 rfl (lv_room (Nat.le_of_ble_eq_true rfl)) dX6_takeName_115 ⟨by omega, by omega⟩) hP hD hS hA [4, 5] [0, 1, 2, 3, 6, 7] rfl rfl (by decide) (by decide) (fun r u H locs hw_7 hP hD hS => ?_)
          subst hw_7
          have hP : PG G [oC wk 6 [.ref t, .ref en, .ref vo, .ref se, .ref rs, .int wa, .int (nI hp), .long z, .int (zI (scan (isS f) (60 - s1) s1 = 60)), .int (zI (s1 < 60))], oC rs 2 [.ref ra, .int (nI s1)], aC G ra 60 f, oC se 3 [.ref t, .int us, .int ro, .int pr], oC t 4 [.ref tk, .ref tm, .ref to_, .ref tv, .ref tp, .ref tl], aI G tk 40 kF, aI G tm 40 mF, aI G to_ 40 oF] H := va_P.sub hP [0, 1, 2, 3, 6, 7, 4, 5] rfl
          have hD : va_D A [oC wk 6 [.ref t, .ref en, .ref vo, .ref se, .ref rs, .int wa, .int (nI hp), .long z, .int (zI (scan (isS f) (60 - s1) s1 = 60)), .int (zI (s1 < 60))], oC rs 2 [.ref ra, .int (nI s1)], aC G ra 60 f, oC se 3 [.ref t, .int us, .int ro, .int pr], oC t 4 [.ref tk, .ref tm, .ref to_, .ref tv, .ref tp, .ref tl], aI G tk 40 kF, aI G tm 40 mF, aI G to_ 40 oF] := va_D.sub hD [0, 1, 2, 3, 6, 7, 4, 5] (by decide) rfl
          refine kIfNeZ (tgt := 124) hF dX6_takeName_118 (by decide) (fun c_8 => ?_) (fun c_8 => ?_)
          · refine lv_aload_n hF.1 hF.2.1 dX6_takeName_124 rfl (lv_at hl 2 rfl) ?_
            refine kGet (C := RX6) (T := TX6) (N := 10) (index := 30) hF hK hP (inT inBX6) 0 rfl rfl 3 (by decide) rfl (List.mem_cons_of_mem _ mF_X6_30) rfl dX6_takeName_125 ?_
            refine lv_iconst (v := (nI 1)) hF.1 hF.2.1 dX6_takeName_128 (by decide) ?_
            refine lv_aload_n hF.1 hF.2.1 dX6_takeName_129 rfl (lv_at hl 2 rfl) ?_
            refine kGet (C := RX6) (T := TX6) (N := 10) (index := 34) hF hK hP (inT inBX6) 0 rfl rfl 5 (by decide) rfl (List.mem_cons_of_mem _ mF_X6_34) rfl dX6_takeName_130 ?_
            refine kCallI (wr := [oC wk 6 [.ref t, .ref en, .ref vo, .ref se, .ref rs, .int wa, .int (nI hp), .long z, .int (zI (scan (isS f) (60 - s1) s1 = 60)), .int (zI (s1 < 60))], oC rs 2 [.ref ra, .int (nI s1)], aC G ra 60 f, aI G tk 40 kF]) (va_runV (As := [.int (nI 1), .int wa]) (rest := []) hF (c_X3_may l G H.size se t us ro pr tk tm to_ tv tp tl mF oF (nI 1) wa (by first | assumption | omega)) (cwVB 2 hF rfl mL_X6_112 mI_X3_may mS_X3_may mN_X3 mC_X3_may rfl hd_X3_may rfl rfl ⟨Nat.le_of_ble_eq_true rfl, Nat.le_of_ble_eq_true rfl⟩) (kPre hK hP hD [3, 4, 6, 7] (by decide) rfl (q0 := 3) (ci := 3) rfl rfl rfl) rfl rfl hl.1 rfl (lv_room (Nat.le_of_ble_eq_true rfl)) dX6_takeName_133 ⟨by omega, by omega⟩) hP hD hS hA [3, 4, 6, 7] [0, 1, 2, 5] rfl rfl (by decide) (by decide) (fun r u H locs hw_9 hP hD hS => ?_)
            subst hw_9
            have hP : PG G [oC wk 6 [.ref t, .ref en, .ref vo, .ref se, .ref rs, .int wa, .int (nI hp), .long z, .int (zI (scan (isS f) (60 - s1) s1 = 60)), .int (zI (s1 < 60))], oC rs 2 [.ref ra, .int (nI s1)], aC G ra 60 f, oC se 3 [.ref t, .int us, .int ro, .int pr], oC t 4 [.ref tk, .ref tm, .ref to_, .ref tv, .ref tp, .ref tl], aI G tk 40 kF, aI G tm 40 mF, aI G to_ 40 oF] H := va_P.sub hP [0, 1, 2, 4, 5, 3, 6, 7] rfl
            have hD : va_D A [oC wk 6 [.ref t, .ref en, .ref vo, .ref se, .ref rs, .int wa, .int (nI hp), .long z, .int (zI (scan (isS f) (60 - s1) s1 = 60)), .int (zI (s1 < 60))], oC rs 2 [.ref ra, .int (nI s1)], aC G ra 60 f, oC se 3 [.ref t, .int us, .int ro, .int pr], oC t 4 [.ref tk, .ref tm, .ref to_, .ref tv, .ref tp, .ref tl], aI G tk 40 kF, aI G tm 40 mF, aI G to_ 40 oF] := va_D.sub hD [0, 1, 2, 4, 5, 3, 6, 7] (by decide) rfl
            refine kIfNeZ (tgt := 142) hF dX6_takeName_136 (by decide) (fun c_10 => ?_) (fun c_10 => ?_)
            · refine lv_iload_n hF.1 hF.2.1 dX6_takeName_142 rfl (lv_at hl 0 rfl) ?_
              refine lv_bipush (v := (nI 6)) hF.1 hF.2.1 dX6_takeName_143 (by decide) ?_
              refine kLeN (tgt := 153) hF dX6_takeName_145 (by decide) (by omega) (by omega) (fun c_11 => ?_) (fun c_11 => ?_)
              · refine lv_iconst (v := (nI 0)) hF.1 hF.2.1 dX6_takeName_153 (by decide) ?_
                refine kRetI (v := (nI 0)) hF hr hlk hK hP hD hS hQ rfl (s1, z) [0, 1, 2, 3, 4, 5, 6, 7] (by decide) rfl (by omega) (by omega) dX6_takeName_154 ?_
                refine ⟨?_, hJ.symm, hZ, by omega, by omega⟩
                unfold tkR
                first | (exfalso; omega) | rw [if_neg (by assumption)] | (rw [if_pos (by assumption)]; first | rw [pI_f (by assumption)] | (rw [pI_t (by assumption)]; first | rw [if_pos (by omega)] | rw [if_neg (by omega)]))
              · refine lv_bipush (v := (-5)) hF.1 hF.2.1 dX6_takeName_148 (by decide) ?_
                refine lv_goto (tgt := 154) hF.1 hF.2.1 dX6_takeName_150 (by decide) ?_
                refine kRetI (v := (-5)) hF hr hlk hK hP hD hS hQ rfl (s1, z) [0, 1, 2, 3, 4, 5, 6, 7] (by decide) rfl (by omega) (by omega) dX6_takeName_154 ?_
                refine ⟨?_, hJ.symm, hZ, by omega, by omega⟩
                unfold tkR
                first | (exfalso; omega) | rw [if_neg (by assumption)] | (rw [if_pos (by assumption)]; first | rw [pI_f (by assumption)] | (rw [pI_t (by assumption)]; first | rw [if_pos (by omega)] | rw [if_neg (by omega)]))
            · refine lv_bipush (v := (-3)) hF.1 hF.2.1 dX6_takeName_139 (by decide) ?_
              refine kRetI (v := (-3)) hF hr hlk hK hP hD hS hQ rfl (s1, z) [0, 1, 2, 3, 4, 5, 6, 7] (by decide) rfl (by omega) (by omega) dX6_takeName_141 ?_
              refine ⟨?_, hJ.symm, hZ, by omega, by omega⟩
              unfold tkR
              first | (exfalso; omega) | rw [if_neg (by assumption)] | (rw [if_pos (by assumption)]; first | rw [pI_f (by assumption)] | (rw [pI_t (by assumption)]; first | rw [if_pos (by omega)] | rw [if_neg (by omega)]))
          · refine lv_bipush (v := (-2)) hF.1 hF.2.1 dX6_takeName_121 (by decide) ?_
            refine kRetI (v := (-2)) hF hr hlk hK hP hD hS hQ rfl (s1, z) [0, 1, 2, 3, 4, 5, 6, 7] (by decide) rfl (by omega) (by omega) dX6_takeName_123 ?_
            refine ⟨?_, hJ.symm, hZ, by omega, by omega⟩
            unfold tkR
            first | (exfalso; omega) | rw [if_neg (by assumption)] | (rw [if_pos (by assumption)]; first | rw [pI_f (by assumption)] | (rw [pI_t (by assumption)]; first | rw [if_pos (by omega)] | rw [if_neg (by omega)]))
        · refine lv_iconst (v := (nI 1)) hF.1 hF.2.1 dX6_takeName_99 (by decide) ?_
          refine lv_goto (tgt := 104) hF.1 hF.2.1 dX6_takeName_100 (by decide) ?_
          refine kTop (y := zI (s1 < 60)) (first_z (by first | exact Or.inl ⟨rfl, by omega⟩ | exact Or.inr ⟨rfl, by omega⟩)) ?_
          refine kPut (C := RX6) (T := TX6) (N := 10) (index := 42) (v := .int (zI (s1 < 60))) hF hK hP hD hS (inT inBX6) tyX6_ok nmX6 0 rfl rfl 9 (by decide) rfl (List.mem_cons_of_mem _ mF_X6_42) rfl (zI_nar _) (zI_fit _) (Nat.le_of_ble_eq_true rfl) dX6_takeName_104 (fun H locs hP hD hS => ?_)
          have hP : PG G [oC wk 6 [.ref t, .ref en, .ref vo, .ref se, .ref rs, .int wa, .int (nI hp), .long z, .int (zI (scan (isS f) (60 - s1) s1 = 60)), .int (zI (s1 < 60))], oC rs 2 [.ref ra, .int (nI s1)], aC G ra 60 f, oC se 3 [.ref t, .int us, .int ro, .int pr], oC t 4 [.ref tk, .ref tm, .ref to_, .ref tv, .ref tp, .ref tl], aI G tk 40 kF, aI G tm 40 mF, aI G to_ 40 oF] H := hP
          have hD : va_D A [oC wk 6 [.ref t, .ref en, .ref vo, .ref se, .ref rs, .int wa, .int (nI hp), .long z, .int (zI (scan (isS f) (60 - s1) s1 = 60)), .int (zI (s1 < 60))], oC rs 2 [.ref ra, .int (nI s1)], aC G ra 60 f, oC se 3 [.ref t, .int us, .int ro, .int pr], oC t 4 [.ref tk, .ref tm, .ref to_, .ref tv, .ref tp, .ref tl], aI G tk 40 kF, aI G tm 40 mF, aI G to_ 40 oF] := hD
          refine lv_aload_n hF.1 hF.2.1 dX6_takeName_107 rfl (lv_at hl 2 rfl) ?_
          refine kGet (C := RX6) (T := TX6) (N := 10) (index := 18) hF hK hP (inT inBX6) 0 rfl rfl 0 (by decide) rfl (List.mem_cons_of_mem _ mF_X6_18) rfl dX6_takeName_108 ?_
          refine lv_aload_n hF.1 hF.2.1 dX6_takeName_111 rfl (lv_at hl 2 rfl) ?_
          refine kGet (C := RX6) (T := TX6) (N := 10) (index := 34) hF hK hP (inT inBX6) 0 rfl rfl 5 (by decide) rfl (List.mem_cons_of_mem _ mF_X6_34) rfl dX6_takeName_112 ?_
          refine kCallI (wr := [oC wk 6 [.ref t, .ref en, .ref vo, .ref se, .ref rs, .int wa, .int (nI hp), .long z, .int (zI (scan (isS f) (60 - s1) s1 = 60)), .int (zI (s1 < 60))], oC rs 2 [.ref ra, .int (nI s1)], aC G ra 60 f, oC se 3 [.ref t, .int us, .int ro, .int pr], aI G tm 40 mF, aI G to_ 40 oF]) (va_runV (As := [.int wa]) (rest := []) hF (c_X4_isDirectory l G H.size t tk tm to_ tv tp tl kF wa (by first | assumption | omega)) (cwVB 1 hF rfl mL_X6_106 mI_X4_isDirectory mS_X4_isDirectory mN_X4 mC_X4_isDirectory rfl hd_X4_isDirectory rfl rfl ⟨Nat.le_of_ble_eq_true rfl, Nat.le_of_ble_eq_true rfl⟩) (kPre hK hP hD [4, 5] (by decide) rfl (q0 := 4) (ci := 4) rfl rfl rfl) rfl rfl hl.1 rfl (lv_room (Nat.le_of_ble_eq_true rfl)) dX6_takeName_115 ⟨by omega, by omega⟩) hP hD hS hA [4, 5] [0, 1, 2, 3, 6, 7] rfl rfl (by decide) (by decide) (fun r u H locs hw_12 hP hD hS => ?_)
          subst hw_12
          have hP : PG G [oC wk 6 [.ref t, .ref en, .ref vo, .ref se, .ref rs, .int wa, .int (nI hp), .long z, .int (zI (scan (isS f) (60 - s1) s1 = 60)), .int (zI (s1 < 60))], oC rs 2 [.ref ra, .int (nI s1)], aC G ra 60 f, oC se 3 [.ref t, .int us, .int ro, .int pr], oC t 4 [.ref tk, .ref tm, .ref to_, .ref tv, .ref tp, .ref tl], aI G tk 40 kF, aI G tm 40 mF, aI G to_ 40 oF] H := va_P.sub hP [0, 1, 2, 3, 6, 7, 4, 5] rfl
          have hD : va_D A [oC wk 6 [.ref t, .ref en, .ref vo, .ref se, .ref rs, .int wa, .int (nI hp), .long z, .int (zI (scan (isS f) (60 - s1) s1 = 60)), .int (zI (s1 < 60))], oC rs 2 [.ref ra, .int (nI s1)], aC G ra 60 f, oC se 3 [.ref t, .int us, .int ro, .int pr], oC t 4 [.ref tk, .ref tm, .ref to_, .ref tv, .ref tp, .ref tl], aI G tk 40 kF, aI G tm 40 mF, aI G to_ 40 oF] := va_D.sub hD [0, 1, 2, 3, 6, 7, 4, 5] (by decide) rfl
          refine kIfNeZ (tgt := 124) hF dX6_takeName_118 (by decide) (fun c_13 => ?_) (fun c_13 => ?_)
          · refine lv_aload_n hF.1 hF.2.1 dX6_takeName_124 rfl (lv_at hl 2 rfl) ?_
            refine kGet (C := RX6) (T := TX6) (N := 10) (index := 30) hF hK hP (inT inBX6) 0 rfl rfl 3 (by decide) rfl (List.mem_cons_of_mem _ mF_X6_30) rfl dX6_takeName_125 ?_
            refine lv_iconst (v := (nI 1)) hF.1 hF.2.1 dX6_takeName_128 (by decide) ?_
            refine lv_aload_n hF.1 hF.2.1 dX6_takeName_129 rfl (lv_at hl 2 rfl) ?_
            refine kGet (C := RX6) (T := TX6) (N := 10) (index := 34) hF hK hP (inT inBX6) 0 rfl rfl 5 (by decide) rfl (List.mem_cons_of_mem _ mF_X6_34) rfl dX6_takeName_130 ?_
            refine kCallI (wr := [oC wk 6 [.ref t, .ref en, .ref vo, .ref se, .ref rs, .int wa, .int (nI hp), .long z, .int (zI (scan (isS f) (60 - s1) s1 = 60)), .int (zI (s1 < 60))], oC rs 2 [.ref ra, .int (nI s1)], aC G ra 60 f, aI G tk 40 kF]) (va_runV (As := [.int (nI 1), .int wa]) (rest := []) hF (c_X3_may l G H.size se t us ro pr tk tm to_ tv tp tl mF oF (nI 1) wa (by first | assumption | omega)) (cwVB 2 hF rfl mL_X6_112 mI_X3_may mS_X3_may mN_X3 mC_X3_may rfl hd_X3_may rfl rfl ⟨Nat.le_of_ble_eq_true rfl, Nat.le_of_ble_eq_true rfl⟩) (kPre hK hP hD [3, 4, 6, 7] (by decide) rfl (q0 := 3) (ci := 3) rfl rfl rfl) rfl rfl hl.1 rfl (lv_room (Nat.le_of_ble_eq_true rfl)) dX6_takeName_133 ⟨by omega, by omega⟩) hP hD hS hA [3, 4, 6, 7] [0, 1, 2, 5] rfl rfl (by decide) (by decide) (fun r u H locs hw_14 hP hD hS => ?_)
            subst hw_14
            have hP : PG G [oC wk 6 [.ref t, .ref en, .ref vo, .ref se, .ref rs, .int wa, .int (nI hp), .long z, .int (zI (scan (isS f) (60 - s1) s1 = 60)), .int (zI (s1 < 60))], oC rs 2 [.ref ra, .int (nI s1)], aC G ra 60 f, oC se 3 [.ref t, .int us, .int ro, .int pr], oC t 4 [.ref tk, .ref tm, .ref to_, .ref tv, .ref tp, .ref tl], aI G tk 40 kF, aI G tm 40 mF, aI G to_ 40 oF] H := va_P.sub hP [0, 1, 2, 4, 5, 3, 6, 7] rfl
            have hD : va_D A [oC wk 6 [.ref t, .ref en, .ref vo, .ref se, .ref rs, .int wa, .int (nI hp), .long z, .int (zI (scan (isS f) (60 - s1) s1 = 60)), .int (zI (s1 < 60))], oC rs 2 [.ref ra, .int (nI s1)], aC G ra 60 f, oC se 3 [.ref t, .int us, .int ro, .int pr], oC t 4 [.ref tk, .ref tm, .ref to_, .ref tv, .ref tp, .ref tl], aI G tk 40 kF, aI G tm 40 mF, aI G to_ 40 oF] := va_D.sub hD [0, 1, 2, 4, 5, 3, 6, 7] (by decide) rfl
            refine kIfNeZ (tgt := 142) hF dX6_takeName_136 (by decide) (fun c_15 => ?_) (fun c_15 => ?_)
            · refine lv_iload_n hF.1 hF.2.1 dX6_takeName_142 rfl (lv_at hl 0 rfl) ?_
              refine lv_bipush (v := (nI 6)) hF.1 hF.2.1 dX6_takeName_143 (by decide) ?_
              refine kLeN (tgt := 153) hF dX6_takeName_145 (by decide) (by omega) (by omega) (fun c_16 => ?_) (fun c_16 => ?_)
              · refine lv_iconst (v := (nI 0)) hF.1 hF.2.1 dX6_takeName_153 (by decide) ?_
                refine kRetI (v := (nI 0)) hF hr hlk hK hP hD hS hQ rfl (s1, z) [0, 1, 2, 3, 4, 5, 6, 7] (by decide) rfl (by omega) (by omega) dX6_takeName_154 ?_
                refine ⟨?_, hJ.symm, hZ, by omega, by omega⟩
                unfold tkR
                first | (exfalso; omega) | rw [if_neg (by assumption)] | (rw [if_pos (by assumption)]; first | rw [pI_f (by assumption)] | (rw [pI_t (by assumption)]; first | rw [if_pos (by omega)] | rw [if_neg (by omega)]))
              · refine lv_bipush (v := (-5)) hF.1 hF.2.1 dX6_takeName_148 (by decide) ?_
                refine lv_goto (tgt := 154) hF.1 hF.2.1 dX6_takeName_150 (by decide) ?_
                refine kRetI (v := (-5)) hF hr hlk hK hP hD hS hQ rfl (s1, z) [0, 1, 2, 3, 4, 5, 6, 7] (by decide) rfl (by omega) (by omega) dX6_takeName_154 ?_
                refine ⟨?_, hJ.symm, hZ, by omega, by omega⟩
                unfold tkR
                first | (exfalso; omega) | rw [if_neg (by assumption)] | (rw [if_pos (by assumption)]; first | rw [pI_f (by assumption)] | (rw [pI_t (by assumption)]; first | rw [if_pos (by omega)] | rw [if_neg (by omega)]))
            · refine lv_bipush (v := (-3)) hF.1 hF.2.1 dX6_takeName_139 (by decide) ?_
              refine kRetI (v := (-3)) hF hr hlk hK hP hD hS hQ rfl (s1, z) [0, 1, 2, 3, 4, 5, 6, 7] (by decide) rfl (by omega) (by omega) dX6_takeName_141 ?_
              refine ⟨?_, hJ.symm, hZ, by omega, by omega⟩
              unfold tkR
              first | (exfalso; omega) | rw [if_neg (by assumption)] | (rw [if_pos (by assumption)]; first | rw [pI_f (by assumption)] | (rw [pI_t (by assumption)]; first | rw [if_pos (by omega)] | rw [if_neg (by omega)]))
          · refine lv_bipush (v := (-2)) hF.1 hF.2.1 dX6_takeName_121 (by decide) ?_
            refine kRetI (v := (-2)) hF hr hlk hK hP hD hS hQ rfl (s1, z) [0, 1, 2, 3, 4, 5, 6, 7] (by decide) rfl (by omega) (by omega) dX6_takeName_123 ?_
            refine ⟨?_, hJ.symm, hZ, by omega, by omega⟩
            unfold tkR
            first | (exfalso; omega) | rw [if_neg (by assumption)] | (rw [if_pos (by assumption)]; first | rw [pI_f (by assumption)] | (rw [pI_t (by assumption)]; first | rw [if_pos (by omega)] | rw [if_neg (by omega)]))
      · refine lv_aload_n hF.1 hF.2.1 dX6_takeName_21 rfl (lv_at hl 2 rfl) ?_
        refine kGet (C := RX6) (T := TX6) (N := 10) (index := 12) hF hK hP (inT inBX6) 0 rfl rfl 4 (by decide) rfl (List.mem_cons_of_mem _ mF_X6_12) rfl dX6_takeName_22 ?_
        refine kCallI (wr := [oC wk 6 [.ref t, .ref en, .ref vo, .ref se, .ref rs, .int wa, .int (nI hp), .long z, .int (zI la), .int (zI sl)], oC se 3 [.ref t, .int us, .int ro, .int pr], oC t 4 [.ref tk, .ref tm, .ref to_, .ref tv, .ref tp, .ref tl], aI G tk 40 kF, aI G tm 40 mF, aI G to_ 40 oF]) (va_runV (As := []) (rest := []) hF (c_X2_isEmpty l G H.size rs ra s1 f (by first | assumption | omega)) (cwVB 0 hF rfl mL_X6_99 mI_X2_isEmpty mS_X2_isEmpty mN_X2 mC_X2_isEmpty rfl hd_X2_isEmpty rfl rfl ⟨Nat.le_of_ble_eq_true rfl, Nat.le_of_ble_eq_true rfl⟩) (kPre hK hP hD [1, 2] (by decide) rfl (q0 := 1) (ci := 2) rfl rfl rfl) rfl rfl hl.1 rfl (lv_room (Nat.le_of_ble_eq_true rfl)) dX6_takeName_25 ⟨by omega, by omega⟩) hP hD hS hA [1, 2] [0, 3, 4, 5, 6, 7] rfl rfl (by decide) (by decide) (fun r u H locs hw_17 hP hD hS => ?_)
        subst hw_17
        have hP : PG G [oC wk 6 [.ref t, .ref en, .ref vo, .ref se, .ref rs, .int wa, .int (nI hp), .long z, .int (zI la), .int (zI sl)], oC rs 2 [.ref ra, .int (nI s1)], aC G ra 60 f, oC se 3 [.ref t, .int us, .int ro, .int pr], oC t 4 [.ref tk, .ref tm, .ref to_, .ref tv, .ref tp, .ref tl], aI G tk 40 kF, aI G tm 40 mF, aI G to_ 40 oF] H := va_P.sub hP [0, 6, 7, 1, 2, 3, 4, 5] rfl
        have hD : va_D A [oC wk 6 [.ref t, .ref en, .ref vo, .ref se, .ref rs, .int wa, .int (nI hp), .long z, .int (zI la), .int (zI sl)], oC rs 2 [.ref ra, .int (nI s1)], aC G ra 60 f, oC se 3 [.ref t, .int us, .int ro, .int pr], oC t 4 [.ref tk, .ref tm, .ref to_, .ref tv, .ref tp, .ref tl], aI G tk 40 kF, aI G tm 40 mF, aI G to_ 40 oF] := va_D.sub hD [0, 6, 7, 1, 2, 3, 4, 5] (by decide) rfl
        refine kIfNeZ (tgt := 67) hF dX6_takeName_28 (by decide) (fun c_18 => ?_) (fun c_18 => ?_)
        · have hJ : scan (noS f) (60 - st) st = s1 := by rw [← hR]; exact scan_x (fun h9 => by first | (exfalso; omega) | (simp only [Bool.not_eq_false', decide_eq_true_eq]; exact (by assumption : s1 < 60 ∧ f s1 = nI 47).2))
          have hZ : z = nmC f (s1 - st) st (lN 0) := by have h := hN; rw [hJ, nmC_e (Nat.le_refl s1)] at h; exact h
          refine lv_iload_n hF.1 hF.2.1 dX6_takeName_67 rfl (lv_at hl 1 rfl) ?_
          refine lv_aload_n hF.1 hF.2.1 dX6_takeName_68 rfl (lv_at hl 2 rfl) ?_
          refine kGet (C := RX6) (T := TX6) (N := 10) (index := 12) hF hK hP (inT inBX6) 0 rfl rfl 4 (by decide) rfl (List.mem_cons_of_mem _ mF_X6_12) rfl dX6_takeName_69 ?_
          refine kCallI (wr := [oC wk 6 [.ref t, .ref en, .ref vo, .ref se, .ref rs, .int wa, .int (nI hp), .long z, .int (zI la), .int (zI sl)], oC se 3 [.ref t, .int us, .int ro, .int pr], oC t 4 [.ref tk, .ref tm, .ref to_, .ref tv, .ref tp, .ref tl], aI G tk 40 kF, aI G tm 40 mF, aI G to_ 40 oF]) (va_runV (As := []) (rest := [.int (nI (60 - st))]) hF (c_X2_size l G H.size rs ra s1 f (by first | assumption | omega)) (cwVB 0 hF rfl mL_X6_100 mI_X2_size mS_X2_size mN_X2 mC_X2_size rfl hd_X2_size rfl rfl ⟨Nat.le_of_ble_eq_true rfl, Nat.le_of_ble_eq_true rfl⟩) (kPre hK hP hD [1, 2] (by decide) rfl (q0 := 1) (ci := 2) rfl rfl rfl) rfl rfl hl.1 rfl (lv_room (Nat.le_of_ble_eq_true rfl)) dX6_takeName_72 ⟨by omega, by omega⟩) hP hD hS hA [1, 2] [0, 3, 4, 5, 6, 7] rfl rfl (by decide) (by decide) (fun r u H locs hw_19 hP hD hS => ?_)
          subst hw_19
          have hP : PG G [oC wk 6 [.ref t, .ref en, .ref vo, .ref se, .ref rs, .int wa, .int (nI hp), .long z, .int (zI la), .int (zI sl)], oC rs 2 [.ref ra, .int (nI s1)], aC G ra 60 f, oC se 3 [.ref t, .int us, .int ro, .int pr], oC t 4 [.ref tk, .ref tm, .ref to_, .ref tv, .ref tp, .ref tl], aI G tk 40 kF, aI G tm 40 mF, aI G to_ 40 oF] H := va_P.sub hP [0, 6, 7, 1, 2, 3, 4, 5] rfl
          have hD : va_D A [oC wk 6 [.ref t, .ref en, .ref vo, .ref se, .ref rs, .int wa, .int (nI hp), .long z, .int (zI la), .int (zI sl)], oC rs 2 [.ref ra, .int (nI s1)], aC G ra 60 f, oC se 3 [.ref t, .int us, .int ro, .int pr], oC t 4 [.ref tk, .ref tm, .ref to_, .ref tv, .ref tp, .ref tl], aI G tk 40 kF, aI G tm 40 mF, aI G to_ 40 oF] := va_D.sub hD [0, 6, 7, 1, 2, 3, 4, 5] (by decide) rfl
          refine lv_isub hF.1 hF.2.1 dX6_takeName_75 ?_
          refine kTop (y := (nI ((60 - st) - (60 - s1)))) (pk_sub (by omega)) ?_
          refine lv_istore_n (lv' := [(2, .int (nI ((60 - st) - (60 - s1)))), (1, .int (nI (60 - st))), (0, .ref wk)]) hF.1 hF.2.1 dX6_takeName_76 rfl hl (by decide) rfl (fun ls hl => ?_)
          refine lv_aload_n hF.1 hF.2.1 dX6_takeName_77 rfl (lv_at hl 2 rfl) ?_
          refine lv_aload_n hF.1 hF.2.1 dX6_takeName_78 rfl (lv_at hl 2 rfl) ?_
          refine kGet (C := RX6) (T := TX6) (N := 10) (index := 12) hF hK hP (inT inBX6) 0 rfl rfl 4 (by decide) rfl (List.mem_cons_of_mem _ mF_X6_12) rfl dX6_takeName_79 ?_
          refine kCallI (wr := [oC wk 6 [.ref t, .ref en, .ref vo, .ref se, .ref rs, .int wa, .int (nI hp), .long z, .int (zI la), .int (zI sl)], oC se 3 [.ref t, .int us, .int ro, .int pr], oC t 4 [.ref tk, .ref tm, .ref to_, .ref tv, .ref tp, .ref tl], aI G tk 40 kF, aI G tm 40 mF, aI G to_ 40 oF]) (va_runV (As := []) (rest := [.ref wk]) hF (c_X2_hasSlashesAlone l G H.size rs ra s1 f (by first | assumption | omega)) (cwVB 0 hF rfl mL_X6_103 mI_X2_hasSlashesAlone mS_X2_hasSlashesAlone mN_X2 mC_X2_hasSlashesAlone rfl hd_X2_hasSlashesAlone rfl rfl ⟨Nat.le_of_ble_eq_true rfl, Nat.le_of_ble_eq_true rfl⟩) (kPre hK hP hD [1, 2] (by decide) rfl (q0 := 1) (ci := 2) rfl rfl rfl) rfl rfl hl.1 rfl (lv_room (Nat.le_of_ble_eq_true rfl)) dX6_takeName_82 ⟨by omega, by omega⟩) hP hD hS hA [1, 2] [0, 3, 4, 5, 6, 7] rfl rfl (by decide) (by decide) (fun r u H locs hw_20 hP hD hS => ?_)
          subst hw_20
          have hP : PG G [oC wk 6 [.ref t, .ref en, .ref vo, .ref se, .ref rs, .int wa, .int (nI hp), .long z, .int (zI la), .int (zI sl)], oC rs 2 [.ref ra, .int (nI s1)], aC G ra 60 f, oC se 3 [.ref t, .int us, .int ro, .int pr], oC t 4 [.ref tk, .ref tm, .ref to_, .ref tv, .ref tp, .ref tl], aI G tk 40 kF, aI G tm 40 mF, aI G to_ 40 oF] H := va_P.sub hP [0, 6, 7, 1, 2, 3, 4, 5] rfl
          have hD : va_D A [oC wk 6 [.ref t, .ref en, .ref vo, .ref se, .ref rs, .int wa, .int (nI hp), .long z, .int (zI la), .int (zI sl)], oC rs 2 [.ref ra, .int (nI s1)], aC G ra 60 f, oC se 3 [.ref t, .int us, .int ro, .int pr], oC t 4 [.ref tk, .ref tm, .ref to_, .ref tv, .ref tp, .ref tl], aI G tk 40 kF, aI G tm 40 mF, aI G to_ 40 oF] := va_D.sub hD [0, 6, 7, 1, 2, 3, 4, 5] (by decide) rfl
          refine kPut (C := RX6) (T := TX6) (N := 10) (index := 71) (v := .int (zI (scan (isS f) (60 - s1) s1 = 60))) hF hK hP hD hS (inT inBX6) tyX6_ok nmX6 0 rfl rfl 8 (by decide) rfl (List.mem_cons_of_mem _ mF_X6_71) rfl (zI_nar _) (zI_fit _) (Nat.le_of_ble_eq_true rfl) dX6_takeName_85 (fun H locs hP hD hS => ?_)
          have hP : PG G [oC wk 6 [.ref t, .ref en, .ref vo, .ref se, .ref rs, .int wa, .int (nI hp), .long z, .int (zI (scan (isS f) (60 - s1) s1 = 60)), .int (zI sl)], oC rs 2 [.ref ra, .int (nI s1)], aC G ra 60 f, oC se 3 [.ref t, .int us, .int ro, .int pr], oC t 4 [.ref tk, .ref tm, .ref to_, .ref tv, .ref tp, .ref tl], aI G tk 40 kF, aI G tm 40 mF, aI G to_ 40 oF] H := hP
          have hD : va_D A [oC wk 6 [.ref t, .ref en, .ref vo, .ref se, .ref rs, .int wa, .int (nI hp), .long z, .int (zI (scan (isS f) (60 - s1) s1 = 60)), .int (zI sl)], oC rs 2 [.ref ra, .int (nI s1)], aC G ra 60 f, oC se 3 [.ref t, .int us, .int ro, .int pr], oC t 4 [.ref tk, .ref tm, .ref to_, .ref tv, .ref tp, .ref tl], aI G tk 40 kF, aI G tm 40 mF, aI G to_ 40 oF] := hD
          refine lv_aload_n hF.1 hF.2.1 dX6_takeName_88 rfl (lv_at hl 2 rfl) ?_
          refine lv_aload_n hF.1 hF.2.1 dX6_takeName_89 rfl (lv_at hl 2 rfl) ?_
          refine kGet (C := RX6) (T := TX6) (N := 10) (index := 12) hF hK hP (inT inBX6) 0 rfl rfl 4 (by decide) rfl (List.mem_cons_of_mem _ mF_X6_12) rfl dX6_takeName_90 ?_
          refine kCallI (wr := [oC wk 6 [.ref t, .ref en, .ref vo, .ref se, .ref rs, .int wa, .int (nI hp), .long z, .int (zI (scan (isS f) (60 - s1) s1 = 60)), .int (zI sl)], oC se 3 [.ref t, .int us, .int ro, .int pr], oC t 4 [.ref tk, .ref tm, .ref to_, .ref tv, .ref tp, .ref tl], aI G tk 40 kF, aI G tm 40 mF, aI G to_ 40 oF]) (va_runV (As := []) (rest := [.ref wk]) hF (c_X2_isEmpty l G H.size rs ra s1 f (by first | assumption | omega)) (cwVB 0 hF rfl mL_X6_99 mI_X2_isEmpty mS_X2_isEmpty mN_X2 mC_X2_isEmpty rfl hd_X2_isEmpty rfl rfl ⟨Nat.le_of_ble_eq_true rfl, Nat.le_of_ble_eq_true rfl⟩) (kPre hK hP hD [1, 2] (by decide) rfl (q0 := 1) (ci := 2) rfl rfl rfl) rfl rfl hl.1 rfl (lv_room (Nat.le_of_ble_eq_true rfl)) dX6_takeName_93 ⟨by omega, by omega⟩) hP hD hS hA [1, 2] [0, 3, 4, 5, 6, 7] rfl rfl (by decide) (by decide) (fun r u H locs hw_21 hP hD hS => ?_)
          subst hw_21
          have hP : PG G [oC wk 6 [.ref t, .ref en, .ref vo, .ref se, .ref rs, .int wa, .int (nI hp), .long z, .int (zI (scan (isS f) (60 - s1) s1 = 60)), .int (zI sl)], oC rs 2 [.ref ra, .int (nI s1)], aC G ra 60 f, oC se 3 [.ref t, .int us, .int ro, .int pr], oC t 4 [.ref tk, .ref tm, .ref to_, .ref tv, .ref tp, .ref tl], aI G tk 40 kF, aI G tm 40 mF, aI G to_ 40 oF] H := va_P.sub hP [0, 6, 7, 1, 2, 3, 4, 5] rfl
          have hD : va_D A [oC wk 6 [.ref t, .ref en, .ref vo, .ref se, .ref rs, .int wa, .int (nI hp), .long z, .int (zI (scan (isS f) (60 - s1) s1 = 60)), .int (zI sl)], oC rs 2 [.ref ra, .int (nI s1)], aC G ra 60 f, oC se 3 [.ref t, .int us, .int ro, .int pr], oC t 4 [.ref tk, .ref tm, .ref to_, .ref tv, .ref tp, .ref tl], aI G tk 40 kF, aI G tm 40 mF, aI G to_ 40 oF] := va_D.sub hD [0, 6, 7, 1, 2, 3, 4, 5] (by decide) rfl
          refine kIfNeZ (tgt := 103) hF dX6_takeName_96 (by decide) (fun c_22 => ?_) (fun c_22 => ?_)
          · refine lv_iconst (v := (nI 0)) hF.1 hF.2.1 dX6_takeName_103 (by decide) ?_
            refine kTop (y := zI (s1 < 60)) (first_z (by first | exact Or.inl ⟨rfl, by omega⟩ | exact Or.inr ⟨rfl, by omega⟩)) ?_
            refine kPut (C := RX6) (T := TX6) (N := 10) (index := 42) (v := .int (zI (s1 < 60))) hF hK hP hD hS (inT inBX6) tyX6_ok nmX6 0 rfl rfl 9 (by decide) rfl (List.mem_cons_of_mem _ mF_X6_42) rfl (zI_nar _) (zI_fit _) (Nat.le_of_ble_eq_true rfl) dX6_takeName_104 (fun H locs hP hD hS => ?_)
            have hP : PG G [oC wk 6 [.ref t, .ref en, .ref vo, .ref se, .ref rs, .int wa, .int (nI hp), .long z, .int (zI (scan (isS f) (60 - s1) s1 = 60)), .int (zI (s1 < 60))], oC rs 2 [.ref ra, .int (nI s1)], aC G ra 60 f, oC se 3 [.ref t, .int us, .int ro, .int pr], oC t 4 [.ref tk, .ref tm, .ref to_, .ref tv, .ref tp, .ref tl], aI G tk 40 kF, aI G tm 40 mF, aI G to_ 40 oF] H := hP
            have hD : va_D A [oC wk 6 [.ref t, .ref en, .ref vo, .ref se, .ref rs, .int wa, .int (nI hp), .long z, .int (zI (scan (isS f) (60 - s1) s1 = 60)), .int (zI (s1 < 60))], oC rs 2 [.ref ra, .int (nI s1)], aC G ra 60 f, oC se 3 [.ref t, .int us, .int ro, .int pr], oC t 4 [.ref tk, .ref tm, .ref to_, .ref tv, .ref tp, .ref tl], aI G tk 40 kF, aI G tm 40 mF, aI G to_ 40 oF] := hD
            refine lv_aload_n hF.1 hF.2.1 dX6_takeName_107 rfl (lv_at hl 2 rfl) ?_
            refine kGet (C := RX6) (T := TX6) (N := 10) (index := 18) hF hK hP (inT inBX6) 0 rfl rfl 0 (by decide) rfl (List.mem_cons_of_mem _ mF_X6_18) rfl dX6_takeName_108 ?_
            refine lv_aload_n hF.1 hF.2.1 dX6_takeName_111 rfl (lv_at hl 2 rfl) ?_
            refine kGet (C := RX6) (T := TX6) (N := 10) (index := 34) hF hK hP (inT inBX6) 0 rfl rfl 5 (by decide) rfl (List.mem_cons_of_mem _ mF_X6_34) rfl dX6_takeName_112 ?_
            refine kCallI (wr := [oC wk 6 [.ref t, .ref en, .ref vo, .ref se, .ref rs, .int wa, .int (nI hp), .long z, .int (zI (scan (isS f) (60 - s1) s1 = 60)), .int (zI (s1 < 60))], oC rs 2 [.ref ra, .int (nI s1)], aC G ra 60 f, oC se 3 [.ref t, .int us, .int ro, .int pr], aI G tm 40 mF, aI G to_ 40 oF]) (va_runV (As := [.int wa]) (rest := []) hF (c_X4_isDirectory l G H.size t tk tm to_ tv tp tl kF wa (by first | assumption | omega)) (cwVB 1 hF rfl mL_X6_106 mI_X4_isDirectory mS_X4_isDirectory mN_X4 mC_X4_isDirectory rfl hd_X4_isDirectory rfl rfl ⟨Nat.le_of_ble_eq_true rfl, Nat.le_of_ble_eq_true rfl⟩) (kPre hK hP hD [4, 5] (by decide) rfl (q0 := 4) (ci := 4) rfl rfl rfl) rfl rfl hl.1 rfl (lv_room (Nat.le_of_ble_eq_true rfl)) dX6_takeName_115 ⟨by omega, by omega⟩) hP hD hS hA [4, 5] [0, 1, 2, 3, 6, 7] rfl rfl (by decide) (by decide) (fun r u H locs hw_23 hP hD hS => ?_)
            subst hw_23
            have hP : PG G [oC wk 6 [.ref t, .ref en, .ref vo, .ref se, .ref rs, .int wa, .int (nI hp), .long z, .int (zI (scan (isS f) (60 - s1) s1 = 60)), .int (zI (s1 < 60))], oC rs 2 [.ref ra, .int (nI s1)], aC G ra 60 f, oC se 3 [.ref t, .int us, .int ro, .int pr], oC t 4 [.ref tk, .ref tm, .ref to_, .ref tv, .ref tp, .ref tl], aI G tk 40 kF, aI G tm 40 mF, aI G to_ 40 oF] H := va_P.sub hP [0, 1, 2, 3, 6, 7, 4, 5] rfl
            have hD : va_D A [oC wk 6 [.ref t, .ref en, .ref vo, .ref se, .ref rs, .int wa, .int (nI hp), .long z, .int (zI (scan (isS f) (60 - s1) s1 = 60)), .int (zI (s1 < 60))], oC rs 2 [.ref ra, .int (nI s1)], aC G ra 60 f, oC se 3 [.ref t, .int us, .int ro, .int pr], oC t 4 [.ref tk, .ref tm, .ref to_, .ref tv, .ref tp, .ref tl], aI G tk 40 kF, aI G tm 40 mF, aI G to_ 40 oF] := va_D.sub hD [0, 1, 2, 3, 6, 7, 4, 5] (by decide) rfl
            refine kIfNeZ (tgt := 124) hF dX6_takeName_118 (by decide) (fun c_24 => ?_) (fun c_24 => ?_)
            · refine lv_aload_n hF.1 hF.2.1 dX6_takeName_124 rfl (lv_at hl 2 rfl) ?_
              refine kGet (C := RX6) (T := TX6) (N := 10) (index := 30) hF hK hP (inT inBX6) 0 rfl rfl 3 (by decide) rfl (List.mem_cons_of_mem _ mF_X6_30) rfl dX6_takeName_125 ?_
              refine lv_iconst (v := (nI 1)) hF.1 hF.2.1 dX6_takeName_128 (by decide) ?_
              refine lv_aload_n hF.1 hF.2.1 dX6_takeName_129 rfl (lv_at hl 2 rfl) ?_
              refine kGet (C := RX6) (T := TX6) (N := 10) (index := 34) hF hK hP (inT inBX6) 0 rfl rfl 5 (by decide) rfl (List.mem_cons_of_mem _ mF_X6_34) rfl dX6_takeName_130 ?_
              refine kCallI (wr := [oC wk 6 [.ref t, .ref en, .ref vo, .ref se, .ref rs, .int wa, .int (nI hp), .long z, .int (zI (scan (isS f) (60 - s1) s1 = 60)), .int (zI (s1 < 60))], oC rs 2 [.ref ra, .int (nI s1)], aC G ra 60 f, aI G tk 40 kF]) (va_runV (As := [.int (nI 1), .int wa]) (rest := []) hF (c_X3_may l G H.size se t us ro pr tk tm to_ tv tp tl mF oF (nI 1) wa (by first | assumption | omega)) (cwVB 2 hF rfl mL_X6_112 mI_X3_may mS_X3_may mN_X3 mC_X3_may rfl hd_X3_may rfl rfl ⟨Nat.le_of_ble_eq_true rfl, Nat.le_of_ble_eq_true rfl⟩) (kPre hK hP hD [3, 4, 6, 7] (by decide) rfl (q0 := 3) (ci := 3) rfl rfl rfl) rfl rfl hl.1 rfl (lv_room (Nat.le_of_ble_eq_true rfl)) dX6_takeName_133 ⟨by omega, by omega⟩) hP hD hS hA [3, 4, 6, 7] [0, 1, 2, 5] rfl rfl (by decide) (by decide) (fun r u H locs hw_25 hP hD hS => ?_)
              subst hw_25
              have hP : PG G [oC wk 6 [.ref t, .ref en, .ref vo, .ref se, .ref rs, .int wa, .int (nI hp), .long z, .int (zI (scan (isS f) (60 - s1) s1 = 60)), .int (zI (s1 < 60))], oC rs 2 [.ref ra, .int (nI s1)], aC G ra 60 f, oC se 3 [.ref t, .int us, .int ro, .int pr], oC t 4 [.ref tk, .ref tm, .ref to_, .ref tv, .ref tp, .ref tl], aI G tk 40 kF, aI G tm 40 mF, aI G to_ 40 oF] H := va_P.sub hP [0, 1, 2, 4, 5, 3, 6, 7] rfl
              have hD : va_D A [oC wk 6 [.ref t, .ref en, .ref vo, .ref se, .ref rs, .int wa, .int (nI hp), .long z, .int (zI (scan (isS f) (60 - s1) s1 = 60)), .int (zI (s1 < 60))], oC rs 2 [.ref ra, .int (nI s1)], aC G ra 60 f, oC se 3 [.ref t, .int us, .int ro, .int pr], oC t 4 [.ref tk, .ref tm, .ref to_, .ref tv, .ref tp, .ref tl], aI G tk 40 kF, aI G tm 40 mF, aI G to_ 40 oF] := va_D.sub hD [0, 1, 2, 4, 5, 3, 6, 7] (by decide) rfl
              refine kIfNeZ (tgt := 142) hF dX6_takeName_136 (by decide) (fun c_26 => ?_) (fun c_26 => ?_)
              · refine lv_iload_n hF.1 hF.2.1 dX6_takeName_142 rfl (lv_at hl 0 rfl) ?_
                refine lv_bipush (v := (nI 6)) hF.1 hF.2.1 dX6_takeName_143 (by decide) ?_
                refine kLeN (tgt := 153) hF dX6_takeName_145 (by decide) (by omega) (by omega) (fun c_27 => ?_) (fun c_27 => ?_)
                · refine lv_iconst (v := (nI 0)) hF.1 hF.2.1 dX6_takeName_153 (by decide) ?_
                  refine kRetI (v := (nI 0)) hF hr hlk hK hP hD hS hQ rfl (s1, z) [0, 1, 2, 3, 4, 5, 6, 7] (by decide) rfl (by omega) (by omega) dX6_takeName_154 ?_
                  refine ⟨?_, hJ.symm, hZ, by omega, by omega⟩
                  unfold tkR
                  first | (exfalso; omega) | rw [if_neg (by assumption)] | (rw [if_pos (by assumption)]; first | rw [pI_f (by assumption)] | (rw [pI_t (by assumption)]; first | rw [if_pos (by omega)] | rw [if_neg (by omega)]))
                · refine lv_bipush (v := (-5)) hF.1 hF.2.1 dX6_takeName_148 (by decide) ?_
                  refine lv_goto (tgt := 154) hF.1 hF.2.1 dX6_takeName_150 (by decide) ?_
                  refine kRetI (v := (-5)) hF hr hlk hK hP hD hS hQ rfl (s1, z) [0, 1, 2, 3, 4, 5, 6, 7] (by decide) rfl (by omega) (by omega) dX6_takeName_154 ?_
                  refine ⟨?_, hJ.symm, hZ, by omega, by omega⟩
                  unfold tkR
                  first | (exfalso; omega) | rw [if_neg (by assumption)] | (rw [if_pos (by assumption)]; first | rw [pI_f (by assumption)] | (rw [pI_t (by assumption)]; first | rw [if_pos (by omega)] | rw [if_neg (by omega)]))
              · refine lv_bipush (v := (-3)) hF.1 hF.2.1 dX6_takeName_139 (by decide) ?_
                refine kRetI (v := (-3)) hF hr hlk hK hP hD hS hQ rfl (s1, z) [0, 1, 2, 3, 4, 5, 6, 7] (by decide) rfl (by omega) (by omega) dX6_takeName_141 ?_
                refine ⟨?_, hJ.symm, hZ, by omega, by omega⟩
                unfold tkR
                first | (exfalso; omega) | rw [if_neg (by assumption)] | (rw [if_pos (by assumption)]; first | rw [pI_f (by assumption)] | (rw [pI_t (by assumption)]; first | rw [if_pos (by omega)] | rw [if_neg (by omega)]))
            · refine lv_bipush (v := (-2)) hF.1 hF.2.1 dX6_takeName_121 (by decide) ?_
              refine kRetI (v := (-2)) hF hr hlk hK hP hD hS hQ rfl (s1, z) [0, 1, 2, 3, 4, 5, 6, 7] (by decide) rfl (by omega) (by omega) dX6_takeName_123 ?_
              refine ⟨?_, hJ.symm, hZ, by omega, by omega⟩
              unfold tkR
              first | (exfalso; omega) | rw [if_neg (by assumption)] | (rw [if_pos (by assumption)]; first | rw [pI_f (by assumption)] | (rw [pI_t (by assumption)]; first | rw [if_pos (by omega)] | rw [if_neg (by omega)]))
          · refine lv_iconst (v := (nI 1)) hF.1 hF.2.1 dX6_takeName_99 (by decide) ?_
            refine lv_goto (tgt := 104) hF.1 hF.2.1 dX6_takeName_100 (by decide) ?_
            refine kTop (y := zI (s1 < 60)) (first_z (by first | exact Or.inl ⟨rfl, by omega⟩ | exact Or.inr ⟨rfl, by omega⟩)) ?_
            refine kPut (C := RX6) (T := TX6) (N := 10) (index := 42) (v := .int (zI (s1 < 60))) hF hK hP hD hS (inT inBX6) tyX6_ok nmX6 0 rfl rfl 9 (by decide) rfl (List.mem_cons_of_mem _ mF_X6_42) rfl (zI_nar _) (zI_fit _) (Nat.le_of_ble_eq_true rfl) dX6_takeName_104 (fun H locs hP hD hS => ?_)
            have hP : PG G [oC wk 6 [.ref t, .ref en, .ref vo, .ref se, .ref rs, .int wa, .int (nI hp), .long z, .int (zI (scan (isS f) (60 - s1) s1 = 60)), .int (zI (s1 < 60))], oC rs 2 [.ref ra, .int (nI s1)], aC G ra 60 f, oC se 3 [.ref t, .int us, .int ro, .int pr], oC t 4 [.ref tk, .ref tm, .ref to_, .ref tv, .ref tp, .ref tl], aI G tk 40 kF, aI G tm 40 mF, aI G to_ 40 oF] H := hP
            have hD : va_D A [oC wk 6 [.ref t, .ref en, .ref vo, .ref se, .ref rs, .int wa, .int (nI hp), .long z, .int (zI (scan (isS f) (60 - s1) s1 = 60)), .int (zI (s1 < 60))], oC rs 2 [.ref ra, .int (nI s1)], aC G ra 60 f, oC se 3 [.ref t, .int us, .int ro, .int pr], oC t 4 [.ref tk, .ref tm, .ref to_, .ref tv, .ref tp, .ref tl], aI G tk 40 kF, aI G tm 40 mF, aI G to_ 40 oF] := hD
            refine lv_aload_n hF.1 hF.2.1 dX6_takeName_107 rfl (lv_at hl 2 rfl) ?_
            refine kGet (C := RX6) (T := TX6) (N := 10) (index := 18) hF hK hP (inT inBX6) 0 rfl rfl 0 (by decide) rfl (List.mem_cons_of_mem _ mF_X6_18) rfl dX6_takeName_108 ?_
            refine lv_aload_n hF.1 hF.2.1 dX6_takeName_111 rfl (lv_at hl 2 rfl) ?_
            refine kGet (C := RX6) (T := TX6) (N := 10) (index := 34) hF hK hP (inT inBX6) 0 rfl rfl 5 (by decide) rfl (List.mem_cons_of_mem _ mF_X6_34) rfl dX6_takeName_112 ?_
            refine kCallI (wr := [oC wk 6 [.ref t, .ref en, .ref vo, .ref se, .ref rs, .int wa, .int (nI hp), .long z, .int (zI (scan (isS f) (60 - s1) s1 = 60)), .int (zI (s1 < 60))], oC rs 2 [.ref ra, .int (nI s1)], aC G ra 60 f, oC se 3 [.ref t, .int us, .int ro, .int pr], aI G tm 40 mF, aI G to_ 40 oF]) (va_runV (As := [.int wa]) (rest := []) hF (c_X4_isDirectory l G H.size t tk tm to_ tv tp tl kF wa (by first | assumption | omega)) (cwVB 1 hF rfl mL_X6_106 mI_X4_isDirectory mS_X4_isDirectory mN_X4 mC_X4_isDirectory rfl hd_X4_isDirectory rfl rfl ⟨Nat.le_of_ble_eq_true rfl, Nat.le_of_ble_eq_true rfl⟩) (kPre hK hP hD [4, 5] (by decide) rfl (q0 := 4) (ci := 4) rfl rfl rfl) rfl rfl hl.1 rfl (lv_room (Nat.le_of_ble_eq_true rfl)) dX6_takeName_115 ⟨by omega, by omega⟩) hP hD hS hA [4, 5] [0, 1, 2, 3, 6, 7] rfl rfl (by decide) (by decide) (fun r u H locs hw_28 hP hD hS => ?_)
            subst hw_28
            have hP : PG G [oC wk 6 [.ref t, .ref en, .ref vo, .ref se, .ref rs, .int wa, .int (nI hp), .long z, .int (zI (scan (isS f) (60 - s1) s1 = 60)), .int (zI (s1 < 60))], oC rs 2 [.ref ra, .int (nI s1)], aC G ra 60 f, oC se 3 [.ref t, .int us, .int ro, .int pr], oC t 4 [.ref tk, .ref tm, .ref to_, .ref tv, .ref tp, .ref tl], aI G tk 40 kF, aI G tm 40 mF, aI G to_ 40 oF] H := va_P.sub hP [0, 1, 2, 3, 6, 7, 4, 5] rfl
            have hD : va_D A [oC wk 6 [.ref t, .ref en, .ref vo, .ref se, .ref rs, .int wa, .int (nI hp), .long z, .int (zI (scan (isS f) (60 - s1) s1 = 60)), .int (zI (s1 < 60))], oC rs 2 [.ref ra, .int (nI s1)], aC G ra 60 f, oC se 3 [.ref t, .int us, .int ro, .int pr], oC t 4 [.ref tk, .ref tm, .ref to_, .ref tv, .ref tp, .ref tl], aI G tk 40 kF, aI G tm 40 mF, aI G to_ 40 oF] := va_D.sub hD [0, 1, 2, 3, 6, 7, 4, 5] (by decide) rfl
            refine kIfNeZ (tgt := 124) hF dX6_takeName_118 (by decide) (fun c_29 => ?_) (fun c_29 => ?_)
            · refine lv_aload_n hF.1 hF.2.1 dX6_takeName_124 rfl (lv_at hl 2 rfl) ?_
              refine kGet (C := RX6) (T := TX6) (N := 10) (index := 30) hF hK hP (inT inBX6) 0 rfl rfl 3 (by decide) rfl (List.mem_cons_of_mem _ mF_X6_30) rfl dX6_takeName_125 ?_
              refine lv_iconst (v := (nI 1)) hF.1 hF.2.1 dX6_takeName_128 (by decide) ?_
              refine lv_aload_n hF.1 hF.2.1 dX6_takeName_129 rfl (lv_at hl 2 rfl) ?_
              refine kGet (C := RX6) (T := TX6) (N := 10) (index := 34) hF hK hP (inT inBX6) 0 rfl rfl 5 (by decide) rfl (List.mem_cons_of_mem _ mF_X6_34) rfl dX6_takeName_130 ?_
              refine kCallI (wr := [oC wk 6 [.ref t, .ref en, .ref vo, .ref se, .ref rs, .int wa, .int (nI hp), .long z, .int (zI (scan (isS f) (60 - s1) s1 = 60)), .int (zI (s1 < 60))], oC rs 2 [.ref ra, .int (nI s1)], aC G ra 60 f, aI G tk 40 kF]) (va_runV (As := [.int (nI 1), .int wa]) (rest := []) hF (c_X3_may l G H.size se t us ro pr tk tm to_ tv tp tl mF oF (nI 1) wa (by first | assumption | omega)) (cwVB 2 hF rfl mL_X6_112 mI_X3_may mS_X3_may mN_X3 mC_X3_may rfl hd_X3_may rfl rfl ⟨Nat.le_of_ble_eq_true rfl, Nat.le_of_ble_eq_true rfl⟩) (kPre hK hP hD [3, 4, 6, 7] (by decide) rfl (q0 := 3) (ci := 3) rfl rfl rfl) rfl rfl hl.1 rfl (lv_room (Nat.le_of_ble_eq_true rfl)) dX6_takeName_133 ⟨by omega, by omega⟩) hP hD hS hA [3, 4, 6, 7] [0, 1, 2, 5] rfl rfl (by decide) (by decide) (fun r u H locs hw_30 hP hD hS => ?_)
              subst hw_30
              have hP : PG G [oC wk 6 [.ref t, .ref en, .ref vo, .ref se, .ref rs, .int wa, .int (nI hp), .long z, .int (zI (scan (isS f) (60 - s1) s1 = 60)), .int (zI (s1 < 60))], oC rs 2 [.ref ra, .int (nI s1)], aC G ra 60 f, oC se 3 [.ref t, .int us, .int ro, .int pr], oC t 4 [.ref tk, .ref tm, .ref to_, .ref tv, .ref tp, .ref tl], aI G tk 40 kF, aI G tm 40 mF, aI G to_ 40 oF] H := va_P.sub hP [0, 1, 2, 4, 5, 3, 6, 7] rfl
              have hD : va_D A [oC wk 6 [.ref t, .ref en, .ref vo, .ref se, .ref rs, .int wa, .int (nI hp), .long z, .int (zI (scan (isS f) (60 - s1) s1 = 60)), .int (zI (s1 < 60))], oC rs 2 [.ref ra, .int (nI s1)], aC G ra 60 f, oC se 3 [.ref t, .int us, .int ro, .int pr], oC t 4 [.ref tk, .ref tm, .ref to_, .ref tv, .ref tp, .ref tl], aI G tk 40 kF, aI G tm 40 mF, aI G to_ 40 oF] := va_D.sub hD [0, 1, 2, 4, 5, 3, 6, 7] (by decide) rfl
              refine kIfNeZ (tgt := 142) hF dX6_takeName_136 (by decide) (fun c_31 => ?_) (fun c_31 => ?_)
              · refine lv_iload_n hF.1 hF.2.1 dX6_takeName_142 rfl (lv_at hl 0 rfl) ?_
                refine lv_bipush (v := (nI 6)) hF.1 hF.2.1 dX6_takeName_143 (by decide) ?_
                refine kLeN (tgt := 153) hF dX6_takeName_145 (by decide) (by omega) (by omega) (fun c_32 => ?_) (fun c_32 => ?_)
                · refine lv_iconst (v := (nI 0)) hF.1 hF.2.1 dX6_takeName_153 (by decide) ?_
                  refine kRetI (v := (nI 0)) hF hr hlk hK hP hD hS hQ rfl (s1, z) [0, 1, 2, 3, 4, 5, 6, 7] (by decide) rfl (by omega) (by omega) dX6_takeName_154 ?_
                  refine ⟨?_, hJ.symm, hZ, by omega, by omega⟩
                  unfold tkR
                  first | (exfalso; omega) | rw [if_neg (by assumption)] | (rw [if_pos (by assumption)]; first | rw [pI_f (by assumption)] | (rw [pI_t (by assumption)]; first | rw [if_pos (by omega)] | rw [if_neg (by omega)]))
                · refine lv_bipush (v := (-5)) hF.1 hF.2.1 dX6_takeName_148 (by decide) ?_
                  refine lv_goto (tgt := 154) hF.1 hF.2.1 dX6_takeName_150 (by decide) ?_
                  refine kRetI (v := (-5)) hF hr hlk hK hP hD hS hQ rfl (s1, z) [0, 1, 2, 3, 4, 5, 6, 7] (by decide) rfl (by omega) (by omega) dX6_takeName_154 ?_
                  refine ⟨?_, hJ.symm, hZ, by omega, by omega⟩
                  unfold tkR
                  first | (exfalso; omega) | rw [if_neg (by assumption)] | (rw [if_pos (by assumption)]; first | rw [pI_f (by assumption)] | (rw [pI_t (by assumption)]; first | rw [if_pos (by omega)] | rw [if_neg (by omega)]))
              · refine lv_bipush (v := (-3)) hF.1 hF.2.1 dX6_takeName_139 (by decide) ?_
                refine kRetI (v := (-3)) hF hr hlk hK hP hD hS hQ rfl (s1, z) [0, 1, 2, 3, 4, 5, 6, 7] (by decide) rfl (by omega) (by omega) dX6_takeName_141 ?_
                refine ⟨?_, hJ.symm, hZ, by omega, by omega⟩
                unfold tkR
                first | (exfalso; omega) | rw [if_neg (by assumption)] | (rw [if_pos (by assumption)]; first | rw [pI_f (by assumption)] | (rw [pI_t (by assumption)]; first | rw [if_pos (by omega)] | rw [if_neg (by omega)]))
            · refine lv_bipush (v := (-2)) hF.1 hF.2.1 dX6_takeName_121 (by decide) ?_
              refine kRetI (v := (-2)) hF hr hlk hK hP hD hS hQ rfl (s1, z) [0, 1, 2, 3, 4, 5, 6, 7] (by decide) rfl (by omega) (by omega) dX6_takeName_123 ?_
              refine ⟨?_, hJ.symm, hZ, by omega, by omega⟩
              unfold tkR
              first | (exfalso; omega) | rw [if_neg (by assumption)] | (rw [if_pos (by assumption)]; first | rw [pI_f (by assumption)] | (rw [pI_t (by assumption)]; first | rw [if_pos (by omega)] | rw [if_neg (by omega)]))
        · refine lv_aload_n hF.1 hF.2.1 dX6_takeName_31 rfl (lv_at hl 2 rfl) ?_
          refine kGet (C := RX6) (T := TX6) (N := 10) (index := 12) hF hK hP (inT inBX6) 0 rfl rfl 4 (by decide) rfl (List.mem_cons_of_mem _ mF_X6_12) rfl dX6_takeName_32 ?_
          refine kCallI (wr := [oC wk 6 [.ref t, .ref en, .ref vo, .ref se, .ref rs, .int wa, .int (nI hp), .long z, .int (zI la), .int (zI sl)], oC se 3 [.ref t, .int us, .int ro, .int pr], oC t 4 [.ref tk, .ref tm, .ref to_, .ref tv, .ref tp, .ref tl], aI G tk 40 kF, aI G tm 40 mF, aI G to_ 40 oF]) (va_runV (As := []) (rest := []) hF (c_X2_beginsWithSlash l G H.size rs ra s1 f (by first | assumption | omega)) (cwVB 0 hF rfl mL_X6_81 mI_X2_beginsWithSlash mS_X2_beginsWithSlash mN_X2 mC_X2_beginsWithSlash rfl hd_X2_beginsWithSlash rfl rfl ⟨Nat.le_of_ble_eq_true rfl, Nat.le_of_ble_eq_true rfl⟩) (kPre hK hP hD [1, 2] (by decide) rfl (q0 := 1) (ci := 2) rfl rfl rfl) rfl rfl hl.1 rfl (lv_room (Nat.le_of_ble_eq_true rfl)) dX6_takeName_35 ⟨by omega, by omega⟩) hP hD hS hA [1, 2] [0, 3, 4, 5, 6, 7] rfl rfl (by decide) (by decide) (fun r u H locs hw_33 hP hD hS => ?_)
          subst hw_33
          have hP : PG G [oC wk 6 [.ref t, .ref en, .ref vo, .ref se, .ref rs, .int wa, .int (nI hp), .long z, .int (zI la), .int (zI sl)], oC rs 2 [.ref ra, .int (nI s1)], aC G ra 60 f, oC se 3 [.ref t, .int us, .int ro, .int pr], oC t 4 [.ref tk, .ref tm, .ref to_, .ref tv, .ref tp, .ref tl], aI G tk 40 kF, aI G tm 40 mF, aI G to_ 40 oF] H := va_P.sub hP [0, 6, 7, 1, 2, 3, 4, 5] rfl
          have hD : va_D A [oC wk 6 [.ref t, .ref en, .ref vo, .ref se, .ref rs, .int wa, .int (nI hp), .long z, .int (zI la), .int (zI sl)], oC rs 2 [.ref ra, .int (nI s1)], aC G ra 60 f, oC se 3 [.ref t, .int us, .int ro, .int pr], oC t 4 [.ref tk, .ref tm, .ref to_, .ref tv, .ref tp, .ref tl], aI G tk 40 kF, aI G tm 40 mF, aI G to_ 40 oF] := va_D.sub hD [0, 6, 7, 1, 2, 3, 4, 5] (by decide) rfl
          refine kIfNeZ (tgt := 67) hF dX6_takeName_38 (by decide) (fun c_34 => ?_) (fun c_34 => ?_)
          · have hJ : scan (noS f) (60 - st) st = s1 := by rw [← hR]; exact scan_x (fun h9 => by first | (exfalso; omega) | (simp only [Bool.not_eq_false', decide_eq_true_eq]; exact (by assumption : s1 < 60 ∧ f s1 = nI 47).2))
            have hZ : z = nmC f (s1 - st) st (lN 0) := by have h := hN; rw [hJ, nmC_e (Nat.le_refl s1)] at h; exact h
            refine lv_iload_n hF.1 hF.2.1 dX6_takeName_67 rfl (lv_at hl 1 rfl) ?_
            refine lv_aload_n hF.1 hF.2.1 dX6_takeName_68 rfl (lv_at hl 2 rfl) ?_
            refine kGet (C := RX6) (T := TX6) (N := 10) (index := 12) hF hK hP (inT inBX6) 0 rfl rfl 4 (by decide) rfl (List.mem_cons_of_mem _ mF_X6_12) rfl dX6_takeName_69 ?_
            refine kCallI (wr := [oC wk 6 [.ref t, .ref en, .ref vo, .ref se, .ref rs, .int wa, .int (nI hp), .long z, .int (zI la), .int (zI sl)], oC se 3 [.ref t, .int us, .int ro, .int pr], oC t 4 [.ref tk, .ref tm, .ref to_, .ref tv, .ref tp, .ref tl], aI G tk 40 kF, aI G tm 40 mF, aI G to_ 40 oF]) (va_runV (As := []) (rest := [.int (nI (60 - st))]) hF (c_X2_size l G H.size rs ra s1 f (by first | assumption | omega)) (cwVB 0 hF rfl mL_X6_100 mI_X2_size mS_X2_size mN_X2 mC_X2_size rfl hd_X2_size rfl rfl ⟨Nat.le_of_ble_eq_true rfl, Nat.le_of_ble_eq_true rfl⟩) (kPre hK hP hD [1, 2] (by decide) rfl (q0 := 1) (ci := 2) rfl rfl rfl) rfl rfl hl.1 rfl (lv_room (Nat.le_of_ble_eq_true rfl)) dX6_takeName_72 ⟨by omega, by omega⟩) hP hD hS hA [1, 2] [0, 3, 4, 5, 6, 7] rfl rfl (by decide) (by decide) (fun r u H locs hw_35 hP hD hS => ?_)
            subst hw_35
            have hP : PG G [oC wk 6 [.ref t, .ref en, .ref vo, .ref se, .ref rs, .int wa, .int (nI hp), .long z, .int (zI la), .int (zI sl)], oC rs 2 [.ref ra, .int (nI s1)], aC G ra 60 f, oC se 3 [.ref t, .int us, .int ro, .int pr], oC t 4 [.ref tk, .ref tm, .ref to_, .ref tv, .ref tp, .ref tl], aI G tk 40 kF, aI G tm 40 mF, aI G to_ 40 oF] H := va_P.sub hP [0, 6, 7, 1, 2, 3, 4, 5] rfl
            have hD : va_D A [oC wk 6 [.ref t, .ref en, .ref vo, .ref se, .ref rs, .int wa, .int (nI hp), .long z, .int (zI la), .int (zI sl)], oC rs 2 [.ref ra, .int (nI s1)], aC G ra 60 f, oC se 3 [.ref t, .int us, .int ro, .int pr], oC t 4 [.ref tk, .ref tm, .ref to_, .ref tv, .ref tp, .ref tl], aI G tk 40 kF, aI G tm 40 mF, aI G to_ 40 oF] := va_D.sub hD [0, 6, 7, 1, 2, 3, 4, 5] (by decide) rfl
            refine lv_isub hF.1 hF.2.1 dX6_takeName_75 ?_
            refine kTop (y := (nI ((60 - st) - (60 - s1)))) (pk_sub (by omega)) ?_
            refine lv_istore_n (lv' := [(2, .int (nI ((60 - st) - (60 - s1)))), (1, .int (nI (60 - st))), (0, .ref wk)]) hF.1 hF.2.1 dX6_takeName_76 rfl hl (by decide) rfl (fun ls hl => ?_)
            refine lv_aload_n hF.1 hF.2.1 dX6_takeName_77 rfl (lv_at hl 2 rfl) ?_
            refine lv_aload_n hF.1 hF.2.1 dX6_takeName_78 rfl (lv_at hl 2 rfl) ?_
            refine kGet (C := RX6) (T := TX6) (N := 10) (index := 12) hF hK hP (inT inBX6) 0 rfl rfl 4 (by decide) rfl (List.mem_cons_of_mem _ mF_X6_12) rfl dX6_takeName_79 ?_
            refine kCallI (wr := [oC wk 6 [.ref t, .ref en, .ref vo, .ref se, .ref rs, .int wa, .int (nI hp), .long z, .int (zI la), .int (zI sl)], oC se 3 [.ref t, .int us, .int ro, .int pr], oC t 4 [.ref tk, .ref tm, .ref to_, .ref tv, .ref tp, .ref tl], aI G tk 40 kF, aI G tm 40 mF, aI G to_ 40 oF]) (va_runV (As := []) (rest := [.ref wk]) hF (c_X2_hasSlashesAlone l G H.size rs ra s1 f (by first | assumption | omega)) (cwVB 0 hF rfl mL_X6_103 mI_X2_hasSlashesAlone mS_X2_hasSlashesAlone mN_X2 mC_X2_hasSlashesAlone rfl hd_X2_hasSlashesAlone rfl rfl ⟨Nat.le_of_ble_eq_true rfl, Nat.le_of_ble_eq_true rfl⟩) (kPre hK hP hD [1, 2] (by decide) rfl (q0 := 1) (ci := 2) rfl rfl rfl) rfl rfl hl.1 rfl (lv_room (Nat.le_of_ble_eq_true rfl)) dX6_takeName_82 ⟨by omega, by omega⟩) hP hD hS hA [1, 2] [0, 3, 4, 5, 6, 7] rfl rfl (by decide) (by decide) (fun r u H locs hw_36 hP hD hS => ?_)
            subst hw_36
            have hP : PG G [oC wk 6 [.ref t, .ref en, .ref vo, .ref se, .ref rs, .int wa, .int (nI hp), .long z, .int (zI la), .int (zI sl)], oC rs 2 [.ref ra, .int (nI s1)], aC G ra 60 f, oC se 3 [.ref t, .int us, .int ro, .int pr], oC t 4 [.ref tk, .ref tm, .ref to_, .ref tv, .ref tp, .ref tl], aI G tk 40 kF, aI G tm 40 mF, aI G to_ 40 oF] H := va_P.sub hP [0, 6, 7, 1, 2, 3, 4, 5] rfl
            have hD : va_D A [oC wk 6 [.ref t, .ref en, .ref vo, .ref se, .ref rs, .int wa, .int (nI hp), .long z, .int (zI la), .int (zI sl)], oC rs 2 [.ref ra, .int (nI s1)], aC G ra 60 f, oC se 3 [.ref t, .int us, .int ro, .int pr], oC t 4 [.ref tk, .ref tm, .ref to_, .ref tv, .ref tp, .ref tl], aI G tk 40 kF, aI G tm 40 mF, aI G to_ 40 oF] := va_D.sub hD [0, 6, 7, 1, 2, 3, 4, 5] (by decide) rfl
            refine kPut (C := RX6) (T := TX6) (N := 10) (index := 71) (v := .int (zI (scan (isS f) (60 - s1) s1 = 60))) hF hK hP hD hS (inT inBX6) tyX6_ok nmX6 0 rfl rfl 8 (by decide) rfl (List.mem_cons_of_mem _ mF_X6_71) rfl (zI_nar _) (zI_fit _) (Nat.le_of_ble_eq_true rfl) dX6_takeName_85 (fun H locs hP hD hS => ?_)
            have hP : PG G [oC wk 6 [.ref t, .ref en, .ref vo, .ref se, .ref rs, .int wa, .int (nI hp), .long z, .int (zI (scan (isS f) (60 - s1) s1 = 60)), .int (zI sl)], oC rs 2 [.ref ra, .int (nI s1)], aC G ra 60 f, oC se 3 [.ref t, .int us, .int ro, .int pr], oC t 4 [.ref tk, .ref tm, .ref to_, .ref tv, .ref tp, .ref tl], aI G tk 40 kF, aI G tm 40 mF, aI G to_ 40 oF] H := hP
            have hD : va_D A [oC wk 6 [.ref t, .ref en, .ref vo, .ref se, .ref rs, .int wa, .int (nI hp), .long z, .int (zI (scan (isS f) (60 - s1) s1 = 60)), .int (zI sl)], oC rs 2 [.ref ra, .int (nI s1)], aC G ra 60 f, oC se 3 [.ref t, .int us, .int ro, .int pr], oC t 4 [.ref tk, .ref tm, .ref to_, .ref tv, .ref tp, .ref tl], aI G tk 40 kF, aI G tm 40 mF, aI G to_ 40 oF] := hD
            refine lv_aload_n hF.1 hF.2.1 dX6_takeName_88 rfl (lv_at hl 2 rfl) ?_
            refine lv_aload_n hF.1 hF.2.1 dX6_takeName_89 rfl (lv_at hl 2 rfl) ?_
            refine kGet (C := RX6) (T := TX6) (N := 10) (index := 12) hF hK hP (inT inBX6) 0 rfl rfl 4 (by decide) rfl (List.mem_cons_of_mem _ mF_X6_12) rfl dX6_takeName_90 ?_
            refine kCallI (wr := [oC wk 6 [.ref t, .ref en, .ref vo, .ref se, .ref rs, .int wa, .int (nI hp), .long z, .int (zI (scan (isS f) (60 - s1) s1 = 60)), .int (zI sl)], oC se 3 [.ref t, .int us, .int ro, .int pr], oC t 4 [.ref tk, .ref tm, .ref to_, .ref tv, .ref tp, .ref tl], aI G tk 40 kF, aI G tm 40 mF, aI G to_ 40 oF]) (va_runV (As := []) (rest := [.ref wk]) hF (c_X2_isEmpty l G H.size rs ra s1 f (by first | assumption | omega)) (cwVB 0 hF rfl mL_X6_99 mI_X2_isEmpty mS_X2_isEmpty mN_X2 mC_X2_isEmpty rfl hd_X2_isEmpty rfl rfl ⟨Nat.le_of_ble_eq_true rfl, Nat.le_of_ble_eq_true rfl⟩) (kPre hK hP hD [1, 2] (by decide) rfl (q0 := 1) (ci := 2) rfl rfl rfl) rfl rfl hl.1 rfl (lv_room (Nat.le_of_ble_eq_true rfl)) dX6_takeName_93 ⟨by omega, by omega⟩) hP hD hS hA [1, 2] [0, 3, 4, 5, 6, 7] rfl rfl (by decide) (by decide) (fun r u H locs hw_37 hP hD hS => ?_)
            subst hw_37
            have hP : PG G [oC wk 6 [.ref t, .ref en, .ref vo, .ref se, .ref rs, .int wa, .int (nI hp), .long z, .int (zI (scan (isS f) (60 - s1) s1 = 60)), .int (zI sl)], oC rs 2 [.ref ra, .int (nI s1)], aC G ra 60 f, oC se 3 [.ref t, .int us, .int ro, .int pr], oC t 4 [.ref tk, .ref tm, .ref to_, .ref tv, .ref tp, .ref tl], aI G tk 40 kF, aI G tm 40 mF, aI G to_ 40 oF] H := va_P.sub hP [0, 6, 7, 1, 2, 3, 4, 5] rfl
            have hD : va_D A [oC wk 6 [.ref t, .ref en, .ref vo, .ref se, .ref rs, .int wa, .int (nI hp), .long z, .int (zI (scan (isS f) (60 - s1) s1 = 60)), .int (zI sl)], oC rs 2 [.ref ra, .int (nI s1)], aC G ra 60 f, oC se 3 [.ref t, .int us, .int ro, .int pr], oC t 4 [.ref tk, .ref tm, .ref to_, .ref tv, .ref tp, .ref tl], aI G tk 40 kF, aI G tm 40 mF, aI G to_ 40 oF] := va_D.sub hD [0, 6, 7, 1, 2, 3, 4, 5] (by decide) rfl
            refine kIfNeZ (tgt := 103) hF dX6_takeName_96 (by decide) (fun c_38 => ?_) (fun c_38 => ?_)
            · refine lv_iconst (v := (nI 0)) hF.1 hF.2.1 dX6_takeName_103 (by decide) ?_
              refine kTop (y := zI (s1 < 60)) (first_z (by first | exact Or.inl ⟨rfl, by omega⟩ | exact Or.inr ⟨rfl, by omega⟩)) ?_
              refine kPut (C := RX6) (T := TX6) (N := 10) (index := 42) (v := .int (zI (s1 < 60))) hF hK hP hD hS (inT inBX6) tyX6_ok nmX6 0 rfl rfl 9 (by decide) rfl (List.mem_cons_of_mem _ mF_X6_42) rfl (zI_nar _) (zI_fit _) (Nat.le_of_ble_eq_true rfl) dX6_takeName_104 (fun H locs hP hD hS => ?_)
              have hP : PG G [oC wk 6 [.ref t, .ref en, .ref vo, .ref se, .ref rs, .int wa, .int (nI hp), .long z, .int (zI (scan (isS f) (60 - s1) s1 = 60)), .int (zI (s1 < 60))], oC rs 2 [.ref ra, .int (nI s1)], aC G ra 60 f, oC se 3 [.ref t, .int us, .int ro, .int pr], oC t 4 [.ref tk, .ref tm, .ref to_, .ref tv, .ref tp, .ref tl], aI G tk 40 kF, aI G tm 40 mF, aI G to_ 40 oF] H := hP
              have hD : va_D A [oC wk 6 [.ref t, .ref en, .ref vo, .ref se, .ref rs, .int wa, .int (nI hp), .long z, .int (zI (scan (isS f) (60 - s1) s1 = 60)), .int (zI (s1 < 60))], oC rs 2 [.ref ra, .int (nI s1)], aC G ra 60 f, oC se 3 [.ref t, .int us, .int ro, .int pr], oC t 4 [.ref tk, .ref tm, .ref to_, .ref tv, .ref tp, .ref tl], aI G tk 40 kF, aI G tm 40 mF, aI G to_ 40 oF] := hD
              refine lv_aload_n hF.1 hF.2.1 dX6_takeName_107 rfl (lv_at hl 2 rfl) ?_
              refine kGet (C := RX6) (T := TX6) (N := 10) (index := 18) hF hK hP (inT inBX6) 0 rfl rfl 0 (by decide) rfl (List.mem_cons_of_mem _ mF_X6_18) rfl dX6_takeName_108 ?_
              refine lv_aload_n hF.1 hF.2.1 dX6_takeName_111 rfl (lv_at hl 2 rfl) ?_
              refine kGet (C := RX6) (T := TX6) (N := 10) (index := 34) hF hK hP (inT inBX6) 0 rfl rfl 5 (by decide) rfl (List.mem_cons_of_mem _ mF_X6_34) rfl dX6_takeName_112 ?_
              refine kCallI (wr := [oC wk 6 [.ref t, .ref en, .ref vo, .ref se, .ref rs, .int wa, .int (nI hp), .long z, .int (zI (scan (isS f) (60 - s1) s1 = 60)), .int (zI (s1 < 60))], oC rs 2 [.ref ra, .int (nI s1)], aC G ra 60 f, oC se 3 [.ref t, .int us, .int ro, .int pr], aI G tm 40 mF, aI G to_ 40 oF]) (va_runV (As := [.int wa]) (rest := []) hF (c_X4_isDirectory l G H.size t tk tm to_ tv tp tl kF wa (by first | assumption | omega)) (cwVB 1 hF rfl mL_X6_106 mI_X4_isDirectory mS_X4_isDirectory mN_X4 mC_X4_isDirectory rfl hd_X4_isDirectory rfl rfl ⟨Nat.le_of_ble_eq_true rfl, Nat.le_of_ble_eq_true rfl⟩) (kPre hK hP hD [4, 5] (by decide) rfl (q0 := 4) (ci := 4) rfl rfl rfl) rfl rfl hl.1 rfl (lv_room (Nat.le_of_ble_eq_true rfl)) dX6_takeName_115 ⟨by omega, by omega⟩) hP hD hS hA [4, 5] [0, 1, 2, 3, 6, 7] rfl rfl (by decide) (by decide) (fun r u H locs hw_39 hP hD hS => ?_)
              subst hw_39
              have hP : PG G [oC wk 6 [.ref t, .ref en, .ref vo, .ref se, .ref rs, .int wa, .int (nI hp), .long z, .int (zI (scan (isS f) (60 - s1) s1 = 60)), .int (zI (s1 < 60))], oC rs 2 [.ref ra, .int (nI s1)], aC G ra 60 f, oC se 3 [.ref t, .int us, .int ro, .int pr], oC t 4 [.ref tk, .ref tm, .ref to_, .ref tv, .ref tp, .ref tl], aI G tk 40 kF, aI G tm 40 mF, aI G to_ 40 oF] H := va_P.sub hP [0, 1, 2, 3, 6, 7, 4, 5] rfl
              have hD : va_D A [oC wk 6 [.ref t, .ref en, .ref vo, .ref se, .ref rs, .int wa, .int (nI hp), .long z, .int (zI (scan (isS f) (60 - s1) s1 = 60)), .int (zI (s1 < 60))], oC rs 2 [.ref ra, .int (nI s1)], aC G ra 60 f, oC se 3 [.ref t, .int us, .int ro, .int pr], oC t 4 [.ref tk, .ref tm, .ref to_, .ref tv, .ref tp, .ref tl], aI G tk 40 kF, aI G tm 40 mF, aI G to_ 40 oF] := va_D.sub hD [0, 1, 2, 3, 6, 7, 4, 5] (by decide) rfl
              refine kIfNeZ (tgt := 124) hF dX6_takeName_118 (by decide) (fun c_40 => ?_) (fun c_40 => ?_)
              · refine lv_aload_n hF.1 hF.2.1 dX6_takeName_124 rfl (lv_at hl 2 rfl) ?_
                refine kGet (C := RX6) (T := TX6) (N := 10) (index := 30) hF hK hP (inT inBX6) 0 rfl rfl 3 (by decide) rfl (List.mem_cons_of_mem _ mF_X6_30) rfl dX6_takeName_125 ?_
                refine lv_iconst (v := (nI 1)) hF.1 hF.2.1 dX6_takeName_128 (by decide) ?_
                refine lv_aload_n hF.1 hF.2.1 dX6_takeName_129 rfl (lv_at hl 2 rfl) ?_
                refine kGet (C := RX6) (T := TX6) (N := 10) (index := 34) hF hK hP (inT inBX6) 0 rfl rfl 5 (by decide) rfl (List.mem_cons_of_mem _ mF_X6_34) rfl dX6_takeName_130 ?_
                refine kCallI (wr := [oC wk 6 [.ref t, .ref en, .ref vo, .ref se, .ref rs, .int wa, .int (nI hp), .long z, .int (zI (scan (isS f) (60 - s1) s1 = 60)), .int (zI (s1 < 60))], oC rs 2 [.ref ra, .int (nI s1)], aC G ra 60 f, aI G tk 40 kF]) (va_runV (As := [.int (nI 1), .int wa]) (rest := []) hF (c_X3_may l G H.size se t us ro pr tk tm to_ tv tp tl mF oF (nI 1) wa (by first | assumption | omega)) (cwVB 2 hF rfl mL_X6_112 mI_X3_may mS_X3_may mN_X3 mC_X3_may rfl hd_X3_may rfl rfl ⟨Nat.le_of_ble_eq_true rfl, Nat.le_of_ble_eq_true rfl⟩) (kPre hK hP hD [3, 4, 6, 7] (by decide) rfl (q0 := 3) (ci := 3) rfl rfl rfl) rfl rfl hl.1 rfl (lv_room (Nat.le_of_ble_eq_true rfl)) dX6_takeName_133 ⟨by omega, by omega⟩) hP hD hS hA [3, 4, 6, 7] [0, 1, 2, 5] rfl rfl (by decide) (by decide) (fun r u H locs hw_41 hP hD hS => ?_)
                subst hw_41
                have hP : PG G [oC wk 6 [.ref t, .ref en, .ref vo, .ref se, .ref rs, .int wa, .int (nI hp), .long z, .int (zI (scan (isS f) (60 - s1) s1 = 60)), .int (zI (s1 < 60))], oC rs 2 [.ref ra, .int (nI s1)], aC G ra 60 f, oC se 3 [.ref t, .int us, .int ro, .int pr], oC t 4 [.ref tk, .ref tm, .ref to_, .ref tv, .ref tp, .ref tl], aI G tk 40 kF, aI G tm 40 mF, aI G to_ 40 oF] H := va_P.sub hP [0, 1, 2, 4, 5, 3, 6, 7] rfl
                have hD : va_D A [oC wk 6 [.ref t, .ref en, .ref vo, .ref se, .ref rs, .int wa, .int (nI hp), .long z, .int (zI (scan (isS f) (60 - s1) s1 = 60)), .int (zI (s1 < 60))], oC rs 2 [.ref ra, .int (nI s1)], aC G ra 60 f, oC se 3 [.ref t, .int us, .int ro, .int pr], oC t 4 [.ref tk, .ref tm, .ref to_, .ref tv, .ref tp, .ref tl], aI G tk 40 kF, aI G tm 40 mF, aI G to_ 40 oF] := va_D.sub hD [0, 1, 2, 4, 5, 3, 6, 7] (by decide) rfl
                refine kIfNeZ (tgt := 142) hF dX6_takeName_136 (by decide) (fun c_42 => ?_) (fun c_42 => ?_)
                · refine lv_iload_n hF.1 hF.2.1 dX6_takeName_142 rfl (lv_at hl 0 rfl) ?_
                  refine lv_bipush (v := (nI 6)) hF.1 hF.2.1 dX6_takeName_143 (by decide) ?_
                  refine kLeN (tgt := 153) hF dX6_takeName_145 (by decide) (by omega) (by omega) (fun c_43 => ?_) (fun c_43 => ?_)
                  · refine lv_iconst (v := (nI 0)) hF.1 hF.2.1 dX6_takeName_153 (by decide) ?_
                    refine kRetI (v := (nI 0)) hF hr hlk hK hP hD hS hQ rfl (s1, z) [0, 1, 2, 3, 4, 5, 6, 7] (by decide) rfl (by omega) (by omega) dX6_takeName_154 ?_
                    refine ⟨?_, hJ.symm, hZ, by omega, by omega⟩
                    unfold tkR
                    first | (exfalso; omega) | rw [if_neg (by assumption)] | (rw [if_pos (by assumption)]; first | rw [pI_f (by assumption)] | (rw [pI_t (by assumption)]; first | rw [if_pos (by omega)] | rw [if_neg (by omega)]))
                  · refine lv_bipush (v := (-5)) hF.1 hF.2.1 dX6_takeName_148 (by decide) ?_
                    refine lv_goto (tgt := 154) hF.1 hF.2.1 dX6_takeName_150 (by decide) ?_
                    refine kRetI (v := (-5)) hF hr hlk hK hP hD hS hQ rfl (s1, z) [0, 1, 2, 3, 4, 5, 6, 7] (by decide) rfl (by omega) (by omega) dX6_takeName_154 ?_
                    refine ⟨?_, hJ.symm, hZ, by omega, by omega⟩
                    unfold tkR
                    first | (exfalso; omega) | rw [if_neg (by assumption)] | (rw [if_pos (by assumption)]; first | rw [pI_f (by assumption)] | (rw [pI_t (by assumption)]; first | rw [if_pos (by omega)] | rw [if_neg (by omega)]))
                · refine lv_bipush (v := (-3)) hF.1 hF.2.1 dX6_takeName_139 (by decide) ?_
                  refine kRetI (v := (-3)) hF hr hlk hK hP hD hS hQ rfl (s1, z) [0, 1, 2, 3, 4, 5, 6, 7] (by decide) rfl (by omega) (by omega) dX6_takeName_141 ?_
                  refine ⟨?_, hJ.symm, hZ, by omega, by omega⟩
                  unfold tkR
                  first | (exfalso; omega) | rw [if_neg (by assumption)] | (rw [if_pos (by assumption)]; first | rw [pI_f (by assumption)] | (rw [pI_t (by assumption)]; first | rw [if_pos (by omega)] | rw [if_neg (by omega)]))
              · refine lv_bipush (v := (-2)) hF.1 hF.2.1 dX6_takeName_121 (by decide) ?_
                refine kRetI (v := (-2)) hF hr hlk hK hP hD hS hQ rfl (s1, z) [0, 1, 2, 3, 4, 5, 6, 7] (by decide) rfl (by omega) (by omega) dX6_takeName_123 ?_
                refine ⟨?_, hJ.symm, hZ, by omega, by omega⟩
                unfold tkR
                first | (exfalso; omega) | rw [if_neg (by assumption)] | (rw [if_pos (by assumption)]; first | rw [pI_f (by assumption)] | (rw [pI_t (by assumption)]; first | rw [if_pos (by omega)] | rw [if_neg (by omega)]))
            · refine lv_iconst (v := (nI 1)) hF.1 hF.2.1 dX6_takeName_99 (by decide) ?_
              refine lv_goto (tgt := 104) hF.1 hF.2.1 dX6_takeName_100 (by decide) ?_
              refine kTop (y := zI (s1 < 60)) (first_z (by first | exact Or.inl ⟨rfl, by omega⟩ | exact Or.inr ⟨rfl, by omega⟩)) ?_
              refine kPut (C := RX6) (T := TX6) (N := 10) (index := 42) (v := .int (zI (s1 < 60))) hF hK hP hD hS (inT inBX6) tyX6_ok nmX6 0 rfl rfl 9 (by decide) rfl (List.mem_cons_of_mem _ mF_X6_42) rfl (zI_nar _) (zI_fit _) (Nat.le_of_ble_eq_true rfl) dX6_takeName_104 (fun H locs hP hD hS => ?_)
              have hP : PG G [oC wk 6 [.ref t, .ref en, .ref vo, .ref se, .ref rs, .int wa, .int (nI hp), .long z, .int (zI (scan (isS f) (60 - s1) s1 = 60)), .int (zI (s1 < 60))], oC rs 2 [.ref ra, .int (nI s1)], aC G ra 60 f, oC se 3 [.ref t, .int us, .int ro, .int pr], oC t 4 [.ref tk, .ref tm, .ref to_, .ref tv, .ref tp, .ref tl], aI G tk 40 kF, aI G tm 40 mF, aI G to_ 40 oF] H := hP
              have hD : va_D A [oC wk 6 [.ref t, .ref en, .ref vo, .ref se, .ref rs, .int wa, .int (nI hp), .long z, .int (zI (scan (isS f) (60 - s1) s1 = 60)), .int (zI (s1 < 60))], oC rs 2 [.ref ra, .int (nI s1)], aC G ra 60 f, oC se 3 [.ref t, .int us, .int ro, .int pr], oC t 4 [.ref tk, .ref tm, .ref to_, .ref tv, .ref tp, .ref tl], aI G tk 40 kF, aI G tm 40 mF, aI G to_ 40 oF] := hD
              refine lv_aload_n hF.1 hF.2.1 dX6_takeName_107 rfl (lv_at hl 2 rfl) ?_
              refine kGet (C := RX6) (T := TX6) (N := 10) (index := 18) hF hK hP (inT inBX6) 0 rfl rfl 0 (by decide) rfl (List.mem_cons_of_mem _ mF_X6_18) rfl dX6_takeName_108 ?_
              refine lv_aload_n hF.1 hF.2.1 dX6_takeName_111 rfl (lv_at hl 2 rfl) ?_
              refine kGet (C := RX6) (T := TX6) (N := 10) (index := 34) hF hK hP (inT inBX6) 0 rfl rfl 5 (by decide) rfl (List.mem_cons_of_mem _ mF_X6_34) rfl dX6_takeName_112 ?_
              refine kCallI (wr := [oC wk 6 [.ref t, .ref en, .ref vo, .ref se, .ref rs, .int wa, .int (nI hp), .long z, .int (zI (scan (isS f) (60 - s1) s1 = 60)), .int (zI (s1 < 60))], oC rs 2 [.ref ra, .int (nI s1)], aC G ra 60 f, oC se 3 [.ref t, .int us, .int ro, .int pr], aI G tm 40 mF, aI G to_ 40 oF]) (va_runV (As := [.int wa]) (rest := []) hF (c_X4_isDirectory l G H.size t tk tm to_ tv tp tl kF wa (by first | assumption | omega)) (cwVB 1 hF rfl mL_X6_106 mI_X4_isDirectory mS_X4_isDirectory mN_X4 mC_X4_isDirectory rfl hd_X4_isDirectory rfl rfl ⟨Nat.le_of_ble_eq_true rfl, Nat.le_of_ble_eq_true rfl⟩) (kPre hK hP hD [4, 5] (by decide) rfl (q0 := 4) (ci := 4) rfl rfl rfl) rfl rfl hl.1 rfl (lv_room (Nat.le_of_ble_eq_true rfl)) dX6_takeName_115 ⟨by omega, by omega⟩) hP hD hS hA [4, 5] [0, 1, 2, 3, 6, 7] rfl rfl (by decide) (by decide) (fun r u H locs hw_44 hP hD hS => ?_)
              subst hw_44
              have hP : PG G [oC wk 6 [.ref t, .ref en, .ref vo, .ref se, .ref rs, .int wa, .int (nI hp), .long z, .int (zI (scan (isS f) (60 - s1) s1 = 60)), .int (zI (s1 < 60))], oC rs 2 [.ref ra, .int (nI s1)], aC G ra 60 f, oC se 3 [.ref t, .int us, .int ro, .int pr], oC t 4 [.ref tk, .ref tm, .ref to_, .ref tv, .ref tp, .ref tl], aI G tk 40 kF, aI G tm 40 mF, aI G to_ 40 oF] H := va_P.sub hP [0, 1, 2, 3, 6, 7, 4, 5] rfl
              have hD : va_D A [oC wk 6 [.ref t, .ref en, .ref vo, .ref se, .ref rs, .int wa, .int (nI hp), .long z, .int (zI (scan (isS f) (60 - s1) s1 = 60)), .int (zI (s1 < 60))], oC rs 2 [.ref ra, .int (nI s1)], aC G ra 60 f, oC se 3 [.ref t, .int us, .int ro, .int pr], oC t 4 [.ref tk, .ref tm, .ref to_, .ref tv, .ref tp, .ref tl], aI G tk 40 kF, aI G tm 40 mF, aI G to_ 40 oF] := va_D.sub hD [0, 1, 2, 3, 6, 7, 4, 5] (by decide) rfl
              refine kIfNeZ (tgt := 124) hF dX6_takeName_118 (by decide) (fun c_45 => ?_) (fun c_45 => ?_)
              · refine lv_aload_n hF.1 hF.2.1 dX6_takeName_124 rfl (lv_at hl 2 rfl) ?_
                refine kGet (C := RX6) (T := TX6) (N := 10) (index := 30) hF hK hP (inT inBX6) 0 rfl rfl 3 (by decide) rfl (List.mem_cons_of_mem _ mF_X6_30) rfl dX6_takeName_125 ?_
                refine lv_iconst (v := (nI 1)) hF.1 hF.2.1 dX6_takeName_128 (by decide) ?_
                refine lv_aload_n hF.1 hF.2.1 dX6_takeName_129 rfl (lv_at hl 2 rfl) ?_
                refine kGet (C := RX6) (T := TX6) (N := 10) (index := 34) hF hK hP (inT inBX6) 0 rfl rfl 5 (by decide) rfl (List.mem_cons_of_mem _ mF_X6_34) rfl dX6_takeName_130 ?_
                refine kCallI (wr := [oC wk 6 [.ref t, .ref en, .ref vo, .ref se, .ref rs, .int wa, .int (nI hp), .long z, .int (zI (scan (isS f) (60 - s1) s1 = 60)), .int (zI (s1 < 60))], oC rs 2 [.ref ra, .int (nI s1)], aC G ra 60 f, aI G tk 40 kF]) (va_runV (As := [.int (nI 1), .int wa]) (rest := []) hF (c_X3_may l G H.size se t us ro pr tk tm to_ tv tp tl mF oF (nI 1) wa (by first | assumption | omega)) (cwVB 2 hF rfl mL_X6_112 mI_X3_may mS_X3_may mN_X3 mC_X3_may rfl hd_X3_may rfl rfl ⟨Nat.le_of_ble_eq_true rfl, Nat.le_of_ble_eq_true rfl⟩) (kPre hK hP hD [3, 4, 6, 7] (by decide) rfl (q0 := 3) (ci := 3) rfl rfl rfl) rfl rfl hl.1 rfl (lv_room (Nat.le_of_ble_eq_true rfl)) dX6_takeName_133 ⟨by omega, by omega⟩) hP hD hS hA [3, 4, 6, 7] [0, 1, 2, 5] rfl rfl (by decide) (by decide) (fun r u H locs hw_46 hP hD hS => ?_)
                subst hw_46
                have hP : PG G [oC wk 6 [.ref t, .ref en, .ref vo, .ref se, .ref rs, .int wa, .int (nI hp), .long z, .int (zI (scan (isS f) (60 - s1) s1 = 60)), .int (zI (s1 < 60))], oC rs 2 [.ref ra, .int (nI s1)], aC G ra 60 f, oC se 3 [.ref t, .int us, .int ro, .int pr], oC t 4 [.ref tk, .ref tm, .ref to_, .ref tv, .ref tp, .ref tl], aI G tk 40 kF, aI G tm 40 mF, aI G to_ 40 oF] H := va_P.sub hP [0, 1, 2, 4, 5, 3, 6, 7] rfl
                have hD : va_D A [oC wk 6 [.ref t, .ref en, .ref vo, .ref se, .ref rs, .int wa, .int (nI hp), .long z, .int (zI (scan (isS f) (60 - s1) s1 = 60)), .int (zI (s1 < 60))], oC rs 2 [.ref ra, .int (nI s1)], aC G ra 60 f, oC se 3 [.ref t, .int us, .int ro, .int pr], oC t 4 [.ref tk, .ref tm, .ref to_, .ref tv, .ref tp, .ref tl], aI G tk 40 kF, aI G tm 40 mF, aI G to_ 40 oF] := va_D.sub hD [0, 1, 2, 4, 5, 3, 6, 7] (by decide) rfl
                refine kIfNeZ (tgt := 142) hF dX6_takeName_136 (by decide) (fun c_47 => ?_) (fun c_47 => ?_)
                · refine lv_iload_n hF.1 hF.2.1 dX6_takeName_142 rfl (lv_at hl 0 rfl) ?_
                  refine lv_bipush (v := (nI 6)) hF.1 hF.2.1 dX6_takeName_143 (by decide) ?_
                  refine kLeN (tgt := 153) hF dX6_takeName_145 (by decide) (by omega) (by omega) (fun c_48 => ?_) (fun c_48 => ?_)
                  · refine lv_iconst (v := (nI 0)) hF.1 hF.2.1 dX6_takeName_153 (by decide) ?_
                    refine kRetI (v := (nI 0)) hF hr hlk hK hP hD hS hQ rfl (s1, z) [0, 1, 2, 3, 4, 5, 6, 7] (by decide) rfl (by omega) (by omega) dX6_takeName_154 ?_
                    refine ⟨?_, hJ.symm, hZ, by omega, by omega⟩
                    unfold tkR
                    first | (exfalso; omega) | rw [if_neg (by assumption)] | (rw [if_pos (by assumption)]; first | rw [pI_f (by assumption)] | (rw [pI_t (by assumption)]; first | rw [if_pos (by omega)] | rw [if_neg (by omega)]))
                  · refine lv_bipush (v := (-5)) hF.1 hF.2.1 dX6_takeName_148 (by decide) ?_
                    refine lv_goto (tgt := 154) hF.1 hF.2.1 dX6_takeName_150 (by decide) ?_
                    refine kRetI (v := (-5)) hF hr hlk hK hP hD hS hQ rfl (s1, z) [0, 1, 2, 3, 4, 5, 6, 7] (by decide) rfl (by omega) (by omega) dX6_takeName_154 ?_
                    refine ⟨?_, hJ.symm, hZ, by omega, by omega⟩
                    unfold tkR
                    first | (exfalso; omega) | rw [if_neg (by assumption)] | (rw [if_pos (by assumption)]; first | rw [pI_f (by assumption)] | (rw [pI_t (by assumption)]; first | rw [if_pos (by omega)] | rw [if_neg (by omega)]))
                · refine lv_bipush (v := (-3)) hF.1 hF.2.1 dX6_takeName_139 (by decide) ?_
                  refine kRetI (v := (-3)) hF hr hlk hK hP hD hS hQ rfl (s1, z) [0, 1, 2, 3, 4, 5, 6, 7] (by decide) rfl (by omega) (by omega) dX6_takeName_141 ?_
                  refine ⟨?_, hJ.symm, hZ, by omega, by omega⟩
                  unfold tkR
                  first | (exfalso; omega) | rw [if_neg (by assumption)] | (rw [if_pos (by assumption)]; first | rw [pI_f (by assumption)] | (rw [pI_t (by assumption)]; first | rw [if_pos (by omega)] | rw [if_neg (by omega)]))
              · refine lv_bipush (v := (-2)) hF.1 hF.2.1 dX6_takeName_121 (by decide) ?_
                refine kRetI (v := (-2)) hF hr hlk hK hP hD hS hQ rfl (s1, z) [0, 1, 2, 3, 4, 5, 6, 7] (by decide) rfl (by omega) (by omega) dX6_takeName_123 ?_
                refine ⟨?_, hJ.symm, hZ, by omega, by omega⟩
                unfold tkR
                first | (exfalso; omega) | rw [if_neg (by assumption)] | (rw [if_pos (by assumption)]; first | rw [pI_f (by assumption)] | (rw [pI_t (by assumption)]; first | rw [if_pos (by omega)] | rw [if_neg (by omega)]))
          · have hx3 : ¬ f s1 = nI 47 := fun h => c_34 ⟨by omega, h⟩
            refine lv_aload_n hF.1 hF.2.1 dX6_takeName_41 rfl (lv_at hl 2 rfl) ?_
            refine lv_aload_n hF.1 hF.2.1 dX6_takeName_42 rfl (lv_at hl 2 rfl) ?_
            refine kGet (C := RX6) (T := TX6) (N := 10) (index := 38) hF hK hP (inT inBX6) 0 rfl rfl 7 (by decide) rfl (List.mem_cons_of_mem _ mF_X6_38) rfl dX6_takeName_43 ?_
            refine lv_bipush (v := (nI 8)) hF.1 hF.2.1 dX6_takeName_46 (by decide) ?_
            refine lv_lshl hF.1 hF.2.1 dX6_takeName_48 rfl ?_
            refine lv_aload_n hF.1 hF.2.1 dX6_takeName_49 rfl (lv_at hl 2 rfl) ?_
            refine kGet (C := RX6) (T := TX6) (N := 10) (index := 12) hF hK hP (inT inBX6) 0 rfl rfl 4 (by decide) rfl (List.mem_cons_of_mem _ mF_X6_12) rfl dX6_takeName_50 ?_
            refine kCallI (wr := [oC wk 6 [.ref t, .ref en, .ref vo, .ref se, .ref rs, .int wa, .int (nI hp), .long z, .int (zI la), .int (zI sl)], oC se 3 [.ref t, .int us, .int ro, .int pr], oC t 4 [.ref tk, .ref tm, .ref to_, .ref tv, .ref tp, .ref tl], aI G tk 40 kF, aI G tm 40 mF, aI G to_ 40 oF]) (va_runV (As := []) (rest := [.long (z <<< ((nI 8).toInt64 &&& 63)), .ref wk]) hF (c_X2_take l G H.size rs ra s1 f (by first | assumption | omega) (by first | assumption | omega)) (cwVB 0 hF rfl mL_X6_95 mI_X2_take mS_X2_take mN_X2 mC_X2_take rfl hd_X2_take rfl rfl ⟨Nat.le_of_ble_eq_true rfl, Nat.le_of_ble_eq_true rfl⟩) (kPre hK hP hD [1, 2] (by decide) rfl (q0 := 1) (ci := 2) rfl rfl rfl) rfl rfl hl.1 rfl (lv_room (Nat.le_of_ble_eq_true rfl)) dX6_takeName_53 ⟨by omega, by omega⟩) hP hD hS hA [1, 2] [0, 3, 4, 5, 6, 7] rfl rfl (by decide) (by decide) (fun r u H locs hw_49 hP hD hS => ?_)
            subst hw_49
            have hP : PG G [oC wk 6 [.ref t, .ref en, .ref vo, .ref se, .ref rs, .int wa, .int (nI hp), .long z, .int (zI la), .int (zI sl)], oC rs 2 [.ref ra, .int (nI (s1 + 1))], aC G ra 60 f, oC se 3 [.ref t, .int us, .int ro, .int pr], oC t 4 [.ref tk, .ref tm, .ref to_, .ref tv, .ref tp, .ref tl], aI G tk 40 kF, aI G tm 40 mF, aI G to_ 40 oF] H := va_P.sub hP [0, 6, 7, 1, 2, 3, 4, 5] rfl
            have hD : va_D A [oC wk 6 [.ref t, .ref en, .ref vo, .ref se, .ref rs, .int wa, .int (nI hp), .long z, .int (zI la), .int (zI sl)], oC rs 2 [.ref ra, .int (nI (s1 + 1))], aC G ra 60 f, oC se 3 [.ref t, .int us, .int ro, .int pr], oC t 4 [.ref tk, .ref tm, .ref to_, .ref tv, .ref tp, .ref tl], aI G tk 40 kF, aI G tm 40 mF, aI G to_ 40 oF] := va_D.sub hD [0, 6, 7, 1, 2, 3, 4, 5] (by decide) rfl
            refine lv_i2l hF.1 hF.2.1 dX6_takeName_56 rfl ?_
            refine lv_lor hF.1 hF.2.1 dX6_takeName_57 ?_
            refine kPut (C := RX6) (T := TX6) (N := 10) (index := 38) (v := .long ((z <<< ((nI 8).toInt64 &&& 63)) ||| ((f s1).toInt64))) hF hK hP hD hS (inT inBX6) tyX6_ok nmX6 0 rfl rfl 7 (by decide) rfl (List.mem_cons_of_mem _ mF_X6_38) rfl rfl rfl (Nat.le_of_ble_eq_true rfl) dX6_takeName_58 (fun H locs hP hD hS => ?_)
            have hP : PG G [oC wk 6 [.ref t, .ref en, .ref vo, .ref se, .ref rs, .int wa, .int (nI hp), .long ((z <<< ((nI 8).toInt64 &&& 63)) ||| ((f s1).toInt64)), .int (zI la), .int (zI sl)], oC rs 2 [.ref ra, .int (nI (s1 + 1))], aC G ra 60 f, oC se 3 [.ref t, .int us, .int ro, .int pr], oC t 4 [.ref tk, .ref tm, .ref to_, .ref tv, .ref tp, .ref tl], aI G tk 40 kF, aI G tm 40 mF, aI G to_ 40 oF] H := hP
            have hD : va_D A [oC wk 6 [.ref t, .ref en, .ref vo, .ref se, .ref rs, .int wa, .int (nI hp), .long ((z <<< ((nI 8).toInt64 &&& 63)) ||| ((f s1).toInt64)), .int (zI la), .int (zI sl)], oC rs 2 [.ref ra, .int (nI (s1 + 1))], aC G ra 60 f, oC se 3 [.ref t, .int us, .int ro, .int pr], oC t 4 [.ref tk, .ref tm, .ref to_, .ref tv, .ref tp, .ref tl], aI G tk 40 kF, aI G tm 40 mF, aI G to_ 40 oF] := hD
            refine lv_iinc (v := (nI (k + 1))) (lv' := [(2, .int (nI (k + 1))), (1, .int (nI (60 - st))), (0, .ref wk)]) hF.1 hF.2.1 dX6_takeName_61 hl (k := 0) rfl (nI_inc1 _) (by decide) rfl (fun ls hl => ?_)
            refine lv_goto (tgt := 15) hF.1 hF.2.1 dX6_takeName_64 (by decide) ?_
            exact ih_15 (k + 1) (s1 + 1) ((z <<< ((nI 8).toInt64 &&& 63)) ||| ((f s1).toInt64)) (by omega) (by omega) (by rw [← hR]; exact (scan_t (by omega) (by simp [hx3])).symm) (by rw [← hN]; exact (nmC_s (by rw [← hR]; rw [scan_t (p := noS f) (n := 60) (by omega) (by simp [hx3])]; exact Nat.lt_of_lt_of_le (Nat.lt_succ_self s1) (scan_le _ _).1)).symm) H locs ls hP hD hS (lv_sub hl [0, 1, 2] rfl)
  exact loop_15 _ 0 st (lN 0) (Nat.lt_succ_self _) (by omega) (rfl) (rfl) _ _ _ hP hD hS (lv_sub hl [0, 1, 2] rfl)
end
