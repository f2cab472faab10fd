def RX0 : String := "MountedPaths$Entries"
def TX0 : u_T := fun k => match k with
  | 0 => ("MountedPaths$Entries", "directories", "[I", true)
  | 1 => ("MountedPaths$Entries", "names", "[J", true)
  | 2 => ("MountedPaths$Entries", "objects", "[I", true)
  | _ => ("MountedPaths$Entries", "count", "I", false)
def tyX0 : Nat → FieldType := fun k => match k with
  | 0 => .array .int
  | 1 => .array .long
  | 2 => .array .int
  | _ => .int
theorem nmX0 : ∀ a, a < 4 → ∀ b, b < 4 → a ≠ b → (TX0 a).2.1 ≠ (TX0 b).2.1 := by decide +kernel
theorem tyX0_ok : ∀ k, k < 4 → parseFieldDescriptor (TX0 k).2.2.1 = some (tyX0 k) := by decide +kernel
def RX1 : String := "MountedPaths$Line"
def TX1 : u_T := fun k => match k with
  | 0 => ("MountedPaths$Line", "marks", "[C", true)
  | _ => ("MountedPaths$Line", "count", "I", false)
def tyX1 : Nat → FieldType := fun k => match k with
  | 0 => .array .char
  | _ => .int
theorem nmX1 : ∀ a, a < 2 → ∀ b, b < 2 → a ≠ b → (TX1 a).2.1 ≠ (TX1 b).2.1 := by decide +kernel
theorem tyX1_ok : ∀ k, k < 2 → parseFieldDescriptor (TX1 k).2.2.1 = some (tyX1 k) := by decide +kernel
def RX2 : String := "MountedPaths$Rest"
def TX2 : u_T := fun k => match k with
  | 0 => ("MountedPaths$Rest", "marks", "[C", true)
  | _ => ("MountedPaths$Rest", "start", "I", false)
def tyX2 : Nat → FieldType := fun k => match k with
  | 0 => .array .char
  | _ => .int
theorem nmX2 : ∀ a, a < 2 → ∀ b, b < 2 → a ≠ b → (TX2 a).2.1 ≠ (TX2 b).2.1 := by decide +kernel
theorem tyX2_ok : ∀ k, k < 2 → parseFieldDescriptor (TX2 k).2.2.1 = some (tyX2 k) := by decide +kernel
def RX3 : String := "MountedPaths$Session"
def TX3 : u_T := fun k => match k with
  | 0 => ("MountedPaths$Session", "things", "LMountedPaths$Things;", true)
  | 1 => ("MountedPaths$Session", "user", "I", false)
  | 2 => ("MountedPaths$Session", "root", "I", false)
  | _ => ("MountedPaths$Session", "present", "I", false)
def tyX3 : Nat → FieldType := fun k => match k with
  | 0 => .object "MountedPaths$Things"
  | 1 => .int
  | 2 => .int
  | _ => .int
theorem nmX3 : ∀ a, a < 4 → ∀ b, b < 4 → a ≠ b → (TX3 a).2.1 ≠ (TX3 b).2.1 := by decide +kernel
theorem tyX3_ok : ∀ k, k < 4 → parseFieldDescriptor (TX3 k).2.2.1 = some (tyX3 k) := by decide +kernel
def RX4 : String := "MountedPaths$Things"
def TX4 : u_T := fun k => match k with
  | 0 => ("MountedPaths$Things", "sorts", "[I", true)
  | 1 => ("MountedPaths$Things", "modes", "[I", true)
  | 2 => ("MountedPaths$Things", "owners", "[I", true)
  | 3 => ("MountedPaths$Things", "volumes", "[I", true)
  | 4 => ("MountedPaths$Things", "parents", "[I", true)
  | _ => ("MountedPaths$Things", "targets", "[LMountedPaths$Line;", true)
def tyX4 : Nat → FieldType := fun k => match k with
  | 0 => .array .int
  | 1 => .array .int
  | 2 => .array .int
  | 3 => .array .int
  | 4 => .array .int
  | _ => .array (.object "MountedPaths$Line")
theorem nmX4 : ∀ a, a < 6 → ∀ b, b < 6 → a ≠ b → (TX4 a).2.1 ≠ (TX4 b).2.1 := by decide +kernel
theorem tyX4_ok : ∀ k, k < 6 → parseFieldDescriptor (TX4 k).2.2.1 = some (tyX4 k) := by decide +kernel
def RX5 : String := "MountedPaths$Volumes"
def TX5 : u_T := fun k => match k with
  | 0 => ("MountedPaths$Volumes", "things", "LMountedPaths$Things;", true)
  | 1 => ("MountedPaths$Volumes", "roots", "[I", true)
  | 2 => ("MountedPaths$Volumes", "covered", "[I", true)
  | _ => ("MountedPaths$Volumes", "count", "I", false)
def tyX5 : Nat → FieldType := fun k => match k with
  | 0 => .object "MountedPaths$Things"
  | 1 => .array .int
  | 2 => .array .int
  | _ => .int
theorem nmX5 : ∀ a, a < 4 → ∀ b, b < 4 → a ≠ b → (TX5 a).2.1 ≠ (TX5 b).2.1 := by decide +kernel
theorem tyX5_ok : ∀ k, k < 4 → parseFieldDescriptor (TX5 k).2.2.1 = some (tyX5 k) := by decide +kernel
def RX6 : String := "MountedPaths$Walk"
def TX6 : u_T := fun k => match k with
  | 0 => ("MountedPaths$Walk", "things", "LMountedPaths$Things;", true)
  | 1 => ("MountedPaths$Walk", "entries", "LMountedPaths$Entries;", true)
  | 2 => ("MountedPaths$Walk", "volumes", "LMountedPaths$Volumes;", true)
  | 3 => ("MountedPaths$Walk", "session", "LMountedPaths$Session;", true)
  | 4 => ("MountedPaths$Walk", "rest", "LMountedPaths$Rest;", true)
  | 5 => ("MountedPaths$Walk", "at", "I", false)
  | 6 => ("MountedPaths$Walk", "hops", "I", false)
  | 7 => ("MountedPaths$Walk", "name", "J", false)
  | 8 => ("MountedPaths$Walk", "last", "Z", false)
  | _ => ("MountedPaths$Walk", "slashed", "Z", false)
def tyX6 : Nat → FieldType := fun k => match k with
  | 0 => .object "MountedPaths$Things"
  | 1 => .object "MountedPaths$Entries"
  | 2 => .object "MountedPaths$Volumes"
  | 3 => .object "MountedPaths$Session"
  | 4 => .object "MountedPaths$Rest"
  | 5 => .int
  | 6 => .int
  | 7 => .long
  | 8 => .boolean
  | _ => .boolean
theorem nmX6 : ∀ a, a < 10 → ∀ b, b < 10 → a ≠ b → (TX6 a).2.1 ≠ (TX6 b).2.1 := by decide +kernel
theorem tyX6_ok : ∀ k, k < 10 → parseFieldDescriptor (TX6 k).2.2.1 = some (tyX6 k) := by decide +kernel
def RX7 : String := "MountedPaths"
def TX7 : u_T := fun k => match k with
  | 0 => ("MountedPaths", "text", "LMountedPaths$Line;", true)
  | 1 => ("MountedPaths", "second", "LMountedPaths$Line;", true)
  | 2 => ("MountedPaths", "trail", "LMountedPaths$Rest;", true)
  | 3 => ("MountedPaths", "things", "LMountedPaths$Things;", true)
  | 4 => ("MountedPaths", "entries", "LMountedPaths$Entries;", true)
  | 5 => ("MountedPaths", "volumes", "LMountedPaths$Volumes;", true)
  | 6 => ("MountedPaths", "session", "LMountedPaths$Session;", true)
  | _ => ("MountedPaths", "walk", "LMountedPaths$Walk;", true)
def tyX7 : Nat → FieldType := fun k => match k with
  | 0 => .object "MountedPaths$Line"
  | 1 => .object "MountedPaths$Line"
  | 2 => .object "MountedPaths$Rest"
  | 3 => .object "MountedPaths$Things"
  | 4 => .object "MountedPaths$Entries"
  | 5 => .object "MountedPaths$Volumes"
  | 6 => .object "MountedPaths$Session"
  | _ => .object "MountedPaths$Walk"
theorem nmX7 : ∀ a, a < 8 → ∀ b, b < 8 → a ≠ b → (TX7 a).2.1 ≠ (TX7 b).2.1 := by decide +kernel
theorem tyX7_ok : ∀ k, k < 8 → parseFieldDescriptor (TX7 k).2.2.1 = some (tyX7 k) := by decide +kernel
def RX8 : String := "MountedPathsModel"
def TX8 : u_T := fun k => match k with
  | 0 => ("MountedPathsModel", "kinds", "[I", false)
  | 1 => ("MountedPathsModel", "modes", "[I", false)
  | 2 => ("MountedPathsModel", "owners", "[I", false)
  | 3 => ("MountedPathsModel", "volumes", "[I", false)
  | 4 => ("MountedPathsModel", "parents", "[I", false)
  | 5 => ("MountedPathsModel", "linkText", "[I", false)
  | 6 => ("MountedPathsModel", "linkLength", "[I", false)
  | 7 => ("MountedPathsModel", "entries", "I", false)
  | 8 => ("MountedPathsModel", "holder", "[I", false)
  | 9 => ("MountedPathsModel", "names", "[J", false)
  | 10 => ("MountedPathsModel", "held", "[I", false)
  | 11 => ("MountedPathsModel", "volumeCount", "I", false)
  | 12 => ("MountedPathsModel", "volumeRoot", "[I", false)
  | 13 => ("MountedPathsModel", "covered", "[I", false)
  | 14 => ("MountedPathsModel", "user", "I", false)
  | 15 => ("MountedPathsModel", "root", "I", false)
  | 16 => ("MountedPathsModel", "present", "I", false)
  | 17 => ("MountedPathsModel", "text", "[I", false)
  | 18 => ("MountedPathsModel", "size", "I", false)
  | 19 => ("MountedPathsModel", "second", "[I", false)
  | 20 => ("MountedPathsModel", "secondSize", "I", false)
  | 21 => ("MountedPathsModel", "rest", "[I", false)
  | 22 => ("MountedPathsModel", "restSize", "I", false)
  | 23 => ("MountedPathsModel", "at", "I", false)
  | 24 => ("MountedPathsModel", "hops", "I", false)
  | 25 => ("MountedPathsModel", "name", "J", false)
  | 26 => ("MountedPathsModel", "nameSize", "I", false)
  | 27 => ("MountedPathsModel", "last", "Z", false)
  | _ => ("MountedPathsModel", "slashed", "Z", false)
def tyX8 : Nat → FieldType := fun k => match k with
  | 0 => .array .int
  | 1 => .array .int
  | 2 => .array .int
  | 3 => .array .int
  | 4 => .array .int
  | 5 => .array .int
  | 6 => .array .int
  | 7 => .int
  | 8 => .array .int
  | 9 => .array .long
  | 10 => .array .int
  | 11 => .int
  | 12 => .array .int
  | 13 => .array .int
  | 14 => .int
  | 15 => .int
  | 16 => .int
  | 17 => .array .int
  | 18 => .int
  | 19 => .array .int
  | 20 => .int
  | 21 => .array .int
  | 22 => .int
  | 23 => .int
  | 24 => .int
  | 25 => .long
  | 26 => .int
  | 27 => .boolean
  | _ => .boolean
theorem nmX8 : ∀ a, a < 29 → ∀ b, b < 29 → a ≠ b → (TX8 a).2.1 ≠ (TX8 b).2.1 := by decide +kernel
theorem tyX8_ok : ∀ k, k < 29 → parseFieldDescriptor (TX8 k).2.2.1 = some (tyX8 k) := by decide +kernel
abbrev vwM : List vw_C := [(RX0, TX0, 4), (RX1, TX1, 2), (RX2, TX2, 2), (RX3, TX3, 4), (RX4, TX4, 6), (RX5, TX5, 4), (RX6, TX6, 10), (RX7, TX7, 8), (RX8, TX8, 29)]
/-- the words that every state keeps -/
def BIG : List Cond := lw_tbl.filter goodWord
theorem mB {w : Cond} (h : w ∈ lw_tbl) (g : goodWord w = true) : w ∈ BIG := List.mem_filter.mpr ⟨h, g⟩
theorem bigT {w : Cond} (h : w ∈ BIG) : w ∈ lw_tbl := (List.mem_filter.mp h).1
theorem bigG {w : Cond} (h : w ∈ BIG) : goodWord w = true := (List.mem_filter.mp h).2
theorem gBig {c0 : Cond} {pre : List Cond} (h : ∀ w ∈ pre, w ∈ BIG) : GoodIn (c0 :: BIG) (pre ++ BIG) := fun w hw => (List.mem_append.mp hw).elim (fun h1 => ⟨List.mem_cons_of_mem _ (h w h1), good_of_word (bigG (h w h1))⟩) (fun h1 => ⟨List.mem_cons_of_mem _ h1, good_of_word (bigG h1)⟩)
theorem gTbl {pre : List Cond} (h : ∀ w ∈ pre, w ∈ BIG) : GoodIn lw_tbl (pre ++ BIG) := fun w hw => (List.mem_append.mp hw).elim (fun h1 => ⟨bigT (h w h1), good_of_word (bigG (h w h1))⟩) (fun h1 => ⟨bigT h1, good_of_word (bigG h1)⟩)
def RL : String := "MountedPathsLaw"
theorem inBX0 : ∀ w ∈ u_ws RX0 TX0 4, w ∈ BIG := fun w h => mB ((by decide +kernel : ∀ w ∈ u_ws RX0 TX0 4, w ∈ lw_tbl) w h) ((by decide +kernel : ∀ w ∈ u_ws RX0 TX0 4, goodWord w = true) w h)
theorem mN_X0 : Cond.initialized RX0 ∈ BIG := mB (List.mem_of_getElem? (i := 41) (by decide +kernel)) (by decide +kernel)
theorem mK_X0 : Cond.instantiable RX0 4 ∈ BIG := mB (List.mem_of_getElem? (i := 112) (by decide +kernel)) (by decide +kernel)
theorem inBX1 : ∀ w ∈ u_ws RX1 TX1 2, w ∈ BIG := fun w h => mB ((by decide +kernel : ∀ w ∈ u_ws RX1 TX1 2, w ∈ lw_tbl) w h) ((by decide +kernel : ∀ w ∈ u_ws RX1 TX1 2, goodWord w = true) w h)
theorem mN_X1 : Cond.initialized RX1 ∈ BIG := mB (List.mem_of_getElem? (i := 38) (by decide +kernel)) (by decide +kernel)
theorem mK_X1 : Cond.instantiable RX1 2 ∈ BIG := mB (List.mem_of_getElem? (i := 57) (by decide +kernel)) (by decide +kernel)
theorem inBX2 : ∀ w ∈ u_ws RX2 TX2 2, w ∈ BIG := fun w h => mB ((by decide +kernel : ∀ w ∈ u_ws RX2 TX2 2, w ∈ lw_tbl) w h) ((by decide +kernel : ∀ w ∈ u_ws RX2 TX2 2, goodWord w = true) w h)
theorem mN_X2 : Cond.initialized RX2 ∈ BIG := mB (List.mem_of_getElem? (i := 39) (by decide +kernel)) (by decide +kernel)
theorem mK_X2 : Cond.instantiable RX2 2 ∈ BIG := mB (List.mem_of_getElem? (i := 71) (by decide +kernel)) (by decide +kernel)
theorem inBX3 : ∀ w ∈ u_ws RX3 TX3 4, w ∈ BIG := fun w h => mB ((by decide +kernel : ∀ w ∈ u_ws RX3 TX3 4, w ∈ lw_tbl) w h) ((by decide +kernel : ∀ w ∈ u_ws RX3 TX3 4, goodWord w = true) w h)
theorem mN_X3 : Cond.initialized RX3 ∈ BIG := mB (List.mem_of_getElem? (i := 44) (by decide +kernel)) (by decide +kernel)
theorem mK_X3 : Cond.instantiable RX3 4 ∈ BIG := mB (List.mem_of_getElem? (i := 154) (by decide +kernel)) (by decide +kernel)
theorem inBX4 : ∀ w ∈ u_ws RX4 TX4 6, w ∈ BIG := fun w h => mB ((by decide +kernel : ∀ w ∈ u_ws RX4 TX4 6, w ∈ lw_tbl) w h) ((by decide +kernel : ∀ w ∈ u_ws RX4 TX4 6, goodWord w = true) w h)
theorem mN_X4 : Cond.initialized RX4 ∈ BIG := mB (List.mem_of_getElem? (i := 40) (by decide +kernel)) (by decide +kernel)
theorem mK_X4 : Cond.instantiable RX4 6 ∈ BIG := mB (List.mem_of_getElem? (i := 84) (by decide +kernel)) (by decide +kernel)
theorem inBX5 : ∀ w ∈ u_ws RX5 TX5 4, w ∈ BIG := fun w h => mB ((by decide +kernel : ∀ w ∈ u_ws RX5 TX5 4, w ∈ lw_tbl) w h) ((by decide +kernel : ∀ w ∈ u_ws RX5 TX5 4, goodWord w = true) w h)
theorem mN_X5 : Cond.initialized RX5 ∈ BIG := mB (List.mem_of_getElem? (i := 42) (by decide +kernel)) (by decide +kernel)
theorem mK_X5 : Cond.instantiable RX5 4 ∈ BIG := mB (List.mem_of_getElem? (i := 132) (by decide +kernel)) (by decide +kernel)
theorem inBX6 : ∀ w ∈ u_ws RX6 TX6 10, w ∈ BIG := fun w h => mB ((by decide +kernel : ∀ w ∈ u_ws RX6 TX6 10, w ∈ lw_tbl) w h) ((by decide +kernel : ∀ w ∈ u_ws RX6 TX6 10, goodWord w = true) w h)
theorem mN_X6 : Cond.initialized RX6 ∈ BIG := mB (List.mem_of_getElem? (i := 45) (by decide +kernel)) (by decide +kernel)
theorem mK_X6 : Cond.instantiable RX6 10 ∈ BIG := mB (List.mem_of_getElem? (i := 176) (by decide +kernel)) (by decide +kernel)
theorem inBX7 : ∀ w ∈ u_ws RX7 TX7 8, w ∈ BIG := fun w h => mB ((by decide +kernel : ∀ w ∈ u_ws RX7 TX7 8, w ∈ lw_tbl) w h) ((by decide +kernel : ∀ w ∈ u_ws RX7 TX7 8, goodWord w = true) w h)
theorem mN_X7 : Cond.initialized RX7 ∈ BIG := mB (List.mem_of_getElem? (i := 37) (by decide +kernel)) (by decide +kernel)
theorem mK_X7 : Cond.instantiable RX7 8 ∈ BIG := mB (List.mem_of_getElem? (i := 49) (by decide +kernel)) (by decide +kernel)
theorem inBX8 : ∀ w ∈ u_ws RX8 TX8 29, w ∈ BIG := fun w h => mB ((by decide +kernel : ∀ w ∈ u_ws RX8 TX8 29, w ∈ lw_tbl) w h) ((by decide +kernel : ∀ w ∈ u_ws RX8 TX8 29, goodWord w = true) w h)
theorem mN_X8 : Cond.initialized RX8 ∈ BIG := mB (List.mem_of_getElem? (i := 46) (by decide +kernel)) (by decide +kernel)
theorem mK_X8 : Cond.instantiable RX8 29 ∈ BIG := mB (List.mem_of_getElem? (i := 624) (by decide +kernel)) (by decide +kernel)
abbrev cX7_init : ByteArray := prog_1_method_1_code
def yX7_init : MethodName := ⟨RX7, "<init>", "()V"⟩
def wsX7_init : List Cond := .code yX7_init cX7_init 1 (none) :: BIG
theorem mC_X7_init : Cond.code yX7_init cX7_init 1 (none) ∈ BIG := mB (List.mem_of_getElem? (i := 52) (by decide +kernel)) (by decide +kernel)
theorem mI_X7_init : Cond.instanceMethod yX7_init ∈ BIG := mB (List.mem_of_getElem? (i := 51) (by decide +kernel)) (by decide +kernel)
theorem hd_X7_init : yX7_init.cls ≠ "java/lang/invoke/MethodHandle" ∧ yX7_init.cls ≠ "java/lang/invoke/VarHandle" ∧ (parseMethodDescriptor yX7_init.desc).map (fun d => d.parameters.length) = some 0 := by decide +kernel
abbrev cX7_type : ByteArray := prog_1_method_2_code
def yX7_type : MethodName := ⟨RX7, "type", "(I)Z"⟩
def wsX7_type : List Cond := .code yX7_type cX7_type 5 (some (.boolean)) :: BIG
theorem mC_X7_type : Cond.code yX7_type cX7_type 5 (some (.boolean)) ∈ BIG := mB (List.mem_of_getElem? (i := 250) (by decide +kernel)) (by decide +kernel)
theorem mI_X7_type : Cond.instanceMethod yX7_type ∈ BIG := mB (List.mem_of_getElem? (i := 248) (by decide +kernel)) (by decide +kernel)
theorem mS_X7_type : Cond.selects RX7 yX7_type yX7_type ∈ BIG := mB (List.mem_of_getElem? (i := 249) (by decide +kernel)) (by decide +kernel)
theorem hd_X7_type : yX7_type.cls ≠ "java/lang/invoke/MethodHandle" ∧ yX7_type.cls ≠ "java/lang/invoke/VarHandle" ∧ (parseMethodDescriptor yX7_type.desc).map (fun d => d.parameters.length) = some 1 := by decide +kernel
abbrev cX7_wipe : ByteArray := prog_1_method_3_code
def yX7_wipe : MethodName := ⟨RX7, "wipe", "()V"⟩
def wsX7_wipe : List Cond := .code yX7_wipe cX7_wipe 1 (none) :: BIG
theorem mC_X7_wipe : Cond.code yX7_wipe cX7_wipe 1 (none) ∈ BIG := mB (List.mem_of_getElem? (i := 262) (by decide +kernel)) (by decide +kernel)
theorem mI_X7_wipe : Cond.instanceMethod yX7_wipe ∈ BIG := mB (List.mem_of_getElem? (i := 260) (by decide +kernel)) (by decide +kernel)
theorem mS_X7_wipe : Cond.selects RX7 yX7_wipe yX7_wipe ∈ BIG := mB (List.mem_of_getElem? (i := 261) (by decide +kernel)) (by decide +kernel)
theorem hd_X7_wipe : yX7_wipe.cls ≠ "java/lang/invoke/MethodHandle" ∧ yX7_wipe.cls ≠ "java/lang/invoke/VarHandle" ∧ (parseMethodDescriptor yX7_wipe.desc).map (fun d => d.parameters.length) = some 0 := by decide +kernel
abbrev cX7_keep : ByteArray := prog_1_method_4_code
def yX7_keep : MethodName := ⟨RX7, "keep", "()V"⟩
def wsX7_keep : List Cond := .code yX7_keep cX7_keep 1 (none) :: BIG
theorem mC_X7_keep : Cond.code yX7_keep cX7_keep 1 (none) ∈ BIG := mB (List.mem_of_getElem? (i := 270) (by decide +kernel)) (by decide +kernel)
theorem mI_X7_keep : Cond.instanceMethod yX7_keep ∈ BIG := mB (List.mem_of_getElem? (i := 268) (by decide +kernel)) (by decide +kernel)
theorem mS_X7_keep : Cond.selects RX7 yX7_keep yX7_keep ∈ BIG := mB (List.mem_of_getElem? (i := 269) (by decide +kernel)) (by decide +kernel)
theorem hd_X7_keep : yX7_keep.cls ≠ "java/lang/invoke/MethodHandle" ∧ yX7_keep.cls ≠ "java/lang/invoke/VarHandle" ∧ (parseMethodDescriptor yX7_keep.desc).map (fun d => d.parameters.length) = some 0 := by decide +kernel
abbrev cX7_length : ByteArray := prog_1_method_5_code
def yX7_length : MethodName := ⟨RX7, "length", "()I"⟩
def wsX7_length : List Cond := .code yX7_length cX7_length 1 (some (.int)) :: BIG
theorem mC_X7_length : Cond.code yX7_length cX7_length 1 (some (.int)) ∈ BIG := mB (List.mem_of_getElem? (i := 281) (by decide +kernel)) (by decide +kernel)
theorem mI_X7_length : Cond.instanceMethod yX7_length ∈ BIG := mB (List.mem_of_getElem? (i := 279) (by decide +kernel)) (by decide +kernel)
theorem mS_X7_length : Cond.selects RX7 yX7_length yX7_length ∈ BIG := mB (List.mem_of_getElem? (i := 280) (by decide +kernel)) (by decide +kernel)
theorem hd_X7_length : yX7_length.cls ≠ "java/lang/invoke/MethodHandle" ∧ yX7_length.cls ≠ "java/lang/invoke/VarHandle" ∧ (parseMethodDescriptor yX7_length.desc).map (fun d => d.parameters.length) = some 0 := by decide +kernel
abbrev cX7_at : ByteArray := prog_1_method_6_code
def yX7_at : MethodName := ⟨RX7, "at", "(I)I"⟩
def wsX7_at : List Cond := .code yX7_at cX7_at 2 (some (.int)) :: BIG
theorem mC_X7_at : Cond.code yX7_at cX7_at 2 (some (.int)) ∈ BIG := mB (List.mem_of_getElem? (i := 289) (by decide +kernel)) (by decide +kernel)
theorem mI_X7_at : Cond.instanceMethod yX7_at ∈ BIG := mB (List.mem_of_getElem? (i := 287) (by decide +kernel)) (by decide +kernel)
theorem mS_X7_at : Cond.selects RX7 yX7_at yX7_at ∈ BIG := mB (List.mem_of_getElem? (i := 288) (by decide +kernel)) (by decide +kernel)
theorem hd_X7_at : yX7_at.cls ≠ "java/lang/invoke/MethodHandle" ∧ yX7_at.cls ≠ "java/lang/invoke/VarHandle" ∧ (parseMethodDescriptor yX7_at.desc).map (fun d => d.parameters.length) = some 1 := by decide +kernel
abbrev cX7_resolve : ByteArray := prog_1_method_7_code
def yX7_resolve : MethodName := ⟨RX7, "resolve", "(Z)I"⟩
def wsX7_resolve : List Cond := .code yX7_resolve cX7_resolve 2 (some (.int)) :: BIG
theorem mC_X7_resolve : Cond.code yX7_resolve cX7_resolve 2 (some (.int)) ∈ BIG := mB (List.mem_of_getElem? (i := 297) (by decide +kernel)) (by decide +kernel)
theorem mI_X7_resolve : Cond.instanceMethod yX7_resolve ∈ BIG := mB (List.mem_of_getElem? (i := 295) (by decide +kernel)) (by decide +kernel)
theorem mS_X7_resolve : Cond.selects RX7 yX7_resolve yX7_resolve ∈ BIG := mB (List.mem_of_getElem? (i := 296) (by decide +kernel)) (by decide +kernel)
theorem hd_X7_resolve : yX7_resolve.cls ≠ "java/lang/invoke/MethodHandle" ∧ yX7_resolve.cls ≠ "java/lang/invoke/VarHandle" ∧ (parseMethodDescriptor yX7_resolve.desc).map (fun d => d.parameters.length) = some 1 := by decide +kernel
abbrev cX7_make : ByteArray := prog_1_method_8_code
def yX7_make : MethodName := ⟨RX7, "make", "(II)I"⟩
def wsX7_make : List Cond := .code yX7_make cX7_make 6 (some (.int)) :: BIG
theorem mC_X7_make : Cond.code yX7_make cX7_make 6 (some (.int)) ∈ BIG := mB (List.mem_of_getElem? (i := 426) (by decide +kernel)) (by decide +kernel)
theorem mI_X7_make : Cond.instanceMethod yX7_make ∈ BIG := mB (List.mem_of_getElem? (i := 424) (by decide +kernel)) (by decide +kernel)
theorem mS_X7_make : Cond.selects RX7 yX7_make yX7_make ∈ BIG := mB (List.mem_of_getElem? (i := 425) (by decide +kernel)) (by decide +kernel)
theorem hd_X7_make : yX7_make.cls ≠ "java/lang/invoke/MethodHandle" ∧ yX7_make.cls ≠ "java/lang/invoke/VarHandle" ∧ (parseMethodDescriptor yX7_make.desc).map (fun d => d.parameters.length) = some 2 := by decide +kernel
abbrev cX7_mayBeMade : ByteArray := prog_1_method_9_code
def yX7_mayBeMade : MethodName := ⟨RX7, "mayBeMade", "(II)Z"⟩
def wsX7_mayBeMade : List Cond := .code yX7_mayBeMade cX7_mayBeMade 3 (some (.boolean)) :: BIG
theorem mC_X7_mayBeMade : Cond.code yX7_mayBeMade cX7_mayBeMade 3 (some (.boolean)) ∈ BIG := mB (List.mem_of_getElem? (i := 430) (by decide +kernel)) (by decide +kernel)
theorem mI_X7_mayBeMade : Cond.instanceMethod yX7_mayBeMade ∈ BIG := mB (List.mem_of_getElem? (i := 429) (by decide +kernel)) (by decide +kernel)
theorem mS_X7_mayBeMade : Cond.selects RX7 yX7_mayBeMade yX7_mayBeMade ∈ BIG := mB (List.mem_of_getElem? (i := 6) (by decide +kernel)) (by decide +kernel)
theorem hd_X7_mayBeMade : yX7_mayBeMade.cls ≠ "java/lang/invoke/MethodHandle" ∧ yX7_mayBeMade.cls ≠ "java/lang/invoke/VarHandle" ∧ (parseMethodDescriptor yX7_mayBeMade.desc).map (fun d => d.parameters.length) = some 2 := by decide +kernel
abbrev cX7_isMode : ByteArray := prog_1_method_10_code
def yX7_isMode : MethodName := ⟨RX7, "isMode", "(I)Z"⟩
def wsX7_isMode : List Cond := .code yX7_isMode cX7_isMode 1 (some (.boolean)) :: BIG
theorem mC_X7_isMode : Cond.code yX7_isMode cX7_isMode 1 (some (.boolean)) ∈ BIG := mB (List.mem_of_getElem? (i := 434) (by decide +kernel)) (by decide +kernel)
theorem mT_X7_isMode : Cond.static yX7_isMode ∈ BIG := mB (List.mem_of_getElem? (i := 433) (by decide +kernel)) (by decide +kernel)
theorem hd_X7_isMode : yX7_isMode.cls ≠ "java/lang/invoke/MethodHandle" ∧ yX7_isMode.cls ≠ "java/lang/invoke/VarHandle" ∧ (parseMethodDescriptor yX7_isMode.desc).map (fun d => d.parameters.length) = some 1 := by decide +kernel
abbrev cX7_comeToNewName : ByteArray := prog_1_method_11_code
def yX7_comeToNewName : MethodName := ⟨RX7, "comeToNewName", "(Z)I"⟩
def wsX7_comeToNewName : List Cond := .code yX7_comeToNewName cX7_comeToNewName 3 (some (.int)) :: BIG
theorem mC_X7_comeToNewName : Cond.code yX7_comeToNewName cX7_comeToNewName 3 (some (.int)) ∈ BIG := mB (List.mem_of_getElem? (i := 438) (by decide +kernel)) (by decide +kernel)
theorem mI_X7_comeToNewName : Cond.instanceMethod yX7_comeToNewName ∈ BIG := mB (List.mem_of_getElem? (i := 437) (by decide +kernel)) (by decide +kernel)
theorem mS_X7_comeToNewName : Cond.selects RX7 yX7_comeToNewName yX7_comeToNewName ∈ BIG := mB (List.mem_of_getElem? (i := 7) (by decide +kernel)) (by decide +kernel)
theorem hd_X7_comeToNewName : yX7_comeToNewName.cls ≠ "java/lang/invoke/MethodHandle" ∧ yX7_comeToNewName.cls ≠ "java/lang/invoke/VarHandle" ∧ (parseMethodDescriptor yX7_comeToNewName.desc).map (fun d => d.parameters.length) = some 1 := by decide +kernel
abbrev cX7_link : ByteArray := prog_1_method_12_code
def yX7_link : MethodName := ⟨RX7, "link", "()I"⟩
def wsX7_link : List Cond := .code yX7_link cX7_link 3 (some (.int)) :: BIG
theorem mC_X7_link : Cond.code yX7_link cX7_link 3 (some (.int)) ∈ BIG := mB (List.mem_of_getElem? (i := 494) (by decide +kernel)) (by decide +kernel)
theorem mI_X7_link : Cond.instanceMethod yX7_link ∈ BIG := mB (List.mem_of_getElem? (i := 492) (by decide +kernel)) (by decide +kernel)
theorem mS_X7_link : Cond.selects RX7 yX7_link yX7_link ∈ BIG := mB (List.mem_of_getElem? (i := 493) (by decide +kernel)) (by decide +kernel)
theorem hd_X7_link : yX7_link.cls ≠ "java/lang/invoke/MethodHandle" ∧ yX7_link.cls ≠ "java/lang/invoke/VarHandle" ∧ (parseMethodDescriptor yX7_link.desc).map (fun d => d.parameters.length) = some 0 := by decide +kernel
abbrev cX7_remove : ByteArray := prog_1_method_13_code
def yX7_remove : MethodName := ⟨RX7, "remove", "()I"⟩
def wsX7_remove : List Cond := .code yX7_remove cX7_remove 4 (some (.int)) :: BIG
theorem mC_X7_remove : Cond.code yX7_remove cX7_remove 4 (some (.int)) ∈ BIG := mB (List.mem_of_getElem? (i := 499) (by decide +kernel)) (by decide +kernel)
theorem mI_X7_remove : Cond.instanceMethod yX7_remove ∈ BIG := mB (List.mem_of_getElem? (i := 497) (by decide +kernel)) (by decide +kernel)
theorem mS_X7_remove : Cond.selects RX7 yX7_remove yX7_remove ∈ BIG := mB (List.mem_of_getElem? (i := 498) (by decide +kernel)) (by decide +kernel)
theorem hd_X7_remove : yX7_remove.cls ≠ "java/lang/invoke/MethodHandle" ∧ yX7_remove.cls ≠ "java/lang/invoke/VarHandle" ∧ (parseMethodDescriptor yX7_remove.desc).map (fun d => d.parameters.length) = some 0 := by decide +kernel
abbrev cX7_whyNotRemove : ByteArray := prog_1_method_14_code
def yX7_whyNotRemove : MethodName := ⟨RX7, "whyNotRemove", "(I)I"⟩
def wsX7_whyNotRemove : List Cond := .code yX7_whyNotRemove cX7_whyNotRemove 2 (some (.int)) :: BIG
theorem mC_X7_whyNotRemove : Cond.code yX7_whyNotRemove cX7_whyNotRemove 2 (some (.int)) ∈ BIG := mB (List.mem_of_getElem? (i := 504) (by decide +kernel)) (by decide +kernel)
theorem mI_X7_whyNotRemove : Cond.instanceMethod yX7_whyNotRemove ∈ BIG := mB (List.mem_of_getElem? (i := 503) (by decide +kernel)) (by decide +kernel)
theorem mS_X7_whyNotRemove : Cond.selects RX7 yX7_whyNotRemove yX7_whyNotRemove ∈ BIG := mB (List.mem_of_getElem? (i := 8) (by decide +kernel)) (by decide +kernel)
theorem hd_X7_whyNotRemove : yX7_whyNotRemove.cls ≠ "java/lang/invoke/MethodHandle" ∧ yX7_whyNotRemove.cls ≠ "java/lang/invoke/VarHandle" ∧ (parseMethodDescriptor yX7_whyNotRemove.desc).map (fun d => d.parameters.length) = some 1 := by decide +kernel
abbrev cX7_volume : ByteArray := prog_1_method_15_code
def yX7_volume : MethodName := ⟨RX7, "volume", "()I"⟩
def wsX7_volume : List Cond := .code yX7_volume cX7_volume 3 (some (.int)) :: BIG
theorem mC_X7_volume : Cond.code yX7_volume cX7_volume 3 (some (.int)) ∈ BIG := mB (List.mem_of_getElem? (i := 525) (by decide +kernel)) (by decide +kernel)
theorem mI_X7_volume : Cond.instanceMethod yX7_volume ∈ BIG := mB (List.mem_of_getElem? (i := 523) (by decide +kernel)) (by decide +kernel)
theorem mS_X7_volume : Cond.selects RX7 yX7_volume yX7_volume ∈ BIG := mB (List.mem_of_getElem? (i := 524) (by decide +kernel)) (by decide +kernel)
theorem hd_X7_volume : yX7_volume.cls ≠ "java/lang/invoke/MethodHandle" ∧ yX7_volume.cls ≠ "java/lang/invoke/VarHandle" ∧ (parseMethodDescriptor yX7_volume.desc).map (fun d => d.parameters.length) = some 0 := by decide +kernel
abbrev cX7_mount : ByteArray := prog_1_method_16_code
def yX7_mount : MethodName := ⟨RX7, "mount", "(I)I"⟩
def wsX7_mount : List Cond := .code yX7_mount cX7_mount 3 (some (.int)) :: BIG
theorem mC_X7_mount : Cond.code yX7_mount cX7_mount 3 (some (.int)) ∈ BIG := mB (List.mem_of_getElem? (i := 533) (by decide +kernel)) (by decide +kernel)
theorem mI_X7_mount : Cond.instanceMethod yX7_mount ∈ BIG := mB (List.mem_of_getElem? (i := 531) (by decide +kernel)) (by decide +kernel)
theorem mS_X7_mount : Cond.selects RX7 yX7_mount yX7_mount ∈ BIG := mB (List.mem_of_getElem? (i := 532) (by decide +kernel)) (by decide +kernel)
theorem hd_X7_mount : yX7_mount.cls ≠ "java/lang/invoke/MethodHandle" ∧ yX7_mount.cls ≠ "java/lang/invoke/VarHandle" ∧ (parseMethodDescriptor yX7_mount.desc).map (fun d => d.parameters.length) = some 1 := by decide +kernel
abbrev cX7_isAtOrBelow : ByteArray := prog_1_method_17_code
def yX7_isAtOrBelow : MethodName := ⟨RX7, "isAtOrBelow", "(II)Z"⟩
def wsX7_isAtOrBelow : List Cond := .code yX7_isAtOrBelow cX7_isAtOrBelow 5 (some (.boolean)) :: BIG
theorem mC_X7_isAtOrBelow : Cond.code yX7_isAtOrBelow cX7_isAtOrBelow 5 (some (.boolean)) ∈ BIG := mB (List.mem_of_getElem? (i := 545) (by decide +kernel)) (by decide +kernel)
theorem mI_X7_isAtOrBelow : Cond.instanceMethod yX7_isAtOrBelow ∈ BIG := mB (List.mem_of_getElem? (i := 544) (by decide +kernel)) (by decide +kernel)
theorem mS_X7_isAtOrBelow : Cond.selects RX7 yX7_isAtOrBelow yX7_isAtOrBelow ∈ BIG := mB (List.mem_of_getElem? (i := 9) (by decide +kernel)) (by decide +kernel)
theorem hd_X7_isAtOrBelow : yX7_isAtOrBelow.cls ≠ "java/lang/invoke/MethodHandle" ∧ yX7_isAtOrBelow.cls ≠ "java/lang/invoke/VarHandle" ∧ (parseMethodDescriptor yX7_isAtOrBelow.desc).map (fun d => d.parameters.length) = some 2 := by decide +kernel
abbrev cX7_unmount : ByteArray := prog_1_method_18_code
def yX7_unmount : MethodName := ⟨RX7, "unmount", "()I"⟩
def wsX7_unmount : List Cond := .code yX7_unmount cX7_unmount 3 (some (.int)) :: BIG
theorem mC_X7_unmount : Cond.code yX7_unmount cX7_unmount 3 (some (.int)) ∈ BIG := mB (List.mem_of_getElem? (i := 554) (by decide +kernel)) (by decide +kernel)
theorem mI_X7_unmount : Cond.instanceMethod yX7_unmount ∈ BIG := mB (List.mem_of_getElem? (i := 552) (by decide +kernel)) (by decide +kernel)
theorem mS_X7_unmount : Cond.selects RX7 yX7_unmount yX7_unmount ∈ BIG := mB (List.mem_of_getElem? (i := 553) (by decide +kernel)) (by decide +kernel)
theorem hd_X7_unmount : yX7_unmount.cls ≠ "java/lang/invoke/MethodHandle" ∧ yX7_unmount.cls ≠ "java/lang/invoke/VarHandle" ∧ (parseMethodDescriptor yX7_unmount.desc).map (fun d => d.parameters.length) = some 0 := by decide +kernel
abbrev cX7_enter : ByteArray := prog_1_method_19_code
def yX7_enter : MethodName := ⟨RX7, "enter", "(Z)I"⟩
def wsX7_enter : List Cond := .code yX7_enter cX7_enter 3 (some (.int)) :: BIG
theorem mC_X7_enter : Cond.code yX7_enter cX7_enter 3 (some (.int)) ∈ BIG := mB (List.mem_of_getElem? (i := 568) (by decide +kernel)) (by decide +kernel)
theorem mI_X7_enter : Cond.instanceMethod yX7_enter ∈ BIG := mB (List.mem_of_getElem? (i := 566) (by decide +kernel)) (by decide +kernel)
theorem mS_X7_enter : Cond.selects RX7 yX7_enter yX7_enter ∈ BIG := mB (List.mem_of_getElem? (i := 567) (by decide +kernel)) (by decide +kernel)
theorem hd_X7_enter : yX7_enter.cls ≠ "java/lang/invoke/MethodHandle" ∧ yX7_enter.cls ≠ "java/lang/invoke/VarHandle" ∧ (parseMethodDescriptor yX7_enter.desc).map (fun d => d.parameters.length) = some 1 := by decide +kernel
abbrev cX7_user : ByteArray := prog_1_method_20_code
def yX7_user : MethodName := ⟨RX7, "user", "(I)Z"⟩
def wsX7_user : List Cond := .code yX7_user cX7_user 2 (some (.boolean)) :: BIG
theorem mC_X7_user : Cond.code yX7_user cX7_user 2 (some (.boolean)) ∈ BIG := mB (List.mem_of_getElem? (i := 572) (by decide +kernel)) (by decide +kernel)
theorem mI_X7_user : Cond.instanceMethod yX7_user ∈ BIG := mB (List.mem_of_getElem? (i := 570) (by decide +kernel)) (by decide +kernel)
theorem mS_X7_user : Cond.selects RX7 yX7_user yX7_user ∈ BIG := mB (List.mem_of_getElem? (i := 571) (by decide +kernel)) (by decide +kernel)
theorem hd_X7_user : yX7_user.cls ≠ "java/lang/invoke/MethodHandle" ∧ yX7_user.cls ≠ "java/lang/invoke/VarHandle" ∧ (parseMethodDescriptor yX7_user.desc).map (fun d => d.parameters.length) = some 1 := by decide +kernel
abbrev cX7_change : ByteArray := prog_1_method_21_code
def yX7_change : MethodName := ⟨RX7, "change", "(I)I"⟩
def wsX7_change : List Cond := .code yX7_change cX7_change 4 (some (.int)) :: BIG
theorem mC_X7_change : Cond.code yX7_change cX7_change 4 (some (.int)) ∈ BIG := mB (List.mem_of_getElem? (i := 576) (by decide +kernel)) (by decide +kernel)
theorem mI_X7_change : Cond.instanceMethod yX7_change ∈ BIG := mB (List.mem_of_getElem? (i := 574) (by decide +kernel)) (by decide +kernel)
theorem mS_X7_change : Cond.selects RX7 yX7_change yX7_change ∈ BIG := mB (List.mem_of_getElem? (i := 575) (by decide +kernel)) (by decide +kernel)
theorem hd_X7_change : yX7_change.cls ≠ "java/lang/invoke/MethodHandle" ∧ yX7_change.cls ≠ "java/lang/invoke/VarHandle" ∧ (parseMethodDescriptor yX7_change.desc).map (fun d => d.parameters.length) = some 1 := by decide +kernel
abbrev cX7_path : ByteArray := prog_1_method_22_code
def yX7_path : MethodName := ⟨RX7, "path", "()I"⟩
def wsX7_path : List Cond := .code yX7_path cX7_path 3 (some (.int)) :: BIG
theorem mC_X7_path : Cond.code yX7_path cX7_path 3 (some (.int)) ∈ BIG := mB (List.mem_of_getElem? (i := 586) (by decide +kernel)) (by decide +kernel)
theorem mI_X7_path : Cond.instanceMethod yX7_path ∈ BIG := mB (List.mem_of_getElem? (i := 584) (by decide +kernel)) (by decide +kernel)
theorem mS_X7_path : Cond.selects RX7 yX7_path yX7_path ∈ BIG := mB (List.mem_of_getElem? (i := 585) (by decide +kernel)) (by decide +kernel)
theorem hd_X7_path : yX7_path.cls ≠ "java/lang/invoke/MethodHandle" ∧ yX7_path.cls ≠ "java/lang/invoke/VarHandle" ∧ (parseMethodDescriptor yX7_path.desc).map (fun d => d.parameters.length) = some 0 := by decide +kernel
abbrev cX7_kind : ByteArray := prog_1_method_23_code
def yX7_kind : MethodName := ⟨RX7, "kind", "(I)I"⟩
def wsX7_kind : List Cond := .code yX7_kind cX7_kind 2 (some (.int)) :: BIG
theorem mC_X7_kind : Cond.code yX7_kind cX7_kind 2 (some (.int)) ∈ BIG := mB (List.mem_of_getElem? (i := 605) (by decide +kernel)) (by decide +kernel)
theorem mI_X7_kind : Cond.instanceMethod yX7_kind ∈ BIG := mB (List.mem_of_getElem? (i := 603) (by decide +kernel)) (by decide +kernel)
theorem mS_X7_kind : Cond.selects RX7 yX7_kind yX7_kind ∈ BIG := mB (List.mem_of_getElem? (i := 604) (by decide +kernel)) (by decide +kernel)
theorem hd_X7_kind : yX7_kind.cls ≠ "java/lang/invoke/MethodHandle" ∧ yX7_kind.cls ≠ "java/lang/invoke/VarHandle" ∧ (parseMethodDescriptor yX7_kind.desc).map (fun d => d.parameters.length) = some 1 := by decide +kernel
abbrev cX7_about : ByteArray := prog_1_method_24_code
def yX7_about : MethodName := ⟨RX7, "about", "(II)I"⟩
def wsX7_about : List Cond := .code yX7_about cX7_about 3 (some (.int)) :: BIG
theorem mC_X7_about : Cond.code yX7_about cX7_about 3 (some (.int)) ∈ BIG := mB (List.mem_of_getElem? (i := 613) (by decide +kernel)) (by decide +kernel)
theorem mI_X7_about : Cond.instanceMethod yX7_about ∈ BIG := mB (List.mem_of_getElem? (i := 611) (by decide +kernel)) (by decide +kernel)
theorem mS_X7_about : Cond.selects RX7 yX7_about yX7_about ∈ BIG := mB (List.mem_of_getElem? (i := 612) (by decide +kernel)) (by decide +kernel)
theorem hd_X7_about : yX7_about.cls ≠ "java/lang/invoke/MethodHandle" ∧ yX7_about.cls ≠ "java/lang/invoke/VarHandle" ∧ (parseMethodDescriptor yX7_about.desc).map (fun d => d.parameters.length) = some 2 := by decide +kernel
abbrev cX7_entry : ByteArray := prog_1_method_25_code
def yX7_entry : MethodName := ⟨RX7, "entry", "(II)I"⟩
def wsX7_entry : List Cond := .code yX7_entry cX7_entry 4 (some (.int)) :: BIG
theorem mC_X7_entry : Cond.code yX7_entry cX7_entry 4 (some (.int)) ∈ BIG := mB (List.mem_of_getElem? (i := 618) (by decide +kernel)) (by decide +kernel)
theorem mI_X7_entry : Cond.instanceMethod yX7_entry ∈ BIG := mB (List.mem_of_getElem? (i := 616) (by decide +kernel)) (by decide +kernel)
theorem mS_X7_entry : Cond.selects RX7 yX7_entry yX7_entry ∈ BIG := mB (List.mem_of_getElem? (i := 617) (by decide +kernel)) (by decide +kernel)
theorem hd_X7_entry : yX7_entry.cls ≠ "java/lang/invoke/MethodHandle" ∧ yX7_entry.cls ≠ "java/lang/invoke/VarHandle" ∧ (parseMethodDescriptor yX7_entry.desc).map (fun d => d.parameters.length) = some 2 := by decide +kernel
abbrev cX8_init : ByteArray := prog_10_method_1_code
def yX8_init : MethodName := ⟨RX8, "<init>", "()V"⟩
def wsX8_init : List Cond := .code yX8_init cX8_init 2 (none) :: BIG
theorem mC_X8_init : Cond.code yX8_init cX8_init 2 (none) ∈ BIG := mB (List.mem_of_getElem? (i := 627) (by decide +kernel)) (by decide +kernel)
theorem mI_X8_init : Cond.instanceMethod yX8_init ∈ BIG := mB (List.mem_of_getElem? (i := 626) (by decide +kernel)) (by decide +kernel)
theorem hd_X8_init : yX8_init.cls ≠ "java/lang/invoke/MethodHandle" ∧ yX8_init.cls ≠ "java/lang/invoke/VarHandle" ∧ (parseMethodDescriptor yX8_init.desc).map (fun d => d.parameters.length) = some 0 := by decide +kernel
abbrev cX8_type : ByteArray := prog_10_method_2_code
def yX8_type : MethodName := ⟨RX8, "type", "(I)Z"⟩
def wsX8_type : List Cond := .code yX8_type cX8_type 5 (some (.boolean)) :: BIG
theorem mC_X8_type : Cond.code yX8_type cX8_type 5 (some (.boolean)) ∈ BIG := mB (List.mem_of_getElem? (i := 720) (by decide +kernel)) (by decide +kernel)
theorem mI_X8_type : Cond.instanceMethod yX8_type ∈ BIG := mB (List.mem_of_getElem? (i := 718) (by decide +kernel)) (by decide +kernel)
theorem mS_X8_type : Cond.selects RX8 yX8_type yX8_type ∈ BIG := mB (List.mem_of_getElem? (i := 719) (by decide +kernel)) (by decide +kernel)
theorem hd_X8_type : yX8_type.cls ≠ "java/lang/invoke/MethodHandle" ∧ yX8_type.cls ≠ "java/lang/invoke/VarHandle" ∧ (parseMethodDescriptor yX8_type.desc).map (fun d => d.parameters.length) = some 1 := by decide +kernel
abbrev cX8_wipe : ByteArray := prog_10_method_3_code
def yX8_wipe : MethodName := ⟨RX8, "wipe", "()V"⟩
def wsX8_wipe : List Cond := .code yX8_wipe cX8_wipe 1 (none) :: BIG
theorem mC_X8_wipe : Cond.code yX8_wipe cX8_wipe 1 (none) ∈ BIG := mB (List.mem_of_getElem? (i := 724) (by decide +kernel)) (by decide +kernel)
theorem mI_X8_wipe : Cond.instanceMethod yX8_wipe ∈ BIG := mB (List.mem_of_getElem? (i := 722) (by decide +kernel)) (by decide +kernel)
theorem mS_X8_wipe : Cond.selects RX8 yX8_wipe yX8_wipe ∈ BIG := mB (List.mem_of_getElem? (i := 723) (by decide +kernel)) (by decide +kernel)
theorem hd_X8_wipe : yX8_wipe.cls ≠ "java/lang/invoke/MethodHandle" ∧ yX8_wipe.cls ≠ "java/lang/invoke/VarHandle" ∧ (parseMethodDescriptor yX8_wipe.desc).map (fun d => d.parameters.length) = some 0 := by decide +kernel
abbrev cX8_keep : ByteArray := prog_10_method_4_code
def yX8_keep : MethodName := ⟨RX8, "keep", "()V"⟩
def wsX8_keep : List Cond := .code yX8_keep cX8_keep 2 (none) :: BIG
theorem mC_X8_keep : Cond.code yX8_keep cX8_keep 2 (none) ∈ BIG := mB (List.mem_of_getElem? (i := 728) (by decide +kernel)) (by decide +kernel)
theorem mI_X8_keep : Cond.instanceMethod yX8_keep ∈ BIG := mB (List.mem_of_getElem? (i := 726) (by decide +kernel)) (by decide +kernel)
theorem mS_X8_keep : Cond.selects RX8 yX8_keep yX8_keep ∈ BIG := mB (List.mem_of_getElem? (i := 727) (by decide +kernel)) (by decide +kernel)
theorem hd_X8_keep : yX8_keep.cls ≠ "java/lang/invoke/MethodHandle" ∧ yX8_keep.cls ≠ "java/lang/invoke/VarHandle" ∧ (parseMethodDescriptor yX8_keep.desc).map (fun d => d.parameters.length) = some 0 := by decide +kernel
abbrev cX8_length : ByteArray := prog_10_method_5_code
def yX8_length : MethodName := ⟨RX8, "length", "()I"⟩
def wsX8_length : List Cond := .code yX8_length cX8_length 1 (some (.int)) :: BIG
theorem mC_X8_length : Cond.code yX8_length cX8_length 1 (some (.int)) ∈ BIG := mB (List.mem_of_getElem? (i := 732) (by decide +kernel)) (by decide +kernel)
theorem mI_X8_length : Cond.instanceMethod yX8_length ∈ BIG := mB (List.mem_of_getElem? (i := 730) (by decide +kernel)) (by decide +kernel)
theorem mS_X8_length : Cond.selects RX8 yX8_length yX8_length ∈ BIG := mB (List.mem_of_getElem? (i := 731) (by decide +kernel)) (by decide +kernel)
theorem hd_X8_length : yX8_length.cls ≠ "java/lang/invoke/MethodHandle" ∧ yX8_length.cls ≠ "java/lang/invoke/VarHandle" ∧ (parseMethodDescriptor yX8_length.desc).map (fun d => d.parameters.length) = some 0 := by decide +kernel
abbrev cX8_at : ByteArray := prog_10_method_6_code
def yX8_at : MethodName := ⟨RX8, "at", "(I)I"⟩
def wsX8_at : List Cond := .code yX8_at cX8_at 2 (some (.int)) :: BIG
theorem mC_X8_at : Cond.code yX8_at cX8_at 2 (some (.int)) ∈ BIG := mB (List.mem_of_getElem? (i := 736) (by decide +kernel)) (by decide +kernel)
theorem mI_X8_at : Cond.instanceMethod yX8_at ∈ BIG := mB (List.mem_of_getElem? (i := 734) (by decide +kernel)) (by decide +kernel)
theorem mS_X8_at : Cond.selects RX8 yX8_at yX8_at ∈ BIG := mB (List.mem_of_getElem? (i := 735) (by decide +kernel)) (by decide +kernel)
theorem hd_X8_at : yX8_at.cls ≠ "java/lang/invoke/MethodHandle" ∧ yX8_at.cls ≠ "java/lang/invoke/VarHandle" ∧ (parseMethodDescriptor yX8_at.desc).map (fun d => d.parameters.length) = some 1 := by decide +kernel
abbrev cX8_slashesAlone : ByteArray := prog_10_method_7_code
def yX8_slashesAlone : MethodName := ⟨RX8, "slashesAlone", "()Z"⟩
def wsX8_slashesAlone : List Cond := .code yX8_slashesAlone cX8_slashesAlone 3 (some (.boolean)) :: BIG
theorem mC_X8_slashesAlone : Cond.code yX8_slashesAlone cX8_slashesAlone 3 (some (.boolean)) ∈ BIG := mB (List.mem_of_getElem? (i := 815) (by decide +kernel)) (by decide +kernel)
theorem mI_X8_slashesAlone : Cond.instanceMethod yX8_slashesAlone ∈ BIG := mB (List.mem_of_getElem? (i := 814) (by decide +kernel)) (by decide +kernel)
theorem mS_X8_slashesAlone : Cond.selects RX8 yX8_slashesAlone yX8_slashesAlone ∈ BIG := mB (List.mem_of_getElem? (i := 26) (by decide +kernel)) (by decide +kernel)
theorem hd_X8_slashesAlone : yX8_slashesAlone.cls ≠ "java/lang/invoke/MethodHandle" ∧ yX8_slashesAlone.cls ≠ "java/lang/invoke/VarHandle" ∧ (parseMethodDescriptor yX8_slashesAlone.desc).map (fun d => d.parameters.length) = some 0 := by decide +kernel
abbrev cX8_there : ByteArray := prog_10_method_8_code
def yX8_there : MethodName := ⟨RX8, "there", "(I)Z"⟩
def wsX8_there : List Cond := .code yX8_there cX8_there 2 (some (.boolean)) :: BIG
theorem mC_X8_there : Cond.code yX8_there cX8_there 2 (some (.boolean)) ∈ BIG := mB (List.mem_of_getElem? (i := 895) (by decide +kernel)) (by decide +kernel)
theorem mI_X8_there : Cond.instanceMethod yX8_there ∈ BIG := mB (List.mem_of_getElem? (i := 894) (by decide +kernel)) (by decide +kernel)
theorem mS_X8_there : Cond.selects RX8 yX8_there yX8_there ∈ BIG := mB (List.mem_of_getElem? (i := 35) (by decide +kernel)) (by decide +kernel)
theorem hd_X8_there : yX8_there.cls ≠ "java/lang/invoke/MethodHandle" ∧ yX8_there.cls ≠ "java/lang/invoke/VarHandle" ∧ (parseMethodDescriptor yX8_there.desc).map (fun d => d.parameters.length) = some 1 := by decide +kernel
abbrev cX8_freeObject : ByteArray := prog_10_method_9_code
def yX8_freeObject : MethodName := ⟨RX8, "freeObject", "()I"⟩
def wsX8_freeObject : List Cond := .code yX8_freeObject cX8_freeObject 2 (some (.int)) :: BIG
theorem mC_X8_freeObject : Cond.code yX8_freeObject cX8_freeObject 2 (some (.int)) ∈ BIG := mB (List.mem_of_getElem? (i := 827) (by decide +kernel)) (by decide +kernel)
theorem mI_X8_freeObject : Cond.instanceMethod yX8_freeObject ∈ BIG := mB (List.mem_of_getElem? (i := 826) (by decide +kernel)) (by decide +kernel)
theorem mS_X8_freeObject : Cond.selects RX8 yX8_freeObject yX8_freeObject ∈ BIG := mB (List.mem_of_getElem? (i := 29) (by decide +kernel)) (by decide +kernel)
theorem hd_X8_freeObject : yX8_freeObject.cls ≠ "java/lang/invoke/MethodHandle" ∧ yX8_freeObject.cls ≠ "java/lang/invoke/VarHandle" ∧ (parseMethodDescriptor yX8_freeObject.desc).map (fun d => d.parameters.length) = some 0 := by decide +kernel
abbrev cX8_may : ByteArray := prog_10_method_10_code
def yX8_may : MethodName := ⟨RX8, "may", "(II)Z"⟩
def wsX8_may : List Cond := .code yX8_may cX8_may 4 (some (.boolean)) :: BIG
theorem mC_X8_may : Cond.code yX8_may cX8_may 4 (some (.boolean)) ∈ BIG := mB (List.mem_of_getElem? (i := 769) (by decide +kernel)) (by decide +kernel)
theorem mI_X8_may : Cond.instanceMethod yX8_may ∈ BIG := mB (List.mem_of_getElem? (i := 768) (by decide +kernel)) (by decide +kernel)
theorem mS_X8_may : Cond.selects RX8 yX8_may yX8_may ∈ BIG := mB (List.mem_of_getElem? (i := 16) (by decide +kernel)) (by decide +kernel)
theorem hd_X8_may : yX8_may.cls ≠ "java/lang/invoke/MethodHandle" ∧ yX8_may.cls ≠ "java/lang/invoke/VarHandle" ∧ (parseMethodDescriptor yX8_may.desc).map (fun d => d.parameters.length) = some 2 := by decide +kernel
abbrev cX8_coverOf : ByteArray := prog_10_method_11_code
def yX8_coverOf : MethodName := ⟨RX8, "coverOf", "(I)I"⟩
def wsX8_coverOf : List Cond := .code yX8_coverOf cX8_coverOf 4 (some (.int)) :: BIG
theorem mC_X8_coverOf : Cond.code yX8_coverOf cX8_coverOf 4 (some (.int)) ∈ BIG := mB (List.mem_of_getElem? (i := 794) (by decide +kernel)) (by decide +kernel)
theorem mI_X8_coverOf : Cond.instanceMethod yX8_coverOf ∈ BIG := mB (List.mem_of_getElem? (i := 793) (by decide +kernel)) (by decide +kernel)
theorem mS_X8_coverOf : Cond.selects RX8 yX8_coverOf yX8_coverOf ∈ BIG := mB (List.mem_of_getElem? (i := 22) (by decide +kernel)) (by decide +kernel)
theorem hd_X8_coverOf : yX8_coverOf.cls ≠ "java/lang/invoke/MethodHandle" ∧ yX8_coverOf.cls ≠ "java/lang/invoke/VarHandle" ∧ (parseMethodDescriptor yX8_coverOf.desc).map (fun d => d.parameters.length) = some 1 := by decide +kernel
abbrev cX8_top : ByteArray := prog_10_method_12_code
def yX8_top : MethodName := ⟨RX8, "top", "(I)I"⟩
def wsX8_top : List Cond := .code yX8_top cX8_top 4 (some (.int)) :: BIG
theorem mC_X8_top : Cond.code yX8_top cX8_top 4 (some (.int)) ∈ BIG := mB (List.mem_of_getElem? (i := 790) (by decide +kernel)) (by decide +kernel)
theorem mI_X8_top : Cond.instanceMethod yX8_top ∈ BIG := mB (List.mem_of_getElem? (i := 789) (by decide +kernel)) (by decide +kernel)
theorem mS_X8_top : Cond.selects RX8 yX8_top yX8_top ∈ BIG := mB (List.mem_of_getElem? (i := 21) (by decide +kernel)) (by decide +kernel)
theorem hd_X8_top : yX8_top.cls ≠ "java/lang/invoke/MethodHandle" ∧ yX8_top.cls ≠ "java/lang/invoke/VarHandle" ∧ (parseMethodDescriptor yX8_top.desc).map (fun d => d.parameters.length) = some 1 := by decide +kernel
abbrev cX8_mountedAt : ByteArray := prog_10_method_13_code
def yX8_mountedAt : MethodName := ⟨RX8, "mountedAt", "(I)I"⟩
def wsX8_mountedAt : List Cond := .code yX8_mountedAt cX8_mountedAt 4 (some (.int)) :: BIG
theorem mC_X8_mountedAt : Cond.code yX8_mountedAt cX8_mountedAt 4 (some (.int)) ∈ BIG := mB (List.mem_of_getElem? (i := 786) (by decide +kernel)) (by decide +kernel)
theorem mI_X8_mountedAt : Cond.instanceMethod yX8_mountedAt ∈ BIG := mB (List.mem_of_getElem? (i := 785) (by decide +kernel)) (by decide +kernel)
theorem mS_X8_mountedAt : Cond.selects RX8 yX8_mountedAt yX8_mountedAt ∈ BIG := mB (List.mem_of_getElem? (i := 20) (by decide +kernel)) (by decide +kernel)
theorem hd_X8_mountedAt : yX8_mountedAt.cls ≠ "java/lang/invoke/MethodHandle" ∧ yX8_mountedAt.cls ≠ "java/lang/invoke/VarHandle" ∧ (parseMethodDescriptor yX8_mountedAt.desc).map (fun d => d.parameters.length) = some 1 := by decide +kernel
abbrev cX8_seat : ByteArray := prog_10_method_14_code
def yX8_seat : MethodName := ⟨RX8, "seat", "(I)I"⟩
def wsX8_seat : List Cond := .code yX8_seat cX8_seat 4 (some (.int)) :: BIG
theorem mC_X8_seat : Cond.code yX8_seat cX8_seat 4 (some (.int)) ∈ BIG := mB (List.mem_of_getElem? (i := 782) (by decide +kernel)) (by decide +kernel)
theorem mI_X8_seat : Cond.instanceMethod yX8_seat ∈ BIG := mB (List.mem_of_getElem? (i := 781) (by decide +kernel)) (by decide +kernel)
theorem mS_X8_seat : Cond.selects RX8 yX8_seat yX8_seat ∈ BIG := mB (List.mem_of_getElem? (i := 19) (by decide +kernel)) (by decide +kernel)
theorem hd_X8_seat : yX8_seat.cls ≠ "java/lang/invoke/MethodHandle" ∧ yX8_seat.cls ≠ "java/lang/invoke/VarHandle" ∧ (parseMethodDescriptor yX8_seat.desc).map (fun d => d.parameters.length) = some 1 := by decide +kernel
abbrev cX8_above : ByteArray := prog_10_method_15_code
def yX8_above : MethodName := ⟨RX8, "above", "(II)I"⟩
def wsX8_above : List Cond := .code yX8_above cX8_above 3 (some (.int)) :: BIG
theorem mC_X8_above : Cond.code yX8_above cX8_above 3 (some (.int)) ∈ BIG := mB (List.mem_of_getElem? (i := 778) (by decide +kernel)) (by decide +kernel)
theorem mI_X8_above : Cond.instanceMethod yX8_above ∈ BIG := mB (List.mem_of_getElem? (i := 777) (by decide +kernel)) (by decide +kernel)
theorem mS_X8_above : Cond.selects RX8 yX8_above yX8_above ∈ BIG := mB (List.mem_of_getElem? (i := 18) (by decide +kernel)) (by decide +kernel)
theorem hd_X8_above : yX8_above.cls ≠ "java/lang/invoke/MethodHandle" ∧ yX8_above.cls ≠ "java/lang/invoke/VarHandle" ∧ (parseMethodDescriptor yX8_above.desc).map (fun d => d.parameters.length) = some 2 := by decide +kernel
abbrev cX8_find : ByteArray := prog_10_method_16_code
def yX8_find : MethodName := ⟨RX8, "find", "(IJ)I"⟩
def wsX8_find : List Cond := .code yX8_find cX8_find 5 (some (.int)) :: BIG
theorem mC_X8_find : Cond.code yX8_find cX8_find 5 (some (.int)) ∈ BIG := mB (List.mem_of_getElem? (i := 799) (by decide +kernel)) (by decide +kernel)
theorem mI_X8_find : Cond.instanceMethod yX8_find ∈ BIG := mB (List.mem_of_getElem? (i := 798) (by decide +kernel)) (by decide +kernel)
theorem mS_X8_find : Cond.selects RX8 yX8_find yX8_find ∈ BIG := mB (List.mem_of_getElem? (i := 23) (by decide +kernel)) (by decide +kernel)
theorem hd_X8_find : yX8_find.cls ≠ "java/lang/invoke/MethodHandle" ∧ yX8_find.cls ≠ "java/lang/invoke/VarHandle" ∧ (parseMethodDescriptor yX8_find.desc).map (fun d => d.parameters.length) = some 2 := by decide +kernel
abbrev cX8_dropRest : ByteArray := prog_10_method_17_code
def yX8_dropRest : MethodName := ⟨RX8, "dropRest", "(I)V"⟩
def wsX8_dropRest : List Cond := .code yX8_dropRest cX8_dropRest 3 (none) :: BIG
theorem mC_X8_dropRest : Cond.code yX8_dropRest cX8_dropRest 3 (none) ∈ BIG := mB (List.mem_of_getElem? (i := 756) (by decide +kernel)) (by decide +kernel)
theorem mI_X8_dropRest : Cond.instanceMethod yX8_dropRest ∈ BIG := mB (List.mem_of_getElem? (i := 755) (by decide +kernel)) (by decide +kernel)
theorem mS_X8_dropRest : Cond.selects RX8 yX8_dropRest yX8_dropRest ∈ BIG := mB (List.mem_of_getElem? (i := 13) (by decide +kernel)) (by decide +kernel)
theorem hd_X8_dropRest : yX8_dropRest.cls ≠ "java/lang/invoke/MethodHandle" ∧ yX8_dropRest.cls ≠ "java/lang/invoke/VarHandle" ∧ (parseMethodDescriptor yX8_dropRest.desc).map (fun d => d.parameters.length) = some 1 := by decide +kernel
abbrev cX8_takeSlashes : ByteArray := prog_10_method_18_code
def yX8_takeSlashes : MethodName := ⟨RX8, "takeSlashes", "()V"⟩
def wsX8_takeSlashes : List Cond := .code yX8_takeSlashes cX8_takeSlashes 2 (none) :: BIG
theorem mC_X8_takeSlashes : Cond.code yX8_takeSlashes cX8_takeSlashes 2 (none) ∈ BIG := mB (List.mem_of_getElem? (i := 752) (by decide +kernel)) (by decide +kernel)
theorem mI_X8_takeSlashes : Cond.instanceMethod yX8_takeSlashes ∈ BIG := mB (List.mem_of_getElem? (i := 751) (by decide +kernel)) (by decide +kernel)
theorem mS_X8_takeSlashes : Cond.selects RX8 yX8_takeSlashes yX8_takeSlashes ∈ BIG := mB (List.mem_of_getElem? (i := 12) (by decide +kernel)) (by decide +kernel)
theorem hd_X8_takeSlashes : yX8_takeSlashes.cls ≠ "java/lang/invoke/MethodHandle" ∧ yX8_takeSlashes.cls ≠ "java/lang/invoke/VarHandle" ∧ (parseMethodDescriptor yX8_takeSlashes.desc).map (fun d => d.parameters.length) = some 0 := by decide +kernel
abbrev cX8_takeName : ByteArray := prog_10_method_19_code
def yX8_takeName : MethodName := ⟨RX8, "takeName", "()V"⟩
def wsX8_takeName : List Cond := .code yX8_takeName cX8_takeName 3 (none) :: BIG
theorem mC_X8_takeName : Cond.code yX8_takeName cX8_takeName 3 (none) ∈ BIG := mB (List.mem_of_getElem? (i := 760) (by decide +kernel)) (by decide +kernel)
theorem mI_X8_takeName : Cond.instanceMethod yX8_takeName ∈ BIG := mB (List.mem_of_getElem? (i := 759) (by decide +kernel)) (by decide +kernel)
theorem mS_X8_takeName : Cond.selects RX8 yX8_takeName yX8_takeName ∈ BIG := mB (List.mem_of_getElem? (i := 14) (by decide +kernel)) (by decide +kernel)
theorem hd_X8_takeName : yX8_takeName.cls ≠ "java/lang/invoke/MethodHandle" ∧ yX8_takeName.cls ≠ "java/lang/invoke/VarHandle" ∧ (parseMethodDescriptor yX8_takeName.desc).map (fun d => d.parameters.length) = some 0 := by decide +kernel
abbrev cX8_putBefore : ByteArray := prog_10_method_20_code
def yX8_putBefore : MethodName := ⟨RX8, "putBefore", "(I)V"⟩
def wsX8_putBefore : List Cond := .code yX8_putBefore cX8_putBefore 4 (none) :: BIG
theorem mC_X8_putBefore : Cond.code yX8_putBefore cX8_putBefore 4 (none) ∈ BIG := mB (List.mem_of_getElem? (i := 803) (by decide +kernel)) (by decide +kernel)
theorem mI_X8_putBefore : Cond.instanceMethod yX8_putBefore ∈ BIG := mB (List.mem_of_getElem? (i := 802) (by decide +kernel)) (by decide +kernel)
theorem mS_X8_putBefore : Cond.selects RX8 yX8_putBefore yX8_putBefore ∈ BIG := mB (List.mem_of_getElem? (i := 24) (by decide +kernel)) (by decide +kernel)
theorem hd_X8_putBefore : yX8_putBefore.cls ≠ "java/lang/invoke/MethodHandle" ∧ yX8_putBefore.cls ≠ "java/lang/invoke/VarHandle" ∧ (parseMethodDescriptor yX8_putBefore.desc).map (fun d => d.parameters.length) = some 1 := by decide +kernel
abbrev cX8_begin : ByteArray := prog_10_method_21_code
def yX8_begin : MethodName := ⟨RX8, "begin", "(Z)V"⟩
def wsX8_begin : List Cond := .code yX8_begin cX8_begin 3 (none) :: BIG
theorem mC_X8_begin : Cond.code yX8_begin cX8_begin 3 (none) ∈ BIG := mB (List.mem_of_getElem? (i := 748) (by decide +kernel)) (by decide +kernel)
theorem mI_X8_begin : Cond.instanceMethod yX8_begin ∈ BIG := mB (List.mem_of_getElem? (i := 747) (by decide +kernel)) (by decide +kernel)
theorem mS_X8_begin : Cond.selects RX8 yX8_begin yX8_begin ∈ BIG := mB (List.mem_of_getElem? (i := 11) (by decide +kernel)) (by decide +kernel)
theorem hd_X8_begin : yX8_begin.cls ≠ "java/lang/invoke/MethodHandle" ∧ yX8_begin.cls ≠ "java/lang/invoke/VarHandle" ∧ (parseMethodDescriptor yX8_begin.desc).map (fun d => d.parameters.length) = some 1 := by decide +kernel
abbrev cX8_against : ByteArray := prog_10_method_22_code
def yX8_against : MethodName := ⟨RX8, "against", "()I"⟩
def wsX8_against : List Cond := .code yX8_against cX8_against 1 (some (.int)) :: BIG
theorem mC_X8_against : Cond.code yX8_against cX8_against 1 (some (.int)) ∈ BIG := mB (List.mem_of_getElem? (i := 765) (by decide +kernel)) (by decide +kernel)
theorem mI_X8_against : Cond.instanceMethod yX8_against ∈ BIG := mB (List.mem_of_getElem? (i := 764) (by decide +kernel)) (by decide +kernel)
theorem mS_X8_against : Cond.selects RX8 yX8_against yX8_against ∈ BIG := mB (List.mem_of_getElem? (i := 15) (by decide +kernel)) (by decide +kernel)
theorem hd_X8_against : yX8_against.cls ≠ "java/lang/invoke/MethodHandle" ∧ yX8_against.cls ≠ "java/lang/invoke/VarHandle" ∧ (parseMethodDescriptor yX8_against.desc).map (fun d => d.parameters.length) = some 0 := by decide +kernel
abbrev cX8_step : ByteArray := prog_10_method_23_code
def yX8_step : MethodName := ⟨RX8, "step", "(Z)I"⟩
def wsX8_step : List Cond := .code yX8_step cX8_step 4 (some (.int)) :: BIG
theorem mC_X8_step : Cond.code yX8_step cX8_step 4 (some (.int)) ∈ BIG := mB (List.mem_of_getElem? (i := 773) (by decide +kernel)) (by decide +kernel)
theorem mI_X8_step : Cond.instanceMethod yX8_step ∈ BIG := mB (List.mem_of_getElem? (i := 772) (by decide +kernel)) (by decide +kernel)
theorem mS_X8_step : Cond.selects RX8 yX8_step yX8_step ∈ BIG := mB (List.mem_of_getElem? (i := 17) (by decide +kernel)) (by decide +kernel)
theorem hd_X8_step : yX8_step.cls ≠ "java/lang/invoke/MethodHandle" ∧ yX8_step.cls ≠ "java/lang/invoke/VarHandle" ∧ (parseMethodDescriptor yX8_step.desc).map (fun d => d.parameters.length) = some 1 := by decide +kernel
abbrev cX8_walk : ByteArray := prog_10_method_24_code
def yX8_walk : MethodName := ⟨RX8, "walk", "(ZZ)I"⟩
def wsX8_walk : List Cond := .code yX8_walk cX8_walk 4 (some (.int)) :: BIG
theorem mC_X8_walk : Cond.code yX8_walk cX8_walk 4 (some (.int)) ∈ BIG := mB (List.mem_of_getElem? (i := 744) (by decide +kernel)) (by decide +kernel)
theorem mI_X8_walk : Cond.instanceMethod yX8_walk ∈ BIG := mB (List.mem_of_getElem? (i := 743) (by decide +kernel)) (by decide +kernel)
theorem mS_X8_walk : Cond.selects RX8 yX8_walk yX8_walk ∈ BIG := mB (List.mem_of_getElem? (i := 10) (by decide +kernel)) (by decide +kernel)
theorem hd_X8_walk : yX8_walk.cls ≠ "java/lang/invoke/MethodHandle" ∧ yX8_walk.cls ≠ "java/lang/invoke/VarHandle" ∧ (parseMethodDescriptor yX8_walk.desc).map (fun d => d.parameters.length) = some 2 := by decide +kernel
abbrev cX8_come : ByteArray := prog_10_method_25_code
def yX8_come : MethodName := ⟨RX8, "come", "()I"⟩
def wsX8_come : List Cond := .code yX8_come cX8_come 3 (some (.int)) :: BIG
theorem mC_X8_come : Cond.code yX8_come cX8_come 3 (some (.int)) ∈ BIG := mB (List.mem_of_getElem? (i := 819) (by decide +kernel)) (by decide +kernel)
theorem mI_X8_come : Cond.instanceMethod yX8_come ∈ BIG := mB (List.mem_of_getElem? (i := 818) (by decide +kernel)) (by decide +kernel)
theorem mS_X8_come : Cond.selects RX8 yX8_come yX8_come ∈ BIG := mB (List.mem_of_getElem? (i := 27) (by decide +kernel)) (by decide +kernel)
theorem hd_X8_come : yX8_come.cls ≠ "java/lang/invoke/MethodHandle" ∧ yX8_come.cls ≠ "java/lang/invoke/VarHandle" ∧ (parseMethodDescriptor yX8_come.desc).map (fun d => d.parameters.length) = some 0 := by decide +kernel
abbrev cX8_dots : ByteArray := prog_10_method_26_code
def yX8_dots : MethodName := ⟨RX8, "dots", "()Z"⟩
def wsX8_dots : List Cond := .code yX8_dots cX8_dots 1 (some (.boolean)) :: BIG
theorem mC_X8_dots : Cond.code yX8_dots cX8_dots 1 (some (.boolean)) ∈ BIG := mB (List.mem_of_getElem? (i := 823) (by decide +kernel)) (by decide +kernel)
theorem mI_X8_dots : Cond.instanceMethod yX8_dots ∈ BIG := mB (List.mem_of_getElem? (i := 822) (by decide +kernel)) (by decide +kernel)
theorem mS_X8_dots : Cond.selects RX8 yX8_dots yX8_dots ∈ BIG := mB (List.mem_of_getElem? (i := 28) (by decide +kernel)) (by decide +kernel)
theorem hd_X8_dots : yX8_dots.cls ≠ "java/lang/invoke/MethodHandle" ∧ yX8_dots.cls ≠ "java/lang/invoke/VarHandle" ∧ (parseMethodDescriptor yX8_dots.desc).map (fun d => d.parameters.length) = some 0 := by decide +kernel
abbrev cX8_resolve : ByteArray := prog_10_method_27_code
def yX8_resolve : MethodName := ⟨RX8, "resolve", "(Z)I"⟩
def wsX8_resolve : List Cond := .code yX8_resolve cX8_resolve 2 (some (.int)) :: BIG
theorem mC_X8_resolve : Cond.code yX8_resolve cX8_resolve 2 (some (.int)) ∈ BIG := mB (List.mem_of_getElem? (i := 740) (by decide +kernel)) (by decide +kernel)
theorem mI_X8_resolve : Cond.instanceMethod yX8_resolve ∈ BIG := mB (List.mem_of_getElem? (i := 738) (by decide +kernel)) (by decide +kernel)
theorem mS_X8_resolve : Cond.selects RX8 yX8_resolve yX8_resolve ∈ BIG := mB (List.mem_of_getElem? (i := 739) (by decide +kernel)) (by decide +kernel)
theorem hd_X8_resolve : yX8_resolve.cls ≠ "java/lang/invoke/MethodHandle" ∧ yX8_resolve.cls ≠ "java/lang/invoke/VarHandle" ∧ (parseMethodDescriptor yX8_resolve.desc).map (fun d => d.parameters.length) = some 1 := by decide +kernel
abbrev cX8_addEntry : ByteArray := prog_10_method_28_code
def yX8_addEntry : MethodName := ⟨RX8, "addEntry", "(I)I"⟩
def wsX8_addEntry : List Cond := .code yX8_addEntry cX8_addEntry 2 (some (.int)) :: BIG
theorem mC_X8_addEntry : Cond.code yX8_addEntry cX8_addEntry 2 (some (.int)) ∈ BIG := mB (List.mem_of_getElem? (i := 831) (by decide +kernel)) (by decide +kernel)
theorem mI_X8_addEntry : Cond.instanceMethod yX8_addEntry ∈ BIG := mB (List.mem_of_getElem? (i := 830) (by decide +kernel)) (by decide +kernel)
theorem mS_X8_addEntry : Cond.selects RX8 yX8_addEntry yX8_addEntry ∈ BIG := mB (List.mem_of_getElem? (i := 30) (by decide +kernel)) (by decide +kernel)
theorem hd_X8_addEntry : yX8_addEntry.cls ≠ "java/lang/invoke/MethodHandle" ∧ yX8_addEntry.cls ≠ "java/lang/invoke/VarHandle" ∧ (parseMethodDescriptor yX8_addEntry.desc).map (fun d => d.parameters.length) = some 1 := by decide +kernel
abbrev cX8_newName : ByteArray := prog_10_method_29_code
def yX8_newName : MethodName := ⟨RX8, "newName", "(Z)I"⟩
def wsX8_newName : List Cond := .code yX8_newName cX8_newName 3 (some (.int)) :: BIG
theorem mC_X8_newName : Cond.code yX8_newName cX8_newName 3 (some (.int)) ∈ BIG := mB (List.mem_of_getElem? (i := 811) (by decide +kernel)) (by decide +kernel)
theorem mI_X8_newName : Cond.instanceMethod yX8_newName ∈ BIG := mB (List.mem_of_getElem? (i := 810) (by decide +kernel)) (by decide +kernel)
theorem mS_X8_newName : Cond.selects RX8 yX8_newName yX8_newName ∈ BIG := mB (List.mem_of_getElem? (i := 25) (by decide +kernel)) (by decide +kernel)
theorem hd_X8_newName : yX8_newName.cls ≠ "java/lang/invoke/MethodHandle" ∧ yX8_newName.cls ≠ "java/lang/invoke/VarHandle" ∧ (parseMethodDescriptor yX8_newName.desc).map (fun d => d.parameters.length) = some 1 := by decide +kernel
abbrev cX8_make : ByteArray := prog_10_method_30_code
def yX8_make : MethodName := ⟨RX8, "make", "(II)I"⟩
def wsX8_make : List Cond := .code yX8_make cX8_make 6 (some (.int)) :: BIG
theorem mC_X8_make : Cond.code yX8_make cX8_make 6 (some (.int)) ∈ BIG := mB (List.mem_of_getElem? (i := 807) (by decide +kernel)) (by decide +kernel)
theorem mI_X8_make : Cond.instanceMethod yX8_make ∈ BIG := mB (List.mem_of_getElem? (i := 805) (by decide +kernel)) (by decide +kernel)
theorem mS_X8_make : Cond.selects RX8 yX8_make yX8_make ∈ BIG := mB (List.mem_of_getElem? (i := 806) (by decide +kernel)) (by decide +kernel)
theorem hd_X8_make : yX8_make.cls ≠ "java/lang/invoke/MethodHandle" ∧ yX8_make.cls ≠ "java/lang/invoke/VarHandle" ∧ (parseMethodDescriptor yX8_make.desc).map (fun d => d.parameters.length) = some 2 := by decide +kernel
abbrev cX8_link : ByteArray := prog_10_method_31_code
def yX8_link : MethodName := ⟨RX8, "link", "()I"⟩
def wsX8_link : List Cond := .code yX8_link cX8_link 3 (some (.int)) :: BIG
theorem mC_X8_link : Cond.code yX8_link cX8_link 3 (some (.int)) ∈ BIG := mB (List.mem_of_getElem? (i := 835) (by decide +kernel)) (by decide +kernel)
theorem mI_X8_link : Cond.instanceMethod yX8_link ∈ BIG := mB (List.mem_of_getElem? (i := 833) (by decide +kernel)) (by decide +kernel)
theorem mS_X8_link : Cond.selects RX8 yX8_link yX8_link ∈ BIG := mB (List.mem_of_getElem? (i := 834) (by decide +kernel)) (by decide +kernel)
theorem hd_X8_link : yX8_link.cls ≠ "java/lang/invoke/MethodHandle" ∧ yX8_link.cls ≠ "java/lang/invoke/VarHandle" ∧ (parseMethodDescriptor yX8_link.desc).map (fun d => d.parameters.length) = some 0 := by decide +kernel
abbrev cX8_entriesFor : ByteArray := prog_10_method_32_code
def yX8_entriesFor : MethodName := ⟨RX8, "entriesFor", "(I)I"⟩
def wsX8_entriesFor : List Cond := .code yX8_entriesFor cX8_entriesFor 4 (some (.int)) :: BIG
theorem mC_X8_entriesFor : Cond.code yX8_entriesFor cX8_entriesFor 4 (some (.int)) ∈ BIG := mB (List.mem_of_getElem? (i := 847) (by decide +kernel)) (by decide +kernel)
theorem mI_X8_entriesFor : Cond.instanceMethod yX8_entriesFor ∈ BIG := mB (List.mem_of_getElem? (i := 846) (by decide +kernel)) (by decide +kernel)
theorem mS_X8_entriesFor : Cond.selects RX8 yX8_entriesFor yX8_entriesFor ∈ BIG := mB (List.mem_of_getElem? (i := 32) (by decide +kernel)) (by decide +kernel)
theorem hd_X8_entriesFor : yX8_entriesFor.cls ≠ "java/lang/invoke/MethodHandle" ∧ yX8_entriesFor.cls ≠ "java/lang/invoke/VarHandle" ∧ (parseMethodDescriptor yX8_entriesFor.desc).map (fun d => d.parameters.length) = some 1 := by decide +kernel
abbrev cX8_entriesOf : ByteArray := prog_10_method_33_code
def yX8_entriesOf : MethodName := ⟨RX8, "entriesOf", "(I)I"⟩
def wsX8_entriesOf : List Cond := .code yX8_entriesOf cX8_entriesOf 4 (some (.int)) :: BIG
theorem mC_X8_entriesOf : Cond.code yX8_entriesOf cX8_entriesOf 4 (some (.int)) ∈ BIG := mB (List.mem_of_getElem? (i := 843) (by decide +kernel)) (by decide +kernel)
theorem mI_X8_entriesOf : Cond.instanceMethod yX8_entriesOf ∈ BIG := mB (List.mem_of_getElem? (i := 842) (by decide +kernel)) (by decide +kernel)
theorem mS_X8_entriesOf : Cond.selects RX8 yX8_entriesOf yX8_entriesOf ∈ BIG := mB (List.mem_of_getElem? (i := 31) (by decide +kernel)) (by decide +kernel)
theorem hd_X8_entriesOf : yX8_entriesOf.cls ≠ "java/lang/invoke/MethodHandle" ∧ yX8_entriesOf.cls ≠ "java/lang/invoke/VarHandle" ∧ (parseMethodDescriptor yX8_entriesOf.desc).map (fun d => d.parameters.length) = some 1 := by decide +kernel
abbrev cX8_remove : ByteArray := prog_10_method_34_code
def yX8_remove : MethodName := ⟨RX8, "remove", "()I"⟩
def wsX8_remove : List Cond := .code yX8_remove cX8_remove 5 (some (.int)) :: BIG
theorem mC_X8_remove : Cond.code yX8_remove cX8_remove 5 (some (.int)) ∈ BIG := mB (List.mem_of_getElem? (i := 839) (by decide +kernel)) (by decide +kernel)
theorem mI_X8_remove : Cond.instanceMethod yX8_remove ∈ BIG := mB (List.mem_of_getElem? (i := 837) (by decide +kernel)) (by decide +kernel)
theorem mS_X8_remove : Cond.selects RX8 yX8_remove yX8_remove ∈ BIG := mB (List.mem_of_getElem? (i := 838) (by decide +kernel)) (by decide +kernel)
theorem hd_X8_remove : yX8_remove.cls ≠ "java/lang/invoke/MethodHandle" ∧ yX8_remove.cls ≠ "java/lang/invoke/VarHandle" ∧ (parseMethodDescriptor yX8_remove.desc).map (fun d => d.parameters.length) = some 0 := by decide +kernel
abbrev cX8_volume : ByteArray := prog_10_method_35_code
def yX8_volume : MethodName := ⟨RX8, "volume", "()I"⟩
def wsX8_volume : List Cond := .code yX8_volume cX8_volume 2 (some (.int)) :: BIG
theorem mC_X8_volume : Cond.code yX8_volume cX8_volume 2 (some (.int)) ∈ BIG := mB (List.mem_of_getElem? (i := 851) (by decide +kernel)) (by decide +kernel)
theorem mI_X8_volume : Cond.instanceMethod yX8_volume ∈ BIG := mB (List.mem_of_getElem? (i := 849) (by decide +kernel)) (by decide +kernel)
theorem mS_X8_volume : Cond.selects RX8 yX8_volume yX8_volume ∈ BIG := mB (List.mem_of_getElem? (i := 850) (by decide +kernel)) (by decide +kernel)
theorem hd_X8_volume : yX8_volume.cls ≠ "java/lang/invoke/MethodHandle" ∧ yX8_volume.cls ≠ "java/lang/invoke/VarHandle" ∧ (parseMethodDescriptor yX8_volume.desc).map (fun d => d.parameters.length) = some 0 := by decide +kernel
abbrev cX8_below : ByteArray := prog_10_method_36_code
def yX8_below : MethodName := ⟨RX8, "below", "(II)Z"⟩
def wsX8_below : List Cond := .code yX8_below cX8_below 5 (some (.boolean)) :: BIG
theorem mC_X8_below : Cond.code yX8_below cX8_below 5 (some (.boolean)) ∈ BIG := mB (List.mem_of_getElem? (i := 859) (by decide +kernel)) (by decide +kernel)
theorem mI_X8_below : Cond.instanceMethod yX8_below ∈ BIG := mB (List.mem_of_getElem? (i := 858) (by decide +kernel)) (by decide +kernel)
theorem mS_X8_below : Cond.selects RX8 yX8_below yX8_below ∈ BIG := mB (List.mem_of_getElem? (i := 33) (by decide +kernel)) (by decide +kernel)
theorem hd_X8_below : yX8_below.cls ≠ "java/lang/invoke/MethodHandle" ∧ yX8_below.cls ≠ "java/lang/invoke/VarHandle" ∧ (parseMethodDescriptor yX8_below.desc).map (fun d => d.parameters.length) = some 2 := by decide +kernel
abbrev cX8_mount : ByteArray := prog_10_method_37_code
def yX8_mount : MethodName := ⟨RX8, "mount", "(I)I"⟩
def wsX8_mount : List Cond := .code yX8_mount cX8_mount 3 (some (.int)) :: BIG
theorem mC_X8_mount : Cond.code yX8_mount cX8_mount 3 (some (.int)) ∈ BIG := mB (List.mem_of_getElem? (i := 855) (by decide +kernel)) (by decide +kernel)
theorem mI_X8_mount : Cond.instanceMethod yX8_mount ∈ BIG := mB (List.mem_of_getElem? (i := 853) (by decide +kernel)) (by decide +kernel)
theorem mS_X8_mount : Cond.selects RX8 yX8_mount yX8_mount ∈ BIG := mB (List.mem_of_getElem? (i := 854) (by decide +kernel)) (by decide +kernel)
theorem hd_X8_mount : yX8_mount.cls ≠ "java/lang/invoke/MethodHandle" ∧ yX8_mount.cls ≠ "java/lang/invoke/VarHandle" ∧ (parseMethodDescriptor yX8_mount.desc).map (fun d => d.parameters.length) = some 1 := by decide +kernel
abbrev cX8_unmount : ByteArray := prog_10_method_38_code
def yX8_unmount : MethodName := ⟨RX8, "unmount", "()I"⟩
def wsX8_unmount : List Cond := .code yX8_unmount cX8_unmount 5 (some (.int)) :: BIG
theorem mC_X8_unmount : Cond.code yX8_unmount cX8_unmount 5 (some (.int)) ∈ BIG := mB (List.mem_of_getElem? (i := 863) (by decide +kernel)) (by decide +kernel)
theorem mI_X8_unmount : Cond.instanceMethod yX8_unmount ∈ BIG := mB (List.mem_of_getElem? (i := 861) (by decide +kernel)) (by decide +kernel)
theorem mS_X8_unmount : Cond.selects RX8 yX8_unmount yX8_unmount ∈ BIG := mB (List.mem_of_getElem? (i := 862) (by decide +kernel)) (by decide +kernel)
theorem hd_X8_unmount : yX8_unmount.cls ≠ "java/lang/invoke/MethodHandle" ∧ yX8_unmount.cls ≠ "java/lang/invoke/VarHandle" ∧ (parseMethodDescriptor yX8_unmount.desc).map (fun d => d.parameters.length) = some 0 := by decide +kernel
abbrev cX8_enter : ByteArray := prog_10_method_39_code
def yX8_enter : MethodName := ⟨RX8, "enter", "(Z)I"⟩
def wsX8_enter : List Cond := .code yX8_enter cX8_enter 3 (some (.int)) :: BIG
theorem mC_X8_enter : Cond.code yX8_enter cX8_enter 3 (some (.int)) ∈ BIG := mB (List.mem_of_getElem? (i := 867) (by decide +kernel)) (by decide +kernel)
theorem mI_X8_enter : Cond.instanceMethod yX8_enter ∈ BIG := mB (List.mem_of_getElem? (i := 865) (by decide +kernel)) (by decide +kernel)
theorem mS_X8_enter : Cond.selects RX8 yX8_enter yX8_enter ∈ BIG := mB (List.mem_of_getElem? (i := 866) (by decide +kernel)) (by decide +kernel)
theorem hd_X8_enter : yX8_enter.cls ≠ "java/lang/invoke/MethodHandle" ∧ yX8_enter.cls ≠ "java/lang/invoke/VarHandle" ∧ (parseMethodDescriptor yX8_enter.desc).map (fun d => d.parameters.length) = some 1 := by decide +kernel
abbrev cX8_user : ByteArray := prog_10_method_40_code
def yX8_user : MethodName := ⟨RX8, "user", "(I)Z"⟩
def wsX8_user : List Cond := .code yX8_user cX8_user 2 (some (.boolean)) :: BIG
theorem mC_X8_user : Cond.code yX8_user cX8_user 2 (some (.boolean)) ∈ BIG := mB (List.mem_of_getElem? (i := 871) (by decide +kernel)) (by decide +kernel)
theorem mI_X8_user : Cond.instanceMethod yX8_user ∈ BIG := mB (List.mem_of_getElem? (i := 869) (by decide +kernel)) (by decide +kernel)
theorem mS_X8_user : Cond.selects RX8 yX8_user yX8_user ∈ BIG := mB (List.mem_of_getElem? (i := 870) (by decide +kernel)) (by decide +kernel)
theorem hd_X8_user : yX8_user.cls ≠ "java/lang/invoke/MethodHandle" ∧ yX8_user.cls ≠ "java/lang/invoke/VarHandle" ∧ (parseMethodDescriptor yX8_user.desc).map (fun d => d.parameters.length) = some 1 := by decide +kernel
abbrev cX8_change : ByteArray := prog_10_method_41_code
def yX8_change : MethodName := ⟨RX8, "change", "(I)I"⟩
def wsX8_change : List Cond := .code yX8_change cX8_change 4 (some (.int)) :: BIG
theorem mC_X8_change : Cond.code yX8_change cX8_change 4 (some (.int)) ∈ BIG := mB (List.mem_of_getElem? (i := 875) (by decide +kernel)) (by decide +kernel)
theorem mI_X8_change : Cond.instanceMethod yX8_change ∈ BIG := mB (List.mem_of_getElem? (i := 873) (by decide +kernel)) (by decide +kernel)
theorem mS_X8_change : Cond.selects RX8 yX8_change yX8_change ∈ BIG := mB (List.mem_of_getElem? (i := 874) (by decide +kernel)) (by decide +kernel)
theorem hd_X8_change : yX8_change.cls ≠ "java/lang/invoke/MethodHandle" ∧ yX8_change.cls ≠ "java/lang/invoke/VarHandle" ∧ (parseMethodDescriptor yX8_change.desc).map (fun d => d.parameters.length) = some 1 := by decide +kernel
abbrev cX8_characters : ByteArray := prog_10_method_42_code
def yX8_characters : MethodName := ⟨RX8, "characters", "(J)I"⟩
def wsX8_characters : List Cond := .code yX8_characters cX8_characters 5 (some (.int)) :: BIG
theorem mC_X8_characters : Cond.code yX8_characters cX8_characters 5 (some (.int)) ∈ BIG := mB (List.mem_of_getElem? (i := 886) (by decide +kernel)) (by decide +kernel)
theorem mT_X8_characters : Cond.static yX8_characters ∈ BIG := mB (List.mem_of_getElem? (i := 885) (by decide +kernel)) (by decide +kernel)
theorem hd_X8_characters : yX8_characters.cls ≠ "java/lang/invoke/MethodHandle" ∧ yX8_characters.cls ≠ "java/lang/invoke/VarHandle" ∧ (parseMethodDescriptor yX8_characters.desc).map (fun d => d.parameters.length) = some 1 := by decide +kernel
abbrev cX8_nameOf : ByteArray := prog_10_method_43_code
def yX8_nameOf : MethodName := ⟨RX8, "nameOf", "(I)J"⟩
def wsX8_nameOf : List Cond := .code yX8_nameOf cX8_nameOf 3 (some (.long)) :: BIG
theorem mC_X8_nameOf : Cond.code yX8_nameOf cX8_nameOf 3 (some (.long)) ∈ BIG := mB (List.mem_of_getElem? (i := 883) (by decide +kernel)) (by decide +kernel)
theorem mI_X8_nameOf : Cond.instanceMethod yX8_nameOf ∈ BIG := mB (List.mem_of_getElem? (i := 882) (by decide +kernel)) (by decide +kernel)
theorem mS_X8_nameOf : Cond.selects RX8 yX8_nameOf yX8_nameOf ∈ BIG := mB (List.mem_of_getElem? (i := 34) (by decide +kernel)) (by decide +kernel)
theorem hd_X8_nameOf : yX8_nameOf.cls ≠ "java/lang/invoke/MethodHandle" ∧ yX8_nameOf.cls ≠ "java/lang/invoke/VarHandle" ∧ (parseMethodDescriptor yX8_nameOf.desc).map (fun d => d.parameters.length) = some 1 := by decide +kernel
abbrev cX8_path : ByteArray := prog_10_method_44_code
def yX8_path : MethodName := ⟨RX8, "path", "()I"⟩
def wsX8_path : List Cond := .code yX8_path cX8_path 6 (some (.int)) :: BIG
theorem mC_X8_path : Cond.code yX8_path cX8_path 6 (some (.int)) ∈ BIG := mB (List.mem_of_getElem? (i := 879) (by decide +kernel)) (by decide +kernel)
theorem mI_X8_path : Cond.instanceMethod yX8_path ∈ BIG := mB (List.mem_of_getElem? (i := 877) (by decide +kernel)) (by decide +kernel)
theorem mS_X8_path : Cond.selects RX8 yX8_path yX8_path ∈ BIG := mB (List.mem_of_getElem? (i := 878) (by decide +kernel)) (by decide +kernel)
theorem hd_X8_path : yX8_path.cls ≠ "java/lang/invoke/MethodHandle" ∧ yX8_path.cls ≠ "java/lang/invoke/VarHandle" ∧ (parseMethodDescriptor yX8_path.desc).map (fun d => d.parameters.length) = some 0 := by decide +kernel
abbrev cX8_kind : ByteArray := prog_10_method_45_code
def yX8_kind : MethodName := ⟨RX8, "kind", "(I)I"⟩
def wsX8_kind : List Cond := .code yX8_kind cX8_kind 2 (some (.int)) :: BIG
theorem mC_X8_kind : Cond.code yX8_kind cX8_kind 2 (some (.int)) ∈ BIG := mB (List.mem_of_getElem? (i := 891) (by decide +kernel)) (by decide +kernel)
theorem mI_X8_kind : Cond.instanceMethod yX8_kind ∈ BIG := mB (List.mem_of_getElem? (i := 889) (by decide +kernel)) (by decide +kernel)
theorem mS_X8_kind : Cond.selects RX8 yX8_kind yX8_kind ∈ BIG := mB (List.mem_of_getElem? (i := 890) (by decide +kernel)) (by decide +kernel)
theorem hd_X8_kind : yX8_kind.cls ≠ "java/lang/invoke/MethodHandle" ∧ yX8_kind.cls ≠ "java/lang/invoke/VarHandle" ∧ (parseMethodDescriptor yX8_kind.desc).map (fun d => d.parameters.length) = some 1 := by decide +kernel
abbrev cX8_about : ByteArray := prog_10_method_46_code
def yX8_about : MethodName := ⟨RX8, "about", "(II)I"⟩
def wsX8_about : List Cond := .code yX8_about cX8_about 3 (some (.int)) :: BIG
theorem mC_X8_about : Cond.code yX8_about cX8_about 3 (some (.int)) ∈ BIG := mB (List.mem_of_getElem? (i := 899) (by decide +kernel)) (by decide +kernel)
theorem mI_X8_about : Cond.instanceMethod yX8_about ∈ BIG := mB (List.mem_of_getElem? (i := 897) (by decide +kernel)) (by decide +kernel)
theorem mS_X8_about : Cond.selects RX8 yX8_about yX8_about ∈ BIG := mB (List.mem_of_getElem? (i := 898) (by decide +kernel)) (by decide +kernel)
theorem hd_X8_about : yX8_about.cls ≠ "java/lang/invoke/MethodHandle" ∧ yX8_about.cls ≠ "java/lang/invoke/VarHandle" ∧ (parseMethodDescriptor yX8_about.desc).map (fun d => d.parameters.length) = some 2 := by decide +kernel
abbrev cX8_entry : ByteArray := prog_10_method_47_code
def yX8_entry : MethodName := ⟨RX8, "entry", "(II)I"⟩
def wsX8_entry : List Cond := .code yX8_entry cX8_entry 5 (some (.int)) :: BIG
theorem mC_X8_entry : Cond.code yX8_entry cX8_entry 5 (some (.int)) ∈ BIG := mB (List.mem_of_getElem? (i := 903) (by decide +kernel)) (by decide +kernel)
theorem mI_X8_entry : Cond.instanceMethod yX8_entry ∈ BIG := mB (List.mem_of_getElem? (i := 901) (by decide +kernel)) (by decide +kernel)
theorem mS_X8_entry : Cond.selects RX8 yX8_entry yX8_entry ∈ BIG := mB (List.mem_of_getElem? (i := 902) (by decide +kernel)) (by decide +kernel)
theorem hd_X8_entry : yX8_entry.cls ≠ "java/lang/invoke/MethodHandle" ∧ yX8_entry.cls ≠ "java/lang/invoke/VarHandle" ∧ (parseMethodDescriptor yX8_entry.desc).map (fun d => d.parameters.length) = some 2 := by decide +kernel
abbrev cX0_init : ByteArray := prog_2_method_1_code
def yX0_init : MethodName := ⟨RX0, "<init>", "()V"⟩
def wsX0_init : List Cond := .code yX0_init cX0_init 1 (none) :: BIG
theorem mC_X0_init : Cond.code yX0_init cX0_init 1 (none) ∈ BIG := mB (List.mem_of_getElem? (i := 115) (by decide +kernel)) (by decide +kernel)
theorem mI_X0_init : Cond.instanceMethod yX0_init ∈ BIG := mB (List.mem_of_getElem? (i := 114) (by decide +kernel)) (by decide +kernel)
theorem hd_X0_init : yX0_init.cls ≠ "java/lang/invoke/MethodHandle" ∧ yX0_init.cls ≠ "java/lang/invoke/VarHandle" ∧ (parseMethodDescriptor yX0_init.desc).map (fun d => d.parameters.length) = some 0 := by decide +kernel
abbrev cX0_isFull : ByteArray := prog_2_method_2_code
def yX0_isFull : MethodName := ⟨RX0, "isFull", "()Z"⟩
def wsX0_isFull : List Cond := .code yX0_isFull cX0_isFull 1 (some (.boolean)) :: BIG
theorem mC_X0_isFull : Cond.code yX0_isFull cX0_isFull 1 (some (.boolean)) ∈ BIG := mB (List.mem_of_getElem? (i := 472) (by decide +kernel)) (by decide +kernel)
theorem mI_X0_isFull : Cond.instanceMethod yX0_isFull ∈ BIG := mB (List.mem_of_getElem? (i := 470) (by decide +kernel)) (by decide +kernel)
theorem mS_X0_isFull : Cond.selects RX0 yX0_isFull yX0_isFull ∈ BIG := mB (List.mem_of_getElem? (i := 471) (by decide +kernel)) (by decide +kernel)
theorem hd_X0_isFull : yX0_isFull.cls ≠ "java/lang/invoke/MethodHandle" ∧ yX0_isFull.cls ≠ "java/lang/invoke/VarHandle" ∧ (parseMethodDescriptor yX0_isFull.desc).map (fun d => d.parameters.length) = some 0 := by decide +kernel
abbrev cX0_add : ByteArray := prog_2_method_3_code
def yX0_add : MethodName := ⟨RX0, "add", "(IJI)V"⟩
def wsX0_add : List Cond := .code yX0_add cX0_add 5 (none) :: BIG
theorem mC_X0_add : Cond.code yX0_add cX0_add 5 (none) ∈ BIG := mB (List.mem_of_getElem? (i := 490) (by decide +kernel)) (by decide +kernel)
theorem mI_X0_add : Cond.instanceMethod yX0_add ∈ BIG := mB (List.mem_of_getElem? (i := 488) (by decide +kernel)) (by decide +kernel)
theorem mS_X0_add : Cond.selects RX0 yX0_add yX0_add ∈ BIG := mB (List.mem_of_getElem? (i := 489) (by decide +kernel)) (by decide +kernel)
theorem hd_X0_add : yX0_add.cls ≠ "java/lang/invoke/MethodHandle" ∧ yX0_add.cls ≠ "java/lang/invoke/VarHandle" ∧ (parseMethodDescriptor yX0_add.desc).map (fun d => d.parameters.length) = some 3 := by decide +kernel
abbrev cX0_drop : ByteArray := prog_2_method_4_code
def yX0_drop : MethodName := ⟨RX0, "drop", "(I)V"⟩
def wsX0_drop : List Cond := .code yX0_drop cX0_drop 3 (none) :: BIG
theorem mC_X0_drop : Cond.code yX0_drop cX0_drop 3 (none) ∈ BIG := mB (List.mem_of_getElem? (i := 513) (by decide +kernel)) (by decide +kernel)
theorem mI_X0_drop : Cond.instanceMethod yX0_drop ∈ BIG := mB (List.mem_of_getElem? (i := 511) (by decide +kernel)) (by decide +kernel)
theorem mS_X0_drop : Cond.selects RX0 yX0_drop yX0_drop ∈ BIG := mB (List.mem_of_getElem? (i := 512) (by decide +kernel)) (by decide +kernel)
theorem hd_X0_drop : yX0_drop.cls ≠ "java/lang/invoke/MethodHandle" ∧ yX0_drop.cls ≠ "java/lang/invoke/VarHandle" ∧ (parseMethodDescriptor yX0_drop.desc).map (fun d => d.parameters.length) = some 1 := by decide +kernel
abbrev cX0_object : ByteArray := prog_2_method_5_code
def yX0_object : MethodName := ⟨RX0, "object", "(I)I"⟩
def wsX0_object : List Cond := .code yX0_object cX0_object 2 (some (.int)) :: BIG
theorem mC_X0_object : Cond.code yX0_object cX0_object 2 (some (.int)) ∈ BIG := mB (List.mem_of_getElem? (i := 409) (by decide +kernel)) (by decide +kernel)
theorem mI_X0_object : Cond.instanceMethod yX0_object ∈ BIG := mB (List.mem_of_getElem? (i := 407) (by decide +kernel)) (by decide +kernel)
theorem mS_X0_object : Cond.selects RX0 yX0_object yX0_object ∈ BIG := mB (List.mem_of_getElem? (i := 408) (by decide +kernel)) (by decide +kernel)
theorem hd_X0_object : yX0_object.cls ≠ "java/lang/invoke/MethodHandle" ∧ yX0_object.cls ≠ "java/lang/invoke/VarHandle" ∧ (parseMethodDescriptor yX0_object.desc).map (fun d => d.parameters.length) = some 1 := by decide +kernel
abbrev cX0_find : ByteArray := prog_2_method_6_code
def yX0_find : MethodName := ⟨RX0, "find", "(IJ)I"⟩
def wsX0_find : List Cond := .code yX0_find cX0_find 5 (some (.int)) :: BIG
theorem mC_X0_find : Cond.code yX0_find cX0_find 5 (some (.int)) ∈ BIG := mB (List.mem_of_getElem? (i := 405) (by decide +kernel)) (by decide +kernel)
theorem mI_X0_find : Cond.instanceMethod yX0_find ∈ BIG := mB (List.mem_of_getElem? (i := 403) (by decide +kernel)) (by decide +kernel)
theorem mS_X0_find : Cond.selects RX0 yX0_find yX0_find ∈ BIG := mB (List.mem_of_getElem? (i := 404) (by decide +kernel)) (by decide +kernel)
theorem hd_X0_find : yX0_find.cls ≠ "java/lang/invoke/MethodHandle" ∧ yX0_find.cls ≠ "java/lang/invoke/VarHandle" ∧ (parseMethodDescriptor yX0_find.desc).map (fun d => d.parameters.length) = some 2 := by decide +kernel
abbrev cX0_findNth : ByteArray := prog_2_method_7_code
def yX0_findNth : MethodName := ⟨RX0, "findNth", "(II)I"⟩
def wsX0_findNth : List Cond := .code yX0_findNth cX0_findNth 5 (some (.int)) :: BIG
theorem mC_X0_findNth : Cond.code yX0_findNth cX0_findNth 5 (some (.int)) ∈ BIG := mB (List.mem_of_getElem? (i := 622) (by decide +kernel)) (by decide +kernel)
theorem mI_X0_findNth : Cond.instanceMethod yX0_findNth ∈ BIG := mB (List.mem_of_getElem? (i := 620) (by decide +kernel)) (by decide +kernel)
theorem mS_X0_findNth : Cond.selects RX0 yX0_findNth yX0_findNth ∈ BIG := mB (List.mem_of_getElem? (i := 621) (by decide +kernel)) (by decide +kernel)
theorem hd_X0_findNth : yX0_findNth.cls ≠ "java/lang/invoke/MethodHandle" ∧ yX0_findNth.cls ≠ "java/lang/invoke/VarHandle" ∧ (parseMethodDescriptor yX0_findNth.desc).map (fun d => d.parameters.length) = some 2 := by decide +kernel
abbrev cX0_nameFor : ByteArray := prog_2_method_8_code
def yX0_nameFor : MethodName := ⟨RX0, "nameFor", "(I)J"⟩
def wsX0_nameFor : List Cond := .code yX0_nameFor cX0_nameFor 3 (some (.long)) :: BIG
theorem mC_X0_nameFor : Cond.code yX0_nameFor cX0_nameFor 3 (some (.long)) ∈ BIG := mB (List.mem_of_getElem? (i := 592) (by decide +kernel)) (by decide +kernel)
theorem mI_X0_nameFor : Cond.instanceMethod yX0_nameFor ∈ BIG := mB (List.mem_of_getElem? (i := 590) (by decide +kernel)) (by decide +kernel)
theorem mS_X0_nameFor : Cond.selects RX0 yX0_nameFor yX0_nameFor ∈ BIG := mB (List.mem_of_getElem? (i := 591) (by decide +kernel)) (by decide +kernel)
theorem hd_X0_nameFor : yX0_nameFor.cls ≠ "java/lang/invoke/MethodHandle" ∧ yX0_nameFor.cls ≠ "java/lang/invoke/VarHandle" ∧ (parseMethodDescriptor yX0_nameFor.desc).map (fun d => d.parameters.length) = some 1 := by decide +kernel
abbrev cX0_countFor : ByteArray := prog_2_method_9_code
def yX0_countFor : MethodName := ⟨RX0, "countFor", "(I)I"⟩
def wsX0_countFor : List Cond := .code yX0_countFor cX0_countFor 4 (some (.int)) :: BIG
theorem mC_X0_countFor : Cond.code yX0_countFor cX0_countFor 4 (some (.int)) ∈ BIG := mB (List.mem_of_getElem? (i := 517) (by decide +kernel)) (by decide +kernel)
theorem mI_X0_countFor : Cond.instanceMethod yX0_countFor ∈ BIG := mB (List.mem_of_getElem? (i := 515) (by decide +kernel)) (by decide +kernel)
theorem mS_X0_countFor : Cond.selects RX0 yX0_countFor yX0_countFor ∈ BIG := mB (List.mem_of_getElem? (i := 516) (by decide +kernel)) (by decide +kernel)
theorem hd_X0_countFor : yX0_countFor.cls ≠ "java/lang/invoke/MethodHandle" ∧ yX0_countFor.cls ≠ "java/lang/invoke/VarHandle" ∧ (parseMethodDescriptor yX0_countFor.desc).map (fun d => d.parameters.length) = some 1 := by decide +kernel
abbrev cX0_countIn : ByteArray := prog_2_method_10_code
def yX0_countIn : MethodName := ⟨RX0, "countIn", "(I)I"⟩
def wsX0_countIn : List Cond := .code yX0_countIn cX0_countIn 4 (some (.int)) :: BIG
theorem mC_X0_countIn : Cond.code yX0_countIn cX0_countIn 4 (some (.int)) ∈ BIG := mB (List.mem_of_getElem? (i := 509) (by decide +kernel)) (by decide +kernel)
theorem mI_X0_countIn : Cond.instanceMethod yX0_countIn ∈ BIG := mB (List.mem_of_getElem? (i := 507) (by decide +kernel)) (by decide +kernel)
theorem mS_X0_countIn : Cond.selects RX0 yX0_countIn yX0_countIn ∈ BIG := mB (List.mem_of_getElem? (i := 508) (by decide +kernel)) (by decide +kernel)
theorem hd_X0_countIn : yX0_countIn.cls ≠ "java/lang/invoke/MethodHandle" ∧ yX0_countIn.cls ≠ "java/lang/invoke/VarHandle" ∧ (parseMethodDescriptor yX0_countIn.desc).map (fun d => d.parameters.length) = some 1 := by decide +kernel
abbrev cX1_init : ByteArray := prog_3_method_1_code
def yX1_init : MethodName := ⟨RX1, "<init>", "()V"⟩
def wsX1_init : List Cond := .code yX1_init cX1_init 1 (none) :: BIG
theorem mC_X1_init : Cond.code yX1_init cX1_init 1 (none) ∈ BIG := mB (List.mem_of_getElem? (i := 60) (by decide +kernel)) (by decide +kernel)
theorem mI_X1_init : Cond.instanceMethod yX1_init ∈ BIG := mB (List.mem_of_getElem? (i := 59) (by decide +kernel)) (by decide +kernel)
theorem hd_X1_init : yX1_init.cls ≠ "java/lang/invoke/MethodHandle" ∧ yX1_init.cls ≠ "java/lang/invoke/VarHandle" ∧ (parseMethodDescriptor yX1_init.desc).map (fun d => d.parameters.length) = some 0 := by decide +kernel
abbrev cX1_clear : ByteArray := prog_3_method_2_code
def yX1_clear : MethodName := ⟨RX1, "clear", "()V"⟩
def wsX1_clear : List Cond := .code yX1_clear cX1_clear 1 (none) :: BIG
theorem mC_X1_clear : Cond.code yX1_clear cX1_clear 1 (none) ∈ BIG := mB (List.mem_of_getElem? (i := 266) (by decide +kernel)) (by decide +kernel)
theorem mI_X1_clear : Cond.instanceMethod yX1_clear ∈ BIG := mB (List.mem_of_getElem? (i := 264) (by decide +kernel)) (by decide +kernel)
theorem mS_X1_clear : Cond.selects RX1 yX1_clear yX1_clear ∈ BIG := mB (List.mem_of_getElem? (i := 265) (by decide +kernel)) (by decide +kernel)
theorem hd_X1_clear : yX1_clear.cls ≠ "java/lang/invoke/MethodHandle" ∧ yX1_clear.cls ≠ "java/lang/invoke/VarHandle" ∧ (parseMethodDescriptor yX1_clear.desc).map (fun d => d.parameters.length) = some 0 := by decide +kernel
abbrev cX1_size : ByteArray := prog_3_method_3_code
def yX1_size : MethodName := ⟨RX1, "size", "()I"⟩
def wsX1_size : List Cond := .code yX1_size cX1_size 1 (some (.int)) :: BIG
theorem mC_X1_size : Cond.code yX1_size cX1_size 1 (some (.int)) ∈ BIG := mB (List.mem_of_getElem? (i := 285) (by decide +kernel)) (by decide +kernel)
theorem mI_X1_size : Cond.instanceMethod yX1_size ∈ BIG := mB (List.mem_of_getElem? (i := 283) (by decide +kernel)) (by decide +kernel)
theorem mS_X1_size : Cond.selects RX1 yX1_size yX1_size ∈ BIG := mB (List.mem_of_getElem? (i := 284) (by decide +kernel)) (by decide +kernel)
theorem hd_X1_size : yX1_size.cls ≠ "java/lang/invoke/MethodHandle" ∧ yX1_size.cls ≠ "java/lang/invoke/VarHandle" ∧ (parseMethodDescriptor yX1_size.desc).map (fun d => d.parameters.length) = some 0 := by decide +kernel
abbrev cX1_isEmpty : ByteArray := prog_3_method_4_code
def yX1_isEmpty : MethodName := ⟨RX1, "isEmpty", "()Z"⟩
def wsX1_isEmpty : List Cond := .code yX1_isEmpty cX1_isEmpty 1 (some (.boolean)) :: BIG
theorem mC_X1_isEmpty : Cond.code yX1_isEmpty cX1_isEmpty 1 (some (.boolean)) ∈ BIG := mB (List.mem_of_getElem? (i := 305) (by decide +kernel)) (by decide +kernel)
theorem mI_X1_isEmpty : Cond.instanceMethod yX1_isEmpty ∈ BIG := mB (List.mem_of_getElem? (i := 303) (by decide +kernel)) (by decide +kernel)
theorem mS_X1_isEmpty : Cond.selects RX1 yX1_isEmpty yX1_isEmpty ∈ BIG := mB (List.mem_of_getElem? (i := 304) (by decide +kernel)) (by decide +kernel)
theorem hd_X1_isEmpty : yX1_isEmpty.cls ≠ "java/lang/invoke/MethodHandle" ∧ yX1_isEmpty.cls ≠ "java/lang/invoke/VarHandle" ∧ (parseMethodDescriptor yX1_isEmpty.desc).map (fun d => d.parameters.length) = some 0 := by decide +kernel
abbrev cX1_hasRoom : ByteArray := prog_3_method_5_code
def yX1_hasRoom : MethodName := ⟨RX1, "hasRoom", "(I)Z"⟩
def wsX1_hasRoom : List Cond := .code yX1_hasRoom cX1_hasRoom 2 (some (.boolean)) :: BIG
theorem mC_X1_hasRoom : Cond.code yX1_hasRoom cX1_hasRoom 2 (some (.boolean)) ∈ BIG := mB (List.mem_of_getElem? (i := 254) (by decide +kernel)) (by decide +kernel)
theorem mI_X1_hasRoom : Cond.instanceMethod yX1_hasRoom ∈ BIG := mB (List.mem_of_getElem? (i := 252) (by decide +kernel)) (by decide +kernel)
theorem mS_X1_hasRoom : Cond.selects RX1 yX1_hasRoom yX1_hasRoom ∈ BIG := mB (List.mem_of_getElem? (i := 253) (by decide +kernel)) (by decide +kernel)
theorem hd_X1_hasRoom : yX1_hasRoom.cls ≠ "java/lang/invoke/MethodHandle" ∧ yX1_hasRoom.cls ≠ "java/lang/invoke/VarHandle" ∧ (parseMethodDescriptor yX1_hasRoom.desc).map (fun d => d.parameters.length) = some 1 := by decide +kernel
abbrev cX1_append : ByteArray := prog_3_method_6_code
def yX1_append : MethodName := ⟨RX1, "append", "(C)V"⟩
def wsX1_append : List Cond := .code yX1_append cX1_append 2 (none) :: BIG
theorem mC_X1_append : Cond.code yX1_append cX1_append 2 (none) ∈ BIG := mB (List.mem_of_getElem? (i := 258) (by decide +kernel)) (by decide +kernel)
theorem mI_X1_append : Cond.instanceMethod yX1_append ∈ BIG := mB (List.mem_of_getElem? (i := 256) (by decide +kernel)) (by decide +kernel)
theorem mS_X1_append : Cond.selects RX1 yX1_append yX1_append ∈ BIG := mB (List.mem_of_getElem? (i := 257) (by decide +kernel)) (by decide +kernel)
theorem hd_X1_append : yX1_append.cls ≠ "java/lang/invoke/MethodHandle" ∧ yX1_append.cls ≠ "java/lang/invoke/VarHandle" ∧ (parseMethodDescriptor yX1_append.desc).map (fun d => d.parameters.length) = some 1 := by decide +kernel
abbrev cX1_mark : ByteArray := prog_3_method_7_code
def yX1_mark : MethodName := ⟨RX1, "mark", "(I)C"⟩
def wsX1_mark : List Cond := .code yX1_mark cX1_mark 2 (some (.char)) :: BIG
theorem mC_X1_mark : Cond.code yX1_mark cX1_mark 2 (some (.char)) ∈ BIG := mB (List.mem_of_getElem? (i := 293) (by decide +kernel)) (by decide +kernel)
theorem mI_X1_mark : Cond.instanceMethod yX1_mark ∈ BIG := mB (List.mem_of_getElem? (i := 291) (by decide +kernel)) (by decide +kernel)
theorem mS_X1_mark : Cond.selects RX1 yX1_mark yX1_mark ∈ BIG := mB (List.mem_of_getElem? (i := 292) (by decide +kernel)) (by decide +kernel)
theorem hd_X1_mark : yX1_mark.cls ≠ "java/lang/invoke/MethodHandle" ∧ yX1_mark.cls ≠ "java/lang/invoke/VarHandle" ∧ (parseMethodDescriptor yX1_mark.desc).map (fun d => d.parameters.length) = some 1 := by decide +kernel
abbrev cX1_copy : ByteArray := prog_3_method_8_code
def yX1_copy : MethodName := ⟨RX1, "copy", "(LMountedPaths$Line;)V"⟩
def wsX1_copy : List Cond := .code yX1_copy cX1_copy 2 (none) :: BIG
theorem mC_X1_copy : Cond.code yX1_copy cX1_copy 2 (none) ∈ BIG := mB (List.mem_of_getElem? (i := 274) (by decide +kernel)) (by decide +kernel)
theorem mI_X1_copy : Cond.instanceMethod yX1_copy ∈ BIG := mB (List.mem_of_getElem? (i := 272) (by decide +kernel)) (by decide +kernel)
theorem mS_X1_copy : Cond.selects RX1 yX1_copy yX1_copy ∈ BIG := mB (List.mem_of_getElem? (i := 273) (by decide +kernel)) (by decide +kernel)
theorem hd_X1_copy : yX1_copy.cls ≠ "java/lang/invoke/MethodHandle" ∧ yX1_copy.cls ≠ "java/lang/invoke/VarHandle" ∧ (parseMethodDescriptor yX1_copy.desc).map (fun d => d.parameters.length) = some 1 := by decide +kernel
abbrev cX1_hasSlashesAlone : ByteArray := prog_3_method_9_code
def yX1_hasSlashesAlone : MethodName := ⟨RX1, "hasSlashesAlone", "()Z"⟩
def wsX1_hasSlashesAlone : List Cond := .code yX1_hasSlashesAlone cX1_hasSlashesAlone 2 (some (.boolean)) :: BIG
theorem mC_X1_hasSlashesAlone : Cond.code yX1_hasSlashesAlone cX1_hasSlashesAlone 2 (some (.boolean)) ∈ BIG := mB (List.mem_of_getElem? (i := 442) (by decide +kernel)) (by decide +kernel)
theorem mI_X1_hasSlashesAlone : Cond.instanceMethod yX1_hasSlashesAlone ∈ BIG := mB (List.mem_of_getElem? (i := 440) (by decide +kernel)) (by decide +kernel)
theorem mS_X1_hasSlashesAlone : Cond.selects RX1 yX1_hasSlashesAlone yX1_hasSlashesAlone ∈ BIG := mB (List.mem_of_getElem? (i := 441) (by decide +kernel)) (by decide +kernel)
theorem hd_X1_hasSlashesAlone : yX1_hasSlashesAlone.cls ≠ "java/lang/invoke/MethodHandle" ∧ yX1_hasSlashesAlone.cls ≠ "java/lang/invoke/VarHandle" ∧ (parseMethodDescriptor yX1_hasSlashesAlone.desc).map (fun d => d.parameters.length) = some 0 := by decide +kernel
abbrev cX2_init : ByteArray := prog_4_method_1_code
def yX2_init : MethodName := ⟨RX2, "<init>", "()V"⟩
def wsX2_init : List Cond := .code yX2_init cX2_init 1 (none) :: BIG
theorem mC_X2_init : Cond.code yX2_init cX2_init 1 (none) ∈ BIG := mB (List.mem_of_getElem? (i := 74) (by decide +kernel)) (by decide +kernel)
theorem mI_X2_init : Cond.instanceMethod yX2_init ∈ BIG := mB (List.mem_of_getElem? (i := 73) (by decide +kernel)) (by decide +kernel)
theorem hd_X2_init : yX2_init.cls ≠ "java/lang/invoke/MethodHandle" ∧ yX2_init.cls ≠ "java/lang/invoke/VarHandle" ∧ (parseMethodDescriptor yX2_init.desc).map (fun d => d.parameters.length) = some 0 := by decide +kernel
abbrev cX2_clear : ByteArray := prog_4_method_2_code
def yX2_clear : MethodName := ⟨RX2, "clear", "()V"⟩
def wsX2_clear : List Cond := .code yX2_clear cX2_clear 1 (none) :: BIG
theorem mC_X2_clear : Cond.code yX2_clear cX2_clear 1 (none) ∈ BIG := mB (List.mem_of_getElem? (i := 313) (by decide +kernel)) (by decide +kernel)
theorem mI_X2_clear : Cond.instanceMethod yX2_clear ∈ BIG := mB (List.mem_of_getElem? (i := 311) (by decide +kernel)) (by decide +kernel)
theorem mS_X2_clear : Cond.selects RX2 yX2_clear yX2_clear ∈ BIG := mB (List.mem_of_getElem? (i := 312) (by decide +kernel)) (by decide +kernel)
theorem hd_X2_clear : yX2_clear.cls ≠ "java/lang/invoke/MethodHandle" ∧ yX2_clear.cls ≠ "java/lang/invoke/VarHandle" ∧ (parseMethodDescriptor yX2_clear.desc).map (fun d => d.parameters.length) = some 0 := by decide +kernel
abbrev cX2_size : ByteArray := prog_4_method_3_code
def yX2_size : MethodName := ⟨RX2, "size", "()I"⟩
def wsX2_size : List Cond := .code yX2_size cX2_size 1 (some (.int)) :: BIG
theorem mC_X2_size : Cond.code yX2_size cX2_size 1 (some (.int)) ∈ BIG := mB (List.mem_of_getElem? (i := 347) (by decide +kernel)) (by decide +kernel)
theorem mI_X2_size : Cond.instanceMethod yX2_size ∈ BIG := mB (List.mem_of_getElem? (i := 345) (by decide +kernel)) (by decide +kernel)
theorem mS_X2_size : Cond.selects RX2 yX2_size yX2_size ∈ BIG := mB (List.mem_of_getElem? (i := 346) (by decide +kernel)) (by decide +kernel)
theorem hd_X2_size : yX2_size.cls ≠ "java/lang/invoke/MethodHandle" ∧ yX2_size.cls ≠ "java/lang/invoke/VarHandle" ∧ (parseMethodDescriptor yX2_size.desc).map (fun d => d.parameters.length) = some 0 := by decide +kernel
abbrev cX2_isEmpty : ByteArray := prog_4_method_4_code
def yX2_isEmpty : MethodName := ⟨RX2, "isEmpty", "()Z"⟩
def wsX2_isEmpty : List Cond := .code yX2_isEmpty cX2_isEmpty 1 (some (.boolean)) :: BIG
theorem mC_X2_isEmpty : Cond.code yX2_isEmpty cX2_isEmpty 1 (some (.boolean)) ∈ BIG := mB (List.mem_of_getElem? (i := 339) (by decide +kernel)) (by decide +kernel)
theorem mI_X2_isEmpty : Cond.instanceMethod yX2_isEmpty ∈ BIG := mB (List.mem_of_getElem? (i := 337) (by decide +kernel)) (by decide +kernel)
theorem mS_X2_isEmpty : Cond.selects RX2 yX2_isEmpty yX2_isEmpty ∈ BIG := mB (List.mem_of_getElem? (i := 338) (by decide +kernel)) (by decide +kernel)
theorem hd_X2_isEmpty : yX2_isEmpty.cls ≠ "java/lang/invoke/MethodHandle" ∧ yX2_isEmpty.cls ≠ "java/lang/invoke/VarHandle" ∧ (parseMethodDescriptor yX2_isEmpty.desc).map (fun d => d.parameters.length) = some 0 := by decide +kernel
abbrev cX2_beginsWithSlash : ByteArray := prog_4_method_5_code
def yX2_beginsWithSlash : MethodName := ⟨RX2, "beginsWithSlash", "()Z"⟩
def wsX2_beginsWithSlash : List Cond := .code yX2_beginsWithSlash cX2_beginsWithSlash 1 (some (.boolean)) :: BIG
theorem mC_X2_beginsWithSlash : Cond.code yX2_beginsWithSlash cX2_beginsWithSlash 1 (some (.boolean)) ∈ BIG := mB (List.mem_of_getElem? (i := 327) (by decide +kernel)) (by decide +kernel)
theorem mI_X2_beginsWithSlash : Cond.instanceMethod yX2_beginsWithSlash ∈ BIG := mB (List.mem_of_getElem? (i := 325) (by decide +kernel)) (by decide +kernel)
theorem mS_X2_beginsWithSlash : Cond.selects RX2 yX2_beginsWithSlash yX2_beginsWithSlash ∈ BIG := mB (List.mem_of_getElem? (i := 326) (by decide +kernel)) (by decide +kernel)
theorem hd_X2_beginsWithSlash : yX2_beginsWithSlash.cls ≠ "java/lang/invoke/MethodHandle" ∧ yX2_beginsWithSlash.cls ≠ "java/lang/invoke/VarHandle" ∧ (parseMethodDescriptor yX2_beginsWithSlash.desc).map (fun d => d.parameters.length) = some 0 := by decide +kernel
abbrev cX2_hasSlashesAlone : ByteArray := prog_4_method_6_code
def yX2_hasSlashesAlone : MethodName := ⟨RX2, "hasSlashesAlone", "()Z"⟩
def wsX2_hasSlashesAlone : List Cond := .code yX2_hasSlashesAlone cX2_hasSlashesAlone 2 (some (.boolean)) :: BIG
theorem mC_X2_hasSlashesAlone : Cond.code yX2_hasSlashesAlone cX2_hasSlashesAlone 2 (some (.boolean)) ∈ BIG := mB (List.mem_of_getElem? (i := 351) (by decide +kernel)) (by decide +kernel)
theorem mI_X2_hasSlashesAlone : Cond.instanceMethod yX2_hasSlashesAlone ∈ BIG := mB (List.mem_of_getElem? (i := 349) (by decide +kernel)) (by decide +kernel)
theorem mS_X2_hasSlashesAlone : Cond.selects RX2 yX2_hasSlashesAlone yX2_hasSlashesAlone ∈ BIG := mB (List.mem_of_getElem? (i := 350) (by decide +kernel)) (by decide +kernel)
theorem hd_X2_hasSlashesAlone : yX2_hasSlashesAlone.cls ≠ "java/lang/invoke/MethodHandle" ∧ yX2_hasSlashesAlone.cls ≠ "java/lang/invoke/VarHandle" ∧ (parseMethodDescriptor yX2_hasSlashesAlone.desc).map (fun d => d.parameters.length) = some 0 := by decide +kernel
abbrev cX2_take : ByteArray := prog_4_method_7_code
def yX2_take : MethodName := ⟨RX2, "take", "()C"⟩
def wsX2_take : List Cond := .code yX2_take cX2_take 2 (some (.char)) :: BIG
theorem mC_X2_take : Cond.code yX2_take cX2_take 2 (some (.char)) ∈ BIG := mB (List.mem_of_getElem? (i := 335) (by decide +kernel)) (by decide +kernel)
theorem mI_X2_take : Cond.instanceMethod yX2_take ∈ BIG := mB (List.mem_of_getElem? (i := 333) (by decide +kernel)) (by decide +kernel)
theorem mS_X2_take : Cond.selects RX2 yX2_take yX2_take ∈ BIG := mB (List.mem_of_getElem? (i := 334) (by decide +kernel)) (by decide +kernel)
theorem hd_X2_take : yX2_take.cls ≠ "java/lang/invoke/MethodHandle" ∧ yX2_take.cls ≠ "java/lang/invoke/VarHandle" ∧ (parseMethodDescriptor yX2_take.desc).map (fun d => d.parameters.length) = some 0 := by decide +kernel
abbrev cX2_putBefore : ByteArray := prog_4_method_8_code
def yX2_putBefore : MethodName := ⟨RX2, "putBefore", "(C)V"⟩
def wsX2_putBefore : List Cond := .code yX2_putBefore cX2_putBefore 2 (none) :: BIG
theorem mC_X2_putBefore : Cond.code yX2_putBefore cX2_putBefore 2 (none) ∈ BIG := mB (List.mem_of_getElem? (i := 323) (by decide +kernel)) (by decide +kernel)
theorem mI_X2_putBefore : Cond.instanceMethod yX2_putBefore ∈ BIG := mB (List.mem_of_getElem? (i := 321) (by decide +kernel)) (by decide +kernel)
theorem mS_X2_putBefore : Cond.selects RX2 yX2_putBefore yX2_putBefore ∈ BIG := mB (List.mem_of_getElem? (i := 322) (by decide +kernel)) (by decide +kernel)
theorem hd_X2_putBefore : yX2_putBefore.cls ≠ "java/lang/invoke/MethodHandle" ∧ yX2_putBefore.cls ≠ "java/lang/invoke/VarHandle" ∧ (parseMethodDescriptor yX2_putBefore.desc).map (fun d => d.parameters.length) = some 1 := by decide +kernel
abbrev cX2_putLineBefore : ByteArray := prog_4_method_9_code
def yX2_putLineBefore : MethodName := ⟨RX2, "putLineBefore", "(LMountedPaths$Line;)Z"⟩
def wsX2_putLineBefore : List Cond := .code yX2_putLineBefore cX2_putLineBefore 3 (some (.boolean)) :: BIG
theorem mC_X2_putLineBefore : Cond.code yX2_putLineBefore cX2_putLineBefore 3 (some (.boolean)) ∈ BIG := mB (List.mem_of_getElem? (i := 317) (by decide +kernel)) (by decide +kernel)
theorem mI_X2_putLineBefore : Cond.instanceMethod yX2_putLineBefore ∈ BIG := mB (List.mem_of_getElem? (i := 315) (by decide +kernel)) (by decide +kernel)
theorem mS_X2_putLineBefore : Cond.selects RX2 yX2_putLineBefore yX2_putLineBefore ∈ BIG := mB (List.mem_of_getElem? (i := 316) (by decide +kernel)) (by decide +kernel)
theorem hd_X2_putLineBefore : yX2_putLineBefore.cls ≠ "java/lang/invoke/MethodHandle" ∧ yX2_putLineBefore.cls ≠ "java/lang/invoke/VarHandle" ∧ (parseMethodDescriptor yX2_putLineBefore.desc).map (fun d => d.parameters.length) = some 1 := by decide +kernel
abbrev cX2_putNameBefore : ByteArray := prog_4_method_10_code
def yX2_putNameBefore : MethodName := ⟨RX2, "putNameBefore", "(J)V"⟩
def wsX2_putNameBefore : List Cond := .code yX2_putNameBefore cX2_putNameBefore 6 (none) :: BIG
theorem mC_X2_putNameBefore : Cond.code yX2_putNameBefore cX2_putNameBefore 6 (none) ∈ BIG := mB (List.mem_of_getElem? (i := 596) (by decide +kernel)) (by decide +kernel)
theorem mI_X2_putNameBefore : Cond.instanceMethod yX2_putNameBefore ∈ BIG := mB (List.mem_of_getElem? (i := 594) (by decide +kernel)) (by decide +kernel)
theorem mS_X2_putNameBefore : Cond.selects RX2 yX2_putNameBefore yX2_putNameBefore ∈ BIG := mB (List.mem_of_getElem? (i := 595) (by decide +kernel)) (by decide +kernel)
theorem hd_X2_putNameBefore : yX2_putNameBefore.cls ≠ "java/lang/invoke/MethodHandle" ∧ yX2_putNameBefore.cls ≠ "java/lang/invoke/VarHandle" ∧ (parseMethodDescriptor yX2_putNameBefore.desc).map (fun d => d.parameters.length) = some 1 := by decide +kernel
abbrev cX3_init : ByteArray := prog_5_method_1_code
def yX3_init : MethodName := ⟨RX3, "<init>", "(LMountedPaths$Things;)V"⟩
def wsX3_init : List Cond := .code yX3_init cX3_init 2 (none) :: BIG
theorem mC_X3_init : Cond.code yX3_init cX3_init 2 (none) ∈ BIG := mB (List.mem_of_getElem? (i := 157) (by decide +kernel)) (by decide +kernel)
theorem mI_X3_init : Cond.instanceMethod yX3_init ∈ BIG := mB (List.mem_of_getElem? (i := 156) (by decide +kernel)) (by decide +kernel)
theorem hd_X3_init : yX3_init.cls ≠ "java/lang/invoke/MethodHandle" ∧ yX3_init.cls ≠ "java/lang/invoke/VarHandle" ∧ (parseMethodDescriptor yX3_init.desc).map (fun d => d.parameters.length) = some 1 := by decide +kernel
abbrev cX3_may : ByteArray := prog_5_method_2_code
def yX3_may : MethodName := ⟨RX3, "may", "(II)Z"⟩
def wsX3_may : List Cond := .code yX3_may cX3_may 5 (some (.boolean)) :: BIG
theorem mC_X3_may : Cond.code yX3_may cX3_may 5 (some (.boolean)) ∈ BIG := mB (List.mem_of_getElem? (i := 359) (by decide +kernel)) (by decide +kernel)
theorem mI_X3_may : Cond.instanceMethod yX3_may ∈ BIG := mB (List.mem_of_getElem? (i := 357) (by decide +kernel)) (by decide +kernel)
theorem mS_X3_may : Cond.selects RX3 yX3_may yX3_may ∈ BIG := mB (List.mem_of_getElem? (i := 358) (by decide +kernel)) (by decide +kernel)
theorem hd_X3_may : yX3_may.cls ≠ "java/lang/invoke/MethodHandle" ∧ yX3_may.cls ≠ "java/lang/invoke/VarHandle" ∧ (parseMethodDescriptor yX3_may.desc).map (fun d => d.parameters.length) = some 2 := by decide +kernel
abbrev cX4_init : ByteArray := prog_6_method_1_code
def yX4_init : MethodName := ⟨RX4, "<init>", "()V"⟩
def wsX4_init : List Cond := .code yX4_init cX4_init 1 (none) :: BIG
theorem mC_X4_init : Cond.code yX4_init cX4_init 1 (none) ∈ BIG := mB (List.mem_of_getElem? (i := 87) (by decide +kernel)) (by decide +kernel)
theorem mI_X4_init : Cond.instanceMethod yX4_init ∈ BIG := mB (List.mem_of_getElem? (i := 86) (by decide +kernel)) (by decide +kernel)
theorem hd_X4_init : yX4_init.cls ≠ "java/lang/invoke/MethodHandle" ∧ yX4_init.cls ≠ "java/lang/invoke/VarHandle" ∧ (parseMethodDescriptor yX4_init.desc).map (fun d => d.parameters.length) = some 0 := by decide +kernel
abbrev cX4_leastFree : ByteArray := prog_6_method_2_code
def yX4_leastFree : MethodName := ⟨RX4, "leastFree", "()I"⟩
def wsX4_leastFree : List Cond := .code yX4_leastFree cX4_leastFree 2 (some (.int)) :: BIG
theorem mC_X4_leastFree : Cond.code yX4_leastFree cX4_leastFree 2 (some (.int)) ∈ BIG := mB (List.mem_of_getElem? (i := 468) (by decide +kernel)) (by decide +kernel)
theorem mI_X4_leastFree : Cond.instanceMethod yX4_leastFree ∈ BIG := mB (List.mem_of_getElem? (i := 466) (by decide +kernel)) (by decide +kernel)
theorem mS_X4_leastFree : Cond.selects RX4 yX4_leastFree yX4_leastFree ∈ BIG := mB (List.mem_of_getElem? (i := 467) (by decide +kernel)) (by decide +kernel)
theorem hd_X4_leastFree : yX4_leastFree.cls ≠ "java/lang/invoke/MethodHandle" ∧ yX4_leastFree.cls ≠ "java/lang/invoke/VarHandle" ∧ (parseMethodDescriptor yX4_leastFree.desc).map (fun d => d.parameters.length) = some 0 := by decide +kernel
abbrev cX4_put : ByteArray := prog_6_method_3_code
def yX4_put : MethodName := ⟨RX4, "put", "(IIIII)V"⟩
def wsX4_put : List Cond := .code yX4_put cX4_put 6 (none) :: BIG
theorem mC_X4_put : Cond.code yX4_put cX4_put 6 (none) ∈ BIG := mB (List.mem_of_getElem? (i := 221) (by decide +kernel)) (by decide +kernel)
theorem mI_X4_put : Cond.instanceMethod yX4_put ∈ BIG := mB (List.mem_of_getElem? (i := 219) (by decide +kernel)) (by decide +kernel)
theorem mS_X4_put : Cond.selects RX4 yX4_put yX4_put ∈ BIG := mB (List.mem_of_getElem? (i := 220) (by decide +kernel)) (by decide +kernel)
theorem hd_X4_put : yX4_put.cls ≠ "java/lang/invoke/MethodHandle" ∧ yX4_put.cls ≠ "java/lang/invoke/VarHandle" ∧ (parseMethodDescriptor yX4_put.desc).map (fun d => d.parameters.length) = some 5 := by decide +kernel
abbrev cX4_free : ByteArray := prog_6_method_4_code
def yX4_free : MethodName := ⟨RX4, "free", "(I)V"⟩
def wsX4_free : List Cond := .code yX4_free cX4_free 2 (none) :: BIG
theorem mC_X4_free : Cond.code yX4_free cX4_free 2 (none) ∈ BIG := mB (List.mem_of_getElem? (i := 521) (by decide +kernel)) (by decide +kernel)
theorem mI_X4_free : Cond.instanceMethod yX4_free ∈ BIG := mB (List.mem_of_getElem? (i := 519) (by decide +kernel)) (by decide +kernel)
theorem mS_X4_free : Cond.selects RX4 yX4_free yX4_free ∈ BIG := mB (List.mem_of_getElem? (i := 520) (by decide +kernel)) (by decide +kernel)
theorem hd_X4_free : yX4_free.cls ≠ "java/lang/invoke/MethodHandle" ∧ yX4_free.cls ≠ "java/lang/invoke/VarHandle" ∧ (parseMethodDescriptor yX4_free.desc).map (fun d => d.parameters.length) = some 1 := by decide +kernel
abbrev cX4_sort : ByteArray := prog_6_method_5_code
def yX4_sort : MethodName := ⟨RX4, "sort", "(I)I"⟩
def wsX4_sort : List Cond := .code yX4_sort cX4_sort 2 (some (.int)) :: BIG
theorem mC_X4_sort : Cond.code yX4_sort cX4_sort 2 (some (.int)) ∈ BIG := mB (List.mem_of_getElem? (i := 609) (by decide +kernel)) (by decide +kernel)
theorem mI_X4_sort : Cond.instanceMethod yX4_sort ∈ BIG := mB (List.mem_of_getElem? (i := 607) (by decide +kernel)) (by decide +kernel)
theorem mS_X4_sort : Cond.selects RX4 yX4_sort yX4_sort ∈ BIG := mB (List.mem_of_getElem? (i := 608) (by decide +kernel)) (by decide +kernel)
theorem hd_X4_sort : yX4_sort.cls ≠ "java/lang/invoke/MethodHandle" ∧ yX4_sort.cls ≠ "java/lang/invoke/VarHandle" ∧ (parseMethodDescriptor yX4_sort.desc).map (fun d => d.parameters.length) = some 1 := by decide +kernel
abbrev cX4_isDirectory : ByteArray := prog_6_method_6_code
def yX4_isDirectory : MethodName := ⟨RX4, "isDirectory", "(I)Z"⟩
def wsX4_isDirectory : List Cond := .code yX4_isDirectory cX4_isDirectory 2 (some (.boolean)) :: BIG
theorem mC_X4_isDirectory : Cond.code yX4_isDirectory cX4_isDirectory 2 (some (.boolean)) ∈ BIG := mB (List.mem_of_getElem? (i := 355) (by decide +kernel)) (by decide +kernel)
theorem mI_X4_isDirectory : Cond.instanceMethod yX4_isDirectory ∈ BIG := mB (List.mem_of_getElem? (i := 353) (by decide +kernel)) (by decide +kernel)
theorem mS_X4_isDirectory : Cond.selects RX4 yX4_isDirectory yX4_isDirectory ∈ BIG := mB (List.mem_of_getElem? (i := 354) (by decide +kernel)) (by decide +kernel)
theorem hd_X4_isDirectory : yX4_isDirectory.cls ≠ "java/lang/invoke/MethodHandle" ∧ yX4_isDirectory.cls ≠ "java/lang/invoke/VarHandle" ∧ (parseMethodDescriptor yX4_isDirectory.desc).map (fun d => d.parameters.length) = some 1 := by decide +kernel
abbrev cX4_isLink : ByteArray := prog_6_method_7_code
def yX4_isLink : MethodName := ⟨RX4, "isLink", "(I)Z"⟩
def wsX4_isLink : List Cond := .code yX4_isLink cX4_isLink 2 (some (.boolean)) :: BIG
theorem mC_X4_isLink : Cond.code yX4_isLink cX4_isLink 2 (some (.boolean)) ∈ BIG := mB (List.mem_of_getElem? (i := 414) (by decide +kernel)) (by decide +kernel)
theorem mI_X4_isLink : Cond.instanceMethod yX4_isLink ∈ BIG := mB (List.mem_of_getElem? (i := 412) (by decide +kernel)) (by decide +kernel)
theorem mS_X4_isLink : Cond.selects RX4 yX4_isLink yX4_isLink ∈ BIG := mB (List.mem_of_getElem? (i := 413) (by decide +kernel)) (by decide +kernel)
theorem hd_X4_isLink : yX4_isLink.cls ≠ "java/lang/invoke/MethodHandle" ∧ yX4_isLink.cls ≠ "java/lang/invoke/VarHandle" ∧ (parseMethodDescriptor yX4_isLink.desc).map (fun d => d.parameters.length) = some 1 := by decide +kernel
abbrev cX4_mode : ByteArray := prog_6_method_8_code
def yX4_mode : MethodName := ⟨RX4, "mode", "(I)I"⟩
def wsX4_mode : List Cond := .code yX4_mode cX4_mode 2 (some (.int)) :: BIG
theorem mC_X4_mode : Cond.code yX4_mode cX4_mode 2 (some (.int)) ∈ BIG := mB (List.mem_of_getElem? (i := 363) (by decide +kernel)) (by decide +kernel)
theorem mI_X4_mode : Cond.instanceMethod yX4_mode ∈ BIG := mB (List.mem_of_getElem? (i := 361) (by decide +kernel)) (by decide +kernel)
theorem mS_X4_mode : Cond.selects RX4 yX4_mode yX4_mode ∈ BIG := mB (List.mem_of_getElem? (i := 362) (by decide +kernel)) (by decide +kernel)
theorem hd_X4_mode : yX4_mode.cls ≠ "java/lang/invoke/MethodHandle" ∧ yX4_mode.cls ≠ "java/lang/invoke/VarHandle" ∧ (parseMethodDescriptor yX4_mode.desc).map (fun d => d.parameters.length) = some 1 := by decide +kernel
abbrev cX4_setMode : ByteArray := prog_6_method_9_code
def yX4_setMode : MethodName := ⟨RX4, "setMode", "(II)V"⟩
def wsX4_setMode : List Cond := .code yX4_setMode cX4_setMode 3 (none) :: BIG
theorem mC_X4_setMode : Cond.code yX4_setMode cX4_setMode 3 (none) ∈ BIG := mB (List.mem_of_getElem? (i := 582) (by decide +kernel)) (by decide +kernel)
theorem mI_X4_setMode : Cond.instanceMethod yX4_setMode ∈ BIG := mB (List.mem_of_getElem? (i := 580) (by decide +kernel)) (by decide +kernel)
theorem mS_X4_setMode : Cond.selects RX4 yX4_setMode yX4_setMode ∈ BIG := mB (List.mem_of_getElem? (i := 581) (by decide +kernel)) (by decide +kernel)
theorem hd_X4_setMode : yX4_setMode.cls ≠ "java/lang/invoke/MethodHandle" ∧ yX4_setMode.cls ≠ "java/lang/invoke/VarHandle" ∧ (parseMethodDescriptor yX4_setMode.desc).map (fun d => d.parameters.length) = some 2 := by decide +kernel
abbrev cX4_owner : ByteArray := prog_6_method_10_code
def yX4_owner : MethodName := ⟨RX4, "owner", "(I)I"⟩
def wsX4_owner : List Cond := .code yX4_owner cX4_owner 2 (some (.int)) :: BIG
theorem mC_X4_owner : Cond.code yX4_owner cX4_owner 2 (some (.int)) ∈ BIG := mB (List.mem_of_getElem? (i := 367) (by decide +kernel)) (by decide +kernel)
theorem mI_X4_owner : Cond.instanceMethod yX4_owner ∈ BIG := mB (List.mem_of_getElem? (i := 365) (by decide +kernel)) (by decide +kernel)
theorem mS_X4_owner : Cond.selects RX4 yX4_owner yX4_owner ∈ BIG := mB (List.mem_of_getElem? (i := 366) (by decide +kernel)) (by decide +kernel)
theorem hd_X4_owner : yX4_owner.cls ≠ "java/lang/invoke/MethodHandle" ∧ yX4_owner.cls ≠ "java/lang/invoke/VarHandle" ∧ (parseMethodDescriptor yX4_owner.desc).map (fun d => d.parameters.length) = some 1 := by decide +kernel
abbrev cX4_volumeOf : ByteArray := prog_6_method_11_code
def yX4_volumeOf : MethodName := ⟨RX4, "volumeOf", "(I)I"⟩
def wsX4_volumeOf : List Cond := .code yX4_volumeOf cX4_volumeOf 2 (some (.int)) :: BIG
theorem mC_X4_volumeOf : Cond.code yX4_volumeOf cX4_volumeOf 2 (some (.int)) ∈ BIG := mB (List.mem_of_getElem? (i := 476) (by decide +kernel)) (by decide +kernel)
theorem mI_X4_volumeOf : Cond.instanceMethod yX4_volumeOf ∈ BIG := mB (List.mem_of_getElem? (i := 474) (by decide +kernel)) (by decide +kernel)
theorem mS_X4_volumeOf : Cond.selects RX4 yX4_volumeOf yX4_volumeOf ∈ BIG := mB (List.mem_of_getElem? (i := 475) (by decide +kernel)) (by decide +kernel)
theorem hd_X4_volumeOf : yX4_volumeOf.cls ≠ "java/lang/invoke/MethodHandle" ∧ yX4_volumeOf.cls ≠ "java/lang/invoke/VarHandle" ∧ (parseMethodDescriptor yX4_volumeOf.desc).map (fun d => d.parameters.length) = some 1 := by decide +kernel
abbrev cX4_parent : ByteArray := prog_6_method_12_code
def yX4_parent : MethodName := ⟨RX4, "parent", "(I)I"⟩
def wsX4_parent : List Cond := .code yX4_parent cX4_parent 2 (some (.int)) :: BIG
theorem mC_X4_parent : Cond.code yX4_parent cX4_parent 2 (some (.int)) ∈ BIG := mB (List.mem_of_getElem? (i := 388) (by decide +kernel)) (by decide +kernel)
theorem mI_X4_parent : Cond.instanceMethod yX4_parent ∈ BIG := mB (List.mem_of_getElem? (i := 386) (by decide +kernel)) (by decide +kernel)
theorem mS_X4_parent : Cond.selects RX4 yX4_parent yX4_parent ∈ BIG := mB (List.mem_of_getElem? (i := 387) (by decide +kernel)) (by decide +kernel)
theorem hd_X4_parent : yX4_parent.cls ≠ "java/lang/invoke/MethodHandle" ∧ yX4_parent.cls ≠ "java/lang/invoke/VarHandle" ∧ (parseMethodDescriptor yX4_parent.desc).map (fun d => d.parameters.length) = some 1 := by decide +kernel
abbrev cX4_setParent : ByteArray := prog_6_method_13_code
def yX4_setParent : MethodName := ⟨RX4, "setParent", "(II)V"⟩
def wsX4_setParent : List Cond := .code yX4_setParent cX4_setParent 3 (none) :: BIG
theorem mC_X4_setParent : Cond.code yX4_setParent cX4_setParent 3 (none) ∈ BIG := mB (List.mem_of_getElem? (i := 480) (by decide +kernel)) (by decide +kernel)
theorem mI_X4_setParent : Cond.instanceMethod yX4_setParent ∈ BIG := mB (List.mem_of_getElem? (i := 478) (by decide +kernel)) (by decide +kernel)
theorem mS_X4_setParent : Cond.selects RX4 yX4_setParent yX4_setParent ∈ BIG := mB (List.mem_of_getElem? (i := 479) (by decide +kernel)) (by decide +kernel)
theorem hd_X4_setParent : yX4_setParent.cls ≠ "java/lang/invoke/MethodHandle" ∧ yX4_setParent.cls ≠ "java/lang/invoke/VarHandle" ∧ (parseMethodDescriptor yX4_setParent.desc).map (fun d => d.parameters.length) = some 2 := by decide +kernel
abbrev cX4_target : ByteArray := prog_6_method_14_code
def yX4_target : MethodName := ⟨RX4, "target", "(I)LMountedPaths$Line;"⟩
def wsX4_target : List Cond := .code yX4_target cX4_target 2 (some (.object "MountedPaths$Line")) :: BIG
theorem mC_X4_target : Cond.code yX4_target cX4_target 2 (some (.object "MountedPaths$Line")) ∈ BIG := mB (List.mem_of_getElem? (i := 418) (by decide +kernel)) (by decide +kernel)
theorem mI_X4_target : Cond.instanceMethod yX4_target ∈ BIG := mB (List.mem_of_getElem? (i := 416) (by decide +kernel)) (by decide +kernel)
theorem mS_X4_target : Cond.selects RX4 yX4_target yX4_target ∈ BIG := mB (List.mem_of_getElem? (i := 417) (by decide +kernel)) (by decide +kernel)
theorem hd_X4_target : yX4_target.cls ≠ "java/lang/invoke/MethodHandle" ∧ yX4_target.cls ≠ "java/lang/invoke/VarHandle" ∧ (parseMethodDescriptor yX4_target.desc).map (fun d => d.parameters.length) = some 1 := by decide +kernel
abbrev cX4_setTarget : ByteArray := prog_6_method_15_code
def yX4_setTarget : MethodName := ⟨RX4, "setTarget", "(ILMountedPaths$Line;)V"⟩
def wsX4_setTarget : List Cond := .code yX4_setTarget cX4_setTarget 3 (none) :: BIG
theorem mC_X4_setTarget : Cond.code yX4_setTarget cX4_setTarget 3 (none) ∈ BIG := mB (List.mem_of_getElem? (i := 484) (by decide +kernel)) (by decide +kernel)
theorem mI_X4_setTarget : Cond.instanceMethod yX4_setTarget ∈ BIG := mB (List.mem_of_getElem? (i := 482) (by decide +kernel)) (by decide +kernel)
theorem mS_X4_setTarget : Cond.selects RX4 yX4_setTarget yX4_setTarget ∈ BIG := mB (List.mem_of_getElem? (i := 483) (by decide +kernel)) (by decide +kernel)
theorem hd_X4_setTarget : yX4_setTarget.cls ≠ "java/lang/invoke/MethodHandle" ∧ yX4_setTarget.cls ≠ "java/lang/invoke/VarHandle" ∧ (parseMethodDescriptor yX4_setTarget.desc).map (fun d => d.parameters.length) = some 2 := by decide +kernel
abbrev cX5_init : ByteArray := prog_7_method_1_code
def yX5_init : MethodName := ⟨RX5, "<init>", "(LMountedPaths$Things;)V"⟩
def wsX5_init : List Cond := .code yX5_init cX5_init 2 (none) :: BIG
theorem mC_X5_init : Cond.code yX5_init cX5_init 2 (none) ∈ BIG := mB (List.mem_of_getElem? (i := 135) (by decide +kernel)) (by decide +kernel)
theorem mI_X5_init : Cond.instanceMethod yX5_init ∈ BIG := mB (List.mem_of_getElem? (i := 134) (by decide +kernel)) (by decide +kernel)
theorem hd_X5_init : yX5_init.cls ≠ "java/lang/invoke/MethodHandle" ∧ yX5_init.cls ≠ "java/lang/invoke/VarHandle" ∧ (parseMethodDescriptor yX5_init.desc).map (fun d => d.parameters.length) = some 1 := by decide +kernel
abbrev cX5_isFull : ByteArray := prog_7_method_2_code
def yX5_isFull : MethodName := ⟨RX5, "isFull", "()Z"⟩
def wsX5_isFull : List Cond := .code yX5_isFull cX5_isFull 1 (some (.boolean)) :: BIG
theorem mC_X5_isFull : Cond.code yX5_isFull cX5_isFull 1 (some (.boolean)) ∈ BIG := mB (List.mem_of_getElem? (i := 529) (by decide +kernel)) (by decide +kernel)
theorem mI_X5_isFull : Cond.instanceMethod yX5_isFull ∈ BIG := mB (List.mem_of_getElem? (i := 527) (by decide +kernel)) (by decide +kernel)
theorem mS_X5_isFull : Cond.selects RX5 yX5_isFull yX5_isFull ∈ BIG := mB (List.mem_of_getElem? (i := 528) (by decide +kernel)) (by decide +kernel)
theorem hd_X5_isFull : yX5_isFull.cls ≠ "java/lang/invoke/MethodHandle" ∧ yX5_isFull.cls ≠ "java/lang/invoke/VarHandle" ∧ (parseMethodDescriptor yX5_isFull.desc).map (fun d => d.parameters.length) = some 0 := by decide +kernel
abbrev cX5_add : ByteArray := prog_7_method_3_code
def yX5_add : MethodName := ⟨RX5, "add", "(I)I"⟩
def wsX5_add : List Cond := .code yX5_add cX5_add 2 (some (.int)) :: BIG
theorem mC_X5_add : Cond.code yX5_add cX5_add 2 (some (.int)) ∈ BIG := mB (List.mem_of_getElem? (i := 217) (by decide +kernel)) (by decide +kernel)
theorem mI_X5_add : Cond.instanceMethod yX5_add ∈ BIG := mB (List.mem_of_getElem? (i := 215) (by decide +kernel)) (by decide +kernel)
theorem mS_X5_add : Cond.selects RX5 yX5_add yX5_add ∈ BIG := mB (List.mem_of_getElem? (i := 216) (by decide +kernel)) (by decide +kernel)
theorem hd_X5_add : yX5_add.cls ≠ "java/lang/invoke/MethodHandle" ∧ yX5_add.cls ≠ "java/lang/invoke/VarHandle" ∧ (parseMethodDescriptor yX5_add.desc).map (fun d => d.parameters.length) = some 1 := by decide +kernel
abbrev cX5_mayBeMounted : ByteArray := prog_7_method_4_code
def yX5_mayBeMounted : MethodName := ⟨RX5, "mayBeMounted", "(I)Z"⟩
def wsX5_mayBeMounted : List Cond := .code yX5_mayBeMounted cX5_mayBeMounted 2 (some (.boolean)) :: BIG
theorem mC_X5_mayBeMounted : Cond.code yX5_mayBeMounted cX5_mayBeMounted 2 (some (.boolean)) ∈ BIG := mB (List.mem_of_getElem? (i := 537) (by decide +kernel)) (by decide +kernel)
theorem mI_X5_mayBeMounted : Cond.instanceMethod yX5_mayBeMounted ∈ BIG := mB (List.mem_of_getElem? (i := 535) (by decide +kernel)) (by decide +kernel)
theorem mS_X5_mayBeMounted : Cond.selects RX5 yX5_mayBeMounted yX5_mayBeMounted ∈ BIG := mB (List.mem_of_getElem? (i := 536) (by decide +kernel)) (by decide +kernel)
theorem hd_X5_mayBeMounted : yX5_mayBeMounted.cls ≠ "java/lang/invoke/MethodHandle" ∧ yX5_mayBeMounted.cls ≠ "java/lang/invoke/VarHandle" ∧ (parseMethodDescriptor yX5_mayBeMounted.desc).map (fun d => d.parameters.length) = some 1 := by decide +kernel
abbrev cX5_isMounted : ByteArray := prog_7_method_5_code
def yX5_isMounted : MethodName := ⟨RX5, "isMounted", "(I)Z"⟩
def wsX5_isMounted : List Cond := .code yX5_isMounted cX5_isMounted 2 (some (.boolean)) :: BIG
theorem mC_X5_isMounted : Cond.code yX5_isMounted cX5_isMounted 2 (some (.boolean)) ∈ BIG := mB (List.mem_of_getElem? (i := 541) (by decide +kernel)) (by decide +kernel)
theorem mI_X5_isMounted : Cond.instanceMethod yX5_isMounted ∈ BIG := mB (List.mem_of_getElem? (i := 539) (by decide +kernel)) (by decide +kernel)
theorem mS_X5_isMounted : Cond.selects RX5 yX5_isMounted yX5_isMounted ∈ BIG := mB (List.mem_of_getElem? (i := 540) (by decide +kernel)) (by decide +kernel)
theorem hd_X5_isMounted : yX5_isMounted.cls ≠ "java/lang/invoke/MethodHandle" ∧ yX5_isMounted.cls ≠ "java/lang/invoke/VarHandle" ∧ (parseMethodDescriptor yX5_isMounted.desc).map (fun d => d.parameters.length) = some 1 := by decide +kernel
abbrev cX5_cover : ByteArray := prog_7_method_6_code
def yX5_cover : MethodName := ⟨RX5, "cover", "(II)V"⟩
def wsX5_cover : List Cond := .code yX5_cover cX5_cover 3 (none) :: BIG
theorem mC_X5_cover : Cond.code yX5_cover cX5_cover 3 (none) ∈ BIG := mB (List.mem_of_getElem? (i := 550) (by decide +kernel)) (by decide +kernel)
theorem mI_X5_cover : Cond.instanceMethod yX5_cover ∈ BIG := mB (List.mem_of_getElem? (i := 548) (by decide +kernel)) (by decide +kernel)
theorem mS_X5_cover : Cond.selects RX5 yX5_cover yX5_cover ∈ BIG := mB (List.mem_of_getElem? (i := 549) (by decide +kernel)) (by decide +kernel)
theorem hd_X5_cover : yX5_cover.cls ≠ "java/lang/invoke/MethodHandle" ∧ yX5_cover.cls ≠ "java/lang/invoke/VarHandle" ∧ (parseMethodDescriptor yX5_cover.desc).map (fun d => d.parameters.length) = some 2 := by decide +kernel
abbrev cX5_uncover : ByteArray := prog_7_method_7_code
def yX5_uncover : MethodName := ⟨RX5, "uncover", "(I)V"⟩
def wsX5_uncover : List Cond := .code yX5_uncover cX5_uncover 2 (none) :: BIG
theorem mC_X5_uncover : Cond.code yX5_uncover cX5_uncover 2 (none) ∈ BIG := mB (List.mem_of_getElem? (i := 564) (by decide +kernel)) (by decide +kernel)
theorem mI_X5_uncover : Cond.instanceMethod yX5_uncover ∈ BIG := mB (List.mem_of_getElem? (i := 562) (by decide +kernel)) (by decide +kernel)
theorem mS_X5_uncover : Cond.selects RX5 yX5_uncover yX5_uncover ∈ BIG := mB (List.mem_of_getElem? (i := 563) (by decide +kernel)) (by decide +kernel)
theorem hd_X5_uncover : yX5_uncover.cls ≠ "java/lang/invoke/MethodHandle" ∧ yX5_uncover.cls ≠ "java/lang/invoke/VarHandle" ∧ (parseMethodDescriptor yX5_uncover.desc).map (fun d => d.parameters.length) = some 1 := by decide +kernel
abbrev cX5_covering : ByteArray := prog_7_method_8_code
def yX5_covering : MethodName := ⟨RX5, "covering", "(I)I"⟩
def wsX5_covering : List Cond := .code yX5_covering cX5_covering 3 (some (.int)) :: BIG
theorem mC_X5_covering : Cond.code yX5_covering cX5_covering 3 (some (.int)) ∈ BIG := mB (List.mem_of_getElem? (i := 396) (by decide +kernel)) (by decide +kernel)
theorem mI_X5_covering : Cond.instanceMethod yX5_covering ∈ BIG := mB (List.mem_of_getElem? (i := 394) (by decide +kernel)) (by decide +kernel)
theorem mS_X5_covering : Cond.selects RX5 yX5_covering yX5_covering ∈ BIG := mB (List.mem_of_getElem? (i := 395) (by decide +kernel)) (by decide +kernel)
theorem hd_X5_covering : yX5_covering.cls ≠ "java/lang/invoke/MethodHandle" ∧ yX5_covering.cls ≠ "java/lang/invoke/VarHandle" ∧ (parseMethodDescriptor yX5_covering.desc).map (fun d => d.parameters.length) = some 1 := by decide +kernel
abbrev cX5_mountedWithRoot : ByteArray := prog_7_method_9_code
def yX5_mountedWithRoot : MethodName := ⟨RX5, "mountedWithRoot", "(I)I"⟩
def wsX5_mountedWithRoot : List Cond := .code yX5_mountedWithRoot cX5_mountedWithRoot 3 (some (.int)) :: BIG
theorem mC_X5_mountedWithRoot : Cond.code yX5_mountedWithRoot cX5_mountedWithRoot 3 (some (.int)) ∈ BIG := mB (List.mem_of_getElem? (i := 384) (by decide +kernel)) (by decide +kernel)
theorem mI_X5_mountedWithRoot : Cond.instanceMethod yX5_mountedWithRoot ∈ BIG := mB (List.mem_of_getElem? (i := 382) (by decide +kernel)) (by decide +kernel)
theorem mS_X5_mountedWithRoot : Cond.selects RX5 yX5_mountedWithRoot yX5_mountedWithRoot ∈ BIG := mB (List.mem_of_getElem? (i := 383) (by decide +kernel)) (by decide +kernel)
theorem hd_X5_mountedWithRoot : yX5_mountedWithRoot.cls ≠ "java/lang/invoke/MethodHandle" ∧ yX5_mountedWithRoot.cls ≠ "java/lang/invoke/VarHandle" ∧ (parseMethodDescriptor yX5_mountedWithRoot.desc).map (fun d => d.parameters.length) = some 1 := by decide +kernel
abbrev cX5_hasCovered : ByteArray := prog_7_method_10_code
def yX5_hasCovered : MethodName := ⟨RX5, "hasCovered", "(I)Z"⟩
def wsX5_hasCovered : List Cond := .code yX5_hasCovered cX5_hasCovered 3 (some (.boolean)) :: BIG
theorem mC_X5_hasCovered : Cond.code yX5_hasCovered cX5_hasCovered 3 (some (.boolean)) ∈ BIG := mB (List.mem_of_getElem? (i := 559) (by decide +kernel)) (by decide +kernel)
theorem mI_X5_hasCovered : Cond.instanceMethod yX5_hasCovered ∈ BIG := mB (List.mem_of_getElem? (i := 557) (by decide +kernel)) (by decide +kernel)
theorem mS_X5_hasCovered : Cond.selects RX5 yX5_hasCovered yX5_hasCovered ∈ BIG := mB (List.mem_of_getElem? (i := 558) (by decide +kernel)) (by decide +kernel)
theorem hd_X5_hasCovered : yX5_hasCovered.cls ≠ "java/lang/invoke/MethodHandle" ∧ yX5_hasCovered.cls ≠ "java/lang/invoke/VarHandle" ∧ (parseMethodDescriptor yX5_hasCovered.desc).map (fun d => d.parameters.length) = some 1 := by decide +kernel
abbrev cX5_top : ByteArray := prog_7_method_11_code
def yX5_top : MethodName := ⟨RX5, "top", "(I)I"⟩
def wsX5_top : List Cond := .code yX5_top cX5_top 5 (some (.int)) :: BIG
theorem mC_X5_top : Cond.code yX5_top cX5_top 5 (some (.int)) ∈ BIG := mB (List.mem_of_getElem? (i := 392) (by decide +kernel)) (by decide +kernel)
theorem mI_X5_top : Cond.instanceMethod yX5_top ∈ BIG := mB (List.mem_of_getElem? (i := 390) (by decide +kernel)) (by decide +kernel)
theorem mS_X5_top : Cond.selects RX5 yX5_top yX5_top ∈ BIG := mB (List.mem_of_getElem? (i := 391) (by decide +kernel)) (by decide +kernel)
theorem hd_X5_top : yX5_top.cls ≠ "java/lang/invoke/MethodHandle" ∧ yX5_top.cls ≠ "java/lang/invoke/VarHandle" ∧ (parseMethodDescriptor yX5_top.desc).map (fun d => d.parameters.length) = some 1 := by decide +kernel
abbrev cX5_ground : ByteArray := prog_7_method_12_code
def yX5_ground : MethodName := ⟨RX5, "ground", "(I)I"⟩
def wsX5_ground : List Cond := .code yX5_ground cX5_ground 5 (some (.int)) :: BIG
theorem mC_X5_ground : Cond.code yX5_ground cX5_ground 5 (some (.int)) ∈ BIG := mB (List.mem_of_getElem? (i := 380) (by decide +kernel)) (by decide +kernel)
theorem mI_X5_ground : Cond.instanceMethod yX5_ground ∈ BIG := mB (List.mem_of_getElem? (i := 378) (by decide +kernel)) (by decide +kernel)
theorem mS_X5_ground : Cond.selects RX5 yX5_ground yX5_ground ∈ BIG := mB (List.mem_of_getElem? (i := 379) (by decide +kernel)) (by decide +kernel)
theorem hd_X5_ground : yX5_ground.cls ≠ "java/lang/invoke/MethodHandle" ∧ yX5_ground.cls ≠ "java/lang/invoke/VarHandle" ∧ (parseMethodDescriptor yX5_ground.desc).map (fun d => d.parameters.length) = some 1 := by decide +kernel
abbrev cX5_above : ByteArray := prog_7_method_13_code
def yX5_above : MethodName := ⟨RX5, "above", "(II)I"⟩
def wsX5_above : List Cond := .code yX5_above cX5_above 3 (some (.int)) :: BIG
theorem mC_X5_above : Cond.code yX5_above cX5_above 3 (some (.int)) ∈ BIG := mB (List.mem_of_getElem? (i := 376) (by decide +kernel)) (by decide +kernel)
theorem mI_X5_above : Cond.instanceMethod yX5_above ∈ BIG := mB (List.mem_of_getElem? (i := 374) (by decide +kernel)) (by decide +kernel)
theorem mS_X5_above : Cond.selects RX5 yX5_above yX5_above ∈ BIG := mB (List.mem_of_getElem? (i := 375) (by decide +kernel)) (by decide +kernel)
theorem hd_X5_above : yX5_above.cls ≠ "java/lang/invoke/MethodHandle" ∧ yX5_above.cls ≠ "java/lang/invoke/VarHandle" ∧ (parseMethodDescriptor yX5_above.desc).map (fun d => d.parameters.length) = some 2 := by decide +kernel
abbrev cX6_init : ByteArray := prog_8_method_1_code
def yX6_init : MethodName := ⟨RX6, "<init>", "(LMountedPaths$Things;LMountedPaths$Entries;LMountedPaths$Volumes;LMountedPaths$Session;)V"⟩
def wsX6_init : List Cond := .code yX6_init cX6_init 5 (none) :: BIG
theorem mC_X6_init : Cond.code yX6_init cX6_init 5 (none) ∈ BIG := mB (List.mem_of_getElem? (i := 179) (by decide +kernel)) (by decide +kernel)
theorem mI_X6_init : Cond.instanceMethod yX6_init ∈ BIG := mB (List.mem_of_getElem? (i := 178) (by decide +kernel)) (by decide +kernel)
theorem hd_X6_init : yX6_init.cls ≠ "java/lang/invoke/MethodHandle" ∧ yX6_init.cls ≠ "java/lang/invoke/VarHandle" ∧ (parseMethodDescriptor yX6_init.desc).map (fun d => d.parameters.length) = some 4 := by decide +kernel
abbrev cX6_place : ByteArray := prog_8_method_2_code
def yX6_place : MethodName := ⟨RX6, "place", "()I"⟩
def wsX6_place : List Cond := .code yX6_place cX6_place 1 (some (.int)) :: BIG
theorem mC_X6_place : Cond.code yX6_place cX6_place 1 (some (.int)) ∈ BIG := mB (List.mem_of_getElem? (i := 454) (by decide +kernel)) (by decide +kernel)
theorem mI_X6_place : Cond.instanceMethod yX6_place ∈ BIG := mB (List.mem_of_getElem? (i := 452) (by decide +kernel)) (by decide +kernel)
theorem mS_X6_place : Cond.selects RX6 yX6_place yX6_place ∈ BIG := mB (List.mem_of_getElem? (i := 453) (by decide +kernel)) (by decide +kernel)
theorem hd_X6_place : yX6_place.cls ≠ "java/lang/invoke/MethodHandle" ∧ yX6_place.cls ≠ "java/lang/invoke/VarHandle" ∧ (parseMethodDescriptor yX6_place.desc).map (fun d => d.parameters.length) = some 0 := by decide +kernel
abbrev cX6_name : ByteArray := prog_8_method_3_code
def yX6_name : MethodName := ⟨RX6, "name", "()J"⟩
def wsX6_name : List Cond := .code yX6_name cX6_name 1 (some (.long)) :: BIG
theorem mC_X6_name : Cond.code yX6_name cX6_name 1 (some (.long)) ∈ BIG := mB (List.mem_of_getElem? (i := 458) (by decide +kernel)) (by decide +kernel)
theorem mI_X6_name : Cond.instanceMethod yX6_name ∈ BIG := mB (List.mem_of_getElem? (i := 456) (by decide +kernel)) (by decide +kernel)
theorem mS_X6_name : Cond.selects RX6 yX6_name yX6_name ∈ BIG := mB (List.mem_of_getElem? (i := 457) (by decide +kernel)) (by decide +kernel)
theorem hd_X6_name : yX6_name.cls ≠ "java/lang/invoke/MethodHandle" ∧ yX6_name.cls ≠ "java/lang/invoke/VarHandle" ∧ (parseMethodDescriptor yX6_name.desc).map (fun d => d.parameters.length) = some 0 := by decide +kernel
abbrev cX6_isSlashed : ByteArray := prog_8_method_4_code
def yX6_isSlashed : MethodName := ⟨RX6, "isSlashed", "()Z"⟩
def wsX6_isSlashed : List Cond := .code yX6_isSlashed cX6_isSlashed 1 (some (.boolean)) :: BIG
theorem mC_X6_isSlashed : Cond.code yX6_isSlashed cX6_isSlashed 1 (some (.boolean)) ∈ BIG := mB (List.mem_of_getElem? (i := 463) (by decide +kernel)) (by decide +kernel)
theorem mI_X6_isSlashed : Cond.instanceMethod yX6_isSlashed ∈ BIG := mB (List.mem_of_getElem? (i := 461) (by decide +kernel)) (by decide +kernel)
theorem mS_X6_isSlashed : Cond.selects RX6 yX6_isSlashed yX6_isSlashed ∈ BIG := mB (List.mem_of_getElem? (i := 462) (by decide +kernel)) (by decide +kernel)
theorem hd_X6_isSlashed : yX6_isSlashed.cls ≠ "java/lang/invoke/MethodHandle" ∧ yX6_isSlashed.cls ≠ "java/lang/invoke/VarHandle" ∧ (parseMethodDescriptor yX6_isSlashed.desc).map (fun d => d.parameters.length) = some 0 := by decide +kernel
abbrev cX6_isOnDots : ByteArray := prog_8_method_5_code
def yX6_isOnDots : MethodName := ⟨RX6, "isOnDots", "()Z"⟩
def wsX6_isOnDots : List Cond := .code yX6_isOnDots cX6_isOnDots 1 (some (.boolean)) :: BIG
theorem mC_X6_isOnDots : Cond.code yX6_isOnDots cX6_isOnDots 1 (some (.boolean)) ∈ BIG := mB (List.mem_of_getElem? (i := 450) (by decide +kernel)) (by decide +kernel)
theorem mI_X6_isOnDots : Cond.instanceMethod yX6_isOnDots ∈ BIG := mB (List.mem_of_getElem? (i := 448) (by decide +kernel)) (by decide +kernel)
theorem mS_X6_isOnDots : Cond.selects RX6 yX6_isOnDots yX6_isOnDots ∈ BIG := mB (List.mem_of_getElem? (i := 449) (by decide +kernel)) (by decide +kernel)
theorem hd_X6_isOnDots : yX6_isOnDots.cls ≠ "java/lang/invoke/MethodHandle" ∧ yX6_isOnDots.cls ≠ "java/lang/invoke/VarHandle" ∧ (parseMethodDescriptor yX6_isOnDots.desc).map (fun d => d.parameters.length) = some 0 := by decide +kernel
abbrev cX6_through : ByteArray := prog_8_method_6_code
def yX6_through : MethodName := ⟨RX6, "through", "(LMountedPaths$Line;Z)I"⟩
def wsX6_through : List Cond := .code yX6_through cX6_through 5 (some (.int)) :: BIG
theorem mC_X6_through : Cond.code yX6_through cX6_through 5 (some (.int)) ∈ BIG := mB (List.mem_of_getElem? (i := 301) (by decide +kernel)) (by decide +kernel)
theorem mI_X6_through : Cond.instanceMethod yX6_through ∈ BIG := mB (List.mem_of_getElem? (i := 299) (by decide +kernel)) (by decide +kernel)
theorem mS_X6_through : Cond.selects RX6 yX6_through yX6_through ∈ BIG := mB (List.mem_of_getElem? (i := 300) (by decide +kernel)) (by decide +kernel)
theorem hd_X6_through : yX6_through.cls ≠ "java/lang/invoke/MethodHandle" ∧ yX6_through.cls ≠ "java/lang/invoke/VarHandle" ∧ (parseMethodDescriptor yX6_through.desc).map (fun d => d.parameters.length) = some 2 := by decide +kernel
abbrev cX6_toLastName : ByteArray := prog_8_method_7_code
def yX6_toLastName : MethodName := ⟨RX6, "toLastName", "(LMountedPaths$Line;)I"⟩
def wsX6_toLastName : List Cond := .code yX6_toLastName cX6_toLastName 4 (some (.int)) :: BIG
theorem mC_X6_toLastName : Cond.code yX6_toLastName cX6_toLastName 4 (some (.int)) ∈ BIG := mB (List.mem_of_getElem? (i := 446) (by decide +kernel)) (by decide +kernel)
theorem mI_X6_toLastName : Cond.instanceMethod yX6_toLastName ∈ BIG := mB (List.mem_of_getElem? (i := 444) (by decide +kernel)) (by decide +kernel)
theorem mS_X6_toLastName : Cond.selects RX6 yX6_toLastName yX6_toLastName ∈ BIG := mB (List.mem_of_getElem? (i := 445) (by decide +kernel)) (by decide +kernel)
theorem hd_X6_toLastName : yX6_toLastName.cls ≠ "java/lang/invoke/MethodHandle" ∧ yX6_toLastName.cls ≠ "java/lang/invoke/VarHandle" ∧ (parseMethodDescriptor yX6_toLastName.desc).map (fun d => d.parameters.length) = some 1 := by decide +kernel
abbrev cX6_begin : ByteArray := prog_8_method_8_code
def yX6_begin : MethodName := ⟨RX6, "begin", "(LMountedPaths$Line;)V"⟩
def wsX6_begin : List Cond := .code yX6_begin cX6_begin 2 (none) :: BIG
theorem mC_X6_begin : Cond.code yX6_begin cX6_begin 2 (none) ∈ BIG := mB (List.mem_of_getElem? (i := 309) (by decide +kernel)) (by decide +kernel)
theorem mI_X6_begin : Cond.instanceMethod yX6_begin ∈ BIG := mB (List.mem_of_getElem? (i := 308) (by decide +kernel)) (by decide +kernel)
theorem mS_X6_begin : Cond.selects RX6 yX6_begin yX6_begin ∈ BIG := mB (List.mem_of_getElem? (i := 0) (by decide +kernel)) (by decide +kernel)
theorem hd_X6_begin : yX6_begin.cls ≠ "java/lang/invoke/MethodHandle" ∧ yX6_begin.cls ≠ "java/lang/invoke/VarHandle" ∧ (parseMethodDescriptor yX6_begin.desc).map (fun d => d.parameters.length) = some 1 := by decide +kernel
abbrev cX6_hasName : ByteArray := prog_8_method_9_code
def yX6_hasName : MethodName := ⟨RX6, "hasName", "()Z"⟩
def wsX6_hasName : List Cond := .code yX6_hasName cX6_hasName 2 (some (.boolean)) :: BIG
theorem mC_X6_hasName : Cond.code yX6_hasName cX6_hasName 2 (some (.boolean)) ∈ BIG := mB (List.mem_of_getElem? (i := 331) (by decide +kernel)) (by decide +kernel)
theorem mI_X6_hasName : Cond.instanceMethod yX6_hasName ∈ BIG := mB (List.mem_of_getElem? (i := 330) (by decide +kernel)) (by decide +kernel)
theorem mS_X6_hasName : Cond.selects RX6 yX6_hasName yX6_hasName ∈ BIG := mB (List.mem_of_getElem? (i := 1) (by decide +kernel)) (by decide +kernel)
theorem hd_X6_hasName : yX6_hasName.cls ≠ "java/lang/invoke/MethodHandle" ∧ yX6_hasName.cls ≠ "java/lang/invoke/VarHandle" ∧ (parseMethodDescriptor yX6_hasName.desc).map (fun d => d.parameters.length) = some 0 := by decide +kernel
abbrev cX6_takeName : ByteArray := prog_8_method_10_code
def yX6_takeName : MethodName := ⟨RX6, "takeName", "()I"⟩
def wsX6_takeName : List Cond := .code yX6_takeName cX6_takeName 3 (some (.int)) :: BIG
theorem mC_X6_takeName : Cond.code yX6_takeName cX6_takeName 3 (some (.int)) ∈ BIG := mB (List.mem_of_getElem? (i := 343) (by decide +kernel)) (by decide +kernel)
theorem mI_X6_takeName : Cond.instanceMethod yX6_takeName ∈ BIG := mB (List.mem_of_getElem? (i := 342) (by decide +kernel)) (by decide +kernel)
theorem mS_X6_takeName : Cond.selects RX6 yX6_takeName yX6_takeName ∈ BIG := mB (List.mem_of_getElem? (i := 2) (by decide +kernel)) (by decide +kernel)
theorem hd_X6_takeName : yX6_takeName.cls ≠ "java/lang/invoke/MethodHandle" ∧ yX6_takeName.cls ≠ "java/lang/invoke/VarHandle" ∧ (parseMethodDescriptor yX6_takeName.desc).map (fun d => d.parameters.length) = some 0 := by decide +kernel
abbrev cX6_passName : ByteArray := prog_8_method_11_code
def yX6_passName : MethodName := ⟨RX6, "passName", "(Z)I"⟩
def wsX6_passName : List Cond := .code yX6_passName cX6_passName 3 (some (.int)) :: BIG
theorem mC_X6_passName : Cond.code yX6_passName cX6_passName 3 (some (.int)) ∈ BIG := mB (List.mem_of_getElem? (i := 371) (by decide +kernel)) (by decide +kernel)
theorem mI_X6_passName : Cond.instanceMethod yX6_passName ∈ BIG := mB (List.mem_of_getElem? (i := 370) (by decide +kernel)) (by decide +kernel)
theorem mS_X6_passName : Cond.selects RX6 yX6_passName yX6_passName ∈ BIG := mB (List.mem_of_getElem? (i := 3) (by decide +kernel)) (by decide +kernel)
theorem hd_X6_passName : yX6_passName.cls ≠ "java/lang/invoke/MethodHandle" ∧ yX6_passName.cls ≠ "java/lang/invoke/VarHandle" ∧ (parseMethodDescriptor yX6_passName.desc).map (fun d => d.parameters.length) = some 1 := by decide +kernel
abbrev cX6_topUnder : ByteArray := prog_8_method_12_code
def yX6_topUnder : MethodName := ⟨RX6, "topUnder", "(IJ)I"⟩
def wsX6_topUnder : List Cond := .code yX6_topUnder cX6_topUnder 5 (some (.int)) :: BIG
theorem mC_X6_topUnder : Cond.code yX6_topUnder cX6_topUnder 5 (some (.int)) ∈ BIG := mB (List.mem_of_getElem? (i := 401) (by decide +kernel)) (by decide +kernel)
theorem mI_X6_topUnder : Cond.instanceMethod yX6_topUnder ∈ BIG := mB (List.mem_of_getElem? (i := 400) (by decide +kernel)) (by decide +kernel)
theorem mS_X6_topUnder : Cond.selects RX6 yX6_topUnder yX6_topUnder ∈ BIG := mB (List.mem_of_getElem? (i := 4) (by decide +kernel)) (by decide +kernel)
theorem hd_X6_topUnder : yX6_topUnder.cls ≠ "java/lang/invoke/MethodHandle" ∧ yX6_topUnder.cls ≠ "java/lang/invoke/VarHandle" ∧ (parseMethodDescriptor yX6_topUnder.desc).map (fun d => d.parameters.length) = some 2 := by decide +kernel
abbrev cX6_passLink : ByteArray := prog_8_method_13_code
def yX6_passLink : MethodName := ⟨RX6, "passLink", "(LMountedPaths$Line;)I"⟩
def wsX6_passLink : List Cond := .code yX6_passLink cX6_passLink 2 (some (.int)) :: BIG
theorem mC_X6_passLink : Cond.code yX6_passLink cX6_passLink 2 (some (.int)) ∈ BIG := mB (List.mem_of_getElem? (i := 422) (by decide +kernel)) (by decide +kernel)
theorem mI_X6_passLink : Cond.instanceMethod yX6_passLink ∈ BIG := mB (List.mem_of_getElem? (i := 421) (by decide +kernel)) (by decide +kernel)
theorem mS_X6_passLink : Cond.selects RX6 yX6_passLink yX6_passLink ∈ BIG := mB (List.mem_of_getElem? (i := 5) (by decide +kernel)) (by decide +kernel)
theorem hd_X6_passLink : yX6_passLink.cls ≠ "java/lang/invoke/MethodHandle" ∧ yX6_passLink.cls ≠ "java/lang/invoke/VarHandle" ∧ (parseMethodDescriptor yX6_passLink.desc).map (fun d => d.parameters.length) = some 1 := by decide +kernel
theorem mQ_L_7 : Cond.classLink RL 7 RX7 ∈ BIG := mB (List.mem_of_getElem? (i := 48) (by decide +kernel)) (by decide +kernel)
theorem mL_L_9 : Cond.methodLink RL 9 yX7_init ∈ BIG := mB (List.mem_of_getElem? (i := 50) (by decide +kernel)) (by decide +kernel)
theorem mL_X7_1 : Cond.methodLink RX7 1 objectInit ∈ BIG := mB (List.mem_of_getElem? (i := 53) (by decide +kernel)) (by decide +kernel)
theorem mQ_X7_7 : Cond.classLink RX7 7 RX1 ∈ BIG := mB (List.mem_of_getElem? (i := 56) (by decide +kernel)) (by decide +kernel)
theorem mL_X1_3 : Cond.methodLink RX1 3 objectInit ∈ BIG := mB (List.mem_of_getElem? (i := 61) (by decide +kernel)) (by decide +kernel)
theorem mF_X1_9 : Cond.fieldLink RX1 9 RX1 "marks" "[C" ∈ BIG := mB (List.mem_of_getElem? (i := 62) (by decide +kernel)) (by decide +kernel)
theorem mF_X1_15 : Cond.fieldLink RX1 15 RX1 "count" "I" ∈ BIG := mB (List.mem_of_getElem? (i := 63) (by decide +kernel)) (by decide +kernel)
theorem mA_char : Cond.arrayClass .char ∈ BIG := mB (List.mem_of_getElem? (i := 69) (by decide +kernel)) (by decide +kernel)
theorem mQ_X7_19 : Cond.classLink RX7 19 RX2 ∈ BIG := mB (List.mem_of_getElem? (i := 70) (by decide +kernel)) (by decide +kernel)
theorem mL_X2_3 : Cond.methodLink RX2 3 objectInit ∈ BIG := mB (List.mem_of_getElem? (i := 75) (by decide +kernel)) (by decide +kernel)
theorem mF_X2_9 : Cond.fieldLink RX2 9 RX2 "marks" "[C" ∈ BIG := mB (List.mem_of_getElem? (i := 76) (by decide +kernel)) (by decide +kernel)
theorem mF_X2_15 : Cond.fieldLink RX2 15 RX2 "start" "I" ∈ BIG := mB (List.mem_of_getElem? (i := 77) (by decide +kernel)) (by decide +kernel)
theorem mQ_X7_26 : Cond.classLink RX7 26 RX4 ∈ BIG := mB (List.mem_of_getElem? (i := 83) (by decide +kernel)) (by decide +kernel)
theorem mL_X4_3 : Cond.methodLink RX4 3 objectInit ∈ BIG := mB (List.mem_of_getElem? (i := 88) (by decide +kernel)) (by decide +kernel)
theorem mQ_X4_27 : Cond.classLink RX4 27 RX1 ∈ BIG := mB (List.mem_of_getElem? (i := 89) (by decide +kernel)) (by decide +kernel)
theorem mF_X4_9 : Cond.fieldLink RX4 9 RX4 "sorts" "[I" ∈ BIG := mB (List.mem_of_getElem? (i := 91) (by decide +kernel)) (by decide +kernel)
theorem mF_X4_15 : Cond.fieldLink RX4 15 RX4 "modes" "[I" ∈ BIG := mB (List.mem_of_getElem? (i := 92) (by decide +kernel)) (by decide +kernel)
theorem mF_X4_18 : Cond.fieldLink RX4 18 RX4 "owners" "[I" ∈ BIG := mB (List.mem_of_getElem? (i := 93) (by decide +kernel)) (by decide +kernel)
theorem mF_X4_21 : Cond.fieldLink RX4 21 RX4 "volumes" "[I" ∈ BIG := mB (List.mem_of_getElem? (i := 94) (by decide +kernel)) (by decide +kernel)
theorem mF_X4_24 : Cond.fieldLink RX4 24 RX4 "parents" "[I" ∈ BIG := mB (List.mem_of_getElem? (i := 95) (by decide +kernel)) (by decide +kernel)
theorem mF_X4_29 : Cond.fieldLink RX4 29 RX4 "targets" "[LMountedPaths$Line;" ∈ BIG := mB (List.mem_of_getElem? (i := 96) (by decide +kernel)) (by decide +kernel)
theorem mA_int : Cond.arrayClass .int ∈ BIG := mB (List.mem_of_getElem? (i := 110) (by decide +kernel)) (by decide +kernel)
theorem mQ_X7_33 : Cond.classLink RX7 33 RX0 ∈ BIG := mB (List.mem_of_getElem? (i := 111) (by decide +kernel)) (by decide +kernel)
theorem mL_X0_3 : Cond.methodLink RX0 3 objectInit ∈ BIG := mB (List.mem_of_getElem? (i := 116) (by decide +kernel)) (by decide +kernel)
theorem mF_X0_9 : Cond.fieldLink RX0 9 RX0 "directories" "[I" ∈ BIG := mB (List.mem_of_getElem? (i := 117) (by decide +kernel)) (by decide +kernel)
theorem mF_X0_15 : Cond.fieldLink RX0 15 RX0 "names" "[J" ∈ BIG := mB (List.mem_of_getElem? (i := 118) (by decide +kernel)) (by decide +kernel)
theorem mF_X0_19 : Cond.fieldLink RX0 19 RX0 "objects" "[I" ∈ BIG := mB (List.mem_of_getElem? (i := 119) (by decide +kernel)) (by decide +kernel)
theorem mF_X0_22 : Cond.fieldLink RX0 22 RX0 "count" "I" ∈ BIG := mB (List.mem_of_getElem? (i := 120) (by decide +kernel)) (by decide +kernel)
theorem mA_long : Cond.arrayClass .long ∈ BIG := mB (List.mem_of_getElem? (i := 130) (by decide +kernel)) (by decide +kernel)
theorem mQ_X7_40 : Cond.classLink RX7 40 RX5 ∈ BIG := mB (List.mem_of_getElem? (i := 131) (by decide +kernel)) (by decide +kernel)
theorem mL_X7_42 : Cond.methodLink RX7 42 yX5_init ∈ BIG := mB (List.mem_of_getElem? (i := 133) (by decide +kernel)) (by decide +kernel)
theorem mL_X5_3 : Cond.methodLink RX5 3 objectInit ∈ BIG := mB (List.mem_of_getElem? (i := 136) (by decide +kernel)) (by decide +kernel)
theorem mF_X5_18 : Cond.fieldLink RX5 18 RX5 "things" "LMountedPaths$Things;" ∈ BIG := mB (List.mem_of_getElem? (i := 140) (by decide +kernel)) (by decide +kernel)
theorem mF_X5_9 : Cond.fieldLink RX5 9 RX5 "roots" "[I" ∈ BIG := mB (List.mem_of_getElem? (i := 141) (by decide +kernel)) (by decide +kernel)
theorem mF_X5_15 : Cond.fieldLink RX5 15 RX5 "covered" "[I" ∈ BIG := mB (List.mem_of_getElem? (i := 142) (by decide +kernel)) (by decide +kernel)
theorem mF_X5_28 : Cond.fieldLink RX5 28 RX5 "count" "I" ∈ BIG := mB (List.mem_of_getElem? (i := 143) (by decide +kernel)) (by decide +kernel)
theorem mQ_X7_49 : Cond.classLink RX7 49 RX3 ∈ BIG := mB (List.mem_of_getElem? (i := 153) (by decide +kernel)) (by decide +kernel)
theorem mL_X7_51 : Cond.methodLink RX7 51 yX3_init ∈ BIG := mB (List.mem_of_getElem? (i := 155) (by decide +kernel)) (by decide +kernel)
theorem mL_X3_1 : Cond.methodLink RX3 1 objectInit ∈ BIG := mB (List.mem_of_getElem? (i := 158) (by decide +kernel)) (by decide +kernel)
theorem mF_X3_7 : Cond.fieldLink RX3 7 RX3 "things" "LMountedPaths$Things;" ∈ BIG := mB (List.mem_of_getElem? (i := 159) (by decide +kernel)) (by decide +kernel)
theorem mF_X3_19 : Cond.fieldLink RX3 19 RX3 "user" "I" ∈ BIG := mB (List.mem_of_getElem? (i := 160) (by decide +kernel)) (by decide +kernel)
theorem mQ_X7_56 : Cond.classLink RX7 56 RX6 ∈ BIG := mB (List.mem_of_getElem? (i := 175) (by decide +kernel)) (by decide +kernel)
theorem mL_X7_58 : Cond.methodLink RX7 58 yX6_init ∈ BIG := mB (List.mem_of_getElem? (i := 177) (by decide +kernel)) (by decide +kernel)
theorem mL_X6_3 : Cond.methodLink RX6 3 objectInit ∈ BIG := mB (List.mem_of_getElem? (i := 180) (by decide +kernel)) (by decide +kernel)
theorem mQ_X6_9 : Cond.classLink RX6 9 RX2 ∈ BIG := mB (List.mem_of_getElem? (i := 181) (by decide +kernel)) (by decide +kernel)
theorem mF_X6_18 : Cond.fieldLink RX6 18 RX6 "things" "LMountedPaths$Things;" ∈ BIG := mB (List.mem_of_getElem? (i := 183) (by decide +kernel)) (by decide +kernel)
theorem mF_X6_22 : Cond.fieldLink RX6 22 RX6 "entries" "LMountedPaths$Entries;" ∈ BIG := mB (List.mem_of_getElem? (i := 184) (by decide +kernel)) (by decide +kernel)
theorem mF_X6_26 : Cond.fieldLink RX6 26 RX6 "volumes" "LMountedPaths$Volumes;" ∈ BIG := mB (List.mem_of_getElem? (i := 185) (by decide +kernel)) (by decide +kernel)
theorem mF_X6_30 : Cond.fieldLink RX6 30 RX6 "session" "LMountedPaths$Session;" ∈ BIG := mB (List.mem_of_getElem? (i := 186) (by decide +kernel)) (by decide +kernel)
theorem mF_X6_12 : Cond.fieldLink RX6 12 RX6 "rest" "LMountedPaths$Rest;" ∈ BIG := mB (List.mem_of_getElem? (i := 187) (by decide +kernel)) (by decide +kernel)
theorem mF_X6_34 : Cond.fieldLink RX6 34 RX6 "at" "I" ∈ BIG := mB (List.mem_of_getElem? (i := 188) (by decide +kernel)) (by decide +kernel)
theorem mF_X6_92 : Cond.fieldLink RX6 92 RX6 "hops" "I" ∈ BIG := mB (List.mem_of_getElem? (i := 189) (by decide +kernel)) (by decide +kernel)
theorem mF_X6_38 : Cond.fieldLink RX6 38 RX6 "name" "J" ∈ BIG := mB (List.mem_of_getElem? (i := 190) (by decide +kernel)) (by decide +kernel)
theorem mF_X6_71 : Cond.fieldLink RX6 71 RX6 "last" "Z" ∈ BIG := mB (List.mem_of_getElem? (i := 191) (by decide +kernel)) (by decide +kernel)
theorem mF_X6_42 : Cond.fieldLink RX6 42 RX6 "slashed" "Z" ∈ BIG := mB (List.mem_of_getElem? (i := 192) (by decide +kernel)) (by decide +kernel)
theorem mL_X7_65 : Cond.methodLink RX7 65 yX5_add ∈ BIG := mB (List.mem_of_getElem? (i := 214) (by decide +kernel)) (by decide +kernel)
theorem mL_X7_69 : Cond.methodLink RX7 69 yX4_put ∈ BIG := mB (List.mem_of_getElem? (i := 218) (by decide +kernel)) (by decide +kernel)
theorem mF_X7_10 : Cond.fieldLink RX7 10 RX7 "text" "LMountedPaths$Line;" ∈ BIG := mB (List.mem_of_getElem? (i := 222) (by decide +kernel)) (by decide +kernel)
theorem mF_X7_16 : Cond.fieldLink RX7 16 RX7 "second" "LMountedPaths$Line;" ∈ BIG := mB (List.mem_of_getElem? (i := 223) (by decide +kernel)) (by decide +kernel)
theorem mF_X7_22 : Cond.fieldLink RX7 22 RX7 "trail" "LMountedPaths$Rest;" ∈ BIG := mB (List.mem_of_getElem? (i := 224) (by decide +kernel)) (by decide +kernel)
theorem mF_X7_29 : Cond.fieldLink RX7 29 RX7 "things" "LMountedPaths$Things;" ∈ BIG := mB (List.mem_of_getElem? (i := 225) (by decide +kernel)) (by decide +kernel)
theorem mF_X7_36 : Cond.fieldLink RX7 36 RX7 "entries" "LMountedPaths$Entries;" ∈ BIG := mB (List.mem_of_getElem? (i := 226) (by decide +kernel)) (by decide +kernel)
theorem mF_X7_45 : Cond.fieldLink RX7 45 RX7 "volumes" "LMountedPaths$Volumes;" ∈ BIG := mB (List.mem_of_getElem? (i := 227) (by decide +kernel)) (by decide +kernel)
theorem mF_X7_52 : Cond.fieldLink RX7 52 RX7 "session" "LMountedPaths$Session;" ∈ BIG := mB (List.mem_of_getElem? (i := 228) (by decide +kernel)) (by decide +kernel)
theorem mF_X7_61 : Cond.fieldLink RX7 61 RX7 "walk" "LMountedPaths$Walk;" ∈ BIG := mB (List.mem_of_getElem? (i := 229) (by decide +kernel)) (by decide +kernel)
theorem mL_L_13 : Cond.methodLink RL 13 yX7_type ∈ BIG := mB (List.mem_of_getElem? (i := 247) (by decide +kernel)) (by decide +kernel)
theorem mL_X7_73 : Cond.methodLink RX7 73 yX1_hasRoom ∈ BIG := mB (List.mem_of_getElem? (i := 251) (by decide +kernel)) (by decide +kernel)
theorem mL_X7_77 : Cond.methodLink RX7 77 yX1_append ∈ BIG := mB (List.mem_of_getElem? (i := 255) (by decide +kernel)) (by decide +kernel)
theorem mL_L_18 : Cond.methodLink RL 18 yX7_wipe ∈ BIG := mB (List.mem_of_getElem? (i := 259) (by decide +kernel)) (by decide +kernel)
theorem mL_X7_81 : Cond.methodLink RX7 81 yX1_clear ∈ BIG := mB (List.mem_of_getElem? (i := 263) (by decide +kernel)) (by decide +kernel)
theorem mL_L_22 : Cond.methodLink RL 22 yX7_keep ∈ BIG := mB (List.mem_of_getElem? (i := 267) (by decide +kernel)) (by decide +kernel)
theorem mL_X7_84 : Cond.methodLink RX7 84 yX1_copy ∈ BIG := mB (List.mem_of_getElem? (i := 271) (by decide +kernel)) (by decide +kernel)
theorem mL_X1_19 : Cond.methodLink RX1 19 arraycopyName ∈ BIG := mB (List.mem_of_getElem? (i := 275) (by decide +kernel)) (by decide +kernel)
theorem mL_L_26 : Cond.methodLink RL 26 yX7_length ∈ BIG := mB (List.mem_of_getElem? (i := 278) (by decide +kernel)) (by decide +kernel)
theorem mL_X7_88 : Cond.methodLink RX7 88 yX1_size ∈ BIG := mB (List.mem_of_getElem? (i := 282) (by decide +kernel)) (by decide +kernel)
theorem mL_L_31 : Cond.methodLink RL 31 yX7_at ∈ BIG := mB (List.mem_of_getElem? (i := 286) (by decide +kernel)) (by decide +kernel)
theorem mL_X7_92 : Cond.methodLink RX7 92 yX1_mark ∈ BIG := mB (List.mem_of_getElem? (i := 290) (by decide +kernel)) (by decide +kernel)
theorem mL_L_36 : Cond.methodLink RL 36 yX7_resolve ∈ BIG := mB (List.mem_of_getElem? (i := 294) (by decide +kernel)) (by decide +kernel)
theorem mL_X7_96 : Cond.methodLink RX7 96 yX6_through ∈ BIG := mB (List.mem_of_getElem? (i := 298) (by decide +kernel)) (by decide +kernel)
theorem mL_X6_50 : Cond.methodLink RX6 50 yX1_isEmpty ∈ BIG := mB (List.mem_of_getElem? (i := 302) (by decide +kernel)) (by decide +kernel)
theorem mL_X6_56 : Cond.methodLink RX6 56 yX6_begin ∈ BIG := mB (List.mem_of_getElem? (i := 306) (by decide +kernel)) (by decide +kernel)
theorem mL_X6_74 : Cond.methodLink RX6 74 yX2_clear ∈ BIG := mB (List.mem_of_getElem? (i := 310) (by decide +kernel)) (by decide +kernel)
theorem mL_X6_77 : Cond.methodLink RX6 77 yX2_putLineBefore ∈ BIG := mB (List.mem_of_getElem? (i := 314) (by decide +kernel)) (by decide +kernel)
theorem mL_X2_19 : Cond.methodLink RX2 19 yX1_size ∈ BIG := mB (List.mem_of_getElem? (i := 318) (by decide +kernel)) (by decide +kernel)
theorem mL_X2_25 : Cond.methodLink RX2 25 yX1_mark ∈ BIG := mB (List.mem_of_getElem? (i := 319) (by decide +kernel)) (by decide +kernel)
theorem mL_X2_29 : Cond.methodLink RX2 29 yX2_putBefore ∈ BIG := mB (List.mem_of_getElem? (i := 320) (by decide +kernel)) (by decide +kernel)
theorem mL_X6_81 : Cond.methodLink RX6 81 yX2_beginsWithSlash ∈ BIG := mB (List.mem_of_getElem? (i := 324) (by decide +kernel)) (by decide +kernel)
theorem mL_X6_60 : Cond.methodLink RX6 60 yX6_hasName ∈ BIG := mB (List.mem_of_getElem? (i := 328) (by decide +kernel)) (by decide +kernel)
theorem mL_X6_95 : Cond.methodLink RX6 95 yX2_take ∈ BIG := mB (List.mem_of_getElem? (i := 332) (by decide +kernel)) (by decide +kernel)
theorem mL_X6_99 : Cond.methodLink RX6 99 yX2_isEmpty ∈ BIG := mB (List.mem_of_getElem? (i := 336) (by decide +kernel)) (by decide +kernel)
theorem mL_X6_63 : Cond.methodLink RX6 63 yX6_takeName ∈ BIG := mB (List.mem_of_getElem? (i := 340) (by decide +kernel)) (by decide +kernel)
theorem mL_X6_100 : Cond.methodLink RX6 100 yX2_size ∈ BIG := mB (List.mem_of_getElem? (i := 344) (by decide +kernel)) (by decide +kernel)
theorem mL_X6_103 : Cond.methodLink RX6 103 yX2_hasSlashesAlone ∈ BIG := mB (List.mem_of_getElem? (i := 348) (by decide +kernel)) (by decide +kernel)
theorem mL_X6_106 : Cond.methodLink RX6 106 yX4_isDirectory ∈ BIG := mB (List.mem_of_getElem? (i := 352) (by decide +kernel)) (by decide +kernel)
theorem mL_X6_112 : Cond.methodLink RX6 112 yX3_may ∈ BIG := mB (List.mem_of_getElem? (i := 356) (by decide +kernel)) (by decide +kernel)
theorem mL_X3_13 : Cond.methodLink RX3 13 yX4_mode ∈ BIG := mB (List.mem_of_getElem? (i := 360) (by decide +kernel)) (by decide +kernel)
theorem mL_X3_23 : Cond.methodLink RX3 23 yX4_owner ∈ BIG := mB (List.mem_of_getElem? (i := 364) (by decide +kernel)) (by decide +kernel)
theorem mL_X6_67 : Cond.methodLink RX6 67 yX6_passName ∈ BIG := mB (List.mem_of_getElem? (i := 368) (by decide +kernel)) (by decide +kernel)
theorem mG_X6_48 : Cond.constantLong RX6 48 11822 ∈ BIG := mB (List.mem_of_getElem? (i := 372) (by decide +kernel)) (by decide +kernel)
theorem mL_X6_116 : Cond.methodLink RX6 116 yX5_above ∈ BIG := mB (List.mem_of_getElem? (i := 373) (by decide +kernel)) (by decide +kernel)
theorem mL_X5_44 : Cond.methodLink RX5 44 yX5_ground ∈ BIG := mB (List.mem_of_getElem? (i := 377) (by decide +kernel)) (by decide +kernel)
theorem mL_X5_41 : Cond.methodLink RX5 41 yX5_mountedWithRoot ∈ BIG := mB (List.mem_of_getElem? (i := 381) (by decide +kernel)) (by decide +kernel)
theorem mL_X5_47 : Cond.methodLink RX5 47 yX4_parent ∈ BIG := mB (List.mem_of_getElem? (i := 385) (by decide +kernel)) (by decide +kernel)
theorem mL_X5_50 : Cond.methodLink RX5 50 yX5_top ∈ BIG := mB (List.mem_of_getElem? (i := 389) (by decide +kernel)) (by decide +kernel)
theorem mL_X5_38 : Cond.methodLink RX5 38 yX5_covering ∈ BIG := mB (List.mem_of_getElem? (i := 393) (by decide +kernel)) (by decide +kernel)
theorem mG_X6_46 : Cond.constantLong RX6 46 46 ∈ BIG := mB (List.mem_of_getElem? (i := 397) (by decide +kernel)) (by decide +kernel)
theorem mL_X6_122 : Cond.methodLink RX6 122 yX6_topUnder ∈ BIG := mB (List.mem_of_getElem? (i := 398) (by decide +kernel)) (by decide +kernel)
theorem mL_X6_137 : Cond.methodLink RX6 137 yX0_find ∈ BIG := mB (List.mem_of_getElem? (i := 402) (by decide +kernel)) (by decide +kernel)
theorem mL_X6_142 : Cond.methodLink RX6 142 yX0_object ∈ BIG := mB (List.mem_of_getElem? (i := 406) (by decide +kernel)) (by decide +kernel)
theorem mL_X6_146 : Cond.methodLink RX6 146 yX5_top ∈ BIG := mB (List.mem_of_getElem? (i := 410) (by decide +kernel)) (by decide +kernel)
theorem mL_X6_126 : Cond.methodLink RX6 126 yX4_isLink ∈ BIG := mB (List.mem_of_getElem? (i := 411) (by decide +kernel)) (by decide +kernel)
theorem mL_X6_129 : Cond.methodLink RX6 129 yX4_target ∈ BIG := mB (List.mem_of_getElem? (i := 415) (by decide +kernel)) (by decide +kernel)
theorem mL_X6_133 : Cond.methodLink RX6 133 yX6_passLink ∈ BIG := mB (List.mem_of_getElem? (i := 419) (by decide +kernel)) (by decide +kernel)
theorem mL_L_41 : Cond.methodLink RL 41 yX7_make ∈ BIG := mB (List.mem_of_getElem? (i := 423) (by decide +kernel)) (by decide +kernel)
theorem mL_X7_100 : Cond.methodLink RX7 100 yX7_mayBeMade ∈ BIG := mB (List.mem_of_getElem? (i := 427) (by decide +kernel)) (by decide +kernel)
theorem mL_X7_140 : Cond.methodLink RX7 140 yX1_isEmpty ∈ BIG := mB (List.mem_of_getElem? (i := 431) (by decide +kernel)) (by decide +kernel)
theorem mL_X7_143 : Cond.methodLink RX7 143 yX7_isMode ∈ BIG := mB (List.mem_of_getElem? (i := 432) (by decide +kernel)) (by decide +kernel)
theorem mL_X7_104 : Cond.methodLink RX7 104 yX7_comeToNewName ∈ BIG := mB (List.mem_of_getElem? (i := 435) (by decide +kernel)) (by decide +kernel)
theorem mL_X7_146 : Cond.methodLink RX7 146 yX1_hasSlashesAlone ∈ BIG := mB (List.mem_of_getElem? (i := 439) (by decide +kernel)) (by decide +kernel)
theorem mL_X7_149 : Cond.methodLink RX7 149 yX6_toLastName ∈ BIG := mB (List.mem_of_getElem? (i := 443) (by decide +kernel)) (by decide +kernel)
theorem mL_X7_153 : Cond.methodLink RX7 153 yX6_isOnDots ∈ BIG := mB (List.mem_of_getElem? (i := 447) (by decide +kernel)) (by decide +kernel)
theorem mL_X7_115 : Cond.methodLink RX7 115 yX6_place ∈ BIG := mB (List.mem_of_getElem? (i := 451) (by decide +kernel)) (by decide +kernel)
theorem mL_X7_133 : Cond.methodLink RX7 133 yX6_name ∈ BIG := mB (List.mem_of_getElem? (i := 455) (by decide +kernel)) (by decide +kernel)
theorem mL_X7_156 : Cond.methodLink RX7 156 yX0_find ∈ BIG := mB (List.mem_of_getElem? (i := 459) (by decide +kernel)) (by decide +kernel)
theorem mL_X7_160 : Cond.methodLink RX7 160 yX6_isSlashed ∈ BIG := mB (List.mem_of_getElem? (i := 460) (by decide +kernel)) (by decide +kernel)
theorem mL_X7_163 : Cond.methodLink RX7 163 yX3_may ∈ BIG := mB (List.mem_of_getElem? (i := 464) (by decide +kernel)) (by decide +kernel)
theorem mL_X7_108 : Cond.methodLink RX7 108 yX4_leastFree ∈ BIG := mB (List.mem_of_getElem? (i := 465) (by decide +kernel)) (by decide +kernel)
theorem mL_X7_111 : Cond.methodLink RX7 111 yX0_isFull ∈ BIG := mB (List.mem_of_getElem? (i := 469) (by decide +kernel)) (by decide +kernel)
theorem mL_X7_122 : Cond.methodLink RX7 122 yX4_volumeOf ∈ BIG := mB (List.mem_of_getElem? (i := 473) (by decide +kernel)) (by decide +kernel)
theorem mL_X7_125 : Cond.methodLink RX7 125 yX4_setParent ∈ BIG := mB (List.mem_of_getElem? (i := 477) (by decide +kernel)) (by decide +kernel)
theorem mL_X7_129 : Cond.methodLink RX7 129 yX4_setTarget ∈ BIG := mB (List.mem_of_getElem? (i := 481) (by decide +kernel)) (by decide +kernel)
theorem mL_X4_34 : Cond.methodLink RX4 34 yX1_copy ∈ BIG := mB (List.mem_of_getElem? (i := 486) (by decide +kernel)) (by decide +kernel)
theorem mL_X7_137 : Cond.methodLink RX7 137 yX0_add ∈ BIG := mB (List.mem_of_getElem? (i := 487) (by decide +kernel)) (by decide +kernel)
theorem mL_L_46 : Cond.methodLink RL 46 yX7_link ∈ BIG := mB (List.mem_of_getElem? (i := 491) (by decide +kernel)) (by decide +kernel)
theorem mL_X7_166 : Cond.methodLink RX7 166 yX4_isDirectory ∈ BIG := mB (List.mem_of_getElem? (i := 495) (by decide +kernel)) (by decide +kernel)
theorem mL_L_50 : Cond.methodLink RL 50 yX7_remove ∈ BIG := mB (List.mem_of_getElem? (i := 496) (by decide +kernel)) (by decide +kernel)
theorem mL_X7_169 : Cond.methodLink RX7 169 yX0_object ∈ BIG := mB (List.mem_of_getElem? (i := 500) (by decide +kernel)) (by decide +kernel)
theorem mL_X7_172 : Cond.methodLink RX7 172 yX7_whyNotRemove ∈ BIG := mB (List.mem_of_getElem? (i := 501) (by decide +kernel)) (by decide +kernel)
theorem mL_X7_185 : Cond.methodLink RX7 185 yX5_covering ∈ BIG := mB (List.mem_of_getElem? (i := 505) (by decide +kernel)) (by decide +kernel)
theorem mL_X7_194 : Cond.methodLink RX7 194 yX0_countIn ∈ BIG := mB (List.mem_of_getElem? (i := 506) (by decide +kernel)) (by decide +kernel)
theorem mL_X7_175 : Cond.methodLink RX7 175 yX0_drop ∈ BIG := mB (List.mem_of_getElem? (i := 510) (by decide +kernel)) (by decide +kernel)
theorem mL_X7_179 : Cond.methodLink RX7 179 yX0_countFor ∈ BIG := mB (List.mem_of_getElem? (i := 514) (by decide +kernel)) (by decide +kernel)
theorem mL_X7_182 : Cond.methodLink RX7 182 yX4_free ∈ BIG := mB (List.mem_of_getElem? (i := 518) (by decide +kernel)) (by decide +kernel)
theorem mL_L_54 : Cond.methodLink RL 54 yX7_volume ∈ BIG := mB (List.mem_of_getElem? (i := 522) (by decide +kernel)) (by decide +kernel)
theorem mL_X7_197 : Cond.methodLink RX7 197 yX5_isFull ∈ BIG := mB (List.mem_of_getElem? (i := 526) (by decide +kernel)) (by decide +kernel)
theorem mL_L_58 : Cond.methodLink RL 58 yX7_mount ∈ BIG := mB (List.mem_of_getElem? (i := 530) (by decide +kernel)) (by decide +kernel)
theorem mL_X7_198 : Cond.methodLink RX7 198 yX5_mayBeMounted ∈ BIG := mB (List.mem_of_getElem? (i := 534) (by decide +kernel)) (by decide +kernel)
theorem mL_X7_201 : Cond.methodLink RX7 201 yX5_isMounted ∈ BIG := mB (List.mem_of_getElem? (i := 538) (by decide +kernel)) (by decide +kernel)
theorem mL_X7_204 : Cond.methodLink RX7 204 yX7_isAtOrBelow ∈ BIG := mB (List.mem_of_getElem? (i := 542) (by decide +kernel)) (by decide +kernel)
theorem mL_X7_210 : Cond.methodLink RX7 210 yX5_above ∈ BIG := mB (List.mem_of_getElem? (i := 546) (by decide +kernel)) (by decide +kernel)
theorem mL_X7_207 : Cond.methodLink RX7 207 yX5_cover ∈ BIG := mB (List.mem_of_getElem? (i := 547) (by decide +kernel)) (by decide +kernel)
theorem mL_L_62 : Cond.methodLink RL 62 yX7_unmount ∈ BIG := mB (List.mem_of_getElem? (i := 551) (by decide +kernel)) (by decide +kernel)
theorem mL_X7_214 : Cond.methodLink RX7 214 yX5_mountedWithRoot ∈ BIG := mB (List.mem_of_getElem? (i := 555) (by decide +kernel)) (by decide +kernel)
theorem mL_X7_217 : Cond.methodLink RX7 217 yX5_hasCovered ∈ BIG := mB (List.mem_of_getElem? (i := 556) (by decide +kernel)) (by decide +kernel)
theorem mL_X5_32 : Cond.methodLink RX5 32 yX4_volumeOf ∈ BIG := mB (List.mem_of_getElem? (i := 560) (by decide +kernel)) (by decide +kernel)
theorem mL_X7_220 : Cond.methodLink RX7 220 yX5_uncover ∈ BIG := mB (List.mem_of_getElem? (i := 561) (by decide +kernel)) (by decide +kernel)
theorem mL_L_66 : Cond.methodLink RL 66 yX7_enter ∈ BIG := mB (List.mem_of_getElem? (i := 565) (by decide +kernel)) (by decide +kernel)
theorem mL_L_70 : Cond.methodLink RL 70 yX7_user ∈ BIG := mB (List.mem_of_getElem? (i := 569) (by decide +kernel)) (by decide +kernel)
theorem mL_L_74 : Cond.methodLink RL 74 yX7_change ∈ BIG := mB (List.mem_of_getElem? (i := 573) (by decide +kernel)) (by decide +kernel)
theorem mL_X7_223 : Cond.methodLink RX7 223 yX4_owner ∈ BIG := mB (List.mem_of_getElem? (i := 577) (by decide +kernel)) (by decide +kernel)
theorem mL_X7_226 : Cond.methodLink RX7 226 yX4_mode ∈ BIG := mB (List.mem_of_getElem? (i := 578) (by decide +kernel)) (by decide +kernel)
theorem mL_X7_229 : Cond.methodLink RX7 229 yX4_setMode ∈ BIG := mB (List.mem_of_getElem? (i := 579) (by decide +kernel)) (by decide +kernel)
theorem mL_L_78 : Cond.methodLink RL 78 yX7_path ∈ BIG := mB (List.mem_of_getElem? (i := 583) (by decide +kernel)) (by decide +kernel)
theorem mL_X7_232 : Cond.methodLink RX7 232 yX2_clear ∈ BIG := mB (List.mem_of_getElem? (i := 587) (by decide +kernel)) (by decide +kernel)
theorem mL_X7_233 : Cond.methodLink RX7 233 yX5_ground ∈ BIG := mB (List.mem_of_getElem? (i := 588) (by decide +kernel)) (by decide +kernel)
theorem mL_X7_236 : Cond.methodLink RX7 236 yX0_nameFor ∈ BIG := mB (List.mem_of_getElem? (i := 589) (by decide +kernel)) (by decide +kernel)
theorem mL_X7_240 : Cond.methodLink RX7 240 yX2_putNameBefore ∈ BIG := mB (List.mem_of_getElem? (i := 593) (by decide +kernel)) (by decide +kernel)
theorem mG_X2_33 : Cond.constantLong RX2 33 255 ∈ BIG := mB (List.mem_of_getElem? (i := 597) (by decide +kernel)) (by decide +kernel)
theorem mL_X7_244 : Cond.methodLink RX7 244 yX2_size ∈ BIG := mB (List.mem_of_getElem? (i := 598) (by decide +kernel)) (by decide +kernel)
theorem mL_X7_245 : Cond.methodLink RX7 245 yX2_isEmpty ∈ BIG := mB (List.mem_of_getElem? (i := 599) (by decide +kernel)) (by decide +kernel)
theorem mL_X7_246 : Cond.methodLink RX7 246 yX2_putBefore ∈ BIG := mB (List.mem_of_getElem? (i := 600) (by decide +kernel)) (by decide +kernel)
theorem mL_X7_249 : Cond.methodLink RX7 249 yX2_take ∈ BIG := mB (List.mem_of_getElem? (i := 601) (by decide +kernel)) (by decide +kernel)
theorem mL_L_82 : Cond.methodLink RL 82 yX7_kind ∈ BIG := mB (List.mem_of_getElem? (i := 602) (by decide +kernel)) (by decide +kernel)
theorem mL_X7_253 : Cond.methodLink RX7 253 yX4_sort ∈ BIG := mB (List.mem_of_getElem? (i := 606) (by decide +kernel)) (by decide +kernel)
theorem mL_L_86 : Cond.methodLink RL 86 yX7_about ∈ BIG := mB (List.mem_of_getElem? (i := 610) (by decide +kernel)) (by decide +kernel)
theorem mL_X7_256 : Cond.methodLink RX7 256 yX7_kind ∈ BIG := mB (List.mem_of_getElem? (i := 614) (by decide +kernel)) (by decide +kernel)
theorem mL_L_90 : Cond.methodLink RL 90 yX7_entry ∈ BIG := mB (List.mem_of_getElem? (i := 615) (by decide +kernel)) (by decide +kernel)
theorem mL_X7_259 : Cond.methodLink RX7 259 yX0_findNth ∈ BIG := mB (List.mem_of_getElem? (i := 619) (by decide +kernel)) (by decide +kernel)
theorem mQ_L_10 : Cond.classLink RL 10 RX8 ∈ BIG := mB (List.mem_of_getElem? (i := 623) (by decide +kernel)) (by decide +kernel)
theorem mL_L_12 : Cond.methodLink RL 12 yX8_init ∈ BIG := mB (List.mem_of_getElem? (i := 625) (by decide +kernel)) (by decide +kernel)
theorem mL_X8_1 : Cond.methodLink RX8 1 objectInit ∈ BIG := mB (List.mem_of_getElem? (i := 628) (by decide +kernel)) (by decide +kernel)
theorem mF_X8_7 : Cond.fieldLink RX8 7 RX8 "kinds" "[I" ∈ BIG := mB (List.mem_of_getElem? (i := 629) (by decide +kernel)) (by decide +kernel)
theorem mF_X8_13 : Cond.fieldLink RX8 13 RX8 "modes" "[I" ∈ BIG := mB (List.mem_of_getElem? (i := 630) (by decide +kernel)) (by decide +kernel)
theorem mF_X8_16 : Cond.fieldLink RX8 16 RX8 "owners" "[I" ∈ BIG := mB (List.mem_of_getElem? (i := 631) (by decide +kernel)) (by decide +kernel)
theorem mF_X8_19 : Cond.fieldLink RX8 19 RX8 "volumes" "[I" ∈ BIG := mB (List.mem_of_getElem? (i := 632) (by decide +kernel)) (by decide +kernel)
theorem mF_X8_22 : Cond.fieldLink RX8 22 RX8 "parents" "[I" ∈ BIG := mB (List.mem_of_getElem? (i := 633) (by decide +kernel)) (by decide +kernel)
theorem mF_X8_25 : Cond.fieldLink RX8 25 RX8 "linkText" "[I" ∈ BIG := mB (List.mem_of_getElem? (i := 634) (by decide +kernel)) (by decide +kernel)
theorem mF_X8_28 : Cond.fieldLink RX8 28 RX8 "linkLength" "[I" ∈ BIG := mB (List.mem_of_getElem? (i := 635) (by decide +kernel)) (by decide +kernel)
theorem mF_X8_82 : Cond.fieldLink RX8 82 RX8 "entries" "I" ∈ BIG := mB (List.mem_of_getElem? (i := 636) (by decide +kernel)) (by decide +kernel)
theorem mF_X8_31 : Cond.fieldLink RX8 31 RX8 "holder" "[I" ∈ BIG := mB (List.mem_of_getElem? (i := 637) (by decide +kernel)) (by decide +kernel)
theorem mF_X8_34 : Cond.fieldLink RX8 34 RX8 "names" "[J" ∈ BIG := mB (List.mem_of_getElem? (i := 638) (by decide +kernel)) (by decide +kernel)
theorem mF_X8_38 : Cond.fieldLink RX8 38 RX8 "held" "[I" ∈ BIG := mB (List.mem_of_getElem? (i := 639) (by decide +kernel)) (by decide +kernel)
theorem mF_X8_41 : Cond.fieldLink RX8 41 RX8 "volumeCount" "I" ∈ BIG := mB (List.mem_of_getElem? (i := 640) (by decide +kernel)) (by decide +kernel)
theorem mF_X8_45 : Cond.fieldLink RX8 45 RX8 "volumeRoot" "[I" ∈ BIG := mB (List.mem_of_getElem? (i := 641) (by decide +kernel)) (by decide +kernel)
theorem mF_X8_48 : Cond.fieldLink RX8 48 RX8 "covered" "[I" ∈ BIG := mB (List.mem_of_getElem? (i := 642) (by decide +kernel)) (by decide +kernel)
theorem mF_X8_66 : Cond.fieldLink RX8 66 RX8 "user" "I" ∈ BIG := mB (List.mem_of_getElem? (i := 643) (by decide +kernel)) (by decide +kernel)
theorem mF_X8_108 : Cond.fieldLink RX8 108 RX8 "root" "I" ∈ BIG := mB (List.mem_of_getElem? (i := 644) (by decide +kernel)) (by decide +kernel)
theorem mF_X8_111 : Cond.fieldLink RX8 111 RX8 "present" "I" ∈ BIG := mB (List.mem_of_getElem? (i := 645) (by decide +kernel)) (by decide +kernel)
theorem mF_X8_51 : Cond.fieldLink RX8 51 RX8 "text" "[I" ∈ BIG := mB (List.mem_of_getElem? (i := 646) (by decide +kernel)) (by decide +kernel)
theorem mF_X8_60 : Cond.fieldLink RX8 60 RX8 "size" "I" ∈ BIG := mB (List.mem_of_getElem? (i := 647) (by decide +kernel)) (by decide +kernel)
theorem mF_X8_54 : Cond.fieldLink RX8 54 RX8 "second" "[I" ∈ BIG := mB (List.mem_of_getElem? (i := 648) (by decide +kernel)) (by decide +kernel)
theorem mF_X8_63 : Cond.fieldLink RX8 63 RX8 "secondSize" "I" ∈ BIG := mB (List.mem_of_getElem? (i := 649) (by decide +kernel)) (by decide +kernel)
theorem mF_X8_57 : Cond.fieldLink RX8 57 RX8 "rest" "[I" ∈ BIG := mB (List.mem_of_getElem? (i := 650) (by decide +kernel)) (by decide +kernel)
theorem mF_X8_85 : Cond.fieldLink RX8 85 RX8 "restSize" "I" ∈ BIG := mB (List.mem_of_getElem? (i := 651) (by decide +kernel)) (by decide +kernel)
theorem mF_X8_114 : Cond.fieldLink RX8 114 RX8 "at" "I" ∈ BIG := mB (List.mem_of_getElem? (i := 652) (by decide +kernel)) (by decide +kernel)
theorem mF_X8_117 : Cond.fieldLink RX8 117 RX8 "hops" "I" ∈ BIG := mB (List.mem_of_getElem? (i := 653) (by decide +kernel)) (by decide +kernel)
theorem mF_X8_92 : Cond.fieldLink RX8 92 RX8 "name" "J" ∈ BIG := mB (List.mem_of_getElem? (i := 654) (by decide +kernel)) (by decide +kernel)
theorem mF_X8_98 : Cond.fieldLink RX8 98 RX8 "nameSize" "I" ∈ BIG := mB (List.mem_of_getElem? (i := 655) (by decide +kernel)) (by decide +kernel)
theorem mF_X8_105 : Cond.fieldLink RX8 105 RX8 "last" "Z" ∈ BIG := mB (List.mem_of_getElem? (i := 656) (by decide +kernel)) (by decide +kernel)
theorem mF_X8_101 : Cond.fieldLink RX8 101 RX8 "slashed" "Z" ∈ BIG := mB (List.mem_of_getElem? (i := 657) (by decide +kernel)) (by decide +kernel)
theorem mL_L_17 : Cond.methodLink RL 17 yX8_type ∈ BIG := mB (List.mem_of_getElem? (i := 717) (by decide +kernel)) (by decide +kernel)
theorem mL_L_21 : Cond.methodLink RL 21 yX8_wipe ∈ BIG := mB (List.mem_of_getElem? (i := 721) (by decide +kernel)) (by decide +kernel)
theorem mL_L_25 : Cond.methodLink RL 25 yX8_keep ∈ BIG := mB (List.mem_of_getElem? (i := 725) (by decide +kernel)) (by decide +kernel)
theorem mL_L_30 : Cond.methodLink RL 30 yX8_length ∈ BIG := mB (List.mem_of_getElem? (i := 729) (by decide +kernel)) (by decide +kernel)
theorem mL_L_35 : Cond.methodLink RL 35 yX8_at ∈ BIG := mB (List.mem_of_getElem? (i := 733) (by decide +kernel)) (by decide +kernel)
theorem mL_L_40 : Cond.methodLink RL 40 yX8_resolve ∈ BIG := mB (List.mem_of_getElem? (i := 737) (by decide +kernel)) (by decide +kernel)
theorem mL_X8_157 : Cond.methodLink RX8 157 yX8_walk ∈ BIG := mB (List.mem_of_getElem? (i := 741) (by decide +kernel)) (by decide +kernel)
theorem mL_X8_139 : Cond.methodLink RX8 139 yX8_begin ∈ BIG := mB (List.mem_of_getElem? (i := 745) (by decide +kernel)) (by decide +kernel)
theorem mL_X8_143 : Cond.methodLink RX8 143 yX8_takeSlashes ∈ BIG := mB (List.mem_of_getElem? (i := 749) (by decide +kernel)) (by decide +kernel)
theorem mL_X8_88 : Cond.methodLink RX8 88 yX8_dropRest ∈ BIG := mB (List.mem_of_getElem? (i := 753) (by decide +kernel)) (by decide +kernel)
theorem mL_X8_146 : Cond.methodLink RX8 146 yX8_takeName ∈ BIG := mB (List.mem_of_getElem? (i := 757) (by decide +kernel)) (by decide +kernel)
theorem mG_X8_96 : Cond.constantLong RX8 96 128 ∈ BIG := mB (List.mem_of_getElem? (i := 761) (by decide +kernel)) (by decide +kernel)
theorem mL_X8_149 : Cond.methodLink RX8 149 yX8_against ∈ BIG := mB (List.mem_of_getElem? (i := 762) (by decide +kernel)) (by decide +kernel)
theorem mL_X8_120 : Cond.methodLink RX8 120 yX8_may ∈ BIG := mB (List.mem_of_getElem? (i := 766) (by decide +kernel)) (by decide +kernel)
theorem mL_X8_153 : Cond.methodLink RX8 153 yX8_step ∈ BIG := mB (List.mem_of_getElem? (i := 770) (by decide +kernel)) (by decide +kernel)
theorem mG_X8_124 : Cond.constantLong RX8 124 5934 ∈ BIG := mB (List.mem_of_getElem? (i := 774) (by decide +kernel)) (by decide +kernel)
theorem mL_X8_126 : Cond.methodLink RX8 126 yX8_above ∈ BIG := mB (List.mem_of_getElem? (i := 775) (by decide +kernel)) (by decide +kernel)
theorem mL_X8_76 : Cond.methodLink RX8 76 yX8_seat ∈ BIG := mB (List.mem_of_getElem? (i := 779) (by decide +kernel)) (by decide +kernel)
theorem mL_X8_73 : Cond.methodLink RX8 73 yX8_mountedAt ∈ BIG := mB (List.mem_of_getElem? (i := 783) (by decide +kernel)) (by decide +kernel)
theorem mL_X8_79 : Cond.methodLink RX8 79 yX8_top ∈ BIG := mB (List.mem_of_getElem? (i := 787) (by decide +kernel)) (by decide +kernel)
theorem mL_X8_69 : Cond.methodLink RX8 69 yX8_coverOf ∈ BIG := mB (List.mem_of_getElem? (i := 791) (by decide +kernel)) (by decide +kernel)
theorem mG_X8_130 : Cond.constantLong RX8 130 46 ∈ BIG := mB (List.mem_of_getElem? (i := 795) (by decide +kernel)) (by decide +kernel)
theorem mL_X8_132 : Cond.methodLink RX8 132 yX8_find ∈ BIG := mB (List.mem_of_getElem? (i := 796) (by decide +kernel)) (by decide +kernel)
theorem mL_X8_136 : Cond.methodLink RX8 136 yX8_putBefore ∈ BIG := mB (List.mem_of_getElem? (i := 800) (by decide +kernel)) (by decide +kernel)
theorem mL_L_45 : Cond.methodLink RL 45 yX8_make ∈ BIG := mB (List.mem_of_getElem? (i := 804) (by decide +kernel)) (by decide +kernel)
theorem mL_X8_171 : Cond.methodLink RX8 171 yX8_newName ∈ BIG := mB (List.mem_of_getElem? (i := 808) (by decide +kernel)) (by decide +kernel)
theorem mL_X8_161 : Cond.methodLink RX8 161 yX8_slashesAlone ∈ BIG := mB (List.mem_of_getElem? (i := 812) (by decide +kernel)) (by decide +kernel)
theorem mL_X8_165 : Cond.methodLink RX8 165 yX8_come ∈ BIG := mB (List.mem_of_getElem? (i := 816) (by decide +kernel)) (by decide +kernel)
theorem mL_X8_168 : Cond.methodLink RX8 168 yX8_dots ∈ BIG := mB (List.mem_of_getElem? (i := 820) (by decide +kernel)) (by decide +kernel)
theorem mL_X8_174 : Cond.methodLink RX8 174 yX8_freeObject ∈ BIG := mB (List.mem_of_getElem? (i := 824) (by decide +kernel)) (by decide +kernel)
theorem mL_X8_177 : Cond.methodLink RX8 177 yX8_addEntry ∈ BIG := mB (List.mem_of_getElem? (i := 828) (by decide +kernel)) (by decide +kernel)
theorem mL_L_49 : Cond.methodLink RL 49 yX8_link ∈ BIG := mB (List.mem_of_getElem? (i := 832) (by decide +kernel)) (by decide +kernel)
theorem mL_L_53 : Cond.methodLink RL 53 yX8_remove ∈ BIG := mB (List.mem_of_getElem? (i := 836) (by decide +kernel)) (by decide +kernel)
theorem mL_X8_180 : Cond.methodLink RX8 180 yX8_entriesOf ∈ BIG := mB (List.mem_of_getElem? (i := 840) (by decide +kernel)) (by decide +kernel)
theorem mL_X8_183 : Cond.methodLink RX8 183 yX8_entriesFor ∈ BIG := mB (List.mem_of_getElem? (i := 844) (by decide +kernel)) (by decide +kernel)
theorem mL_L_57 : Cond.methodLink RL 57 yX8_volume ∈ BIG := mB (List.mem_of_getElem? (i := 848) (by decide +kernel)) (by decide +kernel)
theorem mL_L_61 : Cond.methodLink RL 61 yX8_mount ∈ BIG := mB (List.mem_of_getElem? (i := 852) (by decide +kernel)) (by decide +kernel)
theorem mL_X8_186 : Cond.methodLink RX8 186 yX8_below ∈ BIG := mB (List.mem_of_getElem? (i := 856) (by decide +kernel)) (by decide +kernel)
theorem mL_L_65 : Cond.methodLink RL 65 yX8_unmount ∈ BIG := mB (List.mem_of_getElem? (i := 860) (by decide +kernel)) (by decide +kernel)
theorem mL_L_69 : Cond.methodLink RL 69 yX8_enter ∈ BIG := mB (List.mem_of_getElem? (i := 864) (by decide +kernel)) (by decide +kernel)
theorem mL_L_73 : Cond.methodLink RL 73 yX8_user ∈ BIG := mB (List.mem_of_getElem? (i := 868) (by decide +kernel)) (by decide +kernel)
theorem mL_L_77 : Cond.methodLink RL 77 yX8_change ∈ BIG := mB (List.mem_of_getElem? (i := 872) (by decide +kernel)) (by decide +kernel)
theorem mL_L_81 : Cond.methodLink RL 81 yX8_path ∈ BIG := mB (List.mem_of_getElem? (i := 876) (by decide +kernel)) (by decide +kernel)
theorem mL_X8_189 : Cond.methodLink RX8 189 yX8_nameOf ∈ BIG := mB (List.mem_of_getElem? (i := 880) (by decide +kernel)) (by decide +kernel)
theorem mL_X8_193 : Cond.methodLink RX8 193 yX8_characters ∈ BIG := mB (List.mem_of_getElem? (i := 884) (by decide +kernel)) (by decide +kernel)
theorem mG_X8_197 : Cond.constantLong RX8 197 127 ∈ BIG := mB (List.mem_of_getElem? (i := 887) (by decide +kernel)) (by decide +kernel)
theorem mL_L_85 : Cond.methodLink RL 85 yX8_kind ∈ BIG := mB (List.mem_of_getElem? (i := 888) (by decide +kernel)) (by decide +kernel)
theorem mL_X8_199 : Cond.methodLink RX8 199 yX8_there ∈ BIG := mB (List.mem_of_getElem? (i := 892) (by decide +kernel)) (by decide +kernel)
theorem mL_L_89 : Cond.methodLink RL 89 yX8_about ∈ BIG := mB (List.mem_of_getElem? (i := 896) (by decide +kernel)) (by decide +kernel)
theorem mL_L_93 : Cond.methodLink RL 93 yX8_entry ∈ BIG := mB (List.mem_of_getElem? (i := 900) (by decide +kernel)) (by decide +kernel)
theorem mO_I : Cond.instanceMethod objectInit ∈ BIG := mB (List.mem_of_getElem? (i := 54) (by decide +kernel)) (by decide +kernel)
theorem mO_C : Cond.code objectInit ⟨#[0xb1]⟩ 1 none ∈ BIG := mB (List.mem_of_getElem? (i := 55) (by decide +kernel)) (by decide +kernel)
theorem mY_n : Cond.native arraycopyName ∈ BIG := mB (List.mem_of_getElem? (i := 277) (by decide +kernel)) (by decide +kernel)
theorem mY_s : Cond.static arraycopyName ∈ BIG := mB (List.mem_of_getElem? (i := 276) (by decide +kernel)) (by decide +kernel)
theorem mY_i : Cond.initialized "java/lang/System" ∈ BIG := mB (List.mem_of_getElem? (i := 47) (by decide +kernel)) (by decide +kernel)
def nestW : List Cond := [.methodLinkNest RX7 9 yX1_init RX7, .methodLinkNest RX7 21 yX2_init RX7, .methodLinkNest RX7 28 yX4_init RX7, .methodLinkNest RX7 35 yX0_init RX7, .fieldLinkNest RX7 118 RX3 "user" "I" RX7, .fieldLinkNest RX6 84 RX3 "root" "I" RX7, .fieldLinkNest RX7 188 RX3 "root" "I" RX7, .fieldLinkNest RX6 89 RX3 "present" "I" RX7, .fieldLinkNest RX7 191 RX3 "present" "I" RX7, .methodLinkNest RX6 11 yX2_init RX7, .methodLinkNest RX4 33 yX1_init RX7]
theorem nestT : ∀ w ∈ nestW, w ∈ lw_tbl := by
  intro w h
  simp only [nestW, List.mem_cons, List.not_mem_nil, or_false] at h
  rcases h with rfl | rfl | rfl | rfl | rfl | rfl | rfl | rfl | rfl | rfl | rfl
  · exact List.mem_of_getElem? (i := 58) (by decide +kernel)
  · exact List.mem_of_getElem? (i := 72) (by decide +kernel)
  · exact List.mem_of_getElem? (i := 85) (by decide +kernel)
  · exact List.mem_of_getElem? (i := 113) (by decide +kernel)
  · exact List.mem_of_getElem? (i := 161) (by decide +kernel)
  · exact List.mem_of_getElem? (i := 162) (by decide +kernel)
  · exact List.mem_of_getElem? (i := 163) (by decide +kernel)
  · exact List.mem_of_getElem? (i := 164) (by decide +kernel)
  · exact List.mem_of_getElem? (i := 165) (by decide +kernel)
  · exact List.mem_of_getElem? (i := 182) (by decide +kernel)
  · exact List.mem_of_getElem? (i := 485) (by decide +kernel)
def NW (U : State) : Prop := (∀ w ∈ nestW, va_Nw w U) ∧ va_AO RX1 U
theorem NW.warm {s U : State} (hW : s.WarmedH U.vm) (h : NW s) : NW U := by
  refine ⟨fun w hw => ?_, va_AO.moved hW.alike h.2⟩
  have hZ := h.1 w hw
  simp only [nestW, List.mem_cons, List.not_mem_nil, or_false] at hw
  rcases hw with rfl | rfl | rfl | rfl | rfl | rfl | rfl | rfl | rfl | rfl | rfl
  · exact va_Nw.warmM hW hZ
  · exact va_Nw.warmM hW hZ
  · exact va_Nw.warmM hW hZ
  · exact va_Nw.warmM hW hZ
  · exact va_Nw.warmF hW hZ
  · exact va_Nw.warmF hW hZ
  · exact va_Nw.warmF hW hZ
  · exact va_Nw.warmF hW hZ
  · exact va_Nw.warmF hW hZ
  · exact va_Nw.warmM hW hZ
  · exact va_Nw.warmM hW hZ
theorem NW.same {s U : State} (hv : s.vm = U.vm) (h : NW s) : NW U := by
  refine ⟨fun w hw => ?_, va_AO.moved (hv ▸ Vm.Alike.refl s.vm) h.2⟩
  have hZ := h.1 w hw
  simp only [nestW, List.mem_cons, List.not_mem_nil, or_false] at hw
  rcases hw with rfl | rfl | rfl | rfl | rfl | rfl | rfl | rfl | rfl | rfl | rfl
  · exact va_Nw.same rfl hv hZ
  · exact va_Nw.same rfl hv hZ
  · exact va_Nw.same rfl hv hZ
  · exact va_Nw.same rfl hv hZ
  · exact va_Nw.same rfl hv hZ
  · exact va_Nw.same rfl hv hZ
  · exact va_Nw.same rfl hv hZ
  · exact va_Nw.same rfl hv hZ
  · exact va_Nw.same rfl hv hZ
  · exact va_Nw.same rfl hv hZ
  · exact va_Nw.same rfl hv hZ
theorem aoT : Cond.arrayOver (.object RX1) ∈ lw_tbl := List.mem_of_getElem? (i := 90) (by decide +kernel)
theorem nw_0 {U : State} (h : NW U) : va_Nw (.methodLinkNest RX7 9 yX1_init RX7) U := h.1 _ (by simp [nestW])
theorem nw_1 {U : State} (h : NW U) : va_Nw (.methodLinkNest RX7 21 yX2_init RX7) U := h.1 _ (by simp [nestW])
theorem nw_2 {U : State} (h : NW U) : va_Nw (.methodLinkNest RX7 28 yX4_init RX7) U := h.1 _ (by simp [nestW])
theorem nw_3 {U : State} (h : NW U) : va_Nw (.methodLinkNest RX7 35 yX0_init RX7) U := h.1 _ (by simp [nestW])
theorem nw_4 {U : State} (h : NW U) : va_Nw (.fieldLinkNest RX7 118 RX3 "user" "I" RX7) U := h.1 _ (by simp [nestW])
theorem nw_5 {U : State} (h : NW U) : va_Nw (.fieldLinkNest RX6 84 RX3 "root" "I" RX7) U := h.1 _ (by simp [nestW])
theorem nw_6 {U : State} (h : NW U) : va_Nw (.fieldLinkNest RX7 188 RX3 "root" "I" RX7) U := h.1 _ (by simp [nestW])
theorem nw_7 {U : State} (h : NW U) : va_Nw (.fieldLinkNest RX6 89 RX3 "present" "I" RX7) U := h.1 _ (by simp [nestW])
theorem nw_8 {U : State} (h : NW U) : va_Nw (.fieldLinkNest RX7 191 RX3 "present" "I" RX7) U := h.1 _ (by simp [nestW])
theorem nw_9 {U : State} (h : NW U) : va_Nw (.methodLinkNest RX6 11 yX2_init RX7) U := h.1 _ (by simp [nestW])
theorem nw_10 {U : State} (h : NW U) : va_Nw (.methodLinkNest RX4 33 yX1_init RX7) U := h.1 _ (by simp [nestW])
