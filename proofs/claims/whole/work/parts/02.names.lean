def RX0 : String := "HeapVersions$Bags"
def TX0 : u_T := fun k => match k with
  | 0 => ("HeapVersions$Bags", "turns", "[I", true)
  | _ => ("HeapVersions$Bags", "sizes", "[I", true)
def tyX0 : Nat → FieldType := fun k => match k with
  | 0 => .array .int
  | _ => .array .int
abbrev wsX00 : List Cond := u_ws RX0 TX0 2
theorem nmX0 : ∀ a, a < 2 → ∀ b, b < 2 → a ≠ b → (TX0 a).2.1 ≠ (TX0 b).2.1 := by decide +kernel
theorem tyX0_ok : ∀ k, k < 2 → parseFieldDescriptor (TX0 k).2.2.1 = some (tyX0 k) := by decide +kernel
abbrev cX0_init : ByteArray := prog_2_method_1_code
def yX0_init : MethodName := ⟨RX0, "<init>", "()V"⟩
abbrev cX0_sizeOf : ByteArray := prog_2_method_2_code
def yX0_sizeOf : MethodName := ⟨RX0, "sizeOf", "(I)I"⟩
abbrev cX0_jobAt : ByteArray := prog_2_method_3_code
def yX0_jobAt : MethodName := ⟨RX0, "jobAt", "(II)I"⟩
abbrev cX0_timesOf : ByteArray := prog_2_method_4_code
def yX0_timesOf : MethodName := ⟨RX0, "timesOf", "(II)I"⟩
abbrev cX0_excess : ByteArray := prog_2_method_5_code
def yX0_excess : MethodName := ⟨RX0, "excess", "(II)I"⟩
abbrev cX0_make : ByteArray := prog_2_method_6_code
def yX0_make : MethodName := ⟨RX0, "make", "(IIIII)V"⟩
abbrev cX0_copy : ByteArray := prog_2_method_7_code
def yX0_copy : MethodName := ⟨RX0, "copy", "(III)V"⟩
abbrev cX0_copyWith : ByteArray := prog_2_method_8_code
def yX0_copyWith : MethodName := ⟨RX0, "copyWith", "(III)V"⟩
abbrev cX0_mix : ByteArray := prog_2_method_9_code
def yX0_mix : MethodName := ⟨RX0, "mix", "(III)V"⟩
abbrev cX0_append : ByteArray := prog_2_method_10_code
def yX0_append : MethodName := ⟨RX0, "append", "(II)V"⟩
abbrev cX0_turnAt : ByteArray := prog_2_method_11_code
def yX0_turnAt : MethodName := ⟨RX0, "turnAt", "(II)I"⟩
def RX1 : String := "HeapVersions$Cells"
def TX1 : u_T := fun k => match k with
  | 0 => ("HeapVersions$Cells", "turns", "[I", true)
  | 1 => ("HeapVersions$Cells", "ranks", "[I", true)
  | 2 => ("HeapVersions$Cells", "heads", "[I", true)
  | 3 => ("HeapVersions$Cells", "singles", "[I", true)
  | 4 => ("HeapVersions$Cells", "belows", "[I", true)
  | 5 => ("HeapVersions$Cells", "holds", "[I", true)
  | 6 => ("HeapVersions$Cells", "deeps", "[I", true)
  | 7 => ("HeapVersions$Cells", "firsts", "[I", true)
  | 8 => ("HeapVersions$Cells", "rests", "[I", true)
  | 9 => ("HeapVersions$Cells", "cells", "I", false)
  | _ => ("HeapVersions$Cells", "rows", "I", false)
def tyX1 : Nat → FieldType := fun k => match k with
  | 0 => .array .int
  | 1 => .array .int
  | 2 => .array .int
  | 3 => .array .int
  | 4 => .array .int
  | 5 => .array .int
  | 6 => .array .int
  | 7 => .array .int
  | 8 => .array .int
  | 9 => .int
  | _ => .int
abbrev wsX10 : List Cond := u_ws RX1 TX1 11
theorem nmX1 : ∀ a, a < 11 → ∀ b, b < 11 → a ≠ b → (TX1 a).2.1 ≠ (TX1 b).2.1 := by decide +kernel
theorem tyX1_ok : ∀ k, k < 11 → parseFieldDescriptor (TX1 k).2.2.1 = some (tyX1 k) := by decide +kernel
abbrev cX1_init : ByteArray := prog_3_method_1_code
def yX1_init : MethodName := ⟨RX1, "<init>", "()V"⟩
abbrev cX1_cells : ByteArray := prog_3_method_2_code
def yX1_cells : MethodName := ⟨RX1, "cells", "()I"⟩
abbrev cX1_rows : ByteArray := prog_3_method_3_code
def yX1_rows : MethodName := ⟨RX1, "rows", "()I"⟩
abbrev cX1_cut : ByteArray := prog_3_method_4_code
def yX1_cut : MethodName := ⟨RX1, "cut", "(II)V"⟩
abbrev cX1_row : ByteArray := prog_3_method_5_code
def yX1_row : MethodName := ⟨RX1, "row", "(II)I"⟩
abbrev cX1_heap : ByteArray := prog_3_method_6_code
def yX1_heap : MethodName := ⟨RX1, "heap", "(II)I"⟩
abbrev cX1_tree : ByteArray := prog_3_method_7_code
def yX1_tree : MethodName := ⟨RX1, "tree", "(IIIIII)I"⟩
abbrev cX1_turnOf : ByteArray := prog_3_method_8_code
def yX1_turnOf : MethodName := ⟨RX1, "turnOf", "(I)I"⟩
abbrev cX1_rankOf : ByteArray := prog_3_method_9_code
def yX1_rankOf : MethodName := ⟨RX1, "rankOf", "(I)I"⟩
abbrev cX1_headOf : ByteArray := prog_3_method_10_code
def yX1_headOf : MethodName := ⟨RX1, "headOf", "(I)I"⟩
abbrev cX1_singlesOf : ByteArray := prog_3_method_11_code
def yX1_singlesOf : MethodName := ⟨RX1, "singlesOf", "(I)I"⟩
abbrev cX1_belowOf : ByteArray := prog_3_method_12_code
def yX1_belowOf : MethodName := ⟨RX1, "belowOf", "(I)I"⟩
abbrev cX1_holdsOf : ByteArray := prog_3_method_13_code
def yX1_holdsOf : MethodName := ⟨RX1, "holdsOf", "(I)I"⟩
abbrev cX1_deepOf : ByteArray := prog_3_method_14_code
def yX1_deepOf : MethodName := ⟨RX1, "deepOf", "(I)I"⟩
abbrev cX1_firstOf : ByteArray := prog_3_method_15_code
def yX1_firstOf : MethodName := ⟨RX1, "firstOf", "(I)I"⟩
abbrev cX1_restOf : ByteArray := prog_3_method_16_code
def yX1_restOf : MethodName := ⟨RX1, "restOf", "(I)I"⟩
abbrev cX1_lengthOf : ByteArray := prog_3_method_17_code
def yX1_lengthOf : MethodName := ⟨RX1, "lengthOf", "(I)I"⟩
def RX2 : String := "HeapVersions$Heaps"
def TX2 : u_T := fun k => match k with
  | 0 => ("HeapVersions$Heaps", "law", "I", true)
  | 1 => ("HeapVersions$Heaps", "cells", "LHeapVersions$Cells;", true)
  | 2 => ("HeapVersions$Heaps", "heaps", "[I", true)
  | 3 => ("HeapVersions$Heaps", "linksMade", "[I", true)
  | 4 => ("HeapVersions$Heaps", "cellsAhead", "[I", true)
  | 5 => ("HeapVersions$Heaps", "rowsAhead", "[I", true)
  | 6 => ("HeapVersions$Heaps", "aside", "[I", true)
  | 7 => ("HeapVersions$Heaps", "count", "I", false)
  | 8 => ("HeapVersions$Heaps", "linked", "I", false)
  | _ => ("HeapVersions$Heaps", "linkedMost", "I", false)
def tyX2 : Nat → FieldType := fun k => match k with
  | 0 => .int
  | 1 => .object "HeapVersions$Cells"
  | 2 => .array .int
  | 3 => .array .int
  | 4 => .array .int
  | 5 => .array .int
  | 6 => .array .int
  | 7 => .int
  | 8 => .int
  | _ => .int
abbrev wsX20 : List Cond := u_ws RX2 TX2 10
theorem nmX2 : ∀ a, a < 10 → ∀ b, b < 10 → a ≠ b → (TX2 a).2.1 ≠ (TX2 b).2.1 := by decide +kernel
theorem tyX2_ok : ∀ k, k < 10 → parseFieldDescriptor (TX2 k).2.2.1 = some (tyX2 k) := by decide +kernel
abbrev cX2_init : ByteArray := prog_4_method_1_code
def yX2_init : MethodName := ⟨RX2, "<init>", "(I)V"⟩
abbrev cX2_cells : ByteArray := prog_4_method_2_code
def yX2_cells : MethodName := ⟨RX2, "cells", "()LHeapVersions$Cells;"⟩
abbrev cX2_heapOf : ByteArray := prog_4_method_3_code
def yX2_heapOf : MethodName := ⟨RX2, "heapOf", "(I)I"⟩
abbrev cX2_treesOf : ByteArray := prog_4_method_4_code
def yX2_treesOf : MethodName := ⟨RX2, "treesOf", "(I)I"⟩
abbrev cX2_treeOf : ByteArray := prog_4_method_5_code
def yX2_treeOf : MethodName := ⟨RX2, "treeOf", "(II)I"⟩
abbrev cX2_linksOf : ByteArray := prog_4_method_6_code
def yX2_linksOf : MethodName := ⟨RX2, "linksOf", "(I)I"⟩
abbrev cX2_linksOfAll : ByteArray := prog_4_method_7_code
def yX2_linksOfAll : MethodName := ⟨RX2, "linksOfAll", "()I"⟩
abbrev cX2_grow : ByteArray := prog_4_method_8_code
def yX2_grow : MethodName := ⟨RX2, "grow", "(IIII)V"⟩
abbrev cX2_cut : ByteArray := prog_4_method_9_code
def yX2_cut : MethodName := ⟨RX2, "cut", "(I)V"⟩
abbrev cX2_mostToEmpty : ByteArray := prog_4_method_10_code
def yX2_mostToEmpty : MethodName := ⟨RX2, "mostToEmpty", "(I)I"⟩
abbrev cX2_linksToEmpty : ByteArray := prog_4_method_11_code
def yX2_linksToEmpty : MethodName := ⟨RX2, "linksToEmpty", "(I)I"⟩
abbrev cX2_join : ByteArray := prog_4_method_12_code
def yX2_join : MethodName := ⟨RX2, "join", "(II)I"⟩
abbrev cX2_take : ByteArray := prog_4_method_13_code
def yX2_take : MethodName := ⟨RX2, "take", "(I)I"⟩
abbrev cX2_leastOf : ByteArray := prog_4_method_14_code
def yX2_leastOf : MethodName := ⟨RX2, "leastOf", "(I)I"⟩
abbrev cX2_turned : ByteArray := prog_4_method_15_code
def yX2_turned : MethodName := ⟨RX2, "turned", "(I)I"⟩
abbrev cX2_allBut : ByteArray := prog_4_method_16_code
def yX2_allBut : MethodName := ⟨RX2, "allBut", "(II)I"⟩
abbrev cX2_putInto : ByteArray := prog_4_method_17_code
def yX2_putInto : MethodName := ⟨RX2, "putInto", "(II)I"⟩
abbrev cX2_linkBeside : ByteArray := prog_4_method_18_code
def yX2_linkBeside : MethodName := ⟨RX2, "linkBeside", "(II)I"⟩
abbrev cX2_link : ByteArray := prog_4_method_19_code
def yX2_link : MethodName := ⟨RX2, "link", "(II)I"⟩
abbrev cX2_carry : ByteArray := prog_4_method_20_code
def yX2_carry : MethodName := ⟨RX2, "carry", "(II)I"⟩
abbrev cX2_merge : ByteArray := prog_4_method_21_code
def yX2_merge : MethodName := ⟨RX2, "merge", "(II)I"⟩
def RX3 : String := "HeapVersions$Jobs"
def TX3 : u_T := fun k => match k with
  | 0 => ("HeapVersions$Jobs", "keys", "[I", true)
  | 1 => ("HeapVersions$Jobs", "times", "[I", true)
  | _ => ("HeapVersions$Jobs", "count", "I", false)
def tyX3 : Nat → FieldType := fun k => match k with
  | 0 => .array .int
  | 1 => .array .int
  | _ => .int
abbrev wsX30 : List Cond := u_ws RX3 TX3 3
theorem nmX3 : ∀ a, a < 3 → ∀ b, b < 3 → a ≠ b → (TX3 a).2.1 ≠ (TX3 b).2.1 := by decide +kernel
theorem tyX3_ok : ∀ k, k < 3 → parseFieldDescriptor (TX3 k).2.2.1 = some (tyX3 k) := by decide +kernel
abbrev cX3_init : ByteArray := prog_5_method_1_code
def yX3_init : MethodName := ⟨RX3, "<init>", "()V"⟩
abbrev cX3_known : ByteArray := prog_5_method_2_code
def yX3_known : MethodName := ⟨RX3, "known", "()I"⟩
abbrev cX3_has : ByteArray := prog_5_method_3_code
def yX3_has : MethodName := ⟨RX3, "has", "(I)Z"⟩
abbrev cX3_add : ByteArray := prog_5_method_4_code
def yX3_add : MethodName := ⟨RX3, "add", "(II)I"⟩
abbrev cX3_cut : ByteArray := prog_5_method_5_code
def yX3_cut : MethodName := ⟨RX3, "cut", "(I)V"⟩
abbrev cX3_keyOf : ByteArray := prog_5_method_6_code
def yX3_keyOf : MethodName := ⟨RX3, "keyOf", "(I)I"⟩
abbrev cX3_timeOf : ByteArray := prog_5_method_7_code
def yX3_timeOf : MethodName := ⟨RX3, "timeOf", "(I)I"⟩
abbrev cX3_turnOf : ByteArray := prog_5_method_8_code
def yX3_turnOf : MethodName := ⟨RX3, "turnOf", "(I)I"⟩
abbrev cX3_jobOfTurn : ByteArray := prog_5_method_9_code
def yX3_jobOfTurn : MethodName := ⟨RX3, "jobOfTurn", "(I)I"⟩
def RX4 : String := "HeapVersions$Reader"
def TX4 : u_T := fun k => match k with
  | 0 => ("HeapVersions$Reader", "tokens", "LHeapVersions$Tokens;", true)
  | 1 => ("HeapVersions$Reader", "hows", "[I", true)
  | 2 => ("HeapVersions$Reader", "firsts", "[I", true)
  | 3 => ("HeapVersions$Reader", "seconds", "[I", true)
  | 4 => ("HeapVersions$Reader", "keys", "[I", true)
  | 5 => ("HeapVersions$Reader", "times", "[I", true)
  | 6 => ("HeapVersions$Reader", "sizes", "[I", true)
  | 7 => ("HeapVersions$Reader", "law", "I", false)
  | 8 => ("HeapVersions$Reader", "hands", "I", false)
  | 9 => ("HeapVersions$Reader", "lines", "I", false)
  | 10 => ("HeapVersions$Reader", "versions", "I", false)
  | 11 => ("HeapVersions$Reader", "fault", "I", false)
  | 12 => ("HeapVersions$Reader", "place", "I", false)
  | _ => ("HeapVersions$Reader", "spot", "I", false)
def tyX4 : Nat → FieldType := fun k => match k with
  | 0 => .object "HeapVersions$Tokens"
  | 1 => .array .int
  | 2 => .array .int
  | 3 => .array .int
  | 4 => .array .int
  | 5 => .array .int
  | 6 => .array .int
  | 7 => .int
  | 8 => .int
  | 9 => .int
  | 10 => .int
  | 11 => .int
  | 12 => .int
  | _ => .int
abbrev wsX40 : List Cond := u_ws RX4 TX4 14
theorem nmX4 : ∀ a, a < 14 → ∀ b, b < 14 → a ≠ b → (TX4 a).2.1 ≠ (TX4 b).2.1 := by decide +kernel
theorem tyX4_ok : ∀ k, k < 14 → parseFieldDescriptor (TX4 k).2.2.1 = some (tyX4 k) := by decide +kernel
abbrev cX4_init : ByteArray := prog_6_method_1_code
def yX4_init : MethodName := ⟨RX4, "<init>", "(LHeapVersions$Tape;)V"⟩
abbrev cX4_lawTold : ByteArray := prog_6_method_2_code
def yX4_lawTold : MethodName := ⟨RX4, "lawTold", "()I"⟩
abbrev cX4_handsTold : ByteArray := prog_6_method_3_code
def yX4_handsTold : MethodName := ⟨RX4, "handsTold", "()I"⟩
abbrev cX4_linesTold : ByteArray := prog_6_method_4_code
def yX4_linesTold : MethodName := ⟨RX4, "linesTold", "()I"⟩
abbrev cX4_versionsTold : ByteArray := prog_6_method_5_code
def yX4_versionsTold : MethodName := ⟨RX4, "versionsTold", "()I"⟩
abbrev cX4_faultFound : ByteArray := prog_6_method_6_code
def yX4_faultFound : MethodName := ⟨RX4, "faultFound", "()I"⟩
abbrev cX4_faultPlace : ByteArray := prog_6_method_7_code
def yX4_faultPlace : MethodName := ⟨RX4, "faultPlace", "()I"⟩
abbrev cX4_howOf : ByteArray := prog_6_method_8_code
def yX4_howOf : MethodName := ⟨RX4, "howOf", "(I)I"⟩
abbrev cX4_firstOf : ByteArray := prog_6_method_9_code
def yX4_firstOf : MethodName := ⟨RX4, "firstOf", "(I)I"⟩
abbrev cX4_secondOf : ByteArray := prog_6_method_10_code
def yX4_secondOf : MethodName := ⟨RX4, "secondOf", "(I)I"⟩
abbrev cX4_keyOf : ByteArray := prog_6_method_11_code
def yX4_keyOf : MethodName := ⟨RX4, "keyOf", "(I)I"⟩
abbrev cX4_timeOf : ByteArray := prog_6_method_12_code
def yX4_timeOf : MethodName := ⟨RX4, "timeOf", "(I)I"⟩
abbrev cX4_read : ByteArray := prog_6_method_13_code
def yX4_read : MethodName := ⟨RX4, "read", "()Z"⟩
abbrev cX4_readPlan : ByteArray := prog_6_method_14_code
def yX4_readPlan : MethodName := ⟨RX4, "readPlan", "()V"⟩
abbrev cX4_readOther : ByteArray := prog_6_method_15_code
def yX4_readOther : MethodName := ⟨RX4, "readOther", "()V"⟩
abbrev cX4_howOfWord : ByteArray := prog_6_method_16_code
def yX4_howOfWord : MethodName := ⟨RX4, "howOfWord", "()I"⟩
abbrev cX4_readNew : ByteArray := prog_6_method_17_code
def yX4_readNew : MethodName := ⟨RX4, "readNew", "()V"⟩
abbrev cX4_readPut : ByteArray := prog_6_method_18_code
def yX4_readPut : MethodName := ⟨RX4, "readPut", "()V"⟩
abbrev cX4_readJoin : ByteArray := prog_6_method_19_code
def yX4_readJoin : MethodName := ⟨RX4, "readJoin", "()V"⟩
abbrev cX4_readTake : ByteArray := prog_6_method_20_code
def yX4_readTake : MethodName := ⟨RX4, "readTake", "()V"⟩
abbrev cX4_keep : ByteArray := prog_6_method_21_code
def yX4_keep : MethodName := ⟨RX4, "keep", "(IIII)V"⟩
abbrev cX4_passWord : ByteArray := prog_6_method_22_code
def yX4_passWord : MethodName := ⟨RX4, "passWord", "(Ljava/lang/String;)V"⟩
abbrev cX4_passNumber : ByteArray := prog_6_method_23_code
def yX4_passNumber : MethodName := ⟨RX4, "passNumber", "(II)I"⟩
abbrev cX4_passSign : ByteArray := prog_6_method_24_code
def yX4_passSign : MethodName := ⟨RX4, "passSign", "()V"⟩
abbrev cX4_blame : ByteArray := prog_6_method_25_code
def yX4_blame : MethodName := ⟨RX4, "blame", "(II)V"⟩
def RX5 : String := "HeapVersions$Shop"
def TX5 : u_T := fun k => match k with
  | 0 => ("HeapVersions$Shop", "jobs", "LHeapVersions$Jobs;", true)
  | 1 => ("HeapVersions$Shop", "free", "[I", true)
  | 2 => ("HeapVersions$Shop", "doers", "[I", true)
  | 3 => ("HeapVersions$Shop", "moments", "[I", true)
  | 4 => ("HeapVersions$Shop", "size", "I", false)
  | 5 => ("HeapVersions$Shop", "last", "I", false)
  | 6 => ("HeapVersions$Shop", "late", "I", false)
  | 7 => ("HeapVersions$Shop", "lateTogether", "I", false)
  | _ => ("HeapVersions$Shop", "lateMost", "I", false)
def tyX5 : Nat → FieldType := fun k => match k with
  | 0 => .object "HeapVersions$Jobs"
  | 1 => .array .int
  | 2 => .array .int
  | 3 => .array .int
  | 4 => .int
  | 5 => .int
  | 6 => .int
  | 7 => .int
  | _ => .int
abbrev wsX50 : List Cond := u_ws RX5 TX5 9
theorem nmX5 : ∀ a, a < 9 → ∀ b, b < 9 → a ≠ b → (TX5 a).2.1 ≠ (TX5 b).2.1 := by decide +kernel
theorem tyX5_ok : ∀ k, k < 9 → parseFieldDescriptor (TX5 k).2.2.1 = some (tyX5 k) := by decide +kernel
abbrev cX5_init : ByteArray := prog_7_method_1_code
def yX5_init : MethodName := ⟨RX5, "<init>", "(LHeapVersions$Jobs;)V"⟩
abbrev cX5_last : ByteArray := prog_7_method_2_code
def yX5_last : MethodName := ⟨RX5, "last", "()I"⟩
abbrev cX5_late : ByteArray := prog_7_method_3_code
def yX5_late : MethodName := ⟨RX5, "late", "()I"⟩
abbrev cX5_lateTogether : ByteArray := prog_7_method_4_code
def yX5_lateTogether : MethodName := ⟨RX5, "lateTogether", "()I"⟩
abbrev cX5_lateMost : ByteArray := prog_7_method_5_code
def yX5_lateMost : MethodName := ⟨RX5, "lateMost", "()I"⟩
abbrev cX5_handOf : ByteArray := prog_7_method_6_code
def yX5_handOf : MethodName := ⟨RX5, "handOf", "(I)I"⟩
abbrev cX5_endOf : ByteArray := prog_7_method_7_code
def yX5_endOf : MethodName := ⟨RX5, "endOf", "(I)I"⟩
abbrev cX5_work : ByteArray := prog_7_method_8_code
def yX5_work : MethodName := ⟨RX5, "work", "(LHeapVersions$Bags;II)V"⟩
abbrev cX5_workOn : ByteArray := prog_7_method_9_code
def yX5_workOn : MethodName := ⟨RX5, "workOn", "(III)V"⟩
abbrev cX5_freeFirst : ByteArray := prog_7_method_10_code
def yX5_freeFirst : MethodName := ⟨RX5, "freeFirst", "(I)I"⟩
def RX6 : String := "HeapVersions$Story"
def TX6 : u_T := fun k => match k with
  | 0 => ("HeapVersions$Story", "hows", "[I", true)
  | 1 => ("HeapVersions$Story", "firsts", "[I", true)
  | 2 => ("HeapVersions$Story", "seconds", "[I", true)
  | 3 => ("HeapVersions$Story", "jobs", "[I", true)
  | 4 => ("HeapVersions$Story", "roots", "[I", true)
  | _ => ("HeapVersions$Story", "count", "I", false)
def tyX6 : Nat → FieldType := fun k => match k with
  | 0 => .array .int
  | 1 => .array .int
  | 2 => .array .int
  | 3 => .array .int
  | 4 => .array .int
  | _ => .int
abbrev wsX60 : List Cond := u_ws RX6 TX6 6
theorem nmX6 : ∀ a, a < 6 → ∀ b, b < 6 → a ≠ b → (TX6 a).2.1 ≠ (TX6 b).2.1 := by decide +kernel
theorem tyX6_ok : ∀ k, k < 6 → parseFieldDescriptor (TX6 k).2.2.1 = some (tyX6 k) := by decide +kernel
abbrev cX6_init : ByteArray := prog_8_method_1_code
def yX6_init : MethodName := ⟨RX6, "<init>", "()V"⟩
abbrev cX6_versions : ByteArray := prog_8_method_2_code
def yX6_versions : MethodName := ⟨RX6, "versions", "()I"⟩
abbrev cX6_howOf : ByteArray := prog_8_method_3_code
def yX6_howOf : MethodName := ⟨RX6, "howOf", "(I)I"⟩
abbrev cX6_firstOf : ByteArray := prog_8_method_4_code
def yX6_firstOf : MethodName := ⟨RX6, "firstOf", "(I)I"⟩
abbrev cX6_secondOf : ByteArray := prog_8_method_5_code
def yX6_secondOf : MethodName := ⟨RX6, "secondOf", "(I)I"⟩
abbrev cX6_jobOf : ByteArray := prog_8_method_6_code
def yX6_jobOf : MethodName := ⟨RX6, "jobOf", "(I)I"⟩
abbrev cX6_add : ByteArray := prog_8_method_7_code
def yX6_add : MethodName := ⟨RX6, "add", "(IIII)V"⟩
abbrev cX6_cut : ByteArray := prog_8_method_8_code
def yX6_cut : MethodName := ⟨RX6, "cut", "(I)V"⟩
abbrev cX6_putsFrom : ByteArray := prog_8_method_9_code
def yX6_putsFrom : MethodName := ⟨RX6, "putsFrom", "(I)I"⟩
abbrev cX6_madeOf : ByteArray := prog_8_method_10_code
def yX6_madeOf : MethodName := ⟨RX6, "madeOf", "(II)Z"⟩
abbrev cX6_rootsOf : ByteArray := prog_8_method_11_code
def yX6_rootsOf : MethodName := ⟨RX6, "rootsOf", "(I)I"⟩
abbrev cX6_withRoots : ByteArray := prog_8_method_12_code
def yX6_withRoots : MethodName := ⟨RX6, "withRoots", "(I)I"⟩
def RX7 : String := "HeapVersions$Tape"
def TX7 : u_T := fun k => match k with
  | 0 => ("HeapVersions$Tape", "bytes", "[I", true)
  | _ => ("HeapVersions$Tape", "length", "I", false)
def tyX7 : Nat → FieldType := fun k => match k with
  | 0 => .array .int
  | _ => .int
abbrev wsX70 : List Cond := u_ws RX7 TX7 2
theorem nmX7 : ∀ a, a < 2 → ∀ b, b < 2 → a ≠ b → (TX7 a).2.1 ≠ (TX7 b).2.1 := by decide +kernel
theorem tyX7_ok : ∀ k, k < 2 → parseFieldDescriptor (TX7 k).2.2.1 = some (tyX7 k) := by decide +kernel
abbrev cX7_init : ByteArray := prog_9_method_1_code
def yX7_init : MethodName := ⟨RX7, "<init>", "()V"⟩
abbrev cX7_length : ByteArray := prog_9_method_2_code
def yX7_length : MethodName := ⟨RX7, "length", "()I"⟩
abbrev cX7_byteAt : ByteArray := prog_9_method_3_code
def yX7_byteAt : MethodName := ⟨RX7, "byteAt", "(I)I"⟩
abbrev cX7_add : ByteArray := prog_9_method_4_code
def yX7_add : MethodName := ⟨RX7, "add", "(I)V"⟩
abbrev cX7_cut : ByteArray := prog_9_method_5_code
def yX7_cut : MethodName := ⟨RX7, "cut", "(I)V"⟩
def RX8 : String := "HeapVersions$Tokens"
def TX8 : u_T := fun k => match k with
  | 0 => ("HeapVersions$Tokens", "tape", "LHeapVersions$Tape;", true)
  | 1 => ("HeapVersions$Tokens", "kind", "I", false)
  | 2 => ("HeapVersions$Tokens", "start", "I", false)
  | 3 => ("HeapVersions$Tokens", "stop", "I", false)
  | _ => ("HeapVersions$Tokens", "value", "I", false)
def tyX8 : Nat → FieldType := fun k => match k with
  | 0 => .object "HeapVersions$Tape"
  | 1 => .int
  | 2 => .int
  | 3 => .int
  | _ => .int
abbrev wsX80 : List Cond := u_ws RX8 TX8 5
theorem nmX8 : ∀ a, a < 5 → ∀ b, b < 5 → a ≠ b → (TX8 a).2.1 ≠ (TX8 b).2.1 := by decide +kernel
theorem tyX8_ok : ∀ k, k < 5 → parseFieldDescriptor (TX8 k).2.2.1 = some (tyX8 k) := by decide +kernel
abbrev cX8_init : ByteArray := prog_10_method_1_code
def yX8_init : MethodName := ⟨RX8, "<init>", "(LHeapVersions$Tape;)V"⟩
abbrev cX8_kind : ByteArray := prog_10_method_2_code
def yX8_kind : MethodName := ⟨RX8, "kind", "()I"⟩
abbrev cX8_start : ByteArray := prog_10_method_3_code
def yX8_start : MethodName := ⟨RX8, "start", "()I"⟩
abbrev cX8_value : ByteArray := prog_10_method_4_code
def yX8_value : MethodName := ⟨RX8, "value", "()I"⟩
abbrev cX8_begin : ByteArray := prog_10_method_5_code
def yX8_begin : MethodName := ⟨RX8, "begin", "()V"⟩
abbrev cX8_move : ByteArray := prog_10_method_6_code
def yX8_move : MethodName := ⟨RX8, "move", "()V"⟩
abbrev cX8_isWord : ByteArray := prog_10_method_7_code
def yX8_isWord : MethodName := ⟨RX8, "isWord", "(Ljava/lang/String;)Z"⟩
abbrev cX8_passLetters : ByteArray := prog_10_method_8_code
def yX8_passLetters : MethodName := ⟨RX8, "passLetters", "()V"⟩
abbrev cX8_passDigits : ByteArray := prog_10_method_9_code
def yX8_passDigits : MethodName := ⟨RX8, "passDigits", "()V"⟩
abbrev cX8_isBlank : ByteArray := prog_10_method_10_code
def yX8_isBlank : MethodName := ⟨RX8, "isBlank", "(I)Z"⟩
abbrev cX8_isLetter : ByteArray := prog_10_method_11_code
def yX8_isLetter : MethodName := ⟨RX8, "isLetter", "(I)Z"⟩
abbrev cX8_isDigit : ByteArray := prog_10_method_12_code
def yX8_isDigit : MethodName := ⟨RX8, "isDigit", "(I)Z"⟩
def RX9 : String := "HeapVersions$Walk"
def TX9 : u_T := fun k => match k with
  | 0 => ("HeapVersions$Walk", "rounds", "[I", true)
  | 1 => ("HeapVersions$Walk", "row", "[I", true)
  | 2 => ("HeapVersions$Walk", "round", "I", false)
  | _ => ("HeapVersions$Walk", "count", "I", false)
def tyX9 : Nat → FieldType := fun k => match k with
  | 0 => .array .int
  | 1 => .array .int
  | 2 => .int
  | _ => .int
abbrev wsX90 : List Cond := u_ws RX9 TX9 4
theorem nmX9 : ∀ a, a < 4 → ∀ b, b < 4 → a ≠ b → (TX9 a).2.1 ≠ (TX9 b).2.1 := by decide +kernel
theorem tyX9_ok : ∀ k, k < 4 → parseFieldDescriptor (TX9 k).2.2.1 = some (tyX9 k) := by decide +kernel
abbrev cX9_init : ByteArray := prog_11_method_1_code
def yX9_init : MethodName := ⟨RX9, "<init>", "()V"⟩
abbrev cX9_begin : ByteArray := prog_11_method_2_code
def yX9_begin : MethodName := ⟨RX9, "begin", "()V"⟩
abbrev cX9_met : ByteArray := prog_11_method_3_code
def yX9_met : MethodName := ⟨RX9, "met", "()I"⟩
abbrev cX9_over : ByteArray := prog_11_method_4_code
def yX9_over : MethodName := ⟨RX9, "over", "(LHeapVersions$Cells;I)V"⟩
abbrev cX9_meetAll : ByteArray := prog_11_method_5_code
def yX9_meetAll : MethodName := ⟨RX9, "meetAll", "(LHeapVersions$Cells;I)V"⟩
abbrev cX9_meet : ByteArray := prog_11_method_6_code
def yX9_meet : MethodName := ⟨RX9, "meet", "(I)V"⟩
def RX10 : String := "HeapVersions"
def TX10 : u_T := fun k => match k with
  | 0 => ("HeapVersions", "tape", "LHeapVersions$Tape;", true)
  | 1 => ("HeapVersions", "reader", "LHeapVersions$Reader;", true)
  | 2 => ("HeapVersions", "jobs", "LHeapVersions$Jobs;", true)
  | 3 => ("HeapVersions", "story", "LHeapVersions$Story;", true)
  | 4 => ("HeapVersions", "bags", "LHeapVersions$Bags;", true)
  | 5 => ("HeapVersions", "supposed", "LHeapVersions$Bags;", true)
  | 6 => ("HeapVersions", "byLaw0", "LHeapVersions$Heaps;", true)
  | 7 => ("HeapVersions", "byLaw1", "LHeapVersions$Heaps;", true)
  | 8 => ("HeapVersions", "walk", "LHeapVersions$Walk;", true)
  | 9 => ("HeapVersions", "shop", "LHeapVersions$Shop;", true)
  | 10 => ("HeapVersions", "law", "I", false)
  | 11 => ("HeapVersions", "hands", "I", false)
  | 12 => ("HeapVersions", "lines", "I", false)
  | _ => ("HeapVersions", "told", "I", false)
def tyX10 : Nat → FieldType := fun k => match k with
  | 0 => .object "HeapVersions$Tape"
  | 1 => .object "HeapVersions$Reader"
  | 2 => .object "HeapVersions$Jobs"
  | 3 => .object "HeapVersions$Story"
  | 4 => .object "HeapVersions$Bags"
  | 5 => .object "HeapVersions$Bags"
  | 6 => .object "HeapVersions$Heaps"
  | 7 => .object "HeapVersions$Heaps"
  | 8 => .object "HeapVersions$Walk"
  | 9 => .object "HeapVersions$Shop"
  | 10 => .int
  | 11 => .int
  | 12 => .int
  | _ => .int
abbrev wsX100 : List Cond := u_ws RX10 TX10 14
theorem nmX10 : ∀ a, a < 14 → ∀ b, b < 14 → a ≠ b → (TX10 a).2.1 ≠ (TX10 b).2.1 := by decide +kernel
theorem tyX10_ok : ∀ k, k < 14 → parseFieldDescriptor (TX10 k).2.2.1 = some (tyX10 k) := by decide +kernel
abbrev cX10_init : ByteArray := prog_1_method_1_code
def yX10_init : MethodName := ⟨RX10, "<init>", "()V"⟩
abbrev cX10_feed : ByteArray := prog_1_method_2_code
def yX10_feed : MethodName := ⟨RX10, "feed", "(IIIII)I"⟩
abbrev cX10_end : ByteArray := prog_1_method_3_code
def yX10_end : MethodName := ⟨RX10, "end", "(I)I"⟩
abbrev cX10_plan : ByteArray := prog_1_method_4_code
def yX10_plan : MethodName := ⟨RX10, "plan", "()I"⟩
abbrev cX10_fault : ByteArray := prog_1_method_5_code
def yX10_fault : MethodName := ⟨RX10, "fault", "(I)I"⟩
abbrev cX10_count : ByteArray := prog_1_method_6_code
def yX10_count : MethodName := ⟨RX10, "count", "(I)I"⟩
abbrev cX10_version : ByteArray := prog_1_method_7_code
def yX10_version : MethodName := ⟨RX10, "version", "(II)I"⟩
abbrev cX10_job : ByteArray := prog_1_method_8_code
def yX10_job : MethodName := ⟨RX10, "job", "(II)I"⟩
abbrev cX10_size : ByteArray := prog_1_method_9_code
def yX10_size : MethodName := ⟨RX10, "size", "(I)I"⟩
abbrev cX10_least : ByteArray := prog_1_method_10_code
def yX10_least : MethodName := ⟨RX10, "least", "(I)I"⟩
abbrev cX10_place : ByteArray := prog_1_method_11_code
def yX10_place : MethodName := ⟨RX10, "place", "(II)I"⟩
abbrev cX10_times : ByteArray := prog_1_method_12_code
def yX10_times : MethodName := ⟨RX10, "times", "(II)I"⟩
abbrev cX10_trees : ByteArray := prog_1_method_13_code
def yX10_trees : MethodName := ⟨RX10, "trees", "(I)I"⟩
abbrev cX10_rank : ByteArray := prog_1_method_14_code
def yX10_rank : MethodName := ⟨RX10, "rank", "(II)I"⟩
abbrev cX10_holds : ByteArray := prog_1_method_15_code
def yX10_holds : MethodName := ⟨RX10, "holds", "(II)I"⟩
abbrev cX10_singles : ByteArray := prog_1_method_16_code
def yX10_singles : MethodName := ⟨RX10, "singles", "(II)I"⟩
abbrev cX10_head : ByteArray := prog_1_method_17_code
def yX10_head : MethodName := ⟨RX10, "head", "(II)I"⟩
abbrev cX10_depth : ByteArray := prog_1_method_18_code
def yX10_depth : MethodName := ⟨RX10, "depth", "(I)I"⟩
abbrev cX10_parts : ByteArray := prog_1_method_19_code
def yX10_parts : MethodName := ⟨RX10, "parts", "(I)I"⟩
abbrev cX10_own : ByteArray := prog_1_method_20_code
def yX10_own : MethodName := ⟨RX10, "own", "(I)I"⟩
abbrev cX10_shared : ByteArray := prog_1_method_21_code
def yX10_shared : MethodName := ⟨RX10, "shared", "(II)I"⟩
abbrev cX10_links : ByteArray := prog_1_method_22_code
def yX10_links : MethodName := ⟨RX10, "links", "(I)I"⟩
abbrev cX10_all : ByteArray := prog_1_method_23_code
def yX10_all : MethodName := ⟨RX10, "all", "()I"⟩
abbrev cX10_by : ByteArray := prog_1_method_24_code
def yX10_by : MethodName := ⟨RX10, "by", "(II)I"⟩
abbrev cX10_lean : ByteArray := prog_1_method_25_code
def yX10_lean : MethodName := ⟨RX10, "lean", "()I"⟩
abbrev cX10_drain : ByteArray := prog_1_method_26_code
def yX10_drain : MethodName := ⟨RX10, "drain", "(I)I"⟩
abbrev cX10_dearest : ByteArray := prog_1_method_27_code
def yX10_dearest : MethodName := ⟨RX10, "dearest", "(I)I"⟩
abbrev cX10_same : ByteArray := prog_1_method_28_code
def yX10_same : MethodName := ⟨RX10, "same", "(II)I"⟩
abbrev cX10_more : ByteArray := prog_1_method_29_code
def yX10_more : MethodName := ⟨RX10, "more", "(II)I"⟩
abbrev cX10_from : ByteArray := prog_1_method_30_code
def yX10_from : MethodName := ⟨RX10, "from", "(II)I"⟩
abbrev cX10_roots : ByteArray := prog_1_method_31_code
def yX10_roots : MethodName := ⟨RX10, "roots", "(I)I"⟩
abbrev cX10_without : ByteArray := prog_1_method_32_code
def yX10_without : MethodName := ⟨RX10, "without", "(II)I"⟩
abbrev cX10_left : ByteArray := prog_1_method_33_code
def yX10_left : MethodName := ⟨RX10, "left", "(II)I"⟩
abbrev cX10_done : ByteArray := prog_1_method_34_code
def yX10_done : MethodName := ⟨RX10, "done", "(II)I"⟩
abbrev cX10_hand : ByteArray := prog_1_method_35_code
def yX10_hand : MethodName := ⟨RX10, "hand", "(II)I"⟩
abbrev cX10_ends : ByteArray := prog_1_method_36_code
def yX10_ends : MethodName := ⟨RX10, "ends", "(II)I"⟩
abbrev cX10_hands : ByteArray := prog_1_method_37_code
def yX10_hands : MethodName := ⟨RX10, "hands", "(I)I"⟩
abbrev cX10_puts : ByteArray := prog_1_method_38_code
def yX10_puts : MethodName := ⟨RX10, "puts", "(III)I"⟩
abbrev cX10_joins : ByteArray := prog_1_method_39_code
def yX10_joins : MethodName := ⟨RX10, "joins", "(II)I"⟩
abbrev cX10_takes : ByteArray := prog_1_method_40_code
def yX10_takes : MethodName := ⟨RX10, "takes", "(I)I"⟩
abbrev cX10_undo : ByteArray := prog_1_method_41_code
def yX10_undo : MethodName := ⟨RX10, "undo", "()I"⟩
abbrev cX10_anew : ByteArray := prog_1_method_42_code
def yX10_anew : MethodName := ⟨RX10, "anew", "()I"⟩
abbrev cX10_has : ByteArray := prog_1_method_43_code
def yX10_has : MethodName := ⟨RX10, "has", "(I)Z"⟩
abbrev cX10_heaps : ByteArray := prog_1_method_44_code
def yX10_heaps : MethodName := ⟨RX10, "heaps", "()LHeapVersions$Heaps;"⟩
abbrev cX10_treeAt : ByteArray := prog_1_method_45_code
def yX10_treeAt : MethodName := ⟨RX10, "treeAt", "(II)I"⟩
abbrev cX10_walkOver : ByteArray := prog_1_method_46_code
def yX10_walkOver : MethodName := ⟨RX10, "walkOver", "(I)I"⟩
abbrev cX10_grow : ByteArray := prog_1_method_47_code
def yX10_grow : MethodName := ⟨RX10, "grow", "(IIIII)I"⟩
abbrev cX10_cutTo : ByteArray := prog_1_method_48_code
def yX10_cutTo : MethodName := ⟨RX10, "cutTo", "(I)V"⟩
abbrev cX10_suppose : ByteArray := prog_1_method_49_code
def yX10_suppose : MethodName := ⟨RX10, "suppose", "(II)Z"⟩
abbrev cX10_at : ByteArray := prog_1_method_50_code
def yX10_at : MethodName := ⟨RX10, "at", "([II)I"⟩
abbrev cX10_set : ByteArray := prog_1_method_51_code
def yX10_set : MethodName := ⟨RX10, "set", "([III)V"⟩
def RX11 : String := "HeapVersionsModel"
def TX11 : u_T := fun k => match k with
  | 0 => ("HeapVersionsModel", "mem", "[I", true)
  | 1 => ("HeapVersionsModel", "was", "[I", true)
  | 2 => ("HeapVersionsModel", "tape", "[I", true)
  | 3 => ("HeapVersionsModel", "taped", "I", false)
  | 4 => ("HeapVersionsModel", "faultKind", "I", false)
  | 5 => ("HeapVersionsModel", "faultPlace", "I", false)
  | 6 => ("HeapVersionsModel", "at", "I", false)
  | 7 => ("HeapVersionsModel", "begin", "I", false)
  | 8 => ("HeapVersionsModel", "token", "I", false)
  | 9 => ("HeapVersionsModel", "value", "I", false)
  | 10 => ("HeapVersionsModel", "bad", "Z", false)
  | 11 => ("HeapVersionsModel", "heapJob", "[I", true)
  | 12 => ("HeapVersionsModel", "heapTrees", "[I", true)
  | 13 => ("HeapVersionsModel", "heaps", "I", false)
  | 14 => ("HeapVersionsModel", "treeRank", "[I", true)
  | 15 => ("HeapVersionsModel", "treeHead", "[I", true)
  | 16 => ("HeapVersionsModel", "treeSingles", "[I", true)
  | 17 => ("HeapVersionsModel", "treeSubs", "[I", true)
  | 18 => ("HeapVersionsModel", "trees", "I", false)
  | 19 => ("HeapVersionsModel", "item", "[I", true)
  | 20 => ("HeapVersionsModel", "tail", "[I", true)
  | 21 => ("HeapVersionsModel", "linked", "I", false)
  | 22 => ("HeapVersionsModel", "links", "I", false)
  | 23 => ("HeapVersionsModel", "top", "[I", true)
  | 24 => ("HeapVersionsModel", "took", "[I", true)
  | 25 => ("HeapVersionsModel", "often", "[I", true)
  | 26 => ("HeapVersionsModel", "row", "[I", true)
  | 27 => ("HeapVersionsModel", "heapMark", "[I", true)
  | 28 => ("HeapVersionsModel", "treeMark", "[I", true)
  | 29 => ("HeapVersionsModel", "free", "[I", true)
  | 30 => ("HeapVersionsModel", "whose", "[I", true)
  | _ => ("HeapVersionsModel", "until", "[I", true)
def tyX11 : Nat → FieldType := fun k => match k with
  | 0 => .array .int
  | 1 => .array .int
  | 2 => .array .int
  | 3 => .int
  | 4 => .int
  | 5 => .int
  | 6 => .int
  | 7 => .int
  | 8 => .int
  | 9 => .int
  | 10 => .boolean
  | 11 => .array .int
  | 12 => .array .int
  | 13 => .int
  | 14 => .array .int
  | 15 => .array .int
  | 16 => .array .int
  | 17 => .array .int
  | 18 => .int
  | 19 => .array .int
  | 20 => .array .int
  | 21 => .int
  | 22 => .int
  | 23 => .array .int
  | 24 => .array .int
  | 25 => .array .int
  | 26 => .array .int
  | 27 => .array .int
  | 28 => .array .int
  | 29 => .array .int
  | 30 => .array .int
  | _ => .array .int
abbrev wsX110 : List Cond := u_ws RX11 TX11 32
theorem nmX11 : ∀ a, a < 32 → ∀ b, b < 32 → a ≠ b → (TX11 a).2.1 ≠ (TX11 b).2.1 := by decide +kernel
theorem tyX11_ok : ∀ k, k < 32 → parseFieldDescriptor (TX11 k).2.2.1 = some (tyX11 k) := by decide +kernel
abbrev cX11_in : ByteArray := prog_13_method_1_code
def yX11_in : MethodName := ⟨RX11, "in", "(JJJ)Z"⟩
abbrev cX11_init : ByteArray := prog_13_method_2_code
def yX11_init : MethodName := ⟨RX11, "<init>", "()V"⟩
abbrev cX11_feed : ByteArray := prog_13_method_3_code
def yX11_feed : MethodName := ⟨RX11, "feed", "(IIIII)I"⟩
abbrev cX11_end : ByteArray := prog_13_method_4_code
def yX11_end : MethodName := ⟨RX11, "end", "(I)I"⟩
abbrev cX11_isAt : ByteArray := prog_13_method_5_code
def yX11_isAt : MethodName := ⟨RX11, "isAt", "(II)Z"⟩
abbrev cX11_next : ByteArray := prog_13_method_6_code
def yX11_next : MethodName := ⟨RX11, "next", "()V"⟩
abbrev cX11_faults : ByteArray := prog_13_method_7_code
def yX11_faults : MethodName := ⟨RX11, "faults", "(I)V"⟩
abbrev cX11_isWord : ByteArray := prog_13_method_8_code
def yX11_isWord : MethodName := ⟨RX11, "isWord", "(Ljava/lang/String;)Z"⟩
abbrev cX11_passes : ByteArray := prog_13_method_9_code
def yX11_passes : MethodName := ⟨RX11, "passes", "(Z)V"⟩
abbrev cX11_reads : ByteArray := prog_13_method_10_code
def yX11_reads : MethodName := ⟨RX11, "reads", "(II)I"⟩
abbrev cX11_readsVersion : ByteArray := prog_13_method_11_code
def yX11_readsVersion : MethodName := ⟨RX11, "readsVersion", "(II)I"⟩
abbrev cX11_readsPlan : ByteArray := prog_13_method_12_code
def yX11_readsPlan : MethodName := ⟨RX11, "readsPlan", "()V"⟩
abbrev cX11_how : ByteArray := prog_13_method_13_code
def yX11_how : MethodName := ⟨RX11, "how", "()I"⟩
abbrev cX11_readsVersion_ : ByteArray := prog_13_method_14_code
def yX11_readsVersion_ : MethodName := ⟨RX11, "readsVersion", "()V"⟩
abbrev cX11_makes : ByteArray := prog_13_method_15_code
def yX11_makes : MethodName := ⟨RX11, "makes", "(IIIII)V"⟩
abbrev cX11_plan : ByteArray := prog_13_method_16_code
def yX11_plan : MethodName := ⟨RX11, "plan", "()I"⟩
abbrev cX11_fault : ByteArray := prog_13_method_17_code
def yX11_fault : MethodName := ⟨RX11, "fault", "(I)I"⟩
abbrev cX11_count : ByteArray := prog_13_method_18_code
def yX11_count : MethodName := ⟨RX11, "count", "(I)I"⟩
abbrev cX11_isVersion : ByteArray := prog_13_method_19_code
def yX11_isVersion : MethodName := ⟨RX11, "isVersion", "(I)Z"⟩
abbrev cX11_isJob : ByteArray := prog_13_method_20_code
def yX11_isJob : MethodName := ⟨RX11, "isJob", "(I)Z"⟩
abbrev cX11_version : ByteArray := prog_13_method_21_code
def yX11_version : MethodName := ⟨RX11, "version", "(II)I"⟩
abbrev cX11_jobOf : ByteArray := prog_13_method_22_code
def yX11_jobOf : MethodName := ⟨RX11, "jobOf", "(I)I"⟩
abbrev cX11_job : ByteArray := prog_13_method_23_code
def yX11_job : MethodName := ⟨RX11, "job", "(II)I"⟩
abbrev cX11_ahead : ByteArray := prog_13_method_24_code
def yX11_ahead : MethodName := ⟨RX11, "ahead", "(II)I"⟩
abbrev cX11_longOf : ByteArray := prog_13_method_25_code
def yX11_longOf : MethodName := ⟨RX11, "longOf", "(I)I"⟩
abbrev cX11_thingOf : ByteArray := prog_13_method_26_code
def yX11_thingOf : MethodName := ⟨RX11, "thingOf", "(II)I"⟩
abbrev cX11_heap : ByteArray := prog_13_method_27_code
def yX11_heap : MethodName := ⟨RX11, "heap", "(II)I"⟩
abbrev cX11_tree : ByteArray := prog_13_method_28_code
def yX11_tree : MethodName := ⟨RX11, "tree", "(IIII)I"⟩
abbrev cX11_isJobLess : ByteArray := prog_13_method_29_code
def yX11_isJobLess : MethodName := ⟨RX11, "isJobLess", "(II)Z"⟩
abbrev cX11_isLess : ByteArray := prog_13_method_30_code
def yX11_isLess : MethodName := ⟨RX11, "isLess", "(II)Z"⟩
abbrev cX11_link : ByteArray := prog_13_method_31_code
def yX11_link : MethodName := ⟨RX11, "link", "(II)I"⟩
abbrev cX11_carries : ByteArray := prog_13_method_32_code
def yX11_carries : MethodName := ⟨RX11, "carries", "(II)I"⟩
abbrev cX11_sets : ByteArray := prog_13_method_33_code
def yX11_sets : MethodName := ⟨RX11, "sets", "(III)I"⟩
abbrev cX11_settled : ByteArray := prog_13_method_34_code
def yX11_settled : MethodName := ⟨RX11, "settled", "(I)I"⟩
abbrev cX11_merges : ByteArray := prog_13_method_35_code
def yX11_merges : MethodName := ⟨RX11, "merges", "(II)I"⟩
abbrev cX11_goesTogether : ByteArray := prog_13_method_36_code
def yX11_goesTogether : MethodName := ⟨RX11, "goesTogether", "(II)I"⟩
abbrev cX11_joins : ByteArray := prog_13_method_37_code
def yX11_joins : MethodName := ⟨RX11, "joins", "(III)I"⟩
abbrev cX11_takes : ByteArray := prog_13_method_38_code
def yX11_takes : MethodName := ⟨RX11, "takes", "(II)I"⟩
abbrev cX11_withoutFirst : ByteArray := prog_13_method_39_code
def yX11_withoutFirst : MethodName := ⟨RX11, "withoutFirst", "(II)I"⟩
abbrev cX11_makesAll : ByteArray := prog_13_method_40_code
def yX11_makesAll : MethodName := ⟨RX11, "makesAll", "(II)V"⟩
abbrev cX11_heapOf : ByteArray := prog_13_method_41_code
def yX11_heapOf : MethodName := ⟨RX11, "heapOf", "(I)I"⟩
abbrev cX11_countsHeap : ByteArray := prog_13_method_42_code
def yX11_countsHeap : MethodName := ⟨RX11, "countsHeap", "(I)I"⟩
abbrev cX11_countsTree : ByteArray := prog_13_method_43_code
def yX11_countsTree : MethodName := ⟨RX11, "countsTree", "(I)I"⟩
abbrev cX11_counts : ByteArray := prog_13_method_44_code
def yX11_counts : MethodName := ⟨RX11, "counts", "(I)I"⟩
abbrev cX11_ordered : ByteArray := prog_13_method_45_code
def yX11_ordered : MethodName := ⟨RX11, "ordered", "(I)I"⟩
abbrev cX11_size : ByteArray := prog_13_method_46_code
def yX11_size : MethodName := ⟨RX11, "size", "(I)I"⟩
abbrev cX11_leastOf : ByteArray := prog_13_method_47_code
def yX11_leastOf : MethodName := ⟨RX11, "leastOf", "(I)I"⟩
abbrev cX11_least : ByteArray := prog_13_method_48_code
def yX11_least : MethodName := ⟨RX11, "least", "(I)I"⟩
abbrev cX11_place : ByteArray := prog_13_method_49_code
def yX11_place : MethodName := ⟨RX11, "place", "(II)I"⟩
abbrev cX11_times : ByteArray := prog_13_method_50_code
def yX11_times : MethodName := ⟨RX11, "times", "(II)I"⟩
abbrev cX11_queueOf : ByteArray := prog_13_method_51_code
def yX11_queueOf : MethodName := ⟨RX11, "queueOf", "(I)I"⟩
abbrev cX11_trees : ByteArray := prog_13_method_52_code
def yX11_trees : MethodName := ⟨RX11, "trees", "(I)I"⟩
abbrev cX11_treeAt : ByteArray := prog_13_method_53_code
def yX11_treeAt : MethodName := ⟨RX11, "treeAt", "(II)I"⟩
abbrev cX11_rank : ByteArray := prog_13_method_54_code
def yX11_rank : MethodName := ⟨RX11, "rank", "(II)I"⟩
abbrev cX11_holds : ByteArray := prog_13_method_55_code
def yX11_holds : MethodName := ⟨RX11, "holds", "(II)I"⟩
abbrev cX11_singles : ByteArray := prog_13_method_56_code
def yX11_singles : MethodName := ⟨RX11, "singles", "(II)I"⟩
abbrev cX11_head : ByteArray := prog_13_method_57_code
def yX11_head : MethodName := ⟨RX11, "head", "(II)I"⟩
abbrev cX11_deepOf : ByteArray := prog_13_method_58_code
def yX11_deepOf : MethodName := ⟨RX11, "deepOf", "(I)I"⟩
abbrev cX11_deepIn : ByteArray := prog_13_method_59_code
def yX11_deepIn : MethodName := ⟨RX11, "deepIn", "(I)I"⟩
abbrev cX11_depth : ByteArray := prog_13_method_60_code
def yX11_depth : MethodName := ⟨RX11, "depth", "(I)I"⟩
abbrev cX11_marks : ByteArray := prog_13_method_61_code
def yX11_marks : MethodName := ⟨RX11, "marks", "(II)V"⟩
abbrev cX11_marksTree : ByteArray := prog_13_method_62_code
def yX11_marksTree : MethodName := ⟨RX11, "marksTree", "(II)V"⟩
abbrev cX11_clears : ByteArray := prog_13_method_63_code
def yX11_clears : MethodName := ⟨RX11, "clears", "()V"⟩
abbrev cX11_marked : ByteArray := prog_13_method_64_code
def yX11_marked : MethodName := ⟨RX11, "marked", "(I)I"⟩
abbrev cX11_parts : ByteArray := prog_13_method_65_code
def yX11_parts : MethodName := ⟨RX11, "parts", "(I)I"⟩
abbrev cX11_own : ByteArray := prog_13_method_66_code
def yX11_own : MethodName := ⟨RX11, "own", "(I)I"⟩
abbrev cX11_shared : ByteArray := prog_13_method_67_code
def yX11_shared : MethodName := ⟨RX11, "shared", "(II)I"⟩
abbrev cX11_links : ByteArray := prog_13_method_68_code
def yX11_links : MethodName := ⟨RX11, "links", "(I)I"⟩
abbrev cX11_allBy : ByteArray := prog_13_method_69_code
def yX11_allBy : MethodName := ⟨RX11, "allBy", "(I)I"⟩
abbrev cX11_all : ByteArray := prog_13_method_70_code
def yX11_all : MethodName := ⟨RX11, "all", "()I"⟩
abbrev cX11_by : ByteArray := prog_13_method_71_code
def yX11_by : MethodName := ⟨RX11, "by", "(II)I"⟩
abbrev cX11_lean : ByteArray := prog_13_method_72_code
def yX11_lean : MethodName := ⟨RX11, "lean", "()I"⟩
abbrev cX11_drained : ByteArray := prog_13_method_73_code
def yX11_drained : MethodName := ⟨RX11, "drained", "(IZ)I"⟩
abbrev cX11_drain : ByteArray := prog_13_method_74_code
def yX11_drain : MethodName := ⟨RX11, "drain", "(I)I"⟩
abbrev cX11_dearest : ByteArray := prog_13_method_75_code
def yX11_dearest : MethodName := ⟨RX11, "dearest", "(I)I"⟩
abbrev cX11_moreOf : ByteArray := prog_13_method_76_code
def yX11_moreOf : MethodName := ⟨RX11, "moreOf", "(II)I"⟩
abbrev cX11_same : ByteArray := prog_13_method_77_code
def yX11_same : MethodName := ⟨RX11, "same", "(II)I"⟩
abbrev cX11_more : ByteArray := prog_13_method_78_code
def yX11_more : MethodName := ⟨RX11, "more", "(II)I"⟩
abbrev cX11_madeOf : ByteArray := prog_13_method_79_code
def yX11_madeOf : MethodName := ⟨RX11, "madeOf", "(I)I"⟩
abbrev cX11_isFrom : ByteArray := prog_13_method_80_code
def yX11_isFrom : MethodName := ⟨RX11, "isFrom", "(II)Z"⟩
abbrev cX11_from : ByteArray := prog_13_method_81_code
def yX11_from : MethodName := ⟨RX11, "from", "(II)I"⟩
abbrev cX11_roots : ByteArray := prog_13_method_82_code
def yX11_roots : MethodName := ⟨RX11, "roots", "(I)I"⟩
abbrev cX11_isPut : ByteArray := prog_13_method_83_code
def yX11_isPut : MethodName := ⟨RX11, "isPut", "(II)Z"⟩
abbrev cX11_without : ByteArray := prog_13_method_84_code
def yX11_without : MethodName := ⟨RX11, "without", "(II)I"⟩
abbrev cX11_left : ByteArray := prog_13_method_85_code
def yX11_left : MethodName := ⟨RX11, "left", "(II)I"⟩
abbrev cX11_does : ByteArray := prog_13_method_86_code
def yX11_does : MethodName := ⟨RX11, "does", "(II)I"⟩
abbrev cX11_done : ByteArray := prog_13_method_87_code
def yX11_done : MethodName := ⟨RX11, "done", "(II)I"⟩
abbrev cX11_hand : ByteArray := prog_13_method_88_code
def yX11_hand : MethodName := ⟨RX11, "hand", "(II)I"⟩
abbrev cX11_ends : ByteArray := prog_13_method_89_code
def yX11_ends : MethodName := ⟨RX11, "ends", "(II)I"⟩
abbrev cX11_hands : ByteArray := prog_13_method_90_code
def yX11_hands : MethodName := ⟨RX11, "hands", "(I)I"⟩
abbrev cX11_puts : ByteArray := prog_13_method_91_code
def yX11_puts : MethodName := ⟨RX11, "puts", "(III)I"⟩
abbrev cX11_acts : ByteArray := prog_13_method_92_code
def yX11_acts : MethodName := ⟨RX11, "acts", "(IIIIIZ)I"⟩
abbrev cX11_joins_ : ByteArray := prog_13_method_93_code
def yX11_joins_ : MethodName := ⟨RX11, "joins", "(II)I"⟩
abbrev cX11_takes_ : ByteArray := prog_13_method_94_code
def yX11_takes_ : MethodName := ⟨RX11, "takes", "(I)I"⟩
abbrev cX11_takesBack : ByteArray := prog_13_method_95_code
def yX11_takesBack : MethodName := ⟨RX11, "takesBack", "()V"⟩
abbrev cX11_undo : ByteArray := prog_13_method_96_code
def yX11_undo : MethodName := ⟨RX11, "undo", "()I"⟩
abbrev cX11_anew : ByteArray := prog_13_method_97_code
def yX11_anew : MethodName := ⟨RX11, "anew", "()I"⟩
def RJ6 : String := "java/lang/Integer"
def TJ6 : u_T := fun k => match k with
  | _ => ("", "", "", false)
def tyJ6 : Nat → FieldType := fun k => match k with
  | _ => .int
abbrev cJ6_compare_7cf53 : ByteArray := prog_14_method_40_code
def yJ6_compare_7cf53 : MethodName := ⟨RJ6, "compare", "(II)I"⟩
abbrev cJ6_bitCount_0f7a4 : ByteArray := prog_14_method_49_code
def yJ6_bitCount_0f7a4 : MethodName := ⟨RJ6, "bitCount", "(I)I"⟩
def RJ9 : String := "java/lang/Math"
def TJ9 : u_T := fun k => match k with
  | _ => ("", "", "", false)
def tyJ9 : Nat → FieldType := fun k => match k with
  | _ => .int
abbrev cJ9_max_7cf53 : ByteArray := prog_15_method_65_code
def yJ9_max_7cf53 : MethodName := ⟨RJ9, "max", "(II)I"⟩
abbrev cJ9_min_7cf53 : ByteArray := prog_15_method_69_code
def yJ9_min_7cf53 : MethodName := ⟨RJ9, "min", "(II)I"⟩
def RJ0 : String := "java/lang/String"
def TJ0 : u_T := fun k => match k with
  | _ => ("", "", "", false)
def tyJ0 : Nat → FieldType := fun k => match k with
  | _ => .int
abbrev cJ0_length_8abf5 : ByteArray := prog_16_method_54_code
def yJ0_length_8abf5 : MethodName := ⟨RJ0, "length", "()I"⟩
abbrev cJ0_charAt_5068e : ByteArray := prog_16_method_56_code
def yJ0_charAt_5068e : MethodName := ⟨RJ0, "charAt", "(I)C"⟩
abbrev cJ0_coder_7d493 : ByteArray := prog_16_method_152_code
def yJ0_coder_7d493 : MethodName := ⟨RJ0, "coder", "()B"⟩
abbrev cJ0_isLatin1_aae02 : ByteArray := prog_16_method_154_code
def yJ0_isLatin1_aae02 : MethodName := ⟨RJ0, "isLatin1", "()Z"⟩
abbrev cJ0_checkIndex_df160 : ByteArray := prog_16_method_155_code
def yJ0_checkIndex_df160 : MethodName := ⟨RJ0, "checkIndex", "(II)V"⟩
def RJ1 : String := "java/lang/StringLatin1"
def TJ1 : u_T := fun k => match k with
  | _ => ("", "", "", false)
def tyJ1 : Nat → FieldType := fun k => match k with
  | _ => .int
abbrev cJ1_charAt_3b067 : ByteArray := prog_17_method_2_code
def yJ1_charAt_3b067 : MethodName := ⟨RJ1, "charAt", "([BI)C"⟩
def RJ2 : String := "java/lang/StringUTF16"
def TJ2 : u_T := fun k => match k with
  | _ => ("", "", "", false)
def tyJ2 : Nat → FieldType := fun k => match k with
  | _ => .int
abbrev cJ2_getChar_3b067 : ByteArray := prog_18_method_5_code
def yJ2_getChar_3b067 : MethodName := ⟨RJ2, "getChar", "([BI)C"⟩
abbrev cJ2_length_9d52b : ByteArray := prog_18_method_6_code
def yJ2_length_9d52b : MethodName := ⟨RJ2, "length", "([B)I"⟩
abbrev cJ2_charAt_3b067 : ByteArray := prog_18_method_83_code
def yJ2_charAt_3b067 : MethodName := ⟨RJ2, "charAt", "([BI)C"⟩
abbrev cJ2_checkIndex_2214a : ByteArray := prog_18_method_91_code
def yJ2_checkIndex_2214a : MethodName := ⟨RJ2, "checkIndex", "(I[B)V"⟩
def RJ3 : String := "jdk/internal/util/Preconditions"
def TJ3 : u_T := fun k => match k with
  | _ => ("", "", "", false)
def tyJ3 : Nat → FieldType := fun k => match k with
  | _ => .int
abbrev cJ3_checkIndex_8e157 : ByteArray := prog_19_method_11_code
def yJ3_checkIndex_8e157 : MethodName := ⟨RJ3, "checkIndex", "(IILjava/util/function/BiFunction;)I"⟩
def RL : String := "HeapVersionsLaw"
abbrev cL_law : ByteArray := code
def yL_law : MethodName := ⟨RL, "law", "([I)Z"⟩
abbrev vwCl : List vw_C := [(RX0, TX0, 2), (RX1, TX1, 11), (RX2, TX2, 10), (RX3, TX3, 3), (RX4, TX4, 14), (RX5, TX5, 9), (RX6, TX6, 6), (RX7, TX7, 2), (RX8, TX8, 5), (RX9, TX9, 4), (RX10, TX10, 14), (RX11, TX11, 32)]
def hv_tbl : List Cond := lw_tbl.filter goodWord
theorem hv_inT {i : Nat} {w : Cond} (h : tables_1[i]? = some w) (g : goodWord w = true) : w ∈ hv_tbl := List.mem_filter.mpr ⟨List.mem_append_right _ (List.mem_of_getElem? h), g⟩
theorem hv_inP {i : Nat} {w : Cond} (h : (k2_sels lw_privs)[i]? = some w) (g : goodWord w = true) : w ∈ hv_tbl := List.mem_filter.mpr ⟨List.mem_append_left _ (List.mem_of_getElem? h), g⟩
theorem tw_good : ∀ w ∈ hv_tbl, goodWord w = true := fun w h => (List.mem_filter.mp h).2
theorem tw_0 : Cond.initialized RL ∈ hv_tbl := hv_inT (i := 0) (by decide +kernel) rfl
theorem tw_1 : Cond.initialized RX10 ∈ hv_tbl := hv_inT (i := 1) (by decide +kernel) rfl
theorem tw_2 : Cond.initialized RX7 ∈ hv_tbl := hv_inT (i := 2) (by decide +kernel) rfl
theorem tw_3 : Cond.initialized RX4 ∈ hv_tbl := hv_inT (i := 3) (by decide +kernel) rfl
theorem tw_4 : Cond.initialized RX8 ∈ hv_tbl := hv_inT (i := 4) (by decide +kernel) rfl
theorem tw_5 : Cond.initialized RX3 ∈ hv_tbl := hv_inT (i := 5) (by decide +kernel) rfl
theorem tw_6 : Cond.initialized RX6 ∈ hv_tbl := hv_inT (i := 6) (by decide +kernel) rfl
theorem tw_7 : Cond.initialized RX0 ∈ hv_tbl := hv_inT (i := 7) (by decide +kernel) rfl
theorem tw_8 : Cond.initialized RX2 ∈ hv_tbl := hv_inT (i := 8) (by decide +kernel) rfl
theorem tw_9 : Cond.initialized RX1 ∈ hv_tbl := hv_inT (i := 9) (by decide +kernel) rfl
theorem tw_10 : Cond.initialized RX9 ∈ hv_tbl := hv_inT (i := 10) (by decide +kernel) rfl
theorem tw_11 : Cond.initialized RX5 ∈ hv_tbl := hv_inT (i := 11) (by decide +kernel) rfl
theorem tw_12 : Cond.initialized RX11 ∈ hv_tbl := hv_inT (i := 12) (by decide +kernel) rfl
theorem tw_13 : Cond.initialized RJ9 ∈ hv_tbl := hv_inT (i := 13) (by decide +kernel) rfl
theorem tw_14 : Cond.initialized RJ0 ∈ hv_tbl := hv_inT (i := 14) (by decide +kernel) rfl
theorem tw_15 : Cond.initialized RJ1 ∈ hv_tbl := hv_inT (i := 15) (by decide +kernel) rfl
theorem tw_16 : Cond.initialized RJ3 ∈ hv_tbl := hv_inT (i := 16) (by decide +kernel) rfl
theorem tw_17 : Cond.initialized RJ2 ∈ hv_tbl := hv_inT (i := 17) (by decide +kernel) rfl
theorem tw_18 : Cond.initialized RJ6 ∈ hv_tbl := hv_inT (i := 18) (by decide +kernel) rfl
theorem tw_19 : Cond.classLink RL 7 RX10 ∈ hv_tbl := hv_inT (i := 19) (by decide +kernel) rfl
theorem tw_20 : Cond.instantiable RX10 14 ∈ hv_tbl := hv_inT (i := 20) (by decide +kernel) rfl
theorem tw_21 : Cond.methodLink RL 9 yX10_init ∈ hv_tbl := hv_inT (i := 21) (by decide +kernel) rfl
theorem tw_22 : Cond.instanceMethod yX10_init ∈ hv_tbl := hv_inT (i := 22) (by decide +kernel) rfl
theorem tw_23 : Cond.code yX10_init cX10_init 1 (none : Option FieldType) ∈ hv_tbl := hv_inT (i := 23) (by decide +kernel) rfl
theorem tw_24 : Cond.methodLink RX10 1 ⟨"java/lang/Object", "<init>", "()V"⟩ ∈ hv_tbl := hv_inT (i := 24) (by decide +kernel) rfl
theorem tw_25 : Cond.instanceMethod ⟨"java/lang/Object", "<init>", "()V"⟩ ∈ hv_tbl := hv_inT (i := 25) (by decide +kernel) rfl
theorem tw_26 : Cond.code ⟨"java/lang/Object", "<init>", "()V"⟩ object_method_1_code 1 (none : Option FieldType) ∈ hv_tbl := hv_inT (i := 26) (by decide +kernel) rfl
theorem tw_27 : Cond.classLink RX10 7 RX7 ∈ hv_tbl := hv_inT (i := 27) (by decide +kernel) rfl
theorem tw_28 : Cond.instantiable RX7 2 ∈ hv_tbl := hv_inT (i := 28) (by decide +kernel) rfl
theorem tw_30 : Cond.instanceMethod yX7_init ∈ hv_tbl := hv_inT (i := 30) (by decide +kernel) rfl
theorem tw_31 : Cond.code yX7_init cX7_init 1 (none : Option FieldType) ∈ hv_tbl := hv_inT (i := 31) (by decide +kernel) rfl
theorem tw_32 : Cond.methodLink RX7 3 ⟨"java/lang/Object", "<init>", "()V"⟩ ∈ hv_tbl := hv_inT (i := 32) (by decide +kernel) rfl
theorem tw_33 : Cond.fieldLink RX7 9 "HeapVersions$Tape" "bytes" "[I" ∈ hv_tbl := hv_inT (i := 33) (by decide +kernel) rfl
theorem tw_34 : Cond.fieldLink RX7 15 "HeapVersions$Tape" "length" "I" ∈ hv_tbl := hv_inT (i := 34) (by decide +kernel) rfl
theorem tw_40 : Cond.arrayClass FieldType.int ∈ hv_tbl := hv_inT (i := 40) (by decide +kernel) rfl
theorem tw_41 : Cond.classLink RX10 16 RX4 ∈ hv_tbl := hv_inT (i := 41) (by decide +kernel) rfl
theorem tw_42 : Cond.instantiable RX4 14 ∈ hv_tbl := hv_inT (i := 42) (by decide +kernel) rfl
theorem tw_43 : Cond.methodLink RX10 18 yX4_init ∈ hv_tbl := hv_inT (i := 43) (by decide +kernel) rfl
theorem tw_44 : Cond.instanceMethod yX4_init ∈ hv_tbl := hv_inT (i := 44) (by decide +kernel) rfl
theorem tw_45 : Cond.code yX4_init cX4_init 2 (none : Option FieldType) ∈ hv_tbl := hv_inT (i := 45) (by decide +kernel) rfl
theorem tw_46 : Cond.methodLink RX4 3 ⟨"java/lang/Object", "<init>", "()V"⟩ ∈ hv_tbl := hv_inT (i := 46) (by decide +kernel) rfl
theorem tw_47 : Cond.classLink RX4 30 RX8 ∈ hv_tbl := hv_inT (i := 47) (by decide +kernel) rfl
theorem tw_48 : Cond.instantiable RX8 5 ∈ hv_tbl := hv_inT (i := 48) (by decide +kernel) rfl
theorem tw_49 : Cond.methodLink RX4 32 yX8_init ∈ hv_tbl := hv_inT (i := 49) (by decide +kernel) rfl
theorem tw_50 : Cond.instanceMethod yX8_init ∈ hv_tbl := hv_inT (i := 50) (by decide +kernel) rfl
theorem tw_51 : Cond.code yX8_init cX8_init 2 (none : Option FieldType) ∈ hv_tbl := hv_inT (i := 51) (by decide +kernel) rfl
theorem tw_52 : Cond.methodLink RX8 1 ⟨"java/lang/Object", "<init>", "()V"⟩ ∈ hv_tbl := hv_inT (i := 52) (by decide +kernel) rfl
theorem tw_53 : Cond.fieldLink RX8 7 "HeapVersions$Tokens" "tape" "LHeapVersions$Tape;" ∈ hv_tbl := hv_inT (i := 53) (by decide +kernel) rfl
theorem tw_54 : Cond.fieldLink RX8 13 "HeapVersions$Tokens" "kind" "I" ∈ hv_tbl := hv_inT (i := 54) (by decide +kernel) rfl
theorem tw_55 : Cond.fieldLink RX8 17 "HeapVersions$Tokens" "start" "I" ∈ hv_tbl := hv_inT (i := 55) (by decide +kernel) rfl
theorem tw_56 : Cond.fieldLink RX8 23 "HeapVersions$Tokens" "stop" "I" ∈ hv_tbl := hv_inT (i := 56) (by decide +kernel) rfl
theorem tw_57 : Cond.fieldLink RX8 20 "HeapVersions$Tokens" "value" "I" ∈ hv_tbl := hv_inT (i := 57) (by decide +kernel) rfl
theorem tw_69 : Cond.fieldLink RX4 35 "HeapVersions$Reader" "tokens" "LHeapVersions$Tokens;" ∈ hv_tbl := hv_inT (i := 69) (by decide +kernel) rfl
theorem tw_70 : Cond.fieldLink RX4 9 "HeapVersions$Reader" "hows" "[I" ∈ hv_tbl := hv_inT (i := 70) (by decide +kernel) rfl
theorem tw_71 : Cond.fieldLink RX4 15 "HeapVersions$Reader" "firsts" "[I" ∈ hv_tbl := hv_inT (i := 71) (by decide +kernel) rfl
theorem tw_72 : Cond.fieldLink RX4 18 "HeapVersions$Reader" "seconds" "[I" ∈ hv_tbl := hv_inT (i := 72) (by decide +kernel) rfl
theorem tw_73 : Cond.fieldLink RX4 21 "HeapVersions$Reader" "keys" "[I" ∈ hv_tbl := hv_inT (i := 73) (by decide +kernel) rfl
theorem tw_74 : Cond.fieldLink RX4 24 "HeapVersions$Reader" "times" "[I" ∈ hv_tbl := hv_inT (i := 74) (by decide +kernel) rfl
theorem tw_75 : Cond.fieldLink RX4 27 "HeapVersions$Reader" "sizes" "[I" ∈ hv_tbl := hv_inT (i := 75) (by decide +kernel) rfl
theorem tw_76 : Cond.fieldLink RX4 43 "HeapVersions$Reader" "law" "I" ∈ hv_tbl := hv_inT (i := 76) (by decide +kernel) rfl
theorem tw_77 : Cond.fieldLink RX4 46 "HeapVersions$Reader" "hands" "I" ∈ hv_tbl := hv_inT (i := 77) (by decide +kernel) rfl
theorem tw_78 : Cond.fieldLink RX4 49 "HeapVersions$Reader" "lines" "I" ∈ hv_tbl := hv_inT (i := 78) (by decide +kernel) rfl
theorem tw_79 : Cond.fieldLink RX4 52 "HeapVersions$Reader" "versions" "I" ∈ hv_tbl := hv_inT (i := 79) (by decide +kernel) rfl
theorem tw_80 : Cond.fieldLink RX4 55 "HeapVersions$Reader" "fault" "I" ∈ hv_tbl := hv_inT (i := 80) (by decide +kernel) rfl
theorem tw_81 : Cond.fieldLink RX4 39 "HeapVersions$Reader" "place" "I" ∈ hv_tbl := hv_inT (i := 81) (by decide +kernel) rfl
theorem tw_82 : Cond.fieldLink RX4 131 "HeapVersions$Reader" "spot" "I" ∈ hv_tbl := hv_inT (i := 82) (by decide +kernel) rfl
theorem tw_112 : Cond.classLink RX10 25 RX3 ∈ hv_tbl := hv_inT (i := 112) (by decide +kernel) rfl
theorem tw_113 : Cond.instantiable RX3 3 ∈ hv_tbl := hv_inT (i := 113) (by decide +kernel) rfl
theorem tw_115 : Cond.instanceMethod yX3_init ∈ hv_tbl := hv_inT (i := 115) (by decide +kernel) rfl
theorem tw_116 : Cond.code yX3_init cX3_init 1 (none : Option FieldType) ∈ hv_tbl := hv_inT (i := 116) (by decide +kernel) rfl
theorem tw_117 : Cond.methodLink RX3 3 ⟨"java/lang/Object", "<init>", "()V"⟩ ∈ hv_tbl := hv_inT (i := 117) (by decide +kernel) rfl
theorem tw_118 : Cond.fieldLink RX3 9 "HeapVersions$Jobs" "keys" "[I" ∈ hv_tbl := hv_inT (i := 118) (by decide +kernel) rfl
theorem tw_119 : Cond.fieldLink RX3 15 "HeapVersions$Jobs" "times" "[I" ∈ hv_tbl := hv_inT (i := 119) (by decide +kernel) rfl
theorem tw_120 : Cond.fieldLink RX3 18 "HeapVersions$Jobs" "count" "I" ∈ hv_tbl := hv_inT (i := 120) (by decide +kernel) rfl
theorem tw_128 : Cond.classLink RX10 32 RX6 ∈ hv_tbl := hv_inT (i := 128) (by decide +kernel) rfl
theorem tw_129 : Cond.instantiable RX6 6 ∈ hv_tbl := hv_inT (i := 129) (by decide +kernel) rfl
theorem tw_131 : Cond.instanceMethod yX6_init ∈ hv_tbl := hv_inT (i := 131) (by decide +kernel) rfl
theorem tw_132 : Cond.code yX6_init cX6_init 1 (none : Option FieldType) ∈ hv_tbl := hv_inT (i := 132) (by decide +kernel) rfl
theorem tw_133 : Cond.methodLink RX6 3 ⟨"java/lang/Object", "<init>", "()V"⟩ ∈ hv_tbl := hv_inT (i := 133) (by decide +kernel) rfl
theorem tw_134 : Cond.fieldLink RX6 9 "HeapVersions$Story" "hows" "[I" ∈ hv_tbl := hv_inT (i := 134) (by decide +kernel) rfl
theorem tw_135 : Cond.fieldLink RX6 15 "HeapVersions$Story" "firsts" "[I" ∈ hv_tbl := hv_inT (i := 135) (by decide +kernel) rfl
theorem tw_136 : Cond.fieldLink RX6 18 "HeapVersions$Story" "seconds" "[I" ∈ hv_tbl := hv_inT (i := 136) (by decide +kernel) rfl
theorem tw_137 : Cond.fieldLink RX6 21 "HeapVersions$Story" "jobs" "[I" ∈ hv_tbl := hv_inT (i := 137) (by decide +kernel) rfl
theorem tw_138 : Cond.fieldLink RX6 24 "HeapVersions$Story" "roots" "[I" ∈ hv_tbl := hv_inT (i := 138) (by decide +kernel) rfl
theorem tw_139 : Cond.fieldLink RX6 27 "HeapVersions$Story" "count" "I" ∈ hv_tbl := hv_inT (i := 139) (by decide +kernel) rfl
theorem tw_153 : Cond.classLink RX10 39 RX0 ∈ hv_tbl := hv_inT (i := 153) (by decide +kernel) rfl
theorem tw_154 : Cond.instantiable RX0 2 ∈ hv_tbl := hv_inT (i := 154) (by decide +kernel) rfl
theorem tw_156 : Cond.instanceMethod yX0_init ∈ hv_tbl := hv_inT (i := 156) (by decide +kernel) rfl
theorem tw_157 : Cond.code yX0_init cX0_init 1 (none : Option FieldType) ∈ hv_tbl := hv_inT (i := 157) (by decide +kernel) rfl
theorem tw_158 : Cond.methodLink RX0 3 ⟨"java/lang/Object", "<init>", "()V"⟩ ∈ hv_tbl := hv_inT (i := 158) (by decide +kernel) rfl
theorem tw_159 : Cond.fieldLink RX0 9 "HeapVersions$Bags" "turns" "[I" ∈ hv_tbl := hv_inT (i := 159) (by decide +kernel) rfl
theorem tw_160 : Cond.fieldLink RX0 15 "HeapVersions$Bags" "sizes" "[I" ∈ hv_tbl := hv_inT (i := 160) (by decide +kernel) rfl
theorem tw_166 : Cond.classLink RX10 49 RX2 ∈ hv_tbl := hv_inT (i := 166) (by decide +kernel) rfl
theorem tw_167 : Cond.instantiable RX2 10 ∈ hv_tbl := hv_inT (i := 167) (by decide +kernel) rfl
theorem tw_168 : Cond.methodLink RX10 51 yX2_init ∈ hv_tbl := hv_inT (i := 168) (by decide +kernel) rfl
theorem tw_169 : Cond.instanceMethod yX2_init ∈ hv_tbl := hv_inT (i := 169) (by decide +kernel) rfl
theorem tw_170 : Cond.code yX2_init cX2_init 2 (none : Option FieldType) ∈ hv_tbl := hv_inT (i := 170) (by decide +kernel) rfl
theorem tw_171 : Cond.methodLink RX2 3 ⟨"java/lang/Object", "<init>", "()V"⟩ ∈ hv_tbl := hv_inT (i := 171) (by decide +kernel) rfl
theorem tw_172 : Cond.classLink RX2 9 RX1 ∈ hv_tbl := hv_inT (i := 172) (by decide +kernel) rfl
theorem tw_173 : Cond.instantiable RX1 11 ∈ hv_tbl := hv_inT (i := 173) (by decide +kernel) rfl
theorem tw_175 : Cond.instanceMethod yX1_init ∈ hv_tbl := hv_inT (i := 175) (by decide +kernel) rfl
theorem tw_176 : Cond.code yX1_init cX1_init 1 (none : Option FieldType) ∈ hv_tbl := hv_inT (i := 176) (by decide +kernel) rfl
theorem tw_177 : Cond.methodLink RX1 5 ⟨"java/lang/Object", "<init>", "()V"⟩ ∈ hv_tbl := hv_inT (i := 177) (by decide +kernel) rfl
theorem tw_178 : Cond.fieldLink RX1 11 "HeapVersions$Cells" "turns" "[I" ∈ hv_tbl := hv_inT (i := 178) (by decide +kernel) rfl
theorem tw_179 : Cond.fieldLink RX1 15 "HeapVersions$Cells" "ranks" "[I" ∈ hv_tbl := hv_inT (i := 179) (by decide +kernel) rfl
theorem tw_180 : Cond.fieldLink RX1 18 "HeapVersions$Cells" "heads" "[I" ∈ hv_tbl := hv_inT (i := 180) (by decide +kernel) rfl
theorem tw_181 : Cond.fieldLink RX1 21 "HeapVersions$Cells" "singles" "[I" ∈ hv_tbl := hv_inT (i := 181) (by decide +kernel) rfl
theorem tw_182 : Cond.fieldLink RX1 24 "HeapVersions$Cells" "belows" "[I" ∈ hv_tbl := hv_inT (i := 182) (by decide +kernel) rfl
theorem tw_183 : Cond.fieldLink RX1 27 "HeapVersions$Cells" "holds" "[I" ∈ hv_tbl := hv_inT (i := 183) (by decide +kernel) rfl
theorem tw_184 : Cond.fieldLink RX1 30 "HeapVersions$Cells" "deeps" "[I" ∈ hv_tbl := hv_inT (i := 184) (by decide +kernel) rfl
theorem tw_185 : Cond.fieldLink RX1 33 "HeapVersions$Cells" "firsts" "[I" ∈ hv_tbl := hv_inT (i := 185) (by decide +kernel) rfl
theorem tw_186 : Cond.fieldLink RX1 36 "HeapVersions$Cells" "rests" "[I" ∈ hv_tbl := hv_inT (i := 186) (by decide +kernel) rfl
theorem tw_187 : Cond.fieldLink RX1 39 "HeapVersions$Cells" "cells" "I" ∈ hv_tbl := hv_inT (i := 187) (by decide +kernel) rfl
theorem tw_188 : Cond.fieldLink RX1 43 "HeapVersions$Cells" "rows" "I" ∈ hv_tbl := hv_inT (i := 188) (by decide +kernel) rfl
theorem tw_212 : Cond.fieldLink RX2 34 "HeapVersions$Heaps" "law" "I" ∈ hv_tbl := hv_inT (i := 212) (by decide +kernel) rfl
theorem tw_213 : Cond.fieldLink RX2 12 "HeapVersions$Heaps" "cells" "LHeapVersions$Cells;" ∈ hv_tbl := hv_inT (i := 213) (by decide +kernel) rfl
theorem tw_214 : Cond.fieldLink RX2 18 "HeapVersions$Heaps" "heaps" "[I" ∈ hv_tbl := hv_inT (i := 214) (by decide +kernel) rfl
theorem tw_215 : Cond.fieldLink RX2 22 "HeapVersions$Heaps" "linksMade" "[I" ∈ hv_tbl := hv_inT (i := 215) (by decide +kernel) rfl
theorem tw_216 : Cond.fieldLink RX2 25 "HeapVersions$Heaps" "cellsAhead" "[I" ∈ hv_tbl := hv_inT (i := 216) (by decide +kernel) rfl
theorem tw_217 : Cond.fieldLink RX2 28 "HeapVersions$Heaps" "rowsAhead" "[I" ∈ hv_tbl := hv_inT (i := 217) (by decide +kernel) rfl
theorem tw_218 : Cond.fieldLink RX2 31 "HeapVersions$Heaps" "aside" "[I" ∈ hv_tbl := hv_inT (i := 218) (by decide +kernel) rfl
theorem tw_219 : Cond.fieldLink RX2 58 "HeapVersions$Heaps" "count" "I" ∈ hv_tbl := hv_inT (i := 219) (by decide +kernel) rfl
theorem tw_220 : Cond.fieldLink RX2 74 "HeapVersions$Heaps" "linked" "I" ∈ hv_tbl := hv_inT (i := 220) (by decide +kernel) rfl
theorem tw_221 : Cond.fieldLink RX2 94 "HeapVersions$Heaps" "linkedMost" "I" ∈ hv_tbl := hv_inT (i := 221) (by decide +kernel) rfl
theorem tw_243 : Cond.classLink RX10 61 RX9 ∈ hv_tbl := hv_inT (i := 243) (by decide +kernel) rfl
theorem tw_244 : Cond.instantiable RX9 4 ∈ hv_tbl := hv_inT (i := 244) (by decide +kernel) rfl
theorem tw_246 : Cond.instanceMethod yX9_init ∈ hv_tbl := hv_inT (i := 246) (by decide +kernel) rfl
theorem tw_247 : Cond.code yX9_init cX9_init 1 (none : Option FieldType) ∈ hv_tbl := hv_inT (i := 247) (by decide +kernel) rfl
theorem tw_248 : Cond.methodLink RX9 1 ⟨"java/lang/Object", "<init>", "()V"⟩ ∈ hv_tbl := hv_inT (i := 248) (by decide +kernel) rfl
theorem tw_249 : Cond.fieldLink RX9 9 "HeapVersions$Walk" "rounds" "[I" ∈ hv_tbl := hv_inT (i := 249) (by decide +kernel) rfl
theorem tw_250 : Cond.fieldLink RX9 15 "HeapVersions$Walk" "row" "[I" ∈ hv_tbl := hv_inT (i := 250) (by decide +kernel) rfl
theorem tw_251 : Cond.fieldLink RX9 18 "HeapVersions$Walk" "round" "I" ∈ hv_tbl := hv_inT (i := 251) (by decide +kernel) rfl
theorem tw_252 : Cond.fieldLink RX9 22 "HeapVersions$Walk" "count" "I" ∈ hv_tbl := hv_inT (i := 252) (by decide +kernel) rfl
theorem tw_262 : Cond.classLink RX10 68 RX5 ∈ hv_tbl := hv_inT (i := 262) (by decide +kernel) rfl
theorem tw_263 : Cond.instantiable RX5 9 ∈ hv_tbl := hv_inT (i := 263) (by decide +kernel) rfl
theorem tw_264 : Cond.methodLink RX10 70 yX5_init ∈ hv_tbl := hv_inT (i := 264) (by decide +kernel) rfl
theorem tw_265 : Cond.instanceMethod yX5_init ∈ hv_tbl := hv_inT (i := 265) (by decide +kernel) rfl
theorem tw_266 : Cond.code yX5_init cX5_init 2 (none : Option FieldType) ∈ hv_tbl := hv_inT (i := 266) (by decide +kernel) rfl
theorem tw_267 : Cond.methodLink RX5 3 ⟨"java/lang/Object", "<init>", "()V"⟩ ∈ hv_tbl := hv_inT (i := 267) (by decide +kernel) rfl
theorem tw_268 : Cond.fieldLink RX5 21 "HeapVersions$Shop" "jobs" "LHeapVersions$Jobs;" ∈ hv_tbl := hv_inT (i := 268) (by decide +kernel) rfl
theorem tw_269 : Cond.fieldLink RX5 9 "HeapVersions$Shop" "free" "[I" ∈ hv_tbl := hv_inT (i := 269) (by decide +kernel) rfl
theorem tw_270 : Cond.fieldLink RX5 15 "HeapVersions$Shop" "doers" "[I" ∈ hv_tbl := hv_inT (i := 270) (by decide +kernel) rfl
theorem tw_271 : Cond.fieldLink RX5 18 "HeapVersions$Shop" "moments" "[I" ∈ hv_tbl := hv_inT (i := 271) (by decide +kernel) rfl
theorem tw_272 : Cond.fieldLink RX5 38 "HeapVersions$Shop" "size" "I" ∈ hv_tbl := hv_inT (i := 272) (by decide +kernel) rfl
theorem tw_273 : Cond.fieldLink RX5 25 "HeapVersions$Shop" "last" "I" ∈ hv_tbl := hv_inT (i := 273) (by decide +kernel) rfl
theorem tw_274 : Cond.fieldLink RX5 29 "HeapVersions$Shop" "late" "I" ∈ hv_tbl := hv_inT (i := 274) (by decide +kernel) rfl
theorem tw_275 : Cond.fieldLink RX5 32 "HeapVersions$Shop" "lateTogether" "I" ∈ hv_tbl := hv_inT (i := 275) (by decide +kernel) rfl
theorem tw_276 : Cond.fieldLink RX5 35 "HeapVersions$Shop" "lateMost" "I" ∈ hv_tbl := hv_inT (i := 276) (by decide +kernel) rfl
theorem tw_296 : Cond.fieldLink RX10 10 "HeapVersions" "tape" "LHeapVersions$Tape;" ∈ hv_tbl := hv_inT (i := 296) (by decide +kernel) rfl
theorem tw_297 : Cond.fieldLink RX10 21 "HeapVersions" "reader" "LHeapVersions$Reader;" ∈ hv_tbl := hv_inT (i := 297) (by decide +kernel) rfl
theorem tw_298 : Cond.fieldLink RX10 28 "HeapVersions" "jobs" "LHeapVersions$Jobs;" ∈ hv_tbl := hv_inT (i := 298) (by decide +kernel) rfl
theorem tw_299 : Cond.fieldLink RX10 35 "HeapVersions" "story" "LHeapVersions$Story;" ∈ hv_tbl := hv_inT (i := 299) (by decide +kernel) rfl
theorem tw_300 : Cond.fieldLink RX10 42 "HeapVersions" "bags" "LHeapVersions$Bags;" ∈ hv_tbl := hv_inT (i := 300) (by decide +kernel) rfl
theorem tw_301 : Cond.fieldLink RX10 46 "HeapVersions" "supposed" "LHeapVersions$Bags;" ∈ hv_tbl := hv_inT (i := 301) (by decide +kernel) rfl
theorem tw_302 : Cond.fieldLink RX10 54 "HeapVersions" "byLaw0" "LHeapVersions$Heaps;" ∈ hv_tbl := hv_inT (i := 302) (by decide +kernel) rfl
theorem tw_303 : Cond.fieldLink RX10 58 "HeapVersions" "byLaw1" "LHeapVersions$Heaps;" ∈ hv_tbl := hv_inT (i := 303) (by decide +kernel) rfl
theorem tw_304 : Cond.fieldLink RX10 64 "HeapVersions" "walk" "LHeapVersions$Walk;" ∈ hv_tbl := hv_inT (i := 304) (by decide +kernel) rfl
theorem tw_305 : Cond.fieldLink RX10 73 "HeapVersions" "shop" "LHeapVersions$Shop;" ∈ hv_tbl := hv_inT (i := 305) (by decide +kernel) rfl
theorem tw_306 : Cond.fieldLink RX10 97 "HeapVersions" "law" "I" ∈ hv_tbl := hv_inT (i := 306) (by decide +kernel) rfl
theorem tw_307 : Cond.fieldLink RX10 104 "HeapVersions" "hands" "I" ∈ hv_tbl := hv_inT (i := 307) (by decide +kernel) rfl
theorem tw_308 : Cond.fieldLink RX10 110 "HeapVersions" "lines" "I" ∈ hv_tbl := hv_inT (i := 308) (by decide +kernel) rfl
theorem tw_309 : Cond.fieldLink RX10 116 "HeapVersions" "told" "I" ∈ hv_tbl := hv_inT (i := 309) (by decide +kernel) rfl
theorem tw_339 : Cond.methodLink RL 13 yX10_feed ∈ hv_tbl := hv_inT (i := 339) (by decide +kernel) rfl
theorem tw_340 : Cond.instanceMethod yX10_feed ∈ hv_tbl := hv_inT (i := 340) (by decide +kernel) rfl
theorem tw_341 : Cond.selects RX10 yX10_feed yX10_feed ∈ hv_tbl := hv_inT (i := 341) (by decide +kernel) rfl
theorem tw_342 : Cond.code yX10_feed cX10_feed 6 (some FieldType.int) ∈ hv_tbl := hv_inT (i := 342) (by decide +kernel) rfl
theorem tw_343 : Cond.methodLink RX10 77 yX7_length ∈ hv_tbl := hv_inT (i := 343) (by decide +kernel) rfl
theorem tw_344 : Cond.instanceMethod yX7_length ∈ hv_tbl := hv_inT (i := 344) (by decide +kernel) rfl
theorem tw_345 : Cond.selects RX7 yX7_length yX7_length ∈ hv_tbl := hv_inT (i := 345) (by decide +kernel) rfl
theorem tw_346 : Cond.code yX7_length cX7_length 1 (some FieldType.int) ∈ hv_tbl := hv_inT (i := 346) (by decide +kernel) rfl
theorem tw_347 : Cond.methodLink RX10 81 yX7_add ∈ hv_tbl := hv_inT (i := 347) (by decide +kernel) rfl
theorem tw_348 : Cond.instanceMethod yX7_add ∈ hv_tbl := hv_inT (i := 348) (by decide +kernel) rfl
theorem tw_349 : Cond.selects RX7 yX7_add yX7_add ∈ hv_tbl := hv_inT (i := 349) (by decide +kernel) rfl
theorem tw_350 : Cond.code yX7_add cX7_add 3 (none : Option FieldType) ∈ hv_tbl := hv_inT (i := 350) (by decide +kernel) rfl
theorem tw_352 : Cond.static yX10_set ∈ hv_tbl := hv_inT (i := 352) (by decide +kernel) rfl
theorem tw_353 : Cond.code yX10_set cX10_set 3 (none : Option FieldType) ∈ hv_tbl := hv_inT (i := 353) (by decide +kernel) rfl
theorem tw_354 : Cond.methodLink RL 18 yX10_end ∈ hv_tbl := hv_inT (i := 354) (by decide +kernel) rfl
theorem tw_355 : Cond.instanceMethod yX10_end ∈ hv_tbl := hv_inT (i := 355) (by decide +kernel) rfl
theorem tw_356 : Cond.selects RX10 yX10_end yX10_end ∈ hv_tbl := hv_inT (i := 356) (by decide +kernel) rfl
theorem tw_357 : Cond.code yX10_end cX10_end 2 (some FieldType.int) ∈ hv_tbl := hv_inT (i := 357) (by decide +kernel) rfl
theorem tw_358 : Cond.methodLink RX10 84 yX7_cut ∈ hv_tbl := hv_inT (i := 358) (by decide +kernel) rfl
theorem tw_359 : Cond.instanceMethod yX7_cut ∈ hv_tbl := hv_inT (i := 359) (by decide +kernel) rfl
theorem tw_360 : Cond.selects RX7 yX7_cut yX7_cut ∈ hv_tbl := hv_inT (i := 360) (by decide +kernel) rfl
theorem tw_361 : Cond.code yX7_cut cX7_cut 2 (none : Option FieldType) ∈ hv_tbl := hv_inT (i := 361) (by decide +kernel) rfl
theorem tw_362 : Cond.methodLink RL 23 yX10_plan ∈ hv_tbl := hv_inT (i := 362) (by decide +kernel) rfl
theorem tw_363 : Cond.instanceMethod yX10_plan ∈ hv_tbl := hv_inT (i := 363) (by decide +kernel) rfl
theorem tw_364 : Cond.selects RX10 yX10_plan yX10_plan ∈ hv_tbl := hv_inT (i := 364) (by decide +kernel) rfl
theorem tw_365 : Cond.code yX10_plan cX10_plan 3 (some FieldType.int) ∈ hv_tbl := hv_inT (i := 365) (by decide +kernel) rfl
theorem tw_366 : Cond.methodLink RX10 87 yX4_read ∈ hv_tbl := hv_inT (i := 366) (by decide +kernel) rfl
theorem tw_367 : Cond.instanceMethod yX4_read ∈ hv_tbl := hv_inT (i := 367) (by decide +kernel) rfl
theorem tw_368 : Cond.selects RX4 yX4_read yX4_read ∈ hv_tbl := hv_inT (i := 368) (by decide +kernel) rfl
theorem tw_369 : Cond.code yX4_read cX4_read 2 (some FieldType.boolean) ∈ hv_tbl := hv_inT (i := 369) (by decide +kernel) rfl
theorem tw_370 : Cond.methodLink RX4 62 yX8_begin ∈ hv_tbl := hv_inT (i := 370) (by decide +kernel) rfl
theorem tw_371 : Cond.instanceMethod yX8_begin ∈ hv_tbl := hv_inT (i := 371) (by decide +kernel) rfl
theorem tw_372 : Cond.selects RX8 yX8_begin yX8_begin ∈ hv_tbl := hv_inT (i := 372) (by decide +kernel) rfl
theorem tw_373 : Cond.code yX8_begin cX8_begin 1 (none : Option FieldType) ∈ hv_tbl := hv_inT (i := 373) (by decide +kernel) rfl
theorem tw_374 : Cond.methodLink RX8 26 yX8_move ∈ hv_tbl := hv_inT (i := 374) (by decide +kernel) rfl
theorem tw_375 : Cond.instanceMethod yX8_move ∈ hv_tbl := hv_inT (i := 375) (by decide +kernel) rfl
theorem tw_376 : Cond.selects RX8 yX8_move yX8_move ∈ hv_tbl := hv_inT (i := 376) (by decide +kernel) rfl
theorem tw_377 : Cond.code yX8_move cX8_move 1 (none : Option FieldType) ∈ hv_tbl := hv_inT (i := 377) (by decide +kernel) rfl
theorem tw_378 : Cond.methodLink RX8 29 yX7_length ∈ hv_tbl := hv_inT (i := 378) (by decide +kernel) rfl
theorem tw_379 : Cond.methodLink RX8 35 yX7_byteAt ∈ hv_tbl := hv_inT (i := 379) (by decide +kernel) rfl
theorem tw_380 : Cond.instanceMethod yX7_byteAt ∈ hv_tbl := hv_inT (i := 380) (by decide +kernel) rfl
theorem tw_381 : Cond.selects RX7 yX7_byteAt yX7_byteAt ∈ hv_tbl := hv_inT (i := 381) (by decide +kernel) rfl
theorem tw_382 : Cond.code yX7_byteAt cX7_byteAt 2 (some FieldType.int) ∈ hv_tbl := hv_inT (i := 382) (by decide +kernel) rfl
theorem tw_383 : Cond.methodLink RX8 39 yX8_isBlank ∈ hv_tbl := hv_inT (i := 383) (by decide +kernel) rfl
theorem tw_384 : Cond.static yX8_isBlank ∈ hv_tbl := hv_inT (i := 384) (by decide +kernel) rfl
theorem tw_385 : Cond.code yX8_isBlank cX8_isBlank 1 (some FieldType.boolean) ∈ hv_tbl := hv_inT (i := 385) (by decide +kernel) rfl
theorem tw_386 : Cond.methodLink RX8 43 yX8_isLetter ∈ hv_tbl := hv_inT (i := 386) (by decide +kernel) rfl
theorem tw_387 : Cond.static yX8_isLetter ∈ hv_tbl := hv_inT (i := 387) (by decide +kernel) rfl
theorem tw_388 : Cond.code yX8_isLetter cX8_isLetter 1 (some FieldType.boolean) ∈ hv_tbl := hv_inT (i := 388) (by decide +kernel) rfl
theorem tw_389 : Cond.methodLink RX8 46 yX8_passLetters ∈ hv_tbl := hv_inT (i := 389) (by decide +kernel) rfl
theorem tw_391 : Cond.instanceMethod yX8_passLetters ∈ hv_tbl := hv_inT (i := 391) (by decide +kernel) rfl
theorem tw_392 : Cond.code yX8_passLetters cX8_passLetters 1 (none : Option FieldType) ∈ hv_tbl := hv_inT (i := 392) (by decide +kernel) rfl
theorem tw_393 : Cond.methodLink RX8 49 yX8_isDigit ∈ hv_tbl := hv_inT (i := 393) (by decide +kernel) rfl
theorem tw_394 : Cond.static yX8_isDigit ∈ hv_tbl := hv_inT (i := 394) (by decide +kernel) rfl
theorem tw_395 : Cond.code yX8_isDigit cX8_isDigit 1 (some FieldType.boolean) ∈ hv_tbl := hv_inT (i := 395) (by decide +kernel) rfl
theorem tw_396 : Cond.methodLink RX8 52 yX8_passDigits ∈ hv_tbl := hv_inT (i := 396) (by decide +kernel) rfl
theorem tw_398 : Cond.instanceMethod yX8_passDigits ∈ hv_tbl := hv_inT (i := 398) (by decide +kernel) rfl
theorem tw_399 : Cond.code yX8_passDigits cX8_passDigits 1 (none : Option FieldType) ∈ hv_tbl := hv_inT (i := 399) (by decide +kernel) rfl
theorem tw_400 : Cond.methodLink RX8 62 yJ9_min_7cf53 ∈ hv_tbl := hv_inT (i := 400) (by decide +kernel) rfl
theorem tw_401 : Cond.static yJ9_min_7cf53 ∈ hv_tbl := hv_inT (i := 401) (by decide +kernel) rfl
theorem tw_402 : Cond.code yJ9_min_7cf53 cJ9_min_7cf53 2 (some FieldType.int) ∈ hv_tbl := hv_inT (i := 402) (by decide +kernel) rfl
theorem tw_403 : Cond.methodLink RX4 65 yX8_kind ∈ hv_tbl := hv_inT (i := 403) (by decide +kernel) rfl
theorem tw_404 : Cond.instanceMethod yX8_kind ∈ hv_tbl := hv_inT (i := 404) (by decide +kernel) rfl
theorem tw_405 : Cond.selects RX8 yX8_kind yX8_kind ∈ hv_tbl := hv_inT (i := 405) (by decide +kernel) rfl
theorem tw_406 : Cond.code yX8_kind cX8_kind 1 (some FieldType.int) ∈ hv_tbl := hv_inT (i := 406) (by decide +kernel) rfl
theorem tw_407 : Cond.methodLink RX4 69 yX4_readPlan ∈ hv_tbl := hv_inT (i := 407) (by decide +kernel) rfl
theorem tw_409 : Cond.instanceMethod yX4_readPlan ∈ hv_tbl := hv_inT (i := 409) (by decide +kernel) rfl
theorem tw_410 : Cond.code yX4_readPlan cX4_readPlan 1 (none : Option FieldType) ∈ hv_tbl := hv_inT (i := 410) (by decide +kernel) rfl
theorem tw_412 : Cond.methodLink RX4 77 yX4_passWord ∈ hv_tbl := hv_inT (i := 412) (by decide +kernel) rfl
theorem tw_414 : Cond.instanceMethod yX4_passWord ∈ hv_tbl := hv_inT (i := 414) (by decide +kernel) rfl
theorem tw_415 : Cond.code yX4_passWord cX4_passWord 2 (none : Option FieldType) ∈ hv_tbl := hv_inT (i := 415) (by decide +kernel) rfl
theorem tw_416 : Cond.methodLink RX4 117 yX8_isWord ∈ hv_tbl := hv_inT (i := 416) (by decide +kernel) rfl
theorem tw_417 : Cond.instanceMethod yX8_isWord ∈ hv_tbl := hv_inT (i := 417) (by decide +kernel) rfl
theorem tw_418 : Cond.selects RX8 yX8_isWord yX8_isWord ∈ hv_tbl := hv_inT (i := 418) (by decide +kernel) rfl
theorem tw_419 : Cond.code yX8_isWord cX8_isWord 3 (some FieldType.boolean) ∈ hv_tbl := hv_inT (i := 419) (by decide +kernel) rfl
theorem tw_420 : Cond.methodLink RX8 55 yJ0_length_8abf5 ∈ hv_tbl := hv_inT (i := 420) (by decide +kernel) rfl
theorem tw_421 : Cond.instanceMethod yJ0_length_8abf5 ∈ hv_tbl := hv_inT (i := 421) (by decide +kernel) rfl
theorem tw_422 : Cond.selects RJ0 yJ0_length_8abf5 yJ0_length_8abf5 ∈ hv_tbl := hv_inT (i := 422) (by decide +kernel) rfl
theorem tw_423 : Cond.code yJ0_length_8abf5 cJ0_length_8abf5 1 (some FieldType.int) ∈ hv_tbl := hv_inT (i := 423) (by decide +kernel) rfl
theorem tw_424 : Cond.methodLink RJ0 335 yJ0_coder_7d493 ∈ hv_tbl := hv_inT (i := 424) (by decide +kernel) rfl
theorem tw_425 : Cond.instanceMethod yJ0_coder_7d493 ∈ hv_tbl := hv_inT (i := 425) (by decide +kernel) rfl
theorem tw_426 : Cond.selects RJ0 yJ0_coder_7d493 yJ0_coder_7d493 ∈ hv_tbl := hv_inT (i := 426) (by decide +kernel) rfl
theorem tw_427 : Cond.code yJ0_coder_7d493 cJ0_coder_7d493 1 (some FieldType.byte) ∈ hv_tbl := hv_inT (i := 427) (by decide +kernel) rfl
theorem tw_428 : Cond.fieldLink RJ0 38 "java/lang/String" "COMPACT_STRINGS" "Z" ∈ hv_tbl := hv_inT (i := 428) (by decide +kernel) rfl
theorem tw_430 : Cond.methodLink RX8 58 yJ0_charAt_5068e ∈ hv_tbl := hv_inT (i := 430) (by decide +kernel) rfl
theorem tw_431 : Cond.instanceMethod yJ0_charAt_5068e ∈ hv_tbl := hv_inT (i := 431) (by decide +kernel) rfl
theorem tw_432 : Cond.selects RJ0 yJ0_charAt_5068e yJ0_charAt_5068e ∈ hv_tbl := hv_inT (i := 432) (by decide +kernel) rfl
theorem tw_433 : Cond.code yJ0_charAt_5068e cJ0_charAt_5068e 2 (some FieldType.char) ∈ hv_tbl := hv_inT (i := 433) (by decide +kernel) rfl
theorem tw_434 : Cond.methodLink RJ0 492 yJ0_isLatin1_aae02 ∈ hv_tbl := hv_inT (i := 434) (by decide +kernel) rfl
theorem tw_435 : Cond.instanceMethod yJ0_isLatin1_aae02 ∈ hv_tbl := hv_inT (i := 435) (by decide +kernel) rfl
theorem tw_436 : Cond.selects RJ0 yJ0_isLatin1_aae02 yJ0_isLatin1_aae02 ∈ hv_tbl := hv_inT (i := 436) (by decide +kernel) rfl
theorem tw_437 : Cond.code yJ0_isLatin1_aae02 cJ0_isLatin1_aae02 1 (some FieldType.boolean) ∈ hv_tbl := hv_inT (i := 437) (by decide +kernel) rfl
theorem tw_438 : Cond.methodLink RJ0 495 yJ1_charAt_3b067 ∈ hv_tbl := hv_inT (i := 438) (by decide +kernel) rfl
theorem tw_439 : Cond.static yJ1_charAt_3b067 ∈ hv_tbl := hv_inT (i := 439) (by decide +kernel) rfl
theorem tw_440 : Cond.code yJ1_charAt_3b067 cJ1_charAt_3b067 2 (some FieldType.char) ∈ hv_tbl := hv_inT (i := 440) (by decide +kernel) rfl
theorem tw_441 : Cond.methodLink RJ1 9 yJ0_checkIndex_df160 ∈ hv_tbl := hv_inT (i := 441) (by decide +kernel) rfl
theorem tw_442 : Cond.static yJ0_checkIndex_df160 ∈ hv_tbl := hv_inT (i := 442) (by decide +kernel) rfl
theorem tw_443 : Cond.code yJ0_checkIndex_df160 cJ0_checkIndex_df160 2 (none : Option FieldType) ∈ hv_tbl := hv_inT (i := 443) (by decide +kernel) rfl
theorem tw_444 : Cond.fieldLink RJ0 1053 "jdk/internal/util/Preconditions" "SIOOBE_FORMATTER" "Ljava/util/function/BiFunction;" ∈ hv_tbl := hv_inT (i := 444) (by decide +kernel) rfl
theorem tw_446 : Cond.methodLink RJ0 1059 yJ3_checkIndex_8e157 ∈ hv_tbl := hv_inT (i := 446) (by decide +kernel) rfl
theorem tw_447 : Cond.static yJ3_checkIndex_8e157 ∈ hv_tbl := hv_inT (i := 447) (by decide +kernel) rfl
theorem tw_448 : Cond.code yJ3_checkIndex_8e157 cJ3_checkIndex_8e157 3 (some FieldType.int) ∈ hv_tbl := hv_inT (i := 448) (by decide +kernel) rfl
theorem tw_449 : Cond.methodLink RJ0 498 yJ2_charAt_3b067 ∈ hv_tbl := hv_inT (i := 449) (by decide +kernel) rfl
theorem tw_450 : Cond.static yJ2_charAt_3b067 ∈ hv_tbl := hv_inT (i := 450) (by decide +kernel) rfl
theorem tw_451 : Cond.code yJ2_charAt_3b067 cJ2_charAt_3b067 2 (some FieldType.char) ∈ hv_tbl := hv_inT (i := 451) (by decide +kernel) rfl
theorem tw_452 : Cond.methodLink RJ2 67 yJ2_checkIndex_2214a ∈ hv_tbl := hv_inT (i := 452) (by decide +kernel) rfl
theorem tw_453 : Cond.static yJ2_checkIndex_2214a ∈ hv_tbl := hv_inT (i := 453) (by decide +kernel) rfl
theorem tw_454 : Cond.code yJ2_checkIndex_2214a cJ2_checkIndex_2214a 2 (none : Option FieldType) ∈ hv_tbl := hv_inT (i := 454) (by decide +kernel) rfl
theorem tw_455 : Cond.methodLink RJ2 48 yJ2_length_9d52b ∈ hv_tbl := hv_inT (i := 455) (by decide +kernel) rfl
theorem tw_456 : Cond.static yJ2_length_9d52b ∈ hv_tbl := hv_inT (i := 456) (by decide +kernel) rfl
theorem tw_457 : Cond.code yJ2_length_9d52b cJ2_length_9d52b 1 (some FieldType.int) ∈ hv_tbl := hv_inT (i := 457) (by decide +kernel) rfl
theorem tw_458 : Cond.methodLink RJ2 414 yJ0_checkIndex_df160 ∈ hv_tbl := hv_inT (i := 458) (by decide +kernel) rfl
theorem tw_459 : Cond.methodLink RJ2 71 yJ2_getChar_3b067 ∈ hv_tbl := hv_inT (i := 459) (by decide +kernel) rfl
theorem tw_460 : Cond.static yJ2_getChar_3b067 ∈ hv_tbl := hv_inT (i := 460) (by decide +kernel) rfl
theorem tw_461 : Cond.code yJ2_getChar_3b067 cJ2_getChar_3b067 2 (some FieldType.char) ∈ hv_tbl := hv_inT (i := 461) (by decide +kernel) rfl
theorem tw_462 : Cond.fieldLink RJ2 44 "java/lang/StringUTF16" "$assertionsDisabled" "Z" ∈ hv_tbl := hv_inT (i := 462) (by decide +kernel) rfl
theorem tw_464 : Cond.fieldLink RJ2 59 "java/lang/StringUTF16" "HI_BYTE_SHIFT" "I" ∈ hv_tbl := hv_inT (i := 464) (by decide +kernel) rfl
theorem tw_466 : Cond.fieldLink RJ2 63 "java/lang/StringUTF16" "LO_BYTE_SHIFT" "I" ∈ hv_tbl := hv_inT (i := 466) (by decide +kernel) rfl
theorem tw_468 : Cond.methodLink RX4 93 yX8_start ∈ hv_tbl := hv_inT (i := 468) (by decide +kernel) rfl
theorem tw_469 : Cond.instanceMethod yX8_start ∈ hv_tbl := hv_inT (i := 469) (by decide +kernel) rfl
theorem tw_470 : Cond.selects RX8 yX8_start yX8_start ∈ hv_tbl := hv_inT (i := 470) (by decide +kernel) rfl
theorem tw_471 : Cond.code yX8_start cX8_start 1 (some FieldType.int) ∈ hv_tbl := hv_inT (i := 471) (by decide +kernel) rfl
theorem tw_472 : Cond.methodLink RX4 96 yX4_blame ∈ hv_tbl := hv_inT (i := 472) (by decide +kernel) rfl
theorem tw_474 : Cond.instanceMethod yX4_blame ∈ hv_tbl := hv_inT (i := 474) (by decide +kernel) rfl
theorem tw_475 : Cond.code yX4_blame cX4_blame 3 (none : Option FieldType) ∈ hv_tbl := hv_inT (i := 475) (by decide +kernel) rfl
theorem tw_476 : Cond.methodLink RX4 100 yX8_move ∈ hv_tbl := hv_inT (i := 476) (by decide +kernel) rfl
theorem tw_478 : Cond.methodLink RX4 82 yX4_passNumber ∈ hv_tbl := hv_inT (i := 478) (by decide +kernel) rfl
theorem tw_480 : Cond.instanceMethod yX4_passNumber ∈ hv_tbl := hv_inT (i := 480) (by decide +kernel) rfl
theorem tw_481 : Cond.code yX4_passNumber cX4_passNumber 4 (some FieldType.int) ∈ hv_tbl := hv_inT (i := 481) (by decide +kernel) rfl
theorem tw_482 : Cond.methodLink RX4 140 yX8_value ∈ hv_tbl := hv_inT (i := 482) (by decide +kernel) rfl
theorem tw_483 : Cond.instanceMethod yX8_value ∈ hv_tbl := hv_inT (i := 483) (by decide +kernel) rfl
theorem tw_484 : Cond.selects RX8 yX8_value yX8_value ∈ hv_tbl := hv_inT (i := 484) (by decide +kernel) rfl
theorem tw_485 : Cond.code yX8_value cX8_value 1 (some FieldType.int) ∈ hv_tbl := hv_inT (i := 485) (by decide +kernel) rfl
theorem tw_487 : Cond.methodLink RX4 87 yX4_passSign ∈ hv_tbl := hv_inT (i := 487) (by decide +kernel) rfl
theorem tw_489 : Cond.instanceMethod yX4_passSign ∈ hv_tbl := hv_inT (i := 489) (by decide +kernel) rfl
theorem tw_490 : Cond.code yX4_passSign cX4_passSign 1 (none : Option FieldType) ∈ hv_tbl := hv_inT (i := 490) (by decide +kernel) rfl
theorem tw_491 : Cond.methodLink RX4 72 yX4_readOther ∈ hv_tbl := hv_inT (i := 491) (by decide +kernel) rfl
theorem tw_493 : Cond.instanceMethod yX4_readOther ∈ hv_tbl := hv_inT (i := 493) (by decide +kernel) rfl
theorem tw_494 : Cond.code yX4_readOther cX4_readOther 2 (none : Option FieldType) ∈ hv_tbl := hv_inT (i := 494) (by decide +kernel) rfl
theorem tw_495 : Cond.methodLink RX4 90 yX4_howOfWord ∈ hv_tbl := hv_inT (i := 495) (by decide +kernel) rfl
theorem tw_497 : Cond.instanceMethod yX4_howOfWord ∈ hv_tbl := hv_inT (i := 497) (by decide +kernel) rfl
theorem tw_498 : Cond.code yX4_howOfWord cX4_howOfWord 1 (some FieldType.int) ∈ hv_tbl := hv_inT (i := 498) (by decide +kernel) rfl
theorem tw_503 : Cond.methodLink RX4 103 yX4_readPut ∈ hv_tbl := hv_inT (i := 503) (by decide +kernel) rfl
theorem tw_505 : Cond.instanceMethod yX4_readPut ∈ hv_tbl := hv_inT (i := 505) (by decide +kernel) rfl
theorem tw_506 : Cond.code yX4_readPut cX4_readPut 4 (none : Option FieldType) ∈ hv_tbl := hv_inT (i := 506) (by decide +kernel) rfl
theorem tw_508 : Cond.static yX10_at ∈ hv_tbl := hv_inT (i := 508) (by decide +kernel) rfl
theorem tw_509 : Cond.code yX10_at cX10_at 2 (some FieldType.int) ∈ hv_tbl := hv_inT (i := 509) (by decide +kernel) rfl
theorem tw_512 : Cond.methodLink RX4 127 yX4_keep ∈ hv_tbl := hv_inT (i := 512) (by decide +kernel) rfl
theorem tw_514 : Cond.instanceMethod yX4_keep ∈ hv_tbl := hv_inT (i := 514) (by decide +kernel) rfl
theorem tw_515 : Cond.code yX4_keep cX4_keep 5 (none : Option FieldType) ∈ hv_tbl := hv_inT (i := 515) (by decide +kernel) rfl
theorem tw_516 : Cond.methodLink RX4 106 yX4_readJoin ∈ hv_tbl := hv_inT (i := 516) (by decide +kernel) rfl
theorem tw_518 : Cond.instanceMethod yX4_readJoin ∈ hv_tbl := hv_inT (i := 518) (by decide +kernel) rfl
theorem tw_519 : Cond.code yX4_readJoin cX4_readJoin 4 (none : Option FieldType) ∈ hv_tbl := hv_inT (i := 519) (by decide +kernel) rfl
theorem tw_520 : Cond.methodLink RX4 109 yX4_readTake ∈ hv_tbl := hv_inT (i := 520) (by decide +kernel) rfl
theorem tw_522 : Cond.instanceMethod yX4_readTake ∈ hv_tbl := hv_inT (i := 522) (by decide +kernel) rfl
theorem tw_523 : Cond.code yX4_readTake cX4_readTake 2 (none : Option FieldType) ∈ hv_tbl := hv_inT (i := 523) (by decide +kernel) rfl
theorem tw_524 : Cond.methodLink RX4 112 yX4_readNew ∈ hv_tbl := hv_inT (i := 524) (by decide +kernel) rfl
theorem tw_526 : Cond.instanceMethod yX4_readNew ∈ hv_tbl := hv_inT (i := 526) (by decide +kernel) rfl
theorem tw_527 : Cond.code yX4_readNew cX4_readNew 1 (none : Option FieldType) ∈ hv_tbl := hv_inT (i := 527) (by decide +kernel) rfl
theorem tw_528 : Cond.methodLink RX10 91 yX10_cutTo ∈ hv_tbl := hv_inT (i := 528) (by decide +kernel) rfl
theorem tw_530 : Cond.instanceMethod yX10_cutTo ∈ hv_tbl := hv_inT (i := 530) (by decide +kernel) rfl
theorem tw_531 : Cond.code yX10_cutTo cX10_cutTo 2 (none : Option FieldType) ∈ hv_tbl := hv_inT (i := 531) (by decide +kernel) rfl
theorem tw_532 : Cond.methodLink RX10 148 yX3_known ∈ hv_tbl := hv_inT (i := 532) (by decide +kernel) rfl
theorem tw_533 : Cond.instanceMethod yX3_known ∈ hv_tbl := hv_inT (i := 533) (by decide +kernel) rfl
theorem tw_534 : Cond.selects RX3 yX3_known yX3_known ∈ hv_tbl := hv_inT (i := 534) (by decide +kernel) rfl
theorem tw_535 : Cond.code yX3_known cX3_known 1 (some FieldType.int) ∈ hv_tbl := hv_inT (i := 535) (by decide +kernel) rfl
theorem tw_536 : Cond.methodLink RX10 289 yX6_putsFrom ∈ hv_tbl := hv_inT (i := 536) (by decide +kernel) rfl
theorem tw_537 : Cond.instanceMethod yX6_putsFrom ∈ hv_tbl := hv_inT (i := 537) (by decide +kernel) rfl
theorem tw_538 : Cond.selects RX6 yX6_putsFrom yX6_putsFrom ∈ hv_tbl := hv_inT (i := 538) (by decide +kernel) rfl
theorem tw_539 : Cond.code yX6_putsFrom cX6_putsFrom 4 (some FieldType.int) ∈ hv_tbl := hv_inT (i := 539) (by decide +kernel) rfl
theorem tw_540 : Cond.methodLink RX6 43 yX6_howOf ∈ hv_tbl := hv_inT (i := 540) (by decide +kernel) rfl
theorem tw_541 : Cond.instanceMethod yX6_howOf ∈ hv_tbl := hv_inT (i := 541) (by decide +kernel) rfl
theorem tw_542 : Cond.selects RX6 yX6_howOf yX6_howOf ∈ hv_tbl := hv_inT (i := 542) (by decide +kernel) rfl
theorem tw_543 : Cond.code yX6_howOf cX6_howOf 2 (some FieldType.int) ∈ hv_tbl := hv_inT (i := 543) (by decide +kernel) rfl
theorem tw_545 : Cond.methodLink RX10 292 yX3_cut ∈ hv_tbl := hv_inT (i := 545) (by decide +kernel) rfl
theorem tw_546 : Cond.instanceMethod yX3_cut ∈ hv_tbl := hv_inT (i := 546) (by decide +kernel) rfl
theorem tw_547 : Cond.selects RX3 yX3_cut yX3_cut ∈ hv_tbl := hv_inT (i := 547) (by decide +kernel) rfl
theorem tw_548 : Cond.code yX3_cut cX3_cut 2 (none : Option FieldType) ∈ hv_tbl := hv_inT (i := 548) (by decide +kernel) rfl
theorem tw_549 : Cond.methodLink RX10 293 yX2_cut ∈ hv_tbl := hv_inT (i := 549) (by decide +kernel) rfl
theorem tw_550 : Cond.instanceMethod yX2_cut ∈ hv_tbl := hv_inT (i := 550) (by decide +kernel) rfl
theorem tw_551 : Cond.selects RX2 yX2_cut yX2_cut ∈ hv_tbl := hv_inT (i := 551) (by decide +kernel) rfl
theorem tw_552 : Cond.code yX2_cut cX2_cut 2 (none : Option FieldType) ∈ hv_tbl := hv_inT (i := 552) (by decide +kernel) rfl
theorem tw_554 : Cond.methodLink RX2 87 yX1_cut ∈ hv_tbl := hv_inT (i := 554) (by decide +kernel) rfl
theorem tw_555 : Cond.instanceMethod yX1_cut ∈ hv_tbl := hv_inT (i := 555) (by decide +kernel) rfl
theorem tw_556 : Cond.selects RX1 yX1_cut yX1_cut ∈ hv_tbl := hv_inT (i := 556) (by decide +kernel) rfl
theorem tw_557 : Cond.code yX1_cut cX1_cut 3 (none : Option FieldType) ∈ hv_tbl := hv_inT (i := 557) (by decide +kernel) rfl
theorem tw_558 : Cond.methodLink RX10 294 yX6_cut ∈ hv_tbl := hv_inT (i := 558) (by decide +kernel) rfl
theorem tw_559 : Cond.instanceMethod yX6_cut ∈ hv_tbl := hv_inT (i := 559) (by decide +kernel) rfl
theorem tw_560 : Cond.selects RX6 yX6_cut yX6_cut ∈ hv_tbl := hv_inT (i := 560) (by decide +kernel) rfl
theorem tw_561 : Cond.code yX6_cut cX6_cut 2 (none : Option FieldType) ∈ hv_tbl := hv_inT (i := 561) (by decide +kernel) rfl
theorem tw_562 : Cond.methodLink RX10 94 yX4_lawTold ∈ hv_tbl := hv_inT (i := 562) (by decide +kernel) rfl
theorem tw_563 : Cond.instanceMethod yX4_lawTold ∈ hv_tbl := hv_inT (i := 563) (by decide +kernel) rfl
theorem tw_564 : Cond.selects RX4 yX4_lawTold yX4_lawTold ∈ hv_tbl := hv_inT (i := 564) (by decide +kernel) rfl
theorem tw_565 : Cond.code yX4_lawTold cX4_lawTold 1 (some FieldType.int) ∈ hv_tbl := hv_inT (i := 565) (by decide +kernel) rfl
theorem tw_566 : Cond.methodLink RX10 101 yX4_handsTold ∈ hv_tbl := hv_inT (i := 566) (by decide +kernel) rfl
theorem tw_567 : Cond.instanceMethod yX4_handsTold ∈ hv_tbl := hv_inT (i := 567) (by decide +kernel) rfl
theorem tw_568 : Cond.selects RX4 yX4_handsTold yX4_handsTold ∈ hv_tbl := hv_inT (i := 568) (by decide +kernel) rfl
theorem tw_569 : Cond.code yX4_handsTold cX4_handsTold 1 (some FieldType.int) ∈ hv_tbl := hv_inT (i := 569) (by decide +kernel) rfl
theorem tw_570 : Cond.methodLink RX10 107 yX4_linesTold ∈ hv_tbl := hv_inT (i := 570) (by decide +kernel) rfl
theorem tw_571 : Cond.instanceMethod yX4_linesTold ∈ hv_tbl := hv_inT (i := 571) (by decide +kernel) rfl
theorem tw_572 : Cond.selects RX4 yX4_linesTold yX4_linesTold ∈ hv_tbl := hv_inT (i := 572) (by decide +kernel) rfl
theorem tw_573 : Cond.code yX4_linesTold cX4_linesTold 1 (some FieldType.int) ∈ hv_tbl := hv_inT (i := 573) (by decide +kernel) rfl
theorem tw_574 : Cond.methodLink RX10 113 yX4_versionsTold ∈ hv_tbl := hv_inT (i := 574) (by decide +kernel) rfl
theorem tw_575 : Cond.instanceMethod yX4_versionsTold ∈ hv_tbl := hv_inT (i := 575) (by decide +kernel) rfl
theorem tw_576 : Cond.selects RX4 yX4_versionsTold yX4_versionsTold ∈ hv_tbl := hv_inT (i := 576) (by decide +kernel) rfl
theorem tw_577 : Cond.code yX4_versionsTold cX4_versionsTold 1 (some FieldType.int) ∈ hv_tbl := hv_inT (i := 577) (by decide +kernel) rfl
theorem tw_578 : Cond.methodLink RX10 119 yX4_howOf ∈ hv_tbl := hv_inT (i := 578) (by decide +kernel) rfl
theorem tw_579 : Cond.instanceMethod yX4_howOf ∈ hv_tbl := hv_inT (i := 579) (by decide +kernel) rfl
theorem tw_580 : Cond.selects RX4 yX4_howOf yX4_howOf ∈ hv_tbl := hv_inT (i := 580) (by decide +kernel) rfl
theorem tw_581 : Cond.code yX4_howOf cX4_howOf 2 (some FieldType.int) ∈ hv_tbl := hv_inT (i := 581) (by decide +kernel) rfl
theorem tw_582 : Cond.methodLink RX10 123 yX4_firstOf ∈ hv_tbl := hv_inT (i := 582) (by decide +kernel) rfl
theorem tw_583 : Cond.instanceMethod yX4_firstOf ∈ hv_tbl := hv_inT (i := 583) (by decide +kernel) rfl
theorem tw_584 : Cond.selects RX4 yX4_firstOf yX4_firstOf ∈ hv_tbl := hv_inT (i := 584) (by decide +kernel) rfl
theorem tw_585 : Cond.code yX4_firstOf cX4_firstOf 2 (some FieldType.int) ∈ hv_tbl := hv_inT (i := 585) (by decide +kernel) rfl
theorem tw_586 : Cond.methodLink RX10 126 yX4_secondOf ∈ hv_tbl := hv_inT (i := 586) (by decide +kernel) rfl
theorem tw_587 : Cond.instanceMethod yX4_secondOf ∈ hv_tbl := hv_inT (i := 587) (by decide +kernel) rfl
theorem tw_588 : Cond.selects RX4 yX4_secondOf yX4_secondOf ∈ hv_tbl := hv_inT (i := 588) (by decide +kernel) rfl
theorem tw_589 : Cond.code yX4_secondOf cX4_secondOf 2 (some FieldType.int) ∈ hv_tbl := hv_inT (i := 589) (by decide +kernel) rfl
theorem tw_590 : Cond.methodLink RX10 129 yX4_keyOf ∈ hv_tbl := hv_inT (i := 590) (by decide +kernel) rfl
theorem tw_591 : Cond.instanceMethod yX4_keyOf ∈ hv_tbl := hv_inT (i := 591) (by decide +kernel) rfl
theorem tw_592 : Cond.selects RX4 yX4_keyOf yX4_keyOf ∈ hv_tbl := hv_inT (i := 592) (by decide +kernel) rfl
theorem tw_593 : Cond.code yX4_keyOf cX4_keyOf 2 (some FieldType.int) ∈ hv_tbl := hv_inT (i := 593) (by decide +kernel) rfl
theorem tw_594 : Cond.methodLink RX10 132 yX4_timeOf ∈ hv_tbl := hv_inT (i := 594) (by decide +kernel) rfl
theorem tw_595 : Cond.instanceMethod yX4_timeOf ∈ hv_tbl := hv_inT (i := 595) (by decide +kernel) rfl
theorem tw_596 : Cond.selects RX4 yX4_timeOf yX4_timeOf ∈ hv_tbl := hv_inT (i := 596) (by decide +kernel) rfl
theorem tw_597 : Cond.code yX4_timeOf cX4_timeOf 2 (some FieldType.int) ∈ hv_tbl := hv_inT (i := 597) (by decide +kernel) rfl
theorem tw_598 : Cond.methodLink RX10 135 yX10_grow ∈ hv_tbl := hv_inT (i := 598) (by decide +kernel) rfl
theorem tw_600 : Cond.instanceMethod yX10_grow ∈ hv_tbl := hv_inT (i := 600) (by decide +kernel) rfl
theorem tw_601 : Cond.code yX10_grow cX10_grow 9 (some FieldType.int) ∈ hv_tbl := hv_inT (i := 601) (by decide +kernel) rfl
theorem tw_602 : Cond.methodLink RX10 145 yX6_versions ∈ hv_tbl := hv_inT (i := 602) (by decide +kernel) rfl
theorem tw_603 : Cond.instanceMethod yX6_versions ∈ hv_tbl := hv_inT (i := 603) (by decide +kernel) rfl
theorem tw_604 : Cond.selects RX6 yX6_versions yX6_versions ∈ hv_tbl := hv_inT (i := 604) (by decide +kernel) rfl
theorem tw_605 : Cond.code yX6_versions cX6_versions 1 (some FieldType.int) ∈ hv_tbl := hv_inT (i := 605) (by decide +kernel) rfl
theorem tw_606 : Cond.methodLink RX10 278 yX3_add ∈ hv_tbl := hv_inT (i := 606) (by decide +kernel) rfl
theorem tw_607 : Cond.instanceMethod yX3_add ∈ hv_tbl := hv_inT (i := 607) (by decide +kernel) rfl
theorem tw_608 : Cond.selects RX3 yX3_add yX3_add ∈ hv_tbl := hv_inT (i := 608) (by decide +kernel) rfl
theorem tw_609 : Cond.code yX3_add cX3_add 3 (some FieldType.int) ∈ hv_tbl := hv_inT (i := 609) (by decide +kernel) rfl
theorem tw_611 : Cond.methodLink RX10 167 yX0_jobAt ∈ hv_tbl := hv_inT (i := 611) (by decide +kernel) rfl
theorem tw_612 : Cond.instanceMethod yX0_jobAt ∈ hv_tbl := hv_inT (i := 612) (by decide +kernel) rfl
theorem tw_613 : Cond.selects RX0 yX0_jobAt yX0_jobAt ∈ hv_tbl := hv_inT (i := 613) (by decide +kernel) rfl
theorem tw_614 : Cond.code yX0_jobAt cX0_jobAt 3 (some FieldType.int) ∈ hv_tbl := hv_inT (i := 614) (by decide +kernel) rfl
theorem tw_615 : Cond.methodLink RX0 22 yX0_sizeOf ∈ hv_tbl := hv_inT (i := 615) (by decide +kernel) rfl
theorem tw_616 : Cond.instanceMethod yX0_sizeOf ∈ hv_tbl := hv_inT (i := 616) (by decide +kernel) rfl
theorem tw_617 : Cond.selects RX0 yX0_sizeOf yX0_sizeOf ∈ hv_tbl := hv_inT (i := 617) (by decide +kernel) rfl
theorem tw_618 : Cond.code yX0_sizeOf cX0_sizeOf 2 (some FieldType.int) ∈ hv_tbl := hv_inT (i := 618) (by decide +kernel) rfl
theorem tw_620 : Cond.methodLink RX0 26 yX0_turnAt ∈ hv_tbl := hv_inT (i := 620) (by decide +kernel) rfl
theorem tw_622 : Cond.instanceMethod yX0_turnAt ∈ hv_tbl := hv_inT (i := 622) (by decide +kernel) rfl
theorem tw_623 : Cond.code yX0_turnAt cX0_turnAt 3 (some FieldType.int) ∈ hv_tbl := hv_inT (i := 623) (by decide +kernel) rfl
theorem tw_624 : Cond.methodLink RX0 30 yX3_jobOfTurn ∈ hv_tbl := hv_inT (i := 624) (by decide +kernel) rfl
theorem tw_625 : Cond.static yX3_jobOfTurn ∈ hv_tbl := hv_inT (i := 625) (by decide +kernel) rfl
theorem tw_626 : Cond.code yX3_jobOfTurn cX3_jobOfTurn 1 (some FieldType.int) ∈ hv_tbl := hv_inT (i := 626) (by decide +kernel) rfl
theorem tw_627 : Cond.methodLink RX10 171 yX3_turnOf ∈ hv_tbl := hv_inT (i := 627) (by decide +kernel) rfl
theorem tw_628 : Cond.instanceMethod yX3_turnOf ∈ hv_tbl := hv_inT (i := 628) (by decide +kernel) rfl
theorem tw_629 : Cond.selects RX3 yX3_turnOf yX3_turnOf ∈ hv_tbl := hv_inT (i := 629) (by decide +kernel) rfl
theorem tw_630 : Cond.code yX3_turnOf cX3_turnOf 2 (some FieldType.int) ∈ hv_tbl := hv_inT (i := 630) (by decide +kernel) rfl
theorem tw_631 : Cond.methodLink RX3 30 yX3_keyOf ∈ hv_tbl := hv_inT (i := 631) (by decide +kernel) rfl
theorem tw_632 : Cond.instanceMethod yX3_keyOf ∈ hv_tbl := hv_inT (i := 632) (by decide +kernel) rfl
theorem tw_633 : Cond.selects RX3 yX3_keyOf yX3_keyOf ∈ hv_tbl := hv_inT (i := 633) (by decide +kernel) rfl
theorem tw_634 : Cond.code yX3_keyOf cX3_keyOf 2 (some FieldType.int) ∈ hv_tbl := hv_inT (i := 634) (by decide +kernel) rfl
theorem tw_636 : Cond.methodLink RX10 280 yX0_make ∈ hv_tbl := hv_inT (i := 636) (by decide +kernel) rfl
theorem tw_637 : Cond.instanceMethod yX0_make ∈ hv_tbl := hv_inT (i := 637) (by decide +kernel) rfl
theorem tw_638 : Cond.selects RX0 yX0_make yX0_make ∈ hv_tbl := hv_inT (i := 638) (by decide +kernel) rfl
theorem tw_639 : Cond.code yX0_make cX0_make 6 (none : Option FieldType) ∈ hv_tbl := hv_inT (i := 639) (by decide +kernel) rfl
theorem tw_640 : Cond.methodLink RX0 35 yX0_copyWith ∈ hv_tbl := hv_inT (i := 640) (by decide +kernel) rfl
theorem tw_642 : Cond.instanceMethod yX0_copyWith ∈ hv_tbl := hv_inT (i := 642) (by decide +kernel) rfl
theorem tw_643 : Cond.code yX0_copyWith cX0_copyWith 5 (none : Option FieldType) ∈ hv_tbl := hv_inT (i := 643) (by decide +kernel) rfl
theorem tw_645 : Cond.methodLink RX0 49 yX0_append ∈ hv_tbl := hv_inT (i := 645) (by decide +kernel) rfl
theorem tw_647 : Cond.instanceMethod yX0_append ∈ hv_tbl := hv_inT (i := 647) (by decide +kernel) rfl
theorem tw_648 : Cond.code yX0_append cX0_append 4 (none : Option FieldType) ∈ hv_tbl := hv_inT (i := 648) (by decide +kernel) rfl
theorem tw_649 : Cond.methodLink RX0 39 yX0_mix ∈ hv_tbl := hv_inT (i := 649) (by decide +kernel) rfl
theorem tw_651 : Cond.instanceMethod yX0_mix ∈ hv_tbl := hv_inT (i := 651) (by decide +kernel) rfl
theorem tw_652 : Cond.code yX0_mix cX0_mix 7 (none : Option FieldType) ∈ hv_tbl := hv_inT (i := 652) (by decide +kernel) rfl
theorem tw_653 : Cond.methodLink RX0 42 yX0_copy ∈ hv_tbl := hv_inT (i := 653) (by decide +kernel) rfl
theorem tw_654 : Cond.instanceMethod yX0_copy ∈ hv_tbl := hv_inT (i := 654) (by decide +kernel) rfl
theorem tw_655 : Cond.selects RX0 yX0_copy yX0_copy ∈ hv_tbl := hv_inT (i := 655) (by decide +kernel) rfl
theorem tw_656 : Cond.code yX0_copy cX0_copy 5 (none : Option FieldType) ∈ hv_tbl := hv_inT (i := 656) (by decide +kernel) rfl
theorem tw_657 : Cond.methodLink RX10 284 yX2_grow ∈ hv_tbl := hv_inT (i := 657) (by decide +kernel) rfl
theorem tw_658 : Cond.instanceMethod yX2_grow ∈ hv_tbl := hv_inT (i := 658) (by decide +kernel) rfl
theorem tw_659 : Cond.selects RX2 yX2_grow yX2_grow ∈ hv_tbl := hv_inT (i := 659) (by decide +kernel) rfl
theorem tw_660 : Cond.code yX2_grow cX2_grow 6 (none : Option FieldType) ∈ hv_tbl := hv_inT (i := 660) (by decide +kernel) rfl
theorem tw_661 : Cond.methodLink RX2 64 yX1_cells ∈ hv_tbl := hv_inT (i := 661) (by decide +kernel) rfl
theorem tw_662 : Cond.instanceMethod yX1_cells ∈ hv_tbl := hv_inT (i := 662) (by decide +kernel) rfl
theorem tw_663 : Cond.selects RX1 yX1_cells yX1_cells ∈ hv_tbl := hv_inT (i := 663) (by decide +kernel) rfl
theorem tw_664 : Cond.code yX1_cells cX1_cells 1 (some FieldType.int) ∈ hv_tbl := hv_inT (i := 664) (by decide +kernel) rfl
theorem tw_666 : Cond.methodLink RX2 71 yX1_rows ∈ hv_tbl := hv_inT (i := 666) (by decide +kernel) rfl
theorem tw_667 : Cond.instanceMethod yX1_rows ∈ hv_tbl := hv_inT (i := 667) (by decide +kernel) rfl
theorem tw_668 : Cond.selects RX1 yX1_rows yX1_rows ∈ hv_tbl := hv_inT (i := 668) (by decide +kernel) rfl
theorem tw_669 : Cond.code yX1_rows cX1_rows 1 (some FieldType.int) ∈ hv_tbl := hv_inT (i := 669) (by decide +kernel) rfl
theorem tw_670 : Cond.methodLink RX2 77 yX1_heap ∈ hv_tbl := hv_inT (i := 670) (by decide +kernel) rfl
theorem tw_671 : Cond.instanceMethod yX1_heap ∈ hv_tbl := hv_inT (i := 671) (by decide +kernel) rfl
theorem tw_672 : Cond.selects RX1 yX1_heap yX1_heap ∈ hv_tbl := hv_inT (i := 672) (by decide +kernel) rfl
theorem tw_673 : Cond.code yX1_heap cX1_heap 6 (some FieldType.int) ∈ hv_tbl := hv_inT (i := 673) (by decide +kernel) rfl
theorem tw_674 : Cond.methodLink RX1 46 yX1_firstOf ∈ hv_tbl := hv_inT (i := 674) (by decide +kernel) rfl
theorem tw_675 : Cond.instanceMethod yX1_firstOf ∈ hv_tbl := hv_inT (i := 675) (by decide +kernel) rfl
theorem tw_676 : Cond.selects RX1 yX1_firstOf yX1_firstOf ∈ hv_tbl := hv_inT (i := 676) (by decide +kernel) rfl
theorem tw_677 : Cond.code yX1_firstOf cX1_firstOf 2 (some FieldType.int) ∈ hv_tbl := hv_inT (i := 677) (by decide +kernel) rfl
theorem tw_678 : Cond.methodLink RX1 50 yX1_holdsOf ∈ hv_tbl := hv_inT (i := 678) (by decide +kernel) rfl
theorem tw_679 : Cond.instanceMethod yX1_holdsOf ∈ hv_tbl := hv_inT (i := 679) (by decide +kernel) rfl
theorem tw_680 : Cond.selects RX1 yX1_holdsOf yX1_holdsOf ∈ hv_tbl := hv_inT (i := 680) (by decide +kernel) rfl
theorem tw_681 : Cond.code yX1_holdsOf cX1_holdsOf 2 (some FieldType.int) ∈ hv_tbl := hv_inT (i := 681) (by decide +kernel) rfl
theorem tw_682 : Cond.methodLink RX1 53 yX1_deepOf ∈ hv_tbl := hv_inT (i := 682) (by decide +kernel) rfl
theorem tw_683 : Cond.instanceMethod yX1_deepOf ∈ hv_tbl := hv_inT (i := 683) (by decide +kernel) rfl
theorem tw_684 : Cond.selects RX1 yX1_deepOf yX1_deepOf ∈ hv_tbl := hv_inT (i := 684) (by decide +kernel) rfl
theorem tw_685 : Cond.code yX1_deepOf cX1_deepOf 2 (some FieldType.int) ∈ hv_tbl := hv_inT (i := 685) (by decide +kernel) rfl
theorem tw_686 : Cond.methodLink RX1 56 yJ9_max_7cf53 ∈ hv_tbl := hv_inT (i := 686) (by decide +kernel) rfl
theorem tw_687 : Cond.static yJ9_max_7cf53 ∈ hv_tbl := hv_inT (i := 687) (by decide +kernel) rfl
theorem tw_688 : Cond.code yJ9_max_7cf53 cJ9_max_7cf53 2 (some FieldType.int) ∈ hv_tbl := hv_inT (i := 688) (by decide +kernel) rfl
theorem tw_689 : Cond.methodLink RX1 62 yX1_restOf ∈ hv_tbl := hv_inT (i := 689) (by decide +kernel) rfl
theorem tw_690 : Cond.instanceMethod yX1_restOf ∈ hv_tbl := hv_inT (i := 690) (by decide +kernel) rfl
theorem tw_691 : Cond.selects RX1 yX1_restOf yX1_restOf ∈ hv_tbl := hv_inT (i := 691) (by decide +kernel) rfl
theorem tw_692 : Cond.code yX1_restOf cX1_restOf 2 (some FieldType.int) ∈ hv_tbl := hv_inT (i := 692) (by decide +kernel) rfl
theorem tw_693 : Cond.methodLink RX2 42 yX2_heapOf ∈ hv_tbl := hv_inT (i := 693) (by decide +kernel) rfl
theorem tw_694 : Cond.instanceMethod yX2_heapOf ∈ hv_tbl := hv_inT (i := 694) (by decide +kernel) rfl
theorem tw_695 : Cond.selects RX2 yX2_heapOf yX2_heapOf ∈ hv_tbl := hv_inT (i := 695) (by decide +kernel) rfl
theorem tw_696 : Cond.code yX2_heapOf cX2_heapOf 2 (some FieldType.int) ∈ hv_tbl := hv_inT (i := 696) (by decide +kernel) rfl
theorem tw_697 : Cond.methodLink RX2 81 yX2_join ∈ hv_tbl := hv_inT (i := 697) (by decide +kernel) rfl
theorem tw_699 : Cond.instanceMethod yX2_join ∈ hv_tbl := hv_inT (i := 699) (by decide +kernel) rfl
theorem tw_700 : Cond.code yX2_join cX2_join 3 (some FieldType.int) ∈ hv_tbl := hv_inT (i := 700) (by decide +kernel) rfl
theorem tw_701 : Cond.methodLink RX2 102 yX1_turnOf ∈ hv_tbl := hv_inT (i := 701) (by decide +kernel) rfl
theorem tw_702 : Cond.instanceMethod yX1_turnOf ∈ hv_tbl := hv_inT (i := 702) (by decide +kernel) rfl
theorem tw_703 : Cond.selects RX1 yX1_turnOf yX1_turnOf ∈ hv_tbl := hv_inT (i := 703) (by decide +kernel) rfl
theorem tw_704 : Cond.code yX1_turnOf cX1_turnOf 2 (some FieldType.int) ∈ hv_tbl := hv_inT (i := 704) (by decide +kernel) rfl
theorem tw_705 : Cond.methodLink RX2 46 yX1_belowOf ∈ hv_tbl := hv_inT (i := 705) (by decide +kernel) rfl
theorem tw_706 : Cond.instanceMethod yX1_belowOf ∈ hv_tbl := hv_inT (i := 706) (by decide +kernel) rfl
theorem tw_707 : Cond.selects RX1 yX1_belowOf yX1_belowOf ∈ hv_tbl := hv_inT (i := 707) (by decide +kernel) rfl
theorem tw_708 : Cond.code yX1_belowOf cX1_belowOf 2 (some FieldType.int) ∈ hv_tbl := hv_inT (i := 708) (by decide +kernel) rfl
theorem tw_709 : Cond.methodLink RX2 105 yX2_putInto ∈ hv_tbl := hv_inT (i := 709) (by decide +kernel) rfl
theorem tw_711 : Cond.instanceMethod yX2_putInto ∈ hv_tbl := hv_inT (i := 711) (by decide +kernel) rfl
theorem tw_712 : Cond.code yX2_putInto cX2_putInto 7 (some FieldType.int) ∈ hv_tbl := hv_inT (i := 712) (by decide +kernel) rfl
theorem tw_713 : Cond.methodLink RX2 55 yX1_firstOf ∈ hv_tbl := hv_inT (i := 713) (by decide +kernel) rfl
theorem tw_714 : Cond.methodLink RX2 52 yX1_restOf ∈ hv_tbl := hv_inT (i := 714) (by decide +kernel) rfl
theorem tw_715 : Cond.methodLink RX2 129 yX1_rankOf ∈ hv_tbl := hv_inT (i := 715) (by decide +kernel) rfl
theorem tw_716 : Cond.instanceMethod yX1_rankOf ∈ hv_tbl := hv_inT (i := 716) (by decide +kernel) rfl
theorem tw_717 : Cond.selects RX1 yX1_rankOf yX1_rankOf ∈ hv_tbl := hv_inT (i := 717) (by decide +kernel) rfl
theorem tw_718 : Cond.code yX1_rankOf cX1_rankOf 2 (some FieldType.int) ∈ hv_tbl := hv_inT (i := 718) (by decide +kernel) rfl
theorem tw_719 : Cond.methodLink RX2 132 yX2_link ∈ hv_tbl := hv_inT (i := 719) (by decide +kernel) rfl
theorem tw_721 : Cond.instanceMethod yX2_link ∈ hv_tbl := hv_inT (i := 721) (by decide +kernel) rfl
theorem tw_722 : Cond.code yX2_link cX2_link 9 (some FieldType.int) ∈ hv_tbl := hv_inT (i := 722) (by decide +kernel) rfl
theorem tw_723 : Cond.methodLink RX2 126 yX1_row ∈ hv_tbl := hv_inT (i := 723) (by decide +kernel) rfl
theorem tw_724 : Cond.instanceMethod yX1_row ∈ hv_tbl := hv_inT (i := 724) (by decide +kernel) rfl
theorem tw_725 : Cond.selects RX1 yX1_row yX1_row ∈ hv_tbl := hv_inT (i := 725) (by decide +kernel) rfl
theorem tw_726 : Cond.code yX1_row cX1_row 3 (some FieldType.int) ∈ hv_tbl := hv_inT (i := 726) (by decide +kernel) rfl
theorem tw_727 : Cond.methodLink RX2 138 yX1_holdsOf ∈ hv_tbl := hv_inT (i := 727) (by decide +kernel) rfl
theorem tw_728 : Cond.methodLink RX2 141 yX1_deepOf ∈ hv_tbl := hv_inT (i := 728) (by decide +kernel) rfl
theorem tw_729 : Cond.methodLink RX2 97 yJ9_max_7cf53 ∈ hv_tbl := hv_inT (i := 729) (by decide +kernel) rfl
theorem tw_730 : Cond.methodLink RX2 123 yX1_headOf ∈ hv_tbl := hv_inT (i := 730) (by decide +kernel) rfl
theorem tw_731 : Cond.instanceMethod yX1_headOf ∈ hv_tbl := hv_inT (i := 731) (by decide +kernel) rfl
theorem tw_732 : Cond.selects RX1 yX1_headOf yX1_headOf ∈ hv_tbl := hv_inT (i := 732) (by decide +kernel) rfl
theorem tw_733 : Cond.code yX1_headOf cX1_headOf 2 (some FieldType.int) ∈ hv_tbl := hv_inT (i := 733) (by decide +kernel) rfl
theorem tw_734 : Cond.methodLink RX2 120 yX1_singlesOf ∈ hv_tbl := hv_inT (i := 734) (by decide +kernel) rfl
theorem tw_735 : Cond.instanceMethod yX1_singlesOf ∈ hv_tbl := hv_inT (i := 735) (by decide +kernel) rfl
theorem tw_736 : Cond.selects RX1 yX1_singlesOf yX1_singlesOf ∈ hv_tbl := hv_inT (i := 736) (by decide +kernel) rfl
theorem tw_737 : Cond.code yX1_singlesOf cX1_singlesOf 2 (some FieldType.int) ∈ hv_tbl := hv_inT (i := 737) (by decide +kernel) rfl
theorem tw_738 : Cond.methodLink RX2 144 yX1_tree ∈ hv_tbl := hv_inT (i := 738) (by decide +kernel) rfl
theorem tw_739 : Cond.instanceMethod yX1_tree ∈ hv_tbl := hv_inT (i := 739) (by decide +kernel) rfl
theorem tw_740 : Cond.selects RX1 yX1_tree yX1_tree ∈ hv_tbl := hv_inT (i := 740) (by decide +kernel) rfl
theorem tw_741 : Cond.code yX1_tree cX1_tree 8 (some FieldType.int) ∈ hv_tbl := hv_inT (i := 741) (by decide +kernel) rfl
theorem tw_742 : Cond.methodLink RX2 135 yX2_linkBeside ∈ hv_tbl := hv_inT (i := 742) (by decide +kernel) rfl
theorem tw_744 : Cond.instanceMethod yX2_linkBeside ∈ hv_tbl := hv_inT (i := 744) (by decide +kernel) rfl
theorem tw_745 : Cond.code yX2_linkBeside cX2_linkBeside 9 (some FieldType.int) ∈ hv_tbl := hv_inT (i := 745) (by decide +kernel) rfl
theorem tw_746 : Cond.methodLink RX2 148 yX2_carry ∈ hv_tbl := hv_inT (i := 746) (by decide +kernel) rfl
theorem tw_748 : Cond.instanceMethod yX2_carry ∈ hv_tbl := hv_inT (i := 748) (by decide +kernel) rfl
theorem tw_749 : Cond.code yX2_carry cX2_carry 6 (some FieldType.int) ∈ hv_tbl := hv_inT (i := 749) (by decide +kernel) rfl
theorem tw_750 : Cond.methodLink RX2 84 yX2_take ∈ hv_tbl := hv_inT (i := 750) (by decide +kernel) rfl
theorem tw_752 : Cond.instanceMethod yX2_take ∈ hv_tbl := hv_inT (i := 752) (by decide +kernel) rfl
theorem tw_753 : Cond.code yX2_take cX2_take 7 (some FieldType.int) ∈ hv_tbl := hv_inT (i := 753) (by decide +kernel) rfl
theorem tw_754 : Cond.methodLink RX2 108 yX2_leastOf ∈ hv_tbl := hv_inT (i := 754) (by decide +kernel) rfl
theorem tw_756 : Cond.instanceMethod yX2_leastOf ∈ hv_tbl := hv_inT (i := 756) (by decide +kernel) rfl
theorem tw_757 : Cond.code yX2_leastOf cX2_leastOf 5 (some FieldType.int) ∈ hv_tbl := hv_inT (i := 757) (by decide +kernel) rfl
theorem tw_758 : Cond.methodLink RX2 111 yX2_turned ∈ hv_tbl := hv_inT (i := 758) (by decide +kernel) rfl
theorem tw_760 : Cond.instanceMethod yX2_turned ∈ hv_tbl := hv_inT (i := 760) (by decide +kernel) rfl
theorem tw_761 : Cond.code yX2_turned cX2_turned 5 (some FieldType.int) ∈ hv_tbl := hv_inT (i := 761) (by decide +kernel) rfl
theorem tw_762 : Cond.methodLink RX2 114 yX2_allBut ∈ hv_tbl := hv_inT (i := 762) (by decide +kernel) rfl
theorem tw_764 : Cond.instanceMethod yX2_allBut ∈ hv_tbl := hv_inT (i := 764) (by decide +kernel) rfl
theorem tw_765 : Cond.code yX2_allBut cX2_allBut 7 (some FieldType.int) ∈ hv_tbl := hv_inT (i := 765) (by decide +kernel) rfl
theorem tw_766 : Cond.methodLink RX2 117 yX2_merge ∈ hv_tbl := hv_inT (i := 766) (by decide +kernel) rfl
theorem tw_768 : Cond.instanceMethod yX2_merge ∈ hv_tbl := hv_inT (i := 768) (by decide +kernel) rfl
theorem tw_769 : Cond.code yX2_merge cX2_merge 10 (some FieldType.int) ∈ hv_tbl := hv_inT (i := 769) (by decide +kernel) rfl
theorem tw_770 : Cond.methodLink RX2 151 yJ6_compare_7cf53 ∈ hv_tbl := hv_inT (i := 770) (by decide +kernel) rfl
theorem tw_771 : Cond.static yJ6_compare_7cf53 ∈ hv_tbl := hv_inT (i := 771) (by decide +kernel) rfl
theorem tw_772 : Cond.code yJ6_compare_7cf53 cJ6_compare_7cf53 2 (some FieldType.int) ∈ hv_tbl := hv_inT (i := 772) (by decide +kernel) rfl
theorem tw_773 : Cond.methodLink RX10 287 yX6_add ∈ hv_tbl := hv_inT (i := 773) (by decide +kernel) rfl
theorem tw_774 : Cond.instanceMethod yX6_add ∈ hv_tbl := hv_inT (i := 774) (by decide +kernel) rfl
theorem tw_775 : Cond.selects RX6 yX6_add yX6_add ∈ hv_tbl := hv_inT (i := 775) (by decide +kernel) rfl
theorem tw_776 : Cond.code yX6_add cX6_add 5 (none : Option FieldType) ∈ hv_tbl := hv_inT (i := 776) (by decide +kernel) rfl
theorem tw_778 : Cond.methodLink RX6 39 yX6_withRoots ∈ hv_tbl := hv_inT (i := 778) (by decide +kernel) rfl
theorem tw_780 : Cond.instanceMethod yX6_withRoots ∈ hv_tbl := hv_inT (i := 780) (by decide +kernel) rfl
theorem tw_781 : Cond.code yX6_withRoots cX6_withRoots 2 (some FieldType.int) ∈ hv_tbl := hv_inT (i := 781) (by decide +kernel) rfl
theorem tw_782 : Cond.arrayClass FieldType.byte ∈ hv_tbl := hv_inT (i := 782) (by decide +kernel) rfl
theorem tw_783 : Cond.methodLink RL 28 yX10_fault ∈ hv_tbl := hv_inT (i := 783) (by decide +kernel) rfl
theorem tw_784 : Cond.instanceMethod yX10_fault ∈ hv_tbl := hv_inT (i := 784) (by decide +kernel) rfl
theorem tw_785 : Cond.selects RX10 yX10_fault yX10_fault ∈ hv_tbl := hv_inT (i := 785) (by decide +kernel) rfl
theorem tw_786 : Cond.code yX10_fault cX10_fault 2 (some FieldType.int) ∈ hv_tbl := hv_inT (i := 786) (by decide +kernel) rfl
theorem tw_787 : Cond.methodLink RX10 139 yX4_faultFound ∈ hv_tbl := hv_inT (i := 787) (by decide +kernel) rfl
theorem tw_788 : Cond.instanceMethod yX4_faultFound ∈ hv_tbl := hv_inT (i := 788) (by decide +kernel) rfl
theorem tw_789 : Cond.selects RX4 yX4_faultFound yX4_faultFound ∈ hv_tbl := hv_inT (i := 789) (by decide +kernel) rfl
theorem tw_790 : Cond.code yX4_faultFound cX4_faultFound 1 (some FieldType.int) ∈ hv_tbl := hv_inT (i := 790) (by decide +kernel) rfl
theorem tw_791 : Cond.methodLink RX10 142 yX4_faultPlace ∈ hv_tbl := hv_inT (i := 791) (by decide +kernel) rfl
theorem tw_792 : Cond.instanceMethod yX4_faultPlace ∈ hv_tbl := hv_inT (i := 792) (by decide +kernel) rfl
theorem tw_793 : Cond.selects RX4 yX4_faultPlace yX4_faultPlace ∈ hv_tbl := hv_inT (i := 793) (by decide +kernel) rfl
theorem tw_794 : Cond.code yX4_faultPlace cX4_faultPlace 1 (some FieldType.int) ∈ hv_tbl := hv_inT (i := 794) (by decide +kernel) rfl
theorem tw_795 : Cond.methodLink RL 32 yX10_count ∈ hv_tbl := hv_inT (i := 795) (by decide +kernel) rfl
theorem tw_796 : Cond.instanceMethod yX10_count ∈ hv_tbl := hv_inT (i := 796) (by decide +kernel) rfl
theorem tw_797 : Cond.selects RX10 yX10_count yX10_count ∈ hv_tbl := hv_inT (i := 797) (by decide +kernel) rfl
theorem tw_798 : Cond.code yX10_count cX10_count 2 (some FieldType.int) ∈ hv_tbl := hv_inT (i := 798) (by decide +kernel) rfl
theorem tw_799 : Cond.methodLink RL 36 yX10_version ∈ hv_tbl := hv_inT (i := 799) (by decide +kernel) rfl
theorem tw_800 : Cond.instanceMethod yX10_version ∈ hv_tbl := hv_inT (i := 800) (by decide +kernel) rfl
theorem tw_801 : Cond.selects RX10 yX10_version yX10_version ∈ hv_tbl := hv_inT (i := 801) (by decide +kernel) rfl
theorem tw_802 : Cond.code yX10_version cX10_version 3 (some FieldType.int) ∈ hv_tbl := hv_inT (i := 802) (by decide +kernel) rfl
theorem tw_803 : Cond.methodLink RX10 151 yX10_has ∈ hv_tbl := hv_inT (i := 803) (by decide +kernel) rfl
theorem tw_805 : Cond.instanceMethod yX10_has ∈ hv_tbl := hv_inT (i := 805) (by decide +kernel) rfl
theorem tw_806 : Cond.code yX10_has cX10_has 2 (some FieldType.boolean) ∈ hv_tbl := hv_inT (i := 806) (by decide +kernel) rfl
theorem tw_807 : Cond.methodLink RX10 155 yX6_howOf ∈ hv_tbl := hv_inT (i := 807) (by decide +kernel) rfl
theorem tw_808 : Cond.methodLink RX10 156 yX6_firstOf ∈ hv_tbl := hv_inT (i := 808) (by decide +kernel) rfl
theorem tw_809 : Cond.instanceMethod yX6_firstOf ∈ hv_tbl := hv_inT (i := 809) (by decide +kernel) rfl
theorem tw_810 : Cond.selects RX6 yX6_firstOf yX6_firstOf ∈ hv_tbl := hv_inT (i := 810) (by decide +kernel) rfl
theorem tw_811 : Cond.code yX6_firstOf cX6_firstOf 2 (some FieldType.int) ∈ hv_tbl := hv_inT (i := 811) (by decide +kernel) rfl
theorem tw_812 : Cond.methodLink RX10 157 yX6_secondOf ∈ hv_tbl := hv_inT (i := 812) (by decide +kernel) rfl
theorem tw_813 : Cond.instanceMethod yX6_secondOf ∈ hv_tbl := hv_inT (i := 813) (by decide +kernel) rfl
theorem tw_814 : Cond.selects RX6 yX6_secondOf yX6_secondOf ∈ hv_tbl := hv_inT (i := 814) (by decide +kernel) rfl
theorem tw_815 : Cond.code yX6_secondOf cX6_secondOf 2 (some FieldType.int) ∈ hv_tbl := hv_inT (i := 815) (by decide +kernel) rfl
theorem tw_816 : Cond.methodLink RX10 158 yX6_jobOf ∈ hv_tbl := hv_inT (i := 816) (by decide +kernel) rfl
theorem tw_817 : Cond.instanceMethod yX6_jobOf ∈ hv_tbl := hv_inT (i := 817) (by decide +kernel) rfl
theorem tw_818 : Cond.selects RX6 yX6_jobOf yX6_jobOf ∈ hv_tbl := hv_inT (i := 818) (by decide +kernel) rfl
theorem tw_819 : Cond.code yX6_jobOf cX6_jobOf 2 (some FieldType.int) ∈ hv_tbl := hv_inT (i := 819) (by decide +kernel) rfl
theorem tw_820 : Cond.methodLink RL 41 yX10_job ∈ hv_tbl := hv_inT (i := 820) (by decide +kernel) rfl
theorem tw_821 : Cond.instanceMethod yX10_job ∈ hv_tbl := hv_inT (i := 821) (by decide +kernel) rfl
theorem tw_822 : Cond.selects RX10 yX10_job yX10_job ∈ hv_tbl := hv_inT (i := 822) (by decide +kernel) rfl
theorem tw_823 : Cond.code yX10_job cX10_job 3 (some FieldType.int) ∈ hv_tbl := hv_inT (i := 823) (by decide +kernel) rfl
theorem tw_824 : Cond.methodLink RX10 161 yX3_has ∈ hv_tbl := hv_inT (i := 824) (by decide +kernel) rfl
theorem tw_825 : Cond.instanceMethod yX3_has ∈ hv_tbl := hv_inT (i := 825) (by decide +kernel) rfl
theorem tw_826 : Cond.selects RX3 yX3_has yX3_has ∈ hv_tbl := hv_inT (i := 826) (by decide +kernel) rfl
theorem tw_827 : Cond.code yX3_has cX3_has 2 (some FieldType.boolean) ∈ hv_tbl := hv_inT (i := 827) (by decide +kernel) rfl
theorem tw_828 : Cond.methodLink RX10 162 yX3_keyOf ∈ hv_tbl := hv_inT (i := 828) (by decide +kernel) rfl
theorem tw_829 : Cond.methodLink RX10 163 yX3_timeOf ∈ hv_tbl := hv_inT (i := 829) (by decide +kernel) rfl
theorem tw_830 : Cond.instanceMethod yX3_timeOf ∈ hv_tbl := hv_inT (i := 830) (by decide +kernel) rfl
theorem tw_831 : Cond.selects RX3 yX3_timeOf yX3_timeOf ∈ hv_tbl := hv_inT (i := 831) (by decide +kernel) rfl
theorem tw_832 : Cond.code yX3_timeOf cX3_timeOf 2 (some FieldType.int) ∈ hv_tbl := hv_inT (i := 832) (by decide +kernel) rfl
theorem tw_833 : Cond.methodLink RL 45 yX10_size ∈ hv_tbl := hv_inT (i := 833) (by decide +kernel) rfl
theorem tw_834 : Cond.instanceMethod yX10_size ∈ hv_tbl := hv_inT (i := 834) (by decide +kernel) rfl
theorem tw_835 : Cond.selects RX10 yX10_size yX10_size ∈ hv_tbl := hv_inT (i := 835) (by decide +kernel) rfl
theorem tw_836 : Cond.code yX10_size cX10_size 2 (some FieldType.int) ∈ hv_tbl := hv_inT (i := 836) (by decide +kernel) rfl
theorem tw_837 : Cond.methodLink RX10 164 yX0_sizeOf ∈ hv_tbl := hv_inT (i := 837) (by decide +kernel) rfl
theorem tw_838 : Cond.methodLink RL 49 yX10_least ∈ hv_tbl := hv_inT (i := 838) (by decide +kernel) rfl
theorem tw_839 : Cond.instanceMethod yX10_least ∈ hv_tbl := hv_inT (i := 839) (by decide +kernel) rfl
theorem tw_840 : Cond.selects RX10 yX10_least yX10_least ∈ hv_tbl := hv_inT (i := 840) (by decide +kernel) rfl
theorem tw_841 : Cond.code yX10_least cX10_least 2 (some FieldType.int) ∈ hv_tbl := hv_inT (i := 841) (by decide +kernel) rfl
theorem tw_842 : Cond.methodLink RL 53 yX10_place ∈ hv_tbl := hv_inT (i := 842) (by decide +kernel) rfl
theorem tw_843 : Cond.instanceMethod yX10_place ∈ hv_tbl := hv_inT (i := 843) (by decide +kernel) rfl
theorem tw_844 : Cond.selects RX10 yX10_place yX10_place ∈ hv_tbl := hv_inT (i := 844) (by decide +kernel) rfl
theorem tw_845 : Cond.code yX10_place cX10_place 3 (some FieldType.int) ∈ hv_tbl := hv_inT (i := 845) (by decide +kernel) rfl
theorem tw_846 : Cond.methodLink RL 57 yX10_times ∈ hv_tbl := hv_inT (i := 846) (by decide +kernel) rfl
theorem tw_847 : Cond.instanceMethod yX10_times ∈ hv_tbl := hv_inT (i := 847) (by decide +kernel) rfl
theorem tw_848 : Cond.selects RX10 yX10_times yX10_times ∈ hv_tbl := hv_inT (i := 848) (by decide +kernel) rfl
theorem tw_849 : Cond.code yX10_times cX10_times 3 (some FieldType.int) ∈ hv_tbl := hv_inT (i := 849) (by decide +kernel) rfl
theorem tw_850 : Cond.methodLink RX10 174 yX0_timesOf ∈ hv_tbl := hv_inT (i := 850) (by decide +kernel) rfl
theorem tw_851 : Cond.instanceMethod yX0_timesOf ∈ hv_tbl := hv_inT (i := 851) (by decide +kernel) rfl
theorem tw_852 : Cond.selects RX0 yX0_timesOf yX0_timesOf ∈ hv_tbl := hv_inT (i := 852) (by decide +kernel) rfl
theorem tw_853 : Cond.code yX0_timesOf cX0_timesOf 5 (some FieldType.int) ∈ hv_tbl := hv_inT (i := 853) (by decide +kernel) rfl
theorem tw_854 : Cond.methodLink RL 61 yX10_trees ∈ hv_tbl := hv_inT (i := 854) (by decide +kernel) rfl
theorem tw_855 : Cond.instanceMethod yX10_trees ∈ hv_tbl := hv_inT (i := 855) (by decide +kernel) rfl
theorem tw_856 : Cond.selects RX10 yX10_trees yX10_trees ∈ hv_tbl := hv_inT (i := 856) (by decide +kernel) rfl
theorem tw_857 : Cond.code yX10_trees cX10_trees 2 (some FieldType.int) ∈ hv_tbl := hv_inT (i := 857) (by decide +kernel) rfl
theorem tw_858 : Cond.methodLink RX10 177 yX10_heaps ∈ hv_tbl := hv_inT (i := 858) (by decide +kernel) rfl
theorem tw_860 : Cond.instanceMethod yX10_heaps ∈ hv_tbl := hv_inT (i := 860) (by decide +kernel) rfl
theorem tw_861 : Cond.code yX10_heaps cX10_heaps 1 (some (FieldType.object "HeapVersions$Heaps")) ∈ hv_tbl := hv_inT (i := 861) (by decide +kernel) rfl
theorem tw_862 : Cond.methodLink RX10 181 yX2_treesOf ∈ hv_tbl := hv_inT (i := 862) (by decide +kernel) rfl
theorem tw_863 : Cond.instanceMethod yX2_treesOf ∈ hv_tbl := hv_inT (i := 863) (by decide +kernel) rfl
theorem tw_864 : Cond.selects RX2 yX2_treesOf yX2_treesOf ∈ hv_tbl := hv_inT (i := 864) (by decide +kernel) rfl
theorem tw_865 : Cond.code yX2_treesOf cX2_treesOf 2 (some FieldType.int) ∈ hv_tbl := hv_inT (i := 865) (by decide +kernel) rfl
theorem tw_866 : Cond.methodLink RX2 49 yX1_lengthOf ∈ hv_tbl := hv_inT (i := 866) (by decide +kernel) rfl
theorem tw_867 : Cond.instanceMethod yX1_lengthOf ∈ hv_tbl := hv_inT (i := 867) (by decide +kernel) rfl
theorem tw_868 : Cond.selects RX1 yX1_lengthOf yX1_lengthOf ∈ hv_tbl := hv_inT (i := 868) (by decide +kernel) rfl
theorem tw_869 : Cond.code yX1_lengthOf cX1_lengthOf 4 (some FieldType.int) ∈ hv_tbl := hv_inT (i := 869) (by decide +kernel) rfl
theorem tw_870 : Cond.methodLink RL 65 yX10_rank ∈ hv_tbl := hv_inT (i := 870) (by decide +kernel) rfl
theorem tw_871 : Cond.instanceMethod yX10_rank ∈ hv_tbl := hv_inT (i := 871) (by decide +kernel) rfl
theorem tw_872 : Cond.selects RX10 yX10_rank yX10_rank ∈ hv_tbl := hv_inT (i := 872) (by decide +kernel) rfl
theorem tw_873 : Cond.code yX10_rank cX10_rank 4 (some FieldType.int) ∈ hv_tbl := hv_inT (i := 873) (by decide +kernel) rfl
theorem tw_874 : Cond.methodLink RX10 184 yX10_treeAt ∈ hv_tbl := hv_inT (i := 874) (by decide +kernel) rfl
theorem tw_876 : Cond.instanceMethod yX10_treeAt ∈ hv_tbl := hv_inT (i := 876) (by decide +kernel) rfl
theorem tw_877 : Cond.code yX10_treeAt cX10_treeAt 4 (some FieldType.int) ∈ hv_tbl := hv_inT (i := 877) (by decide +kernel) rfl
theorem tw_878 : Cond.methodLink RX10 268 yX2_treeOf ∈ hv_tbl := hv_inT (i := 878) (by decide +kernel) rfl
theorem tw_879 : Cond.instanceMethod yX2_treeOf ∈ hv_tbl := hv_inT (i := 879) (by decide +kernel) rfl
theorem tw_880 : Cond.selects RX2 yX2_treeOf yX2_treeOf ∈ hv_tbl := hv_inT (i := 880) (by decide +kernel) rfl
theorem tw_881 : Cond.code yX2_treeOf cX2_treeOf 5 (some FieldType.int) ∈ hv_tbl := hv_inT (i := 881) (by decide +kernel) rfl
theorem tw_882 : Cond.methodLink RX10 187 yX2_cells ∈ hv_tbl := hv_inT (i := 882) (by decide +kernel) rfl
theorem tw_883 : Cond.instanceMethod yX2_cells ∈ hv_tbl := hv_inT (i := 883) (by decide +kernel) rfl
theorem tw_884 : Cond.selects RX2 yX2_cells yX2_cells ∈ hv_tbl := hv_inT (i := 884) (by decide +kernel) rfl
theorem tw_885 : Cond.code yX2_cells cX2_cells 1 (some (FieldType.object "HeapVersions$Cells")) ∈ hv_tbl := hv_inT (i := 885) (by decide +kernel) rfl
theorem tw_886 : Cond.methodLink RX10 191 yX1_rankOf ∈ hv_tbl := hv_inT (i := 886) (by decide +kernel) rfl
theorem tw_887 : Cond.methodLink RL 69 yX10_holds ∈ hv_tbl := hv_inT (i := 887) (by decide +kernel) rfl
theorem tw_888 : Cond.instanceMethod yX10_holds ∈ hv_tbl := hv_inT (i := 888) (by decide +kernel) rfl
theorem tw_889 : Cond.selects RX10 yX10_holds yX10_holds ∈ hv_tbl := hv_inT (i := 889) (by decide +kernel) rfl
theorem tw_890 : Cond.code yX10_holds cX10_holds 4 (some FieldType.int) ∈ hv_tbl := hv_inT (i := 890) (by decide +kernel) rfl
theorem tw_891 : Cond.methodLink RX10 196 yX1_holdsOf ∈ hv_tbl := hv_inT (i := 891) (by decide +kernel) rfl
theorem tw_892 : Cond.methodLink RL 73 yX10_singles ∈ hv_tbl := hv_inT (i := 892) (by decide +kernel) rfl
theorem tw_893 : Cond.instanceMethod yX10_singles ∈ hv_tbl := hv_inT (i := 893) (by decide +kernel) rfl
theorem tw_894 : Cond.selects RX10 yX10_singles yX10_singles ∈ hv_tbl := hv_inT (i := 894) (by decide +kernel) rfl
theorem tw_895 : Cond.code yX10_singles cX10_singles 4 (some FieldType.int) ∈ hv_tbl := hv_inT (i := 895) (by decide +kernel) rfl
theorem tw_896 : Cond.methodLink RX10 199 yX1_singlesOf ∈ hv_tbl := hv_inT (i := 896) (by decide +kernel) rfl
theorem tw_897 : Cond.methodLink RX10 202 yX1_lengthOf ∈ hv_tbl := hv_inT (i := 897) (by decide +kernel) rfl
theorem tw_898 : Cond.methodLink RL 77 yX10_head ∈ hv_tbl := hv_inT (i := 898) (by decide +kernel) rfl
theorem tw_899 : Cond.instanceMethod yX10_head ∈ hv_tbl := hv_inT (i := 899) (by decide +kernel) rfl
theorem tw_900 : Cond.selects RX10 yX10_head yX10_head ∈ hv_tbl := hv_inT (i := 900) (by decide +kernel) rfl
theorem tw_901 : Cond.code yX10_head cX10_head 4 (some FieldType.int) ∈ hv_tbl := hv_inT (i := 901) (by decide +kernel) rfl
theorem tw_902 : Cond.methodLink RX10 205 yX1_turnOf ∈ hv_tbl := hv_inT (i := 902) (by decide +kernel) rfl
theorem tw_903 : Cond.methodLink RX10 206 yX3_jobOfTurn ∈ hv_tbl := hv_inT (i := 903) (by decide +kernel) rfl
theorem tw_904 : Cond.methodLink RL 81 yX10_depth ∈ hv_tbl := hv_inT (i := 904) (by decide +kernel) rfl
theorem tw_905 : Cond.instanceMethod yX10_depth ∈ hv_tbl := hv_inT (i := 905) (by decide +kernel) rfl
theorem tw_906 : Cond.selects RX10 yX10_depth yX10_depth ∈ hv_tbl := hv_inT (i := 906) (by decide +kernel) rfl
theorem tw_907 : Cond.code yX10_depth cX10_depth 2 (some FieldType.int) ∈ hv_tbl := hv_inT (i := 907) (by decide +kernel) rfl
theorem tw_908 : Cond.methodLink RX10 209 yX2_heapOf ∈ hv_tbl := hv_inT (i := 908) (by decide +kernel) rfl
theorem tw_909 : Cond.methodLink RX10 212 yX1_deepOf ∈ hv_tbl := hv_inT (i := 909) (by decide +kernel) rfl
theorem tw_910 : Cond.methodLink RL 85 yX10_parts ∈ hv_tbl := hv_inT (i := 910) (by decide +kernel) rfl
theorem tw_911 : Cond.instanceMethod yX10_parts ∈ hv_tbl := hv_inT (i := 911) (by decide +kernel) rfl
theorem tw_912 : Cond.selects RX10 yX10_parts yX10_parts ∈ hv_tbl := hv_inT (i := 912) (by decide +kernel) rfl
theorem tw_913 : Cond.code yX10_parts cX10_parts 2 (some FieldType.int) ∈ hv_tbl := hv_inT (i := 913) (by decide +kernel) rfl
theorem tw_914 : Cond.methodLink RX10 215 yX9_begin ∈ hv_tbl := hv_inT (i := 914) (by decide +kernel) rfl
theorem tw_915 : Cond.instanceMethod yX9_begin ∈ hv_tbl := hv_inT (i := 915) (by decide +kernel) rfl
theorem tw_916 : Cond.selects RX9 yX9_begin yX9_begin ∈ hv_tbl := hv_inT (i := 916) (by decide +kernel) rfl
theorem tw_917 : Cond.code yX9_begin cX9_begin 1 (none : Option FieldType) ∈ hv_tbl := hv_inT (i := 917) (by decide +kernel) rfl
theorem tw_918 : Cond.methodLink RX10 218 yX10_walkOver ∈ hv_tbl := hv_inT (i := 918) (by decide +kernel) rfl
theorem tw_920 : Cond.instanceMethod yX10_walkOver ∈ hv_tbl := hv_inT (i := 920) (by decide +kernel) rfl
theorem tw_921 : Cond.code yX10_walkOver cX10_walkOver 2 (some FieldType.int) ∈ hv_tbl := hv_inT (i := 921) (by decide +kernel) rfl
theorem tw_922 : Cond.methodLink RX10 271 yX9_over ∈ hv_tbl := hv_inT (i := 922) (by decide +kernel) rfl
theorem tw_923 : Cond.instanceMethod yX9_over ∈ hv_tbl := hv_inT (i := 923) (by decide +kernel) rfl
theorem tw_924 : Cond.selects RX9 yX9_over yX9_over ∈ hv_tbl := hv_inT (i := 924) (by decide +kernel) rfl
theorem tw_925 : Cond.code yX9_over cX9_over 5 (none : Option FieldType) ∈ hv_tbl := hv_inT (i := 925) (by decide +kernel) rfl
theorem tw_926 : Cond.methodLink RX9 25 yX9_meet ∈ hv_tbl := hv_inT (i := 926) (by decide +kernel) rfl
theorem tw_928 : Cond.instanceMethod yX9_meet ∈ hv_tbl := hv_inT (i := 928) (by decide +kernel) rfl
theorem tw_929 : Cond.code yX9_meet cX9_meet 2 (none : Option FieldType) ∈ hv_tbl := hv_inT (i := 929) (by decide +kernel) rfl
theorem tw_932 : Cond.methodLink RX9 35 yX1_headOf ∈ hv_tbl := hv_inT (i := 932) (by decide +kernel) rfl
theorem tw_933 : Cond.methodLink RX9 39 yX1_singlesOf ∈ hv_tbl := hv_inT (i := 933) (by decide +kernel) rfl
theorem tw_934 : Cond.methodLink RX9 42 yX9_meetAll ∈ hv_tbl := hv_inT (i := 934) (by decide +kernel) rfl
theorem tw_936 : Cond.instanceMethod yX9_meetAll ∈ hv_tbl := hv_inT (i := 936) (by decide +kernel) rfl
theorem tw_937 : Cond.code yX9_meetAll cX9_meetAll 5 (none : Option FieldType) ∈ hv_tbl := hv_inT (i := 937) (by decide +kernel) rfl
theorem tw_938 : Cond.methodLink RX9 49 yX1_firstOf ∈ hv_tbl := hv_inT (i := 938) (by decide +kernel) rfl
theorem tw_939 : Cond.methodLink RX9 52 yX1_restOf ∈ hv_tbl := hv_inT (i := 939) (by decide +kernel) rfl
theorem tw_940 : Cond.methodLink RX9 46 yX1_belowOf ∈ hv_tbl := hv_inT (i := 940) (by decide +kernel) rfl
theorem tw_941 : Cond.methodLink RX10 275 yX9_met ∈ hv_tbl := hv_inT (i := 941) (by decide +kernel) rfl
theorem tw_942 : Cond.instanceMethod yX9_met ∈ hv_tbl := hv_inT (i := 942) (by decide +kernel) rfl
theorem tw_943 : Cond.selects RX9 yX9_met yX9_met ∈ hv_tbl := hv_inT (i := 943) (by decide +kernel) rfl
theorem tw_944 : Cond.code yX9_met cX9_met 1 (some FieldType.int) ∈ hv_tbl := hv_inT (i := 944) (by decide +kernel) rfl
theorem tw_945 : Cond.methodLink RL 89 yX10_own ∈ hv_tbl := hv_inT (i := 945) (by decide +kernel) rfl
theorem tw_946 : Cond.instanceMethod yX10_own ∈ hv_tbl := hv_inT (i := 946) (by decide +kernel) rfl
theorem tw_947 : Cond.selects RX10 yX10_own yX10_own ∈ hv_tbl := hv_inT (i := 947) (by decide +kernel) rfl
theorem tw_948 : Cond.code yX10_own cX10_own 3 (some FieldType.int) ∈ hv_tbl := hv_inT (i := 948) (by decide +kernel) rfl
theorem tw_949 : Cond.methodLink RL 93 yX10_shared ∈ hv_tbl := hv_inT (i := 949) (by decide +kernel) rfl
theorem tw_950 : Cond.instanceMethod yX10_shared ∈ hv_tbl := hv_inT (i := 950) (by decide +kernel) rfl
theorem tw_951 : Cond.selects RX10 yX10_shared yX10_shared ∈ hv_tbl := hv_inT (i := 951) (by decide +kernel) rfl
theorem tw_952 : Cond.code yX10_shared cX10_shared 6 (some FieldType.int) ∈ hv_tbl := hv_inT (i := 952) (by decide +kernel) rfl
theorem tw_953 : Cond.methodLink RL 97 yX10_links ∈ hv_tbl := hv_inT (i := 953) (by decide +kernel) rfl
theorem tw_954 : Cond.instanceMethod yX10_links ∈ hv_tbl := hv_inT (i := 954) (by decide +kernel) rfl
theorem tw_955 : Cond.selects RX10 yX10_links yX10_links ∈ hv_tbl := hv_inT (i := 955) (by decide +kernel) rfl
theorem tw_956 : Cond.code yX10_links cX10_links 2 (some FieldType.int) ∈ hv_tbl := hv_inT (i := 956) (by decide +kernel) rfl
theorem tw_957 : Cond.methodLink RX10 221 yX2_linksOf ∈ hv_tbl := hv_inT (i := 957) (by decide +kernel) rfl
theorem tw_958 : Cond.instanceMethod yX2_linksOf ∈ hv_tbl := hv_inT (i := 958) (by decide +kernel) rfl
theorem tw_959 : Cond.selects RX2 yX2_linksOf yX2_linksOf ∈ hv_tbl := hv_inT (i := 959) (by decide +kernel) rfl
theorem tw_960 : Cond.code yX2_linksOf cX2_linksOf 2 (some FieldType.int) ∈ hv_tbl := hv_inT (i := 960) (by decide +kernel) rfl
theorem tw_961 : Cond.methodLink RL 101 yX10_all ∈ hv_tbl := hv_inT (i := 961) (by decide +kernel) rfl
theorem tw_962 : Cond.instanceMethod yX10_all ∈ hv_tbl := hv_inT (i := 962) (by decide +kernel) rfl
theorem tw_963 : Cond.selects RX10 yX10_all yX10_all ∈ hv_tbl := hv_inT (i := 963) (by decide +kernel) rfl
theorem tw_964 : Cond.code yX10_all cX10_all 1 (some FieldType.int) ∈ hv_tbl := hv_inT (i := 964) (by decide +kernel) rfl
theorem tw_965 : Cond.methodLink RX10 224 yX2_linksOfAll ∈ hv_tbl := hv_inT (i := 965) (by decide +kernel) rfl
theorem tw_966 : Cond.instanceMethod yX2_linksOfAll ∈ hv_tbl := hv_inT (i := 966) (by decide +kernel) rfl
theorem tw_967 : Cond.selects RX2 yX2_linksOfAll yX2_linksOfAll ∈ hv_tbl := hv_inT (i := 967) (by decide +kernel) rfl
theorem tw_968 : Cond.code yX2_linksOfAll cX2_linksOfAll 3 (some FieldType.int) ∈ hv_tbl := hv_inT (i := 968) (by decide +kernel) rfl
theorem tw_969 : Cond.methodLink RX2 61 yX2_linksOf ∈ hv_tbl := hv_inT (i := 969) (by decide +kernel) rfl
theorem tw_970 : Cond.methodLink RL 105 yX10_by ∈ hv_tbl := hv_inT (i := 970) (by decide +kernel) rfl
theorem tw_971 : Cond.instanceMethod yX10_by ∈ hv_tbl := hv_inT (i := 971) (by decide +kernel) rfl
theorem tw_972 : Cond.selects RX10 yX10_by yX10_by ∈ hv_tbl := hv_inT (i := 972) (by decide +kernel) rfl
theorem tw_973 : Cond.code yX10_by cX10_by 3 (some FieldType.int) ∈ hv_tbl := hv_inT (i := 973) (by decide +kernel) rfl
theorem tw_974 : Cond.methodLink RL 109 yX10_lean ∈ hv_tbl := hv_inT (i := 974) (by decide +kernel) rfl
theorem tw_975 : Cond.instanceMethod yX10_lean ∈ hv_tbl := hv_inT (i := 975) (by decide +kernel) rfl
theorem tw_976 : Cond.selects RX10 yX10_lean yX10_lean ∈ hv_tbl := hv_inT (i := 976) (by decide +kernel) rfl
theorem tw_977 : Cond.code yX10_lean cX10_lean 1 (some FieldType.int) ∈ hv_tbl := hv_inT (i := 977) (by decide +kernel) rfl
theorem tw_978 : Cond.methodLink RL 113 yX10_drain ∈ hv_tbl := hv_inT (i := 978) (by decide +kernel) rfl
theorem tw_979 : Cond.instanceMethod yX10_drain ∈ hv_tbl := hv_inT (i := 979) (by decide +kernel) rfl
theorem tw_980 : Cond.selects RX10 yX10_drain yX10_drain ∈ hv_tbl := hv_inT (i := 980) (by decide +kernel) rfl
theorem tw_981 : Cond.code yX10_drain cX10_drain 2 (some FieldType.int) ∈ hv_tbl := hv_inT (i := 981) (by decide +kernel) rfl
theorem tw_982 : Cond.methodLink RX10 227 yX2_linksToEmpty ∈ hv_tbl := hv_inT (i := 982) (by decide +kernel) rfl
theorem tw_983 : Cond.instanceMethod yX2_linksToEmpty ∈ hv_tbl := hv_inT (i := 983) (by decide +kernel) rfl
theorem tw_984 : Cond.selects RX2 yX2_linksToEmpty yX2_linksToEmpty ∈ hv_tbl := hv_inT (i := 984) (by decide +kernel) rfl
theorem tw_985 : Cond.code yX2_linksToEmpty cX2_linksToEmpty 7 (some FieldType.int) ∈ hv_tbl := hv_inT (i := 985) (by decide +kernel) rfl
theorem tw_986 : Cond.methodLink RL 117 yX10_dearest ∈ hv_tbl := hv_inT (i := 986) (by decide +kernel) rfl
theorem tw_987 : Cond.instanceMethod yX10_dearest ∈ hv_tbl := hv_inT (i := 987) (by decide +kernel) rfl
theorem tw_988 : Cond.selects RX10 yX10_dearest yX10_dearest ∈ hv_tbl := hv_inT (i := 988) (by decide +kernel) rfl
theorem tw_989 : Cond.code yX10_dearest cX10_dearest 2 (some FieldType.int) ∈ hv_tbl := hv_inT (i := 989) (by decide +kernel) rfl
theorem tw_990 : Cond.methodLink RX10 230 yX2_mostToEmpty ∈ hv_tbl := hv_inT (i := 990) (by decide +kernel) rfl
theorem tw_991 : Cond.instanceMethod yX2_mostToEmpty ∈ hv_tbl := hv_inT (i := 991) (by decide +kernel) rfl
theorem tw_992 : Cond.selects RX2 yX2_mostToEmpty yX2_mostToEmpty ∈ hv_tbl := hv_inT (i := 992) (by decide +kernel) rfl
theorem tw_993 : Cond.code yX2_mostToEmpty cX2_mostToEmpty 2 (some FieldType.int) ∈ hv_tbl := hv_inT (i := 993) (by decide +kernel) rfl
theorem tw_994 : Cond.methodLink RX2 91 yX2_linksToEmpty ∈ hv_tbl := hv_inT (i := 994) (by decide +kernel) rfl
theorem tw_995 : Cond.methodLink RL 121 yX10_same ∈ hv_tbl := hv_inT (i := 995) (by decide +kernel) rfl
theorem tw_996 : Cond.instanceMethod yX10_same ∈ hv_tbl := hv_inT (i := 996) (by decide +kernel) rfl
theorem tw_997 : Cond.selects RX10 yX10_same yX10_same ∈ hv_tbl := hv_inT (i := 997) (by decide +kernel) rfl
theorem tw_998 : Cond.code yX10_same cX10_same 3 (some FieldType.int) ∈ hv_tbl := hv_inT (i := 998) (by decide +kernel) rfl
theorem tw_999 : Cond.methodLink RX10 233 yX0_excess ∈ hv_tbl := hv_inT (i := 999) (by decide +kernel) rfl
theorem tw_1000 : Cond.instanceMethod yX0_excess ∈ hv_tbl := hv_inT (i := 1000) (by decide +kernel) rfl
theorem tw_1001 : Cond.selects RX0 yX0_excess yX0_excess ∈ hv_tbl := hv_inT (i := 1001) (by decide +kernel) rfl
theorem tw_1002 : Cond.code yX0_excess cX0_excess 7 (some FieldType.int) ∈ hv_tbl := hv_inT (i := 1002) (by decide +kernel) rfl
theorem tw_1003 : Cond.methodLink RL 125 yX10_more ∈ hv_tbl := hv_inT (i := 1003) (by decide +kernel) rfl
theorem tw_1004 : Cond.instanceMethod yX10_more ∈ hv_tbl := hv_inT (i := 1004) (by decide +kernel) rfl
theorem tw_1005 : Cond.selects RX10 yX10_more yX10_more ∈ hv_tbl := hv_inT (i := 1005) (by decide +kernel) rfl
theorem tw_1006 : Cond.code yX10_more cX10_more 3 (some FieldType.int) ∈ hv_tbl := hv_inT (i := 1006) (by decide +kernel) rfl
theorem tw_1007 : Cond.methodLink RL 129 yX10_from ∈ hv_tbl := hv_inT (i := 1007) (by decide +kernel) rfl
theorem tw_1008 : Cond.instanceMethod yX10_from ∈ hv_tbl := hv_inT (i := 1008) (by decide +kernel) rfl
theorem tw_1009 : Cond.selects RX10 yX10_from yX10_from ∈ hv_tbl := hv_inT (i := 1009) (by decide +kernel) rfl
theorem tw_1010 : Cond.code yX10_from cX10_from 3 (some FieldType.int) ∈ hv_tbl := hv_inT (i := 1010) (by decide +kernel) rfl
theorem tw_1011 : Cond.methodLink RX10 236 yX6_madeOf ∈ hv_tbl := hv_inT (i := 1011) (by decide +kernel) rfl
theorem tw_1012 : Cond.instanceMethod yX6_madeOf ∈ hv_tbl := hv_inT (i := 1012) (by decide +kernel) rfl
theorem tw_1013 : Cond.selects RX6 yX6_madeOf yX6_madeOf ∈ hv_tbl := hv_inT (i := 1013) (by decide +kernel) rfl
theorem tw_1014 : Cond.code yX6_madeOf cX6_madeOf 3 (some FieldType.boolean) ∈ hv_tbl := hv_inT (i := 1014) (by decide +kernel) rfl
theorem tw_1015 : Cond.methodLink RL 133 yX10_roots ∈ hv_tbl := hv_inT (i := 1015) (by decide +kernel) rfl
theorem tw_1016 : Cond.instanceMethod yX10_roots ∈ hv_tbl := hv_inT (i := 1016) (by decide +kernel) rfl
theorem tw_1017 : Cond.selects RX10 yX10_roots yX10_roots ∈ hv_tbl := hv_inT (i := 1017) (by decide +kernel) rfl
theorem tw_1018 : Cond.code yX10_roots cX10_roots 2 (some FieldType.int) ∈ hv_tbl := hv_inT (i := 1018) (by decide +kernel) rfl
theorem tw_1019 : Cond.methodLink RX10 240 yX6_rootsOf ∈ hv_tbl := hv_inT (i := 1019) (by decide +kernel) rfl
theorem tw_1020 : Cond.instanceMethod yX6_rootsOf ∈ hv_tbl := hv_inT (i := 1020) (by decide +kernel) rfl
theorem tw_1021 : Cond.selects RX6 yX6_rootsOf yX6_rootsOf ∈ hv_tbl := hv_inT (i := 1021) (by decide +kernel) rfl
theorem tw_1022 : Cond.code yX6_rootsOf cX6_rootsOf 2 (some FieldType.int) ∈ hv_tbl := hv_inT (i := 1022) (by decide +kernel) rfl
theorem tw_1023 : Cond.methodLink RX6 46 yJ6_bitCount_0f7a4 ∈ hv_tbl := hv_inT (i := 1023) (by decide +kernel) rfl
theorem tw_1024 : Cond.static yJ6_bitCount_0f7a4 ∈ hv_tbl := hv_inT (i := 1024) (by decide +kernel) rfl
theorem tw_1025 : Cond.code yJ6_bitCount_0f7a4 cJ6_bitCount_0f7a4 1 (some FieldType.int) ∈ hv_tbl := hv_inT (i := 1025) (by decide +kernel) rfl
theorem tw_1026 : Cond.constant RJ6 265 (1431655765 : Int32) ∈ hv_tbl := hv_inT (i := 1026) (by decide +kernel) rfl
theorem tw_1027 : Cond.constant RJ6 266 (858993459 : Int32) ∈ hv_tbl := hv_inT (i := 1027) (by decide +kernel) rfl
theorem tw_1028 : Cond.constant RJ6 267 (252645135 : Int32) ∈ hv_tbl := hv_inT (i := 1028) (by decide +kernel) rfl
theorem tw_1029 : Cond.methodLink RL 137 yX10_without ∈ hv_tbl := hv_inT (i := 1029) (by decide +kernel) rfl
theorem tw_1030 : Cond.instanceMethod yX10_without ∈ hv_tbl := hv_inT (i := 1030) (by decide +kernel) rfl
theorem tw_1031 : Cond.selects RX10 yX10_without yX10_without ∈ hv_tbl := hv_inT (i := 1031) (by decide +kernel) rfl
theorem tw_1032 : Cond.code yX10_without cX10_without 3 (some FieldType.int) ∈ hv_tbl := hv_inT (i := 1032) (by decide +kernel) rfl
theorem tw_1033 : Cond.methodLink RX10 243 yX10_suppose ∈ hv_tbl := hv_inT (i := 1033) (by decide +kernel) rfl
theorem tw_1035 : Cond.instanceMethod yX10_suppose ∈ hv_tbl := hv_inT (i := 1035) (by decide +kernel) rfl
theorem tw_1036 : Cond.code yX10_suppose cX10_suppose 4 (some FieldType.boolean) ∈ hv_tbl := hv_inT (i := 1036) (by decide +kernel) rfl
theorem tw_1037 : Cond.methodLink RX10 295 yX0_copy ∈ hv_tbl := hv_inT (i := 1037) (by decide +kernel) rfl
theorem tw_1038 : Cond.methodLink RL 141 yX10_left ∈ hv_tbl := hv_inT (i := 1038) (by decide +kernel) rfl
theorem tw_1039 : Cond.instanceMethod yX10_left ∈ hv_tbl := hv_inT (i := 1039) (by decide +kernel) rfl
theorem tw_1040 : Cond.selects RX10 yX10_left yX10_left ∈ hv_tbl := hv_inT (i := 1040) (by decide +kernel) rfl
theorem tw_1041 : Cond.code yX10_left cX10_left 3 (some FieldType.int) ∈ hv_tbl := hv_inT (i := 1041) (by decide +kernel) rfl
theorem tw_1042 : Cond.methodLink RL 145 yX10_done ∈ hv_tbl := hv_inT (i := 1042) (by decide +kernel) rfl
theorem tw_1043 : Cond.instanceMethod yX10_done ∈ hv_tbl := hv_inT (i := 1043) (by decide +kernel) rfl
theorem tw_1044 : Cond.selects RX10 yX10_done yX10_done ∈ hv_tbl := hv_inT (i := 1044) (by decide +kernel) rfl
theorem tw_1045 : Cond.code yX10_done cX10_done 3 (some FieldType.int) ∈ hv_tbl := hv_inT (i := 1045) (by decide +kernel) rfl
theorem tw_1046 : Cond.methodLink RX10 246 yX5_work ∈ hv_tbl := hv_inT (i := 1046) (by decide +kernel) rfl
theorem tw_1047 : Cond.instanceMethod yX5_work ∈ hv_tbl := hv_inT (i := 1047) (by decide +kernel) rfl
theorem tw_1048 : Cond.selects RX5 yX5_work yX5_work ∈ hv_tbl := hv_inT (i := 1048) (by decide +kernel) rfl
theorem tw_1049 : Cond.code yX5_work cX5_work 5 (none : Option FieldType) ∈ hv_tbl := hv_inT (i := 1049) (by decide +kernel) rfl
theorem tw_1050 : Cond.methodLink RX5 45 yX0_sizeOf ∈ hv_tbl := hv_inT (i := 1050) (by decide +kernel) rfl
theorem tw_1052 : Cond.methodLink RX5 55 yX0_jobAt ∈ hv_tbl := hv_inT (i := 1052) (by decide +kernel) rfl
theorem tw_1053 : Cond.methodLink RX5 59 yX5_workOn ∈ hv_tbl := hv_inT (i := 1053) (by decide +kernel) rfl
theorem tw_1055 : Cond.instanceMethod yX5_workOn ∈ hv_tbl := hv_inT (i := 1055) (by decide +kernel) rfl
theorem tw_1056 : Cond.code yX5_workOn cX5_workOn 7 (none : Option FieldType) ∈ hv_tbl := hv_inT (i := 1056) (by decide +kernel) rfl
theorem tw_1057 : Cond.methodLink RX5 63 yX5_freeFirst ∈ hv_tbl := hv_inT (i := 1057) (by decide +kernel) rfl
theorem tw_1059 : Cond.instanceMethod yX5_freeFirst ∈ hv_tbl := hv_inT (i := 1059) (by decide +kernel) rfl
theorem tw_1060 : Cond.code yX5_freeFirst cX5_freeFirst 4 (some FieldType.int) ∈ hv_tbl := hv_inT (i := 1060) (by decide +kernel) rfl
theorem tw_1062 : Cond.methodLink RX5 66 yX3_timeOf ∈ hv_tbl := hv_inT (i := 1062) (by decide +kernel) rfl
theorem tw_1063 : Cond.methodLink RX5 71 yJ9_max_7cf53 ∈ hv_tbl := hv_inT (i := 1063) (by decide +kernel) rfl
theorem tw_1064 : Cond.methodLink RX5 76 yX3_keyOf ∈ hv_tbl := hv_inT (i := 1064) (by decide +kernel) rfl
theorem tw_1065 : Cond.methodLink RX10 250 yX5_last ∈ hv_tbl := hv_inT (i := 1065) (by decide +kernel) rfl
theorem tw_1066 : Cond.instanceMethod yX5_last ∈ hv_tbl := hv_inT (i := 1066) (by decide +kernel) rfl
theorem tw_1067 : Cond.selects RX5 yX5_last yX5_last ∈ hv_tbl := hv_inT (i := 1067) (by decide +kernel) rfl
theorem tw_1068 : Cond.code yX5_last cX5_last 1 (some FieldType.int) ∈ hv_tbl := hv_inT (i := 1068) (by decide +kernel) rfl
theorem tw_1069 : Cond.methodLink RX10 253 yX5_late ∈ hv_tbl := hv_inT (i := 1069) (by decide +kernel) rfl
theorem tw_1070 : Cond.instanceMethod yX5_late ∈ hv_tbl := hv_inT (i := 1070) (by decide +kernel) rfl
theorem tw_1071 : Cond.selects RX5 yX5_late yX5_late ∈ hv_tbl := hv_inT (i := 1071) (by decide +kernel) rfl
theorem tw_1072 : Cond.code yX5_late cX5_late 1 (some FieldType.int) ∈ hv_tbl := hv_inT (i := 1072) (by decide +kernel) rfl
theorem tw_1073 : Cond.methodLink RX10 256 yX5_lateTogether ∈ hv_tbl := hv_inT (i := 1073) (by decide +kernel) rfl
theorem tw_1074 : Cond.instanceMethod yX5_lateTogether ∈ hv_tbl := hv_inT (i := 1074) (by decide +kernel) rfl
theorem tw_1075 : Cond.selects RX5 yX5_lateTogether yX5_lateTogether ∈ hv_tbl := hv_inT (i := 1075) (by decide +kernel) rfl
theorem tw_1076 : Cond.code yX5_lateTogether cX5_lateTogether 1 (some FieldType.int) ∈ hv_tbl := hv_inT (i := 1076) (by decide +kernel) rfl
theorem tw_1077 : Cond.methodLink RX10 259 yX5_lateMost ∈ hv_tbl := hv_inT (i := 1077) (by decide +kernel) rfl
theorem tw_1078 : Cond.instanceMethod yX5_lateMost ∈ hv_tbl := hv_inT (i := 1078) (by decide +kernel) rfl
theorem tw_1079 : Cond.selects RX5 yX5_lateMost yX5_lateMost ∈ hv_tbl := hv_inT (i := 1079) (by decide +kernel) rfl
theorem tw_1080 : Cond.code yX5_lateMost cX5_lateMost 1 (some FieldType.int) ∈ hv_tbl := hv_inT (i := 1080) (by decide +kernel) rfl
theorem tw_1081 : Cond.methodLink RL 149 yX10_hand ∈ hv_tbl := hv_inT (i := 1081) (by decide +kernel) rfl
theorem tw_1082 : Cond.instanceMethod yX10_hand ∈ hv_tbl := hv_inT (i := 1082) (by decide +kernel) rfl
theorem tw_1083 : Cond.selects RX10 yX10_hand yX10_hand ∈ hv_tbl := hv_inT (i := 1083) (by decide +kernel) rfl
theorem tw_1084 : Cond.code yX10_hand cX10_hand 3 (some FieldType.int) ∈ hv_tbl := hv_inT (i := 1084) (by decide +kernel) rfl
theorem tw_1085 : Cond.methodLink RX10 262 yX5_handOf ∈ hv_tbl := hv_inT (i := 1085) (by decide +kernel) rfl
theorem tw_1086 : Cond.instanceMethod yX5_handOf ∈ hv_tbl := hv_inT (i := 1086) (by decide +kernel) rfl
theorem tw_1087 : Cond.selects RX5 yX5_handOf yX5_handOf ∈ hv_tbl := hv_inT (i := 1087) (by decide +kernel) rfl
theorem tw_1088 : Cond.code yX5_handOf cX5_handOf 2 (some FieldType.int) ∈ hv_tbl := hv_inT (i := 1088) (by decide +kernel) rfl
theorem tw_1089 : Cond.methodLink RL 153 yX10_ends ∈ hv_tbl := hv_inT (i := 1089) (by decide +kernel) rfl
theorem tw_1090 : Cond.instanceMethod yX10_ends ∈ hv_tbl := hv_inT (i := 1090) (by decide +kernel) rfl
theorem tw_1091 : Cond.selects RX10 yX10_ends yX10_ends ∈ hv_tbl := hv_inT (i := 1091) (by decide +kernel) rfl
theorem tw_1092 : Cond.code yX10_ends cX10_ends 3 (some FieldType.int) ∈ hv_tbl := hv_inT (i := 1092) (by decide +kernel) rfl
theorem tw_1093 : Cond.methodLink RX10 265 yX5_endOf ∈ hv_tbl := hv_inT (i := 1093) (by decide +kernel) rfl
theorem tw_1094 : Cond.instanceMethod yX5_endOf ∈ hv_tbl := hv_inT (i := 1094) (by decide +kernel) rfl
theorem tw_1095 : Cond.selects RX5 yX5_endOf yX5_endOf ∈ hv_tbl := hv_inT (i := 1095) (by decide +kernel) rfl
theorem tw_1096 : Cond.code yX5_endOf cX5_endOf 2 (some FieldType.int) ∈ hv_tbl := hv_inT (i := 1096) (by decide +kernel) rfl
theorem tw_1097 : Cond.methodLink RL 157 yX10_hands ∈ hv_tbl := hv_inT (i := 1097) (by decide +kernel) rfl
theorem tw_1098 : Cond.instanceMethod yX10_hands ∈ hv_tbl := hv_inT (i := 1098) (by decide +kernel) rfl
theorem tw_1099 : Cond.selects RX10 yX10_hands yX10_hands ∈ hv_tbl := hv_inT (i := 1099) (by decide +kernel) rfl
theorem tw_1100 : Cond.code yX10_hands cX10_hands 3 (some FieldType.int) ∈ hv_tbl := hv_inT (i := 1100) (by decide +kernel) rfl
theorem tw_1101 : Cond.methodLink RL 161 yX10_puts ∈ hv_tbl := hv_inT (i := 1101) (by decide +kernel) rfl
theorem tw_1102 : Cond.instanceMethod yX10_puts ∈ hv_tbl := hv_inT (i := 1102) (by decide +kernel) rfl
theorem tw_1103 : Cond.selects RX10 yX10_puts yX10_puts ∈ hv_tbl := hv_inT (i := 1103) (by decide +kernel) rfl
theorem tw_1104 : Cond.code yX10_puts cX10_puts 4 (some FieldType.int) ∈ hv_tbl := hv_inT (i := 1104) (by decide +kernel) rfl
theorem tw_1105 : Cond.methodLink RL 166 yX10_joins ∈ hv_tbl := hv_inT (i := 1105) (by decide +kernel) rfl
theorem tw_1106 : Cond.instanceMethod yX10_joins ∈ hv_tbl := hv_inT (i := 1106) (by decide +kernel) rfl
theorem tw_1107 : Cond.selects RX10 yX10_joins yX10_joins ∈ hv_tbl := hv_inT (i := 1107) (by decide +kernel) rfl
theorem tw_1108 : Cond.code yX10_joins cX10_joins 3 (some FieldType.int) ∈ hv_tbl := hv_inT (i := 1108) (by decide +kernel) rfl
theorem tw_1109 : Cond.methodLink RL 170 yX10_takes ∈ hv_tbl := hv_inT (i := 1109) (by decide +kernel) rfl
theorem tw_1110 : Cond.instanceMethod yX10_takes ∈ hv_tbl := hv_inT (i := 1110) (by decide +kernel) rfl
theorem tw_1111 : Cond.selects RX10 yX10_takes yX10_takes ∈ hv_tbl := hv_inT (i := 1111) (by decide +kernel) rfl
theorem tw_1112 : Cond.code yX10_takes cX10_takes 2 (some FieldType.int) ∈ hv_tbl := hv_inT (i := 1112) (by decide +kernel) rfl
theorem tw_1113 : Cond.methodLink RL 174 yX10_undo ∈ hv_tbl := hv_inT (i := 1113) (by decide +kernel) rfl
theorem tw_1114 : Cond.instanceMethod yX10_undo ∈ hv_tbl := hv_inT (i := 1114) (by decide +kernel) rfl
theorem tw_1115 : Cond.selects RX10 yX10_undo yX10_undo ∈ hv_tbl := hv_inT (i := 1115) (by decide +kernel) rfl
theorem tw_1116 : Cond.code yX10_undo cX10_undo 1 (some FieldType.int) ∈ hv_tbl := hv_inT (i := 1116) (by decide +kernel) rfl
theorem tw_1117 : Cond.methodLink RL 178 yX10_anew ∈ hv_tbl := hv_inT (i := 1117) (by decide +kernel) rfl
theorem tw_1118 : Cond.instanceMethod yX10_anew ∈ hv_tbl := hv_inT (i := 1118) (by decide +kernel) rfl
theorem tw_1119 : Cond.selects RX10 yX10_anew yX10_anew ∈ hv_tbl := hv_inT (i := 1119) (by decide +kernel) rfl
theorem tw_1120 : Cond.code yX10_anew cX10_anew 2 (some FieldType.int) ∈ hv_tbl := hv_inT (i := 1120) (by decide +kernel) rfl
theorem tw_1121 : Cond.classLink RL 10 RX11 ∈ hv_tbl := hv_inT (i := 1121) (by decide +kernel) rfl
theorem tw_1122 : Cond.instantiable RX11 32 ∈ hv_tbl := hv_inT (i := 1122) (by decide +kernel) rfl
theorem tw_1123 : Cond.methodLink RL 12 yX11_init ∈ hv_tbl := hv_inT (i := 1123) (by decide +kernel) rfl
theorem tw_1124 : Cond.instanceMethod yX11_init ∈ hv_tbl := hv_inT (i := 1124) (by decide +kernel) rfl
theorem tw_1125 : Cond.code yX11_init cX11_init 1 (none : Option FieldType) ∈ hv_tbl := hv_inT (i := 1125) (by decide +kernel) rfl
theorem tw_1126 : Cond.methodLink RX11 1 ⟨"java/lang/Object", "<init>", "()V"⟩ ∈ hv_tbl := hv_inT (i := 1126) (by decide +kernel) rfl
theorem tw_1127 : Cond.constant RX11 41 (40000 : Int32) ∈ hv_tbl := hv_inT (i := 1127) (by decide +kernel) rfl
theorem tw_1128 : Cond.fieldLink RX11 9 "HeapVersionsModel" "mem" "[I" ∈ hv_tbl := hv_inT (i := 1128) (by decide +kernel) rfl
theorem tw_1129 : Cond.fieldLink RX11 13 "HeapVersionsModel" "was" "[I" ∈ hv_tbl := hv_inT (i := 1129) (by decide +kernel) rfl
theorem tw_1130 : Cond.fieldLink RX11 16 "HeapVersionsModel" "tape" "[I" ∈ hv_tbl := hv_inT (i := 1130) (by decide +kernel) rfl
theorem tw_1131 : Cond.fieldLink RX11 75 "HeapVersionsModel" "taped" "I" ∈ hv_tbl := hv_inT (i := 1131) (by decide +kernel) rfl
theorem tw_1132 : Cond.fieldLink RX11 109 "HeapVersionsModel" "faultKind" "I" ∈ hv_tbl := hv_inT (i := 1132) (by decide +kernel) rfl
theorem tw_1133 : Cond.fieldLink RX11 19 "HeapVersionsModel" "faultPlace" "I" ∈ hv_tbl := hv_inT (i := 1133) (by decide +kernel) rfl
theorem tw_1134 : Cond.fieldLink RX11 82 "HeapVersionsModel" "at" "I" ∈ hv_tbl := hv_inT (i := 1134) (by decide +kernel) rfl
theorem tw_1135 : Cond.fieldLink RX11 89 "HeapVersionsModel" "begin" "I" ∈ hv_tbl := hv_inT (i := 1135) (by decide +kernel) rfl
theorem tw_1136 : Cond.fieldLink RX11 95 "HeapVersionsModel" "token" "I" ∈ hv_tbl := hv_inT (i := 1136) (by decide +kernel) rfl
theorem tw_1137 : Cond.fieldLink RX11 92 "HeapVersionsModel" "value" "I" ∈ hv_tbl := hv_inT (i := 1137) (by decide +kernel) rfl
theorem tw_1138 : Cond.fieldLink RX11 105 "HeapVersionsModel" "bad" "Z" ∈ hv_tbl := hv_inT (i := 1138) (by decide +kernel) rfl
theorem tw_1139 : Cond.fieldLink RX11 23 "HeapVersionsModel" "heapJob" "[I" ∈ hv_tbl := hv_inT (i := 1139) (by decide +kernel) rfl
theorem tw_1140 : Cond.fieldLink RX11 26 "HeapVersionsModel" "heapTrees" "[I" ∈ hv_tbl := hv_inT (i := 1140) (by decide +kernel) rfl
theorem tw_1141 : Cond.fieldLink RX11 189 "HeapVersionsModel" "heaps" "I" ∈ hv_tbl := hv_inT (i := 1141) (by decide +kernel) rfl
theorem tw_1142 : Cond.fieldLink RX11 29 "HeapVersionsModel" "treeRank" "[I" ∈ hv_tbl := hv_inT (i := 1142) (by decide +kernel) rfl
theorem tw_1143 : Cond.fieldLink RX11 32 "HeapVersionsModel" "treeHead" "[I" ∈ hv_tbl := hv_inT (i := 1143) (by decide +kernel) rfl
theorem tw_1144 : Cond.fieldLink RX11 35 "HeapVersionsModel" "treeSingles" "[I" ∈ hv_tbl := hv_inT (i := 1144) (by decide +kernel) rfl
theorem tw_1145 : Cond.fieldLink RX11 38 "HeapVersionsModel" "treeSubs" "[I" ∈ hv_tbl := hv_inT (i := 1145) (by decide +kernel) rfl
theorem tw_1146 : Cond.fieldLink RX11 192 "HeapVersionsModel" "trees" "I" ∈ hv_tbl := hv_inT (i := 1146) (by decide +kernel) rfl
theorem tw_1147 : Cond.fieldLink RX11 42 "HeapVersionsModel" "item" "[I" ∈ hv_tbl := hv_inT (i := 1147) (by decide +kernel) rfl
theorem tw_1148 : Cond.fieldLink RX11 45 "HeapVersionsModel" "tail" "[I" ∈ hv_tbl := hv_inT (i := 1148) (by decide +kernel) rfl
theorem tw_1149 : Cond.fieldLink RX11 186 "HeapVersionsModel" "linked" "I" ∈ hv_tbl := hv_inT (i := 1149) (by decide +kernel) rfl
theorem tw_1150 : Cond.fieldLink RX11 198 "HeapVersionsModel" "links" "I" ∈ hv_tbl := hv_inT (i := 1150) (by decide +kernel) rfl
theorem tw_1151 : Cond.fieldLink RX11 48 "HeapVersionsModel" "top" "[I" ∈ hv_tbl := hv_inT (i := 1151) (by decide +kernel) rfl
theorem tw_1152 : Cond.fieldLink RX11 51 "HeapVersionsModel" "took" "[I" ∈ hv_tbl := hv_inT (i := 1152) (by decide +kernel) rfl
theorem tw_1153 : Cond.fieldLink RX11 54 "HeapVersionsModel" "often" "[I" ∈ hv_tbl := hv_inT (i := 1153) (by decide +kernel) rfl
theorem tw_1154 : Cond.fieldLink RX11 57 "HeapVersionsModel" "row" "[I" ∈ hv_tbl := hv_inT (i := 1154) (by decide +kernel) rfl
theorem tw_1155 : Cond.fieldLink RX11 60 "HeapVersionsModel" "heapMark" "[I" ∈ hv_tbl := hv_inT (i := 1155) (by decide +kernel) rfl
theorem tw_1156 : Cond.fieldLink RX11 63 "HeapVersionsModel" "treeMark" "[I" ∈ hv_tbl := hv_inT (i := 1156) (by decide +kernel) rfl
theorem tw_1157 : Cond.fieldLink RX11 66 "HeapVersionsModel" "free" "[I" ∈ hv_tbl := hv_inT (i := 1157) (by decide +kernel) rfl
theorem tw_1158 : Cond.fieldLink RX11 69 "HeapVersionsModel" "whose" "[I" ∈ hv_tbl := hv_inT (i := 1158) (by decide +kernel) rfl
theorem tw_1159 : Cond.fieldLink RX11 72 "HeapVersionsModel" "until" "[I" ∈ hv_tbl := hv_inT (i := 1159) (by decide +kernel) rfl
theorem tw_1225 : Cond.methodLink RL 17 yX11_feed ∈ hv_tbl := hv_inT (i := 1225) (by decide +kernel) rfl
theorem tw_1226 : Cond.instanceMethod yX11_feed ∈ hv_tbl := hv_inT (i := 1226) (by decide +kernel) rfl
theorem tw_1227 : Cond.selects RX11 yX11_feed yX11_feed ∈ hv_tbl := hv_inT (i := 1227) (by decide +kernel) rfl
theorem tw_1228 : Cond.code yX11_feed cX11_feed 8 (some FieldType.int) ∈ hv_tbl := hv_inT (i := 1228) (by decide +kernel) rfl
theorem tw_1229 : Cond.methodLink RL 22 yX11_end ∈ hv_tbl := hv_inT (i := 1229) (by decide +kernel) rfl
theorem tw_1230 : Cond.instanceMethod yX11_end ∈ hv_tbl := hv_inT (i := 1230) (by decide +kernel) rfl
theorem tw_1231 : Cond.selects RX11 yX11_end yX11_end ∈ hv_tbl := hv_inT (i := 1231) (by decide +kernel) rfl
theorem tw_1232 : Cond.code yX11_end cX11_end 2 (some FieldType.int) ∈ hv_tbl := hv_inT (i := 1232) (by decide +kernel) rfl
theorem tw_1233 : Cond.methodLink RX11 78 yX11_in ∈ hv_tbl := hv_inT (i := 1233) (by decide +kernel) rfl
theorem tw_1234 : Cond.static yX11_in ∈ hv_tbl := hv_inT (i := 1234) (by decide +kernel) rfl
theorem tw_1235 : Cond.code yX11_in cX11_in 6 (some FieldType.boolean) ∈ hv_tbl := hv_inT (i := 1235) (by decide +kernel) rfl
theorem tw_1236 : Cond.methodLink RL 27 yX11_plan ∈ hv_tbl := hv_inT (i := 1236) (by decide +kernel) rfl
theorem tw_1237 : Cond.instanceMethod yX11_plan ∈ hv_tbl := hv_inT (i := 1237) (by decide +kernel) rfl
theorem tw_1238 : Cond.selects RX11 yX11_plan yX11_plan ∈ hv_tbl := hv_inT (i := 1238) (by decide +kernel) rfl
theorem tw_1239 : Cond.code yX11_plan cX11_plan 2 (some FieldType.int) ∈ hv_tbl := hv_inT (i := 1239) (by decide +kernel) rfl
theorem tw_1240 : Cond.methodLink RX11 126 yX11_next ∈ hv_tbl := hv_inT (i := 1240) (by decide +kernel) rfl
theorem tw_1242 : Cond.instanceMethod yX11_next ∈ hv_tbl := hv_inT (i := 1242) (by decide +kernel) rfl
theorem tw_1243 : Cond.code yX11_next cX11_next 1 (none : Option FieldType) ∈ hv_tbl := hv_inT (i := 1243) (by decide +kernel) rfl
theorem tw_1244 : Cond.methodLink RX11 85 yX11_isAt ∈ hv_tbl := hv_inT (i := 1244) (by decide +kernel) rfl
theorem tw_1246 : Cond.instanceMethod yX11_isAt ∈ hv_tbl := hv_inT (i := 1246) (by decide +kernel) rfl
theorem tw_1247 : Cond.code yX11_isAt cX11_isAt 3 (some FieldType.boolean) ∈ hv_tbl := hv_inT (i := 1247) (by decide +kernel) rfl
theorem tw_1248 : Cond.constant RX11 98 (99999 : Int32) ∈ hv_tbl := hv_inT (i := 1248) (by decide +kernel) rfl
theorem tw_1249 : Cond.methodLink RX11 99 yJ9_min_7cf53 ∈ hv_tbl := hv_inT (i := 1249) (by decide +kernel) rfl
theorem tw_1250 : Cond.methodLink RX11 166 yX11_readsPlan ∈ hv_tbl := hv_inT (i := 1250) (by decide +kernel) rfl
theorem tw_1252 : Cond.instanceMethod yX11_readsPlan ∈ hv_tbl := hv_inT (i := 1252) (by decide +kernel) rfl
theorem tw_1253 : Cond.code yX11_readsPlan cX11_readsPlan 1 (none : Option FieldType) ∈ hv_tbl := hv_inT (i := 1253) (by decide +kernel) rfl
theorem tw_1255 : Cond.methodLink RX11 138 yX11_isWord ∈ hv_tbl := hv_inT (i := 1255) (by decide +kernel) rfl
theorem tw_1257 : Cond.instanceMethod yX11_isWord ∈ hv_tbl := hv_inT (i := 1257) (by decide +kernel) rfl
theorem tw_1258 : Cond.code yX11_isWord cX11_isWord 3 (some FieldType.boolean) ∈ hv_tbl := hv_inT (i := 1258) (by decide +kernel) rfl
theorem tw_1259 : Cond.methodLink RX11 112 yJ0_length_8abf5 ∈ hv_tbl := hv_inT (i := 1259) (by decide +kernel) rfl
theorem tw_1260 : Cond.methodLink RX11 118 yJ0_charAt_5068e ∈ hv_tbl := hv_inT (i := 1260) (by decide +kernel) rfl
theorem tw_1261 : Cond.methodLink RX11 129 yX11_passes ∈ hv_tbl := hv_inT (i := 1261) (by decide +kernel) rfl
theorem tw_1263 : Cond.instanceMethod yX11_passes ∈ hv_tbl := hv_inT (i := 1263) (by decide +kernel) rfl
theorem tw_1264 : Cond.code yX11_passes cX11_passes 2 (none : Option FieldType) ∈ hv_tbl := hv_inT (i := 1264) (by decide +kernel) rfl
theorem tw_1265 : Cond.methodLink RX11 122 yX11_faults ∈ hv_tbl := hv_inT (i := 1265) (by decide +kernel) rfl
theorem tw_1267 : Cond.instanceMethod yX11_faults ∈ hv_tbl := hv_inT (i := 1267) (by decide +kernel) rfl
theorem tw_1268 : Cond.code yX11_faults cX11_faults 2 (none : Option FieldType) ∈ hv_tbl := hv_inT (i := 1268) (by decide +kernel) rfl
theorem tw_1270 : Cond.methodLink RX11 133 yX11_reads ∈ hv_tbl := hv_inT (i := 1270) (by decide +kernel) rfl
theorem tw_1272 : Cond.instanceMethod yX11_reads ∈ hv_tbl := hv_inT (i := 1272) (by decide +kernel) rfl
theorem tw_1273 : Cond.code yX11_reads cX11_reads 4 (some FieldType.int) ∈ hv_tbl := hv_inT (i := 1273) (by decide +kernel) rfl
theorem tw_1275 : Cond.methodLink RX11 169 yX11_readsVersion_ ∈ hv_tbl := hv_inT (i := 1275) (by decide +kernel) rfl
theorem tw_1277 : Cond.instanceMethod yX11_readsVersion_ ∈ hv_tbl := hv_inT (i := 1277) (by decide +kernel) rfl
theorem tw_1278 : Cond.code yX11_readsVersion_ cX11_readsVersion_ 6 (none : Option FieldType) ∈ hv_tbl := hv_inT (i := 1278) (by decide +kernel) rfl
theorem tw_1279 : Cond.methodLink RX11 154 yX11_how ∈ hv_tbl := hv_inT (i := 1279) (by decide +kernel) rfl
theorem tw_1281 : Cond.instanceMethod yX11_how ∈ hv_tbl := hv_inT (i := 1281) (by decide +kernel) rfl
theorem tw_1282 : Cond.code yX11_how cX11_how 1 (some FieldType.int) ∈ hv_tbl := hv_inT (i := 1282) (by decide +kernel) rfl
theorem tw_1287 : Cond.methodLink RX11 157 yX11_readsVersion ∈ hv_tbl := hv_inT (i := 1287) (by decide +kernel) rfl
theorem tw_1289 : Cond.instanceMethod yX11_readsVersion ∈ hv_tbl := hv_inT (i := 1289) (by decide +kernel) rfl
theorem tw_1290 : Cond.code yX11_readsVersion cX11_readsVersion 3 (some FieldType.int) ∈ hv_tbl := hv_inT (i := 1290) (by decide +kernel) rfl
theorem tw_1292 : Cond.methodLink RX11 162 yX11_makes ∈ hv_tbl := hv_inT (i := 1292) (by decide +kernel) rfl
theorem tw_1294 : Cond.instanceMethod yX11_makes ∈ hv_tbl := hv_inT (i := 1294) (by decide +kernel) rfl
theorem tw_1295 : Cond.code yX11_makes cX11_makes 7 (none : Option FieldType) ∈ hv_tbl := hv_inT (i := 1295) (by decide +kernel) rfl
theorem tw_1296 : Cond.methodLink RL 31 yX11_fault ∈ hv_tbl := hv_inT (i := 1296) (by decide +kernel) rfl
theorem tw_1297 : Cond.instanceMethod yX11_fault ∈ hv_tbl := hv_inT (i := 1297) (by decide +kernel) rfl
theorem tw_1298 : Cond.selects RX11 yX11_fault yX11_fault ∈ hv_tbl := hv_inT (i := 1298) (by decide +kernel) rfl
theorem tw_1299 : Cond.code yX11_fault cX11_fault 2 (some FieldType.int) ∈ hv_tbl := hv_inT (i := 1299) (by decide +kernel) rfl
theorem tw_1300 : Cond.methodLink RL 35 yX11_count ∈ hv_tbl := hv_inT (i := 1300) (by decide +kernel) rfl
theorem tw_1301 : Cond.instanceMethod yX11_count ∈ hv_tbl := hv_inT (i := 1301) (by decide +kernel) rfl
theorem tw_1302 : Cond.selects RX11 yX11_count yX11_count ∈ hv_tbl := hv_inT (i := 1302) (by decide +kernel) rfl
theorem tw_1303 : Cond.code yX11_count cX11_count 2 (some FieldType.int) ∈ hv_tbl := hv_inT (i := 1303) (by decide +kernel) rfl
theorem tw_1304 : Cond.methodLink RL 40 yX11_version ∈ hv_tbl := hv_inT (i := 1304) (by decide +kernel) rfl
theorem tw_1305 : Cond.instanceMethod yX11_version ∈ hv_tbl := hv_inT (i := 1305) (by decide +kernel) rfl
theorem tw_1306 : Cond.selects RX11 yX11_version yX11_version ∈ hv_tbl := hv_inT (i := 1306) (by decide +kernel) rfl
theorem tw_1307 : Cond.code yX11_version cX11_version 3 (some FieldType.int) ∈ hv_tbl := hv_inT (i := 1307) (by decide +kernel) rfl
theorem tw_1308 : Cond.methodLink RX11 171 yX11_isVersion ∈ hv_tbl := hv_inT (i := 1308) (by decide +kernel) rfl
theorem tw_1310 : Cond.instanceMethod yX11_isVersion ∈ hv_tbl := hv_inT (i := 1310) (by decide +kernel) rfl
theorem tw_1311 : Cond.code yX11_isVersion cX11_isVersion 2 (some FieldType.boolean) ∈ hv_tbl := hv_inT (i := 1311) (by decide +kernel) rfl
theorem tw_1312 : Cond.methodLink RX11 175 yX11_jobOf ∈ hv_tbl := hv_inT (i := 1312) (by decide +kernel) rfl
theorem tw_1314 : Cond.instanceMethod yX11_jobOf ∈ hv_tbl := hv_inT (i := 1314) (by decide +kernel) rfl
theorem tw_1315 : Cond.code yX11_jobOf cX11_jobOf 2 (some FieldType.int) ∈ hv_tbl := hv_inT (i := 1315) (by decide +kernel) rfl
theorem tw_1316 : Cond.methodLink RX11 179 yX11_makesAll ∈ hv_tbl := hv_inT (i := 1316) (by decide +kernel) rfl
theorem tw_1318 : Cond.instanceMethod yX11_makesAll ∈ hv_tbl := hv_inT (i := 1318) (by decide +kernel) rfl
theorem tw_1319 : Cond.code yX11_makesAll cX11_makesAll 5 (none : Option FieldType) ∈ hv_tbl := hv_inT (i := 1319) (by decide +kernel) rfl
theorem tw_1320 : Cond.methodLink RX11 227 yX11_heap ∈ hv_tbl := hv_inT (i := 1320) (by decide +kernel) rfl
theorem tw_1322 : Cond.instanceMethod yX11_heap ∈ hv_tbl := hv_inT (i := 1322) (by decide +kernel) rfl
theorem tw_1323 : Cond.code yX11_heap cX11_heap 3 (some FieldType.int) ∈ hv_tbl := hv_inT (i := 1323) (by decide +kernel) rfl
theorem tw_1324 : Cond.methodLink RX11 236 yX11_joins ∈ hv_tbl := hv_inT (i := 1324) (by decide +kernel) rfl
theorem tw_1326 : Cond.instanceMethod yX11_joins ∈ hv_tbl := hv_inT (i := 1326) (by decide +kernel) rfl
theorem tw_1327 : Cond.code yX11_joins cX11_joins 6 (some FieldType.int) ∈ hv_tbl := hv_inT (i := 1327) (by decide +kernel) rfl
theorem tw_1328 : Cond.methodLink RX11 201 yX11_isLess ∈ hv_tbl := hv_inT (i := 1328) (by decide +kernel) rfl
theorem tw_1330 : Cond.instanceMethod yX11_isLess ∈ hv_tbl := hv_inT (i := 1330) (by decide +kernel) rfl
theorem tw_1331 : Cond.code yX11_isLess cX11_isLess 3 (some FieldType.boolean) ∈ hv_tbl := hv_inT (i := 1331) (by decide +kernel) rfl
theorem tw_1332 : Cond.methodLink RX11 195 yX11_isJobLess ∈ hv_tbl := hv_inT (i := 1332) (by decide +kernel) rfl
theorem tw_1334 : Cond.instanceMethod yX11_isJobLess ∈ hv_tbl := hv_inT (i := 1334) (by decide +kernel) rfl
theorem tw_1335 : Cond.code yX11_isJobLess cX11_isJobLess 3 (some FieldType.boolean) ∈ hv_tbl := hv_inT (i := 1335) (by decide +kernel) rfl
theorem tw_1336 : Cond.methodLink RX11 223 yX11_sets ∈ hv_tbl := hv_inT (i := 1336) (by decide +kernel) rfl
theorem tw_1338 : Cond.instanceMethod yX11_sets ∈ hv_tbl := hv_inT (i := 1338) (by decide +kernel) rfl
theorem tw_1339 : Cond.code yX11_sets cX11_sets 9 (some FieldType.int) ∈ hv_tbl := hv_inT (i := 1339) (by decide +kernel) rfl
theorem tw_1340 : Cond.methodLink RX11 211 yX11_link ∈ hv_tbl := hv_inT (i := 1340) (by decide +kernel) rfl
theorem tw_1342 : Cond.instanceMethod yX11_link ∈ hv_tbl := hv_inT (i := 1342) (by decide +kernel) rfl
theorem tw_1343 : Cond.code yX11_link cX11_link 5 (some FieldType.int) ∈ hv_tbl := hv_inT (i := 1343) (by decide +kernel) rfl
theorem tw_1344 : Cond.methodLink RX11 204 yX11_ahead ∈ hv_tbl := hv_inT (i := 1344) (by decide +kernel) rfl
theorem tw_1346 : Cond.instanceMethod yX11_ahead ∈ hv_tbl := hv_inT (i := 1346) (by decide +kernel) rfl
theorem tw_1347 : Cond.code yX11_ahead cX11_ahead 3 (some FieldType.int) ∈ hv_tbl := hv_inT (i := 1347) (by decide +kernel) rfl
theorem tw_1348 : Cond.methodLink RX11 207 yX11_tree ∈ hv_tbl := hv_inT (i := 1348) (by decide +kernel) rfl
theorem tw_1350 : Cond.instanceMethod yX11_tree ∈ hv_tbl := hv_inT (i := 1350) (by decide +kernel) rfl
theorem tw_1351 : Cond.code yX11_tree cX11_tree 5 (some FieldType.int) ∈ hv_tbl := hv_inT (i := 1351) (by decide +kernel) rfl
theorem tw_1352 : Cond.methodLink RX11 214 yX11_carries ∈ hv_tbl := hv_inT (i := 1352) (by decide +kernel) rfl
theorem tw_1354 : Cond.instanceMethod yX11_carries ∈ hv_tbl := hv_inT (i := 1354) (by decide +kernel) rfl
theorem tw_1355 : Cond.code yX11_carries cX11_carries 5 (some FieldType.int) ∈ hv_tbl := hv_inT (i := 1355) (by decide +kernel) rfl
theorem tw_1356 : Cond.methodLink RX11 239 yX11_takes ∈ hv_tbl := hv_inT (i := 1356) (by decide +kernel) rfl
theorem tw_1358 : Cond.instanceMethod yX11_takes ∈ hv_tbl := hv_inT (i := 1358) (by decide +kernel) rfl
theorem tw_1359 : Cond.code yX11_takes cX11_takes 8 (some FieldType.int) ∈ hv_tbl := hv_inT (i := 1359) (by decide +kernel) rfl
theorem tw_1360 : Cond.methodLink RX11 230 yX11_withoutFirst ∈ hv_tbl := hv_inT (i := 1360) (by decide +kernel) rfl
theorem tw_1362 : Cond.instanceMethod yX11_withoutFirst ∈ hv_tbl := hv_inT (i := 1362) (by decide +kernel) rfl
theorem tw_1363 : Cond.code yX11_withoutFirst cX11_withoutFirst 3 (some FieldType.int) ∈ hv_tbl := hv_inT (i := 1363) (by decide +kernel) rfl
theorem tw_1364 : Cond.methodLink RX11 233 yX11_merges ∈ hv_tbl := hv_inT (i := 1364) (by decide +kernel) rfl
theorem tw_1366 : Cond.instanceMethod yX11_merges ∈ hv_tbl := hv_inT (i := 1366) (by decide +kernel) rfl
theorem tw_1367 : Cond.code yX11_merges cX11_merges 4 (some FieldType.int) ∈ hv_tbl := hv_inT (i := 1367) (by decide +kernel) rfl
theorem tw_1368 : Cond.methodLink RX11 217 yX11_settled ∈ hv_tbl := hv_inT (i := 1368) (by decide +kernel) rfl
theorem tw_1370 : Cond.instanceMethod yX11_settled ∈ hv_tbl := hv_inT (i := 1370) (by decide +kernel) rfl
theorem tw_1371 : Cond.code yX11_settled cX11_settled 2 (some FieldType.int) ∈ hv_tbl := hv_inT (i := 1371) (by decide +kernel) rfl
theorem tw_1372 : Cond.methodLink RX11 220 yX11_goesTogether ∈ hv_tbl := hv_inT (i := 1372) (by decide +kernel) rfl
theorem tw_1374 : Cond.instanceMethod yX11_goesTogether ∈ hv_tbl := hv_inT (i := 1374) (by decide +kernel) rfl
theorem tw_1375 : Cond.code yX11_goesTogether cX11_goesTogether 6 (some FieldType.int) ∈ hv_tbl := hv_inT (i := 1375) (by decide +kernel) rfl
theorem tw_1376 : Cond.methodLink RL 44 yX11_job ∈ hv_tbl := hv_inT (i := 1376) (by decide +kernel) rfl
theorem tw_1377 : Cond.instanceMethod yX11_job ∈ hv_tbl := hv_inT (i := 1377) (by decide +kernel) rfl
theorem tw_1378 : Cond.selects RX11 yX11_job yX11_job ∈ hv_tbl := hv_inT (i := 1378) (by decide +kernel) rfl
theorem tw_1379 : Cond.code yX11_job cX11_job 3 (some FieldType.int) ∈ hv_tbl := hv_inT (i := 1379) (by decide +kernel) rfl
theorem tw_1380 : Cond.methodLink RX11 183 yX11_isJob ∈ hv_tbl := hv_inT (i := 1380) (by decide +kernel) rfl
theorem tw_1382 : Cond.instanceMethod yX11_isJob ∈ hv_tbl := hv_inT (i := 1382) (by decide +kernel) rfl
theorem tw_1383 : Cond.code yX11_isJob cX11_isJob 2 (some FieldType.boolean) ∈ hv_tbl := hv_inT (i := 1383) (by decide +kernel) rfl
theorem tw_1384 : Cond.methodLink RL 48 yX11_size ∈ hv_tbl := hv_inT (i := 1384) (by decide +kernel) rfl
theorem tw_1385 : Cond.instanceMethod yX11_size ∈ hv_tbl := hv_inT (i := 1385) (by decide +kernel) rfl
theorem tw_1386 : Cond.selects RX11 yX11_size yX11_size ∈ hv_tbl := hv_inT (i := 1386) (by decide +kernel) rfl
theorem tw_1387 : Cond.code yX11_size cX11_size 2 (some FieldType.int) ∈ hv_tbl := hv_inT (i := 1387) (by decide +kernel) rfl
theorem tw_1388 : Cond.methodLink RX11 251 yX11_heapOf ∈ hv_tbl := hv_inT (i := 1388) (by decide +kernel) rfl
theorem tw_1390 : Cond.instanceMethod yX11_heapOf ∈ hv_tbl := hv_inT (i := 1390) (by decide +kernel) rfl
theorem tw_1391 : Cond.code yX11_heapOf cX11_heapOf 2 (some FieldType.int) ∈ hv_tbl := hv_inT (i := 1391) (by decide +kernel) rfl
theorem tw_1392 : Cond.methodLink RX11 248 yX11_counts ∈ hv_tbl := hv_inT (i := 1392) (by decide +kernel) rfl
theorem tw_1394 : Cond.instanceMethod yX11_counts ∈ hv_tbl := hv_inT (i := 1394) (by decide +kernel) rfl
theorem tw_1395 : Cond.code yX11_counts cX11_counts 3 (some FieldType.int) ∈ hv_tbl := hv_inT (i := 1395) (by decide +kernel) rfl
theorem tw_1396 : Cond.methodLink RX11 245 yX11_countsHeap ∈ hv_tbl := hv_inT (i := 1396) (by decide +kernel) rfl
theorem tw_1398 : Cond.instanceMethod yX11_countsHeap ∈ hv_tbl := hv_inT (i := 1398) (by decide +kernel) rfl
theorem tw_1399 : Cond.code yX11_countsHeap cX11_countsHeap 4 (some FieldType.int) ∈ hv_tbl := hv_inT (i := 1399) (by decide +kernel) rfl
theorem tw_1400 : Cond.methodLink RX11 242 yX11_countsTree ∈ hv_tbl := hv_inT (i := 1400) (by decide +kernel) rfl
theorem tw_1402 : Cond.instanceMethod yX11_countsTree ∈ hv_tbl := hv_inT (i := 1402) (by decide +kernel) rfl
theorem tw_1403 : Cond.code yX11_countsTree cX11_countsTree 4 (some FieldType.int) ∈ hv_tbl := hv_inT (i := 1403) (by decide +kernel) rfl
theorem tw_1404 : Cond.methodLink RL 52 yX11_least ∈ hv_tbl := hv_inT (i := 1404) (by decide +kernel) rfl
theorem tw_1405 : Cond.instanceMethod yX11_least ∈ hv_tbl := hv_inT (i := 1405) (by decide +kernel) rfl
theorem tw_1406 : Cond.selects RX11 yX11_least yX11_least ∈ hv_tbl := hv_inT (i := 1406) (by decide +kernel) rfl
theorem tw_1407 : Cond.code yX11_least cX11_least 2 (some FieldType.int) ∈ hv_tbl := hv_inT (i := 1407) (by decide +kernel) rfl
theorem tw_1408 : Cond.methodLink RX11 254 yX11_leastOf ∈ hv_tbl := hv_inT (i := 1408) (by decide +kernel) rfl
theorem tw_1410 : Cond.instanceMethod yX11_leastOf ∈ hv_tbl := hv_inT (i := 1410) (by decide +kernel) rfl
theorem tw_1411 : Cond.code yX11_leastOf cX11_leastOf 2 (some FieldType.int) ∈ hv_tbl := hv_inT (i := 1411) (by decide +kernel) rfl
theorem tw_1412 : Cond.methodLink RL 56 yX11_place ∈ hv_tbl := hv_inT (i := 1412) (by decide +kernel) rfl
theorem tw_1413 : Cond.instanceMethod yX11_place ∈ hv_tbl := hv_inT (i := 1413) (by decide +kernel) rfl
theorem tw_1414 : Cond.selects RX11 yX11_place yX11_place ∈ hv_tbl := hv_inT (i := 1414) (by decide +kernel) rfl
theorem tw_1415 : Cond.code yX11_place cX11_place 3 (some FieldType.int) ∈ hv_tbl := hv_inT (i := 1415) (by decide +kernel) rfl
theorem tw_1416 : Cond.methodLink RX11 257 yX11_ordered ∈ hv_tbl := hv_inT (i := 1416) (by decide +kernel) rfl
theorem tw_1418 : Cond.instanceMethod yX11_ordered ∈ hv_tbl := hv_inT (i := 1418) (by decide +kernel) rfl
theorem tw_1419 : Cond.code yX11_ordered cX11_ordered 6 (some FieldType.int) ∈ hv_tbl := hv_inT (i := 1419) (by decide +kernel) rfl
theorem tw_1420 : Cond.methodLink RL 60 yX11_times ∈ hv_tbl := hv_inT (i := 1420) (by decide +kernel) rfl
theorem tw_1421 : Cond.instanceMethod yX11_times ∈ hv_tbl := hv_inT (i := 1421) (by decide +kernel) rfl
theorem tw_1422 : Cond.selects RX11 yX11_times yX11_times ∈ hv_tbl := hv_inT (i := 1422) (by decide +kernel) rfl
theorem tw_1423 : Cond.code yX11_times cX11_times 3 (some FieldType.int) ∈ hv_tbl := hv_inT (i := 1423) (by decide +kernel) rfl
theorem tw_1424 : Cond.methodLink RL 64 yX11_trees ∈ hv_tbl := hv_inT (i := 1424) (by decide +kernel) rfl
theorem tw_1425 : Cond.instanceMethod yX11_trees ∈ hv_tbl := hv_inT (i := 1425) (by decide +kernel) rfl
theorem tw_1426 : Cond.selects RX11 yX11_trees yX11_trees ∈ hv_tbl := hv_inT (i := 1426) (by decide +kernel) rfl
theorem tw_1427 : Cond.code yX11_trees cX11_trees 2 (some FieldType.int) ∈ hv_tbl := hv_inT (i := 1427) (by decide +kernel) rfl
theorem tw_1428 : Cond.methodLink RX11 260 yX11_queueOf ∈ hv_tbl := hv_inT (i := 1428) (by decide +kernel) rfl
theorem tw_1430 : Cond.instanceMethod yX11_queueOf ∈ hv_tbl := hv_inT (i := 1430) (by decide +kernel) rfl
theorem tw_1431 : Cond.code yX11_queueOf cX11_queueOf 3 (some FieldType.int) ∈ hv_tbl := hv_inT (i := 1431) (by decide +kernel) rfl
theorem tw_1432 : Cond.methodLink RX11 263 yX11_longOf ∈ hv_tbl := hv_inT (i := 1432) (by decide +kernel) rfl
theorem tw_1434 : Cond.instanceMethod yX11_longOf ∈ hv_tbl := hv_inT (i := 1434) (by decide +kernel) rfl
theorem tw_1435 : Cond.code yX11_longOf cX11_longOf 4 (some FieldType.int) ∈ hv_tbl := hv_inT (i := 1435) (by decide +kernel) rfl
theorem tw_1436 : Cond.methodLink RL 68 yX11_rank ∈ hv_tbl := hv_inT (i := 1436) (by decide +kernel) rfl
theorem tw_1437 : Cond.instanceMethod yX11_rank ∈ hv_tbl := hv_inT (i := 1437) (by decide +kernel) rfl
theorem tw_1438 : Cond.selects RX11 yX11_rank yX11_rank ∈ hv_tbl := hv_inT (i := 1438) (by decide +kernel) rfl
theorem tw_1439 : Cond.code yX11_rank cX11_rank 4 (some FieldType.int) ∈ hv_tbl := hv_inT (i := 1439) (by decide +kernel) rfl
theorem tw_1440 : Cond.methodLink RX11 269 yX11_treeAt ∈ hv_tbl := hv_inT (i := 1440) (by decide +kernel) rfl
theorem tw_1442 : Cond.instanceMethod yX11_treeAt ∈ hv_tbl := hv_inT (i := 1442) (by decide +kernel) rfl
theorem tw_1443 : Cond.code yX11_treeAt cX11_treeAt 4 (some FieldType.int) ∈ hv_tbl := hv_inT (i := 1443) (by decide +kernel) rfl
theorem tw_1444 : Cond.methodLink RX11 266 yX11_thingOf ∈ hv_tbl := hv_inT (i := 1444) (by decide +kernel) rfl
theorem tw_1446 : Cond.instanceMethod yX11_thingOf ∈ hv_tbl := hv_inT (i := 1446) (by decide +kernel) rfl
theorem tw_1447 : Cond.code yX11_thingOf cX11_thingOf 5 (some FieldType.int) ∈ hv_tbl := hv_inT (i := 1447) (by decide +kernel) rfl
theorem tw_1448 : Cond.methodLink RL 72 yX11_holds ∈ hv_tbl := hv_inT (i := 1448) (by decide +kernel) rfl
theorem tw_1449 : Cond.instanceMethod yX11_holds ∈ hv_tbl := hv_inT (i := 1449) (by decide +kernel) rfl
theorem tw_1450 : Cond.selects RX11 yX11_holds yX11_holds ∈ hv_tbl := hv_inT (i := 1450) (by decide +kernel) rfl
theorem tw_1451 : Cond.code yX11_holds cX11_holds 4 (some FieldType.int) ∈ hv_tbl := hv_inT (i := 1451) (by decide +kernel) rfl
theorem tw_1452 : Cond.methodLink RL 76 yX11_singles ∈ hv_tbl := hv_inT (i := 1452) (by decide +kernel) rfl
theorem tw_1453 : Cond.instanceMethod yX11_singles ∈ hv_tbl := hv_inT (i := 1453) (by decide +kernel) rfl
theorem tw_1454 : Cond.selects RX11 yX11_singles yX11_singles ∈ hv_tbl := hv_inT (i := 1454) (by decide +kernel) rfl
theorem tw_1455 : Cond.code yX11_singles cX11_singles 4 (some FieldType.int) ∈ hv_tbl := hv_inT (i := 1455) (by decide +kernel) rfl
theorem tw_1456 : Cond.methodLink RL 80 yX11_head ∈ hv_tbl := hv_inT (i := 1456) (by decide +kernel) rfl
theorem tw_1457 : Cond.instanceMethod yX11_head ∈ hv_tbl := hv_inT (i := 1457) (by decide +kernel) rfl
theorem tw_1458 : Cond.selects RX11 yX11_head yX11_head ∈ hv_tbl := hv_inT (i := 1458) (by decide +kernel) rfl
theorem tw_1459 : Cond.code yX11_head cX11_head 4 (some FieldType.int) ∈ hv_tbl := hv_inT (i := 1459) (by decide +kernel) rfl
theorem tw_1460 : Cond.methodLink RL 84 yX11_depth ∈ hv_tbl := hv_inT (i := 1460) (by decide +kernel) rfl
theorem tw_1461 : Cond.instanceMethod yX11_depth ∈ hv_tbl := hv_inT (i := 1461) (by decide +kernel) rfl
theorem tw_1462 : Cond.selects RX11 yX11_depth yX11_depth ∈ hv_tbl := hv_inT (i := 1462) (by decide +kernel) rfl
theorem tw_1463 : Cond.code yX11_depth cX11_depth 2 (some FieldType.int) ∈ hv_tbl := hv_inT (i := 1463) (by decide +kernel) rfl
theorem tw_1464 : Cond.methodLink RX11 278 yX11_deepOf ∈ hv_tbl := hv_inT (i := 1464) (by decide +kernel) rfl
theorem tw_1466 : Cond.instanceMethod yX11_deepOf ∈ hv_tbl := hv_inT (i := 1466) (by decide +kernel) rfl
theorem tw_1467 : Cond.code yX11_deepOf cX11_deepOf 4 (some FieldType.int) ∈ hv_tbl := hv_inT (i := 1467) (by decide +kernel) rfl
theorem tw_1468 : Cond.methodLink RX11 272 yX11_deepIn ∈ hv_tbl := hv_inT (i := 1468) (by decide +kernel) rfl
theorem tw_1470 : Cond.instanceMethod yX11_deepIn ∈ hv_tbl := hv_inT (i := 1470) (by decide +kernel) rfl
theorem tw_1471 : Cond.code yX11_deepIn cX11_deepIn 4 (some FieldType.int) ∈ hv_tbl := hv_inT (i := 1471) (by decide +kernel) rfl
theorem tw_1472 : Cond.methodLink RX11 275 yJ9_max_7cf53 ∈ hv_tbl := hv_inT (i := 1472) (by decide +kernel) rfl
theorem tw_1473 : Cond.methodLink RL 88 yX11_parts ∈ hv_tbl := hv_inT (i := 1473) (by decide +kernel) rfl
theorem tw_1474 : Cond.instanceMethod yX11_parts ∈ hv_tbl := hv_inT (i := 1474) (by decide +kernel) rfl
theorem tw_1475 : Cond.selects RX11 yX11_parts yX11_parts ∈ hv_tbl := hv_inT (i := 1475) (by decide +kernel) rfl
theorem tw_1476 : Cond.code yX11_parts cX11_parts 2 (some FieldType.int) ∈ hv_tbl := hv_inT (i := 1476) (by decide +kernel) rfl
theorem tw_1477 : Cond.methodLink RX11 287 yX11_clears ∈ hv_tbl := hv_inT (i := 1477) (by decide +kernel) rfl
theorem tw_1479 : Cond.instanceMethod yX11_clears ∈ hv_tbl := hv_inT (i := 1479) (by decide +kernel) rfl
theorem tw_1480 : Cond.code yX11_clears cX11_clears 2 (none : Option FieldType) ∈ hv_tbl := hv_inT (i := 1480) (by decide +kernel) rfl
theorem tw_1481 : Cond.methodLink RX11 284 yX11_marks ∈ hv_tbl := hv_inT (i := 1481) (by decide +kernel) rfl
theorem tw_1483 : Cond.instanceMethod yX11_marks ∈ hv_tbl := hv_inT (i := 1483) (by decide +kernel) rfl
theorem tw_1484 : Cond.code yX11_marks cX11_marks 4 (none : Option FieldType) ∈ hv_tbl := hv_inT (i := 1484) (by decide +kernel) rfl
theorem tw_1485 : Cond.methodLink RX11 281 yX11_marksTree ∈ hv_tbl := hv_inT (i := 1485) (by decide +kernel) rfl
theorem tw_1487 : Cond.instanceMethod yX11_marksTree ∈ hv_tbl := hv_inT (i := 1487) (by decide +kernel) rfl
theorem tw_1488 : Cond.code yX11_marksTree cX11_marksTree 4 (none : Option FieldType) ∈ hv_tbl := hv_inT (i := 1488) (by decide +kernel) rfl
theorem tw_1489 : Cond.methodLink RX11 290 yX11_marked ∈ hv_tbl := hv_inT (i := 1489) (by decide +kernel) rfl
theorem tw_1491 : Cond.instanceMethod yX11_marked ∈ hv_tbl := hv_inT (i := 1491) (by decide +kernel) rfl
theorem tw_1492 : Cond.code yX11_marked cX11_marked 4 (some FieldType.int) ∈ hv_tbl := hv_inT (i := 1492) (by decide +kernel) rfl
theorem tw_1493 : Cond.methodLink RL 92 yX11_own ∈ hv_tbl := hv_inT (i := 1493) (by decide +kernel) rfl
theorem tw_1494 : Cond.instanceMethod yX11_own ∈ hv_tbl := hv_inT (i := 1494) (by decide +kernel) rfl
theorem tw_1495 : Cond.selects RX11 yX11_own yX11_own ∈ hv_tbl := hv_inT (i := 1495) (by decide +kernel) rfl
theorem tw_1496 : Cond.code yX11_own cX11_own 2 (some FieldType.int) ∈ hv_tbl := hv_inT (i := 1496) (by decide +kernel) rfl
theorem tw_1497 : Cond.methodLink RL 96 yX11_shared ∈ hv_tbl := hv_inT (i := 1497) (by decide +kernel) rfl
theorem tw_1498 : Cond.instanceMethod yX11_shared ∈ hv_tbl := hv_inT (i := 1498) (by decide +kernel) rfl
theorem tw_1499 : Cond.selects RX11 yX11_shared yX11_shared ∈ hv_tbl := hv_inT (i := 1499) (by decide +kernel) rfl
theorem tw_1500 : Cond.code yX11_shared cX11_shared 3 (some FieldType.int) ∈ hv_tbl := hv_inT (i := 1500) (by decide +kernel) rfl
theorem tw_1501 : Cond.methodLink RL 100 yX11_links ∈ hv_tbl := hv_inT (i := 1501) (by decide +kernel) rfl
theorem tw_1502 : Cond.instanceMethod yX11_links ∈ hv_tbl := hv_inT (i := 1502) (by decide +kernel) rfl
theorem tw_1503 : Cond.selects RX11 yX11_links yX11_links ∈ hv_tbl := hv_inT (i := 1503) (by decide +kernel) rfl
theorem tw_1504 : Cond.code yX11_links cX11_links 2 (some FieldType.int) ∈ hv_tbl := hv_inT (i := 1504) (by decide +kernel) rfl
theorem tw_1505 : Cond.methodLink RX11 293 yX11_by ∈ hv_tbl := hv_inT (i := 1505) (by decide +kernel) rfl
theorem tw_1506 : Cond.instanceMethod yX11_by ∈ hv_tbl := hv_inT (i := 1506) (by decide +kernel) rfl
theorem tw_1507 : Cond.selects RX11 yX11_by yX11_by ∈ hv_tbl := hv_inT (i := 1507) (by decide +kernel) rfl
theorem tw_1508 : Cond.code yX11_by cX11_by 3 (some FieldType.int) ∈ hv_tbl := hv_inT (i := 1508) (by decide +kernel) rfl
theorem tw_1509 : Cond.methodLink RL 104 yX11_all ∈ hv_tbl := hv_inT (i := 1509) (by decide +kernel) rfl
theorem tw_1510 : Cond.instanceMethod yX11_all ∈ hv_tbl := hv_inT (i := 1510) (by decide +kernel) rfl
theorem tw_1511 : Cond.selects RX11 yX11_all yX11_all ∈ hv_tbl := hv_inT (i := 1511) (by decide +kernel) rfl
theorem tw_1512 : Cond.code yX11_all cX11_all 1 (some FieldType.int) ∈ hv_tbl := hv_inT (i := 1512) (by decide +kernel) rfl
theorem tw_1513 : Cond.methodLink RX11 296 yX11_allBy ∈ hv_tbl := hv_inT (i := 1513) (by decide +kernel) rfl
theorem tw_1515 : Cond.instanceMethod yX11_allBy ∈ hv_tbl := hv_inT (i := 1515) (by decide +kernel) rfl
theorem tw_1516 : Cond.code yX11_allBy cX11_allBy 4 (some FieldType.int) ∈ hv_tbl := hv_inT (i := 1516) (by decide +kernel) rfl
theorem tw_1517 : Cond.methodLink RL 108 yX11_by ∈ hv_tbl := hv_inT (i := 1517) (by decide +kernel) rfl
theorem tw_1518 : Cond.methodLink RL 112 yX11_lean ∈ hv_tbl := hv_inT (i := 1518) (by decide +kernel) rfl
theorem tw_1519 : Cond.instanceMethod yX11_lean ∈ hv_tbl := hv_inT (i := 1519) (by decide +kernel) rfl
theorem tw_1520 : Cond.selects RX11 yX11_lean yX11_lean ∈ hv_tbl := hv_inT (i := 1520) (by decide +kernel) rfl
theorem tw_1521 : Cond.code yX11_lean cX11_lean 1 (some FieldType.int) ∈ hv_tbl := hv_inT (i := 1521) (by decide +kernel) rfl
theorem tw_1522 : Cond.methodLink RL 116 yX11_drain ∈ hv_tbl := hv_inT (i := 1522) (by decide +kernel) rfl
theorem tw_1523 : Cond.instanceMethod yX11_drain ∈ hv_tbl := hv_inT (i := 1523) (by decide +kernel) rfl
theorem tw_1524 : Cond.selects RX11 yX11_drain yX11_drain ∈ hv_tbl := hv_inT (i := 1524) (by decide +kernel) rfl
theorem tw_1525 : Cond.code yX11_drain cX11_drain 2 (some FieldType.int) ∈ hv_tbl := hv_inT (i := 1525) (by decide +kernel) rfl
theorem tw_1526 : Cond.methodLink RX11 299 yX11_drained ∈ hv_tbl := hv_inT (i := 1526) (by decide +kernel) rfl
theorem tw_1528 : Cond.instanceMethod yX11_drained ∈ hv_tbl := hv_inT (i := 1528) (by decide +kernel) rfl
theorem tw_1529 : Cond.code yX11_drained cX11_drained 6 (some FieldType.int) ∈ hv_tbl := hv_inT (i := 1529) (by decide +kernel) rfl
theorem tw_1530 : Cond.methodLink RL 120 yX11_dearest ∈ hv_tbl := hv_inT (i := 1530) (by decide +kernel) rfl
theorem tw_1531 : Cond.instanceMethod yX11_dearest ∈ hv_tbl := hv_inT (i := 1531) (by decide +kernel) rfl
theorem tw_1532 : Cond.selects RX11 yX11_dearest yX11_dearest ∈ hv_tbl := hv_inT (i := 1532) (by decide +kernel) rfl
theorem tw_1533 : Cond.code yX11_dearest cX11_dearest 2 (some FieldType.int) ∈ hv_tbl := hv_inT (i := 1533) (by decide +kernel) rfl
theorem tw_1534 : Cond.methodLink RL 124 yX11_same ∈ hv_tbl := hv_inT (i := 1534) (by decide +kernel) rfl
theorem tw_1535 : Cond.instanceMethod yX11_same ∈ hv_tbl := hv_inT (i := 1535) (by decide +kernel) rfl
theorem tw_1536 : Cond.selects RX11 yX11_same yX11_same ∈ hv_tbl := hv_inT (i := 1536) (by decide +kernel) rfl
theorem tw_1537 : Cond.code yX11_same cX11_same 3 (some FieldType.int) ∈ hv_tbl := hv_inT (i := 1537) (by decide +kernel) rfl
theorem tw_1538 : Cond.methodLink RX11 303 yX11_moreOf ∈ hv_tbl := hv_inT (i := 1538) (by decide +kernel) rfl
theorem tw_1540 : Cond.instanceMethod yX11_moreOf ∈ hv_tbl := hv_inT (i := 1540) (by decide +kernel) rfl
theorem tw_1541 : Cond.code yX11_moreOf cX11_moreOf 7 (some FieldType.int) ∈ hv_tbl := hv_inT (i := 1541) (by decide +kernel) rfl
theorem tw_1542 : Cond.methodLink RL 128 yX11_more ∈ hv_tbl := hv_inT (i := 1542) (by decide +kernel) rfl
theorem tw_1543 : Cond.instanceMethod yX11_more ∈ hv_tbl := hv_inT (i := 1543) (by decide +kernel) rfl
theorem tw_1544 : Cond.selects RX11 yX11_more yX11_more ∈ hv_tbl := hv_inT (i := 1544) (by decide +kernel) rfl
theorem tw_1545 : Cond.code yX11_more cX11_more 3 (some FieldType.int) ∈ hv_tbl := hv_inT (i := 1545) (by decide +kernel) rfl
theorem tw_1546 : Cond.methodLink RL 132 yX11_from ∈ hv_tbl := hv_inT (i := 1546) (by decide +kernel) rfl
theorem tw_1547 : Cond.instanceMethod yX11_from ∈ hv_tbl := hv_inT (i := 1547) (by decide +kernel) rfl
theorem tw_1548 : Cond.selects RX11 yX11_from yX11_from ∈ hv_tbl := hv_inT (i := 1548) (by decide +kernel) rfl
theorem tw_1549 : Cond.code yX11_from cX11_from 3 (some FieldType.int) ∈ hv_tbl := hv_inT (i := 1549) (by decide +kernel) rfl
theorem tw_1550 : Cond.methodLink RX11 309 yX11_isFrom ∈ hv_tbl := hv_inT (i := 1550) (by decide +kernel) rfl
theorem tw_1552 : Cond.instanceMethod yX11_isFrom ∈ hv_tbl := hv_inT (i := 1552) (by decide +kernel) rfl
theorem tw_1553 : Cond.code yX11_isFrom cX11_isFrom 3 (some FieldType.boolean) ∈ hv_tbl := hv_inT (i := 1553) (by decide +kernel) rfl
theorem tw_1554 : Cond.methodLink RX11 306 yX11_madeOf ∈ hv_tbl := hv_inT (i := 1554) (by decide +kernel) rfl
theorem tw_1556 : Cond.instanceMethod yX11_madeOf ∈ hv_tbl := hv_inT (i := 1556) (by decide +kernel) rfl
theorem tw_1557 : Cond.code yX11_madeOf cX11_madeOf 4 (some FieldType.int) ∈ hv_tbl := hv_inT (i := 1557) (by decide +kernel) rfl
theorem tw_1558 : Cond.methodLink RL 136 yX11_roots ∈ hv_tbl := hv_inT (i := 1558) (by decide +kernel) rfl
theorem tw_1559 : Cond.instanceMethod yX11_roots ∈ hv_tbl := hv_inT (i := 1559) (by decide +kernel) rfl
theorem tw_1560 : Cond.selects RX11 yX11_roots yX11_roots ∈ hv_tbl := hv_inT (i := 1560) (by decide +kernel) rfl
theorem tw_1561 : Cond.code yX11_roots cX11_roots 4 (some FieldType.int) ∈ hv_tbl := hv_inT (i := 1561) (by decide +kernel) rfl
theorem tw_1562 : Cond.methodLink RL 140 yX11_without ∈ hv_tbl := hv_inT (i := 1562) (by decide +kernel) rfl
theorem tw_1563 : Cond.instanceMethod yX11_without ∈ hv_tbl := hv_inT (i := 1563) (by decide +kernel) rfl
theorem tw_1564 : Cond.selects RX11 yX11_without yX11_without ∈ hv_tbl := hv_inT (i := 1564) (by decide +kernel) rfl
theorem tw_1565 : Cond.code yX11_without cX11_without 3 (some FieldType.int) ∈ hv_tbl := hv_inT (i := 1565) (by decide +kernel) rfl
theorem tw_1566 : Cond.methodLink RX11 312 yX11_isPut ∈ hv_tbl := hv_inT (i := 1566) (by decide +kernel) rfl
theorem tw_1568 : Cond.instanceMethod yX11_isPut ∈ hv_tbl := hv_inT (i := 1568) (by decide +kernel) rfl
theorem tw_1569 : Cond.code yX11_isPut cX11_isPut 3 (some FieldType.boolean) ∈ hv_tbl := hv_inT (i := 1569) (by decide +kernel) rfl
theorem tw_1570 : Cond.methodLink RL 144 yX11_left ∈ hv_tbl := hv_inT (i := 1570) (by decide +kernel) rfl
theorem tw_1571 : Cond.instanceMethod yX11_left ∈ hv_tbl := hv_inT (i := 1571) (by decide +kernel) rfl
theorem tw_1572 : Cond.selects RX11 yX11_left yX11_left ∈ hv_tbl := hv_inT (i := 1572) (by decide +kernel) rfl
theorem tw_1573 : Cond.code yX11_left cX11_left 3 (some FieldType.int) ∈ hv_tbl := hv_inT (i := 1573) (by decide +kernel) rfl
theorem tw_1574 : Cond.methodLink RL 148 yX11_done ∈ hv_tbl := hv_inT (i := 1574) (by decide +kernel) rfl
theorem tw_1575 : Cond.instanceMethod yX11_done ∈ hv_tbl := hv_inT (i := 1575) (by decide +kernel) rfl
theorem tw_1576 : Cond.selects RX11 yX11_done yX11_done ∈ hv_tbl := hv_inT (i := 1576) (by decide +kernel) rfl
theorem tw_1577 : Cond.code yX11_done cX11_done 10 (some FieldType.int) ∈ hv_tbl := hv_inT (i := 1577) (by decide +kernel) rfl
theorem tw_1578 : Cond.constantLong RX11 315 (3 : Int64) ∈ hv_tbl := hv_inT (i := 1578) (by decide +kernel) rfl
theorem tw_1579 : Cond.methodLink RX11 317 yX11_does ∈ hv_tbl := hv_inT (i := 1579) (by decide +kernel) rfl
theorem tw_1581 : Cond.instanceMethod yX11_does ∈ hv_tbl := hv_inT (i := 1581) (by decide +kernel) rfl
theorem tw_1582 : Cond.code yX11_does cX11_does 7 (some FieldType.int) ∈ hv_tbl := hv_inT (i := 1582) (by decide +kernel) rfl
theorem tw_1583 : Cond.methodLink RL 152 yX11_hand ∈ hv_tbl := hv_inT (i := 1583) (by decide +kernel) rfl
theorem tw_1584 : Cond.instanceMethod yX11_hand ∈ hv_tbl := hv_inT (i := 1584) (by decide +kernel) rfl
theorem tw_1585 : Cond.selects RX11 yX11_hand yX11_hand ∈ hv_tbl := hv_inT (i := 1585) (by decide +kernel) rfl
theorem tw_1586 : Cond.code yX11_hand cX11_hand 3 (some FieldType.int) ∈ hv_tbl := hv_inT (i := 1586) (by decide +kernel) rfl
theorem tw_1587 : Cond.methodLink RL 156 yX11_ends ∈ hv_tbl := hv_inT (i := 1587) (by decide +kernel) rfl
theorem tw_1588 : Cond.instanceMethod yX11_ends ∈ hv_tbl := hv_inT (i := 1588) (by decide +kernel) rfl
theorem tw_1589 : Cond.selects RX11 yX11_ends yX11_ends ∈ hv_tbl := hv_inT (i := 1589) (by decide +kernel) rfl
theorem tw_1590 : Cond.code yX11_ends cX11_ends 3 (some FieldType.int) ∈ hv_tbl := hv_inT (i := 1590) (by decide +kernel) rfl
theorem tw_1591 : Cond.methodLink RL 160 yX11_hands ∈ hv_tbl := hv_inT (i := 1591) (by decide +kernel) rfl
theorem tw_1592 : Cond.instanceMethod yX11_hands ∈ hv_tbl := hv_inT (i := 1592) (by decide +kernel) rfl
theorem tw_1593 : Cond.selects RX11 yX11_hands yX11_hands ∈ hv_tbl := hv_inT (i := 1593) (by decide +kernel) rfl
theorem tw_1594 : Cond.code yX11_hands cX11_hands 6 (some FieldType.int) ∈ hv_tbl := hv_inT (i := 1594) (by decide +kernel) rfl
theorem tw_1595 : Cond.methodLink RL 165 yX11_puts ∈ hv_tbl := hv_inT (i := 1595) (by decide +kernel) rfl
theorem tw_1596 : Cond.instanceMethod yX11_puts ∈ hv_tbl := hv_inT (i := 1596) (by decide +kernel) rfl
theorem tw_1597 : Cond.selects RX11 yX11_puts yX11_puts ∈ hv_tbl := hv_inT (i := 1597) (by decide +kernel) rfl
theorem tw_1598 : Cond.code yX11_puts cX11_puts 4 (some FieldType.int) ∈ hv_tbl := hv_inT (i := 1598) (by decide +kernel) rfl
theorem tw_1599 : Cond.constantLong RX11 320 (999 : Int64) ∈ hv_tbl := hv_inT (i := 1599) (by decide +kernel) rfl
theorem tw_1600 : Cond.constantLong RX11 322 (99 : Int64) ∈ hv_tbl := hv_inT (i := 1600) (by decide +kernel) rfl
theorem tw_1601 : Cond.methodLink RX11 324 yX11_acts ∈ hv_tbl := hv_inT (i := 1601) (by decide +kernel) rfl
theorem tw_1603 : Cond.instanceMethod yX11_acts ∈ hv_tbl := hv_inT (i := 1603) (by decide +kernel) rfl
theorem tw_1604 : Cond.code yX11_acts cX11_acts 7 (some FieldType.int) ∈ hv_tbl := hv_inT (i := 1604) (by decide +kernel) rfl
theorem tw_1605 : Cond.methodLink RL 169 yX11_joins_ ∈ hv_tbl := hv_inT (i := 1605) (by decide +kernel) rfl
theorem tw_1606 : Cond.instanceMethod yX11_joins_ ∈ hv_tbl := hv_inT (i := 1606) (by decide +kernel) rfl
theorem tw_1607 : Cond.selects RX11 yX11_joins_ yX11_joins_ ∈ hv_tbl := hv_inT (i := 1607) (by decide +kernel) rfl
theorem tw_1608 : Cond.code yX11_joins_ cX11_joins_ 3 (some FieldType.int) ∈ hv_tbl := hv_inT (i := 1608) (by decide +kernel) rfl
theorem tw_1609 : Cond.methodLink RL 173 yX11_takes_ ∈ hv_tbl := hv_inT (i := 1609) (by decide +kernel) rfl
theorem tw_1610 : Cond.instanceMethod yX11_takes_ ∈ hv_tbl := hv_inT (i := 1610) (by decide +kernel) rfl
theorem tw_1611 : Cond.selects RX11 yX11_takes_ yX11_takes_ ∈ hv_tbl := hv_inT (i := 1611) (by decide +kernel) rfl
theorem tw_1612 : Cond.code yX11_takes_ cX11_takes_ 2 (some FieldType.int) ∈ hv_tbl := hv_inT (i := 1612) (by decide +kernel) rfl
theorem tw_1613 : Cond.methodLink RL 177 yX11_undo ∈ hv_tbl := hv_inT (i := 1613) (by decide +kernel) rfl
theorem tw_1614 : Cond.instanceMethod yX11_undo ∈ hv_tbl := hv_inT (i := 1614) (by decide +kernel) rfl
theorem tw_1615 : Cond.selects RX11 yX11_undo yX11_undo ∈ hv_tbl := hv_inT (i := 1615) (by decide +kernel) rfl
theorem tw_1616 : Cond.code yX11_undo cX11_undo 1 (some FieldType.int) ∈ hv_tbl := hv_inT (i := 1616) (by decide +kernel) rfl
theorem tw_1617 : Cond.methodLink RX11 328 yX11_takesBack ∈ hv_tbl := hv_inT (i := 1617) (by decide +kernel) rfl
theorem tw_1619 : Cond.instanceMethod yX11_takesBack ∈ hv_tbl := hv_inT (i := 1619) (by decide +kernel) rfl
theorem tw_1620 : Cond.code yX11_takesBack cX11_takesBack 1 (none : Option FieldType) ∈ hv_tbl := hv_inT (i := 1620) (by decide +kernel) rfl
theorem tw_1621 : Cond.methodLink RL 181 yX11_anew ∈ hv_tbl := hv_inT (i := 1621) (by decide +kernel) rfl
theorem tw_1622 : Cond.instanceMethod yX11_anew ∈ hv_tbl := hv_inT (i := 1622) (by decide +kernel) rfl
theorem tw_1623 : Cond.selects RX11 yX11_anew yX11_anew ∈ hv_tbl := hv_inT (i := 1623) (by decide +kernel) rfl
theorem tw_1624 : Cond.code yX11_anew cX11_anew 2 (some FieldType.int) ∈ hv_tbl := hv_inT (i := 1624) (by decide +kernel) rfl
theorem tw_1625 : Cond.fieldLink RJ0 9 "java/lang/String" "value" "[B" ∈ hv_tbl := hv_inT (i := 1625) (by decide +kernel) rfl
theorem tw_1626 : Cond.fieldLink RJ0 15 "java/lang/String" "coder" "B" ∈ hv_tbl := hv_inT (i := 1626) (by decide +kernel) rfl
theorem pw_0 : Cond.selects RX8 yX8_passLetters yX8_passLetters ∈ hv_tbl := hv_inP (i := 0) (by decide +kernel) rfl
theorem pw_1 : Cond.selects RX8 yX8_passDigits yX8_passDigits ∈ hv_tbl := hv_inP (i := 1) (by decide +kernel) rfl
theorem pw_2 : Cond.selects RX4 yX4_readPlan yX4_readPlan ∈ hv_tbl := hv_inP (i := 2) (by decide +kernel) rfl
theorem pw_3 : Cond.selects RX4 yX4_passWord yX4_passWord ∈ hv_tbl := hv_inP (i := 3) (by decide +kernel) rfl
theorem pw_4 : Cond.selects RX4 yX4_blame yX4_blame ∈ hv_tbl := hv_inP (i := 4) (by decide +kernel) rfl
theorem pw_5 : Cond.selects RX4 yX4_passNumber yX4_passNumber ∈ hv_tbl := hv_inP (i := 5) (by decide +kernel) rfl
theorem pw_6 : Cond.selects RX4 yX4_passSign yX4_passSign ∈ hv_tbl := hv_inP (i := 6) (by decide +kernel) rfl
theorem pw_7 : Cond.selects RX4 yX4_readOther yX4_readOther ∈ hv_tbl := hv_inP (i := 7) (by decide +kernel) rfl
theorem pw_8 : Cond.selects RX4 yX4_howOfWord yX4_howOfWord ∈ hv_tbl := hv_inP (i := 8) (by decide +kernel) rfl
theorem pw_9 : Cond.selects RX4 yX4_readPut yX4_readPut ∈ hv_tbl := hv_inP (i := 9) (by decide +kernel) rfl
theorem pw_10 : Cond.selects RX4 yX4_keep yX4_keep ∈ hv_tbl := hv_inP (i := 10) (by decide +kernel) rfl
theorem pw_11 : Cond.selects RX4 yX4_readJoin yX4_readJoin ∈ hv_tbl := hv_inP (i := 11) (by decide +kernel) rfl
theorem pw_12 : Cond.selects RX4 yX4_readTake yX4_readTake ∈ hv_tbl := hv_inP (i := 12) (by decide +kernel) rfl
theorem pw_13 : Cond.selects RX4 yX4_readNew yX4_readNew ∈ hv_tbl := hv_inP (i := 13) (by decide +kernel) rfl
theorem pw_14 : Cond.selects RX10 yX10_cutTo yX10_cutTo ∈ hv_tbl := hv_inP (i := 14) (by decide +kernel) rfl
theorem pw_15 : Cond.selects RX10 yX10_grow yX10_grow ∈ hv_tbl := hv_inP (i := 15) (by decide +kernel) rfl
theorem pw_16 : Cond.selects RX0 yX0_turnAt yX0_turnAt ∈ hv_tbl := hv_inP (i := 16) (by decide +kernel) rfl
theorem pw_17 : Cond.selects RX0 yX0_copyWith yX0_copyWith ∈ hv_tbl := hv_inP (i := 17) (by decide +kernel) rfl
theorem pw_18 : Cond.selects RX0 yX0_append yX0_append ∈ hv_tbl := hv_inP (i := 18) (by decide +kernel) rfl
theorem pw_19 : Cond.selects RX0 yX0_mix yX0_mix ∈ hv_tbl := hv_inP (i := 19) (by decide +kernel) rfl
theorem pw_20 : Cond.selects RX2 yX2_join yX2_join ∈ hv_tbl := hv_inP (i := 20) (by decide +kernel) rfl
theorem pw_21 : Cond.selects RX2 yX2_putInto yX2_putInto ∈ hv_tbl := hv_inP (i := 21) (by decide +kernel) rfl
theorem pw_22 : Cond.selects RX2 yX2_link yX2_link ∈ hv_tbl := hv_inP (i := 22) (by decide +kernel) rfl
theorem pw_23 : Cond.selects RX2 yX2_linkBeside yX2_linkBeside ∈ hv_tbl := hv_inP (i := 23) (by decide +kernel) rfl
theorem pw_24 : Cond.selects RX2 yX2_carry yX2_carry ∈ hv_tbl := hv_inP (i := 24) (by decide +kernel) rfl
theorem pw_25 : Cond.selects RX2 yX2_take yX2_take ∈ hv_tbl := hv_inP (i := 25) (by decide +kernel) rfl
theorem pw_26 : Cond.selects RX2 yX2_leastOf yX2_leastOf ∈ hv_tbl := hv_inP (i := 26) (by decide +kernel) rfl
theorem pw_27 : Cond.selects RX2 yX2_turned yX2_turned ∈ hv_tbl := hv_inP (i := 27) (by decide +kernel) rfl
theorem pw_28 : Cond.selects RX2 yX2_allBut yX2_allBut ∈ hv_tbl := hv_inP (i := 28) (by decide +kernel) rfl
theorem pw_29 : Cond.selects RX2 yX2_merge yX2_merge ∈ hv_tbl := hv_inP (i := 29) (by decide +kernel) rfl
theorem pw_30 : Cond.selects RX6 yX6_withRoots yX6_withRoots ∈ hv_tbl := hv_inP (i := 30) (by decide +kernel) rfl
theorem pw_31 : Cond.selects RX10 yX10_has yX10_has ∈ hv_tbl := hv_inP (i := 31) (by decide +kernel) rfl
theorem pw_32 : Cond.selects RX10 yX10_heaps yX10_heaps ∈ hv_tbl := hv_inP (i := 32) (by decide +kernel) rfl
theorem pw_33 : Cond.selects RX10 yX10_treeAt yX10_treeAt ∈ hv_tbl := hv_inP (i := 33) (by decide +kernel) rfl
theorem pw_34 : Cond.selects RX10 yX10_walkOver yX10_walkOver ∈ hv_tbl := hv_inP (i := 34) (by decide +kernel) rfl
theorem pw_35 : Cond.selects RX9 yX9_meet yX9_meet ∈ hv_tbl := hv_inP (i := 35) (by decide +kernel) rfl
theorem pw_36 : Cond.selects RX9 yX9_meetAll yX9_meetAll ∈ hv_tbl := hv_inP (i := 36) (by decide +kernel) rfl
theorem pw_37 : Cond.selects RX10 yX10_suppose yX10_suppose ∈ hv_tbl := hv_inP (i := 37) (by decide +kernel) rfl
theorem pw_38 : Cond.selects RX5 yX5_workOn yX5_workOn ∈ hv_tbl := hv_inP (i := 38) (by decide +kernel) rfl
theorem pw_39 : Cond.selects RX5 yX5_freeFirst yX5_freeFirst ∈ hv_tbl := hv_inP (i := 39) (by decide +kernel) rfl
theorem pw_40 : Cond.selects RX11 yX11_next yX11_next ∈ hv_tbl := hv_inP (i := 40) (by decide +kernel) rfl
theorem pw_41 : Cond.selects RX11 yX11_isAt yX11_isAt ∈ hv_tbl := hv_inP (i := 41) (by decide +kernel) rfl
theorem pw_42 : Cond.selects RX11 yX11_readsPlan yX11_readsPlan ∈ hv_tbl := hv_inP (i := 42) (by decide +kernel) rfl
theorem pw_43 : Cond.selects RX11 yX11_isWord yX11_isWord ∈ hv_tbl := hv_inP (i := 43) (by decide +kernel) rfl
theorem pw_44 : Cond.selects RX11 yX11_passes yX11_passes ∈ hv_tbl := hv_inP (i := 44) (by decide +kernel) rfl
theorem pw_45 : Cond.selects RX11 yX11_faults yX11_faults ∈ hv_tbl := hv_inP (i := 45) (by decide +kernel) rfl
theorem pw_46 : Cond.selects RX11 yX11_reads yX11_reads ∈ hv_tbl := hv_inP (i := 46) (by decide +kernel) rfl
theorem pw_47 : Cond.selects RX11 yX11_readsVersion_ yX11_readsVersion_ ∈ hv_tbl := hv_inP (i := 47) (by decide +kernel) rfl
theorem pw_48 : Cond.selects RX11 yX11_how yX11_how ∈ hv_tbl := hv_inP (i := 48) (by decide +kernel) rfl
theorem pw_49 : Cond.selects RX11 yX11_readsVersion yX11_readsVersion ∈ hv_tbl := hv_inP (i := 49) (by decide +kernel) rfl
theorem pw_50 : Cond.selects RX11 yX11_makes yX11_makes ∈ hv_tbl := hv_inP (i := 50) (by decide +kernel) rfl
theorem pw_51 : Cond.selects RX11 yX11_isVersion yX11_isVersion ∈ hv_tbl := hv_inP (i := 51) (by decide +kernel) rfl
theorem pw_52 : Cond.selects RX11 yX11_jobOf yX11_jobOf ∈ hv_tbl := hv_inP (i := 52) (by decide +kernel) rfl
theorem pw_53 : Cond.selects RX11 yX11_makesAll yX11_makesAll ∈ hv_tbl := hv_inP (i := 53) (by decide +kernel) rfl
theorem pw_54 : Cond.selects RX11 yX11_heap yX11_heap ∈ hv_tbl := hv_inP (i := 54) (by decide +kernel) rfl
theorem pw_55 : Cond.selects RX11 yX11_joins yX11_joins ∈ hv_tbl := hv_inP (i := 55) (by decide +kernel) rfl
theorem pw_56 : Cond.selects RX11 yX11_isLess yX11_isLess ∈ hv_tbl := hv_inP (i := 56) (by decide +kernel) rfl
theorem pw_57 : Cond.selects RX11 yX11_isJobLess yX11_isJobLess ∈ hv_tbl := hv_inP (i := 57) (by decide +kernel) rfl
theorem pw_58 : Cond.selects RX11 yX11_sets yX11_sets ∈ hv_tbl := hv_inP (i := 58) (by decide +kernel) rfl
theorem pw_59 : Cond.selects RX11 yX11_link yX11_link ∈ hv_tbl := hv_inP (i := 59) (by decide +kernel) rfl
theorem pw_60 : Cond.selects RX11 yX11_ahead yX11_ahead ∈ hv_tbl := hv_inP (i := 60) (by decide +kernel) rfl
theorem pw_61 : Cond.selects RX11 yX11_tree yX11_tree ∈ hv_tbl := hv_inP (i := 61) (by decide +kernel) rfl
theorem pw_62 : Cond.selects RX11 yX11_carries yX11_carries ∈ hv_tbl := hv_inP (i := 62) (by decide +kernel) rfl
theorem pw_63 : Cond.selects RX11 yX11_takes yX11_takes ∈ hv_tbl := hv_inP (i := 63) (by decide +kernel) rfl
theorem pw_64 : Cond.selects RX11 yX11_withoutFirst yX11_withoutFirst ∈ hv_tbl := hv_inP (i := 64) (by decide +kernel) rfl
theorem pw_65 : Cond.selects RX11 yX11_merges yX11_merges ∈ hv_tbl := hv_inP (i := 65) (by decide +kernel) rfl
theorem pw_66 : Cond.selects RX11 yX11_settled yX11_settled ∈ hv_tbl := hv_inP (i := 66) (by decide +kernel) rfl
theorem pw_67 : Cond.selects RX11 yX11_goesTogether yX11_goesTogether ∈ hv_tbl := hv_inP (i := 67) (by decide +kernel) rfl
theorem pw_68 : Cond.selects RX11 yX11_isJob yX11_isJob ∈ hv_tbl := hv_inP (i := 68) (by decide +kernel) rfl
theorem pw_69 : Cond.selects RX11 yX11_heapOf yX11_heapOf ∈ hv_tbl := hv_inP (i := 69) (by decide +kernel) rfl
theorem pw_70 : Cond.selects RX11 yX11_counts yX11_counts ∈ hv_tbl := hv_inP (i := 70) (by decide +kernel) rfl
theorem pw_71 : Cond.selects RX11 yX11_countsHeap yX11_countsHeap ∈ hv_tbl := hv_inP (i := 71) (by decide +kernel) rfl
theorem pw_72 : Cond.selects RX11 yX11_countsTree yX11_countsTree ∈ hv_tbl := hv_inP (i := 72) (by decide +kernel) rfl
theorem pw_73 : Cond.selects RX11 yX11_leastOf yX11_leastOf ∈ hv_tbl := hv_inP (i := 73) (by decide +kernel) rfl
theorem pw_74 : Cond.selects RX11 yX11_ordered yX11_ordered ∈ hv_tbl := hv_inP (i := 74) (by decide +kernel) rfl
theorem pw_75 : Cond.selects RX11 yX11_queueOf yX11_queueOf ∈ hv_tbl := hv_inP (i := 75) (by decide +kernel) rfl
theorem pw_76 : Cond.selects RX11 yX11_longOf yX11_longOf ∈ hv_tbl := hv_inP (i := 76) (by decide +kernel) rfl
theorem pw_77 : Cond.selects RX11 yX11_treeAt yX11_treeAt ∈ hv_tbl := hv_inP (i := 77) (by decide +kernel) rfl
theorem pw_78 : Cond.selects RX11 yX11_thingOf yX11_thingOf ∈ hv_tbl := hv_inP (i := 78) (by decide +kernel) rfl
theorem pw_79 : Cond.selects RX11 yX11_deepOf yX11_deepOf ∈ hv_tbl := hv_inP (i := 79) (by decide +kernel) rfl
theorem pw_80 : Cond.selects RX11 yX11_deepIn yX11_deepIn ∈ hv_tbl := hv_inP (i := 80) (by decide +kernel) rfl
theorem pw_81 : Cond.selects RX11 yX11_clears yX11_clears ∈ hv_tbl := hv_inP (i := 81) (by decide +kernel) rfl
theorem pw_82 : Cond.selects RX11 yX11_marks yX11_marks ∈ hv_tbl := hv_inP (i := 82) (by decide +kernel) rfl
theorem pw_83 : Cond.selects RX11 yX11_marksTree yX11_marksTree ∈ hv_tbl := hv_inP (i := 83) (by decide +kernel) rfl
theorem pw_84 : Cond.selects RX11 yX11_marked yX11_marked ∈ hv_tbl := hv_inP (i := 84) (by decide +kernel) rfl
theorem pw_85 : Cond.selects RX11 yX11_allBy yX11_allBy ∈ hv_tbl := hv_inP (i := 85) (by decide +kernel) rfl
theorem pw_86 : Cond.selects RX11 yX11_drained yX11_drained ∈ hv_tbl := hv_inP (i := 86) (by decide +kernel) rfl
theorem pw_87 : Cond.selects RX11 yX11_moreOf yX11_moreOf ∈ hv_tbl := hv_inP (i := 87) (by decide +kernel) rfl
theorem pw_88 : Cond.selects RX11 yX11_isFrom yX11_isFrom ∈ hv_tbl := hv_inP (i := 88) (by decide +kernel) rfl
theorem pw_89 : Cond.selects RX11 yX11_madeOf yX11_madeOf ∈ hv_tbl := hv_inP (i := 89) (by decide +kernel) rfl
theorem pw_90 : Cond.selects RX11 yX11_isPut yX11_isPut ∈ hv_tbl := hv_inP (i := 90) (by decide +kernel) rfl
theorem pw_91 : Cond.selects RX11 yX11_does yX11_does ∈ hv_tbl := hv_inP (i := 91) (by decide +kernel) rfl
theorem pw_92 : Cond.selects RX11 yX11_acts yX11_acts ∈ hv_tbl := hv_inP (i := 92) (by decide +kernel) rfl
theorem pw_93 : Cond.selects RX11 yX11_takesBack yX11_takesBack ∈ hv_tbl := hv_inP (i := 93) (by decide +kernel) rfl
theorem inX0 : ∀ w ∈ wsX00, w ∈ hv_tbl := by
  have g : (wsX00).all goodWord = true := by decide +kernel
  have h : ∀ w ∈ wsX00, w ∈ tables_1 := by
    have e : wsX00 = [161, 163].filterMap (fun i => tables_1[i]?) := by decide +kernel
    intro w hw
    rw [e] at hw
    obtain ⟨i, -, hi⟩ := List.mem_filterMap.mp hw
    exact List.mem_of_getElem? hi
  exact fun w hw => List.mem_filter.mpr ⟨List.mem_append_right _ (h w hw), List.all_eq_true.mp g w hw⟩
theorem inX1 : ∀ w ∈ wsX10, w ∈ hv_tbl := by
  have g : (wsX10).all goodWord = true := by decide +kernel
  have h : ∀ w ∈ wsX10, w ∈ tables_1 := by
    have e : wsX10 = [189, 191, 193, 195, 197, 199, 201, 203, 205, 207, 209].filterMap (fun i => tables_1[i]?) := by decide +kernel
    intro w hw
    rw [e] at hw
    obtain ⟨i, -, hi⟩ := List.mem_filterMap.mp hw
    exact List.mem_of_getElem? hi
  exact fun w hw => List.mem_filter.mpr ⟨List.mem_append_right _ (h w hw), List.all_eq_true.mp g w hw⟩
theorem inX2 : ∀ w ∈ wsX20, w ∈ hv_tbl := by
  have g : (wsX20).all goodWord = true := by decide +kernel
  have h : ∀ w ∈ wsX20, w ∈ tables_1 := by
    have e : wsX20 = [222, 224, 226, 228, 230, 232, 234, 236, 238, 240].filterMap (fun i => tables_1[i]?) := by decide +kernel
    intro w hw
    rw [e] at hw
    obtain ⟨i, -, hi⟩ := List.mem_filterMap.mp hw
    exact List.mem_of_getElem? hi
  exact fun w hw => List.mem_filter.mpr ⟨List.mem_append_right _ (h w hw), List.all_eq_true.mp g w hw⟩
theorem inX3 : ∀ w ∈ wsX30, w ∈ hv_tbl := by
  have g : (wsX30).all goodWord = true := by decide +kernel
  have h : ∀ w ∈ wsX30, w ∈ tables_1 := by
    have e : wsX30 = [121, 123, 125].filterMap (fun i => tables_1[i]?) := by decide +kernel
    intro w hw
    rw [e] at hw
    obtain ⟨i, -, hi⟩ := List.mem_filterMap.mp hw
    exact List.mem_of_getElem? hi
  exact fun w hw => List.mem_filter.mpr ⟨List.mem_append_right _ (h w hw), List.all_eq_true.mp g w hw⟩
theorem inX4 : ∀ w ∈ wsX40, w ∈ hv_tbl := by
  have g : (wsX40).all goodWord = true := by decide +kernel
  have h : ∀ w ∈ wsX40, w ∈ tables_1 := by
    have e : wsX40 = [83, 85, 87, 89, 91, 93, 95, 97, 99, 101, 103, 105, 107, 109].filterMap (fun i => tables_1[i]?) := by decide +kernel
    intro w hw
    rw [e] at hw
    obtain ⟨i, -, hi⟩ := List.mem_filterMap.mp hw
    exact List.mem_of_getElem? hi
  exact fun w hw => List.mem_filter.mpr ⟨List.mem_append_right _ (h w hw), List.all_eq_true.mp g w hw⟩
theorem inX5 : ∀ w ∈ wsX50, w ∈ hv_tbl := by
  have g : (wsX50).all goodWord = true := by decide +kernel
  have h : ∀ w ∈ wsX50, w ∈ tables_1 := by
    have e : wsX50 = [277, 279, 281, 283, 285, 287, 289, 291, 293].filterMap (fun i => tables_1[i]?) := by decide +kernel
    intro w hw
    rw [e] at hw
    obtain ⟨i, -, hi⟩ := List.mem_filterMap.mp hw
    exact List.mem_of_getElem? hi
  exact fun w hw => List.mem_filter.mpr ⟨List.mem_append_right _ (h w hw), List.all_eq_true.mp g w hw⟩
theorem inX6 : ∀ w ∈ wsX60, w ∈ hv_tbl := by
  have g : (wsX60).all goodWord = true := by decide +kernel
  have h : ∀ w ∈ wsX60, w ∈ tables_1 := by
    have e : wsX60 = [140, 142, 144, 146, 148, 150].filterMap (fun i => tables_1[i]?) := by decide +kernel
    intro w hw
    rw [e] at hw
    obtain ⟨i, -, hi⟩ := List.mem_filterMap.mp hw
    exact List.mem_of_getElem? hi
  exact fun w hw => List.mem_filter.mpr ⟨List.mem_append_right _ (h w hw), List.all_eq_true.mp g w hw⟩
theorem inX7 : ∀ w ∈ wsX70, w ∈ hv_tbl := by
  have g : (wsX70).all goodWord = true := by decide +kernel
  have h : ∀ w ∈ wsX70, w ∈ tables_1 := by
    have e : wsX70 = [35, 37].filterMap (fun i => tables_1[i]?) := by decide +kernel
    intro w hw
    rw [e] at hw
    obtain ⟨i, -, hi⟩ := List.mem_filterMap.mp hw
    exact List.mem_of_getElem? hi
  exact fun w hw => List.mem_filter.mpr ⟨List.mem_append_right _ (h w hw), List.all_eq_true.mp g w hw⟩
theorem inX8 : ∀ w ∈ wsX80, w ∈ hv_tbl := by
  have g : (wsX80).all goodWord = true := by decide +kernel
  have h : ∀ w ∈ wsX80, w ∈ tables_1 := by
    have e : wsX80 = [58, 60, 62, 64, 66].filterMap (fun i => tables_1[i]?) := by decide +kernel
    intro w hw
    rw [e] at hw
    obtain ⟨i, -, hi⟩ := List.mem_filterMap.mp hw
    exact List.mem_of_getElem? hi
  exact fun w hw => List.mem_filter.mpr ⟨List.mem_append_right _ (h w hw), List.all_eq_true.mp g w hw⟩
theorem inX9 : ∀ w ∈ wsX90, w ∈ hv_tbl := by
  have g : (wsX90).all goodWord = true := by decide +kernel
  have h : ∀ w ∈ wsX90, w ∈ tables_1 := by
    have e : wsX90 = [253, 255, 257, 259].filterMap (fun i => tables_1[i]?) := by decide +kernel
    intro w hw
    rw [e] at hw
    obtain ⟨i, -, hi⟩ := List.mem_filterMap.mp hw
    exact List.mem_of_getElem? hi
  exact fun w hw => List.mem_filter.mpr ⟨List.mem_append_right _ (h w hw), List.all_eq_true.mp g w hw⟩
theorem inX10 : ∀ w ∈ wsX100, w ∈ hv_tbl := by
  have g : (wsX100).all goodWord = true := by decide +kernel
  have h : ∀ w ∈ wsX100, w ∈ tables_1 := by
    have e : wsX100 = [310, 312, 314, 316, 318, 320, 322, 324, 326, 328, 330, 332, 334, 336].filterMap (fun i => tables_1[i]?) := by decide +kernel
    intro w hw
    rw [e] at hw
    obtain ⟨i, -, hi⟩ := List.mem_filterMap.mp hw
    exact List.mem_of_getElem? hi
  exact fun w hw => List.mem_filter.mpr ⟨List.mem_append_right _ (h w hw), List.all_eq_true.mp g w hw⟩
theorem inX11 : ∀ w ∈ wsX110, w ∈ hv_tbl := by
  have g : (wsX110).all goodWord = true := by decide +kernel
  have h : ∀ w ∈ wsX110, w ∈ tables_1 := by
    have e : wsX110 = [1160, 1162, 1164, 1166, 1168, 1170, 1172, 1174, 1176, 1178, 1180, 1182, 1184, 1186, 1188, 1190, 1192, 1194, 1196, 1198, 1200, 1202, 1204, 1206, 1208, 1210, 1212, 1214, 1216, 1218, 1220, 1222].filterMap (fun i => tables_1[i]?) := by decide +kernel
    intro w hw
    rw [e] at hw
    obtain ⟨i, -, hi⟩ := List.mem_filterMap.mp hw
    exact List.mem_of_getElem? hi
  exact fun w hw => List.mem_filter.mpr ⟨List.mem_append_right _ (h w hw), List.all_eq_true.mp g w hw⟩
def hv_NL : List (String × Nat × MethodName × String) := [(RX10, 9, yX7_init, RX10), (RX10, 27, yX3_init, RX10), (RX10, 34, yX6_init, RX10), (RX10, 41, yX0_init, RX10), (RX2, 11, yX1_init, RX10), (RX10, 63, yX9_init, RX10), (RX7, 19, yX10_set, RX10), (RX4, 58, yX10_at, RX10), (RX4, 136, yX10_set, RX10), (RX6, 31, yX10_at, RX10), (RX2, 38, yX10_at, RX10), (RX3, 22, yX10_set, RX10), (RX0, 18, yX10_at, RX10), (RX3, 26, yX10_at, RX10), (RX0, 45, yX10_set, RX10), (RX2, 67, yX10_set, RX10), (RX6, 35, yX10_set, RX10), (RX9, 29, yX10_at, RX10), (RX9, 55, yX10_set, RX10), (RX5, 51, yX10_set, RX10), (RX5, 41, yX10_at, RX10)]
theorem nl_0 : ((RX10, 9, yX7_init, RX10) : String × Nat × MethodName × String) ∈ hv_NL := List.mem_of_getElem? (i := 0) rfl
theorem nl_1 : ((RX10, 27, yX3_init, RX10) : String × Nat × MethodName × String) ∈ hv_NL := List.mem_of_getElem? (i := 1) rfl
theorem nl_2 : ((RX10, 34, yX6_init, RX10) : String × Nat × MethodName × String) ∈ hv_NL := List.mem_of_getElem? (i := 2) rfl
theorem nl_3 : ((RX10, 41, yX0_init, RX10) : String × Nat × MethodName × String) ∈ hv_NL := List.mem_of_getElem? (i := 3) rfl
theorem nl_4 : ((RX2, 11, yX1_init, RX10) : String × Nat × MethodName × String) ∈ hv_NL := List.mem_of_getElem? (i := 4) rfl
theorem nl_5 : ((RX10, 63, yX9_init, RX10) : String × Nat × MethodName × String) ∈ hv_NL := List.mem_of_getElem? (i := 5) rfl
theorem nl_6 : ((RX7, 19, yX10_set, RX10) : String × Nat × MethodName × String) ∈ hv_NL := List.mem_of_getElem? (i := 6) rfl
theorem nl_7 : ((RX4, 58, yX10_at, RX10) : String × Nat × MethodName × String) ∈ hv_NL := List.mem_of_getElem? (i := 7) rfl
theorem nl_8 : ((RX4, 136, yX10_set, RX10) : String × Nat × MethodName × String) ∈ hv_NL := List.mem_of_getElem? (i := 8) rfl
theorem nl_9 : ((RX6, 31, yX10_at, RX10) : String × Nat × MethodName × String) ∈ hv_NL := List.mem_of_getElem? (i := 9) rfl
theorem nl_10 : ((RX2, 38, yX10_at, RX10) : String × Nat × MethodName × String) ∈ hv_NL := List.mem_of_getElem? (i := 10) rfl
theorem nl_11 : ((RX3, 22, yX10_set, RX10) : String × Nat × MethodName × String) ∈ hv_NL := List.mem_of_getElem? (i := 11) rfl
theorem nl_12 : ((RX0, 18, yX10_at, RX10) : String × Nat × MethodName × String) ∈ hv_NL := List.mem_of_getElem? (i := 12) rfl
theorem nl_13 : ((RX3, 26, yX10_at, RX10) : String × Nat × MethodName × String) ∈ hv_NL := List.mem_of_getElem? (i := 13) rfl
theorem nl_14 : ((RX0, 45, yX10_set, RX10) : String × Nat × MethodName × String) ∈ hv_NL := List.mem_of_getElem? (i := 14) rfl
theorem nl_15 : ((RX2, 67, yX10_set, RX10) : String × Nat × MethodName × String) ∈ hv_NL := List.mem_of_getElem? (i := 15) rfl
theorem nl_16 : ((RX6, 35, yX10_set, RX10) : String × Nat × MethodName × String) ∈ hv_NL := List.mem_of_getElem? (i := 16) rfl
theorem nl_17 : ((RX9, 29, yX10_at, RX10) : String × Nat × MethodName × String) ∈ hv_NL := List.mem_of_getElem? (i := 17) rfl
theorem nl_18 : ((RX9, 55, yX10_set, RX10) : String × Nat × MethodName × String) ∈ hv_NL := List.mem_of_getElem? (i := 18) rfl
theorem nl_19 : ((RX5, 51, yX10_set, RX10) : String × Nat × MethodName × String) ∈ hv_NL := List.mem_of_getElem? (i := 19) rfl
theorem nl_20 : ((RX5, 41, yX10_at, RX10) : String × Nat × MethodName × String) ∈ hv_NL := List.mem_of_getElem? (i := 20) rfl
