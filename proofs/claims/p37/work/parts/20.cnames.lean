section
-- the class's names, words, fields, layout (written by wip/whole/cls_env.py)
def RX0 : String := "OldBronze$Bronze"
def TX0 : u_T := fun k => match k with
  | 0 => ("OldBronze$Bronze", "cells", "[I", true)
  | 1 => ("OldBronze$Bronze", "size", "I", false)
  | 2 => ("OldBronze$Bronze", "firsts", "I", false)
  | 3 => ("OldBronze$Bronze", "years", "I", false)
  | _ => ("OldBronze$Bronze", "z", "I", false)
def tyX0 : Nat → FieldType := fun k => match k with
  | 0 => .array .int
  | 1 => .int
  | 2 => .int
  | 3 => .int
  | _ => .int
abbrev wsX00 : List Cond := u_ws RX0 TX0 5
theorem nmX0 : ∀ a, a < 5 → ∀ b, b < 5 → a ≠ b → (TX0 a).2.1 ≠ (TX0 b).2.1 := by decide +kernel
theorem tyX0_ok : ∀ k, k < 5 → parseFieldDescriptor (TX0 k).2.2.1 = some (tyX0 k) := by decide +kernel
abbrev cX0_init : ByteArray := prog_2_method_1_code
def yX0_init : MethodName := ⟨RX0, "<init>", "()V"⟩
abbrev cX0_size : ByteArray := prog_2_method_2_code
def yX0_size : MethodName := ⟨RX0, "size", "()I"⟩
abbrev cX0_room : ByteArray := prog_2_method_3_code
def yX0_room : MethodName := ⟨RX0, "room", "()I"⟩
abbrev cX0_has : ByteArray := prog_2_method_4_code
def yX0_has : MethodName := ⟨RX0, "has", "(I)Z"⟩
abbrev cX0_firstsThatCount : ByteArray := prog_2_method_5_code
def yX0_firstsThatCount : MethodName := ⟨RX0, "firstsThatCount", "()I"⟩
abbrev cX0_yearsSoFar : ByteArray := prog_2_method_6_code
def yX0_yearsSoFar : MethodName := ⟨RX0, "yearsSoFar", "()I"⟩
abbrev cX0_lastDraw : ByteArray := prog_2_method_7_code
def yX0_lastDraw : MethodName := ⟨RX0, "lastDraw", "()I"⟩
abbrev cX0_reseed : ByteArray := prog_2_method_8_code
def yX0_reseed : MethodName := ⟨RX0, "reseed", "(I)I"⟩
abbrev cX0_number : ByteArray := prog_2_method_9_code
def yX0_number : MethodName := ⟨RX0, "number", "(II)I"⟩
abbrev cX0_become : ByteArray := prog_2_method_10_code
def yX0_become : MethodName := ⟨RX0, "become", "(III)V"⟩
abbrev cX0_placeOf : ByteArray := prog_2_method_11_code
def yX0_placeOf : MethodName := ⟨RX0, "placeOf", "(II)I"⟩
abbrev cX0_mostSettable : ByteArray := prog_2_method_12_code
def yX0_mostSettable : MethodName := ⟨RX0, "mostSettable", "(II)I"⟩
abbrev cX0_allGrams : ByteArray := prog_2_method_13_code
def yX0_allGrams : MethodName := ⟨RX0, "allGrams", "()I"⟩
abbrev cX0_copyFrom : ByteArray := prog_2_method_14_code
def yX0_copyFrom : MethodName := ⟨RX0, "copyFrom", "(LOldBronze$Bronze;)V"⟩
abbrev cX0_add : ByteArray := prog_2_method_15_code
def yX0_add : MethodName := ⟨RX0, "add", "(I)I"⟩
abbrev cX0_fill : ByteArray := prog_2_method_16_code
def yX0_fill : MethodName := ⟨RX0, "fill", "(II)V"⟩
abbrev cX0_addFirst : ByteArray := prog_2_method_17_code
def yX0_addFirst : MethodName := ⟨RX0, "addFirst", "(II)I"⟩
abbrev cX0_pour : ByteArray := prog_2_method_18_code
def yX0_pour : MethodName := ⟨RX0, "pour", "(III)V"⟩
abbrev cX0_partOf : ByteArray := prog_2_method_19_code
def yX0_partOf : MethodName := ⟨RX0, "partOf", "(IIII)I"⟩
abbrev cX0_lose : ByteArray := prog_2_method_20_code
def yX0_lose : MethodName := ⟨RX0, "lose", "(III)V"⟩
abbrev cX0_addTin : ByteArray := prog_2_method_21_code
def yX0_addTin : MethodName := ⟨RX0, "addTin", "(I)V"⟩
abbrev cX0_addCast : ByteArray := prog_2_method_22_code
def yX0_addCast : MethodName := ⟨RX0, "addCast", "(II)I"⟩
abbrev cX0_passYears : ByteArray := prog_2_method_23_code
def yX0_passYears : MethodName := ⟨RX0, "passYears", "(I)V"⟩
abbrev cX0_passYear : ByteArray := prog_2_method_24_code
def yX0_passYear : MethodName := ⟨RX0, "passYear", "()V"⟩
abbrev cX0_mostOf : ByteArray := prog_2_method_25_code
def yX0_mostOf : MethodName := ⟨RX0, "mostOf", "(II)I"⟩
abbrev cX0_together : ByteArray := prog_2_method_26_code
def yX0_together : MethodName := ⟨RX0, "together", "(II)I"⟩
def RX1 : String := "OldBronze$Forge"
def TX1 : u_T := fun k => match k with
  | 0 => ("OldBronze$Forge", "bronze", "LOldBronze$Bronze;", true)
  | 1 => ("OldBronze$Forge", "tape", "LOldBronze$Rows;", true)
  | 2 => ("OldBronze$Forge", "claims", "LOldBronze$Rows;", true)
  | 3 => ("OldBronze$Forge", "lostPapers", "LOldBronze$Rows;", true)
  | 4 => ("OldBronze$Forge", "weighings", "LOldBronze$Rows;", true)
  | 5 => ("OldBronze$Forge", "waiting", "LOldBronze$Rows;", true)
  | 6 => ("OldBronze$Forge", "rings", "LOldBronze$Rows;", true)
  | 7 => ("OldBronze$Forge", "counts", "LOldBronze$Rows;", true)
  | _ => ("OldBronze$Forge", "worker", "LOldBronze$Worker;", true)
def tyX1 : Nat → FieldType := fun k => match k with
  | 0 => .object "OldBronze$Bronze"
  | 1 => .object "OldBronze$Rows"
  | 2 => .object "OldBronze$Rows"
  | 3 => .object "OldBronze$Rows"
  | 4 => .object "OldBronze$Rows"
  | 5 => .object "OldBronze$Rows"
  | 6 => .object "OldBronze$Rows"
  | 7 => .object "OldBronze$Rows"
  | _ => .object "OldBronze$Worker"
abbrev wsX10 : List Cond := u_ws RX1 TX1 9
theorem nmX1 : ∀ a, a < 9 → ∀ b, b < 9 → a ≠ b → (TX1 a).2.1 ≠ (TX1 b).2.1 := by decide +kernel
theorem tyX1_ok : ∀ k, k < 9 → parseFieldDescriptor (TX1 k).2.2.1 = some (tyX1 k) := by decide +kernel
abbrev cX1_init : ByteArray := prog_3_method_1_code
def yX1_init : MethodName := ⟨RX1, "<init>", "()V"⟩
abbrev cX1_copyFrom : ByteArray := prog_3_method_2_code
def yX1_copyFrom : MethodName := ⟨RX1, "copyFrom", "(LOldBronze$Forge;)V"⟩
abbrev cX1_textOf : ByteArray := prog_3_method_3_code
def yX1_textOf : MethodName := ⟨RX1, "textOf", "(I)LOldBronze$Rows;"⟩
abbrev cX1_numberOf : ByteArray := prog_3_method_4_code
def yX1_numberOf : MethodName := ⟨RX1, "numberOf", "(LOldBronze$Bronze;II)I"⟩
abbrev cX1_tone : ByteArray := prog_3_method_5_code
def yX1_tone : MethodName := ⟨RX1, "tone", "(LOldBronze$Bronze;I)I"⟩
abbrev cX1_ring : ByteArray := prog_3_method_6_code
def yX1_ring : MethodName := ⟨RX1, "ring", "(III)I"⟩
abbrev cX1_held : ByteArray := prog_3_method_7_code
def yX1_held : MethodName := ⟨RX1, "held", "(II)I"⟩
abbrev cX1_counted : ByteArray := prog_3_method_8_code
def yX1_counted : MethodName := ⟨RX1, "counted", "(I)I"⟩
abbrev cX1_claimants : ByteArray := prog_3_method_9_code
def yX1_claimants : MethodName := ⟨RX1, "claimants", "(I)I"⟩
abbrev cX1_countedBelow : ByteArray := prog_3_method_10_code
def yX1_countedBelow : MethodName := ⟨RX1, "countedBelow", "(II)I"⟩
abbrev cX1_shareOf : ByteArray := prog_3_method_11_code
def yX1_shareOf : MethodName := ⟨RX1, "shareOf", "(II)I"⟩
abbrev cX1_leftOf : ByteArray := prog_3_method_12_code
def yX1_leftOf : MethodName := ⟨RX1, "leftOf", "(II)I"⟩
def RX2 : String := "OldBronze$Histories"
def TX2 : u_T := fun k => match k with
  | 0 => ("OldBronze$Histories", "behind", "LOldBronze$Bronze;", true)
  | 1 => ("OldBronze$Histories", "found", "LOldBronze$Rows;", true)
  | _ => ("OldBronze$Histories", "grams", "[I", true)
def tyX2 : Nat → FieldType := fun k => match k with
  | 0 => .object "OldBronze$Bronze"
  | 1 => .object "OldBronze$Rows"
  | _ => .array .int
abbrev wsX20 : List Cond := u_ws RX2 TX2 3
theorem nmX2 : ∀ a, a < 3 → ∀ b, b < 3 → a ≠ b → (TX2 a).2.1 ≠ (TX2 b).2.1 := by decide +kernel
theorem tyX2_ok : ∀ k, k < 3 → parseFieldDescriptor (TX2 k).2.2.1 = some (tyX2 k) := by decide +kernel
abbrev cX2_init : ByteArray := prog_4_method_1_code
def yX2_init : MethodName := ⟨RX2, "<init>", "()V"⟩
abbrev cX2_follow : ByteArray := prog_4_method_2_code
def yX2_follow : MethodName := ⟨RX2, "follow", "(LOldBronze$Forge;I)V"⟩
abbrev cX2_numberBehind : ByteArray := prog_4_method_3_code
def yX2_numberBehind : MethodName := ⟨RX2, "numberBehind", "(II)I"⟩
abbrev cX2_find : ByteArray := prog_4_method_4_code
def yX2_find : MethodName := ⟨RX2, "find", "(LOldBronze$Forge;)V"⟩
abbrev cX2_isSo : ByteArray := prog_4_method_5_code
def yX2_isSo : MethodName := ⟨RX2, "isSo", "(LOldBronze$Rows;)Z"⟩
abbrev cX2_noteGrams : ByteArray := prog_4_method_6_code
def yX2_noteGrams : MethodName := ⟨RX2, "noteGrams", "(I)V"⟩
abbrev cX2_notedGrams : ByteArray := prog_4_method_7_code
def yX2_notedGrams : MethodName := ⟨RX2, "notedGrams", "(II)I"⟩
abbrev cX2_size : ByteArray := prog_4_method_8_code
def yX2_size : MethodName := ⟨RX2, "size", "()I"⟩
abbrev cX2_fitting : ByteArray := prog_4_method_9_code
def yX2_fitting : MethodName := ⟨RX2, "fitting", "(I)I"⟩
abbrev cX2_inAll : ByteArray := prog_4_method_10_code
def yX2_inAll : MethodName := ⟨RX2, "inAll", "(I)I"⟩
abbrev cX2_inAny : ByteArray := prog_4_method_11_code
def yX2_inAny : MethodName := ⟨RX2, "inAny", "()I"⟩
abbrev cX2_mostPapers : ByteArray := prog_4_method_12_code
def yX2_mostPapers : MethodName := ⟨RX2, "mostPapers", "()I"⟩
abbrev cX2_outermost : ByteArray := prog_4_method_13_code
def yX2_outermost : MethodName := ⟨RX2, "outermost", "(LOldBronze$Forge;IIZ)I"⟩
abbrev cX2_bestParted : ByteArray := prog_4_method_14_code
def yX2_bestParted : MethodName := ⟨RX2, "bestParted", "(I)I"⟩
abbrev cX2_greatestHeap : ByteArray := prog_4_method_15_code
def yX2_greatestHeap : MethodName := ⟨RX2, "greatestHeap", "(I)I"⟩
abbrev cX2_firstUnlike : ByteArray := prog_4_method_16_code
def yX2_firstUnlike : MethodName := ⟨RX2, "firstUnlike", "(LOldBronze$Rows;)I"⟩
def RX3 : String := "OldBronze$Reader"
def TX3 : u_T := fun k => match k with
  | 0 => ("OldBronze$Reader", "bytes", "LOldBronze$Rows;", true)
  | 1 => ("OldBronze$Reader", "code", "LOldBronze$Rows;", true)
  | 2 => ("OldBronze$Reader", "use", "I", false)
  | _ => ("OldBronze$Reader", "place", "I", false)
def tyX3 : Nat → FieldType := fun k => match k with
  | 0 => .object "OldBronze$Rows"
  | 1 => .object "OldBronze$Rows"
  | 2 => .int
  | _ => .int
abbrev wsX30 : List Cond := u_ws RX3 TX3 4
theorem nmX3 : ∀ a, a < 4 → ∀ b, b < 4 → a ≠ b → (TX3 a).2.1 ≠ (TX3 b).2.1 := by decide +kernel
theorem tyX3_ok : ∀ k, k < 4 → parseFieldDescriptor (TX3 k).2.2.1 = some (tyX3 k) := by decide +kernel
abbrev cX3_init : ByteArray := prog_5_method_1_code
def yX3_init : MethodName := ⟨RX3, "<init>", "()V"⟩
abbrev cX3_read : ByteArray := prog_5_method_2_code
def yX3_read : MethodName := ⟨RX3, "read", "(LOldBronze$Rows;I)I"⟩
abbrev cX3_writeTo : ByteArray := prog_5_method_3_code
def yX3_writeTo : MethodName := ⟨RX3, "writeTo", "(LOldBronze$Rows;)V"⟩
abbrev cX3_peek : ByteArray := prog_5_method_4_code
def yX3_peek : MethodName := ⟨RX3, "peek", "()I"⟩
abbrev cX3_readLevel : ByteArray := prog_5_method_5_code
def yX3_readLevel : MethodName := ⟨RX3, "readLevel", "(II)Z"⟩
abbrev cX3_levelOf : ByteArray := prog_5_method_6_code
def yX3_levelOf : MethodName := ⟨RX3, "levelOf", "(I)I"⟩
abbrev cX3_readValue : ByteArray := prog_5_method_7_code
def yX3_readValue : MethodName := ⟨RX3, "readValue", "(I)Z"⟩
abbrev cX3_readOpened : ByteArray := prog_5_method_8_code
def yX3_readOpened : MethodName := ⟨RX3, "readOpened", "(II)Z"⟩
abbrev cX3_readNumber : ByteArray := prog_5_method_9_code
def yX3_readNumber : MethodName := ⟨RX3, "readNumber", "()V"⟩
abbrev cX3_isDigit : ByteArray := prog_5_method_10_code
def yX3_isDigit : MethodName := ⟨RX3, "isDigit", "(I)Z"⟩
abbrev cX3_nameOf : ByteArray := prog_5_method_11_code
def yX3_nameOf : MethodName := ⟨RX3, "nameOf", "(I)I"⟩
def RX4 : String := "OldBronze$Rows"
def TX4 : u_T := fun k => match k with
  | 0 => ("OldBronze$Rows", "width", "I", true)
  | 1 => ("OldBronze$Rows", "cells", "[I", true)
  | 2 => ("OldBronze$Rows", "limit", "I", true)
  | _ => ("OldBronze$Rows", "size", "I", false)
def tyX4 : Nat → FieldType := fun k => match k with
  | 0 => .int
  | 1 => .array .int
  | 2 => .int
  | _ => .int
abbrev wsX40 : List Cond := u_ws RX4 TX4 4
theorem nmX4 : ∀ a, a < 4 → ∀ b, b < 4 → a ≠ b → (TX4 a).2.1 ≠ (TX4 b).2.1 := by decide +kernel
theorem tyX4_ok : ∀ k, k < 4 → parseFieldDescriptor (TX4 k).2.2.1 = some (tyX4 k) := by decide +kernel
abbrev cX4_init : ByteArray := prog_6_method_1_code
def yX4_init : MethodName := ⟨RX4, "<init>", "(II)V"⟩
abbrev cX4_size : ByteArray := prog_6_method_2_code
def yX4_size : MethodName := ⟨RX4, "size", "()I"⟩
abbrev cX4_room : ByteArray := prog_6_method_3_code
def yX4_room : MethodName := ⟨RX4, "room", "()I"⟩
abbrev cX4_has : ByteArray := prog_6_method_4_code
def yX4_has : MethodName := ⟨RX4, "has", "(I)Z"⟩
abbrev cX4_at : ByteArray := prog_6_method_5_code
def yX4_at : MethodName := ⟨RX4, "at", "(II)I"⟩
abbrev cX4_append : ByteArray := prog_6_method_6_code
def yX4_append : MethodName := ⟨RX4, "append", "(III)I"⟩
abbrev cX4_write : ByteArray := prog_6_method_7_code
def yX4_write : MethodName := ⟨RX4, "write", "(II)V"⟩
abbrev cX4_clear : ByteArray := prog_6_method_8_code
def yX4_clear : MethodName := ⟨RX4, "clear", "()V"⟩
abbrev cX4_copyFrom : ByteArray := prog_6_method_9_code
def yX4_copyFrom : MethodName := ⟨RX4, "copyFrom", "(LOldBronze$Rows;)V"⟩
def RX5 : String := "OldBronze$Sheet"
def TX5 : u_T := fun k => match k with
  | 0 => ("OldBronze$Sheet", "numbers", "[I", true)
  | 1 => ("OldBronze$Sheet", "bits", "I", false)
  | _ => ("OldBronze$Sheet", "size", "I", false)
def tyX5 : Nat → FieldType := fun k => match k with
  | 0 => .array .int
  | 1 => .int
  | _ => .int
abbrev wsX50 : List Cond := u_ws RX5 TX5 3
theorem nmX5 : ∀ a, a < 3 → ∀ b, b < 3 → a ≠ b → (TX5 a).2.1 ≠ (TX5 b).2.1 := by decide +kernel
theorem tyX5_ok : ∀ k, k < 3 → parseFieldDescriptor (TX5 k).2.2.1 = some (tyX5 k) := by decide +kernel
abbrev cX5_init : ByteArray := prog_7_method_1_code
def yX5_init : MethodName := ⟨RX5, "<init>", "()V"⟩
abbrev cX5_begin : ByteArray := prog_7_method_2_code
def yX5_begin : MethodName := ⟨RX5, "begin", "(II)V"⟩
abbrev cX5_isMissing : ByteArray := prog_7_method_3_code
def yX5_isMissing : MethodName := ⟨RX5, "isMissing", "()Z"⟩
abbrev cX5_isLike : ByteArray := prog_7_method_4_code
def yX5_isLike : MethodName := ⟨RX5, "isLike", "(LOldBronze$Sheet;)Z"⟩
abbrev cX5_size : ByteArray := prog_7_method_5_code
def yX5_size : MethodName := ⟨RX5, "size", "()I"⟩
abbrev cX5_has : ByteArray := prog_7_method_6_code
def yX5_has : MethodName := ⟨RX5, "has", "(I)Z"⟩
abbrev cX5_hasRange : ByteArray := prog_7_method_7_code
def yX5_hasRange : MethodName := ⟨RX5, "hasRange", "(II)Z"⟩
abbrev cX5_at : ByteArray := prog_7_method_8_code
def yX5_at : MethodName := ⟨RX5, "at", "(I)I"⟩
abbrev cX5_write : ByteArray := prog_7_method_9_code
def yX5_write : MethodName := ⟨RX5, "write", "(II)V"⟩
abbrev cX5_copyRange : ByteArray := prog_7_method_10_code
def yX5_copyRange : MethodName := ⟨RX5, "copyRange", "(ILOldBronze$Sheet;II)V"⟩
def RX6 : String := "OldBronze$Voices"
def TX6 : u_T := fun k => match k with
  | 0 => ("OldBronze$Voices", "trace", "LOldBronze$Rows;", true)
  | 1 => ("OldBronze$Voices", "kind", "I", false)
  | 2 => ("OldBronze$Voices", "k", "I", false)
  | 3 => ("OldBronze$Voices", "m", "I", false)
  | _ => ("OldBronze$Voices", "isParted", "Z", false)
def tyX6 : Nat → FieldType := fun k => match k with
  | 0 => .object "OldBronze$Rows"
  | 1 => .int
  | 2 => .int
  | 3 => .int
  | _ => .boolean
abbrev wsX60 : List Cond := u_ws RX6 TX6 5
theorem nmX6 : ∀ a, a < 5 → ∀ b, b < 5 → a ≠ b → (TX6 a).2.1 ≠ (TX6 b).2.1 := by decide +kernel
theorem tyX6_ok : ∀ k, k < 5 → parseFieldDescriptor (TX6 k).2.2.1 = some (tyX6 k) := by decide +kernel
abbrev cX6_init : ByteArray := prog_8_method_1_code
def yX6_init : MethodName := ⟨RX6, "<init>", "()V"⟩
abbrev cX6_begin : ByteArray := prog_8_method_2_code
def yX6_begin : MethodName := ⟨RX6, "begin", "(III)V"⟩
abbrev cX6_trace : ByteArray := prog_8_method_3_code
def yX6_trace : MethodName := ⟨RX6, "trace", "()LOldBronze$Rows;"⟩
abbrev cX6_isParted : ByteArray := prog_8_method_4_code
def yX6_isParted : MethodName := ⟨RX6, "isParted", "()Z"⟩
abbrev cX6_own : ByteArray := prog_8_method_5_code
def yX6_own : MethodName := ⟨RX6, "own", "(III)I"⟩
abbrev cX6_sound : ByteArray := prog_8_method_6_code
def yX6_sound : MethodName := ⟨RX6, "sound", "(IIII)I"⟩
abbrev cX6_bodyOf : ByteArray := prog_8_method_7_code
def yX6_bodyOf : MethodName := ⟨RX6, "bodyOf", "(II)I"⟩
abbrev cX6_work : ByteArray := prog_8_method_8_code
def yX6_work : MethodName := ⟨RX6, "work", "(IIII)I"⟩
abbrev cX6_part : ByteArray := prog_8_method_9_code
def yX6_part : MethodName := ⟨RX6, "part", "(I)I"⟩
def RX7 : String := "OldBronze$Worker"
def TX7 : u_T := fun k => match k with
  | 0 => ("OldBronze$Worker", "stack", "[I", true)
  | _ => ("OldBronze$Worker", "height", "I", false)
def tyX7 : Nat → FieldType := fun k => match k with
  | 0 => .array .int
  | _ => .int
abbrev wsX70 : List Cond := u_ws RX7 TX7 2
theorem nmX7 : ∀ a, a < 2 → ∀ b, b < 2 → a ≠ b → (TX7 a).2.1 ≠ (TX7 b).2.1 := by decide +kernel
theorem tyX7_ok : ∀ k, k < 2 → parseFieldDescriptor (TX7 k).2.2.1 = some (tyX7 k) := by decide +kernel
abbrev cX7_init : ByteArray := prog_9_method_1_code
def yX7_init : MethodName := ⟨RX7, "<init>", "()V"⟩
abbrev cX7_value : ByteArray := prog_9_method_2_code
def yX7_value : MethodName := ⟨RX7, "value", "(LOldBronze$Rows;III)I"⟩
abbrev cX7_push : ByteArray := prog_9_method_3_code
def yX7_push : MethodName := ⟨RX7, "push", "(I)V"⟩
abbrev cX7_pop : ByteArray := prog_9_method_4_code
def yX7_pop : MethodName := ⟨RX7, "pop", "()I"⟩
abbrev cX7_joined : ByteArray := prog_9_method_5_code
def yX7_joined : MethodName := ⟨RX7, "joined", "(III)I"⟩
def RX8 : String := "OldBronze"
def TX8 : u_T := fun k => match k with
  | 0 => ("OldBronze", "now", "LOldBronze$Forge;", true)
  | 1 => ("OldBronze", "kept", "LOldBronze$Forge;", true)
  | 2 => ("OldBronze", "ahead", "LOldBronze$Bronze;", true)
  | 3 => ("OldBronze", "histories", "LOldBronze$Histories;", true)
  | 4 => ("OldBronze", "reader", "LOldBronze$Reader;", true)
  | 5 => ("OldBronze", "voices", "LOldBronze$Voices;", true)
  | 6 => ("OldBronze", "sheets", "[LOldBronze$Sheet;", true)
  | 7 => ("OldBronze", "refusals", "[I", true)
  | _ => ("OldBronze", "images", "I", false)
def tyX8 : Nat → FieldType := fun k => match k with
  | 0 => .object "OldBronze$Forge"
  | 1 => .object "OldBronze$Forge"
  | 2 => .object "OldBronze$Bronze"
  | 3 => .object "OldBronze$Histories"
  | 4 => .object "OldBronze$Reader"
  | 5 => .object "OldBronze$Voices"
  | 6 => .array (.object "OldBronze$Sheet")
  | 7 => .array .int
  | _ => .int
abbrev wsX80 : List Cond := u_ws RX8 TX8 9
theorem nmX8 : ∀ a, a < 9 → ∀ b, b < 9 → a ≠ b → (TX8 a).2.1 ≠ (TX8 b).2.1 := by decide +kernel
theorem tyX8_ok : ∀ k, k < 9 → parseFieldDescriptor (TX8 k).2.2.1 = some (tyX8 k) := by decide +kernel
abbrev cX8_init : ByteArray := prog_1_method_1_code
def yX8_init : MethodName := ⟨RX8, "<init>", "()V"⟩
abbrev cX8_thing : ByteArray := prog_1_method_2_code
def yX8_thing : MethodName := ⟨RX8, "thing", "(II)I"⟩
abbrev cX8_thingIs : ByteArray := prog_1_method_3_code
def yX8_thingIs : MethodName := ⟨RX8, "thingIs", "(II)I"⟩
abbrev cX8_as : ByteArray := prog_1_method_4_code
def yX8_as : MethodName := ⟨RX8, "as", "(II)I"⟩
abbrev cX8_set : ByteArray := prog_1_method_5_code
def yX8_set : MethodName := ⟨RX8, "set", "(III)I"⟩
abbrev cX8_melt : ByteArray := prog_1_method_6_code
def yX8_melt : MethodName := ⟨RX8, "melt", "(II)I"⟩
abbrev cX8_crucible : ByteArray := prog_1_method_7_code
def yX8_crucible : MethodName := ⟨RX8, "crucible", "(I)I"⟩
abbrev cX8_cast : ByteArray := prog_1_method_8_code
def yX8_cast : MethodName := ⟨RX8, "cast", "(III)I"⟩
abbrev cX8_years : ByteArray := prog_1_method_9_code
def yX8_years : MethodName := ⟨RX8, "years", "(I)I"⟩
abbrev cX8_then : ByteArray := prog_1_method_10_code
def yX8_then : MethodName := ⟨RX8, "then", "(III)I"⟩
abbrev cX8_seed : ByteArray := prog_1_method_11_code
def yX8_seed : MethodName := ⟨RX8, "seed", "(I)I"⟩
abbrev cX8_feed : ByteArray := prog_1_method_12_code
def yX8_feed : MethodName := ⟨RX8, "feed", "(JI)I"⟩
abbrev cX8_text : ByteArray := prog_1_method_13_code
def yX8_text : MethodName := ⟨RX8, "text", "(I)I"⟩
abbrev cX8_untell : ByteArray := prog_1_method_14_code
def yX8_untell : MethodName := ⟨RX8, "untell", "(I)I"⟩
abbrev cX8_claim : ByteArray := prog_1_method_15_code
def yX8_claim : MethodName := ⟨RX8, "claim", "(II)I"⟩
abbrev cX8_claimIs : ByteArray := prog_1_method_16_code
def yX8_claimIs : MethodName := ⟨RX8, "claimIs", "(II)I"⟩
abbrev cX8_share : ByteArray := prog_1_method_17_code
def yX8_share : MethodName := ⟨RX8, "share", "(II)I"⟩
abbrev cX8_left : ByteArray := prog_1_method_18_code
def yX8_left : MethodName := ⟨RX8, "left", "(II)I"⟩
abbrev cX8_paper : ByteArray := prog_1_method_19_code
def yX8_paper : MethodName := ⟨RX8, "paper", "(III)I"⟩
abbrev cX8_weigh : ByteArray := prog_1_method_20_code
def yX8_weigh : MethodName := ⟨RX8, "weigh", "(III)I"⟩
abbrev cX8_forget : ByteArray := prog_1_method_21_code
def yX8_forget : MethodName := ⟨RX8, "forget", "(I)I"⟩
abbrev cX8_by : ByteArray := prog_1_method_22_code
def yX8_by : MethodName := ⟨RX8, "by", "(III)I"⟩
abbrev cX8_fits : ByteArray := prog_1_method_23_code
def yX8_fits : MethodName := ⟨RX8, "fits", "(I)I"⟩
abbrev cX8_span : ByteArray := prog_1_method_24_code
def yX8_span : MethodName := ⟨RX8, "span", "(III)I"⟩
abbrev cX8_next : ByteArray := prog_1_method_25_code
def yX8_next : MethodName := ⟨RX8, "next", "()I"⟩
abbrev cX8_most : ByteArray := prog_1_method_26_code
def yX8_most : MethodName := ⟨RX8, "most", "(III)I"⟩
abbrev cX8_voice : ByteArray := prog_1_method_27_code
def yX8_voice : MethodName := ⟨RX8, "voice", "(III)I"⟩
abbrev cX8_body : ByteArray := prog_1_method_28_code
def yX8_body : MethodName := ⟨RX8, "body", "(I)I"⟩
abbrev cX8_sheet : ByteArray := prog_1_method_29_code
def yX8_sheet : MethodName := ⟨RX8, "sheet", "(III)I"⟩
abbrev cX8_put : ByteArray := prog_1_method_30_code
def yX8_put : MethodName := ⟨RX8, "put", "(III)I"⟩
abbrev cX8_move : ByteArray := prog_1_method_31_code
def yX8_move : MethodName := ⟨RX8, "move", "(IIIII)I"⟩
abbrev cX8_papers : ByteArray := prog_1_method_32_code
def yX8_papers : MethodName := ⟨RX8, "papers", "(I)I"⟩
abbrev cX8_judge : ByteArray := prog_1_method_33_code
def yX8_judge : MethodName := ⟨RX8, "judge", "(II)I"⟩
abbrev cX8_image : ByteArray := prog_1_method_34_code
def yX8_image : MethodName := ⟨RX8, "image", "()I"⟩
abbrev cX8_restore : ByteArray := prog_1_method_35_code
def yX8_restore : MethodName := ⟨RX8, "restore", "()I"⟩
abbrev cX8_tell : ByteArray := prog_1_method_36_code
def yX8_tell : MethodName := ⟨RX8, "tell", "(I)I"⟩
abbrev cX8_check : ByteArray := prog_1_method_37_code
def yX8_check : MethodName := ⟨RX8, "check", "()I"⟩
abbrev cX8_count : ByteArray := prog_1_method_38_code
def yX8_count : MethodName := ⟨RX8, "count", "(I)I"⟩
abbrev cX8_told : ByteArray := prog_1_method_39_code
def yX8_told : MethodName := ⟨RX8, "told", "(I)I"⟩
abbrev cX8_refuse : ByteArray := prog_1_method_40_code
def yX8_refuse : MethodName := ⟨RX8, "refuse", "(I)I"⟩
abbrev cX8_sheetAt : ByteArray := prog_1_method_41_code
def yX8_sheetAt : MethodName := ⟨RX8, "sheetAt", "(I)LOldBronze$Sheet;"⟩
abbrev cX8_allPapers : ByteArray := prog_1_method_42_code
def yX8_allPapers : MethodName := ⟨RX8, "allPapers", "()I"⟩
abbrev cX8_isHistory : ByteArray := prog_1_method_43_code
def yX8_isHistory : MethodName := ⟨RX8, "isHistory", "(I)Z"⟩
abbrev cX8_isPaper : ByteArray := prog_1_method_44_code
def yX8_isPaper : MethodName := ⟨RX8, "isPaper", "(III)Z"⟩
abbrev cX8_isKindAndM : ByteArray := prog_1_method_45_code
def yX8_isKindAndM : MethodName := ⟨RX8, "isKindAndM", "(I)Z"⟩
abbrev cX8_isUnder : ByteArray := prog_1_method_46_code
def yX8_isUnder : MethodName := ⟨RX8, "isUnder", "(II)Z"⟩
abbrev cX8_above : ByteArray := prog_1_method_47_code
def yX8_above : MethodName := ⟨RX8, "above", "(I)I"⟩
abbrev cX8_within : ByteArray := prog_1_method_48_code
def yX8_within : MethodName := ⟨RX8, "within", "(III)Z"⟩
abbrev cX8_quotient : ByteArray := prog_1_method_49_code
def yX8_quotient : MethodName := ⟨RX8, "quotient", "(JJ)I"⟩
def RJ6 : String := "java/lang/Integer"
def TJ6 : u_T := fun k => match k with
  | _ => ("", "", "", false)
def tyJ6 : Nat → FieldType := fun k => match k with
  | _ => .int
abbrev wsJ60 : List Cond := u_ws RJ6 TJ6 0
theorem nmJ6 : ∀ a, a < 0 → ∀ b, b < 0 → a ≠ b → (TJ6 a).2.1 ≠ (TJ6 b).2.1 := by decide +kernel
theorem tyJ6_ok : ∀ k, k < 0 → parseFieldDescriptor (TJ6 k).2.2.1 = some (tyJ6 k) := by decide +kernel
abbrev cJ6_bitCount_0f7a4 : ByteArray := prog_12_method_49_code
def yJ6_bitCount_0f7a4 : MethodName := ⟨RJ6, "bitCount", "(I)I"⟩
def RJ7 : String := "java/util/Arrays"
def TJ7 : u_T := fun k => match k with
  | _ => ("", "", "", false)
def tyJ7 : Nat → FieldType := fun k => match k with
  | _ => .int
abbrev wsJ70 : List Cond := u_ws RJ7 TJ7 0
theorem nmJ7 : ∀ a, a < 0 → ∀ b, b < 0 → a ≠ b → (TJ7 a).2.1 ≠ (TJ7 b).2.1 := by decide +kernel
theorem tyJ7_ok : ∀ k, k < 0 → parseFieldDescriptor (TJ7 k).2.2.1 = some (tyJ7 k) := by decide +kernel
abbrev cJ7_fill_53178 : ByteArray := prog_15_method_103_code
def yJ7_fill_53178 : MethodName := ⟨RJ7, "fill", "([II)V"⟩
def tCa0 : List Cond := [
  .code yX0_init cX0_init 1 none,
  .methodLink RX0 3 objectInit,
  .instanceMethod objectInit,
  .code objectInit ⟨#[0xb1]⟩ 1 none,
  .arrayClass .int,
  .fieldLink RX0 9 "OldBronze$Bronze" "cells" "[I",
  .fieldLink RX0 15 "OldBronze$Bronze" "z" "I",
  .code yX0_size cX0_size 1 (some .int),
  .fieldLink RX0 19 "OldBronze$Bronze" "size" "I",
  .code yX0_room cX0_room 1 (some .int),
  .code yX0_has cX0_has 2 (some .boolean),
  .code yX0_firstsThatCount cX0_firstsThatCount 1 (some .int),
  .fieldLink RX0 22 "OldBronze$Bronze" "firsts" "I",
  .code yX0_yearsSoFar cX0_yearsSoFar 1 (some .int),
  .fieldLink RX0 25 "OldBronze$Bronze" "years" "I",
  .code yX0_lastDraw cX0_lastDraw 1 (some .int),
  .code yX0_reseed cX0_reseed 3 (some .int),
  .code yX0_placeOf cX0_placeOf 3 (some .int),
  .code yX0_number cX0_number 4 (some .int),
  .methodLink RX0 28 yX0_placeOf,
  .static yX0_placeOf,
  .initialized RX0,
  .code yX0_become cX0_become 5 none,
  .code yX8_within cX8_within 3 (some .boolean),
  .code yX0_mostSettable cX0_mostSettable 3 (some .int),
  .static yX8_within,
  .initialized RX8,
  .methodLink RX0 36 yX0_number,
  .instanceMethod yX0_number,
  .selects RX0 yX0_number yX0_number,
  .code yX0_allGrams cX0_allGrams 3 (some .int),
  .code yX0_copyFrom cX0_copyFrom 2 none]
def tCa1 : List Cond := [
  .methodLink RX0 39 arraycopyName,
  .native arraycopyName,
  .static arraycopyName,
  .initialized "java/lang/System",
  .code yX0_fill cX0_fill 4 none,
  .methodLink RX0 53 yX0_become,
  .instanceMethod yX0_become,
  .selects RX0 yX0_become yX0_become,
  .code yX0_add cX0_add 3 (some .int),
  .methodLink RX0 45 yX0_room,
  .instanceMethod yX0_room,
  .selects RX0 yX0_room yX0_room,
  .methodLink RX0 49 yX0_fill,
  .instanceMethod yX0_fill,
  .selects RX0 yX0_fill yX0_fill,
  .code yX0_addFirst cX0_addFirst 4 (some .int),
  .constant RX0 61 (1000000),
  .methodLink RX0 57 yX0_add,
  .instanceMethod yX0_add,
  .selects RX0 yX0_add yX0_add,
  .code yX8_quotient cX8_quotient 4 (some .int),
  .code yX0_partOf cX0_partOf 5 (some .int),
  .static yX8_quotient,
  .code yX0_lose cX0_lose 5 none,
  .methodLink RX0 62 yX0_partOf,
  .instanceMethod yX0_partOf,
  .selects RX0 yX0_partOf yX0_partOf,
  .constant RX0 70 (9999999),
  .methodLink RX0 71 Lib.Math.min.name,
  .static Lib.Math.min.name,
  .initialized "java/lang/Math",
  .code Lib.Math.min.name Lib.Math.min.code 2 (some .int)]
def tCa2 : List Cond := [
  .methodLink RX0 76 yX0_lose,
  .instanceMethod yX0_lose,
  .selects RX0 yX0_lose yX0_lose,
  .code yX0_pour cX0_pour 11 none,
  .code yX0_addTin cX0_addTin 7 none,
  .code yX0_addCast cX0_addCast 9 (some .int),
  .constant RX0 82 (1103515245),
  .code yX0_passYear cX0_passYear 2 none,
  .methodLink RX0 79 yX0_passYear,
  .instanceMethod yX0_passYear,
  .selects RX0 yX0_passYear yX0_passYear,
  .code yX0_passYears cX0_passYears 3 none,
  .code yJ6_bitCount_0f7a4 cJ6_bitCount_0f7a4 1 (some .int),
  .constant RJ6 265 (1431655765),
  .constant RJ6 266 (858993459),
  .constant RJ6 267 (252645135),
  .code yX0_together cX0_together 9 (some .int),
  .code yX0_mostOf cX0_mostOf 8 (some .int),
  .methodLink RX0 83 yJ6_bitCount_0f7a4,
  .static yJ6_bitCount_0f7a4,
  .initialized RJ6,
  .methodLink RX0 88 yX0_together,
  .instanceMethod yX0_together,
  .selects RX0 yX0_together yX0_together,
  .code yX4_init cX4_init 3 none,
  .methodLink RX4 1 objectInit,
  .methodLink RX4 7 Lib.Math.max.name,
  .static Lib.Math.max.name,
  .code Lib.Math.max.name Lib.Math.max.code 2 (some .int),
  .fieldLink RX4 13 "OldBronze$Rows" "limit" "I",
  .fieldLink RX4 19 "OldBronze$Rows" "width" "I",
  .fieldLink RX4 22 "OldBronze$Rows" "cells" "[I"]
def tCa3 : List Cond := [
  .code yX7_init cX7_init 1 none,
  .methodLink RX7 3 objectInit,
  .fieldLink RX7 9 "OldBronze$Worker" "stack" "[I",
  .methodLink RX1 3 objectInit,
  .classLink RX1 9 RX0,
  .instantiable RX0 5,
  .fieldLink RX1 12 "OldBronze$Forge" "bronze" "LOldBronze$Bronze;",
  .classLink RX1 18 RX4,
  .instantiable RX4 4,
  .initialized RX4,
  .fieldLink RX1 23 "OldBronze$Forge" "tape" "LOldBronze$Rows;",
  .fieldLink RX1 27 "OldBronze$Forge" "claims" "LOldBronze$Rows;",
  .fieldLink RX1 30 "OldBronze$Forge" "lostPapers" "LOldBronze$Rows;",
  .fieldLink RX1 33 "OldBronze$Forge" "weighings" "LOldBronze$Rows;",
  .fieldLink RX1 36 "OldBronze$Forge" "waiting" "LOldBronze$Rows;",
  .fieldLink RX1 39 "OldBronze$Forge" "rings" "LOldBronze$Rows;",
  .fieldLink RX1 42 "OldBronze$Forge" "counts" "LOldBronze$Rows;",
  .classLink RX1 45 RX7,
  .instantiable RX7 2,
  .initialized RX7,
  .fieldLink RX1 48 "OldBronze$Forge" "worker" "LOldBronze$Worker;",
  .instanceMethod yX0_init,
  .methodLink RX1 20 yX4_init,
  .instanceMethod yX4_init,
  .instanceMethod yX7_init,
  .code yX1_init cX1_init 1 none,
  .code yX4_copyFrom cX4_copyFrom 2 none,
  .methodLink RX4 37 arraycopyName,
  .fieldLink RX4 26 "OldBronze$Rows" "size" "I",
  .methodLink RX1 52 yX0_copyFrom,
  .instanceMethod yX0_copyFrom,
  .selects RX0 yX0_copyFrom yX0_copyFrom]
def tCa4 : List Cond := [
  .methodLink RX1 56 yX4_copyFrom,
  .instanceMethod yX4_copyFrom,
  .selects RX4 yX4_copyFrom yX4_copyFrom,
  .code yX1_copyFrom cX1_copyFrom 2 none,
  .code yX1_textOf cX1_textOf 2 (some (.object "OldBronze$Rows")),
  .code yX4_size cX4_size 1 (some .int),
  .code yX4_at cX4_at 5 (some .int),
  .code yX7_push cX7_push 2 none,
  .fieldLink RX7 15 "OldBronze$Worker" "height" "I",
  .code yX7_pop cX7_pop 1 (some .int),
  .code yX7_joined cX7_joined 3 (some .int),
  .methodLink RX7 19 yX4_size,
  .instanceMethod yX4_size,
  .selects RX4 yX4_size yX4_size,
  .methodLink RX7 25 yX4_at,
  .instanceMethod yX4_at,
  .selects RX4 yX4_at yX4_at,
  .methodLink RX7 29 yX7_push,
  .instanceMethod yX7_push,
  .selects RX7 yX7_push yX7_push,
  .methodLink RX7 33 yX7_pop,
  .instanceMethod yX7_pop,
  .selects RX7 yX7_pop yX7_pop,
  .methodLink RX7 36 yX7_joined,
  .static yX7_joined,
  .code yX7_value cX7_value 9 (some .int),
  .code yX1_held cX1_held 2 (some .int),
  .methodLink RX1 88 Lib.Math.min.name,
  .methodLink RX1 93 Lib.Math.max.name,
  .methodLink RX1 77 yX4_size,
  .methodLink RX1 81 yX7_value,
  .instanceMethod yX7_value]
def tCa5 : List Cond := [
  .selects RX7 yX7_value yX7_value,
  .methodLink RX1 85 yX1_held,
  .static yX1_held,
  .initialized RX1,
  .code yX1_ring cX1_ring 4 (some .int),
  .constantLong RX1 67 (1000),
  .methodLink RX1 63 yX0_number,
  .methodLink RX1 73 yX1_ring,
  .instanceMethod yX1_ring,
  .selects RX1 yX1_ring yX1_ring,
  .code yX1_tone cX1_tone 7 (some .int),
  .methodLink RX1 59 yX1_tone,
  .instanceMethod yX1_tone,
  .selects RX1 yX1_tone yX1_tone,
  .code yX1_numberOf cX1_numberOf 4 (some .int),
  .code yX1_claimants cX1_claimants 4 (some .int),
  .methodLink RX1 96 yX4_at,
  .methodLink RX1 99 yX1_claimants,
  .instanceMethod yX1_claimants,
  .selects RX1 yX1_claimants yX1_claimants,
  .code yX1_counted cX1_counted 5 (some .int),
  .methodLink RX1 103 yX1_counted,
  .instanceMethod yX1_counted,
  .selects RX1 yX1_counted yX1_counted,
  .code yX1_countedBelow cX1_countedBelow 5 (some .int),
  .methodLink RX1 106 yX1_countedBelow,
  .instanceMethod yX1_countedBelow,
  .selects RX1 yX1_countedBelow yX1_countedBelow,
  .code yX1_shareOf cX1_shareOf 7 (some .int),
  .methodLink RX1 109 yX1_shareOf,
  .instanceMethod yX1_shareOf,
  .selects RX1 yX1_shareOf yX1_shareOf]
def tCa6 : List Cond := [
  .code yX1_leftOf cX1_leftOf 5 (some .int),
  .methodLink RX2 3 objectInit,
  .classLink RX2 9 RX0,
  .fieldLink RX2 12 "OldBronze$Histories" "behind" "LOldBronze$Bronze;",
  .classLink RX2 18 RX4,
  .fieldLink RX2 23 "OldBronze$Histories" "found" "LOldBronze$Rows;",
  .fieldLink RX2 27 "OldBronze$Histories" "grams" "[I",
  .methodLink RX2 20 yX4_init,
  .code yX2_init cX2_init 1 none,
  .fieldLink RX2 31 "OldBronze$Forge" "bronze" "LOldBronze$Bronze;",
  .fieldLink RX2 40 "OldBronze$Forge" "lostPapers" "LOldBronze$Rows;",
  .methodLink RX2 36 yX0_copyFrom,
  .methodLink RX2 43 yX4_size,
  .methodLink RX2 47 yX4_at,
  .methodLink RX2 51 yX0_pour,
  .instanceMethod yX0_pour,
  .selects RX0 yX0_pour yX0_pour,
  .code yX2_follow cX2_follow 5 none,
  .code yX2_numberBehind cX2_numberBehind 3 (some .int),
  .methodLink RX2 55 yX0_number,
  .code yX4_clear cX4_clear 1 none,
  .methodLink RX2 80 Lib.Math.abs.name,
  .static Lib.Math.abs.name,
  .code Lib.Math.abs.name Lib.Math.abs.code 1 (some .int),
  .code yX2_isSo cX2_isSo 4 (some .boolean),
  .code yX4_room cX4_room 1 (some .int),
  .code yX4_write cX4_write 4 none,
  .code yX4_append cX4_append 4 (some .int),
  .methodLink RX4 29 yX4_room,
  .instanceMethod yX4_room,
  .selects RX4 yX4_room yX4_room,
  .methodLink RX4 33 yX4_write]
def tCa7 : List Cond := [
  .instanceMethod yX4_write,
  .selects RX4 yX4_write yX4_write,
  .code yX2_noteGrams cX2_noteGrams 4 none,
  .fieldLink RX2 65 "OldBronze$Forge" "weighings" "LOldBronze$Rows;",
  .methodLink RX2 58 yX4_clear,
  .instanceMethod yX4_clear,
  .selects RX4 yX4_clear yX4_clear,
  .methodLink RX2 61 yX2_follow,
  .instanceMethod yX2_follow,
  .selects RX2 yX2_follow yX2_follow,
  .initialized RX2,
  .methodLink RX2 68 yX2_isSo,
  .instanceMethod yX2_isSo,
  .selects RX2 yX2_isSo yX2_isSo,
  .methodLink RX2 72 yX4_append,
  .instanceMethod yX4_append,
  .selects RX4 yX4_append yX4_append,
  .methodLink RX2 76 yX2_noteGrams,
  .instanceMethod yX2_noteGrams,
  .selects RX2 yX2_noteGrams yX2_noteGrams,
  .code yX2_find cX2_find 3 none,
  .code yX2_notedGrams cX2_notedGrams 4 (some .int),
  .code yX2_size cX2_size 1 (some .int),
  .code yX2_fitting cX2_fitting 2 (some .int),
  .code yX2_inAll cX2_inAll 4 (some .int),
  .methodLink RX2 86 yX2_fitting,
  .instanceMethod yX2_fitting,
  .selects RX2 yX2_fitting yX2_fitting,
  .code yX2_inAny cX2_inAny 3 (some .int),
  .methodLink RX2 94 Lib.Math.max.name,
  .methodLink RX2 89 yJ6_bitCount_0f7a4,
  .code yX2_mostPapers cX2_mostPapers 3 (some .int)]
def tCa8 : List Cond := [
  .code yX2_outermost cX2_outermost 8 (some .int),
  .code yX2_greatestHeap cX2_greatestHeap 6 (some .int),
  .methodLink RX2 100 yX2_notedGrams,
  .instanceMethod yX2_notedGrams,
  .selects RX2 yX2_notedGrams yX2_notedGrams,
  .code yX2_bestParted cX2_bestParted 6 (some .int),
  .methodLink RX2 97 yX2_greatestHeap,
  .instanceMethod yX2_greatestHeap,
  .selects RX2 yX2_greatestHeap yX2_greatestHeap,
  .code yX4_has cX4_has 2 (some .boolean),
  .methodLink RX2 103 yX4_has,
  .instanceMethod yX4_has,
  .selects RX4 yX4_has yX4_has,
  .code yX2_firstUnlike cX2_firstUnlike 4 (some .int),
  .code yX3_init cX3_init 1 none,
  .methodLink RX3 3 objectInit,
  .classLink RX3 9 RX4,
  .fieldLink RX3 14 "OldBronze$Reader" "bytes" "LOldBronze$Rows;",
  .fieldLink RX3 20 "OldBronze$Reader" "code" "LOldBronze$Rows;",
  .methodLink RX3 11 yX4_init,
  .code yX3_peek cX3_peek 1 (some .int),
  .fieldLink RX3 34 "OldBronze$Reader" "place" "I",
  .methodLink RX3 45 yX4_has,
  .methodLink RX3 49 yX4_at,
  .code yX3_levelOf cX3_levelOf 1 (some .int),
  .code yX3_isDigit cX3_isDigit 1 (some .boolean),
  .methodLink RX3 56 yX3_peek,
  .instanceMethod yX3_peek,
  .selects RX3 yX3_peek yX3_peek,
  .initialized RX3,
  .methodLink RX3 67 yX3_isDigit,
  .static yX3_isDigit]
def tCa9 : List Cond := [
  .methodLink RX3 63 yX4_append,
  .code yX3_readNumber cX3_readNumber 3 none,
  .code yX3_nameOf cX3_nameOf 4 (some .int),
  .fieldLink RX3 30 "OldBronze$Reader" "use" "I",
  .methodLink RX3 53 yX3_readValue,
  .instanceMethod yX3_readValue,
  .selects RX3 yX3_readValue yX3_readValue,
  .methodLink RX3 37 yX3_readLevel,
  .instanceMethod yX3_readLevel,
  .selects RX3 yX3_readLevel yX3_readLevel,
  .methodLink RX3 59 yX3_levelOf,
  .static yX3_levelOf,
  .code yX3_readOpened cX3_readOpened 3 (some .boolean),
  .code yX3_readValue cX3_readValue 4 (some .boolean),
  .methodLink RX3 70 yX3_readNumber,
  .instanceMethod yX3_readNumber,
  .selects RX3 yX3_readNumber yX3_readNumber,
  .methodLink RX3 73 yX3_readOpened,
  .instanceMethod yX3_readOpened,
  .selects RX3 yX3_readOpened yX3_readOpened,
  .methodLink RX3 76 yX3_nameOf,
  .instanceMethod yX3_nameOf,
  .selects RX3 yX3_nameOf yX3_nameOf,
  .code yX3_readLevel cX3_readLevel 6 (some .boolean),
  .methodLink RX3 23 yX4_copyFrom,
  .methodLink RX3 27 yX4_clear,
  .methodLink RX3 41 yX4_size,
  .code yX3_read cX3_read 4 (some .int),
  .code yX3_writeTo cX3_writeTo 2 none,
  .code yX5_init cX5_init 1 none,
  .methodLink RX5 3 objectInit,
  .fieldLink RX5 9 "OldBronze$Sheet" "numbers" "[I"]
def tCa10 : List Cond := [
  .code yJ7_fill_53178 cJ7_fill_53178 4 none,
  .code yX5_begin cX5_begin 3 none,
  .fieldLink RX5 15 "OldBronze$Sheet" "bits" "I",
  .methodLink RX5 19 Lib.Math.min.name,
  .methodLink RX5 25 Lib.Math.max.name,
  .fieldLink RX5 28 "OldBronze$Sheet" "size" "I",
  .methodLink RX5 31 yJ7_fill_53178,
  .static yJ7_fill_53178,
  .initialized RJ7,
  .code yX5_isMissing cX5_isMissing 1 (some .boolean),
  .code yX5_isLike cX5_isLike 2 (some .boolean),
  .code yX5_size cX5_size 1 (some .int),
  .code yX5_has cX5_has 2 (some .boolean),
  .code yX5_hasRange cX5_hasRange 4 (some .boolean),
  .code yX5_at cX5_at 2 (some .int),
  .methodLink RX5 37 yX5_has,
  .instanceMethod yX5_has,
  .selects RX5 yX5_has yX5_has,
  .initialized RX5,
  .code yX5_write cX5_write 3 none,
  .code yX5_copyRange cX5_copyRange 5 none,
  .methodLink RX5 45 arraycopyName,
  .methodLink RX5 41 yX5_hasRange,
  .instanceMethod yX5_hasRange,
  .selects RX5 yX5_hasRange yX5_hasRange,
  .code yX6_init cX6_init 1 none,
  .methodLink RX6 3 objectInit,
  .classLink RX6 9 RX4,
  .fieldLink RX6 14 "OldBronze$Voices" "trace" "LOldBronze$Rows;",
  .methodLink RX6 11 yX4_init,
  .code yX6_begin cX6_begin 4 none,
  .fieldLink RX6 23 "OldBronze$Voices" "kind" "I"]
def tCa11 : List Cond := [
  .fieldLink RX6 27 "OldBronze$Voices" "k" "I",
  .fieldLink RX6 30 "OldBronze$Voices" "m" "I",
  .fieldLink RX6 33 "OldBronze$Voices" "isParted" "Z",
  .methodLink RX6 20 yX4_clear,
  .code yX6_trace cX6_trace 1 (some (.object "OldBronze$Rows")),
  .code yX6_isParted cX6_isParted 1 (some .boolean),
  .code yX6_bodyOf cX6_bodyOf 3 (some .int),
  .code yX8_above cX8_above 1 (some .int),
  .fieldLink RX8 301 "OldBronze" "ABOVE" "[I",
  .code yX6_part cX6_part 3 (some .int),
  .methodLink RX6 37 yX6_sound,
  .instanceMethod yX6_sound,
  .selects RX6 yX6_sound yX6_sound,
  .initialized RX6,
  .code yX6_sound cX6_sound 7 (some .int),
  .methodLink RX6 41 yX6_bodyOf,
  .static yX6_bodyOf,
  .static yX8_above,
  .methodLink RX6 49 yX4_append,
  .methodLink RX6 53 yX6_work,
  .instanceMethod yX6_work,
  .selects RX6 yX6_work yX6_work,
  .code yX6_work cX6_work 5 (some .int),
  .methodLink RX6 60 yX6_own,
  .instanceMethod yX6_own,
  .selects RX6 yX6_own yX6_own,
  .methodLink RX6 63 yX6_part,
  .instanceMethod yX6_part,
  .selects RX6 yX6_part yX6_part,
  .code yX6_own cX6_own 4 (some .int),
  .methodLink RX8 3 objectInit,
  .classLink RX8 9 RX1]
def tCa12 : List Cond := [
  .instantiable RX1 9,
  .fieldLink RX8 12 "OldBronze" "now" "LOldBronze$Forge;",
  .fieldLink RX8 16 "OldBronze" "kept" "LOldBronze$Forge;",
  .classLink RX8 19 RX0,
  .fieldLink RX8 22 "OldBronze" "ahead" "LOldBronze$Bronze;",
  .classLink RX8 26 RX2,
  .instantiable RX2 3,
  .fieldLink RX8 29 "OldBronze" "histories" "LOldBronze$Histories;",
  .classLink RX8 33 RX3,
  .instantiable RX3 4,
  .fieldLink RX8 36 "OldBronze" "reader" "LOldBronze$Reader;",
  .classLink RX8 40 RX6,
  .instantiable RX6 5,
  .fieldLink RX8 43 "OldBronze" "voices" "LOldBronze$Voices;",
  .classLink RX8 47 RX5,
  .fieldLink RX8 49 "OldBronze" "sheets" "[LOldBronze$Sheet;",
  .fieldLink RX8 53 "OldBronze" "refusals" "[I",
  .instantiable RX5 3,
  .instanceMethod yX1_init,
  .instanceMethod yX2_init,
  .instanceMethod yX3_init,
  .instanceMethod yX6_init,
  .instanceMethod yX5_init,
  .code yX8_init cX8_init 2 none,
  .code yX8_isKindAndM cX8_isKindAndM 1 (some .boolean),
  .methodLink RX8 63 yX8_within,
  .code yX8_refuse cX8_refuse 2 (some .int),
  .constant RX8 297 (-1000000000),
  .constant RX8 62 (9999999),
  .fieldLink RX8 71 "OldBronze$Forge" "bronze" "LOldBronze$Bronze;",
  .methodLink RX8 58 yX8_isKindAndM,
  .static yX8_isKindAndM]
def tCa13 : List Cond := [
  .methodLink RX8 67 yX8_refuse,
  .instanceMethod yX8_refuse,
  .selects RX8 yX8_refuse yX8_refuse,
  .methodLink RX8 74 yX0_room,
  .methodLink RX8 78 yX0_addFirst,
  .instanceMethod yX0_addFirst,
  .selects RX0 yX0_addFirst yX0_addFirst,
  .code yX8_thing cX8_thing 3 (some .int),
  .methodLink RX8 82 yX0_has,
  .instanceMethod yX0_has,
  .selects RX0 yX0_has yX0_has,
  .methodLink RX8 85 yX1_numberOf,
  .instanceMethod yX1_numberOf,
  .selects RX1 yX1_numberOf yX1_numberOf,
  .code yX8_thingIs cX8_thingIs 3 (some .int),
  .code yX8_isUnder cX8_isUnder 4 (some .boolean),
  .methodLink RX8 298 yX8_above,
  .methodLink RX8 89 yX0_number,
  .methodLink RX8 92 yX8_isUnder,
  .static yX8_isUnder,
  .code yX8_as cX8_as 3 (some .int),
  .methodLink RX8 96 yX0_mostSettable,
  .instanceMethod yX0_mostSettable,
  .selects RX0 yX0_mostSettable yX0_mostSettable,
  .methodLink RX8 99 yX0_become,
  .code yX8_set cX8_set 5 (some .int),
  .methodLink RX8 103 yX0_pour,
  .code yX8_melt cX8_melt 3 (some .int),
  .code yX8_crucible cX8_crucible 2 (some .int),
  .methodLink RX8 106 yX0_addTin,
  .instanceMethod yX0_addTin,
  .selects RX0 yX0_addTin yX0_addTin]
def tCa14 : List Cond := [
  .methodLink RX8 110 yX0_lose,
  .methodLink RX8 113 yX0_addCast,
  .instanceMethod yX0_addCast,
  .selects RX0 yX0_addCast yX0_addCast,
  .code yX8_cast cX8_cast 6 (some .int),
  .methodLink RX8 116 yX0_yearsSoFar,
  .instanceMethod yX0_yearsSoFar,
  .selects RX0 yX0_yearsSoFar yX0_yearsSoFar,
  .methodLink RX8 119 yX0_passYears,
  .instanceMethod yX0_passYears,
  .selects RX0 yX0_passYears yX0_passYears,
  .methodLink RX8 122 yX0_allGrams,
  .instanceMethod yX0_allGrams,
  .selects RX0 yX0_allGrams yX0_allGrams,
  .code yX8_years cX8_years 2 (some .int),
  .methodLink RX8 125 yX0_copyFrom,
  .code yX8_then cX8_then 4 (some .int),
  .code yX8_seed cX8_seed 2 (some .int),
  .methodLink RX8 129 yX0_reseed,
  .instanceMethod yX0_reseed,
  .selects RX0 yX0_reseed yX0_reseed,
  .fieldLink RX8 132 "OldBronze$Forge" "tape" "LOldBronze$Rows;",
  .methodLink RX8 136 yX4_room,
  .methodLink RX8 139 yX4_append,
  .methodLink RX8 143 yX4_size,
  .code yX8_feed cX8_feed 5 (some .int),
  .methodLink RX8 146 yX3_read,
  .instanceMethod yX3_read,
  .selects RX3 yX3_read yX3_read,
  .methodLink RX8 150 yX4_clear,
  .methodLink RX8 153 yX1_textOf,
  .instanceMethod yX1_textOf]
def tCa15 : List Cond := [
  .selects RX1 yX1_textOf yX1_textOf,
  .methodLink RX8 157 yX3_writeTo,
  .instanceMethod yX3_writeTo,
  .selects RX3 yX3_writeTo yX3_writeTo,
  .code yX8_text cX8_text 3 (some .int),
  .code yX8_untell cX8_untell 3 (some .int),
  .constant RX8 161 (99999),
  .fieldLink RX8 162 "OldBronze$Forge" "claims" "LOldBronze$Rows;",
  .code yX8_claim cX8_claim 3 (some .int),
  .methodLink RX8 165 yX4_has,
  .methodLink RX8 166 yX1_counted,
  .methodLink RX8 169 yX4_at,
  .code yX8_claimIs cX8_claimIs 3 (some .int),
  .methodLink RX8 172 yX1_shareOf,
  .code yX8_share cX8_share 3 (some .int),
  .methodLink RX8 175 yX1_leftOf,
  .instanceMethod yX1_leftOf,
  .selects RX1 yX1_leftOf yX1_leftOf,
  .code yX8_left cX8_left 3 (some .int),
  .code yX8_isPaper cX8_isPaper 4 (some .boolean),
  .fieldLink RX8 181 "OldBronze$Forge" "lostPapers" "LOldBronze$Rows;",
  .methodLink RX8 178 yX8_isPaper,
  .instanceMethod yX8_isPaper,
  .selects RX8 yX8_isPaper yX8_isPaper,
  .code yX8_paper cX8_paper 4 (some .int),
  .fieldLink RX8 184 "OldBronze$Forge" "weighings" "LOldBronze$Rows;",
  .code yX8_weigh cX8_weigh 4 (some .int),
  .code yX8_forget cX8_forget 4 (some .int),
  .code yX8_allPapers cX8_allPapers 1 (some .int),
  .code yX8_isHistory cX8_isHistory 2 (some .boolean),
  .methodLink RX8 201 yX8_allPapers,
  .instanceMethod yX8_allPapers]
def tCa16 : List Cond := [
  .selects RX8 yX8_allPapers yX8_allPapers,
  .methodLink RX8 187 yX8_isHistory,
  .instanceMethod yX8_isHistory,
  .selects RX8 yX8_isHistory yX8_isHistory,
  .methodLink RX8 190 yX2_follow,
  .methodLink RX8 194 yX2_numberBehind,
  .instanceMethod yX2_numberBehind,
  .selects RX2 yX2_numberBehind yX2_numberBehind,
  .code yX8_by cX8_by 4 (some .int),
  .methodLink RX8 197 yX2_find,
  .instanceMethod yX2_find,
  .selects RX2 yX2_find yX2_find,
  .methodLink RX8 204 yX2_size,
  .instanceMethod yX2_size,
  .selects RX2 yX2_size yX2_size,
  .methodLink RX8 205 yX2_fitting,
  .methodLink RX8 208 yX2_inAll,
  .instanceMethod yX2_inAll,
  .selects RX2 yX2_inAll yX2_inAll,
  .methodLink RX8 211 yX2_inAny,
  .instanceMethod yX2_inAny,
  .selects RX2 yX2_inAny yX2_inAny,
  .methodLink RX8 214 yX2_mostPapers,
  .instanceMethod yX2_mostPapers,
  .selects RX2 yX2_mostPapers yX2_mostPapers,
  .code yX8_fits cX8_fits 3 (some .int),
  .methodLink RX8 217 yX2_outermost,
  .instanceMethod yX2_outermost,
  .selects RX2 yX2_outermost yX2_outermost,
  .code yX8_span cX8_span 4 (some .int),
  .methodLink RX8 221 yX0_size,
  .instanceMethod yX0_size]
def tCa17 : List Cond := [
  .selects RX0 yX0_size yX0_size,
  .methodLink RX8 222 yX2_bestParted,
  .instanceMethod yX2_bestParted,
  .selects RX2 yX2_bestParted yX2_bestParted,
  .code yX8_next cX8_next 1 (some .int),
  .methodLink RX8 231 Lib.Math.max.name,
  .methodLink RX8 225 yX0_mostOf,
  .instanceMethod yX0_mostOf,
  .selects RX0 yX0_mostOf yX0_mostOf,
  .methodLink RX8 228 yX0_together,
  .code yX8_most cX8_most 5 (some .int),
  .methodLink RX8 236 yX6_begin,
  .instanceMethod yX6_begin,
  .selects RX6 yX6_begin yX6_begin,
  .methodLink RX8 242 yX6_isParted,
  .instanceMethod yX6_isParted,
  .selects RX6 yX6_isParted yX6_isParted,
  .code yX8_voice cX8_voice 5 (some .int),
  .methodLink RX8 246 yX6_trace,
  .instanceMethod yX6_trace,
  .selects RX6 yX6_trace yX6_trace,
  .code yX8_body cX8_body 2 (some .int),
  .code yX8_sheetAt cX8_sheetAt 2 (some (.object "OldBronze$Sheet")),
  .methodLink RX8 250 yX8_sheetAt,
  .instanceMethod yX8_sheetAt,
  .selects RX8 yX8_sheetAt yX8_sheetAt,
  .methodLink RX8 254 yX5_begin,
  .instanceMethod yX5_begin,
  .selects RX5 yX5_begin yX5_begin,
  .code yX8_sheet cX8_sheet 5 (some .int),
  .methodLink RX8 257 yX5_isMissing,
  .instanceMethod yX5_isMissing]
def tCa18 : List Cond := [
  .selects RX5 yX5_isMissing yX5_isMissing,
  .methodLink RX8 260 yX5_has,
  .methodLink RX8 261 yX5_write,
  .instanceMethod yX5_write,
  .selects RX5 yX5_write yX5_write,
  .code yX8_put cX8_put 5 (some .int),
  .methodLink RX8 264 yX5_isLike,
  .instanceMethod yX5_isLike,
  .selects RX5 yX5_isLike yX5_isLike,
  .methodLink RX8 268 yX5_hasRange,
  .methodLink RX8 271 yX5_copyRange,
  .instanceMethod yX5_copyRange,
  .selects RX5 yX5_copyRange yX5_copyRange,
  .code yX8_move cX8_move 8 (some .int),
  .methodLink RX8 275 yX5_size,
  .instanceMethod yX5_size,
  .selects RX5 yX5_size yX5_size,
  .methodLink RX8 276 yX5_at,
  .instanceMethod yX5_at,
  .selects RX5 yX5_at yX5_at,
  .code yX8_papers cX8_papers 5 (some .int),
  .code yX8_judge cX8_judge 6 (some .int),
  .fieldLink RX8 280 "OldBronze" "images" "I",
  .methodLink RX8 278 yX1_copyFrom,
  .instanceMethod yX1_copyFrom,
  .selects RX1 yX1_copyFrom yX1_copyFrom,
  .code yX8_image cX8_image 1 (some .int),
  .code yX8_restore cX8_restore 1 (some .int),
  .fieldLink RX8 284 "OldBronze$Forge" "waiting" "LOldBronze$Rows;",
  .code yX8_tell cX8_tell 2 (some .int),
  .methodLink RX8 287 yX2_firstUnlike,
  .instanceMethod yX2_firstUnlike]
def tCa19 : List Cond := [
  .selects RX2 yX2_firstUnlike yX2_firstUnlike,
  .code yX8_check cX8_check 2 (some .int),
  .methodLink RX8 291 yX0_firstsThatCount,
  .instanceMethod yX0_firstsThatCount,
  .selects RX0 yX0_firstsThatCount yX0_firstsThatCount,
  .methodLink RX8 294 yX0_lastDraw,
  .instanceMethod yX0_lastDraw,
  .selects RX0 yX0_lastDraw yX0_lastDraw,
  .code yX8_count cX8_count 2 (some .int),
  .code yX8_told cX8_told 2 (some .int)]
def tCa : List Cond := tCa0 ++ (tCa1 ++ (tCa2 ++ (tCa3 ++ (tCa4 ++ (tCa5 ++ (tCa6 ++ (tCa7 ++ (tCa8 ++ (tCa9 ++ (tCa10 ++ (tCa11 ++ (tCa12 ++ (tCa13 ++ (tCa14 ++ (tCa15 ++ (tCa16 ++ (tCa17 ++ (tCa18 ++ (tCa19)))))))))))))))))))
def tC : List Cond := tCa ++ (wsX00 ++ (wsX10 ++ (wsX20 ++ (wsX30 ++ (wsX40 ++ (wsX50 ++ (wsX60 ++ (wsX70 ++ (wsX80)))))))))
theorem pc_0 : ∀ w ∈ tCa0, w ∈ tC := fun _ h => List.mem_append_left _ (List.mem_append_left _ h)
theorem pc_1 : ∀ w ∈ tCa1, w ∈ tC := fun _ h => List.mem_append_left _ (List.mem_append_right _ (List.mem_append_left _ h))
theorem pc_2 : ∀ w ∈ tCa2, w ∈ tC := fun _ h => List.mem_append_left _ (List.mem_append_right _ (List.mem_append_right _ (List.mem_append_left _ h)))
theorem pc_3 : ∀ w ∈ tCa3, w ∈ tC := fun _ h => List.mem_append_left _ (List.mem_append_right _ (List.mem_append_right _ (List.mem_append_right _ (List.mem_append_left _ h))))
theorem pc_4 : ∀ w ∈ tCa4, w ∈ tC := fun _ h => List.mem_append_left _ (List.mem_append_right _ (List.mem_append_right _ (List.mem_append_right _ (List.mem_append_right _ (List.mem_append_left _ h)))))
theorem pc_5 : ∀ w ∈ tCa5, w ∈ tC := fun _ h => List.mem_append_left _ (List.mem_append_right _ (List.mem_append_right _ (List.mem_append_right _ (List.mem_append_right _ (List.mem_append_right _ (List.mem_append_left _ h))))))
theorem pc_6 : ∀ w ∈ tCa6, w ∈ tC := fun _ h => List.mem_append_left _ (List.mem_append_right _ (List.mem_append_right _ (List.mem_append_right _ (List.mem_append_right _ (List.mem_append_right _ (List.mem_append_right _ (List.mem_append_left _ h)))))))
theorem pc_7 : ∀ w ∈ tCa7, w ∈ tC := fun _ h => List.mem_append_left _ (List.mem_append_right _ (List.mem_append_right _ (List.mem_append_right _ (List.mem_append_right _ (List.mem_append_right _ (List.mem_append_right _ (List.mem_append_right _ (List.mem_append_left _ h))))))))
theorem pc_8 : ∀ w ∈ tCa8, w ∈ tC := fun _ h => List.mem_append_left _ (List.mem_append_right _ (List.mem_append_right _ (List.mem_append_right _ (List.mem_append_right _ (List.mem_append_right _ (List.mem_append_right _ (List.mem_append_right _ (List.mem_append_right _ (List.mem_append_left _ h)))))))))
theorem pc_9 : ∀ w ∈ tCa9, w ∈ tC := fun _ h => List.mem_append_left _ (List.mem_append_right _ (List.mem_append_right _ (List.mem_append_right _ (List.mem_append_right _ (List.mem_append_right _ (List.mem_append_right _ (List.mem_append_right _ (List.mem_append_right _ (List.mem_append_right _ (List.mem_append_left _ h))))))))))
theorem pc_10 : ∀ w ∈ tCa10, w ∈ tC := fun _ h => List.mem_append_left _ (List.mem_append_right _ (List.mem_append_right _ (List.mem_append_right _ (List.mem_append_right _ (List.mem_append_right _ (List.mem_append_right _ (List.mem_append_right _ (List.mem_append_right _ (List.mem_append_right _ (List.mem_append_right _ (List.mem_append_left _ h)))))))))))
theorem pc_11 : ∀ w ∈ tCa11, w ∈ tC := fun _ h => List.mem_append_left _ (List.mem_append_right _ (List.mem_append_right _ (List.mem_append_right _ (List.mem_append_right _ (List.mem_append_right _ (List.mem_append_right _ (List.mem_append_right _ (List.mem_append_right _ (List.mem_append_right _ (List.mem_append_right _ (List.mem_append_right _ (List.mem_append_left _ h))))))))))))
theorem pc_12 : ∀ w ∈ tCa12, w ∈ tC := fun _ h => List.mem_append_left _ (List.mem_append_right _ (List.mem_append_right _ (List.mem_append_right _ (List.mem_append_right _ (List.mem_append_right _ (List.mem_append_right _ (List.mem_append_right _ (List.mem_append_right _ (List.mem_append_right _ (List.mem_append_right _ (List.mem_append_right _ (List.mem_append_right _ (List.mem_append_left _ h)))))))))))))
theorem pc_13 : ∀ w ∈ tCa13, w ∈ tC := fun _ h => List.mem_append_left _ (List.mem_append_right _ (List.mem_append_right _ (List.mem_append_right _ (List.mem_append_right _ (List.mem_append_right _ (List.mem_append_right _ (List.mem_append_right _ (List.mem_append_right _ (List.mem_append_right _ (List.mem_append_right _ (List.mem_append_right _ (List.mem_append_right _ (List.mem_append_right _ (List.mem_append_left _ h))))))))))))))
theorem pc_14 : ∀ w ∈ tCa14, w ∈ tC := fun _ h => List.mem_append_left _ (List.mem_append_right _ (List.mem_append_right _ (List.mem_append_right _ (List.mem_append_right _ (List.mem_append_right _ (List.mem_append_right _ (List.mem_append_right _ (List.mem_append_right _ (List.mem_append_right _ (List.mem_append_right _ (List.mem_append_right _ (List.mem_append_right _ (List.mem_append_right _ (List.mem_append_right _ (List.mem_append_left _ h)))))))))))))))
theorem pc_15 : ∀ w ∈ tCa15, w ∈ tC := fun _ h => List.mem_append_left _ (List.mem_append_right _ (List.mem_append_right _ (List.mem_append_right _ (List.mem_append_right _ (List.mem_append_right _ (List.mem_append_right _ (List.mem_append_right _ (List.mem_append_right _ (List.mem_append_right _ (List.mem_append_right _ (List.mem_append_right _ (List.mem_append_right _ (List.mem_append_right _ (List.mem_append_right _ (List.mem_append_right _ (List.mem_append_left _ h))))))))))))))))
theorem pc_16 : ∀ w ∈ tCa16, w ∈ tC := fun _ h => List.mem_append_left _ (List.mem_append_right _ (List.mem_append_right _ (List.mem_append_right _ (List.mem_append_right _ (List.mem_append_right _ (List.mem_append_right _ (List.mem_append_right _ (List.mem_append_right _ (List.mem_append_right _ (List.mem_append_right _ (List.mem_append_right _ (List.mem_append_right _ (List.mem_append_right _ (List.mem_append_right _ (List.mem_append_right _ (List.mem_append_right _ (List.mem_append_left _ h)))))))))))))))))
theorem pc_17 : ∀ w ∈ tCa17, w ∈ tC := fun _ h => List.mem_append_left _ (List.mem_append_right _ (List.mem_append_right _ (List.mem_append_right _ (List.mem_append_right _ (List.mem_append_right _ (List.mem_append_right _ (List.mem_append_right _ (List.mem_append_right _ (List.mem_append_right _ (List.mem_append_right _ (List.mem_append_right _ (List.mem_append_right _ (List.mem_append_right _ (List.mem_append_right _ (List.mem_append_right _ (List.mem_append_right _ (List.mem_append_right _ (List.mem_append_left _ h))))))))))))))))))
theorem pc_18 : ∀ w ∈ tCa18, w ∈ tC := fun _ h => List.mem_append_left _ (List.mem_append_right _ (List.mem_append_right _ (List.mem_append_right _ (List.mem_append_right _ (List.mem_append_right _ (List.mem_append_right _ (List.mem_append_right _ (List.mem_append_right _ (List.mem_append_right _ (List.mem_append_right _ (List.mem_append_right _ (List.mem_append_right _ (List.mem_append_right _ (List.mem_append_right _ (List.mem_append_right _ (List.mem_append_right _ (List.mem_append_right _ (List.mem_append_right _ (List.mem_append_left _ h)))))))))))))))))))
theorem pc_19 : ∀ w ∈ tCa19, w ∈ tC := fun _ h => List.mem_append_left _ (List.mem_append_right _ (List.mem_append_right _ (List.mem_append_right _ (List.mem_append_right _ (List.mem_append_right _ (List.mem_append_right _ (List.mem_append_right _ (List.mem_append_right _ (List.mem_append_right _ (List.mem_append_right _ (List.mem_append_right _ (List.mem_append_right _ (List.mem_append_right _ (List.mem_append_right _ (List.mem_append_right _ (List.mem_append_right _ (List.mem_append_right _ (List.mem_append_right _ (List.mem_append_right _ (h))))))))))))))))))))
theorem tC_good : ∀ w ∈ tC, goodWord w = true := List.all_eq_true.mp (by decide +kernel)
theorem inX0 : ∀ w ∈ wsX00, w ∈ tC := fun _ h => List.mem_append_right _ (List.mem_append_left _ h)
theorem inX1 : ∀ w ∈ wsX10, w ∈ tC := fun _ h => List.mem_append_right _ (List.mem_append_right _ (List.mem_append_left _ h))
theorem inX2 : ∀ w ∈ wsX20, w ∈ tC := fun _ h => List.mem_append_right _ (List.mem_append_right _ (List.mem_append_right _ (List.mem_append_left _ h)))
theorem inX3 : ∀ w ∈ wsX30, w ∈ tC := fun _ h => List.mem_append_right _ (List.mem_append_right _ (List.mem_append_right _ (List.mem_append_right _ (List.mem_append_left _ h))))
theorem inX4 : ∀ w ∈ wsX40, w ∈ tC := fun _ h => List.mem_append_right _ (List.mem_append_right _ (List.mem_append_right _ (List.mem_append_right _ (List.mem_append_right _ (List.mem_append_left _ h)))))
theorem inX5 : ∀ w ∈ wsX50, w ∈ tC := fun _ h => List.mem_append_right _ (List.mem_append_right _ (List.mem_append_right _ (List.mem_append_right _ (List.mem_append_right _ (List.mem_append_right _ (List.mem_append_left _ h))))))
theorem inX6 : ∀ w ∈ wsX60, w ∈ tC := fun _ h => List.mem_append_right _ (List.mem_append_right _ (List.mem_append_right _ (List.mem_append_right _ (List.mem_append_right _ (List.mem_append_right _ (List.mem_append_right _ (List.mem_append_left _ h)))))))
theorem inX7 : ∀ w ∈ wsX70, w ∈ tC := fun _ h => List.mem_append_right _ (List.mem_append_right _ (List.mem_append_right _ (List.mem_append_right _ (List.mem_append_right _ (List.mem_append_right _ (List.mem_append_right _ (List.mem_append_right _ (List.mem_append_left _ h))))))))
theorem inX8 : ∀ w ∈ wsX80, w ∈ tC := fun _ h => List.mem_append_right _ (List.mem_append_right _ (List.mem_append_right _ (List.mem_append_right _ (List.mem_append_right _ (List.mem_append_right _ (List.mem_append_right _ (List.mem_append_right _ (List.mem_append_right _ (h)))))))))
set_option maxRecDepth 100000 in
theorem wc_0 : Cond.code yX0_init cX0_init 1 none ∈ tC := pc_0 _ (List.mem_of_getElem? (l := tCa0) (i := 0) rfl)
set_option maxRecDepth 100000 in
theorem wc_1 : Cond.methodLink RX0 3 objectInit ∈ tC := pc_0 _ (List.mem_of_getElem? (l := tCa0) (i := 1) rfl)
set_option maxRecDepth 100000 in
theorem wc_2 : Cond.instanceMethod objectInit ∈ tC := pc_0 _ (List.mem_of_getElem? (l := tCa0) (i := 2) rfl)
set_option maxRecDepth 100000 in
theorem wc_3 : Cond.code objectInit ⟨#[0xb1]⟩ 1 none ∈ tC := pc_0 _ (List.mem_of_getElem? (l := tCa0) (i := 3) rfl)
set_option maxRecDepth 100000 in
theorem wc_4 : Cond.arrayClass .int ∈ tC := pc_0 _ (List.mem_of_getElem? (l := tCa0) (i := 4) rfl)
set_option maxRecDepth 100000 in
theorem wc_5 : Cond.fieldLink RX0 9 "OldBronze$Bronze" "cells" "[I" ∈ tC := pc_0 _ (List.mem_of_getElem? (l := tCa0) (i := 5) rfl)
set_option maxRecDepth 100000 in
theorem wc_6 : Cond.fieldLink RX0 15 "OldBronze$Bronze" "z" "I" ∈ tC := pc_0 _ (List.mem_of_getElem? (l := tCa0) (i := 6) rfl)
set_option maxRecDepth 100000 in
theorem wc_7 : Cond.code yX0_size cX0_size 1 (some .int) ∈ tC := pc_0 _ (List.mem_of_getElem? (l := tCa0) (i := 7) rfl)
set_option maxRecDepth 100000 in
theorem wc_8 : Cond.fieldLink RX0 19 "OldBronze$Bronze" "size" "I" ∈ tC := pc_0 _ (List.mem_of_getElem? (l := tCa0) (i := 8) rfl)
set_option maxRecDepth 100000 in
theorem wc_9 : Cond.code yX0_room cX0_room 1 (some .int) ∈ tC := pc_0 _ (List.mem_of_getElem? (l := tCa0) (i := 9) rfl)
set_option maxRecDepth 100000 in
theorem wc_10 : Cond.code yX0_has cX0_has 2 (some .boolean) ∈ tC := pc_0 _ (List.mem_of_getElem? (l := tCa0) (i := 10) rfl)
set_option maxRecDepth 100000 in
theorem wc_11 : Cond.code yX0_firstsThatCount cX0_firstsThatCount 1 (some .int) ∈ tC := pc_0 _ (List.mem_of_getElem? (l := tCa0) (i := 11) rfl)
set_option maxRecDepth 100000 in
theorem wc_12 : Cond.fieldLink RX0 22 "OldBronze$Bronze" "firsts" "I" ∈ tC := pc_0 _ (List.mem_of_getElem? (l := tCa0) (i := 12) rfl)
set_option maxRecDepth 100000 in
theorem wc_13 : Cond.code yX0_yearsSoFar cX0_yearsSoFar 1 (some .int) ∈ tC := pc_0 _ (List.mem_of_getElem? (l := tCa0) (i := 13) rfl)
set_option maxRecDepth 100000 in
theorem wc_14 : Cond.fieldLink RX0 25 "OldBronze$Bronze" "years" "I" ∈ tC := pc_0 _ (List.mem_of_getElem? (l := tCa0) (i := 14) rfl)
set_option maxRecDepth 100000 in
theorem wc_15 : Cond.code yX0_lastDraw cX0_lastDraw 1 (some .int) ∈ tC := pc_0 _ (List.mem_of_getElem? (l := tCa0) (i := 15) rfl)
set_option maxRecDepth 100000 in
theorem wc_16 : Cond.code yX0_reseed cX0_reseed 3 (some .int) ∈ tC := pc_0 _ (List.mem_of_getElem? (l := tCa0) (i := 16) rfl)
set_option maxRecDepth 100000 in
theorem wc_17 : Cond.code yX0_placeOf cX0_placeOf 3 (some .int) ∈ tC := pc_0 _ (List.mem_of_getElem? (l := tCa0) (i := 17) rfl)
set_option maxRecDepth 100000 in
theorem wc_18 : Cond.code yX0_number cX0_number 4 (some .int) ∈ tC := pc_0 _ (List.mem_of_getElem? (l := tCa0) (i := 18) rfl)
set_option maxRecDepth 100000 in
theorem wc_19 : Cond.methodLink RX0 28 yX0_placeOf ∈ tC := pc_0 _ (List.mem_of_getElem? (l := tCa0) (i := 19) rfl)
set_option maxRecDepth 100000 in
theorem wc_20 : Cond.static yX0_placeOf ∈ tC := pc_0 _ (List.mem_of_getElem? (l := tCa0) (i := 20) rfl)
set_option maxRecDepth 100000 in
theorem wc_21 : Cond.initialized RX0 ∈ tC := pc_0 _ (List.mem_of_getElem? (l := tCa0) (i := 21) rfl)
set_option maxRecDepth 100000 in
theorem wc_22 : Cond.code yX0_become cX0_become 5 none ∈ tC := pc_0 _ (List.mem_of_getElem? (l := tCa0) (i := 22) rfl)
set_option maxRecDepth 100000 in
theorem wc_23 : Cond.code yX8_within cX8_within 3 (some .boolean) ∈ tC := pc_0 _ (List.mem_of_getElem? (l := tCa0) (i := 23) rfl)
set_option maxRecDepth 100000 in
theorem wc_24 : Cond.code yX0_mostSettable cX0_mostSettable 3 (some .int) ∈ tC := pc_0 _ (List.mem_of_getElem? (l := tCa0) (i := 24) rfl)
set_option maxRecDepth 100000 in
theorem wc_25 : Cond.static yX8_within ∈ tC := pc_0 _ (List.mem_of_getElem? (l := tCa0) (i := 25) rfl)
set_option maxRecDepth 100000 in
theorem wc_26 : Cond.initialized RX8 ∈ tC := pc_0 _ (List.mem_of_getElem? (l := tCa0) (i := 26) rfl)
set_option maxRecDepth 100000 in
theorem wc_27 : Cond.methodLink RX0 36 yX0_number ∈ tC := pc_0 _ (List.mem_of_getElem? (l := tCa0) (i := 27) rfl)
set_option maxRecDepth 100000 in
theorem wc_28 : Cond.instanceMethod yX0_number ∈ tC := pc_0 _ (List.mem_of_getElem? (l := tCa0) (i := 28) rfl)
set_option maxRecDepth 100000 in
theorem wc_29 : Cond.selects RX0 yX0_number yX0_number ∈ tC := pc_0 _ (List.mem_of_getElem? (l := tCa0) (i := 29) rfl)
set_option maxRecDepth 100000 in
theorem wc_30 : Cond.code yX0_allGrams cX0_allGrams 3 (some .int) ∈ tC := pc_0 _ (List.mem_of_getElem? (l := tCa0) (i := 30) rfl)
set_option maxRecDepth 100000 in
theorem wc_31 : Cond.code yX0_copyFrom cX0_copyFrom 2 none ∈ tC := pc_0 _ (List.mem_of_getElem? (l := tCa0) (i := 31) rfl)
set_option maxRecDepth 100000 in
theorem wc_32 : Cond.methodLink RX0 39 arraycopyName ∈ tC := pc_1 _ (List.mem_of_getElem? (l := tCa1) (i := 0) rfl)
set_option maxRecDepth 100000 in
theorem wc_33 : Cond.native arraycopyName ∈ tC := pc_1 _ (List.mem_of_getElem? (l := tCa1) (i := 1) rfl)
set_option maxRecDepth 100000 in
theorem wc_34 : Cond.static arraycopyName ∈ tC := pc_1 _ (List.mem_of_getElem? (l := tCa1) (i := 2) rfl)
set_option maxRecDepth 100000 in
theorem wc_35 : Cond.initialized "java/lang/System" ∈ tC := pc_1 _ (List.mem_of_getElem? (l := tCa1) (i := 3) rfl)
set_option maxRecDepth 100000 in
theorem wc_36 : Cond.code yX0_fill cX0_fill 4 none ∈ tC := pc_1 _ (List.mem_of_getElem? (l := tCa1) (i := 4) rfl)
set_option maxRecDepth 100000 in
theorem wc_37 : Cond.methodLink RX0 53 yX0_become ∈ tC := pc_1 _ (List.mem_of_getElem? (l := tCa1) (i := 5) rfl)
set_option maxRecDepth 100000 in
theorem wc_38 : Cond.instanceMethod yX0_become ∈ tC := pc_1 _ (List.mem_of_getElem? (l := tCa1) (i := 6) rfl)
set_option maxRecDepth 100000 in
theorem wc_39 : Cond.selects RX0 yX0_become yX0_become ∈ tC := pc_1 _ (List.mem_of_getElem? (l := tCa1) (i := 7) rfl)
set_option maxRecDepth 100000 in
theorem wc_40 : Cond.code yX0_add cX0_add 3 (some .int) ∈ tC := pc_1 _ (List.mem_of_getElem? (l := tCa1) (i := 8) rfl)
set_option maxRecDepth 100000 in
theorem wc_41 : Cond.methodLink RX0 45 yX0_room ∈ tC := pc_1 _ (List.mem_of_getElem? (l := tCa1) (i := 9) rfl)
set_option maxRecDepth 100000 in
theorem wc_42 : Cond.instanceMethod yX0_room ∈ tC := pc_1 _ (List.mem_of_getElem? (l := tCa1) (i := 10) rfl)
set_option maxRecDepth 100000 in
theorem wc_43 : Cond.selects RX0 yX0_room yX0_room ∈ tC := pc_1 _ (List.mem_of_getElem? (l := tCa1) (i := 11) rfl)
set_option maxRecDepth 100000 in
theorem wc_44 : Cond.methodLink RX0 49 yX0_fill ∈ tC := pc_1 _ (List.mem_of_getElem? (l := tCa1) (i := 12) rfl)
set_option maxRecDepth 100000 in
theorem wc_45 : Cond.instanceMethod yX0_fill ∈ tC := pc_1 _ (List.mem_of_getElem? (l := tCa1) (i := 13) rfl)
set_option maxRecDepth 100000 in
theorem wc_46 : Cond.selects RX0 yX0_fill yX0_fill ∈ tC := pc_1 _ (List.mem_of_getElem? (l := tCa1) (i := 14) rfl)
set_option maxRecDepth 100000 in
theorem wc_47 : Cond.code yX0_addFirst cX0_addFirst 4 (some .int) ∈ tC := pc_1 _ (List.mem_of_getElem? (l := tCa1) (i := 15) rfl)
set_option maxRecDepth 100000 in
theorem wc_48 : Cond.constant RX0 61 (1000000) ∈ tC := pc_1 _ (List.mem_of_getElem? (l := tCa1) (i := 16) rfl)
set_option maxRecDepth 100000 in
theorem wc_49 : Cond.methodLink RX0 57 yX0_add ∈ tC := pc_1 _ (List.mem_of_getElem? (l := tCa1) (i := 17) rfl)
set_option maxRecDepth 100000 in
theorem wc_50 : Cond.instanceMethod yX0_add ∈ tC := pc_1 _ (List.mem_of_getElem? (l := tCa1) (i := 18) rfl)
set_option maxRecDepth 100000 in
theorem wc_51 : Cond.selects RX0 yX0_add yX0_add ∈ tC := pc_1 _ (List.mem_of_getElem? (l := tCa1) (i := 19) rfl)
set_option maxRecDepth 100000 in
theorem wc_52 : Cond.code yX8_quotient cX8_quotient 4 (some .int) ∈ tC := pc_1 _ (List.mem_of_getElem? (l := tCa1) (i := 20) rfl)
set_option maxRecDepth 100000 in
theorem wc_53 : Cond.code yX0_partOf cX0_partOf 5 (some .int) ∈ tC := pc_1 _ (List.mem_of_getElem? (l := tCa1) (i := 21) rfl)
set_option maxRecDepth 100000 in
theorem wc_54 : Cond.static yX8_quotient ∈ tC := pc_1 _ (List.mem_of_getElem? (l := tCa1) (i := 22) rfl)
set_option maxRecDepth 100000 in
theorem wc_55 : Cond.code yX0_lose cX0_lose 5 none ∈ tC := pc_1 _ (List.mem_of_getElem? (l := tCa1) (i := 23) rfl)
set_option maxRecDepth 100000 in
theorem wc_56 : Cond.methodLink RX0 62 yX0_partOf ∈ tC := pc_1 _ (List.mem_of_getElem? (l := tCa1) (i := 24) rfl)
set_option maxRecDepth 100000 in
theorem wc_57 : Cond.instanceMethod yX0_partOf ∈ tC := pc_1 _ (List.mem_of_getElem? (l := tCa1) (i := 25) rfl)
set_option maxRecDepth 100000 in
theorem wc_58 : Cond.selects RX0 yX0_partOf yX0_partOf ∈ tC := pc_1 _ (List.mem_of_getElem? (l := tCa1) (i := 26) rfl)
set_option maxRecDepth 100000 in
theorem wc_59 : Cond.constant RX0 70 (9999999) ∈ tC := pc_1 _ (List.mem_of_getElem? (l := tCa1) (i := 27) rfl)
set_option maxRecDepth 100000 in
theorem wc_60 : Cond.methodLink RX0 71 Lib.Math.min.name ∈ tC := pc_1 _ (List.mem_of_getElem? (l := tCa1) (i := 28) rfl)
set_option maxRecDepth 100000 in
theorem wc_61 : Cond.static Lib.Math.min.name ∈ tC := pc_1 _ (List.mem_of_getElem? (l := tCa1) (i := 29) rfl)
set_option maxRecDepth 100000 in
theorem wc_62 : Cond.initialized "java/lang/Math" ∈ tC := pc_1 _ (List.mem_of_getElem? (l := tCa1) (i := 30) rfl)
set_option maxRecDepth 100000 in
theorem wc_63 : Cond.code Lib.Math.min.name Lib.Math.min.code 2 (some .int) ∈ tC := pc_1 _ (List.mem_of_getElem? (l := tCa1) (i := 31) rfl)
set_option maxRecDepth 100000 in
theorem wc_64 : Cond.methodLink RX0 76 yX0_lose ∈ tC := pc_2 _ (List.mem_of_getElem? (l := tCa2) (i := 0) rfl)
set_option maxRecDepth 100000 in
theorem wc_65 : Cond.instanceMethod yX0_lose ∈ tC := pc_2 _ (List.mem_of_getElem? (l := tCa2) (i := 1) rfl)
set_option maxRecDepth 100000 in
theorem wc_66 : Cond.selects RX0 yX0_lose yX0_lose ∈ tC := pc_2 _ (List.mem_of_getElem? (l := tCa2) (i := 2) rfl)
set_option maxRecDepth 100000 in
theorem wc_67 : Cond.code yX0_pour cX0_pour 11 none ∈ tC := pc_2 _ (List.mem_of_getElem? (l := tCa2) (i := 3) rfl)
set_option maxRecDepth 100000 in
theorem wc_68 : Cond.code yX0_addTin cX0_addTin 7 none ∈ tC := pc_2 _ (List.mem_of_getElem? (l := tCa2) (i := 4) rfl)
set_option maxRecDepth 100000 in
theorem wc_69 : Cond.code yX0_addCast cX0_addCast 9 (some .int) ∈ tC := pc_2 _ (List.mem_of_getElem? (l := tCa2) (i := 5) rfl)
set_option maxRecDepth 100000 in
theorem wc_70 : Cond.constant RX0 82 (1103515245) ∈ tC := pc_2 _ (List.mem_of_getElem? (l := tCa2) (i := 6) rfl)
set_option maxRecDepth 100000 in
theorem wc_71 : Cond.code yX0_passYear cX0_passYear 2 none ∈ tC := pc_2 _ (List.mem_of_getElem? (l := tCa2) (i := 7) rfl)
set_option maxRecDepth 100000 in
theorem wc_72 : Cond.methodLink RX0 79 yX0_passYear ∈ tC := pc_2 _ (List.mem_of_getElem? (l := tCa2) (i := 8) rfl)
set_option maxRecDepth 100000 in
theorem wc_73 : Cond.instanceMethod yX0_passYear ∈ tC := pc_2 _ (List.mem_of_getElem? (l := tCa2) (i := 9) rfl)
set_option maxRecDepth 100000 in
theorem wc_74 : Cond.selects RX0 yX0_passYear yX0_passYear ∈ tC := pc_2 _ (List.mem_of_getElem? (l := tCa2) (i := 10) rfl)
set_option maxRecDepth 100000 in
theorem wc_75 : Cond.code yX0_passYears cX0_passYears 3 none ∈ tC := pc_2 _ (List.mem_of_getElem? (l := tCa2) (i := 11) rfl)
set_option maxRecDepth 100000 in
theorem wc_76 : Cond.code yJ6_bitCount_0f7a4 cJ6_bitCount_0f7a4 1 (some .int) ∈ tC := pc_2 _ (List.mem_of_getElem? (l := tCa2) (i := 12) rfl)
set_option maxRecDepth 100000 in
theorem wc_77 : Cond.constant RJ6 265 (1431655765) ∈ tC := pc_2 _ (List.mem_of_getElem? (l := tCa2) (i := 13) rfl)
set_option maxRecDepth 100000 in
theorem wc_78 : Cond.constant RJ6 266 (858993459) ∈ tC := pc_2 _ (List.mem_of_getElem? (l := tCa2) (i := 14) rfl)
set_option maxRecDepth 100000 in
theorem wc_79 : Cond.constant RJ6 267 (252645135) ∈ tC := pc_2 _ (List.mem_of_getElem? (l := tCa2) (i := 15) rfl)
set_option maxRecDepth 100000 in
theorem wc_80 : Cond.code yX0_together cX0_together 9 (some .int) ∈ tC := pc_2 _ (List.mem_of_getElem? (l := tCa2) (i := 16) rfl)
set_option maxRecDepth 100000 in
theorem wc_81 : Cond.code yX0_mostOf cX0_mostOf 8 (some .int) ∈ tC := pc_2 _ (List.mem_of_getElem? (l := tCa2) (i := 17) rfl)
set_option maxRecDepth 100000 in
theorem wc_82 : Cond.methodLink RX0 83 yJ6_bitCount_0f7a4 ∈ tC := pc_2 _ (List.mem_of_getElem? (l := tCa2) (i := 18) rfl)
set_option maxRecDepth 100000 in
theorem wc_83 : Cond.static yJ6_bitCount_0f7a4 ∈ tC := pc_2 _ (List.mem_of_getElem? (l := tCa2) (i := 19) rfl)
set_option maxRecDepth 100000 in
theorem wc_84 : Cond.initialized RJ6 ∈ tC := pc_2 _ (List.mem_of_getElem? (l := tCa2) (i := 20) rfl)
set_option maxRecDepth 100000 in
theorem wc_85 : Cond.methodLink RX0 88 yX0_together ∈ tC := pc_2 _ (List.mem_of_getElem? (l := tCa2) (i := 21) rfl)
set_option maxRecDepth 100000 in
theorem wc_86 : Cond.instanceMethod yX0_together ∈ tC := pc_2 _ (List.mem_of_getElem? (l := tCa2) (i := 22) rfl)
set_option maxRecDepth 100000 in
theorem wc_87 : Cond.selects RX0 yX0_together yX0_together ∈ tC := pc_2 _ (List.mem_of_getElem? (l := tCa2) (i := 23) rfl)
set_option maxRecDepth 100000 in
theorem wc_88 : Cond.code yX4_init cX4_init 3 none ∈ tC := pc_2 _ (List.mem_of_getElem? (l := tCa2) (i := 24) rfl)
set_option maxRecDepth 100000 in
theorem wc_89 : Cond.methodLink RX4 1 objectInit ∈ tC := pc_2 _ (List.mem_of_getElem? (l := tCa2) (i := 25) rfl)
set_option maxRecDepth 100000 in
theorem wc_90 : Cond.methodLink RX4 7 Lib.Math.max.name ∈ tC := pc_2 _ (List.mem_of_getElem? (l := tCa2) (i := 26) rfl)
set_option maxRecDepth 100000 in
theorem wc_91 : Cond.static Lib.Math.max.name ∈ tC := pc_2 _ (List.mem_of_getElem? (l := tCa2) (i := 27) rfl)
set_option maxRecDepth 100000 in
theorem wc_92 : Cond.code Lib.Math.max.name Lib.Math.max.code 2 (some .int) ∈ tC := pc_2 _ (List.mem_of_getElem? (l := tCa2) (i := 28) rfl)
set_option maxRecDepth 100000 in
theorem wc_93 : Cond.fieldLink RX4 13 "OldBronze$Rows" "limit" "I" ∈ tC := pc_2 _ (List.mem_of_getElem? (l := tCa2) (i := 29) rfl)
set_option maxRecDepth 100000 in
theorem wc_94 : Cond.fieldLink RX4 19 "OldBronze$Rows" "width" "I" ∈ tC := pc_2 _ (List.mem_of_getElem? (l := tCa2) (i := 30) rfl)
set_option maxRecDepth 100000 in
theorem wc_95 : Cond.fieldLink RX4 22 "OldBronze$Rows" "cells" "[I" ∈ tC := pc_2 _ (List.mem_of_getElem? (l := tCa2) (i := 31) rfl)
set_option maxRecDepth 100000 in
theorem wc_96 : Cond.code yX7_init cX7_init 1 none ∈ tC := pc_3 _ (List.mem_of_getElem? (l := tCa3) (i := 0) rfl)
set_option maxRecDepth 100000 in
theorem wc_97 : Cond.methodLink RX7 3 objectInit ∈ tC := pc_3 _ (List.mem_of_getElem? (l := tCa3) (i := 1) rfl)
set_option maxRecDepth 100000 in
theorem wc_98 : Cond.fieldLink RX7 9 "OldBronze$Worker" "stack" "[I" ∈ tC := pc_3 _ (List.mem_of_getElem? (l := tCa3) (i := 2) rfl)
set_option maxRecDepth 100000 in
theorem wc_99 : Cond.methodLink RX1 3 objectInit ∈ tC := pc_3 _ (List.mem_of_getElem? (l := tCa3) (i := 3) rfl)
set_option maxRecDepth 100000 in
theorem wc_100 : Cond.classLink RX1 9 RX0 ∈ tC := pc_3 _ (List.mem_of_getElem? (l := tCa3) (i := 4) rfl)
set_option maxRecDepth 100000 in
theorem wc_101 : Cond.instantiable RX0 5 ∈ tC := pc_3 _ (List.mem_of_getElem? (l := tCa3) (i := 5) rfl)
set_option maxRecDepth 100000 in
theorem wc_102 : Cond.fieldLink RX1 12 "OldBronze$Forge" "bronze" "LOldBronze$Bronze;" ∈ tC := pc_3 _ (List.mem_of_getElem? (l := tCa3) (i := 6) rfl)
set_option maxRecDepth 100000 in
theorem wc_103 : Cond.classLink RX1 18 RX4 ∈ tC := pc_3 _ (List.mem_of_getElem? (l := tCa3) (i := 7) rfl)
set_option maxRecDepth 100000 in
theorem wc_104 : Cond.instantiable RX4 4 ∈ tC := pc_3 _ (List.mem_of_getElem? (l := tCa3) (i := 8) rfl)
set_option maxRecDepth 100000 in
theorem wc_105 : Cond.initialized RX4 ∈ tC := pc_3 _ (List.mem_of_getElem? (l := tCa3) (i := 9) rfl)
set_option maxRecDepth 100000 in
theorem wc_106 : Cond.fieldLink RX1 23 "OldBronze$Forge" "tape" "LOldBronze$Rows;" ∈ tC := pc_3 _ (List.mem_of_getElem? (l := tCa3) (i := 10) rfl)
set_option maxRecDepth 100000 in
theorem wc_107 : Cond.fieldLink RX1 27 "OldBronze$Forge" "claims" "LOldBronze$Rows;" ∈ tC := pc_3 _ (List.mem_of_getElem? (l := tCa3) (i := 11) rfl)
set_option maxRecDepth 100000 in
theorem wc_108 : Cond.fieldLink RX1 30 "OldBronze$Forge" "lostPapers" "LOldBronze$Rows;" ∈ tC := pc_3 _ (List.mem_of_getElem? (l := tCa3) (i := 12) rfl)
set_option maxRecDepth 100000 in
theorem wc_109 : Cond.fieldLink RX1 33 "OldBronze$Forge" "weighings" "LOldBronze$Rows;" ∈ tC := pc_3 _ (List.mem_of_getElem? (l := tCa3) (i := 13) rfl)
set_option maxRecDepth 100000 in
theorem wc_110 : Cond.fieldLink RX1 36 "OldBronze$Forge" "waiting" "LOldBronze$Rows;" ∈ tC := pc_3 _ (List.mem_of_getElem? (l := tCa3) (i := 14) rfl)
set_option maxRecDepth 100000 in
theorem wc_111 : Cond.fieldLink RX1 39 "OldBronze$Forge" "rings" "LOldBronze$Rows;" ∈ tC := pc_3 _ (List.mem_of_getElem? (l := tCa3) (i := 15) rfl)
set_option maxRecDepth 100000 in
theorem wc_112 : Cond.fieldLink RX1 42 "OldBronze$Forge" "counts" "LOldBronze$Rows;" ∈ tC := pc_3 _ (List.mem_of_getElem? (l := tCa3) (i := 16) rfl)
set_option maxRecDepth 100000 in
theorem wc_113 : Cond.classLink RX1 45 RX7 ∈ tC := pc_3 _ (List.mem_of_getElem? (l := tCa3) (i := 17) rfl)
set_option maxRecDepth 100000 in
theorem wc_114 : Cond.instantiable RX7 2 ∈ tC := pc_3 _ (List.mem_of_getElem? (l := tCa3) (i := 18) rfl)
set_option maxRecDepth 100000 in
theorem wc_115 : Cond.initialized RX7 ∈ tC := pc_3 _ (List.mem_of_getElem? (l := tCa3) (i := 19) rfl)
set_option maxRecDepth 100000 in
theorem wc_116 : Cond.fieldLink RX1 48 "OldBronze$Forge" "worker" "LOldBronze$Worker;" ∈ tC := pc_3 _ (List.mem_of_getElem? (l := tCa3) (i := 20) rfl)
set_option maxRecDepth 100000 in
theorem wc_117 : Cond.instanceMethod yX0_init ∈ tC := pc_3 _ (List.mem_of_getElem? (l := tCa3) (i := 21) rfl)
set_option maxRecDepth 100000 in
theorem wc_118 : Cond.methodLink RX1 20 yX4_init ∈ tC := pc_3 _ (List.mem_of_getElem? (l := tCa3) (i := 22) rfl)
set_option maxRecDepth 100000 in
theorem wc_119 : Cond.instanceMethod yX4_init ∈ tC := pc_3 _ (List.mem_of_getElem? (l := tCa3) (i := 23) rfl)
set_option maxRecDepth 100000 in
theorem wc_120 : Cond.instanceMethod yX7_init ∈ tC := pc_3 _ (List.mem_of_getElem? (l := tCa3) (i := 24) rfl)
set_option maxRecDepth 100000 in
theorem wc_121 : Cond.code yX1_init cX1_init 1 none ∈ tC := pc_3 _ (List.mem_of_getElem? (l := tCa3) (i := 25) rfl)
set_option maxRecDepth 100000 in
theorem wc_122 : Cond.code yX4_copyFrom cX4_copyFrom 2 none ∈ tC := pc_3 _ (List.mem_of_getElem? (l := tCa3) (i := 26) rfl)
set_option maxRecDepth 100000 in
theorem wc_123 : Cond.methodLink RX4 37 arraycopyName ∈ tC := pc_3 _ (List.mem_of_getElem? (l := tCa3) (i := 27) rfl)
set_option maxRecDepth 100000 in
theorem wc_124 : Cond.fieldLink RX4 26 "OldBronze$Rows" "size" "I" ∈ tC := pc_3 _ (List.mem_of_getElem? (l := tCa3) (i := 28) rfl)
set_option maxRecDepth 100000 in
theorem wc_125 : Cond.methodLink RX1 52 yX0_copyFrom ∈ tC := pc_3 _ (List.mem_of_getElem? (l := tCa3) (i := 29) rfl)
set_option maxRecDepth 100000 in
theorem wc_126 : Cond.instanceMethod yX0_copyFrom ∈ tC := pc_3 _ (List.mem_of_getElem? (l := tCa3) (i := 30) rfl)
set_option maxRecDepth 100000 in
theorem wc_127 : Cond.selects RX0 yX0_copyFrom yX0_copyFrom ∈ tC := pc_3 _ (List.mem_of_getElem? (l := tCa3) (i := 31) rfl)
set_option maxRecDepth 100000 in
theorem wc_128 : Cond.methodLink RX1 56 yX4_copyFrom ∈ tC := pc_4 _ (List.mem_of_getElem? (l := tCa4) (i := 0) rfl)
set_option maxRecDepth 100000 in
theorem wc_129 : Cond.instanceMethod yX4_copyFrom ∈ tC := pc_4 _ (List.mem_of_getElem? (l := tCa4) (i := 1) rfl)
set_option maxRecDepth 100000 in
theorem wc_130 : Cond.selects RX4 yX4_copyFrom yX4_copyFrom ∈ tC := pc_4 _ (List.mem_of_getElem? (l := tCa4) (i := 2) rfl)
set_option maxRecDepth 100000 in
theorem wc_131 : Cond.code yX1_copyFrom cX1_copyFrom 2 none ∈ tC := pc_4 _ (List.mem_of_getElem? (l := tCa4) (i := 3) rfl)
set_option maxRecDepth 100000 in
theorem wc_132 : Cond.code yX1_textOf cX1_textOf 2 (some (.object "OldBronze$Rows")) ∈ tC := pc_4 _ (List.mem_of_getElem? (l := tCa4) (i := 4) rfl)
set_option maxRecDepth 100000 in
theorem wc_133 : Cond.code yX4_size cX4_size 1 (some .int) ∈ tC := pc_4 _ (List.mem_of_getElem? (l := tCa4) (i := 5) rfl)
set_option maxRecDepth 100000 in
theorem wc_134 : Cond.code yX4_at cX4_at 5 (some .int) ∈ tC := pc_4 _ (List.mem_of_getElem? (l := tCa4) (i := 6) rfl)
set_option maxRecDepth 100000 in
theorem wc_135 : Cond.code yX7_push cX7_push 2 none ∈ tC := pc_4 _ (List.mem_of_getElem? (l := tCa4) (i := 7) rfl)
set_option maxRecDepth 100000 in
theorem wc_136 : Cond.fieldLink RX7 15 "OldBronze$Worker" "height" "I" ∈ tC := pc_4 _ (List.mem_of_getElem? (l := tCa4) (i := 8) rfl)
set_option maxRecDepth 100000 in
theorem wc_137 : Cond.code yX7_pop cX7_pop 1 (some .int) ∈ tC := pc_4 _ (List.mem_of_getElem? (l := tCa4) (i := 9) rfl)
set_option maxRecDepth 100000 in
theorem wc_138 : Cond.code yX7_joined cX7_joined 3 (some .int) ∈ tC := pc_4 _ (List.mem_of_getElem? (l := tCa4) (i := 10) rfl)
set_option maxRecDepth 100000 in
theorem wc_139 : Cond.methodLink RX7 19 yX4_size ∈ tC := pc_4 _ (List.mem_of_getElem? (l := tCa4) (i := 11) rfl)
set_option maxRecDepth 100000 in
theorem wc_140 : Cond.instanceMethod yX4_size ∈ tC := pc_4 _ (List.mem_of_getElem? (l := tCa4) (i := 12) rfl)
set_option maxRecDepth 100000 in
theorem wc_141 : Cond.selects RX4 yX4_size yX4_size ∈ tC := pc_4 _ (List.mem_of_getElem? (l := tCa4) (i := 13) rfl)
set_option maxRecDepth 100000 in
theorem wc_142 : Cond.methodLink RX7 25 yX4_at ∈ tC := pc_4 _ (List.mem_of_getElem? (l := tCa4) (i := 14) rfl)
set_option maxRecDepth 100000 in
theorem wc_143 : Cond.instanceMethod yX4_at ∈ tC := pc_4 _ (List.mem_of_getElem? (l := tCa4) (i := 15) rfl)
set_option maxRecDepth 100000 in
theorem wc_144 : Cond.selects RX4 yX4_at yX4_at ∈ tC := pc_4 _ (List.mem_of_getElem? (l := tCa4) (i := 16) rfl)
set_option maxRecDepth 100000 in
theorem wc_145 : Cond.methodLink RX7 29 yX7_push ∈ tC := pc_4 _ (List.mem_of_getElem? (l := tCa4) (i := 17) rfl)
set_option maxRecDepth 100000 in
theorem wc_146 : Cond.instanceMethod yX7_push ∈ tC := pc_4 _ (List.mem_of_getElem? (l := tCa4) (i := 18) rfl)
set_option maxRecDepth 100000 in
theorem wc_147 : Cond.selects RX7 yX7_push yX7_push ∈ tC := pc_4 _ (List.mem_of_getElem? (l := tCa4) (i := 19) rfl)
set_option maxRecDepth 100000 in
theorem wc_148 : Cond.methodLink RX7 33 yX7_pop ∈ tC := pc_4 _ (List.mem_of_getElem? (l := tCa4) (i := 20) rfl)
set_option maxRecDepth 100000 in
theorem wc_149 : Cond.instanceMethod yX7_pop ∈ tC := pc_4 _ (List.mem_of_getElem? (l := tCa4) (i := 21) rfl)
set_option maxRecDepth 100000 in
theorem wc_150 : Cond.selects RX7 yX7_pop yX7_pop ∈ tC := pc_4 _ (List.mem_of_getElem? (l := tCa4) (i := 22) rfl)
set_option maxRecDepth 100000 in
theorem wc_151 : Cond.methodLink RX7 36 yX7_joined ∈ tC := pc_4 _ (List.mem_of_getElem? (l := tCa4) (i := 23) rfl)
set_option maxRecDepth 100000 in
theorem wc_152 : Cond.static yX7_joined ∈ tC := pc_4 _ (List.mem_of_getElem? (l := tCa4) (i := 24) rfl)
set_option maxRecDepth 100000 in
theorem wc_153 : Cond.code yX7_value cX7_value 9 (some .int) ∈ tC := pc_4 _ (List.mem_of_getElem? (l := tCa4) (i := 25) rfl)
set_option maxRecDepth 100000 in
theorem wc_154 : Cond.code yX1_held cX1_held 2 (some .int) ∈ tC := pc_4 _ (List.mem_of_getElem? (l := tCa4) (i := 26) rfl)
set_option maxRecDepth 100000 in
theorem wc_155 : Cond.methodLink RX1 88 Lib.Math.min.name ∈ tC := pc_4 _ (List.mem_of_getElem? (l := tCa4) (i := 27) rfl)
set_option maxRecDepth 100000 in
theorem wc_156 : Cond.methodLink RX1 93 Lib.Math.max.name ∈ tC := pc_4 _ (List.mem_of_getElem? (l := tCa4) (i := 28) rfl)
set_option maxRecDepth 100000 in
theorem wc_157 : Cond.methodLink RX1 77 yX4_size ∈ tC := pc_4 _ (List.mem_of_getElem? (l := tCa4) (i := 29) rfl)
set_option maxRecDepth 100000 in
theorem wc_158 : Cond.methodLink RX1 81 yX7_value ∈ tC := pc_4 _ (List.mem_of_getElem? (l := tCa4) (i := 30) rfl)
set_option maxRecDepth 100000 in
theorem wc_159 : Cond.instanceMethod yX7_value ∈ tC := pc_4 _ (List.mem_of_getElem? (l := tCa4) (i := 31) rfl)
set_option maxRecDepth 100000 in
theorem wc_160 : Cond.selects RX7 yX7_value yX7_value ∈ tC := pc_5 _ (List.mem_of_getElem? (l := tCa5) (i := 0) rfl)
set_option maxRecDepth 100000 in
theorem wc_161 : Cond.methodLink RX1 85 yX1_held ∈ tC := pc_5 _ (List.mem_of_getElem? (l := tCa5) (i := 1) rfl)
set_option maxRecDepth 100000 in
theorem wc_162 : Cond.static yX1_held ∈ tC := pc_5 _ (List.mem_of_getElem? (l := tCa5) (i := 2) rfl)
set_option maxRecDepth 100000 in
theorem wc_163 : Cond.initialized RX1 ∈ tC := pc_5 _ (List.mem_of_getElem? (l := tCa5) (i := 3) rfl)
set_option maxRecDepth 100000 in
theorem wc_164 : Cond.code yX1_ring cX1_ring 4 (some .int) ∈ tC := pc_5 _ (List.mem_of_getElem? (l := tCa5) (i := 4) rfl)
set_option maxRecDepth 100000 in
theorem wc_165 : Cond.constantLong RX1 67 (1000) ∈ tC := pc_5 _ (List.mem_of_getElem? (l := tCa5) (i := 5) rfl)
set_option maxRecDepth 100000 in
theorem wc_166 : Cond.methodLink RX1 63 yX0_number ∈ tC := pc_5 _ (List.mem_of_getElem? (l := tCa5) (i := 6) rfl)
set_option maxRecDepth 100000 in
theorem wc_167 : Cond.methodLink RX1 73 yX1_ring ∈ tC := pc_5 _ (List.mem_of_getElem? (l := tCa5) (i := 7) rfl)
set_option maxRecDepth 100000 in
theorem wc_168 : Cond.instanceMethod yX1_ring ∈ tC := pc_5 _ (List.mem_of_getElem? (l := tCa5) (i := 8) rfl)
set_option maxRecDepth 100000 in
theorem wc_169 : Cond.selects RX1 yX1_ring yX1_ring ∈ tC := pc_5 _ (List.mem_of_getElem? (l := tCa5) (i := 9) rfl)
set_option maxRecDepth 100000 in
theorem wc_170 : Cond.code yX1_tone cX1_tone 7 (some .int) ∈ tC := pc_5 _ (List.mem_of_getElem? (l := tCa5) (i := 10) rfl)
set_option maxRecDepth 100000 in
theorem wc_171 : Cond.methodLink RX1 59 yX1_tone ∈ tC := pc_5 _ (List.mem_of_getElem? (l := tCa5) (i := 11) rfl)
set_option maxRecDepth 100000 in
theorem wc_172 : Cond.instanceMethod yX1_tone ∈ tC := pc_5 _ (List.mem_of_getElem? (l := tCa5) (i := 12) rfl)
set_option maxRecDepth 100000 in
theorem wc_173 : Cond.selects RX1 yX1_tone yX1_tone ∈ tC := pc_5 _ (List.mem_of_getElem? (l := tCa5) (i := 13) rfl)
set_option maxRecDepth 100000 in
theorem wc_174 : Cond.code yX1_numberOf cX1_numberOf 4 (some .int) ∈ tC := pc_5 _ (List.mem_of_getElem? (l := tCa5) (i := 14) rfl)
set_option maxRecDepth 100000 in
theorem wc_175 : Cond.code yX1_claimants cX1_claimants 4 (some .int) ∈ tC := pc_5 _ (List.mem_of_getElem? (l := tCa5) (i := 15) rfl)
set_option maxRecDepth 100000 in
theorem wc_176 : Cond.methodLink RX1 96 yX4_at ∈ tC := pc_5 _ (List.mem_of_getElem? (l := tCa5) (i := 16) rfl)
set_option maxRecDepth 100000 in
theorem wc_177 : Cond.methodLink RX1 99 yX1_claimants ∈ tC := pc_5 _ (List.mem_of_getElem? (l := tCa5) (i := 17) rfl)
set_option maxRecDepth 100000 in
theorem wc_178 : Cond.instanceMethod yX1_claimants ∈ tC := pc_5 _ (List.mem_of_getElem? (l := tCa5) (i := 18) rfl)
set_option maxRecDepth 100000 in
theorem wc_179 : Cond.selects RX1 yX1_claimants yX1_claimants ∈ tC := pc_5 _ (List.mem_of_getElem? (l := tCa5) (i := 19) rfl)
set_option maxRecDepth 100000 in
theorem wc_180 : Cond.code yX1_counted cX1_counted 5 (some .int) ∈ tC := pc_5 _ (List.mem_of_getElem? (l := tCa5) (i := 20) rfl)
set_option maxRecDepth 100000 in
theorem wc_181 : Cond.methodLink RX1 103 yX1_counted ∈ tC := pc_5 _ (List.mem_of_getElem? (l := tCa5) (i := 21) rfl)
set_option maxRecDepth 100000 in
theorem wc_182 : Cond.instanceMethod yX1_counted ∈ tC := pc_5 _ (List.mem_of_getElem? (l := tCa5) (i := 22) rfl)
set_option maxRecDepth 100000 in
theorem wc_183 : Cond.selects RX1 yX1_counted yX1_counted ∈ tC := pc_5 _ (List.mem_of_getElem? (l := tCa5) (i := 23) rfl)
set_option maxRecDepth 100000 in
theorem wc_184 : Cond.code yX1_countedBelow cX1_countedBelow 5 (some .int) ∈ tC := pc_5 _ (List.mem_of_getElem? (l := tCa5) (i := 24) rfl)
set_option maxRecDepth 100000 in
theorem wc_185 : Cond.methodLink RX1 106 yX1_countedBelow ∈ tC := pc_5 _ (List.mem_of_getElem? (l := tCa5) (i := 25) rfl)
set_option maxRecDepth 100000 in
theorem wc_186 : Cond.instanceMethod yX1_countedBelow ∈ tC := pc_5 _ (List.mem_of_getElem? (l := tCa5) (i := 26) rfl)
set_option maxRecDepth 100000 in
theorem wc_187 : Cond.selects RX1 yX1_countedBelow yX1_countedBelow ∈ tC := pc_5 _ (List.mem_of_getElem? (l := tCa5) (i := 27) rfl)
set_option maxRecDepth 100000 in
theorem wc_188 : Cond.code yX1_shareOf cX1_shareOf 7 (some .int) ∈ tC := pc_5 _ (List.mem_of_getElem? (l := tCa5) (i := 28) rfl)
set_option maxRecDepth 100000 in
theorem wc_189 : Cond.methodLink RX1 109 yX1_shareOf ∈ tC := pc_5 _ (List.mem_of_getElem? (l := tCa5) (i := 29) rfl)
set_option maxRecDepth 100000 in
theorem wc_190 : Cond.instanceMethod yX1_shareOf ∈ tC := pc_5 _ (List.mem_of_getElem? (l := tCa5) (i := 30) rfl)
set_option maxRecDepth 100000 in
theorem wc_191 : Cond.selects RX1 yX1_shareOf yX1_shareOf ∈ tC := pc_5 _ (List.mem_of_getElem? (l := tCa5) (i := 31) rfl)
set_option maxRecDepth 100000 in
theorem wc_192 : Cond.code yX1_leftOf cX1_leftOf 5 (some .int) ∈ tC := pc_6 _ (List.mem_of_getElem? (l := tCa6) (i := 0) rfl)
set_option maxRecDepth 100000 in
theorem wc_193 : Cond.methodLink RX2 3 objectInit ∈ tC := pc_6 _ (List.mem_of_getElem? (l := tCa6) (i := 1) rfl)
set_option maxRecDepth 100000 in
theorem wc_194 : Cond.classLink RX2 9 RX0 ∈ tC := pc_6 _ (List.mem_of_getElem? (l := tCa6) (i := 2) rfl)
set_option maxRecDepth 100000 in
theorem wc_195 : Cond.fieldLink RX2 12 "OldBronze$Histories" "behind" "LOldBronze$Bronze;" ∈ tC := pc_6 _ (List.mem_of_getElem? (l := tCa6) (i := 3) rfl)
set_option maxRecDepth 100000 in
theorem wc_196 : Cond.classLink RX2 18 RX4 ∈ tC := pc_6 _ (List.mem_of_getElem? (l := tCa6) (i := 4) rfl)
set_option maxRecDepth 100000 in
theorem wc_197 : Cond.fieldLink RX2 23 "OldBronze$Histories" "found" "LOldBronze$Rows;" ∈ tC := pc_6 _ (List.mem_of_getElem? (l := tCa6) (i := 5) rfl)
set_option maxRecDepth 100000 in
theorem wc_198 : Cond.fieldLink RX2 27 "OldBronze$Histories" "grams" "[I" ∈ tC := pc_6 _ (List.mem_of_getElem? (l := tCa6) (i := 6) rfl)
set_option maxRecDepth 100000 in
theorem wc_199 : Cond.methodLink RX2 20 yX4_init ∈ tC := pc_6 _ (List.mem_of_getElem? (l := tCa6) (i := 7) rfl)
set_option maxRecDepth 100000 in
theorem wc_200 : Cond.code yX2_init cX2_init 1 none ∈ tC := pc_6 _ (List.mem_of_getElem? (l := tCa6) (i := 8) rfl)
set_option maxRecDepth 100000 in
theorem wc_201 : Cond.fieldLink RX2 31 "OldBronze$Forge" "bronze" "LOldBronze$Bronze;" ∈ tC := pc_6 _ (List.mem_of_getElem? (l := tCa6) (i := 9) rfl)
set_option maxRecDepth 100000 in
theorem wc_202 : Cond.fieldLink RX2 40 "OldBronze$Forge" "lostPapers" "LOldBronze$Rows;" ∈ tC := pc_6 _ (List.mem_of_getElem? (l := tCa6) (i := 10) rfl)
set_option maxRecDepth 100000 in
theorem wc_203 : Cond.methodLink RX2 36 yX0_copyFrom ∈ tC := pc_6 _ (List.mem_of_getElem? (l := tCa6) (i := 11) rfl)
set_option maxRecDepth 100000 in
theorem wc_204 : Cond.methodLink RX2 43 yX4_size ∈ tC := pc_6 _ (List.mem_of_getElem? (l := tCa6) (i := 12) rfl)
set_option maxRecDepth 100000 in
theorem wc_205 : Cond.methodLink RX2 47 yX4_at ∈ tC := pc_6 _ (List.mem_of_getElem? (l := tCa6) (i := 13) rfl)
set_option maxRecDepth 100000 in
theorem wc_206 : Cond.methodLink RX2 51 yX0_pour ∈ tC := pc_6 _ (List.mem_of_getElem? (l := tCa6) (i := 14) rfl)
set_option maxRecDepth 100000 in
theorem wc_207 : Cond.instanceMethod yX0_pour ∈ tC := pc_6 _ (List.mem_of_getElem? (l := tCa6) (i := 15) rfl)
set_option maxRecDepth 100000 in
theorem wc_208 : Cond.selects RX0 yX0_pour yX0_pour ∈ tC := pc_6 _ (List.mem_of_getElem? (l := tCa6) (i := 16) rfl)
set_option maxRecDepth 100000 in
theorem wc_209 : Cond.code yX2_follow cX2_follow 5 none ∈ tC := pc_6 _ (List.mem_of_getElem? (l := tCa6) (i := 17) rfl)
set_option maxRecDepth 100000 in
theorem wc_210 : Cond.code yX2_numberBehind cX2_numberBehind 3 (some .int) ∈ tC := pc_6 _ (List.mem_of_getElem? (l := tCa6) (i := 18) rfl)
set_option maxRecDepth 100000 in
theorem wc_211 : Cond.methodLink RX2 55 yX0_number ∈ tC := pc_6 _ (List.mem_of_getElem? (l := tCa6) (i := 19) rfl)
set_option maxRecDepth 100000 in
theorem wc_212 : Cond.code yX4_clear cX4_clear 1 none ∈ tC := pc_6 _ (List.mem_of_getElem? (l := tCa6) (i := 20) rfl)
set_option maxRecDepth 100000 in
theorem wc_213 : Cond.methodLink RX2 80 Lib.Math.abs.name ∈ tC := pc_6 _ (List.mem_of_getElem? (l := tCa6) (i := 21) rfl)
set_option maxRecDepth 100000 in
theorem wc_214 : Cond.static Lib.Math.abs.name ∈ tC := pc_6 _ (List.mem_of_getElem? (l := tCa6) (i := 22) rfl)
set_option maxRecDepth 100000 in
theorem wc_215 : Cond.code Lib.Math.abs.name Lib.Math.abs.code 1 (some .int) ∈ tC := pc_6 _ (List.mem_of_getElem? (l := tCa6) (i := 23) rfl)
set_option maxRecDepth 100000 in
theorem wc_216 : Cond.code yX2_isSo cX2_isSo 4 (some .boolean) ∈ tC := pc_6 _ (List.mem_of_getElem? (l := tCa6) (i := 24) rfl)
set_option maxRecDepth 100000 in
theorem wc_217 : Cond.code yX4_room cX4_room 1 (some .int) ∈ tC := pc_6 _ (List.mem_of_getElem? (l := tCa6) (i := 25) rfl)
set_option maxRecDepth 100000 in
theorem wc_218 : Cond.code yX4_write cX4_write 4 none ∈ tC := pc_6 _ (List.mem_of_getElem? (l := tCa6) (i := 26) rfl)
set_option maxRecDepth 100000 in
theorem wc_219 : Cond.code yX4_append cX4_append 4 (some .int) ∈ tC := pc_6 _ (List.mem_of_getElem? (l := tCa6) (i := 27) rfl)
set_option maxRecDepth 100000 in
theorem wc_220 : Cond.methodLink RX4 29 yX4_room ∈ tC := pc_6 _ (List.mem_of_getElem? (l := tCa6) (i := 28) rfl)
set_option maxRecDepth 100000 in
theorem wc_221 : Cond.instanceMethod yX4_room ∈ tC := pc_6 _ (List.mem_of_getElem? (l := tCa6) (i := 29) rfl)
set_option maxRecDepth 100000 in
theorem wc_222 : Cond.selects RX4 yX4_room yX4_room ∈ tC := pc_6 _ (List.mem_of_getElem? (l := tCa6) (i := 30) rfl)
set_option maxRecDepth 100000 in
theorem wc_223 : Cond.methodLink RX4 33 yX4_write ∈ tC := pc_6 _ (List.mem_of_getElem? (l := tCa6) (i := 31) rfl)
set_option maxRecDepth 100000 in
theorem wc_224 : Cond.instanceMethod yX4_write ∈ tC := pc_7 _ (List.mem_of_getElem? (l := tCa7) (i := 0) rfl)
set_option maxRecDepth 100000 in
theorem wc_225 : Cond.selects RX4 yX4_write yX4_write ∈ tC := pc_7 _ (List.mem_of_getElem? (l := tCa7) (i := 1) rfl)
set_option maxRecDepth 100000 in
theorem wc_226 : Cond.code yX2_noteGrams cX2_noteGrams 4 none ∈ tC := pc_7 _ (List.mem_of_getElem? (l := tCa7) (i := 2) rfl)
set_option maxRecDepth 100000 in
theorem wc_227 : Cond.fieldLink RX2 65 "OldBronze$Forge" "weighings" "LOldBronze$Rows;" ∈ tC := pc_7 _ (List.mem_of_getElem? (l := tCa7) (i := 3) rfl)
set_option maxRecDepth 100000 in
theorem wc_228 : Cond.methodLink RX2 58 yX4_clear ∈ tC := pc_7 _ (List.mem_of_getElem? (l := tCa7) (i := 4) rfl)
set_option maxRecDepth 100000 in
theorem wc_229 : Cond.instanceMethod yX4_clear ∈ tC := pc_7 _ (List.mem_of_getElem? (l := tCa7) (i := 5) rfl)
set_option maxRecDepth 100000 in
theorem wc_230 : Cond.selects RX4 yX4_clear yX4_clear ∈ tC := pc_7 _ (List.mem_of_getElem? (l := tCa7) (i := 6) rfl)
set_option maxRecDepth 100000 in
theorem wc_231 : Cond.methodLink RX2 61 yX2_follow ∈ tC := pc_7 _ (List.mem_of_getElem? (l := tCa7) (i := 7) rfl)
set_option maxRecDepth 100000 in
theorem wc_232 : Cond.instanceMethod yX2_follow ∈ tC := pc_7 _ (List.mem_of_getElem? (l := tCa7) (i := 8) rfl)
set_option maxRecDepth 100000 in
theorem wc_233 : Cond.selects RX2 yX2_follow yX2_follow ∈ tC := pc_7 _ (List.mem_of_getElem? (l := tCa7) (i := 9) rfl)
set_option maxRecDepth 100000 in
theorem wc_234 : Cond.initialized RX2 ∈ tC := pc_7 _ (List.mem_of_getElem? (l := tCa7) (i := 10) rfl)
set_option maxRecDepth 100000 in
theorem wc_235 : Cond.methodLink RX2 68 yX2_isSo ∈ tC := pc_7 _ (List.mem_of_getElem? (l := tCa7) (i := 11) rfl)
set_option maxRecDepth 100000 in
theorem wc_236 : Cond.instanceMethod yX2_isSo ∈ tC := pc_7 _ (List.mem_of_getElem? (l := tCa7) (i := 12) rfl)
set_option maxRecDepth 100000 in
theorem wc_237 : Cond.selects RX2 yX2_isSo yX2_isSo ∈ tC := pc_7 _ (List.mem_of_getElem? (l := tCa7) (i := 13) rfl)
set_option maxRecDepth 100000 in
theorem wc_238 : Cond.methodLink RX2 72 yX4_append ∈ tC := pc_7 _ (List.mem_of_getElem? (l := tCa7) (i := 14) rfl)
set_option maxRecDepth 100000 in
theorem wc_239 : Cond.instanceMethod yX4_append ∈ tC := pc_7 _ (List.mem_of_getElem? (l := tCa7) (i := 15) rfl)
set_option maxRecDepth 100000 in
theorem wc_240 : Cond.selects RX4 yX4_append yX4_append ∈ tC := pc_7 _ (List.mem_of_getElem? (l := tCa7) (i := 16) rfl)
set_option maxRecDepth 100000 in
theorem wc_241 : Cond.methodLink RX2 76 yX2_noteGrams ∈ tC := pc_7 _ (List.mem_of_getElem? (l := tCa7) (i := 17) rfl)
set_option maxRecDepth 100000 in
theorem wc_242 : Cond.instanceMethod yX2_noteGrams ∈ tC := pc_7 _ (List.mem_of_getElem? (l := tCa7) (i := 18) rfl)
set_option maxRecDepth 100000 in
theorem wc_243 : Cond.selects RX2 yX2_noteGrams yX2_noteGrams ∈ tC := pc_7 _ (List.mem_of_getElem? (l := tCa7) (i := 19) rfl)
set_option maxRecDepth 100000 in
theorem wc_244 : Cond.code yX2_find cX2_find 3 none ∈ tC := pc_7 _ (List.mem_of_getElem? (l := tCa7) (i := 20) rfl)
set_option maxRecDepth 100000 in
theorem wc_245 : Cond.code yX2_notedGrams cX2_notedGrams 4 (some .int) ∈ tC := pc_7 _ (List.mem_of_getElem? (l := tCa7) (i := 21) rfl)
set_option maxRecDepth 100000 in
theorem wc_246 : Cond.code yX2_size cX2_size 1 (some .int) ∈ tC := pc_7 _ (List.mem_of_getElem? (l := tCa7) (i := 22) rfl)
set_option maxRecDepth 100000 in
theorem wc_247 : Cond.code yX2_fitting cX2_fitting 2 (some .int) ∈ tC := pc_7 _ (List.mem_of_getElem? (l := tCa7) (i := 23) rfl)
set_option maxRecDepth 100000 in
theorem wc_248 : Cond.code yX2_inAll cX2_inAll 4 (some .int) ∈ tC := pc_7 _ (List.mem_of_getElem? (l := tCa7) (i := 24) rfl)
set_option maxRecDepth 100000 in
theorem wc_249 : Cond.methodLink RX2 86 yX2_fitting ∈ tC := pc_7 _ (List.mem_of_getElem? (l := tCa7) (i := 25) rfl)
set_option maxRecDepth 100000 in
theorem wc_250 : Cond.instanceMethod yX2_fitting ∈ tC := pc_7 _ (List.mem_of_getElem? (l := tCa7) (i := 26) rfl)
set_option maxRecDepth 100000 in
theorem wc_251 : Cond.selects RX2 yX2_fitting yX2_fitting ∈ tC := pc_7 _ (List.mem_of_getElem? (l := tCa7) (i := 27) rfl)
set_option maxRecDepth 100000 in
theorem wc_252 : Cond.code yX2_inAny cX2_inAny 3 (some .int) ∈ tC := pc_7 _ (List.mem_of_getElem? (l := tCa7) (i := 28) rfl)
set_option maxRecDepth 100000 in
theorem wc_253 : Cond.methodLink RX2 94 Lib.Math.max.name ∈ tC := pc_7 _ (List.mem_of_getElem? (l := tCa7) (i := 29) rfl)
set_option maxRecDepth 100000 in
theorem wc_254 : Cond.methodLink RX2 89 yJ6_bitCount_0f7a4 ∈ tC := pc_7 _ (List.mem_of_getElem? (l := tCa7) (i := 30) rfl)
set_option maxRecDepth 100000 in
theorem wc_255 : Cond.code yX2_mostPapers cX2_mostPapers 3 (some .int) ∈ tC := pc_7 _ (List.mem_of_getElem? (l := tCa7) (i := 31) rfl)
set_option maxRecDepth 100000 in
theorem wc_256 : Cond.code yX2_outermost cX2_outermost 8 (some .int) ∈ tC := pc_8 _ (List.mem_of_getElem? (l := tCa8) (i := 0) rfl)
set_option maxRecDepth 100000 in
theorem wc_257 : Cond.code yX2_greatestHeap cX2_greatestHeap 6 (some .int) ∈ tC := pc_8 _ (List.mem_of_getElem? (l := tCa8) (i := 1) rfl)
set_option maxRecDepth 100000 in
theorem wc_258 : Cond.methodLink RX2 100 yX2_notedGrams ∈ tC := pc_8 _ (List.mem_of_getElem? (l := tCa8) (i := 2) rfl)
set_option maxRecDepth 100000 in
theorem wc_259 : Cond.instanceMethod yX2_notedGrams ∈ tC := pc_8 _ (List.mem_of_getElem? (l := tCa8) (i := 3) rfl)
set_option maxRecDepth 100000 in
theorem wc_260 : Cond.selects RX2 yX2_notedGrams yX2_notedGrams ∈ tC := pc_8 _ (List.mem_of_getElem? (l := tCa8) (i := 4) rfl)
set_option maxRecDepth 100000 in
theorem wc_261 : Cond.code yX2_bestParted cX2_bestParted 6 (some .int) ∈ tC := pc_8 _ (List.mem_of_getElem? (l := tCa8) (i := 5) rfl)
set_option maxRecDepth 100000 in
theorem wc_262 : Cond.methodLink RX2 97 yX2_greatestHeap ∈ tC := pc_8 _ (List.mem_of_getElem? (l := tCa8) (i := 6) rfl)
set_option maxRecDepth 100000 in
theorem wc_263 : Cond.instanceMethod yX2_greatestHeap ∈ tC := pc_8 _ (List.mem_of_getElem? (l := tCa8) (i := 7) rfl)
set_option maxRecDepth 100000 in
theorem wc_264 : Cond.selects RX2 yX2_greatestHeap yX2_greatestHeap ∈ tC := pc_8 _ (List.mem_of_getElem? (l := tCa8) (i := 8) rfl)
set_option maxRecDepth 100000 in
theorem wc_265 : Cond.code yX4_has cX4_has 2 (some .boolean) ∈ tC := pc_8 _ (List.mem_of_getElem? (l := tCa8) (i := 9) rfl)
set_option maxRecDepth 100000 in
theorem wc_266 : Cond.methodLink RX2 103 yX4_has ∈ tC := pc_8 _ (List.mem_of_getElem? (l := tCa8) (i := 10) rfl)
set_option maxRecDepth 100000 in
theorem wc_267 : Cond.instanceMethod yX4_has ∈ tC := pc_8 _ (List.mem_of_getElem? (l := tCa8) (i := 11) rfl)
set_option maxRecDepth 100000 in
theorem wc_268 : Cond.selects RX4 yX4_has yX4_has ∈ tC := pc_8 _ (List.mem_of_getElem? (l := tCa8) (i := 12) rfl)
set_option maxRecDepth 100000 in
theorem wc_269 : Cond.code yX2_firstUnlike cX2_firstUnlike 4 (some .int) ∈ tC := pc_8 _ (List.mem_of_getElem? (l := tCa8) (i := 13) rfl)
set_option maxRecDepth 100000 in
theorem wc_270 : Cond.code yX3_init cX3_init 1 none ∈ tC := pc_8 _ (List.mem_of_getElem? (l := tCa8) (i := 14) rfl)
set_option maxRecDepth 100000 in
theorem wc_271 : Cond.methodLink RX3 3 objectInit ∈ tC := pc_8 _ (List.mem_of_getElem? (l := tCa8) (i := 15) rfl)
set_option maxRecDepth 100000 in
theorem wc_272 : Cond.classLink RX3 9 RX4 ∈ tC := pc_8 _ (List.mem_of_getElem? (l := tCa8) (i := 16) rfl)
set_option maxRecDepth 100000 in
theorem wc_273 : Cond.fieldLink RX3 14 "OldBronze$Reader" "bytes" "LOldBronze$Rows;" ∈ tC := pc_8 _ (List.mem_of_getElem? (l := tCa8) (i := 17) rfl)
set_option maxRecDepth 100000 in
theorem wc_274 : Cond.fieldLink RX3 20 "OldBronze$Reader" "code" "LOldBronze$Rows;" ∈ tC := pc_8 _ (List.mem_of_getElem? (l := tCa8) (i := 18) rfl)
set_option maxRecDepth 100000 in
theorem wc_275 : Cond.methodLink RX3 11 yX4_init ∈ tC := pc_8 _ (List.mem_of_getElem? (l := tCa8) (i := 19) rfl)
set_option maxRecDepth 100000 in
theorem wc_276 : Cond.code yX3_peek cX3_peek 1 (some .int) ∈ tC := pc_8 _ (List.mem_of_getElem? (l := tCa8) (i := 20) rfl)
set_option maxRecDepth 100000 in
theorem wc_277 : Cond.fieldLink RX3 34 "OldBronze$Reader" "place" "I" ∈ tC := pc_8 _ (List.mem_of_getElem? (l := tCa8) (i := 21) rfl)
set_option maxRecDepth 100000 in
theorem wc_278 : Cond.methodLink RX3 45 yX4_has ∈ tC := pc_8 _ (List.mem_of_getElem? (l := tCa8) (i := 22) rfl)
set_option maxRecDepth 100000 in
theorem wc_279 : Cond.methodLink RX3 49 yX4_at ∈ tC := pc_8 _ (List.mem_of_getElem? (l := tCa8) (i := 23) rfl)
set_option maxRecDepth 100000 in
theorem wc_280 : Cond.code yX3_levelOf cX3_levelOf 1 (some .int) ∈ tC := pc_8 _ (List.mem_of_getElem? (l := tCa8) (i := 24) rfl)
set_option maxRecDepth 100000 in
theorem wc_281 : Cond.code yX3_isDigit cX3_isDigit 1 (some .boolean) ∈ tC := pc_8 _ (List.mem_of_getElem? (l := tCa8) (i := 25) rfl)
set_option maxRecDepth 100000 in
theorem wc_282 : Cond.methodLink RX3 56 yX3_peek ∈ tC := pc_8 _ (List.mem_of_getElem? (l := tCa8) (i := 26) rfl)
set_option maxRecDepth 100000 in
theorem wc_283 : Cond.instanceMethod yX3_peek ∈ tC := pc_8 _ (List.mem_of_getElem? (l := tCa8) (i := 27) rfl)
set_option maxRecDepth 100000 in
theorem wc_284 : Cond.selects RX3 yX3_peek yX3_peek ∈ tC := pc_8 _ (List.mem_of_getElem? (l := tCa8) (i := 28) rfl)
set_option maxRecDepth 100000 in
theorem wc_285 : Cond.initialized RX3 ∈ tC := pc_8 _ (List.mem_of_getElem? (l := tCa8) (i := 29) rfl)
set_option maxRecDepth 100000 in
theorem wc_286 : Cond.methodLink RX3 67 yX3_isDigit ∈ tC := pc_8 _ (List.mem_of_getElem? (l := tCa8) (i := 30) rfl)
set_option maxRecDepth 100000 in
theorem wc_287 : Cond.static yX3_isDigit ∈ tC := pc_8 _ (List.mem_of_getElem? (l := tCa8) (i := 31) rfl)
set_option maxRecDepth 100000 in
theorem wc_288 : Cond.methodLink RX3 63 yX4_append ∈ tC := pc_9 _ (List.mem_of_getElem? (l := tCa9) (i := 0) rfl)
set_option maxRecDepth 100000 in
theorem wc_289 : Cond.code yX3_readNumber cX3_readNumber 3 none ∈ tC := pc_9 _ (List.mem_of_getElem? (l := tCa9) (i := 1) rfl)
set_option maxRecDepth 100000 in
theorem wc_290 : Cond.code yX3_nameOf cX3_nameOf 4 (some .int) ∈ tC := pc_9 _ (List.mem_of_getElem? (l := tCa9) (i := 2) rfl)
set_option maxRecDepth 100000 in
theorem wc_291 : Cond.fieldLink RX3 30 "OldBronze$Reader" "use" "I" ∈ tC := pc_9 _ (List.mem_of_getElem? (l := tCa9) (i := 3) rfl)
set_option maxRecDepth 100000 in
theorem wc_292 : Cond.methodLink RX3 53 yX3_readValue ∈ tC := pc_9 _ (List.mem_of_getElem? (l := tCa9) (i := 4) rfl)
set_option maxRecDepth 100000 in
theorem wc_293 : Cond.instanceMethod yX3_readValue ∈ tC := pc_9 _ (List.mem_of_getElem? (l := tCa9) (i := 5) rfl)
set_option maxRecDepth 100000 in
theorem wc_294 : Cond.selects RX3 yX3_readValue yX3_readValue ∈ tC := pc_9 _ (List.mem_of_getElem? (l := tCa9) (i := 6) rfl)
set_option maxRecDepth 100000 in
theorem wc_295 : Cond.methodLink RX3 37 yX3_readLevel ∈ tC := pc_9 _ (List.mem_of_getElem? (l := tCa9) (i := 7) rfl)
set_option maxRecDepth 100000 in
theorem wc_296 : Cond.instanceMethod yX3_readLevel ∈ tC := pc_9 _ (List.mem_of_getElem? (l := tCa9) (i := 8) rfl)
set_option maxRecDepth 100000 in
theorem wc_297 : Cond.selects RX3 yX3_readLevel yX3_readLevel ∈ tC := pc_9 _ (List.mem_of_getElem? (l := tCa9) (i := 9) rfl)
set_option maxRecDepth 100000 in
theorem wc_298 : Cond.methodLink RX3 59 yX3_levelOf ∈ tC := pc_9 _ (List.mem_of_getElem? (l := tCa9) (i := 10) rfl)
set_option maxRecDepth 100000 in
theorem wc_299 : Cond.static yX3_levelOf ∈ tC := pc_9 _ (List.mem_of_getElem? (l := tCa9) (i := 11) rfl)
set_option maxRecDepth 100000 in
theorem wc_300 : Cond.code yX3_readOpened cX3_readOpened 3 (some .boolean) ∈ tC := pc_9 _ (List.mem_of_getElem? (l := tCa9) (i := 12) rfl)
set_option maxRecDepth 100000 in
theorem wc_301 : Cond.code yX3_readValue cX3_readValue 4 (some .boolean) ∈ tC := pc_9 _ (List.mem_of_getElem? (l := tCa9) (i := 13) rfl)
set_option maxRecDepth 100000 in
theorem wc_302 : Cond.methodLink RX3 70 yX3_readNumber ∈ tC := pc_9 _ (List.mem_of_getElem? (l := tCa9) (i := 14) rfl)
set_option maxRecDepth 100000 in
theorem wc_303 : Cond.instanceMethod yX3_readNumber ∈ tC := pc_9 _ (List.mem_of_getElem? (l := tCa9) (i := 15) rfl)
set_option maxRecDepth 100000 in
theorem wc_304 : Cond.selects RX3 yX3_readNumber yX3_readNumber ∈ tC := pc_9 _ (List.mem_of_getElem? (l := tCa9) (i := 16) rfl)
set_option maxRecDepth 100000 in
theorem wc_305 : Cond.methodLink RX3 73 yX3_readOpened ∈ tC := pc_9 _ (List.mem_of_getElem? (l := tCa9) (i := 17) rfl)
set_option maxRecDepth 100000 in
theorem wc_306 : Cond.instanceMethod yX3_readOpened ∈ tC := pc_9 _ (List.mem_of_getElem? (l := tCa9) (i := 18) rfl)
set_option maxRecDepth 100000 in
theorem wc_307 : Cond.selects RX3 yX3_readOpened yX3_readOpened ∈ tC := pc_9 _ (List.mem_of_getElem? (l := tCa9) (i := 19) rfl)
set_option maxRecDepth 100000 in
theorem wc_308 : Cond.methodLink RX3 76 yX3_nameOf ∈ tC := pc_9 _ (List.mem_of_getElem? (l := tCa9) (i := 20) rfl)
set_option maxRecDepth 100000 in
theorem wc_309 : Cond.instanceMethod yX3_nameOf ∈ tC := pc_9 _ (List.mem_of_getElem? (l := tCa9) (i := 21) rfl)
set_option maxRecDepth 100000 in
theorem wc_310 : Cond.selects RX3 yX3_nameOf yX3_nameOf ∈ tC := pc_9 _ (List.mem_of_getElem? (l := tCa9) (i := 22) rfl)
set_option maxRecDepth 100000 in
theorem wc_311 : Cond.code yX3_readLevel cX3_readLevel 6 (some .boolean) ∈ tC := pc_9 _ (List.mem_of_getElem? (l := tCa9) (i := 23) rfl)
set_option maxRecDepth 100000 in
theorem wc_312 : Cond.methodLink RX3 23 yX4_copyFrom ∈ tC := pc_9 _ (List.mem_of_getElem? (l := tCa9) (i := 24) rfl)
set_option maxRecDepth 100000 in
theorem wc_313 : Cond.methodLink RX3 27 yX4_clear ∈ tC := pc_9 _ (List.mem_of_getElem? (l := tCa9) (i := 25) rfl)
set_option maxRecDepth 100000 in
theorem wc_314 : Cond.methodLink RX3 41 yX4_size ∈ tC := pc_9 _ (List.mem_of_getElem? (l := tCa9) (i := 26) rfl)
set_option maxRecDepth 100000 in
theorem wc_315 : Cond.code yX3_read cX3_read 4 (some .int) ∈ tC := pc_9 _ (List.mem_of_getElem? (l := tCa9) (i := 27) rfl)
set_option maxRecDepth 100000 in
theorem wc_316 : Cond.code yX3_writeTo cX3_writeTo 2 none ∈ tC := pc_9 _ (List.mem_of_getElem? (l := tCa9) (i := 28) rfl)
set_option maxRecDepth 100000 in
theorem wc_317 : Cond.code yX5_init cX5_init 1 none ∈ tC := pc_9 _ (List.mem_of_getElem? (l := tCa9) (i := 29) rfl)
set_option maxRecDepth 100000 in
theorem wc_318 : Cond.methodLink RX5 3 objectInit ∈ tC := pc_9 _ (List.mem_of_getElem? (l := tCa9) (i := 30) rfl)
set_option maxRecDepth 100000 in
theorem wc_319 : Cond.fieldLink RX5 9 "OldBronze$Sheet" "numbers" "[I" ∈ tC := pc_9 _ (List.mem_of_getElem? (l := tCa9) (i := 31) rfl)
set_option maxRecDepth 100000 in
theorem wc_320 : Cond.code yJ7_fill_53178 cJ7_fill_53178 4 none ∈ tC := pc_10 _ (List.mem_of_getElem? (l := tCa10) (i := 0) rfl)
set_option maxRecDepth 100000 in
theorem wc_321 : Cond.code yX5_begin cX5_begin 3 none ∈ tC := pc_10 _ (List.mem_of_getElem? (l := tCa10) (i := 1) rfl)
set_option maxRecDepth 100000 in
theorem wc_322 : Cond.fieldLink RX5 15 "OldBronze$Sheet" "bits" "I" ∈ tC := pc_10 _ (List.mem_of_getElem? (l := tCa10) (i := 2) rfl)
set_option maxRecDepth 100000 in
theorem wc_323 : Cond.methodLink RX5 19 Lib.Math.min.name ∈ tC := pc_10 _ (List.mem_of_getElem? (l := tCa10) (i := 3) rfl)
set_option maxRecDepth 100000 in
theorem wc_324 : Cond.methodLink RX5 25 Lib.Math.max.name ∈ tC := pc_10 _ (List.mem_of_getElem? (l := tCa10) (i := 4) rfl)
set_option maxRecDepth 100000 in
theorem wc_325 : Cond.fieldLink RX5 28 "OldBronze$Sheet" "size" "I" ∈ tC := pc_10 _ (List.mem_of_getElem? (l := tCa10) (i := 5) rfl)
set_option maxRecDepth 100000 in
theorem wc_326 : Cond.methodLink RX5 31 yJ7_fill_53178 ∈ tC := pc_10 _ (List.mem_of_getElem? (l := tCa10) (i := 6) rfl)
set_option maxRecDepth 100000 in
theorem wc_327 : Cond.static yJ7_fill_53178 ∈ tC := pc_10 _ (List.mem_of_getElem? (l := tCa10) (i := 7) rfl)
set_option maxRecDepth 100000 in
theorem wc_328 : Cond.initialized RJ7 ∈ tC := pc_10 _ (List.mem_of_getElem? (l := tCa10) (i := 8) rfl)
set_option maxRecDepth 100000 in
theorem wc_329 : Cond.code yX5_isMissing cX5_isMissing 1 (some .boolean) ∈ tC := pc_10 _ (List.mem_of_getElem? (l := tCa10) (i := 9) rfl)
set_option maxRecDepth 100000 in
theorem wc_330 : Cond.code yX5_isLike cX5_isLike 2 (some .boolean) ∈ tC := pc_10 _ (List.mem_of_getElem? (l := tCa10) (i := 10) rfl)
set_option maxRecDepth 100000 in
theorem wc_331 : Cond.code yX5_size cX5_size 1 (some .int) ∈ tC := pc_10 _ (List.mem_of_getElem? (l := tCa10) (i := 11) rfl)
set_option maxRecDepth 100000 in
theorem wc_332 : Cond.code yX5_has cX5_has 2 (some .boolean) ∈ tC := pc_10 _ (List.mem_of_getElem? (l := tCa10) (i := 12) rfl)
set_option maxRecDepth 100000 in
theorem wc_333 : Cond.code yX5_hasRange cX5_hasRange 4 (some .boolean) ∈ tC := pc_10 _ (List.mem_of_getElem? (l := tCa10) (i := 13) rfl)
set_option maxRecDepth 100000 in
theorem wc_334 : Cond.code yX5_at cX5_at 2 (some .int) ∈ tC := pc_10 _ (List.mem_of_getElem? (l := tCa10) (i := 14) rfl)
set_option maxRecDepth 100000 in
theorem wc_335 : Cond.methodLink RX5 37 yX5_has ∈ tC := pc_10 _ (List.mem_of_getElem? (l := tCa10) (i := 15) rfl)
set_option maxRecDepth 100000 in
theorem wc_336 : Cond.instanceMethod yX5_has ∈ tC := pc_10 _ (List.mem_of_getElem? (l := tCa10) (i := 16) rfl)
set_option maxRecDepth 100000 in
theorem wc_337 : Cond.selects RX5 yX5_has yX5_has ∈ tC := pc_10 _ (List.mem_of_getElem? (l := tCa10) (i := 17) rfl)
set_option maxRecDepth 100000 in
theorem wc_338 : Cond.initialized RX5 ∈ tC := pc_10 _ (List.mem_of_getElem? (l := tCa10) (i := 18) rfl)
set_option maxRecDepth 100000 in
theorem wc_339 : Cond.code yX5_write cX5_write 3 none ∈ tC := pc_10 _ (List.mem_of_getElem? (l := tCa10) (i := 19) rfl)
set_option maxRecDepth 100000 in
theorem wc_340 : Cond.code yX5_copyRange cX5_copyRange 5 none ∈ tC := pc_10 _ (List.mem_of_getElem? (l := tCa10) (i := 20) rfl)
set_option maxRecDepth 100000 in
theorem wc_341 : Cond.methodLink RX5 45 arraycopyName ∈ tC := pc_10 _ (List.mem_of_getElem? (l := tCa10) (i := 21) rfl)
set_option maxRecDepth 100000 in
theorem wc_342 : Cond.methodLink RX5 41 yX5_hasRange ∈ tC := pc_10 _ (List.mem_of_getElem? (l := tCa10) (i := 22) rfl)
set_option maxRecDepth 100000 in
theorem wc_343 : Cond.instanceMethod yX5_hasRange ∈ tC := pc_10 _ (List.mem_of_getElem? (l := tCa10) (i := 23) rfl)
set_option maxRecDepth 100000 in
theorem wc_344 : Cond.selects RX5 yX5_hasRange yX5_hasRange ∈ tC := pc_10 _ (List.mem_of_getElem? (l := tCa10) (i := 24) rfl)
set_option maxRecDepth 100000 in
theorem wc_345 : Cond.code yX6_init cX6_init 1 none ∈ tC := pc_10 _ (List.mem_of_getElem? (l := tCa10) (i := 25) rfl)
set_option maxRecDepth 100000 in
theorem wc_346 : Cond.methodLink RX6 3 objectInit ∈ tC := pc_10 _ (List.mem_of_getElem? (l := tCa10) (i := 26) rfl)
set_option maxRecDepth 100000 in
theorem wc_347 : Cond.classLink RX6 9 RX4 ∈ tC := pc_10 _ (List.mem_of_getElem? (l := tCa10) (i := 27) rfl)
set_option maxRecDepth 100000 in
theorem wc_348 : Cond.fieldLink RX6 14 "OldBronze$Voices" "trace" "LOldBronze$Rows;" ∈ tC := pc_10 _ (List.mem_of_getElem? (l := tCa10) (i := 28) rfl)
set_option maxRecDepth 100000 in
theorem wc_349 : Cond.methodLink RX6 11 yX4_init ∈ tC := pc_10 _ (List.mem_of_getElem? (l := tCa10) (i := 29) rfl)
set_option maxRecDepth 100000 in
theorem wc_350 : Cond.code yX6_begin cX6_begin 4 none ∈ tC := pc_10 _ (List.mem_of_getElem? (l := tCa10) (i := 30) rfl)
set_option maxRecDepth 100000 in
theorem wc_351 : Cond.fieldLink RX6 23 "OldBronze$Voices" "kind" "I" ∈ tC := pc_10 _ (List.mem_of_getElem? (l := tCa10) (i := 31) rfl)
set_option maxRecDepth 100000 in
theorem wc_352 : Cond.fieldLink RX6 27 "OldBronze$Voices" "k" "I" ∈ tC := pc_11 _ (List.mem_of_getElem? (l := tCa11) (i := 0) rfl)
set_option maxRecDepth 100000 in
theorem wc_353 : Cond.fieldLink RX6 30 "OldBronze$Voices" "m" "I" ∈ tC := pc_11 _ (List.mem_of_getElem? (l := tCa11) (i := 1) rfl)
set_option maxRecDepth 100000 in
theorem wc_354 : Cond.fieldLink RX6 33 "OldBronze$Voices" "isParted" "Z" ∈ tC := pc_11 _ (List.mem_of_getElem? (l := tCa11) (i := 2) rfl)
set_option maxRecDepth 100000 in
theorem wc_355 : Cond.methodLink RX6 20 yX4_clear ∈ tC := pc_11 _ (List.mem_of_getElem? (l := tCa11) (i := 3) rfl)
set_option maxRecDepth 100000 in
theorem wc_356 : Cond.code yX6_trace cX6_trace 1 (some (.object "OldBronze$Rows")) ∈ tC := pc_11 _ (List.mem_of_getElem? (l := tCa11) (i := 4) rfl)
set_option maxRecDepth 100000 in
theorem wc_357 : Cond.code yX6_isParted cX6_isParted 1 (some .boolean) ∈ tC := pc_11 _ (List.mem_of_getElem? (l := tCa11) (i := 5) rfl)
set_option maxRecDepth 100000 in
theorem wc_358 : Cond.code yX6_bodyOf cX6_bodyOf 3 (some .int) ∈ tC := pc_11 _ (List.mem_of_getElem? (l := tCa11) (i := 6) rfl)
set_option maxRecDepth 100000 in
theorem wc_359 : Cond.code yX8_above cX8_above 1 (some .int) ∈ tC := pc_11 _ (List.mem_of_getElem? (l := tCa11) (i := 7) rfl)
set_option maxRecDepth 100000 in
theorem wc_360 : Cond.fieldLink RX8 301 "OldBronze" "ABOVE" "[I" ∈ tC := pc_11 _ (List.mem_of_getElem? (l := tCa11) (i := 8) rfl)
set_option maxRecDepth 100000 in
theorem wc_361 : Cond.code yX6_part cX6_part 3 (some .int) ∈ tC := pc_11 _ (List.mem_of_getElem? (l := tCa11) (i := 9) rfl)
set_option maxRecDepth 100000 in
theorem wc_362 : Cond.methodLink RX6 37 yX6_sound ∈ tC := pc_11 _ (List.mem_of_getElem? (l := tCa11) (i := 10) rfl)
set_option maxRecDepth 100000 in
theorem wc_363 : Cond.instanceMethod yX6_sound ∈ tC := pc_11 _ (List.mem_of_getElem? (l := tCa11) (i := 11) rfl)
set_option maxRecDepth 100000 in
theorem wc_364 : Cond.selects RX6 yX6_sound yX6_sound ∈ tC := pc_11 _ (List.mem_of_getElem? (l := tCa11) (i := 12) rfl)
set_option maxRecDepth 100000 in
theorem wc_365 : Cond.initialized RX6 ∈ tC := pc_11 _ (List.mem_of_getElem? (l := tCa11) (i := 13) rfl)
set_option maxRecDepth 100000 in
theorem wc_366 : Cond.code yX6_sound cX6_sound 7 (some .int) ∈ tC := pc_11 _ (List.mem_of_getElem? (l := tCa11) (i := 14) rfl)
set_option maxRecDepth 100000 in
theorem wc_367 : Cond.methodLink RX6 41 yX6_bodyOf ∈ tC := pc_11 _ (List.mem_of_getElem? (l := tCa11) (i := 15) rfl)
set_option maxRecDepth 100000 in
theorem wc_368 : Cond.static yX6_bodyOf ∈ tC := pc_11 _ (List.mem_of_getElem? (l := tCa11) (i := 16) rfl)
set_option maxRecDepth 100000 in
theorem wc_369 : Cond.static yX8_above ∈ tC := pc_11 _ (List.mem_of_getElem? (l := tCa11) (i := 17) rfl)
set_option maxRecDepth 100000 in
theorem wc_370 : Cond.methodLink RX6 49 yX4_append ∈ tC := pc_11 _ (List.mem_of_getElem? (l := tCa11) (i := 18) rfl)
set_option maxRecDepth 100000 in
theorem wc_371 : Cond.methodLink RX6 53 yX6_work ∈ tC := pc_11 _ (List.mem_of_getElem? (l := tCa11) (i := 19) rfl)
set_option maxRecDepth 100000 in
theorem wc_372 : Cond.instanceMethod yX6_work ∈ tC := pc_11 _ (List.mem_of_getElem? (l := tCa11) (i := 20) rfl)
set_option maxRecDepth 100000 in
theorem wc_373 : Cond.selects RX6 yX6_work yX6_work ∈ tC := pc_11 _ (List.mem_of_getElem? (l := tCa11) (i := 21) rfl)
set_option maxRecDepth 100000 in
theorem wc_374 : Cond.code yX6_work cX6_work 5 (some .int) ∈ tC := pc_11 _ (List.mem_of_getElem? (l := tCa11) (i := 22) rfl)
set_option maxRecDepth 100000 in
theorem wc_375 : Cond.methodLink RX6 60 yX6_own ∈ tC := pc_11 _ (List.mem_of_getElem? (l := tCa11) (i := 23) rfl)
set_option maxRecDepth 100000 in
theorem wc_376 : Cond.instanceMethod yX6_own ∈ tC := pc_11 _ (List.mem_of_getElem? (l := tCa11) (i := 24) rfl)
set_option maxRecDepth 100000 in
theorem wc_377 : Cond.selects RX6 yX6_own yX6_own ∈ tC := pc_11 _ (List.mem_of_getElem? (l := tCa11) (i := 25) rfl)
set_option maxRecDepth 100000 in
theorem wc_378 : Cond.methodLink RX6 63 yX6_part ∈ tC := pc_11 _ (List.mem_of_getElem? (l := tCa11) (i := 26) rfl)
set_option maxRecDepth 100000 in
theorem wc_379 : Cond.instanceMethod yX6_part ∈ tC := pc_11 _ (List.mem_of_getElem? (l := tCa11) (i := 27) rfl)
set_option maxRecDepth 100000 in
theorem wc_380 : Cond.selects RX6 yX6_part yX6_part ∈ tC := pc_11 _ (List.mem_of_getElem? (l := tCa11) (i := 28) rfl)
set_option maxRecDepth 100000 in
theorem wc_381 : Cond.code yX6_own cX6_own 4 (some .int) ∈ tC := pc_11 _ (List.mem_of_getElem? (l := tCa11) (i := 29) rfl)
set_option maxRecDepth 100000 in
theorem wc_382 : Cond.methodLink RX8 3 objectInit ∈ tC := pc_11 _ (List.mem_of_getElem? (l := tCa11) (i := 30) rfl)
set_option maxRecDepth 100000 in
theorem wc_383 : Cond.classLink RX8 9 RX1 ∈ tC := pc_11 _ (List.mem_of_getElem? (l := tCa11) (i := 31) rfl)
set_option maxRecDepth 100000 in
theorem wc_384 : Cond.instantiable RX1 9 ∈ tC := pc_12 _ (List.mem_of_getElem? (l := tCa12) (i := 0) rfl)
set_option maxRecDepth 100000 in
theorem wc_385 : Cond.fieldLink RX8 12 "OldBronze" "now" "LOldBronze$Forge;" ∈ tC := pc_12 _ (List.mem_of_getElem? (l := tCa12) (i := 1) rfl)
set_option maxRecDepth 100000 in
theorem wc_386 : Cond.fieldLink RX8 16 "OldBronze" "kept" "LOldBronze$Forge;" ∈ tC := pc_12 _ (List.mem_of_getElem? (l := tCa12) (i := 2) rfl)
set_option maxRecDepth 100000 in
theorem wc_387 : Cond.classLink RX8 19 RX0 ∈ tC := pc_12 _ (List.mem_of_getElem? (l := tCa12) (i := 3) rfl)
set_option maxRecDepth 100000 in
theorem wc_388 : Cond.fieldLink RX8 22 "OldBronze" "ahead" "LOldBronze$Bronze;" ∈ tC := pc_12 _ (List.mem_of_getElem? (l := tCa12) (i := 4) rfl)
set_option maxRecDepth 100000 in
theorem wc_389 : Cond.classLink RX8 26 RX2 ∈ tC := pc_12 _ (List.mem_of_getElem? (l := tCa12) (i := 5) rfl)
set_option maxRecDepth 100000 in
theorem wc_390 : Cond.instantiable RX2 3 ∈ tC := pc_12 _ (List.mem_of_getElem? (l := tCa12) (i := 6) rfl)
set_option maxRecDepth 100000 in
theorem wc_391 : Cond.fieldLink RX8 29 "OldBronze" "histories" "LOldBronze$Histories;" ∈ tC := pc_12 _ (List.mem_of_getElem? (l := tCa12) (i := 7) rfl)
set_option maxRecDepth 100000 in
theorem wc_392 : Cond.classLink RX8 33 RX3 ∈ tC := pc_12 _ (List.mem_of_getElem? (l := tCa12) (i := 8) rfl)
set_option maxRecDepth 100000 in
theorem wc_393 : Cond.instantiable RX3 4 ∈ tC := pc_12 _ (List.mem_of_getElem? (l := tCa12) (i := 9) rfl)
set_option maxRecDepth 100000 in
theorem wc_394 : Cond.fieldLink RX8 36 "OldBronze" "reader" "LOldBronze$Reader;" ∈ tC := pc_12 _ (List.mem_of_getElem? (l := tCa12) (i := 10) rfl)
set_option maxRecDepth 100000 in
theorem wc_395 : Cond.classLink RX8 40 RX6 ∈ tC := pc_12 _ (List.mem_of_getElem? (l := tCa12) (i := 11) rfl)
set_option maxRecDepth 100000 in
theorem wc_396 : Cond.instantiable RX6 5 ∈ tC := pc_12 _ (List.mem_of_getElem? (l := tCa12) (i := 12) rfl)
set_option maxRecDepth 100000 in
theorem wc_397 : Cond.fieldLink RX8 43 "OldBronze" "voices" "LOldBronze$Voices;" ∈ tC := pc_12 _ (List.mem_of_getElem? (l := tCa12) (i := 13) rfl)
set_option maxRecDepth 100000 in
theorem wc_398 : Cond.classLink RX8 47 RX5 ∈ tC := pc_12 _ (List.mem_of_getElem? (l := tCa12) (i := 14) rfl)
set_option maxRecDepth 100000 in
theorem wc_399 : Cond.fieldLink RX8 49 "OldBronze" "sheets" "[LOldBronze$Sheet;" ∈ tC := pc_12 _ (List.mem_of_getElem? (l := tCa12) (i := 15) rfl)
set_option maxRecDepth 100000 in
theorem wc_400 : Cond.fieldLink RX8 53 "OldBronze" "refusals" "[I" ∈ tC := pc_12 _ (List.mem_of_getElem? (l := tCa12) (i := 16) rfl)
set_option maxRecDepth 100000 in
theorem wc_401 : Cond.instantiable RX5 3 ∈ tC := pc_12 _ (List.mem_of_getElem? (l := tCa12) (i := 17) rfl)
set_option maxRecDepth 100000 in
theorem wc_402 : Cond.instanceMethod yX1_init ∈ tC := pc_12 _ (List.mem_of_getElem? (l := tCa12) (i := 18) rfl)
set_option maxRecDepth 100000 in
theorem wc_403 : Cond.instanceMethod yX2_init ∈ tC := pc_12 _ (List.mem_of_getElem? (l := tCa12) (i := 19) rfl)
set_option maxRecDepth 100000 in
theorem wc_404 : Cond.instanceMethod yX3_init ∈ tC := pc_12 _ (List.mem_of_getElem? (l := tCa12) (i := 20) rfl)
set_option maxRecDepth 100000 in
theorem wc_405 : Cond.instanceMethod yX6_init ∈ tC := pc_12 _ (List.mem_of_getElem? (l := tCa12) (i := 21) rfl)
set_option maxRecDepth 100000 in
theorem wc_406 : Cond.instanceMethod yX5_init ∈ tC := pc_12 _ (List.mem_of_getElem? (l := tCa12) (i := 22) rfl)
set_option maxRecDepth 100000 in
theorem wc_407 : Cond.code yX8_init cX8_init 2 none ∈ tC := pc_12 _ (List.mem_of_getElem? (l := tCa12) (i := 23) rfl)
set_option maxRecDepth 100000 in
theorem wc_408 : Cond.code yX8_isKindAndM cX8_isKindAndM 1 (some .boolean) ∈ tC := pc_12 _ (List.mem_of_getElem? (l := tCa12) (i := 24) rfl)
set_option maxRecDepth 100000 in
theorem wc_409 : Cond.methodLink RX8 63 yX8_within ∈ tC := pc_12 _ (List.mem_of_getElem? (l := tCa12) (i := 25) rfl)
set_option maxRecDepth 100000 in
theorem wc_410 : Cond.code yX8_refuse cX8_refuse 2 (some .int) ∈ tC := pc_12 _ (List.mem_of_getElem? (l := tCa12) (i := 26) rfl)
set_option maxRecDepth 100000 in
theorem wc_411 : Cond.constant RX8 297 (-1000000000) ∈ tC := pc_12 _ (List.mem_of_getElem? (l := tCa12) (i := 27) rfl)
set_option maxRecDepth 100000 in
theorem wc_412 : Cond.constant RX8 62 (9999999) ∈ tC := pc_12 _ (List.mem_of_getElem? (l := tCa12) (i := 28) rfl)
set_option maxRecDepth 100000 in
theorem wc_413 : Cond.fieldLink RX8 71 "OldBronze$Forge" "bronze" "LOldBronze$Bronze;" ∈ tC := pc_12 _ (List.mem_of_getElem? (l := tCa12) (i := 29) rfl)
set_option maxRecDepth 100000 in
theorem wc_414 : Cond.methodLink RX8 58 yX8_isKindAndM ∈ tC := pc_12 _ (List.mem_of_getElem? (l := tCa12) (i := 30) rfl)
set_option maxRecDepth 100000 in
theorem wc_415 : Cond.static yX8_isKindAndM ∈ tC := pc_12 _ (List.mem_of_getElem? (l := tCa12) (i := 31) rfl)
set_option maxRecDepth 100000 in
theorem wc_416 : Cond.methodLink RX8 67 yX8_refuse ∈ tC := pc_13 _ (List.mem_of_getElem? (l := tCa13) (i := 0) rfl)
set_option maxRecDepth 100000 in
theorem wc_417 : Cond.instanceMethod yX8_refuse ∈ tC := pc_13 _ (List.mem_of_getElem? (l := tCa13) (i := 1) rfl)
set_option maxRecDepth 100000 in
theorem wc_418 : Cond.selects RX8 yX8_refuse yX8_refuse ∈ tC := pc_13 _ (List.mem_of_getElem? (l := tCa13) (i := 2) rfl)
set_option maxRecDepth 100000 in
theorem wc_419 : Cond.methodLink RX8 74 yX0_room ∈ tC := pc_13 _ (List.mem_of_getElem? (l := tCa13) (i := 3) rfl)
set_option maxRecDepth 100000 in
theorem wc_420 : Cond.methodLink RX8 78 yX0_addFirst ∈ tC := pc_13 _ (List.mem_of_getElem? (l := tCa13) (i := 4) rfl)
set_option maxRecDepth 100000 in
theorem wc_421 : Cond.instanceMethod yX0_addFirst ∈ tC := pc_13 _ (List.mem_of_getElem? (l := tCa13) (i := 5) rfl)
set_option maxRecDepth 100000 in
theorem wc_422 : Cond.selects RX0 yX0_addFirst yX0_addFirst ∈ tC := pc_13 _ (List.mem_of_getElem? (l := tCa13) (i := 6) rfl)
set_option maxRecDepth 100000 in
theorem wc_423 : Cond.code yX8_thing cX8_thing 3 (some .int) ∈ tC := pc_13 _ (List.mem_of_getElem? (l := tCa13) (i := 7) rfl)
set_option maxRecDepth 100000 in
theorem wc_424 : Cond.methodLink RX8 82 yX0_has ∈ tC := pc_13 _ (List.mem_of_getElem? (l := tCa13) (i := 8) rfl)
set_option maxRecDepth 100000 in
theorem wc_425 : Cond.instanceMethod yX0_has ∈ tC := pc_13 _ (List.mem_of_getElem? (l := tCa13) (i := 9) rfl)
set_option maxRecDepth 100000 in
theorem wc_426 : Cond.selects RX0 yX0_has yX0_has ∈ tC := pc_13 _ (List.mem_of_getElem? (l := tCa13) (i := 10) rfl)
set_option maxRecDepth 100000 in
theorem wc_427 : Cond.methodLink RX8 85 yX1_numberOf ∈ tC := pc_13 _ (List.mem_of_getElem? (l := tCa13) (i := 11) rfl)
set_option maxRecDepth 100000 in
theorem wc_428 : Cond.instanceMethod yX1_numberOf ∈ tC := pc_13 _ (List.mem_of_getElem? (l := tCa13) (i := 12) rfl)
set_option maxRecDepth 100000 in
theorem wc_429 : Cond.selects RX1 yX1_numberOf yX1_numberOf ∈ tC := pc_13 _ (List.mem_of_getElem? (l := tCa13) (i := 13) rfl)
set_option maxRecDepth 100000 in
theorem wc_430 : Cond.code yX8_thingIs cX8_thingIs 3 (some .int) ∈ tC := pc_13 _ (List.mem_of_getElem? (l := tCa13) (i := 14) rfl)
set_option maxRecDepth 100000 in
theorem wc_431 : Cond.code yX8_isUnder cX8_isUnder 4 (some .boolean) ∈ tC := pc_13 _ (List.mem_of_getElem? (l := tCa13) (i := 15) rfl)
set_option maxRecDepth 100000 in
theorem wc_432 : Cond.methodLink RX8 298 yX8_above ∈ tC := pc_13 _ (List.mem_of_getElem? (l := tCa13) (i := 16) rfl)
set_option maxRecDepth 100000 in
theorem wc_433 : Cond.methodLink RX8 89 yX0_number ∈ tC := pc_13 _ (List.mem_of_getElem? (l := tCa13) (i := 17) rfl)
set_option maxRecDepth 100000 in
theorem wc_434 : Cond.methodLink RX8 92 yX8_isUnder ∈ tC := pc_13 _ (List.mem_of_getElem? (l := tCa13) (i := 18) rfl)
set_option maxRecDepth 100000 in
theorem wc_435 : Cond.static yX8_isUnder ∈ tC := pc_13 _ (List.mem_of_getElem? (l := tCa13) (i := 19) rfl)
set_option maxRecDepth 100000 in
theorem wc_436 : Cond.code yX8_as cX8_as 3 (some .int) ∈ tC := pc_13 _ (List.mem_of_getElem? (l := tCa13) (i := 20) rfl)
set_option maxRecDepth 100000 in
theorem wc_437 : Cond.methodLink RX8 96 yX0_mostSettable ∈ tC := pc_13 _ (List.mem_of_getElem? (l := tCa13) (i := 21) rfl)
set_option maxRecDepth 100000 in
theorem wc_438 : Cond.instanceMethod yX0_mostSettable ∈ tC := pc_13 _ (List.mem_of_getElem? (l := tCa13) (i := 22) rfl)
set_option maxRecDepth 100000 in
theorem wc_439 : Cond.selects RX0 yX0_mostSettable yX0_mostSettable ∈ tC := pc_13 _ (List.mem_of_getElem? (l := tCa13) (i := 23) rfl)
set_option maxRecDepth 100000 in
theorem wc_440 : Cond.methodLink RX8 99 yX0_become ∈ tC := pc_13 _ (List.mem_of_getElem? (l := tCa13) (i := 24) rfl)
set_option maxRecDepth 100000 in
theorem wc_441 : Cond.code yX8_set cX8_set 5 (some .int) ∈ tC := pc_13 _ (List.mem_of_getElem? (l := tCa13) (i := 25) rfl)
set_option maxRecDepth 100000 in
theorem wc_442 : Cond.methodLink RX8 103 yX0_pour ∈ tC := pc_13 _ (List.mem_of_getElem? (l := tCa13) (i := 26) rfl)
set_option maxRecDepth 100000 in
theorem wc_443 : Cond.code yX8_melt cX8_melt 3 (some .int) ∈ tC := pc_13 _ (List.mem_of_getElem? (l := tCa13) (i := 27) rfl)
set_option maxRecDepth 100000 in
theorem wc_444 : Cond.code yX8_crucible cX8_crucible 2 (some .int) ∈ tC := pc_13 _ (List.mem_of_getElem? (l := tCa13) (i := 28) rfl)
set_option maxRecDepth 100000 in
theorem wc_445 : Cond.methodLink RX8 106 yX0_addTin ∈ tC := pc_13 _ (List.mem_of_getElem? (l := tCa13) (i := 29) rfl)
set_option maxRecDepth 100000 in
theorem wc_446 : Cond.instanceMethod yX0_addTin ∈ tC := pc_13 _ (List.mem_of_getElem? (l := tCa13) (i := 30) rfl)
set_option maxRecDepth 100000 in
theorem wc_447 : Cond.selects RX0 yX0_addTin yX0_addTin ∈ tC := pc_13 _ (List.mem_of_getElem? (l := tCa13) (i := 31) rfl)
set_option maxRecDepth 100000 in
theorem wc_448 : Cond.methodLink RX8 110 yX0_lose ∈ tC := pc_14 _ (List.mem_of_getElem? (l := tCa14) (i := 0) rfl)
set_option maxRecDepth 100000 in
theorem wc_449 : Cond.methodLink RX8 113 yX0_addCast ∈ tC := pc_14 _ (List.mem_of_getElem? (l := tCa14) (i := 1) rfl)
set_option maxRecDepth 100000 in
theorem wc_450 : Cond.instanceMethod yX0_addCast ∈ tC := pc_14 _ (List.mem_of_getElem? (l := tCa14) (i := 2) rfl)
set_option maxRecDepth 100000 in
theorem wc_451 : Cond.selects RX0 yX0_addCast yX0_addCast ∈ tC := pc_14 _ (List.mem_of_getElem? (l := tCa14) (i := 3) rfl)
set_option maxRecDepth 100000 in
theorem wc_452 : Cond.code yX8_cast cX8_cast 6 (some .int) ∈ tC := pc_14 _ (List.mem_of_getElem? (l := tCa14) (i := 4) rfl)
set_option maxRecDepth 100000 in
theorem wc_453 : Cond.methodLink RX8 116 yX0_yearsSoFar ∈ tC := pc_14 _ (List.mem_of_getElem? (l := tCa14) (i := 5) rfl)
set_option maxRecDepth 100000 in
theorem wc_454 : Cond.instanceMethod yX0_yearsSoFar ∈ tC := pc_14 _ (List.mem_of_getElem? (l := tCa14) (i := 6) rfl)
set_option maxRecDepth 100000 in
theorem wc_455 : Cond.selects RX0 yX0_yearsSoFar yX0_yearsSoFar ∈ tC := pc_14 _ (List.mem_of_getElem? (l := tCa14) (i := 7) rfl)
set_option maxRecDepth 100000 in
theorem wc_456 : Cond.methodLink RX8 119 yX0_passYears ∈ tC := pc_14 _ (List.mem_of_getElem? (l := tCa14) (i := 8) rfl)
set_option maxRecDepth 100000 in
theorem wc_457 : Cond.instanceMethod yX0_passYears ∈ tC := pc_14 _ (List.mem_of_getElem? (l := tCa14) (i := 9) rfl)
set_option maxRecDepth 100000 in
theorem wc_458 : Cond.selects RX0 yX0_passYears yX0_passYears ∈ tC := pc_14 _ (List.mem_of_getElem? (l := tCa14) (i := 10) rfl)
set_option maxRecDepth 100000 in
theorem wc_459 : Cond.methodLink RX8 122 yX0_allGrams ∈ tC := pc_14 _ (List.mem_of_getElem? (l := tCa14) (i := 11) rfl)
set_option maxRecDepth 100000 in
theorem wc_460 : Cond.instanceMethod yX0_allGrams ∈ tC := pc_14 _ (List.mem_of_getElem? (l := tCa14) (i := 12) rfl)
set_option maxRecDepth 100000 in
theorem wc_461 : Cond.selects RX0 yX0_allGrams yX0_allGrams ∈ tC := pc_14 _ (List.mem_of_getElem? (l := tCa14) (i := 13) rfl)
set_option maxRecDepth 100000 in
theorem wc_462 : Cond.code yX8_years cX8_years 2 (some .int) ∈ tC := pc_14 _ (List.mem_of_getElem? (l := tCa14) (i := 14) rfl)
set_option maxRecDepth 100000 in
theorem wc_463 : Cond.methodLink RX8 125 yX0_copyFrom ∈ tC := pc_14 _ (List.mem_of_getElem? (l := tCa14) (i := 15) rfl)
set_option maxRecDepth 100000 in
theorem wc_464 : Cond.code yX8_then cX8_then 4 (some .int) ∈ tC := pc_14 _ (List.mem_of_getElem? (l := tCa14) (i := 16) rfl)
set_option maxRecDepth 100000 in
theorem wc_465 : Cond.code yX8_seed cX8_seed 2 (some .int) ∈ tC := pc_14 _ (List.mem_of_getElem? (l := tCa14) (i := 17) rfl)
set_option maxRecDepth 100000 in
theorem wc_466 : Cond.methodLink RX8 129 yX0_reseed ∈ tC := pc_14 _ (List.mem_of_getElem? (l := tCa14) (i := 18) rfl)
set_option maxRecDepth 100000 in
theorem wc_467 : Cond.instanceMethod yX0_reseed ∈ tC := pc_14 _ (List.mem_of_getElem? (l := tCa14) (i := 19) rfl)
set_option maxRecDepth 100000 in
theorem wc_468 : Cond.selects RX0 yX0_reseed yX0_reseed ∈ tC := pc_14 _ (List.mem_of_getElem? (l := tCa14) (i := 20) rfl)
set_option maxRecDepth 100000 in
theorem wc_469 : Cond.fieldLink RX8 132 "OldBronze$Forge" "tape" "LOldBronze$Rows;" ∈ tC := pc_14 _ (List.mem_of_getElem? (l := tCa14) (i := 21) rfl)
set_option maxRecDepth 100000 in
theorem wc_470 : Cond.methodLink RX8 136 yX4_room ∈ tC := pc_14 _ (List.mem_of_getElem? (l := tCa14) (i := 22) rfl)
set_option maxRecDepth 100000 in
theorem wc_471 : Cond.methodLink RX8 139 yX4_append ∈ tC := pc_14 _ (List.mem_of_getElem? (l := tCa14) (i := 23) rfl)
set_option maxRecDepth 100000 in
theorem wc_472 : Cond.methodLink RX8 143 yX4_size ∈ tC := pc_14 _ (List.mem_of_getElem? (l := tCa14) (i := 24) rfl)
set_option maxRecDepth 100000 in
theorem wc_473 : Cond.code yX8_feed cX8_feed 5 (some .int) ∈ tC := pc_14 _ (List.mem_of_getElem? (l := tCa14) (i := 25) rfl)
set_option maxRecDepth 100000 in
theorem wc_474 : Cond.methodLink RX8 146 yX3_read ∈ tC := pc_14 _ (List.mem_of_getElem? (l := tCa14) (i := 26) rfl)
set_option maxRecDepth 100000 in
theorem wc_475 : Cond.instanceMethod yX3_read ∈ tC := pc_14 _ (List.mem_of_getElem? (l := tCa14) (i := 27) rfl)
set_option maxRecDepth 100000 in
theorem wc_476 : Cond.selects RX3 yX3_read yX3_read ∈ tC := pc_14 _ (List.mem_of_getElem? (l := tCa14) (i := 28) rfl)
set_option maxRecDepth 100000 in
theorem wc_477 : Cond.methodLink RX8 150 yX4_clear ∈ tC := pc_14 _ (List.mem_of_getElem? (l := tCa14) (i := 29) rfl)
set_option maxRecDepth 100000 in
theorem wc_478 : Cond.methodLink RX8 153 yX1_textOf ∈ tC := pc_14 _ (List.mem_of_getElem? (l := tCa14) (i := 30) rfl)
set_option maxRecDepth 100000 in
theorem wc_479 : Cond.instanceMethod yX1_textOf ∈ tC := pc_14 _ (List.mem_of_getElem? (l := tCa14) (i := 31) rfl)
set_option maxRecDepth 100000 in
theorem wc_480 : Cond.selects RX1 yX1_textOf yX1_textOf ∈ tC := pc_15 _ (List.mem_of_getElem? (l := tCa15) (i := 0) rfl)
set_option maxRecDepth 100000 in
theorem wc_481 : Cond.methodLink RX8 157 yX3_writeTo ∈ tC := pc_15 _ (List.mem_of_getElem? (l := tCa15) (i := 1) rfl)
set_option maxRecDepth 100000 in
theorem wc_482 : Cond.instanceMethod yX3_writeTo ∈ tC := pc_15 _ (List.mem_of_getElem? (l := tCa15) (i := 2) rfl)
set_option maxRecDepth 100000 in
theorem wc_483 : Cond.selects RX3 yX3_writeTo yX3_writeTo ∈ tC := pc_15 _ (List.mem_of_getElem? (l := tCa15) (i := 3) rfl)
set_option maxRecDepth 100000 in
theorem wc_484 : Cond.code yX8_text cX8_text 3 (some .int) ∈ tC := pc_15 _ (List.mem_of_getElem? (l := tCa15) (i := 4) rfl)
set_option maxRecDepth 100000 in
theorem wc_485 : Cond.code yX8_untell cX8_untell 3 (some .int) ∈ tC := pc_15 _ (List.mem_of_getElem? (l := tCa15) (i := 5) rfl)
set_option maxRecDepth 100000 in
theorem wc_486 : Cond.constant RX8 161 (99999) ∈ tC := pc_15 _ (List.mem_of_getElem? (l := tCa15) (i := 6) rfl)
set_option maxRecDepth 100000 in
theorem wc_487 : Cond.fieldLink RX8 162 "OldBronze$Forge" "claims" "LOldBronze$Rows;" ∈ tC := pc_15 _ (List.mem_of_getElem? (l := tCa15) (i := 7) rfl)
set_option maxRecDepth 100000 in
theorem wc_488 : Cond.code yX8_claim cX8_claim 3 (some .int) ∈ tC := pc_15 _ (List.mem_of_getElem? (l := tCa15) (i := 8) rfl)
set_option maxRecDepth 100000 in
theorem wc_489 : Cond.methodLink RX8 165 yX4_has ∈ tC := pc_15 _ (List.mem_of_getElem? (l := tCa15) (i := 9) rfl)
set_option maxRecDepth 100000 in
theorem wc_490 : Cond.methodLink RX8 166 yX1_counted ∈ tC := pc_15 _ (List.mem_of_getElem? (l := tCa15) (i := 10) rfl)
set_option maxRecDepth 100000 in
theorem wc_491 : Cond.methodLink RX8 169 yX4_at ∈ tC := pc_15 _ (List.mem_of_getElem? (l := tCa15) (i := 11) rfl)
set_option maxRecDepth 100000 in
theorem wc_492 : Cond.code yX8_claimIs cX8_claimIs 3 (some .int) ∈ tC := pc_15 _ (List.mem_of_getElem? (l := tCa15) (i := 12) rfl)
set_option maxRecDepth 100000 in
theorem wc_493 : Cond.methodLink RX8 172 yX1_shareOf ∈ tC := pc_15 _ (List.mem_of_getElem? (l := tCa15) (i := 13) rfl)
set_option maxRecDepth 100000 in
theorem wc_494 : Cond.code yX8_share cX8_share 3 (some .int) ∈ tC := pc_15 _ (List.mem_of_getElem? (l := tCa15) (i := 14) rfl)
set_option maxRecDepth 100000 in
theorem wc_495 : Cond.methodLink RX8 175 yX1_leftOf ∈ tC := pc_15 _ (List.mem_of_getElem? (l := tCa15) (i := 15) rfl)
set_option maxRecDepth 100000 in
theorem wc_496 : Cond.instanceMethod yX1_leftOf ∈ tC := pc_15 _ (List.mem_of_getElem? (l := tCa15) (i := 16) rfl)
set_option maxRecDepth 100000 in
theorem wc_497 : Cond.selects RX1 yX1_leftOf yX1_leftOf ∈ tC := pc_15 _ (List.mem_of_getElem? (l := tCa15) (i := 17) rfl)
set_option maxRecDepth 100000 in
theorem wc_498 : Cond.code yX8_left cX8_left 3 (some .int) ∈ tC := pc_15 _ (List.mem_of_getElem? (l := tCa15) (i := 18) rfl)
set_option maxRecDepth 100000 in
theorem wc_499 : Cond.code yX8_isPaper cX8_isPaper 4 (some .boolean) ∈ tC := pc_15 _ (List.mem_of_getElem? (l := tCa15) (i := 19) rfl)
set_option maxRecDepth 100000 in
theorem wc_500 : Cond.fieldLink RX8 181 "OldBronze$Forge" "lostPapers" "LOldBronze$Rows;" ∈ tC := pc_15 _ (List.mem_of_getElem? (l := tCa15) (i := 20) rfl)
set_option maxRecDepth 100000 in
theorem wc_501 : Cond.methodLink RX8 178 yX8_isPaper ∈ tC := pc_15 _ (List.mem_of_getElem? (l := tCa15) (i := 21) rfl)
set_option maxRecDepth 100000 in
theorem wc_502 : Cond.instanceMethod yX8_isPaper ∈ tC := pc_15 _ (List.mem_of_getElem? (l := tCa15) (i := 22) rfl)
set_option maxRecDepth 100000 in
theorem wc_503 : Cond.selects RX8 yX8_isPaper yX8_isPaper ∈ tC := pc_15 _ (List.mem_of_getElem? (l := tCa15) (i := 23) rfl)
set_option maxRecDepth 100000 in
theorem wc_504 : Cond.code yX8_paper cX8_paper 4 (some .int) ∈ tC := pc_15 _ (List.mem_of_getElem? (l := tCa15) (i := 24) rfl)
set_option maxRecDepth 100000 in
theorem wc_505 : Cond.fieldLink RX8 184 "OldBronze$Forge" "weighings" "LOldBronze$Rows;" ∈ tC := pc_15 _ (List.mem_of_getElem? (l := tCa15) (i := 25) rfl)
set_option maxRecDepth 100000 in
theorem wc_506 : Cond.code yX8_weigh cX8_weigh 4 (some .int) ∈ tC := pc_15 _ (List.mem_of_getElem? (l := tCa15) (i := 26) rfl)
set_option maxRecDepth 100000 in
theorem wc_507 : Cond.code yX8_forget cX8_forget 4 (some .int) ∈ tC := pc_15 _ (List.mem_of_getElem? (l := tCa15) (i := 27) rfl)
set_option maxRecDepth 100000 in
theorem wc_508 : Cond.code yX8_allPapers cX8_allPapers 1 (some .int) ∈ tC := pc_15 _ (List.mem_of_getElem? (l := tCa15) (i := 28) rfl)
set_option maxRecDepth 100000 in
theorem wc_509 : Cond.code yX8_isHistory cX8_isHistory 2 (some .boolean) ∈ tC := pc_15 _ (List.mem_of_getElem? (l := tCa15) (i := 29) rfl)
set_option maxRecDepth 100000 in
theorem wc_510 : Cond.methodLink RX8 201 yX8_allPapers ∈ tC := pc_15 _ (List.mem_of_getElem? (l := tCa15) (i := 30) rfl)
set_option maxRecDepth 100000 in
theorem wc_511 : Cond.instanceMethod yX8_allPapers ∈ tC := pc_15 _ (List.mem_of_getElem? (l := tCa15) (i := 31) rfl)
set_option maxRecDepth 100000 in
theorem wc_512 : Cond.selects RX8 yX8_allPapers yX8_allPapers ∈ tC := pc_16 _ (List.mem_of_getElem? (l := tCa16) (i := 0) rfl)
set_option maxRecDepth 100000 in
theorem wc_513 : Cond.methodLink RX8 187 yX8_isHistory ∈ tC := pc_16 _ (List.mem_of_getElem? (l := tCa16) (i := 1) rfl)
set_option maxRecDepth 100000 in
theorem wc_514 : Cond.instanceMethod yX8_isHistory ∈ tC := pc_16 _ (List.mem_of_getElem? (l := tCa16) (i := 2) rfl)
set_option maxRecDepth 100000 in
theorem wc_515 : Cond.selects RX8 yX8_isHistory yX8_isHistory ∈ tC := pc_16 _ (List.mem_of_getElem? (l := tCa16) (i := 3) rfl)
set_option maxRecDepth 100000 in
theorem wc_516 : Cond.methodLink RX8 190 yX2_follow ∈ tC := pc_16 _ (List.mem_of_getElem? (l := tCa16) (i := 4) rfl)
set_option maxRecDepth 100000 in
theorem wc_517 : Cond.methodLink RX8 194 yX2_numberBehind ∈ tC := pc_16 _ (List.mem_of_getElem? (l := tCa16) (i := 5) rfl)
set_option maxRecDepth 100000 in
theorem wc_518 : Cond.instanceMethod yX2_numberBehind ∈ tC := pc_16 _ (List.mem_of_getElem? (l := tCa16) (i := 6) rfl)
set_option maxRecDepth 100000 in
theorem wc_519 : Cond.selects RX2 yX2_numberBehind yX2_numberBehind ∈ tC := pc_16 _ (List.mem_of_getElem? (l := tCa16) (i := 7) rfl)
set_option maxRecDepth 100000 in
theorem wc_520 : Cond.code yX8_by cX8_by 4 (some .int) ∈ tC := pc_16 _ (List.mem_of_getElem? (l := tCa16) (i := 8) rfl)
set_option maxRecDepth 100000 in
theorem wc_521 : Cond.methodLink RX8 197 yX2_find ∈ tC := pc_16 _ (List.mem_of_getElem? (l := tCa16) (i := 9) rfl)
set_option maxRecDepth 100000 in
theorem wc_522 : Cond.instanceMethod yX2_find ∈ tC := pc_16 _ (List.mem_of_getElem? (l := tCa16) (i := 10) rfl)
set_option maxRecDepth 100000 in
theorem wc_523 : Cond.selects RX2 yX2_find yX2_find ∈ tC := pc_16 _ (List.mem_of_getElem? (l := tCa16) (i := 11) rfl)
set_option maxRecDepth 100000 in
theorem wc_524 : Cond.methodLink RX8 204 yX2_size ∈ tC := pc_16 _ (List.mem_of_getElem? (l := tCa16) (i := 12) rfl)
set_option maxRecDepth 100000 in
theorem wc_525 : Cond.instanceMethod yX2_size ∈ tC := pc_16 _ (List.mem_of_getElem? (l := tCa16) (i := 13) rfl)
set_option maxRecDepth 100000 in
theorem wc_526 : Cond.selects RX2 yX2_size yX2_size ∈ tC := pc_16 _ (List.mem_of_getElem? (l := tCa16) (i := 14) rfl)
set_option maxRecDepth 100000 in
theorem wc_527 : Cond.methodLink RX8 205 yX2_fitting ∈ tC := pc_16 _ (List.mem_of_getElem? (l := tCa16) (i := 15) rfl)
set_option maxRecDepth 100000 in
theorem wc_528 : Cond.methodLink RX8 208 yX2_inAll ∈ tC := pc_16 _ (List.mem_of_getElem? (l := tCa16) (i := 16) rfl)
set_option maxRecDepth 100000 in
theorem wc_529 : Cond.instanceMethod yX2_inAll ∈ tC := pc_16 _ (List.mem_of_getElem? (l := tCa16) (i := 17) rfl)
set_option maxRecDepth 100000 in
theorem wc_530 : Cond.selects RX2 yX2_inAll yX2_inAll ∈ tC := pc_16 _ (List.mem_of_getElem? (l := tCa16) (i := 18) rfl)
set_option maxRecDepth 100000 in
theorem wc_531 : Cond.methodLink RX8 211 yX2_inAny ∈ tC := pc_16 _ (List.mem_of_getElem? (l := tCa16) (i := 19) rfl)
set_option maxRecDepth 100000 in
theorem wc_532 : Cond.instanceMethod yX2_inAny ∈ tC := pc_16 _ (List.mem_of_getElem? (l := tCa16) (i := 20) rfl)
set_option maxRecDepth 100000 in
theorem wc_533 : Cond.selects RX2 yX2_inAny yX2_inAny ∈ tC := pc_16 _ (List.mem_of_getElem? (l := tCa16) (i := 21) rfl)
set_option maxRecDepth 100000 in
theorem wc_534 : Cond.methodLink RX8 214 yX2_mostPapers ∈ tC := pc_16 _ (List.mem_of_getElem? (l := tCa16) (i := 22) rfl)
set_option maxRecDepth 100000 in
theorem wc_535 : Cond.instanceMethod yX2_mostPapers ∈ tC := pc_16 _ (List.mem_of_getElem? (l := tCa16) (i := 23) rfl)
set_option maxRecDepth 100000 in
theorem wc_536 : Cond.selects RX2 yX2_mostPapers yX2_mostPapers ∈ tC := pc_16 _ (List.mem_of_getElem? (l := tCa16) (i := 24) rfl)
set_option maxRecDepth 100000 in
theorem wc_537 : Cond.code yX8_fits cX8_fits 3 (some .int) ∈ tC := pc_16 _ (List.mem_of_getElem? (l := tCa16) (i := 25) rfl)
set_option maxRecDepth 100000 in
theorem wc_538 : Cond.methodLink RX8 217 yX2_outermost ∈ tC := pc_16 _ (List.mem_of_getElem? (l := tCa16) (i := 26) rfl)
set_option maxRecDepth 100000 in
theorem wc_539 : Cond.instanceMethod yX2_outermost ∈ tC := pc_16 _ (List.mem_of_getElem? (l := tCa16) (i := 27) rfl)
set_option maxRecDepth 100000 in
theorem wc_540 : Cond.selects RX2 yX2_outermost yX2_outermost ∈ tC := pc_16 _ (List.mem_of_getElem? (l := tCa16) (i := 28) rfl)
set_option maxRecDepth 100000 in
theorem wc_541 : Cond.code yX8_span cX8_span 4 (some .int) ∈ tC := pc_16 _ (List.mem_of_getElem? (l := tCa16) (i := 29) rfl)
set_option maxRecDepth 100000 in
theorem wc_542 : Cond.methodLink RX8 221 yX0_size ∈ tC := pc_16 _ (List.mem_of_getElem? (l := tCa16) (i := 30) rfl)
set_option maxRecDepth 100000 in
theorem wc_543 : Cond.instanceMethod yX0_size ∈ tC := pc_16 _ (List.mem_of_getElem? (l := tCa16) (i := 31) rfl)
set_option maxRecDepth 100000 in
theorem wc_544 : Cond.selects RX0 yX0_size yX0_size ∈ tC := pc_17 _ (List.mem_of_getElem? (l := tCa17) (i := 0) rfl)
set_option maxRecDepth 100000 in
theorem wc_545 : Cond.methodLink RX8 222 yX2_bestParted ∈ tC := pc_17 _ (List.mem_of_getElem? (l := tCa17) (i := 1) rfl)
set_option maxRecDepth 100000 in
theorem wc_546 : Cond.instanceMethod yX2_bestParted ∈ tC := pc_17 _ (List.mem_of_getElem? (l := tCa17) (i := 2) rfl)
set_option maxRecDepth 100000 in
theorem wc_547 : Cond.selects RX2 yX2_bestParted yX2_bestParted ∈ tC := pc_17 _ (List.mem_of_getElem? (l := tCa17) (i := 3) rfl)
set_option maxRecDepth 100000 in
theorem wc_548 : Cond.code yX8_next cX8_next 1 (some .int) ∈ tC := pc_17 _ (List.mem_of_getElem? (l := tCa17) (i := 4) rfl)
set_option maxRecDepth 100000 in
theorem wc_549 : Cond.methodLink RX8 231 Lib.Math.max.name ∈ tC := pc_17 _ (List.mem_of_getElem? (l := tCa17) (i := 5) rfl)
set_option maxRecDepth 100000 in
theorem wc_550 : Cond.methodLink RX8 225 yX0_mostOf ∈ tC := pc_17 _ (List.mem_of_getElem? (l := tCa17) (i := 6) rfl)
set_option maxRecDepth 100000 in
theorem wc_551 : Cond.instanceMethod yX0_mostOf ∈ tC := pc_17 _ (List.mem_of_getElem? (l := tCa17) (i := 7) rfl)
set_option maxRecDepth 100000 in
theorem wc_552 : Cond.selects RX0 yX0_mostOf yX0_mostOf ∈ tC := pc_17 _ (List.mem_of_getElem? (l := tCa17) (i := 8) rfl)
set_option maxRecDepth 100000 in
theorem wc_553 : Cond.methodLink RX8 228 yX0_together ∈ tC := pc_17 _ (List.mem_of_getElem? (l := tCa17) (i := 9) rfl)
set_option maxRecDepth 100000 in
theorem wc_554 : Cond.code yX8_most cX8_most 5 (some .int) ∈ tC := pc_17 _ (List.mem_of_getElem? (l := tCa17) (i := 10) rfl)
set_option maxRecDepth 100000 in
theorem wc_555 : Cond.methodLink RX8 236 yX6_begin ∈ tC := pc_17 _ (List.mem_of_getElem? (l := tCa17) (i := 11) rfl)
set_option maxRecDepth 100000 in
theorem wc_556 : Cond.instanceMethod yX6_begin ∈ tC := pc_17 _ (List.mem_of_getElem? (l := tCa17) (i := 12) rfl)
set_option maxRecDepth 100000 in
theorem wc_557 : Cond.selects RX6 yX6_begin yX6_begin ∈ tC := pc_17 _ (List.mem_of_getElem? (l := tCa17) (i := 13) rfl)
set_option maxRecDepth 100000 in
theorem wc_558 : Cond.methodLink RX8 242 yX6_isParted ∈ tC := pc_17 _ (List.mem_of_getElem? (l := tCa17) (i := 14) rfl)
set_option maxRecDepth 100000 in
theorem wc_559 : Cond.instanceMethod yX6_isParted ∈ tC := pc_17 _ (List.mem_of_getElem? (l := tCa17) (i := 15) rfl)
set_option maxRecDepth 100000 in
theorem wc_560 : Cond.selects RX6 yX6_isParted yX6_isParted ∈ tC := pc_17 _ (List.mem_of_getElem? (l := tCa17) (i := 16) rfl)
set_option maxRecDepth 100000 in
theorem wc_561 : Cond.code yX8_voice cX8_voice 5 (some .int) ∈ tC := pc_17 _ (List.mem_of_getElem? (l := tCa17) (i := 17) rfl)
set_option maxRecDepth 100000 in
theorem wc_562 : Cond.methodLink RX8 246 yX6_trace ∈ tC := pc_17 _ (List.mem_of_getElem? (l := tCa17) (i := 18) rfl)
set_option maxRecDepth 100000 in
theorem wc_563 : Cond.instanceMethod yX6_trace ∈ tC := pc_17 _ (List.mem_of_getElem? (l := tCa17) (i := 19) rfl)
set_option maxRecDepth 100000 in
theorem wc_564 : Cond.selects RX6 yX6_trace yX6_trace ∈ tC := pc_17 _ (List.mem_of_getElem? (l := tCa17) (i := 20) rfl)
set_option maxRecDepth 100000 in
theorem wc_565 : Cond.code yX8_body cX8_body 2 (some .int) ∈ tC := pc_17 _ (List.mem_of_getElem? (l := tCa17) (i := 21) rfl)
set_option maxRecDepth 100000 in
theorem wc_566 : Cond.code yX8_sheetAt cX8_sheetAt 2 (some (.object "OldBronze$Sheet")) ∈ tC := pc_17 _ (List.mem_of_getElem? (l := tCa17) (i := 22) rfl)
set_option maxRecDepth 100000 in
theorem wc_567 : Cond.methodLink RX8 250 yX8_sheetAt ∈ tC := pc_17 _ (List.mem_of_getElem? (l := tCa17) (i := 23) rfl)
set_option maxRecDepth 100000 in
theorem wc_568 : Cond.instanceMethod yX8_sheetAt ∈ tC := pc_17 _ (List.mem_of_getElem? (l := tCa17) (i := 24) rfl)
set_option maxRecDepth 100000 in
theorem wc_569 : Cond.selects RX8 yX8_sheetAt yX8_sheetAt ∈ tC := pc_17 _ (List.mem_of_getElem? (l := tCa17) (i := 25) rfl)
set_option maxRecDepth 100000 in
theorem wc_570 : Cond.methodLink RX8 254 yX5_begin ∈ tC := pc_17 _ (List.mem_of_getElem? (l := tCa17) (i := 26) rfl)
set_option maxRecDepth 100000 in
theorem wc_571 : Cond.instanceMethod yX5_begin ∈ tC := pc_17 _ (List.mem_of_getElem? (l := tCa17) (i := 27) rfl)
set_option maxRecDepth 100000 in
theorem wc_572 : Cond.selects RX5 yX5_begin yX5_begin ∈ tC := pc_17 _ (List.mem_of_getElem? (l := tCa17) (i := 28) rfl)
set_option maxRecDepth 100000 in
theorem wc_573 : Cond.code yX8_sheet cX8_sheet 5 (some .int) ∈ tC := pc_17 _ (List.mem_of_getElem? (l := tCa17) (i := 29) rfl)
set_option maxRecDepth 100000 in
theorem wc_574 : Cond.methodLink RX8 257 yX5_isMissing ∈ tC := pc_17 _ (List.mem_of_getElem? (l := tCa17) (i := 30) rfl)
set_option maxRecDepth 100000 in
theorem wc_575 : Cond.instanceMethod yX5_isMissing ∈ tC := pc_17 _ (List.mem_of_getElem? (l := tCa17) (i := 31) rfl)
set_option maxRecDepth 100000 in
theorem wc_576 : Cond.selects RX5 yX5_isMissing yX5_isMissing ∈ tC := pc_18 _ (List.mem_of_getElem? (l := tCa18) (i := 0) rfl)
set_option maxRecDepth 100000 in
theorem wc_577 : Cond.methodLink RX8 260 yX5_has ∈ tC := pc_18 _ (List.mem_of_getElem? (l := tCa18) (i := 1) rfl)
set_option maxRecDepth 100000 in
theorem wc_578 : Cond.methodLink RX8 261 yX5_write ∈ tC := pc_18 _ (List.mem_of_getElem? (l := tCa18) (i := 2) rfl)
set_option maxRecDepth 100000 in
theorem wc_579 : Cond.instanceMethod yX5_write ∈ tC := pc_18 _ (List.mem_of_getElem? (l := tCa18) (i := 3) rfl)
set_option maxRecDepth 100000 in
theorem wc_580 : Cond.selects RX5 yX5_write yX5_write ∈ tC := pc_18 _ (List.mem_of_getElem? (l := tCa18) (i := 4) rfl)
set_option maxRecDepth 100000 in
theorem wc_581 : Cond.code yX8_put cX8_put 5 (some .int) ∈ tC := pc_18 _ (List.mem_of_getElem? (l := tCa18) (i := 5) rfl)
set_option maxRecDepth 100000 in
theorem wc_582 : Cond.methodLink RX8 264 yX5_isLike ∈ tC := pc_18 _ (List.mem_of_getElem? (l := tCa18) (i := 6) rfl)
set_option maxRecDepth 100000 in
theorem wc_583 : Cond.instanceMethod yX5_isLike ∈ tC := pc_18 _ (List.mem_of_getElem? (l := tCa18) (i := 7) rfl)
set_option maxRecDepth 100000 in
theorem wc_584 : Cond.selects RX5 yX5_isLike yX5_isLike ∈ tC := pc_18 _ (List.mem_of_getElem? (l := tCa18) (i := 8) rfl)
set_option maxRecDepth 100000 in
theorem wc_585 : Cond.methodLink RX8 268 yX5_hasRange ∈ tC := pc_18 _ (List.mem_of_getElem? (l := tCa18) (i := 9) rfl)
set_option maxRecDepth 100000 in
theorem wc_586 : Cond.methodLink RX8 271 yX5_copyRange ∈ tC := pc_18 _ (List.mem_of_getElem? (l := tCa18) (i := 10) rfl)
set_option maxRecDepth 100000 in
theorem wc_587 : Cond.instanceMethod yX5_copyRange ∈ tC := pc_18 _ (List.mem_of_getElem? (l := tCa18) (i := 11) rfl)
set_option maxRecDepth 100000 in
theorem wc_588 : Cond.selects RX5 yX5_copyRange yX5_copyRange ∈ tC := pc_18 _ (List.mem_of_getElem? (l := tCa18) (i := 12) rfl)
set_option maxRecDepth 100000 in
theorem wc_589 : Cond.code yX8_move cX8_move 8 (some .int) ∈ tC := pc_18 _ (List.mem_of_getElem? (l := tCa18) (i := 13) rfl)
set_option maxRecDepth 100000 in
theorem wc_590 : Cond.methodLink RX8 275 yX5_size ∈ tC := pc_18 _ (List.mem_of_getElem? (l := tCa18) (i := 14) rfl)
set_option maxRecDepth 100000 in
theorem wc_591 : Cond.instanceMethod yX5_size ∈ tC := pc_18 _ (List.mem_of_getElem? (l := tCa18) (i := 15) rfl)
set_option maxRecDepth 100000 in
theorem wc_592 : Cond.selects RX5 yX5_size yX5_size ∈ tC := pc_18 _ (List.mem_of_getElem? (l := tCa18) (i := 16) rfl)
set_option maxRecDepth 100000 in
theorem wc_593 : Cond.methodLink RX8 276 yX5_at ∈ tC := pc_18 _ (List.mem_of_getElem? (l := tCa18) (i := 17) rfl)
set_option maxRecDepth 100000 in
theorem wc_594 : Cond.instanceMethod yX5_at ∈ tC := pc_18 _ (List.mem_of_getElem? (l := tCa18) (i := 18) rfl)
set_option maxRecDepth 100000 in
theorem wc_595 : Cond.selects RX5 yX5_at yX5_at ∈ tC := pc_18 _ (List.mem_of_getElem? (l := tCa18) (i := 19) rfl)
set_option maxRecDepth 100000 in
theorem wc_596 : Cond.code yX8_papers cX8_papers 5 (some .int) ∈ tC := pc_18 _ (List.mem_of_getElem? (l := tCa18) (i := 20) rfl)
set_option maxRecDepth 100000 in
theorem wc_597 : Cond.code yX8_judge cX8_judge 6 (some .int) ∈ tC := pc_18 _ (List.mem_of_getElem? (l := tCa18) (i := 21) rfl)
set_option maxRecDepth 100000 in
theorem wc_598 : Cond.fieldLink RX8 280 "OldBronze" "images" "I" ∈ tC := pc_18 _ (List.mem_of_getElem? (l := tCa18) (i := 22) rfl)
set_option maxRecDepth 100000 in
theorem wc_599 : Cond.methodLink RX8 278 yX1_copyFrom ∈ tC := pc_18 _ (List.mem_of_getElem? (l := tCa18) (i := 23) rfl)
set_option maxRecDepth 100000 in
theorem wc_600 : Cond.instanceMethod yX1_copyFrom ∈ tC := pc_18 _ (List.mem_of_getElem? (l := tCa18) (i := 24) rfl)
set_option maxRecDepth 100000 in
theorem wc_601 : Cond.selects RX1 yX1_copyFrom yX1_copyFrom ∈ tC := pc_18 _ (List.mem_of_getElem? (l := tCa18) (i := 25) rfl)
set_option maxRecDepth 100000 in
theorem wc_602 : Cond.code yX8_image cX8_image 1 (some .int) ∈ tC := pc_18 _ (List.mem_of_getElem? (l := tCa18) (i := 26) rfl)
set_option maxRecDepth 100000 in
theorem wc_603 : Cond.code yX8_restore cX8_restore 1 (some .int) ∈ tC := pc_18 _ (List.mem_of_getElem? (l := tCa18) (i := 27) rfl)
set_option maxRecDepth 100000 in
theorem wc_604 : Cond.fieldLink RX8 284 "OldBronze$Forge" "waiting" "LOldBronze$Rows;" ∈ tC := pc_18 _ (List.mem_of_getElem? (l := tCa18) (i := 28) rfl)
set_option maxRecDepth 100000 in
theorem wc_605 : Cond.code yX8_tell cX8_tell 2 (some .int) ∈ tC := pc_18 _ (List.mem_of_getElem? (l := tCa18) (i := 29) rfl)
set_option maxRecDepth 100000 in
theorem wc_606 : Cond.methodLink RX8 287 yX2_firstUnlike ∈ tC := pc_18 _ (List.mem_of_getElem? (l := tCa18) (i := 30) rfl)
set_option maxRecDepth 100000 in
theorem wc_607 : Cond.instanceMethod yX2_firstUnlike ∈ tC := pc_18 _ (List.mem_of_getElem? (l := tCa18) (i := 31) rfl)
set_option maxRecDepth 100000 in
theorem wc_608 : Cond.selects RX2 yX2_firstUnlike yX2_firstUnlike ∈ tC := pc_19 _ (List.mem_of_getElem? (l := tCa19) (i := 0) rfl)
set_option maxRecDepth 100000 in
theorem wc_609 : Cond.code yX8_check cX8_check 2 (some .int) ∈ tC := pc_19 _ (List.mem_of_getElem? (l := tCa19) (i := 1) rfl)
set_option maxRecDepth 100000 in
theorem wc_610 : Cond.methodLink RX8 291 yX0_firstsThatCount ∈ tC := pc_19 _ (List.mem_of_getElem? (l := tCa19) (i := 2) rfl)
set_option maxRecDepth 100000 in
theorem wc_611 : Cond.instanceMethod yX0_firstsThatCount ∈ tC := pc_19 _ (List.mem_of_getElem? (l := tCa19) (i := 3) rfl)
set_option maxRecDepth 100000 in
theorem wc_612 : Cond.selects RX0 yX0_firstsThatCount yX0_firstsThatCount ∈ tC := pc_19 _ (List.mem_of_getElem? (l := tCa19) (i := 4) rfl)
set_option maxRecDepth 100000 in
theorem wc_613 : Cond.methodLink RX8 294 yX0_lastDraw ∈ tC := pc_19 _ (List.mem_of_getElem? (l := tCa19) (i := 5) rfl)
set_option maxRecDepth 100000 in
theorem wc_614 : Cond.instanceMethod yX0_lastDraw ∈ tC := pc_19 _ (List.mem_of_getElem? (l := tCa19) (i := 6) rfl)
set_option maxRecDepth 100000 in
theorem wc_615 : Cond.selects RX0 yX0_lastDraw yX0_lastDraw ∈ tC := pc_19 _ (List.mem_of_getElem? (l := tCa19) (i := 7) rfl)
set_option maxRecDepth 100000 in
theorem wc_616 : Cond.code yX8_count cX8_count 2 (some .int) ∈ tC := pc_19 _ (List.mem_of_getElem? (l := tCa19) (i := 8) rfl)
set_option maxRecDepth 100000 in
theorem wc_617 : Cond.code yX8_told cX8_told 2 (some .int) ∈ tC := pc_19 _ (List.mem_of_getElem? (l := tCa19) (i := 9) rfl)
abbrev clC : List vw_C := [(RX0, TX0, 5), (RX1, TX1, 9), (RX2, TX2, 3), (RX3, TX3, 4), (RX4, TX4, 4), (RX5, TX5, 3), (RX6, TX6, 5), (RX7, TX7, 2), (RX8, TX8, 9), (RX9, TX9, 23)]
def layC : Nat → gLC := fun o => match o with
  | 0 => .inr (.inl (8, [some 1, some 20, some 39, some 41, some 47, some 52, some 55, some 64, none]))
  | 1 => .inr (.inl (1, [some 2, some 4, some 6, some 8, some 10, some 12, some 14, some 16, some 18]))
  | 2 => .inr (.inl (0, [some 3, none, none, none, none]))
  | 3 => .inl 130
  | 4 => .inr (.inl (4, [none, some 5, none, none]))
  | 5 => .inl 60
  | 6 => .inr (.inl (4, [none, some 7, none, none]))
  | 7 => .inl 20
  | 8 => .inr (.inl (4, [none, some 9, none, none]))
  | 9 => .inl 18
  | 10 => .inr (.inl (4, [none, some 11, none, none]))
  | 11 => .inl 24
  | 12 => .inr (.inl (4, [none, some 13, none, none]))
  | 13 => .inl 24
  | 14 => .inr (.inl (4, [none, some 15, none, none]))
  | 15 => .inl 60
  | 16 => .inr (.inl (4, [none, some 17, none, none]))
  | 17 => .inl 60
  | 18 => .inr (.inl (7, [some 19, none]))
  | 19 => .inl 60
  | 20 => .inr (.inl (1, [some 21, some 23, some 25, some 27, some 29, some 31, some 33, some 35, some 37]))
  | 21 => .inr (.inl (0, [some 22, none, none, none, none]))
  | 22 => .inl 130
  | 23 => .inr (.inl (4, [none, some 24, none, none]))
  | 24 => .inl 60
  | 25 => .inr (.inl (4, [none, some 26, none, none]))
  | 26 => .inl 20
  | 27 => .inr (.inl (4, [none, some 28, none, none]))
  | 28 => .inl 18
  | 29 => .inr (.inl (4, [none, some 30, none, none]))
  | 30 => .inl 24
  | 31 => .inr (.inl (4, [none, some 32, none, none]))
  | 32 => .inl 24
  | 33 => .inr (.inl (4, [none, some 34, none, none]))
  | 34 => .inl 60
  | 35 => .inr (.inl (4, [none, some 36, none, none]))
  | 36 => .inl 60
  | 37 => .inr (.inl (7, [some 38, none]))
  | 38 => .inl 60
  | 39 => .inr (.inl (0, [some 40, none, none, none, none]))
  | 40 => .inl 130
  | 41 => .inr (.inl (2, [some 42, some 44, some 46]))
  | 42 => .inr (.inl (0, [some 43, none, none, none, none]))
  | 43 => .inl 130
  | 44 => .inr (.inl (4, [none, some 45, none, none]))
  | 45 => .inl 64
  | 46 => .inl 768
  | 47 => .inr (.inl (3, [some 48, some 50, none, none]))
  | 48 => .inr (.inl (4, [none, some 49, none, none]))
  | 49 => .inl 60
  | 50 => .inr (.inl (4, [none, some 51, none, none]))
  | 51 => .inl 60
  | 52 => .inr (.inl (6, [some 53, none, none, none, none]))
  | 53 => .inr (.inl (4, [none, some 54, none, none]))
  | 54 => .inl 30
  | 55 => .inr (.inr [56, 58, 60, 62])
  | 56 => .inr (.inl (5, [some 57, none, none]))
  | 57 => .inl 24
  | 58 => .inr (.inl (5, [some 59, none, none]))
  | 59 => .inl 24
  | 60 => .inr (.inl (5, [some 61, none, none]))
  | 61 => .inl 24
  | 62 => .inr (.inl (5, [some 63, none, none]))
  | 63 => .inl 24
  | _ => .inl 7
abbrev wC (ad : Nat → Nat) (cI cS : ClassId) : gSt → va_W := wld ad cI cS layC 65
def lenC (a : Nat) : Nat := match layC a with
  | .inl n => n
  | _ => 0
def isAr (o : Nat) : Prop := layC o = .inl (lenC o) ∧ o < 65 ∧ lenC o < 2147483648
def isBronze (o : Nat) : Prop := layC o = .inr (.inl (0, [some (o + 1), none, none, none, none])) ∧ o < 65 ∧ isAr (o + 1)
def isForge (o : Nat) : Prop := layC o = .inr (.inl (1, [some (o + 1), some (o + 3), some (o + 5), some (o + 7), some (o + 9), some (o + 11), some (o + 13), some (o + 15), some (o + 17)])) ∧ o < 65
def isHistories (o : Nat) : Prop := layC o = .inr (.inl (2, [some (o + 1), some (o + 3), some (o + 5)])) ∧ o < 65 ∧ isAr (o + 5)
def isReader (o : Nat) : Prop := layC o = .inr (.inl (3, [some (o + 1), some (o + 3), none, none])) ∧ o < 65
def isRows (o : Nat) : Prop := layC o = .inr (.inl (4, [none, some (o + 1), none, none])) ∧ o < 65 ∧ isAr (o + 1)
def isSheet (o : Nat) : Prop := layC o = .inr (.inl (5, [some (o + 1), none, none])) ∧ o < 65 ∧ isAr (o + 1)
def isVoices (o : Nat) : Prop := layC o = .inr (.inl (6, [some (o + 1), none, none, none, none])) ∧ o < 65
def isWorker (o : Nat) : Prop := layC o = .inr (.inl (7, [some (o + 1), none])) ∧ o < 65 ∧ isAr (o + 1)
def isOldBronze (o : Nat) : Prop := layC o = .inr (.inl (8, [some (o + 1), some (o + 20), some (o + 39), some (o + 41), some (o + 47), some (o + 52), some (o + 55), some (o + 64), none])) ∧ o < 65 ∧ isAr (o + 64)
theorem pl_0 : isOldBronze 0 := ⟨rfl, by decide, ⟨rfl, by decide, by decide⟩⟩
theorem pl_1 : isForge 1 := ⟨rfl, by decide⟩
theorem pl_2 : isBronze 2 := ⟨rfl, by decide, ⟨rfl, by decide, by decide⟩⟩
theorem pl_3 : isAr 3 := ⟨rfl, by decide, by decide⟩
theorem pl_4 : isRows 4 := ⟨rfl, by decide, ⟨rfl, by decide, by decide⟩⟩
theorem pl_5 : isAr 5 := ⟨rfl, by decide, by decide⟩
theorem pl_6 : isRows 6 := ⟨rfl, by decide, ⟨rfl, by decide, by decide⟩⟩
theorem pl_7 : isAr 7 := ⟨rfl, by decide, by decide⟩
theorem pl_8 : isRows 8 := ⟨rfl, by decide, ⟨rfl, by decide, by decide⟩⟩
theorem pl_9 : isAr 9 := ⟨rfl, by decide, by decide⟩
theorem pl_10 : isRows 10 := ⟨rfl, by decide, ⟨rfl, by decide, by decide⟩⟩
theorem pl_11 : isAr 11 := ⟨rfl, by decide, by decide⟩
theorem pl_12 : isRows 12 := ⟨rfl, by decide, ⟨rfl, by decide, by decide⟩⟩
theorem pl_13 : isAr 13 := ⟨rfl, by decide, by decide⟩
theorem pl_14 : isRows 14 := ⟨rfl, by decide, ⟨rfl, by decide, by decide⟩⟩
theorem pl_15 : isAr 15 := ⟨rfl, by decide, by decide⟩
theorem pl_16 : isRows 16 := ⟨rfl, by decide, ⟨rfl, by decide, by decide⟩⟩
theorem pl_17 : isAr 17 := ⟨rfl, by decide, by decide⟩
theorem pl_18 : isWorker 18 := ⟨rfl, by decide, ⟨rfl, by decide, by decide⟩⟩
theorem pl_19 : isAr 19 := ⟨rfl, by decide, by decide⟩
theorem pl_20 : isForge 20 := ⟨rfl, by decide⟩
theorem pl_21 : isBronze 21 := ⟨rfl, by decide, ⟨rfl, by decide, by decide⟩⟩
theorem pl_22 : isAr 22 := ⟨rfl, by decide, by decide⟩
theorem pl_23 : isRows 23 := ⟨rfl, by decide, ⟨rfl, by decide, by decide⟩⟩
theorem pl_24 : isAr 24 := ⟨rfl, by decide, by decide⟩
theorem pl_25 : isRows 25 := ⟨rfl, by decide, ⟨rfl, by decide, by decide⟩⟩
theorem pl_26 : isAr 26 := ⟨rfl, by decide, by decide⟩
theorem pl_27 : isRows 27 := ⟨rfl, by decide, ⟨rfl, by decide, by decide⟩⟩
theorem pl_28 : isAr 28 := ⟨rfl, by decide, by decide⟩
theorem pl_29 : isRows 29 := ⟨rfl, by decide, ⟨rfl, by decide, by decide⟩⟩
theorem pl_30 : isAr 30 := ⟨rfl, by decide, by decide⟩
theorem pl_31 : isRows 31 := ⟨rfl, by decide, ⟨rfl, by decide, by decide⟩⟩
theorem pl_32 : isAr 32 := ⟨rfl, by decide, by decide⟩
theorem pl_33 : isRows 33 := ⟨rfl, by decide, ⟨rfl, by decide, by decide⟩⟩
theorem pl_34 : isAr 34 := ⟨rfl, by decide, by decide⟩
theorem pl_35 : isRows 35 := ⟨rfl, by decide, ⟨rfl, by decide, by decide⟩⟩
theorem pl_36 : isAr 36 := ⟨rfl, by decide, by decide⟩
theorem pl_37 : isWorker 37 := ⟨rfl, by decide, ⟨rfl, by decide, by decide⟩⟩
theorem pl_38 : isAr 38 := ⟨rfl, by decide, by decide⟩
theorem pl_39 : isBronze 39 := ⟨rfl, by decide, ⟨rfl, by decide, by decide⟩⟩
theorem pl_40 : isAr 40 := ⟨rfl, by decide, by decide⟩
theorem pl_41 : isHistories 41 := ⟨rfl, by decide, ⟨rfl, by decide, by decide⟩⟩
theorem pl_42 : isBronze 42 := ⟨rfl, by decide, ⟨rfl, by decide, by decide⟩⟩
theorem pl_43 : isAr 43 := ⟨rfl, by decide, by decide⟩
theorem pl_44 : isRows 44 := ⟨rfl, by decide, ⟨rfl, by decide, by decide⟩⟩
theorem pl_45 : isAr 45 := ⟨rfl, by decide, by decide⟩
theorem pl_46 : isAr 46 := ⟨rfl, by decide, by decide⟩
theorem pl_47 : isReader 47 := ⟨rfl, by decide⟩
theorem pl_48 : isRows 48 := ⟨rfl, by decide, ⟨rfl, by decide, by decide⟩⟩
theorem pl_49 : isAr 49 := ⟨rfl, by decide, by decide⟩
theorem pl_50 : isRows 50 := ⟨rfl, by decide, ⟨rfl, by decide, by decide⟩⟩
theorem pl_51 : isAr 51 := ⟨rfl, by decide, by decide⟩
theorem pl_52 : isVoices 52 := ⟨rfl, by decide⟩
theorem pl_53 : isRows 53 := ⟨rfl, by decide, ⟨rfl, by decide, by decide⟩⟩
theorem pl_54 : isAr 54 := ⟨rfl, by decide, by decide⟩
theorem pl_56 : isSheet 56 := ⟨rfl, by decide, ⟨rfl, by decide, by decide⟩⟩
theorem pl_57 : isAr 57 := ⟨rfl, by decide, by decide⟩
theorem pl_58 : isSheet 58 := ⟨rfl, by decide, ⟨rfl, by decide, by decide⟩⟩
theorem pl_59 : isAr 59 := ⟨rfl, by decide, by decide⟩
theorem pl_60 : isSheet 60 := ⟨rfl, by decide, ⟨rfl, by decide, by decide⟩⟩
theorem pl_61 : isAr 61 := ⟨rfl, by decide, by decide⟩
theorem pl_62 : isSheet 62 := ⟨rfl, by decide, ⟨rfl, by decide, by decide⟩⟩
theorem pl_63 : isAr 63 := ⟨rfl, by decide, by decide⟩
theorem pl_64 : isAr 64 := ⟨rfl, by decide, by decide⟩
def fb_ABOVE (j : Nat) : Int := [0, 0, 0, 0, 1, 2, 3].getD j 0
def tb_ABOVE (i : Int) : Int := fb_ABOVE i.toNat
def fb_NAMES (j : Nat) : Int := [103, 115, 109, 99, 103, 110].getD j 0
def tb_NAMES (i : Int) : Int := fb_NAMES i.toNat
def fb_BODIES (j : Nat) : Int := [10, 11, 12, 13, 20, 0, 0, 21, 0, 30, 0, 0, 0, 0, 40, 0, 50, 0, 51, 0, 0, 60, 0, 0, 70, 71, 0, 0].getD j 0
def tb_BODIES (i : Int) : Int := fb_BODIES i.toNat
def zS (A : Nat → Prop) (U : State) : Prop := (∃ t : Nat, va_Z "OldBronze" "ABOVE" "[I" (.ref t) A U U.heap ∧ va_T .int t 7 (fun j => iv (fb_ABOVE j)) A U U.heap) ∧ (∃ t : Nat, va_Z "OldBronze" "NAMES" "[I" (.ref t) A U U.heap ∧ va_T .int t 6 (fun j => iv (fb_NAMES j)) A U U.heap) ∧ (∃ t : Nat, va_Z "OldBronze" "BODIES" "[I" (.ref t) A U U.heap ∧ va_T .int t 28 (fun j => iv (fb_BODIES j)) A U U.heap)
def zN (U : State) : Prop := va_Nw (.methodLinkNest RX0 32 ⟨"OldBronze", "within", "(III)Z"⟩ "OldBronze") U ∧ va_Nw (.methodLinkNest RX0 66 ⟨"OldBronze", "quotient", "(JJ)I"⟩ "OldBronze") U ∧ va_Nw (.methodLinkNest RX1 11 ⟨"OldBronze$Bronze", "<init>", "()V"⟩ "OldBronze") U ∧ va_Nw (.methodLinkNest RX1 47 ⟨"OldBronze$Worker", "<init>", "()V"⟩ "OldBronze") U ∧ va_Nw (.methodLinkNest RX1 69 ⟨"OldBronze", "quotient", "(JJ)I"⟩ "OldBronze") U ∧ va_Nw (.methodLinkNest RX2 11 ⟨"OldBronze$Bronze", "<init>", "()V"⟩ "OldBronze") U ∧ va_Nw (.methodLinkNest RX6 45 ⟨"OldBronze", "above", "(I)I"⟩ "OldBronze") U ∧ va_Nw (.methodLinkNest RX8 11 ⟨"OldBronze$Forge", "<init>", "()V"⟩ "OldBronze") U ∧ va_Nw (.methodLinkNest RX8 21 ⟨"OldBronze$Bronze", "<init>", "()V"⟩ "OldBronze") U ∧ va_Nw (.methodLinkNest RX8 28 ⟨"OldBronze$Histories", "<init>", "()V"⟩ "OldBronze") U ∧ va_Nw (.methodLinkNest RX8 35 ⟨"OldBronze$Reader", "<init>", "()V"⟩ "OldBronze") U ∧ va_Nw (.methodLinkNest RX8 42 ⟨"OldBronze$Voices", "<init>", "()V"⟩ "OldBronze") U ∧ va_Nw (.methodLinkNest RX8 57 ⟨"OldBronze$Sheet", "<init>", "()V"⟩ "OldBronze") U ∧ va_Nw (.methodLinkNest RX8 239 ⟨"OldBronze$Voices", "own", "(III)I"⟩ "OldBronze") U ∧ va_Nw (.fieldLinkNest RX3 79 "OldBronze" "NAMES" "[I" "OldBronze") U ∧ va_Nw (.fieldLinkNest RX6 56 "OldBronze" "BODIES" "[I" "OldBronze") U
def zC (A : Nat → Prop) (U : State) : Prop := zS A U ∧ zN U
theorem zC_m : gZm zC := by
  refine ⟨fun A A' s U locs h hS hW hA => ?_, fun A U g mk a h => ?_⟩
  · obtain ⟨⟨⟨t0, a0, b0⟩, ⟨t1, a1, b1⟩, ⟨t2, a2, b2⟩⟩, n0, n1, n2, n3, n4, n5, n6, n7, n8, n9, n10, n11, n12, n13, n14, n15⟩ := h
    exact ⟨⟨⟨t0, ((a0.kept (fun q h1 h2 => hS.2.1 q h1 h2)).moved hW.alike).narrow hA, ((b0.kept (fun q h1 h2 => hS.2.1 q h1 h2)).moved hW.alike).narrow hA⟩, ⟨t1, ((a1.kept (fun q h1 h2 => hS.2.1 q h1 h2)).moved hW.alike).narrow hA, ((b1.kept (fun q h1 h2 => hS.2.1 q h1 h2)).moved hW.alike).narrow hA⟩, ⟨t2, ((a2.kept (fun q h1 h2 => hS.2.1 q h1 h2)).moved hW.alike).narrow hA, ((b2.kept (fun q h1 h2 => hS.2.1 q h1 h2)).moved hW.alike).narrow hA⟩⟩, va_Nw.warmM hW n0, va_Nw.warmM hW n1, va_Nw.warmM hW n2, va_Nw.warmM hW n3, va_Nw.warmM hW n4, va_Nw.warmM hW n5, va_Nw.warmM hW n6, va_Nw.warmM hW n7, va_Nw.warmM hW n8, va_Nw.warmM hW n9, va_Nw.warmM hW n10, va_Nw.warmM hW n11, va_Nw.warmM hW n12, va_Nw.warmM hW n13, va_Nw.warmF hW n14, va_Nw.warmF hW n15⟩
  · obtain ⟨⟨⟨t0, a0, b0⟩, ⟨t1, a1, b1⟩, ⟨t2, a2, b2⟩⟩, n0, n1, n2, n3, n4, n5, n6, n7, n8, n9, n10, n11, n12, n13, n14, n15⟩ := h
    exact ⟨⟨⟨t0, a0.moved (Vm.Alike.refl U.vm), b0.moved (Vm.Alike.refl U.vm)⟩, ⟨t1, a1.moved (Vm.Alike.refl U.vm), b1.moved (Vm.Alike.refl U.vm)⟩, ⟨t2, a2.moved (Vm.Alike.refl U.vm), b2.moved (Vm.Alike.refl U.vm)⟩⟩, va_Nw.same rfl rfl n0, va_Nw.same rfl rfl n1, va_Nw.same rfl rfl n2, va_Nw.same rfl rfl n3, va_Nw.same rfl rfl n4, va_Nw.same rfl rfl n5, va_Nw.same rfl rfl n6, va_Nw.same rfl rfl n7, va_Nw.same rfl rfl n8, va_Nw.same rfl rfl n9, va_Nw.same rfl rfl n10, va_Nw.same rfl rfl n11, va_Nw.same rfl rfl n12, va_Nw.same rfl rfl n13, va_Nw.same rfl rfl n14, va_Nw.same rfl rfl n15⟩
theorem zn_0 : ∀ (A : Nat → Prop) (u : State), zC A u → va_Nw (.methodLinkNest RX0 32 ⟨"OldBronze", "within", "(III)Z"⟩ "OldBronze") u := fun _ _ h => h.2.1
theorem zn_1 : ∀ (A : Nat → Prop) (u : State), zC A u → va_Nw (.methodLinkNest RX0 66 ⟨"OldBronze", "quotient", "(JJ)I"⟩ "OldBronze") u := fun _ _ h => h.2.2.1
theorem zn_2 : ∀ (A : Nat → Prop) (u : State), zC A u → va_Nw (.methodLinkNest RX1 11 ⟨"OldBronze$Bronze", "<init>", "()V"⟩ "OldBronze") u := fun _ _ h => h.2.2.2.1
theorem zn_3 : ∀ (A : Nat → Prop) (u : State), zC A u → va_Nw (.methodLinkNest RX1 47 ⟨"OldBronze$Worker", "<init>", "()V"⟩ "OldBronze") u := fun _ _ h => h.2.2.2.2.1
theorem zn_4 : ∀ (A : Nat → Prop) (u : State), zC A u → va_Nw (.methodLinkNest RX1 69 ⟨"OldBronze", "quotient", "(JJ)I"⟩ "OldBronze") u := fun _ _ h => h.2.2.2.2.2.1
theorem zn_5 : ∀ (A : Nat → Prop) (u : State), zC A u → va_Nw (.methodLinkNest RX2 11 ⟨"OldBronze$Bronze", "<init>", "()V"⟩ "OldBronze") u := fun _ _ h => h.2.2.2.2.2.2.1
theorem zn_6 : ∀ (A : Nat → Prop) (u : State), zC A u → va_Nw (.methodLinkNest RX6 45 ⟨"OldBronze", "above", "(I)I"⟩ "OldBronze") u := fun _ _ h => h.2.2.2.2.2.2.2.1
theorem zn_7 : ∀ (A : Nat → Prop) (u : State), zC A u → va_Nw (.methodLinkNest RX8 11 ⟨"OldBronze$Forge", "<init>", "()V"⟩ "OldBronze") u := fun _ _ h => h.2.2.2.2.2.2.2.2.1
theorem zn_8 : ∀ (A : Nat → Prop) (u : State), zC A u → va_Nw (.methodLinkNest RX8 21 ⟨"OldBronze$Bronze", "<init>", "()V"⟩ "OldBronze") u := fun _ _ h => h.2.2.2.2.2.2.2.2.2.1
theorem zn_9 : ∀ (A : Nat → Prop) (u : State), zC A u → va_Nw (.methodLinkNest RX8 28 ⟨"OldBronze$Histories", "<init>", "()V"⟩ "OldBronze") u := fun _ _ h => h.2.2.2.2.2.2.2.2.2.2.1
theorem zn_10 : ∀ (A : Nat → Prop) (u : State), zC A u → va_Nw (.methodLinkNest RX8 35 ⟨"OldBronze$Reader", "<init>", "()V"⟩ "OldBronze") u := fun _ _ h => h.2.2.2.2.2.2.2.2.2.2.2.1
theorem zn_11 : ∀ (A : Nat → Prop) (u : State), zC A u → va_Nw (.methodLinkNest RX8 42 ⟨"OldBronze$Voices", "<init>", "()V"⟩ "OldBronze") u := fun _ _ h => h.2.2.2.2.2.2.2.2.2.2.2.2.1
theorem zn_12 : ∀ (A : Nat → Prop) (u : State), zC A u → va_Nw (.methodLinkNest RX8 57 ⟨"OldBronze$Sheet", "<init>", "()V"⟩ "OldBronze") u := fun _ _ h => h.2.2.2.2.2.2.2.2.2.2.2.2.2.1
theorem zn_13 : ∀ (A : Nat → Prop) (u : State), zC A u → va_Nw (.methodLinkNest RX8 239 ⟨"OldBronze$Voices", "own", "(III)I"⟩ "OldBronze") u := fun _ _ h => h.2.2.2.2.2.2.2.2.2.2.2.2.2.2.1
theorem zn_14 : ∀ (A : Nat → Prop) (u : State), zC A u → va_Nw (.fieldLinkNest RX3 79 "OldBronze" "NAMES" "[I" "OldBronze") u := fun _ _ h => h.2.2.2.2.2.2.2.2.2.2.2.2.2.2.2.1
theorem zn_15 : ∀ (A : Nat → Prop) (u : State), zC A u → va_Nw (.fieldLinkNest RX6 56 "OldBronze" "BODIES" "[I" "OldBronze") u := fun _ _ h => h.2.2.2.2.2.2.2.2.2.2.2.2.2.2.2.2
section CF
variable {p : Program} {l : Launch} {e : Env} {R : Room} {s : State} {m : MethodId} {args : Array Value} {below : List Frame} {meth : Method} {c : Code} {Q : State → Prop}
variable {D : va_G} {tys : List (ClassId × FieldType)} {A : Nat → Prop} {nL : Nat} {cc : ByteArray}
variable {pc : Nat} {lv : List (Nat × Value)} {st : List Value} {M : gSt} {ad : Nat → Nat} {cI cS : ClassId}
theorem cf_X0_9 (C : gC p R s m args c D clC tys A (wC ad cI cS) nL cc RX0 tC zC) {o : Nat} (ho : isBronze o) (hd : decode cc pc = .ok (.getfield 9, 3)) (kk : gG p l e R s m args below meth c Q D clC A (wC ad cI cS) nL (pc + 3) lv (.ref (ad (o + 1)) :: st) M) : gG p l e R s m args below meth c Q D clC A (wC ad cI cS) nL pc lv (.ref (ad o) :: st) M :=
  g_getf C (o := o) (k := 0) (T := TX0) ho.1 ho.2.1 rfl (by decide) inX0 wc_5 rfl hd rfl kk
theorem cf_X0_15 (C : gC p R s m args c D clC tys A (wC ad cI cS) nL cc RX0 tC zC) {o : Nat} (ho : isBronze o) (hd : decode cc pc = .ok (.getfield 15, 3)) (kk : gG p l e R s m args below meth c Q D clC A (wC ad cI cS) nL (pc + 3) lv (iv (M o 4) :: st) M) : gG p l e R s m args below meth c Q D clC A (wC ad cI cS) nL pc lv (.ref (ad o) :: st) M :=
  g_getf C (o := o) (k := 4) (T := TX0) ho.1 ho.2.1 rfl (by decide) inX0 wc_6 rfl hd rfl kk
theorem cp_X0_15 (C : gC p R s m args c D clC tys A (wC ad cI cS) nL cc RX0 tC zC) {o : Nat} (ho : isBronze o) {x : Int} (hd : decode cc pc = .ok (.putfield 15, 3)) (kk : gG p l e R s m args below meth c Q D clC A (wC ad cI cS) nL (pc + 3) lv st (wr M o 4 x)) : gG p l e R s m args below meth c Q D clC A (wC ad cI cS) nL pc lv (iv x :: .ref (ad o) :: st) M :=
  g_putf C (o := o) (k := 4) (T := TX0) (ty := .int) ho.1 ho.2.1 rfl (by decide) inX0 tyX0 tyX0_ok nmX0 wc_6 rfl rfl (by decide +kernel) rfl hd ⟨rfl, rfl⟩ kk
theorem cf_X0_19 (C : gC p R s m args c D clC tys A (wC ad cI cS) nL cc RX0 tC zC) {o : Nat} (ho : isBronze o) (hd : decode cc pc = .ok (.getfield 19, 3)) (kk : gG p l e R s m args below meth c Q D clC A (wC ad cI cS) nL (pc + 3) lv (iv (M o 1) :: st) M) : gG p l e R s m args below meth c Q D clC A (wC ad cI cS) nL pc lv (.ref (ad o) :: st) M :=
  g_getf C (o := o) (k := 1) (T := TX0) ho.1 ho.2.1 rfl (by decide) inX0 wc_8 rfl hd rfl kk
theorem cp_X0_19 (C : gC p R s m args c D clC tys A (wC ad cI cS) nL cc RX0 tC zC) {o : Nat} (ho : isBronze o) {x : Int} (hd : decode cc pc = .ok (.putfield 19, 3)) (kk : gG p l e R s m args below meth c Q D clC A (wC ad cI cS) nL (pc + 3) lv st (wr M o 1 x)) : gG p l e R s m args below meth c Q D clC A (wC ad cI cS) nL pc lv (iv x :: .ref (ad o) :: st) M :=
  g_putf C (o := o) (k := 1) (T := TX0) (ty := .int) ho.1 ho.2.1 rfl (by decide) inX0 tyX0 tyX0_ok nmX0 wc_8 rfl rfl (by decide +kernel) rfl hd ⟨rfl, rfl⟩ kk
theorem cf_X0_22 (C : gC p R s m args c D clC tys A (wC ad cI cS) nL cc RX0 tC zC) {o : Nat} (ho : isBronze o) (hd : decode cc pc = .ok (.getfield 22, 3)) (kk : gG p l e R s m args below meth c Q D clC A (wC ad cI cS) nL (pc + 3) lv (iv (M o 2) :: st) M) : gG p l e R s m args below meth c Q D clC A (wC ad cI cS) nL pc lv (.ref (ad o) :: st) M :=
  g_getf C (o := o) (k := 2) (T := TX0) ho.1 ho.2.1 rfl (by decide) inX0 wc_12 rfl hd rfl kk
theorem cp_X0_22 (C : gC p R s m args c D clC tys A (wC ad cI cS) nL cc RX0 tC zC) {o : Nat} (ho : isBronze o) {x : Int} (hd : decode cc pc = .ok (.putfield 22, 3)) (kk : gG p l e R s m args below meth c Q D clC A (wC ad cI cS) nL (pc + 3) lv st (wr M o 2 x)) : gG p l e R s m args below meth c Q D clC A (wC ad cI cS) nL pc lv (iv x :: .ref (ad o) :: st) M :=
  g_putf C (o := o) (k := 2) (T := TX0) (ty := .int) ho.1 ho.2.1 rfl (by decide) inX0 tyX0 tyX0_ok nmX0 wc_12 rfl rfl (by decide +kernel) rfl hd ⟨rfl, rfl⟩ kk
theorem cf_X0_25 (C : gC p R s m args c D clC tys A (wC ad cI cS) nL cc RX0 tC zC) {o : Nat} (ho : isBronze o) (hd : decode cc pc = .ok (.getfield 25, 3)) (kk : gG p l e R s m args below meth c Q D clC A (wC ad cI cS) nL (pc + 3) lv (iv (M o 3) :: st) M) : gG p l e R s m args below meth c Q D clC A (wC ad cI cS) nL pc lv (.ref (ad o) :: st) M :=
  g_getf C (o := o) (k := 3) (T := TX0) ho.1 ho.2.1 rfl (by decide) inX0 wc_14 rfl hd rfl kk
theorem cp_X0_25 (C : gC p R s m args c D clC tys A (wC ad cI cS) nL cc RX0 tC zC) {o : Nat} (ho : isBronze o) {x : Int} (hd : decode cc pc = .ok (.putfield 25, 3)) (kk : gG p l e R s m args below meth c Q D clC A (wC ad cI cS) nL (pc + 3) lv st (wr M o 3 x)) : gG p l e R s m args below meth c Q D clC A (wC ad cI cS) nL pc lv (iv x :: .ref (ad o) :: st) M :=
  g_putf C (o := o) (k := 3) (T := TX0) (ty := .int) ho.1 ho.2.1 rfl (by decide) inX0 tyX0 tyX0_ok nmX0 wc_14 rfl rfl (by decide +kernel) rfl hd ⟨rfl, rfl⟩ kk
theorem cf_X1_12 (C : gC p R s m args c D clC tys A (wC ad cI cS) nL cc RX1 tC zC) {o : Nat} (ho : isForge o) (hd : decode cc pc = .ok (.getfield 12, 3)) (kk : gG p l e R s m args below meth c Q D clC A (wC ad cI cS) nL (pc + 3) lv (.ref (ad (o + 1)) :: st) M) : gG p l e R s m args below meth c Q D clC A (wC ad cI cS) nL pc lv (.ref (ad o) :: st) M :=
  g_getf C (o := o) (k := 0) (T := TX1) ho.1 ho.2 rfl (by decide) inX1 wc_102 rfl hd rfl kk
theorem cf_X1_23 (C : gC p R s m args c D clC tys A (wC ad cI cS) nL cc RX1 tC zC) {o : Nat} (ho : isForge o) (hd : decode cc pc = .ok (.getfield 23, 3)) (kk : gG p l e R s m args below meth c Q D clC A (wC ad cI cS) nL (pc + 3) lv (.ref (ad (o + 3)) :: st) M) : gG p l e R s m args below meth c Q D clC A (wC ad cI cS) nL pc lv (.ref (ad o) :: st) M :=
  g_getf C (o := o) (k := 1) (T := TX1) ho.1 ho.2 rfl (by decide) inX1 wc_106 rfl hd rfl kk
theorem cf_X1_27 (C : gC p R s m args c D clC tys A (wC ad cI cS) nL cc RX1 tC zC) {o : Nat} (ho : isForge o) (hd : decode cc pc = .ok (.getfield 27, 3)) (kk : gG p l e R s m args below meth c Q D clC A (wC ad cI cS) nL (pc + 3) lv (.ref (ad (o + 5)) :: st) M) : gG p l e R s m args below meth c Q D clC A (wC ad cI cS) nL pc lv (.ref (ad o) :: st) M :=
  g_getf C (o := o) (k := 2) (T := TX1) ho.1 ho.2 rfl (by decide) inX1 wc_107 rfl hd rfl kk
theorem cf_X1_30 (C : gC p R s m args c D clC tys A (wC ad cI cS) nL cc RX1 tC zC) {o : Nat} (ho : isForge o) (hd : decode cc pc = .ok (.getfield 30, 3)) (kk : gG p l e R s m args below meth c Q D clC A (wC ad cI cS) nL (pc + 3) lv (.ref (ad (o + 7)) :: st) M) : gG p l e R s m args below meth c Q D clC A (wC ad cI cS) nL pc lv (.ref (ad o) :: st) M :=
  g_getf C (o := o) (k := 3) (T := TX1) ho.1 ho.2 rfl (by decide) inX1 wc_108 rfl hd rfl kk
theorem cf_X1_33 (C : gC p R s m args c D clC tys A (wC ad cI cS) nL cc RX1 tC zC) {o : Nat} (ho : isForge o) (hd : decode cc pc = .ok (.getfield 33, 3)) (kk : gG p l e R s m args below meth c Q D clC A (wC ad cI cS) nL (pc + 3) lv (.ref (ad (o + 9)) :: st) M) : gG p l e R s m args below meth c Q D clC A (wC ad cI cS) nL pc lv (.ref (ad o) :: st) M :=
  g_getf C (o := o) (k := 4) (T := TX1) ho.1 ho.2 rfl (by decide) inX1 wc_109 rfl hd rfl kk
theorem cf_X1_36 (C : gC p R s m args c D clC tys A (wC ad cI cS) nL cc RX1 tC zC) {o : Nat} (ho : isForge o) (hd : decode cc pc = .ok (.getfield 36, 3)) (kk : gG p l e R s m args below meth c Q D clC A (wC ad cI cS) nL (pc + 3) lv (.ref (ad (o + 11)) :: st) M) : gG p l e R s m args below meth c Q D clC A (wC ad cI cS) nL pc lv (.ref (ad o) :: st) M :=
  g_getf C (o := o) (k := 5) (T := TX1) ho.1 ho.2 rfl (by decide) inX1 wc_110 rfl hd rfl kk
theorem cf_X1_39 (C : gC p R s m args c D clC tys A (wC ad cI cS) nL cc RX1 tC zC) {o : Nat} (ho : isForge o) (hd : decode cc pc = .ok (.getfield 39, 3)) (kk : gG p l e R s m args below meth c Q D clC A (wC ad cI cS) nL (pc + 3) lv (.ref (ad (o + 13)) :: st) M) : gG p l e R s m args below meth c Q D clC A (wC ad cI cS) nL pc lv (.ref (ad o) :: st) M :=
  g_getf C (o := o) (k := 6) (T := TX1) ho.1 ho.2 rfl (by decide) inX1 wc_111 rfl hd rfl kk
theorem cf_X1_42 (C : gC p R s m args c D clC tys A (wC ad cI cS) nL cc RX1 tC zC) {o : Nat} (ho : isForge o) (hd : decode cc pc = .ok (.getfield 42, 3)) (kk : gG p l e R s m args below meth c Q D clC A (wC ad cI cS) nL (pc + 3) lv (.ref (ad (o + 15)) :: st) M) : gG p l e R s m args below meth c Q D clC A (wC ad cI cS) nL pc lv (.ref (ad o) :: st) M :=
  g_getf C (o := o) (k := 7) (T := TX1) ho.1 ho.2 rfl (by decide) inX1 wc_112 rfl hd rfl kk
theorem cf_X1_48 (C : gC p R s m args c D clC tys A (wC ad cI cS) nL cc RX1 tC zC) {o : Nat} (ho : isForge o) (hd : decode cc pc = .ok (.getfield 48, 3)) (kk : gG p l e R s m args below meth c Q D clC A (wC ad cI cS) nL (pc + 3) lv (.ref (ad (o + 17)) :: st) M) : gG p l e R s m args below meth c Q D clC A (wC ad cI cS) nL pc lv (.ref (ad o) :: st) M :=
  g_getf C (o := o) (k := 8) (T := TX1) ho.1 ho.2 rfl (by decide) inX1 wc_116 rfl hd rfl kk
theorem cf_X2_12 (C : gC p R s m args c D clC tys A (wC ad cI cS) nL cc RX2 tC zC) {o : Nat} (ho : isHistories o) (hd : decode cc pc = .ok (.getfield 12, 3)) (kk : gG p l e R s m args below meth c Q D clC A (wC ad cI cS) nL (pc + 3) lv (.ref (ad (o + 1)) :: st) M) : gG p l e R s m args below meth c Q D clC A (wC ad cI cS) nL pc lv (.ref (ad o) :: st) M :=
  g_getf C (o := o) (k := 0) (T := TX2) ho.1 ho.2.1 rfl (by decide) inX2 wc_195 rfl hd rfl kk
theorem cf_X2_23 (C : gC p R s m args c D clC tys A (wC ad cI cS) nL cc RX2 tC zC) {o : Nat} (ho : isHistories o) (hd : decode cc pc = .ok (.getfield 23, 3)) (kk : gG p l e R s m args below meth c Q D clC A (wC ad cI cS) nL (pc + 3) lv (.ref (ad (o + 3)) :: st) M) : gG p l e R s m args below meth c Q D clC A (wC ad cI cS) nL pc lv (.ref (ad o) :: st) M :=
  g_getf C (o := o) (k := 1) (T := TX2) ho.1 ho.2.1 rfl (by decide) inX2 wc_197 rfl hd rfl kk
theorem cf_X2_27 (C : gC p R s m args c D clC tys A (wC ad cI cS) nL cc RX2 tC zC) {o : Nat} (ho : isHistories o) (hd : decode cc pc = .ok (.getfield 27, 3)) (kk : gG p l e R s m args below meth c Q D clC A (wC ad cI cS) nL (pc + 3) lv (.ref (ad (o + 5)) :: st) M) : gG p l e R s m args below meth c Q D clC A (wC ad cI cS) nL pc lv (.ref (ad o) :: st) M :=
  g_getf C (o := o) (k := 2) (T := TX2) ho.1 ho.2.1 rfl (by decide) inX2 wc_198 rfl hd rfl kk
theorem cf_X2_31 (C : gC p R s m args c D clC tys A (wC ad cI cS) nL cc RX2 tC zC) {o : Nat} (ho : isForge o) (hd : decode cc pc = .ok (.getfield 31, 3)) (kk : gG p l e R s m args below meth c Q D clC A (wC ad cI cS) nL (pc + 3) lv (.ref (ad (o + 1)) :: st) M) : gG p l e R s m args below meth c Q D clC A (wC ad cI cS) nL pc lv (.ref (ad o) :: st) M :=
  g_getf C (o := o) (k := 0) (T := TX1) ho.1 ho.2 rfl (by decide) inX1 wc_201 rfl hd rfl kk
theorem cf_X2_40 (C : gC p R s m args c D clC tys A (wC ad cI cS) nL cc RX2 tC zC) {o : Nat} (ho : isForge o) (hd : decode cc pc = .ok (.getfield 40, 3)) (kk : gG p l e R s m args below meth c Q D clC A (wC ad cI cS) nL (pc + 3) lv (.ref (ad (o + 7)) :: st) M) : gG p l e R s m args below meth c Q D clC A (wC ad cI cS) nL pc lv (.ref (ad o) :: st) M :=
  g_getf C (o := o) (k := 3) (T := TX1) ho.1 ho.2 rfl (by decide) inX1 wc_202 rfl hd rfl kk
theorem cf_X2_65 (C : gC p R s m args c D clC tys A (wC ad cI cS) nL cc RX2 tC zC) {o : Nat} (ho : isForge o) (hd : decode cc pc = .ok (.getfield 65, 3)) (kk : gG p l e R s m args below meth c Q D clC A (wC ad cI cS) nL (pc + 3) lv (.ref (ad (o + 9)) :: st) M) : gG p l e R s m args below meth c Q D clC A (wC ad cI cS) nL pc lv (.ref (ad o) :: st) M :=
  g_getf C (o := o) (k := 4) (T := TX1) ho.1 ho.2 rfl (by decide) inX1 wc_227 rfl hd rfl kk
theorem cf_X3_14 (C : gC p R s m args c D clC tys A (wC ad cI cS) nL cc RX3 tC zC) {o : Nat} (ho : isReader o) (hd : decode cc pc = .ok (.getfield 14, 3)) (kk : gG p l e R s m args below meth c Q D clC A (wC ad cI cS) nL (pc + 3) lv (.ref (ad (o + 1)) :: st) M) : gG p l e R s m args below meth c Q D clC A (wC ad cI cS) nL pc lv (.ref (ad o) :: st) M :=
  g_getf C (o := o) (k := 0) (T := TX3) ho.1 ho.2 rfl (by decide) inX3 wc_273 rfl hd rfl kk
theorem cf_X3_20 (C : gC p R s m args c D clC tys A (wC ad cI cS) nL cc RX3 tC zC) {o : Nat} (ho : isReader o) (hd : decode cc pc = .ok (.getfield 20, 3)) (kk : gG p l e R s m args below meth c Q D clC A (wC ad cI cS) nL (pc + 3) lv (.ref (ad (o + 3)) :: st) M) : gG p l e R s m args below meth c Q D clC A (wC ad cI cS) nL pc lv (.ref (ad o) :: st) M :=
  g_getf C (o := o) (k := 1) (T := TX3) ho.1 ho.2 rfl (by decide) inX3 wc_274 rfl hd rfl kk
theorem cf_X3_30 (C : gC p R s m args c D clC tys A (wC ad cI cS) nL cc RX3 tC zC) {o : Nat} (ho : isReader o) (hd : decode cc pc = .ok (.getfield 30, 3)) (kk : gG p l e R s m args below meth c Q D clC A (wC ad cI cS) nL (pc + 3) lv (iv (M o 2) :: st) M) : gG p l e R s m args below meth c Q D clC A (wC ad cI cS) nL pc lv (.ref (ad o) :: st) M :=
  g_getf C (o := o) (k := 2) (T := TX3) ho.1 ho.2 rfl (by decide) inX3 wc_291 rfl hd rfl kk
theorem cp_X3_30 (C : gC p R s m args c D clC tys A (wC ad cI cS) nL cc RX3 tC zC) {o : Nat} (ho : isReader o) {x : Int} (hd : decode cc pc = .ok (.putfield 30, 3)) (kk : gG p l e R s m args below meth c Q D clC A (wC ad cI cS) nL (pc + 3) lv st (wr M o 2 x)) : gG p l e R s m args below meth c Q D clC A (wC ad cI cS) nL pc lv (iv x :: .ref (ad o) :: st) M :=
  g_putf C (o := o) (k := 2) (T := TX3) (ty := .int) ho.1 ho.2 rfl (by decide) inX3 tyX3 tyX3_ok nmX3 wc_291 rfl rfl (by decide +kernel) rfl hd ⟨rfl, rfl⟩ kk
theorem cf_X3_34 (C : gC p R s m args c D clC tys A (wC ad cI cS) nL cc RX3 tC zC) {o : Nat} (ho : isReader o) (hd : decode cc pc = .ok (.getfield 34, 3)) (kk : gG p l e R s m args below meth c Q D clC A (wC ad cI cS) nL (pc + 3) lv (iv (M o 3) :: st) M) : gG p l e R s m args below meth c Q D clC A (wC ad cI cS) nL pc lv (.ref (ad o) :: st) M :=
  g_getf C (o := o) (k := 3) (T := TX3) ho.1 ho.2 rfl (by decide) inX3 wc_277 rfl hd rfl kk
theorem cp_X3_34 (C : gC p R s m args c D clC tys A (wC ad cI cS) nL cc RX3 tC zC) {o : Nat} (ho : isReader o) {x : Int} (hd : decode cc pc = .ok (.putfield 34, 3)) (kk : gG p l e R s m args below meth c Q D clC A (wC ad cI cS) nL (pc + 3) lv st (wr M o 3 x)) : gG p l e R s m args below meth c Q D clC A (wC ad cI cS) nL pc lv (iv x :: .ref (ad o) :: st) M :=
  g_putf C (o := o) (k := 3) (T := TX3) (ty := .int) ho.1 ho.2 rfl (by decide) inX3 tyX3 tyX3_ok nmX3 wc_277 rfl rfl (by decide +kernel) rfl hd ⟨rfl, rfl⟩ kk
theorem cf_X4_13 (C : gC p R s m args c D clC tys A (wC ad cI cS) nL cc RX4 tC zC) {o : Nat} (ho : isRows o) (hd : decode cc pc = .ok (.getfield 13, 3)) (kk : gG p l e R s m args below meth c Q D clC A (wC ad cI cS) nL (pc + 3) lv (iv (M o 2) :: st) M) : gG p l e R s m args below meth c Q D clC A (wC ad cI cS) nL pc lv (.ref (ad o) :: st) M :=
  g_getf C (o := o) (k := 2) (T := TX4) ho.1 ho.2.1 rfl (by decide) inX4 wc_93 rfl hd rfl kk
theorem cf_X4_19 (C : gC p R s m args c D clC tys A (wC ad cI cS) nL cc RX4 tC zC) {o : Nat} (ho : isRows o) (hd : decode cc pc = .ok (.getfield 19, 3)) (kk : gG p l e R s m args below meth c Q D clC A (wC ad cI cS) nL (pc + 3) lv (iv (M o 0) :: st) M) : gG p l e R s m args below meth c Q D clC A (wC ad cI cS) nL pc lv (.ref (ad o) :: st) M :=
  g_getf C (o := o) (k := 0) (T := TX4) ho.1 ho.2.1 rfl (by decide) inX4 wc_94 rfl hd rfl kk
theorem cf_X4_22 (C : gC p R s m args c D clC tys A (wC ad cI cS) nL cc RX4 tC zC) {o : Nat} (ho : isRows o) (hd : decode cc pc = .ok (.getfield 22, 3)) (kk : gG p l e R s m args below meth c Q D clC A (wC ad cI cS) nL (pc + 3) lv (.ref (ad (o + 1)) :: st) M) : gG p l e R s m args below meth c Q D clC A (wC ad cI cS) nL pc lv (.ref (ad o) :: st) M :=
  g_getf C (o := o) (k := 1) (T := TX4) ho.1 ho.2.1 rfl (by decide) inX4 wc_95 rfl hd rfl kk
theorem cf_X4_26 (C : gC p R s m args c D clC tys A (wC ad cI cS) nL cc RX4 tC zC) {o : Nat} (ho : isRows o) (hd : decode cc pc = .ok (.getfield 26, 3)) (kk : gG p l e R s m args below meth c Q D clC A (wC ad cI cS) nL (pc + 3) lv (iv (M o 3) :: st) M) : gG p l e R s m args below meth c Q D clC A (wC ad cI cS) nL pc lv (.ref (ad o) :: st) M :=
  g_getf C (o := o) (k := 3) (T := TX4) ho.1 ho.2.1 rfl (by decide) inX4 wc_124 rfl hd rfl kk
theorem cp_X4_26 (C : gC p R s m args c D clC tys A (wC ad cI cS) nL cc RX4 tC zC) {o : Nat} (ho : isRows o) {x : Int} (hd : decode cc pc = .ok (.putfield 26, 3)) (kk : gG p l e R s m args below meth c Q D clC A (wC ad cI cS) nL (pc + 3) lv st (wr M o 3 x)) : gG p l e R s m args below meth c Q D clC A (wC ad cI cS) nL pc lv (iv x :: .ref (ad o) :: st) M :=
  g_putf C (o := o) (k := 3) (T := TX4) (ty := .int) ho.1 ho.2.1 rfl (by decide) inX4 tyX4 tyX4_ok nmX4 wc_124 rfl rfl (by decide +kernel) rfl hd ⟨rfl, rfl⟩ kk
theorem cf_X5_9 (C : gC p R s m args c D clC tys A (wC ad cI cS) nL cc RX5 tC zC) {o : Nat} (ho : isSheet o) (hd : decode cc pc = .ok (.getfield 9, 3)) (kk : gG p l e R s m args below meth c Q D clC A (wC ad cI cS) nL (pc + 3) lv (.ref (ad (o + 1)) :: st) M) : gG p l e R s m args below meth c Q D clC A (wC ad cI cS) nL pc lv (.ref (ad o) :: st) M :=
  g_getf C (o := o) (k := 0) (T := TX5) ho.1 ho.2.1 rfl (by decide) inX5 wc_319 rfl hd rfl kk
theorem cf_X5_15 (C : gC p R s m args c D clC tys A (wC ad cI cS) nL cc RX5 tC zC) {o : Nat} (ho : isSheet o) (hd : decode cc pc = .ok (.getfield 15, 3)) (kk : gG p l e R s m args below meth c Q D clC A (wC ad cI cS) nL (pc + 3) lv (iv (M o 1) :: st) M) : gG p l e R s m args below meth c Q D clC A (wC ad cI cS) nL pc lv (.ref (ad o) :: st) M :=
  g_getf C (o := o) (k := 1) (T := TX5) ho.1 ho.2.1 rfl (by decide) inX5 wc_322 rfl hd rfl kk
theorem cp_X5_15 (C : gC p R s m args c D clC tys A (wC ad cI cS) nL cc RX5 tC zC) {o : Nat} (ho : isSheet o) {x : Int} (hd : decode cc pc = .ok (.putfield 15, 3)) (kk : gG p l e R s m args below meth c Q D clC A (wC ad cI cS) nL (pc + 3) lv st (wr M o 1 x)) : gG p l e R s m args below meth c Q D clC A (wC ad cI cS) nL pc lv (iv x :: .ref (ad o) :: st) M :=
  g_putf C (o := o) (k := 1) (T := TX5) (ty := .int) ho.1 ho.2.1 rfl (by decide) inX5 tyX5 tyX5_ok nmX5 wc_322 rfl rfl (by decide +kernel) rfl hd ⟨rfl, rfl⟩ kk
theorem cf_X5_28 (C : gC p R s m args c D clC tys A (wC ad cI cS) nL cc RX5 tC zC) {o : Nat} (ho : isSheet o) (hd : decode cc pc = .ok (.getfield 28, 3)) (kk : gG p l e R s m args below meth c Q D clC A (wC ad cI cS) nL (pc + 3) lv (iv (M o 2) :: st) M) : gG p l e R s m args below meth c Q D clC A (wC ad cI cS) nL pc lv (.ref (ad o) :: st) M :=
  g_getf C (o := o) (k := 2) (T := TX5) ho.1 ho.2.1 rfl (by decide) inX5 wc_325 rfl hd rfl kk
theorem cp_X5_28 (C : gC p R s m args c D clC tys A (wC ad cI cS) nL cc RX5 tC zC) {o : Nat} (ho : isSheet o) {x : Int} (hd : decode cc pc = .ok (.putfield 28, 3)) (kk : gG p l e R s m args below meth c Q D clC A (wC ad cI cS) nL (pc + 3) lv st (wr M o 2 x)) : gG p l e R s m args below meth c Q D clC A (wC ad cI cS) nL pc lv (iv x :: .ref (ad o) :: st) M :=
  g_putf C (o := o) (k := 2) (T := TX5) (ty := .int) ho.1 ho.2.1 rfl (by decide) inX5 tyX5 tyX5_ok nmX5 wc_325 rfl rfl (by decide +kernel) rfl hd ⟨rfl, rfl⟩ kk
theorem cf_X6_14 (C : gC p R s m args c D clC tys A (wC ad cI cS) nL cc RX6 tC zC) {o : Nat} (ho : isVoices o) (hd : decode cc pc = .ok (.getfield 14, 3)) (kk : gG p l e R s m args below meth c Q D clC A (wC ad cI cS) nL (pc + 3) lv (.ref (ad (o + 1)) :: st) M) : gG p l e R s m args below meth c Q D clC A (wC ad cI cS) nL pc lv (.ref (ad o) :: st) M :=
  g_getf C (o := o) (k := 0) (T := TX6) ho.1 ho.2 rfl (by decide) inX6 wc_348 rfl hd rfl kk
theorem cf_X6_23 (C : gC p R s m args c D clC tys A (wC ad cI cS) nL cc RX6 tC zC) {o : Nat} (ho : isVoices o) (hd : decode cc pc = .ok (.getfield 23, 3)) (kk : gG p l e R s m args below meth c Q D clC A (wC ad cI cS) nL (pc + 3) lv (iv (M o 1) :: st) M) : gG p l e R s m args below meth c Q D clC A (wC ad cI cS) nL pc lv (.ref (ad o) :: st) M :=
  g_getf C (o := o) (k := 1) (T := TX6) ho.1 ho.2 rfl (by decide) inX6 wc_351 rfl hd rfl kk
theorem cp_X6_23 (C : gC p R s m args c D clC tys A (wC ad cI cS) nL cc RX6 tC zC) {o : Nat} (ho : isVoices o) {x : Int} (hd : decode cc pc = .ok (.putfield 23, 3)) (kk : gG p l e R s m args below meth c Q D clC A (wC ad cI cS) nL (pc + 3) lv st (wr M o 1 x)) : gG p l e R s m args below meth c Q D clC A (wC ad cI cS) nL pc lv (iv x :: .ref (ad o) :: st) M :=
  g_putf C (o := o) (k := 1) (T := TX6) (ty := .int) ho.1 ho.2 rfl (by decide) inX6 tyX6 tyX6_ok nmX6 wc_351 rfl rfl (by decide +kernel) rfl hd ⟨rfl, rfl⟩ kk
theorem cf_X6_27 (C : gC p R s m args c D clC tys A (wC ad cI cS) nL cc RX6 tC zC) {o : Nat} (ho : isVoices o) (hd : decode cc pc = .ok (.getfield 27, 3)) (kk : gG p l e R s m args below meth c Q D clC A (wC ad cI cS) nL (pc + 3) lv (iv (M o 2) :: st) M) : gG p l e R s m args below meth c Q D clC A (wC ad cI cS) nL pc lv (.ref (ad o) :: st) M :=
  g_getf C (o := o) (k := 2) (T := TX6) ho.1 ho.2 rfl (by decide) inX6 wc_352 rfl hd rfl kk
theorem cp_X6_27 (C : gC p R s m args c D clC tys A (wC ad cI cS) nL cc RX6 tC zC) {o : Nat} (ho : isVoices o) {x : Int} (hd : decode cc pc = .ok (.putfield 27, 3)) (kk : gG p l e R s m args below meth c Q D clC A (wC ad cI cS) nL (pc + 3) lv st (wr M o 2 x)) : gG p l e R s m args below meth c Q D clC A (wC ad cI cS) nL pc lv (iv x :: .ref (ad o) :: st) M :=
  g_putf C (o := o) (k := 2) (T := TX6) (ty := .int) ho.1 ho.2 rfl (by decide) inX6 tyX6 tyX6_ok nmX6 wc_352 rfl rfl (by decide +kernel) rfl hd ⟨rfl, rfl⟩ kk
theorem cf_X6_30 (C : gC p R s m args c D clC tys A (wC ad cI cS) nL cc RX6 tC zC) {o : Nat} (ho : isVoices o) (hd : decode cc pc = .ok (.getfield 30, 3)) (kk : gG p l e R s m args below meth c Q D clC A (wC ad cI cS) nL (pc + 3) lv (iv (M o 3) :: st) M) : gG p l e R s m args below meth c Q D clC A (wC ad cI cS) nL pc lv (.ref (ad o) :: st) M :=
  g_getf C (o := o) (k := 3) (T := TX6) ho.1 ho.2 rfl (by decide) inX6 wc_353 rfl hd rfl kk
theorem cp_X6_30 (C : gC p R s m args c D clC tys A (wC ad cI cS) nL cc RX6 tC zC) {o : Nat} (ho : isVoices o) {x : Int} (hd : decode cc pc = .ok (.putfield 30, 3)) (kk : gG p l e R s m args below meth c Q D clC A (wC ad cI cS) nL (pc + 3) lv st (wr M o 3 x)) : gG p l e R s m args below meth c Q D clC A (wC ad cI cS) nL pc lv (iv x :: .ref (ad o) :: st) M :=
  g_putf C (o := o) (k := 3) (T := TX6) (ty := .int) ho.1 ho.2 rfl (by decide) inX6 tyX6 tyX6_ok nmX6 wc_353 rfl rfl (by decide +kernel) rfl hd ⟨rfl, rfl⟩ kk
theorem cf_X6_33 (C : gC p R s m args c D clC tys A (wC ad cI cS) nL cc RX6 tC zC) {o : Nat} (ho : isVoices o) (hd : decode cc pc = .ok (.getfield 33, 3)) (kk : gG p l e R s m args below meth c Q D clC A (wC ad cI cS) nL (pc + 3) lv (iv (M o 4) :: st) M) : gG p l e R s m args below meth c Q D clC A (wC ad cI cS) nL pc lv (.ref (ad o) :: st) M :=
  g_getf C (o := o) (k := 4) (T := TX6) ho.1 ho.2 rfl (by decide) inX6 wc_354 rfl hd rfl kk
theorem cp_X6_33 (C : gC p R s m args c D clC tys A (wC ad cI cS) nL cc RX6 tC zC) {o : Nat} (ho : isVoices o) {x : Int} (hd : decode cc pc = .ok (.putfield 33, 3)) (hn : narrow .boolean (iv x) = iv x ∧ fits .boolean (iv x) = true) (kk : gG p l e R s m args below meth c Q D clC A (wC ad cI cS) nL (pc + 3) lv st (wr M o 4 x)) : gG p l e R s m args below meth c Q D clC A (wC ad cI cS) nL pc lv (iv x :: .ref (ad o) :: st) M :=
  g_putf C (o := o) (k := 4) (T := TX6) (ty := .boolean) ho.1 ho.2 rfl (by decide) inX6 tyX6 tyX6_ok nmX6 wc_354 rfl rfl (by decide +kernel) rfl hd hn kk
theorem cf_X7_9 (C : gC p R s m args c D clC tys A (wC ad cI cS) nL cc RX7 tC zC) {o : Nat} (ho : isWorker o) (hd : decode cc pc = .ok (.getfield 9, 3)) (kk : gG p l e R s m args below meth c Q D clC A (wC ad cI cS) nL (pc + 3) lv (.ref (ad (o + 1)) :: st) M) : gG p l e R s m args below meth c Q D clC A (wC ad cI cS) nL pc lv (.ref (ad o) :: st) M :=
  g_getf C (o := o) (k := 0) (T := TX7) ho.1 ho.2.1 rfl (by decide) inX7 wc_98 rfl hd rfl kk
theorem cf_X7_15 (C : gC p R s m args c D clC tys A (wC ad cI cS) nL cc RX7 tC zC) {o : Nat} (ho : isWorker o) (hd : decode cc pc = .ok (.getfield 15, 3)) (kk : gG p l e R s m args below meth c Q D clC A (wC ad cI cS) nL (pc + 3) lv (iv (M o 1) :: st) M) : gG p l e R s m args below meth c Q D clC A (wC ad cI cS) nL pc lv (.ref (ad o) :: st) M :=
  g_getf C (o := o) (k := 1) (T := TX7) ho.1 ho.2.1 rfl (by decide) inX7 wc_136 rfl hd rfl kk
theorem cp_X7_15 (C : gC p R s m args c D clC tys A (wC ad cI cS) nL cc RX7 tC zC) {o : Nat} (ho : isWorker o) {x : Int} (hd : decode cc pc = .ok (.putfield 15, 3)) (kk : gG p l e R s m args below meth c Q D clC A (wC ad cI cS) nL (pc + 3) lv st (wr M o 1 x)) : gG p l e R s m args below meth c Q D clC A (wC ad cI cS) nL pc lv (iv x :: .ref (ad o) :: st) M :=
  g_putf C (o := o) (k := 1) (T := TX7) (ty := .int) ho.1 ho.2.1 rfl (by decide) inX7 tyX7 tyX7_ok nmX7 wc_136 rfl rfl (by decide +kernel) rfl hd ⟨rfl, rfl⟩ kk
theorem cf_X8_12 (C : gC p R s m args c D clC tys A (wC ad cI cS) nL cc RX8 tC zC) {o : Nat} (ho : isOldBronze o) (hd : decode cc pc = .ok (.getfield 12, 3)) (kk : gG p l e R s m args below meth c Q D clC A (wC ad cI cS) nL (pc + 3) lv (.ref (ad (o + 1)) :: st) M) : gG p l e R s m args below meth c Q D clC A (wC ad cI cS) nL pc lv (.ref (ad o) :: st) M :=
  g_getf C (o := o) (k := 0) (T := TX8) ho.1 ho.2.1 rfl (by decide) inX8 wc_385 rfl hd rfl kk
theorem cf_X8_16 (C : gC p R s m args c D clC tys A (wC ad cI cS) nL cc RX8 tC zC) {o : Nat} (ho : isOldBronze o) (hd : decode cc pc = .ok (.getfield 16, 3)) (kk : gG p l e R s m args below meth c Q D clC A (wC ad cI cS) nL (pc + 3) lv (.ref (ad (o + 20)) :: st) M) : gG p l e R s m args below meth c Q D clC A (wC ad cI cS) nL pc lv (.ref (ad o) :: st) M :=
  g_getf C (o := o) (k := 1) (T := TX8) ho.1 ho.2.1 rfl (by decide) inX8 wc_386 rfl hd rfl kk
theorem cf_X8_22 (C : gC p R s m args c D clC tys A (wC ad cI cS) nL cc RX8 tC zC) {o : Nat} (ho : isOldBronze o) (hd : decode cc pc = .ok (.getfield 22, 3)) (kk : gG p l e R s m args below meth c Q D clC A (wC ad cI cS) nL (pc + 3) lv (.ref (ad (o + 39)) :: st) M) : gG p l e R s m args below meth c Q D clC A (wC ad cI cS) nL pc lv (.ref (ad o) :: st) M :=
  g_getf C (o := o) (k := 2) (T := TX8) ho.1 ho.2.1 rfl (by decide) inX8 wc_388 rfl hd rfl kk
theorem cf_X8_29 (C : gC p R s m args c D clC tys A (wC ad cI cS) nL cc RX8 tC zC) {o : Nat} (ho : isOldBronze o) (hd : decode cc pc = .ok (.getfield 29, 3)) (kk : gG p l e R s m args below meth c Q D clC A (wC ad cI cS) nL (pc + 3) lv (.ref (ad (o + 41)) :: st) M) : gG p l e R s m args below meth c Q D clC A (wC ad cI cS) nL pc lv (.ref (ad o) :: st) M :=
  g_getf C (o := o) (k := 3) (T := TX8) ho.1 ho.2.1 rfl (by decide) inX8 wc_391 rfl hd rfl kk
theorem cf_X8_36 (C : gC p R s m args c D clC tys A (wC ad cI cS) nL cc RX8 tC zC) {o : Nat} (ho : isOldBronze o) (hd : decode cc pc = .ok (.getfield 36, 3)) (kk : gG p l e R s m args below meth c Q D clC A (wC ad cI cS) nL (pc + 3) lv (.ref (ad (o + 47)) :: st) M) : gG p l e R s m args below meth c Q D clC A (wC ad cI cS) nL pc lv (.ref (ad o) :: st) M :=
  g_getf C (o := o) (k := 4) (T := TX8) ho.1 ho.2.1 rfl (by decide) inX8 wc_394 rfl hd rfl kk
theorem cf_X8_43 (C : gC p R s m args c D clC tys A (wC ad cI cS) nL cc RX8 tC zC) {o : Nat} (ho : isOldBronze o) (hd : decode cc pc = .ok (.getfield 43, 3)) (kk : gG p l e R s m args below meth c Q D clC A (wC ad cI cS) nL (pc + 3) lv (.ref (ad (o + 52)) :: st) M) : gG p l e R s m args below meth c Q D clC A (wC ad cI cS) nL pc lv (.ref (ad o) :: st) M :=
  g_getf C (o := o) (k := 5) (T := TX8) ho.1 ho.2.1 rfl (by decide) inX8 wc_397 rfl hd rfl kk
theorem cf_X8_49 (C : gC p R s m args c D clC tys A (wC ad cI cS) nL cc RX8 tC zC) {o : Nat} (ho : isOldBronze o) (hd : decode cc pc = .ok (.getfield 49, 3)) (kk : gG p l e R s m args below meth c Q D clC A (wC ad cI cS) nL (pc + 3) lv (.ref (ad (o + 55)) :: st) M) : gG p l e R s m args below meth c Q D clC A (wC ad cI cS) nL pc lv (.ref (ad o) :: st) M :=
  g_getf C (o := o) (k := 6) (T := TX8) ho.1 ho.2.1 rfl (by decide) inX8 wc_399 rfl hd rfl kk
theorem cf_X8_53 (C : gC p R s m args c D clC tys A (wC ad cI cS) nL cc RX8 tC zC) {o : Nat} (ho : isOldBronze o) (hd : decode cc pc = .ok (.getfield 53, 3)) (kk : gG p l e R s m args below meth c Q D clC A (wC ad cI cS) nL (pc + 3) lv (.ref (ad (o + 64)) :: st) M) : gG p l e R s m args below meth c Q D clC A (wC ad cI cS) nL pc lv (.ref (ad o) :: st) M :=
  g_getf C (o := o) (k := 7) (T := TX8) ho.1 ho.2.1 rfl (by decide) inX8 wc_400 rfl hd rfl kk
theorem cf_X8_71 (C : gC p R s m args c D clC tys A (wC ad cI cS) nL cc RX8 tC zC) {o : Nat} (ho : isForge o) (hd : decode cc pc = .ok (.getfield 71, 3)) (kk : gG p l e R s m args below meth c Q D clC A (wC ad cI cS) nL (pc + 3) lv (.ref (ad (o + 1)) :: st) M) : gG p l e R s m args below meth c Q D clC A (wC ad cI cS) nL pc lv (.ref (ad o) :: st) M :=
  g_getf C (o := o) (k := 0) (T := TX1) ho.1 ho.2 rfl (by decide) inX1 wc_413 rfl hd rfl kk
theorem cf_X8_132 (C : gC p R s m args c D clC tys A (wC ad cI cS) nL cc RX8 tC zC) {o : Nat} (ho : isForge o) (hd : decode cc pc = .ok (.getfield 132, 3)) (kk : gG p l e R s m args below meth c Q D clC A (wC ad cI cS) nL (pc + 3) lv (.ref (ad (o + 3)) :: st) M) : gG p l e R s m args below meth c Q D clC A (wC ad cI cS) nL pc lv (.ref (ad o) :: st) M :=
  g_getf C (o := o) (k := 1) (T := TX1) ho.1 ho.2 rfl (by decide) inX1 wc_469 rfl hd rfl kk
theorem cf_X8_162 (C : gC p R s m args c D clC tys A (wC ad cI cS) nL cc RX8 tC zC) {o : Nat} (ho : isForge o) (hd : decode cc pc = .ok (.getfield 162, 3)) (kk : gG p l e R s m args below meth c Q D clC A (wC ad cI cS) nL (pc + 3) lv (.ref (ad (o + 5)) :: st) M) : gG p l e R s m args below meth c Q D clC A (wC ad cI cS) nL pc lv (.ref (ad o) :: st) M :=
  g_getf C (o := o) (k := 2) (T := TX1) ho.1 ho.2 rfl (by decide) inX1 wc_487 rfl hd rfl kk
theorem cf_X8_181 (C : gC p R s m args c D clC tys A (wC ad cI cS) nL cc RX8 tC zC) {o : Nat} (ho : isForge o) (hd : decode cc pc = .ok (.getfield 181, 3)) (kk : gG p l e R s m args below meth c Q D clC A (wC ad cI cS) nL (pc + 3) lv (.ref (ad (o + 7)) :: st) M) : gG p l e R s m args below meth c Q D clC A (wC ad cI cS) nL pc lv (.ref (ad o) :: st) M :=
  g_getf C (o := o) (k := 3) (T := TX1) ho.1 ho.2 rfl (by decide) inX1 wc_500 rfl hd rfl kk
theorem cf_X8_184 (C : gC p R s m args c D clC tys A (wC ad cI cS) nL cc RX8 tC zC) {o : Nat} (ho : isForge o) (hd : decode cc pc = .ok (.getfield 184, 3)) (kk : gG p l e R s m args below meth c Q D clC A (wC ad cI cS) nL (pc + 3) lv (.ref (ad (o + 9)) :: st) M) : gG p l e R s m args below meth c Q D clC A (wC ad cI cS) nL pc lv (.ref (ad o) :: st) M :=
  g_getf C (o := o) (k := 4) (T := TX1) ho.1 ho.2 rfl (by decide) inX1 wc_505 rfl hd rfl kk
theorem cf_X8_280 (C : gC p R s m args c D clC tys A (wC ad cI cS) nL cc RX8 tC zC) {o : Nat} (ho : isOldBronze o) (hd : decode cc pc = .ok (.getfield 280, 3)) (kk : gG p l e R s m args below meth c Q D clC A (wC ad cI cS) nL (pc + 3) lv (iv (M o 8) :: st) M) : gG p l e R s m args below meth c Q D clC A (wC ad cI cS) nL pc lv (.ref (ad o) :: st) M :=
  g_getf C (o := o) (k := 8) (T := TX8) ho.1 ho.2.1 rfl (by decide) inX8 wc_598 rfl hd rfl kk
theorem cp_X8_280 (C : gC p R s m args c D clC tys A (wC ad cI cS) nL cc RX8 tC zC) {o : Nat} (ho : isOldBronze o) {x : Int} (hd : decode cc pc = .ok (.putfield 280, 3)) (kk : gG p l e R s m args below meth c Q D clC A (wC ad cI cS) nL (pc + 3) lv st (wr M o 8 x)) : gG p l e R s m args below meth c Q D clC A (wC ad cI cS) nL pc lv (iv x :: .ref (ad o) :: st) M :=
  g_putf C (o := o) (k := 8) (T := TX8) (ty := .int) ho.1 ho.2.1 rfl (by decide) inX8 tyX8 tyX8_ok nmX8 wc_598 rfl rfl (by decide +kernel) rfl hd ⟨rfl, rfl⟩ kk
theorem cf_X8_284 (C : gC p R s m args c D clC tys A (wC ad cI cS) nL cc RX8 tC zC) {o : Nat} (ho : isForge o) (hd : decode cc pc = .ok (.getfield 284, 3)) (kk : gG p l e R s m args below meth c Q D clC A (wC ad cI cS) nL (pc + 3) lv (.ref (ad (o + 11)) :: st) M) : gG p l e R s m args below meth c Q D clC A (wC ad cI cS) nL pc lv (.ref (ad o) :: st) M :=
  g_getf C (o := o) (k := 5) (T := TX1) ho.1 ho.2 rfl (by decide) inX1 wc_604 rfl hd rfl kk
end CF
theorem gc_X0_28 : GoodIn tC (va_wsS RX0 28 yX0_placeOf (Cond.code yX0_placeOf cX0_placeOf 3 (some .int) :: tC)) := gS_good tC_good wc_19 wc_20 wc_21 wc_17
theorem gc_X0_36 : GoodIn tC (wsV RX0 36 yX0_number.cls yX0_number (Cond.code yX0_number cX0_number 4 (some .int) :: tC)) := gV_good tC_good wc_27 wc_28 wc_29 wc_21 wc_18
theorem gc_X0_45 : GoodIn tC (wsV RX0 45 yX0_room.cls yX0_room (Cond.code yX0_room cX0_room 1 (some .int) :: tC)) := gV_good tC_good wc_41 wc_42 wc_43 wc_21 wc_9
theorem gc_X0_49 : GoodIn tC (wsV RX0 49 yX0_fill.cls yX0_fill (Cond.code yX0_fill cX0_fill 4 none :: tC)) := gV_good tC_good wc_44 wc_45 wc_46 wc_21 wc_36
theorem gc_X0_53 : GoodIn tC (wsV RX0 53 yX0_become.cls yX0_become (Cond.code yX0_become cX0_become 5 none :: tC)) := gV_good tC_good wc_37 wc_38 wc_39 wc_21 wc_22
theorem gc_X0_57 : GoodIn tC (wsV RX0 57 yX0_add.cls yX0_add (Cond.code yX0_add cX0_add 3 (some .int) :: tC)) := gV_good tC_good wc_49 wc_50 wc_51 wc_21 wc_40
theorem gc_X0_62 : GoodIn tC (wsV RX0 62 yX0_partOf.cls yX0_partOf (Cond.code yX0_partOf cX0_partOf 5 (some .int) :: tC)) := gV_good tC_good wc_56 wc_57 wc_58 wc_21 wc_53
theorem gc_X0_76 : GoodIn tC (wsV RX0 76 yX0_lose.cls yX0_lose (Cond.code yX0_lose cX0_lose 5 none :: tC)) := gV_good tC_good wc_64 wc_65 wc_66 wc_21 wc_55
theorem gc_X0_79 : GoodIn tC (wsV RX0 79 yX0_passYear.cls yX0_passYear (Cond.code yX0_passYear cX0_passYear 2 none :: tC)) := gV_good tC_good wc_72 wc_73 wc_74 wc_21 wc_71
theorem gc_X0_83 : GoodIn tC (va_wsS RX0 83 yJ6_bitCount_0f7a4 (Cond.code yJ6_bitCount_0f7a4 cJ6_bitCount_0f7a4 1 (some .int) :: tC)) := gS_good tC_good wc_82 wc_83 wc_84 wc_76
theorem gc_X0_88 : GoodIn tC (wsV RX0 88 yX0_together.cls yX0_together (Cond.code yX0_together cX0_together 9 (some .int) :: tC)) := gV_good tC_good wc_85 wc_86 wc_87 wc_21 wc_80
theorem gc_X1_52 : GoodIn tC (wsV RX1 52 yX0_copyFrom.cls yX0_copyFrom (Cond.code yX0_copyFrom cX0_copyFrom 2 none :: tC)) := gV_good tC_good wc_125 wc_126 wc_127 wc_21 wc_31
theorem gc_X1_56 : GoodIn tC (wsV RX1 56 yX4_copyFrom.cls yX4_copyFrom (Cond.code yX4_copyFrom cX4_copyFrom 2 none :: tC)) := gV_good tC_good wc_128 wc_129 wc_130 wc_105 wc_122
theorem gc_X1_59 : GoodIn tC (wsV RX1 59 yX1_tone.cls yX1_tone (Cond.code yX1_tone cX1_tone 7 (some .int) :: tC)) := gV_good tC_good wc_171 wc_172 wc_173 wc_163 wc_170
theorem gc_X1_63 : GoodIn tC (wsV RX1 63 yX0_number.cls yX0_number (Cond.code yX0_number cX0_number 4 (some .int) :: tC)) := gV_good tC_good wc_166 wc_28 wc_29 wc_21 wc_18
theorem gc_X1_73 : GoodIn tC (wsV RX1 73 yX1_ring.cls yX1_ring (Cond.code yX1_ring cX1_ring 4 (some .int) :: tC)) := gV_good tC_good wc_167 wc_168 wc_169 wc_163 wc_164
theorem gc_X1_77 : GoodIn tC (wsV RX1 77 yX4_size.cls yX4_size (Cond.code yX4_size cX4_size 1 (some .int) :: tC)) := gV_good tC_good wc_157 wc_140 wc_141 wc_105 wc_133
theorem gc_X1_81 : GoodIn tC (wsV RX1 81 yX7_value.cls yX7_value (Cond.code yX7_value cX7_value 9 (some .int) :: tC)) := gV_good tC_good wc_158 wc_159 wc_160 wc_115 wc_153
theorem gc_X1_85 : GoodIn tC (va_wsS RX1 85 yX1_held (Cond.code yX1_held cX1_held 2 (some .int) :: tC)) := gS_good tC_good wc_161 wc_162 wc_163 wc_154
theorem gc_X1_96 : GoodIn tC (wsV RX1 96 yX4_at.cls yX4_at (Cond.code yX4_at cX4_at 5 (some .int) :: tC)) := gV_good tC_good wc_176 wc_143 wc_144 wc_105 wc_134
theorem gc_X1_99 : GoodIn tC (wsV RX1 99 yX1_claimants.cls yX1_claimants (Cond.code yX1_claimants cX1_claimants 4 (some .int) :: tC)) := gV_good tC_good wc_177 wc_178 wc_179 wc_163 wc_175
theorem gc_X1_103 : GoodIn tC (wsV RX1 103 yX1_counted.cls yX1_counted (Cond.code yX1_counted cX1_counted 5 (some .int) :: tC)) := gV_good tC_good wc_181 wc_182 wc_183 wc_163 wc_180
theorem gc_X1_106 : GoodIn tC (wsV RX1 106 yX1_countedBelow.cls yX1_countedBelow (Cond.code yX1_countedBelow cX1_countedBelow 5 (some .int) :: tC)) := gV_good tC_good wc_185 wc_186 wc_187 wc_163 wc_184
theorem gc_X1_109 : GoodIn tC (wsV RX1 109 yX1_shareOf.cls yX1_shareOf (Cond.code yX1_shareOf cX1_shareOf 7 (some .int) :: tC)) := gV_good tC_good wc_189 wc_190 wc_191 wc_163 wc_188
theorem gc_X2_36 : GoodIn tC (wsV RX2 36 yX0_copyFrom.cls yX0_copyFrom (Cond.code yX0_copyFrom cX0_copyFrom 2 none :: tC)) := gV_good tC_good wc_203 wc_126 wc_127 wc_21 wc_31
theorem gc_X2_43 : GoodIn tC (wsV RX2 43 yX4_size.cls yX4_size (Cond.code yX4_size cX4_size 1 (some .int) :: tC)) := gV_good tC_good wc_204 wc_140 wc_141 wc_105 wc_133
theorem gc_X2_47 : GoodIn tC (wsV RX2 47 yX4_at.cls yX4_at (Cond.code yX4_at cX4_at 5 (some .int) :: tC)) := gV_good tC_good wc_205 wc_143 wc_144 wc_105 wc_134
theorem gc_X2_51 : GoodIn tC (wsV RX2 51 yX0_pour.cls yX0_pour (Cond.code yX0_pour cX0_pour 11 none :: tC)) := gV_good tC_good wc_206 wc_207 wc_208 wc_21 wc_67
theorem gc_X2_55 : GoodIn tC (wsV RX2 55 yX0_number.cls yX0_number (Cond.code yX0_number cX0_number 4 (some .int) :: tC)) := gV_good tC_good wc_211 wc_28 wc_29 wc_21 wc_18
theorem gc_X2_58 : GoodIn tC (wsV RX2 58 yX4_clear.cls yX4_clear (Cond.code yX4_clear cX4_clear 1 none :: tC)) := gV_good tC_good wc_228 wc_229 wc_230 wc_105 wc_212
theorem gc_X2_61 : GoodIn tC (wsV RX2 61 yX2_follow.cls yX2_follow (Cond.code yX2_follow cX2_follow 5 none :: tC)) := gV_good tC_good wc_231 wc_232 wc_233 wc_234 wc_209
theorem gc_X2_68 : GoodIn tC (wsV RX2 68 yX2_isSo.cls yX2_isSo (Cond.code yX2_isSo cX2_isSo 4 (some .boolean) :: tC)) := gV_good tC_good wc_235 wc_236 wc_237 wc_234 wc_216
theorem gc_X2_72 : GoodIn tC (wsV RX2 72 yX4_append.cls yX4_append (Cond.code yX4_append cX4_append 4 (some .int) :: tC)) := gV_good tC_good wc_238 wc_239 wc_240 wc_105 wc_219
theorem gc_X2_76 : GoodIn tC (wsV RX2 76 yX2_noteGrams.cls yX2_noteGrams (Cond.code yX2_noteGrams cX2_noteGrams 4 none :: tC)) := gV_good tC_good wc_241 wc_242 wc_243 wc_234 wc_226
theorem gc_X2_86 : GoodIn tC (wsV RX2 86 yX2_fitting.cls yX2_fitting (Cond.code yX2_fitting cX2_fitting 2 (some .int) :: tC)) := gV_good tC_good wc_249 wc_250 wc_251 wc_234 wc_247
theorem gc_X2_89 : GoodIn tC (va_wsS RX2 89 yJ6_bitCount_0f7a4 (Cond.code yJ6_bitCount_0f7a4 cJ6_bitCount_0f7a4 1 (some .int) :: tC)) := gS_good tC_good wc_254 wc_83 wc_84 wc_76
theorem gc_X2_97 : GoodIn tC (wsV RX2 97 yX2_greatestHeap.cls yX2_greatestHeap (Cond.code yX2_greatestHeap cX2_greatestHeap 6 (some .int) :: tC)) := gV_good tC_good wc_262 wc_263 wc_264 wc_234 wc_257
theorem gc_X2_100 : GoodIn tC (wsV RX2 100 yX2_notedGrams.cls yX2_notedGrams (Cond.code yX2_notedGrams cX2_notedGrams 4 (some .int) :: tC)) := gV_good tC_good wc_258 wc_259 wc_260 wc_234 wc_245
theorem gc_X2_103 : GoodIn tC (wsV RX2 103 yX4_has.cls yX4_has (Cond.code yX4_has cX4_has 2 (some .boolean) :: tC)) := gV_good tC_good wc_266 wc_267 wc_268 wc_105 wc_265
theorem gc_X3_23 : GoodIn tC (wsV RX3 23 yX4_copyFrom.cls yX4_copyFrom (Cond.code yX4_copyFrom cX4_copyFrom 2 none :: tC)) := gV_good tC_good wc_312 wc_129 wc_130 wc_105 wc_122
theorem gc_X3_27 : GoodIn tC (wsV RX3 27 yX4_clear.cls yX4_clear (Cond.code yX4_clear cX4_clear 1 none :: tC)) := gV_good tC_good wc_313 wc_229 wc_230 wc_105 wc_212
theorem gc_X3_37 : GoodIn tC (wsV RX3 37 yX3_readLevel.cls yX3_readLevel (Cond.code yX3_readLevel cX3_readLevel 6 (some .boolean) :: tC)) := gV_good tC_good wc_295 wc_296 wc_297 wc_285 wc_311
theorem gc_X3_41 : GoodIn tC (wsV RX3 41 yX4_size.cls yX4_size (Cond.code yX4_size cX4_size 1 (some .int) :: tC)) := gV_good tC_good wc_314 wc_140 wc_141 wc_105 wc_133
theorem gc_X3_45 : GoodIn tC (wsV RX3 45 yX4_has.cls yX4_has (Cond.code yX4_has cX4_has 2 (some .boolean) :: tC)) := gV_good tC_good wc_278 wc_267 wc_268 wc_105 wc_265
theorem gc_X3_49 : GoodIn tC (wsV RX3 49 yX4_at.cls yX4_at (Cond.code yX4_at cX4_at 5 (some .int) :: tC)) := gV_good tC_good wc_279 wc_143 wc_144 wc_105 wc_134
theorem gc_X3_53 : GoodIn tC (wsV RX3 53 yX3_readValue.cls yX3_readValue (Cond.code yX3_readValue cX3_readValue 4 (some .boolean) :: tC)) := gV_good tC_good wc_292 wc_293 wc_294 wc_285 wc_301
theorem gc_X3_56 : GoodIn tC (wsV RX3 56 yX3_peek.cls yX3_peek (Cond.code yX3_peek cX3_peek 1 (some .int) :: tC)) := gV_good tC_good wc_282 wc_283 wc_284 wc_285 wc_276
theorem gc_X3_59 : GoodIn tC (va_wsS RX3 59 yX3_levelOf (Cond.code yX3_levelOf cX3_levelOf 1 (some .int) :: tC)) := gS_good tC_good wc_298 wc_299 wc_285 wc_280
theorem gc_X3_63 : GoodIn tC (wsV RX3 63 yX4_append.cls yX4_append (Cond.code yX4_append cX4_append 4 (some .int) :: tC)) := gV_good tC_good wc_288 wc_239 wc_240 wc_105 wc_219
theorem gc_X3_67 : GoodIn tC (va_wsS RX3 67 yX3_isDigit (Cond.code yX3_isDigit cX3_isDigit 1 (some .boolean) :: tC)) := gS_good tC_good wc_286 wc_287 wc_285 wc_281
theorem gc_X3_70 : GoodIn tC (wsV RX3 70 yX3_readNumber.cls yX3_readNumber (Cond.code yX3_readNumber cX3_readNumber 3 none :: tC)) := gV_good tC_good wc_302 wc_303 wc_304 wc_285 wc_289
theorem gc_X3_73 : GoodIn tC (wsV RX3 73 yX3_readOpened.cls yX3_readOpened (Cond.code yX3_readOpened cX3_readOpened 3 (some .boolean) :: tC)) := gV_good tC_good wc_305 wc_306 wc_307 wc_285 wc_300
theorem gc_X3_76 : GoodIn tC (wsV RX3 76 yX3_nameOf.cls yX3_nameOf (Cond.code yX3_nameOf cX3_nameOf 4 (some .int) :: tC)) := gV_good tC_good wc_308 wc_309 wc_310 wc_285 wc_290
theorem gc_X4_29 : GoodIn tC (wsV RX4 29 yX4_room.cls yX4_room (Cond.code yX4_room cX4_room 1 (some .int) :: tC)) := gV_good tC_good wc_220 wc_221 wc_222 wc_105 wc_217
theorem gc_X4_33 : GoodIn tC (wsV RX4 33 yX4_write.cls yX4_write (Cond.code yX4_write cX4_write 4 none :: tC)) := gV_good tC_good wc_223 wc_224 wc_225 wc_105 wc_218
theorem gc_X5_31 : GoodIn tC (va_wsS RX5 31 yJ7_fill_53178 (Cond.code yJ7_fill_53178 cJ7_fill_53178 4 none :: tC)) := gS_good tC_good wc_326 wc_327 wc_328 wc_320
theorem gc_X5_37 : GoodIn tC (wsV RX5 37 yX5_has.cls yX5_has (Cond.code yX5_has cX5_has 2 (some .boolean) :: tC)) := gV_good tC_good wc_335 wc_336 wc_337 wc_338 wc_332
theorem gc_X5_41 : GoodIn tC (wsV RX5 41 yX5_hasRange.cls yX5_hasRange (Cond.code yX5_hasRange cX5_hasRange 4 (some .boolean) :: tC)) := gV_good tC_good wc_342 wc_343 wc_344 wc_338 wc_333
theorem gc_X6_20 : GoodIn tC (wsV RX6 20 yX4_clear.cls yX4_clear (Cond.code yX4_clear cX4_clear 1 none :: tC)) := gV_good tC_good wc_355 wc_229 wc_230 wc_105 wc_212
theorem gc_X6_37 : GoodIn tC (wsV RX6 37 yX6_sound.cls yX6_sound (Cond.code yX6_sound cX6_sound 7 (some .int) :: tC)) := gV_good tC_good wc_362 wc_363 wc_364 wc_365 wc_366
theorem gc_X6_41 : GoodIn tC (va_wsS RX6 41 yX6_bodyOf (Cond.code yX6_bodyOf cX6_bodyOf 3 (some .int) :: tC)) := gS_good tC_good wc_367 wc_368 wc_365 wc_358
theorem gc_X6_49 : GoodIn tC (wsV RX6 49 yX4_append.cls yX4_append (Cond.code yX4_append cX4_append 4 (some .int) :: tC)) := gV_good tC_good wc_370 wc_239 wc_240 wc_105 wc_219
theorem gc_X6_53 : GoodIn tC (wsV RX6 53 yX6_work.cls yX6_work (Cond.code yX6_work cX6_work 5 (some .int) :: tC)) := gV_good tC_good wc_371 wc_372 wc_373 wc_365 wc_374
theorem gc_X6_60 : GoodIn tC (wsV RX6 60 yX6_own.cls yX6_own (Cond.code yX6_own cX6_own 4 (some .int) :: tC)) := gV_good tC_good wc_375 wc_376 wc_377 wc_365 wc_381
theorem gc_X6_63 : GoodIn tC (wsV RX6 63 yX6_part.cls yX6_part (Cond.code yX6_part cX6_part 3 (some .int) :: tC)) := gV_good tC_good wc_378 wc_379 wc_380 wc_365 wc_361
theorem gc_X7_19 : GoodIn tC (wsV RX7 19 yX4_size.cls yX4_size (Cond.code yX4_size cX4_size 1 (some .int) :: tC)) := gV_good tC_good wc_139 wc_140 wc_141 wc_105 wc_133
theorem gc_X7_25 : GoodIn tC (wsV RX7 25 yX4_at.cls yX4_at (Cond.code yX4_at cX4_at 5 (some .int) :: tC)) := gV_good tC_good wc_142 wc_143 wc_144 wc_105 wc_134
theorem gc_X7_29 : GoodIn tC (wsV RX7 29 yX7_push.cls yX7_push (Cond.code yX7_push cX7_push 2 none :: tC)) := gV_good tC_good wc_145 wc_146 wc_147 wc_115 wc_135
theorem gc_X7_33 : GoodIn tC (wsV RX7 33 yX7_pop.cls yX7_pop (Cond.code yX7_pop cX7_pop 1 (some .int) :: tC)) := gV_good tC_good wc_148 wc_149 wc_150 wc_115 wc_137
theorem gc_X7_36 : GoodIn tC (va_wsS RX7 36 yX7_joined (Cond.code yX7_joined cX7_joined 3 (some .int) :: tC)) := gS_good tC_good wc_151 wc_152 wc_115 wc_138
theorem gc_X8_58 : GoodIn tC (va_wsS RX8 58 yX8_isKindAndM (Cond.code yX8_isKindAndM cX8_isKindAndM 1 (some .boolean) :: tC)) := gS_good tC_good wc_414 wc_415 wc_26 wc_408
theorem gc_X8_63 : GoodIn tC (va_wsS RX8 63 yX8_within (Cond.code yX8_within cX8_within 3 (some .boolean) :: tC)) := gS_good tC_good wc_409 wc_25 wc_26 wc_23
theorem gc_X8_67 : GoodIn tC (wsV RX8 67 yX8_refuse.cls yX8_refuse (Cond.code yX8_refuse cX8_refuse 2 (some .int) :: tC)) := gV_good tC_good wc_416 wc_417 wc_418 wc_26 wc_410
theorem gc_X8_74 : GoodIn tC (wsV RX8 74 yX0_room.cls yX0_room (Cond.code yX0_room cX0_room 1 (some .int) :: tC)) := gV_good tC_good wc_419 wc_42 wc_43 wc_21 wc_9
theorem gc_X8_78 : GoodIn tC (wsV RX8 78 yX0_addFirst.cls yX0_addFirst (Cond.code yX0_addFirst cX0_addFirst 4 (some .int) :: tC)) := gV_good tC_good wc_420 wc_421 wc_422 wc_21 wc_47
theorem gc_X8_82 : GoodIn tC (wsV RX8 82 yX0_has.cls yX0_has (Cond.code yX0_has cX0_has 2 (some .boolean) :: tC)) := gV_good tC_good wc_424 wc_425 wc_426 wc_21 wc_10
theorem gc_X8_85 : GoodIn tC (wsV RX8 85 yX1_numberOf.cls yX1_numberOf (Cond.code yX1_numberOf cX1_numberOf 4 (some .int) :: tC)) := gV_good tC_good wc_427 wc_428 wc_429 wc_163 wc_174
theorem gc_X8_89 : GoodIn tC (wsV RX8 89 yX0_number.cls yX0_number (Cond.code yX0_number cX0_number 4 (some .int) :: tC)) := gV_good tC_good wc_433 wc_28 wc_29 wc_21 wc_18
theorem gc_X8_92 : GoodIn tC (va_wsS RX8 92 yX8_isUnder (Cond.code yX8_isUnder cX8_isUnder 4 (some .boolean) :: tC)) := gS_good tC_good wc_434 wc_435 wc_26 wc_431
theorem gc_X8_96 : GoodIn tC (wsV RX8 96 yX0_mostSettable.cls yX0_mostSettable (Cond.code yX0_mostSettable cX0_mostSettable 3 (some .int) :: tC)) := gV_good tC_good wc_437 wc_438 wc_439 wc_21 wc_24
theorem gc_X8_99 : GoodIn tC (wsV RX8 99 yX0_become.cls yX0_become (Cond.code yX0_become cX0_become 5 none :: tC)) := gV_good tC_good wc_440 wc_38 wc_39 wc_21 wc_22
theorem gc_X8_103 : GoodIn tC (wsV RX8 103 yX0_pour.cls yX0_pour (Cond.code yX0_pour cX0_pour 11 none :: tC)) := gV_good tC_good wc_442 wc_207 wc_208 wc_21 wc_67
theorem gc_X8_106 : GoodIn tC (wsV RX8 106 yX0_addTin.cls yX0_addTin (Cond.code yX0_addTin cX0_addTin 7 none :: tC)) := gV_good tC_good wc_445 wc_446 wc_447 wc_21 wc_68
theorem gc_X8_110 : GoodIn tC (wsV RX8 110 yX0_lose.cls yX0_lose (Cond.code yX0_lose cX0_lose 5 none :: tC)) := gV_good tC_good wc_448 wc_65 wc_66 wc_21 wc_55
theorem gc_X8_113 : GoodIn tC (wsV RX8 113 yX0_addCast.cls yX0_addCast (Cond.code yX0_addCast cX0_addCast 9 (some .int) :: tC)) := gV_good tC_good wc_449 wc_450 wc_451 wc_21 wc_69
theorem gc_X8_116 : GoodIn tC (wsV RX8 116 yX0_yearsSoFar.cls yX0_yearsSoFar (Cond.code yX0_yearsSoFar cX0_yearsSoFar 1 (some .int) :: tC)) := gV_good tC_good wc_453 wc_454 wc_455 wc_21 wc_13
theorem gc_X8_119 : GoodIn tC (wsV RX8 119 yX0_passYears.cls yX0_passYears (Cond.code yX0_passYears cX0_passYears 3 none :: tC)) := gV_good tC_good wc_456 wc_457 wc_458 wc_21 wc_75
theorem gc_X8_122 : GoodIn tC (wsV RX8 122 yX0_allGrams.cls yX0_allGrams (Cond.code yX0_allGrams cX0_allGrams 3 (some .int) :: tC)) := gV_good tC_good wc_459 wc_460 wc_461 wc_21 wc_30
theorem gc_X8_125 : GoodIn tC (wsV RX8 125 yX0_copyFrom.cls yX0_copyFrom (Cond.code yX0_copyFrom cX0_copyFrom 2 none :: tC)) := gV_good tC_good wc_463 wc_126 wc_127 wc_21 wc_31
theorem gc_X8_129 : GoodIn tC (wsV RX8 129 yX0_reseed.cls yX0_reseed (Cond.code yX0_reseed cX0_reseed 3 (some .int) :: tC)) := gV_good tC_good wc_466 wc_467 wc_468 wc_21 wc_16
theorem gc_X8_136 : GoodIn tC (wsV RX8 136 yX4_room.cls yX4_room (Cond.code yX4_room cX4_room 1 (some .int) :: tC)) := gV_good tC_good wc_470 wc_221 wc_222 wc_105 wc_217
theorem gc_X8_139 : GoodIn tC (wsV RX8 139 yX4_append.cls yX4_append (Cond.code yX4_append cX4_append 4 (some .int) :: tC)) := gV_good tC_good wc_471 wc_239 wc_240 wc_105 wc_219
theorem gc_X8_143 : GoodIn tC (wsV RX8 143 yX4_size.cls yX4_size (Cond.code yX4_size cX4_size 1 (some .int) :: tC)) := gV_good tC_good wc_472 wc_140 wc_141 wc_105 wc_133
theorem gc_X8_146 : GoodIn tC (wsV RX8 146 yX3_read.cls yX3_read (Cond.code yX3_read cX3_read 4 (some .int) :: tC)) := gV_good tC_good wc_474 wc_475 wc_476 wc_285 wc_315
theorem gc_X8_150 : GoodIn tC (wsV RX8 150 yX4_clear.cls yX4_clear (Cond.code yX4_clear cX4_clear 1 none :: tC)) := gV_good tC_good wc_477 wc_229 wc_230 wc_105 wc_212
theorem gc_X8_153 : GoodIn tC (wsV RX8 153 yX1_textOf.cls yX1_textOf (Cond.code yX1_textOf cX1_textOf 2 (some (.object "OldBronze$Rows")) :: tC)) := gV_good tC_good wc_478 wc_479 wc_480 wc_163 wc_132
theorem gc_X8_157 : GoodIn tC (wsV RX8 157 yX3_writeTo.cls yX3_writeTo (Cond.code yX3_writeTo cX3_writeTo 2 none :: tC)) := gV_good tC_good wc_481 wc_482 wc_483 wc_285 wc_316
theorem gc_X8_165 : GoodIn tC (wsV RX8 165 yX4_has.cls yX4_has (Cond.code yX4_has cX4_has 2 (some .boolean) :: tC)) := gV_good tC_good wc_489 wc_267 wc_268 wc_105 wc_265
theorem gc_X8_166 : GoodIn tC (wsV RX8 166 yX1_counted.cls yX1_counted (Cond.code yX1_counted cX1_counted 5 (some .int) :: tC)) := gV_good tC_good wc_490 wc_182 wc_183 wc_163 wc_180
theorem gc_X8_169 : GoodIn tC (wsV RX8 169 yX4_at.cls yX4_at (Cond.code yX4_at cX4_at 5 (some .int) :: tC)) := gV_good tC_good wc_491 wc_143 wc_144 wc_105 wc_134
theorem gc_X8_172 : GoodIn tC (wsV RX8 172 yX1_shareOf.cls yX1_shareOf (Cond.code yX1_shareOf cX1_shareOf 7 (some .int) :: tC)) := gV_good tC_good wc_493 wc_190 wc_191 wc_163 wc_188
theorem gc_X8_175 : GoodIn tC (wsV RX8 175 yX1_leftOf.cls yX1_leftOf (Cond.code yX1_leftOf cX1_leftOf 5 (some .int) :: tC)) := gV_good tC_good wc_495 wc_496 wc_497 wc_163 wc_192
theorem gc_X8_178 : GoodIn tC (wsV RX8 178 yX8_isPaper.cls yX8_isPaper (Cond.code yX8_isPaper cX8_isPaper 4 (some .boolean) :: tC)) := gV_good tC_good wc_501 wc_502 wc_503 wc_26 wc_499
theorem gc_X8_187 : GoodIn tC (wsV RX8 187 yX8_isHistory.cls yX8_isHistory (Cond.code yX8_isHistory cX8_isHistory 2 (some .boolean) :: tC)) := gV_good tC_good wc_513 wc_514 wc_515 wc_26 wc_509
theorem gc_X8_190 : GoodIn tC (wsV RX8 190 yX2_follow.cls yX2_follow (Cond.code yX2_follow cX2_follow 5 none :: tC)) := gV_good tC_good wc_516 wc_232 wc_233 wc_234 wc_209
theorem gc_X8_194 : GoodIn tC (wsV RX8 194 yX2_numberBehind.cls yX2_numberBehind (Cond.code yX2_numberBehind cX2_numberBehind 3 (some .int) :: tC)) := gV_good tC_good wc_517 wc_518 wc_519 wc_234 wc_210
theorem gc_X8_197 : GoodIn tC (wsV RX8 197 yX2_find.cls yX2_find (Cond.code yX2_find cX2_find 3 none :: tC)) := gV_good tC_good wc_521 wc_522 wc_523 wc_234 wc_244
theorem gc_X8_201 : GoodIn tC (wsV RX8 201 yX8_allPapers.cls yX8_allPapers (Cond.code yX8_allPapers cX8_allPapers 1 (some .int) :: tC)) := gV_good tC_good wc_510 wc_511 wc_512 wc_26 wc_508
theorem gc_X8_204 : GoodIn tC (wsV RX8 204 yX2_size.cls yX2_size (Cond.code yX2_size cX2_size 1 (some .int) :: tC)) := gV_good tC_good wc_524 wc_525 wc_526 wc_234 wc_246
theorem gc_X8_205 : GoodIn tC (wsV RX8 205 yX2_fitting.cls yX2_fitting (Cond.code yX2_fitting cX2_fitting 2 (some .int) :: tC)) := gV_good tC_good wc_527 wc_250 wc_251 wc_234 wc_247
theorem gc_X8_208 : GoodIn tC (wsV RX8 208 yX2_inAll.cls yX2_inAll (Cond.code yX2_inAll cX2_inAll 4 (some .int) :: tC)) := gV_good tC_good wc_528 wc_529 wc_530 wc_234 wc_248
theorem gc_X8_211 : GoodIn tC (wsV RX8 211 yX2_inAny.cls yX2_inAny (Cond.code yX2_inAny cX2_inAny 3 (some .int) :: tC)) := gV_good tC_good wc_531 wc_532 wc_533 wc_234 wc_252
theorem gc_X8_214 : GoodIn tC (wsV RX8 214 yX2_mostPapers.cls yX2_mostPapers (Cond.code yX2_mostPapers cX2_mostPapers 3 (some .int) :: tC)) := gV_good tC_good wc_534 wc_535 wc_536 wc_234 wc_255
theorem gc_X8_217 : GoodIn tC (wsV RX8 217 yX2_outermost.cls yX2_outermost (Cond.code yX2_outermost cX2_outermost 8 (some .int) :: tC)) := gV_good tC_good wc_538 wc_539 wc_540 wc_234 wc_256
theorem gc_X8_221 : GoodIn tC (wsV RX8 221 yX0_size.cls yX0_size (Cond.code yX0_size cX0_size 1 (some .int) :: tC)) := gV_good tC_good wc_542 wc_543 wc_544 wc_21 wc_7
theorem gc_X8_222 : GoodIn tC (wsV RX8 222 yX2_bestParted.cls yX2_bestParted (Cond.code yX2_bestParted cX2_bestParted 6 (some .int) :: tC)) := gV_good tC_good wc_545 wc_546 wc_547 wc_234 wc_261
theorem gc_X8_225 : GoodIn tC (wsV RX8 225 yX0_mostOf.cls yX0_mostOf (Cond.code yX0_mostOf cX0_mostOf 8 (some .int) :: tC)) := gV_good tC_good wc_550 wc_551 wc_552 wc_21 wc_81
theorem gc_X8_228 : GoodIn tC (wsV RX8 228 yX0_together.cls yX0_together (Cond.code yX0_together cX0_together 9 (some .int) :: tC)) := gV_good tC_good wc_553 wc_86 wc_87 wc_21 wc_80
theorem gc_X8_236 : GoodIn tC (wsV RX8 236 yX6_begin.cls yX6_begin (Cond.code yX6_begin cX6_begin 4 none :: tC)) := gV_good tC_good wc_555 wc_556 wc_557 wc_365 wc_350
theorem gc_X8_242 : GoodIn tC (wsV RX8 242 yX6_isParted.cls yX6_isParted (Cond.code yX6_isParted cX6_isParted 1 (some .boolean) :: tC)) := gV_good tC_good wc_558 wc_559 wc_560 wc_365 wc_357
theorem gc_X8_246 : GoodIn tC (wsV RX8 246 yX6_trace.cls yX6_trace (Cond.code yX6_trace cX6_trace 1 (some (.object "OldBronze$Rows")) :: tC)) := gV_good tC_good wc_562 wc_563 wc_564 wc_365 wc_356
theorem gc_X8_250 : GoodIn tC (wsV RX8 250 yX8_sheetAt.cls yX8_sheetAt (Cond.code yX8_sheetAt cX8_sheetAt 2 (some (.object "OldBronze$Sheet")) :: tC)) := gV_good tC_good wc_567 wc_568 wc_569 wc_26 wc_566
theorem gc_X8_254 : GoodIn tC (wsV RX8 254 yX5_begin.cls yX5_begin (Cond.code yX5_begin cX5_begin 3 none :: tC)) := gV_good tC_good wc_570 wc_571 wc_572 wc_338 wc_321
theorem gc_X8_257 : GoodIn tC (wsV RX8 257 yX5_isMissing.cls yX5_isMissing (Cond.code yX5_isMissing cX5_isMissing 1 (some .boolean) :: tC)) := gV_good tC_good wc_574 wc_575 wc_576 wc_338 wc_329
theorem gc_X8_260 : GoodIn tC (wsV RX8 260 yX5_has.cls yX5_has (Cond.code yX5_has cX5_has 2 (some .boolean) :: tC)) := gV_good tC_good wc_577 wc_336 wc_337 wc_338 wc_332
theorem gc_X8_261 : GoodIn tC (wsV RX8 261 yX5_write.cls yX5_write (Cond.code yX5_write cX5_write 3 none :: tC)) := gV_good tC_good wc_578 wc_579 wc_580 wc_338 wc_339
theorem gc_X8_264 : GoodIn tC (wsV RX8 264 yX5_isLike.cls yX5_isLike (Cond.code yX5_isLike cX5_isLike 2 (some .boolean) :: tC)) := gV_good tC_good wc_582 wc_583 wc_584 wc_338 wc_330
theorem gc_X8_268 : GoodIn tC (wsV RX8 268 yX5_hasRange.cls yX5_hasRange (Cond.code yX5_hasRange cX5_hasRange 4 (some .boolean) :: tC)) := gV_good tC_good wc_585 wc_343 wc_344 wc_338 wc_333
theorem gc_X8_271 : GoodIn tC (wsV RX8 271 yX5_copyRange.cls yX5_copyRange (Cond.code yX5_copyRange cX5_copyRange 5 none :: tC)) := gV_good tC_good wc_586 wc_587 wc_588 wc_338 wc_340
theorem gc_X8_275 : GoodIn tC (wsV RX8 275 yX5_size.cls yX5_size (Cond.code yX5_size cX5_size 1 (some .int) :: tC)) := gV_good tC_good wc_590 wc_591 wc_592 wc_338 wc_331
theorem gc_X8_276 : GoodIn tC (wsV RX8 276 yX5_at.cls yX5_at (Cond.code yX5_at cX5_at 2 (some .int) :: tC)) := gV_good tC_good wc_593 wc_594 wc_595 wc_338 wc_334
theorem gc_X8_278 : GoodIn tC (wsV RX8 278 yX1_copyFrom.cls yX1_copyFrom (Cond.code yX1_copyFrom cX1_copyFrom 2 none :: tC)) := gV_good tC_good wc_599 wc_600 wc_601 wc_163 wc_131
theorem gc_X8_287 : GoodIn tC (wsV RX8 287 yX2_firstUnlike.cls yX2_firstUnlike (Cond.code yX2_firstUnlike cX2_firstUnlike 4 (some .int) :: tC)) := gV_good tC_good wc_606 wc_607 wc_608 wc_234 wc_269
theorem gc_X8_291 : GoodIn tC (wsV RX8 291 yX0_firstsThatCount.cls yX0_firstsThatCount (Cond.code yX0_firstsThatCount cX0_firstsThatCount 1 (some .int) :: tC)) := gV_good tC_good wc_610 wc_611 wc_612 wc_21 wc_11
theorem gc_X8_294 : GoodIn tC (wsV RX8 294 yX0_lastDraw.cls yX0_lastDraw (Cond.code yX0_lastDraw cX0_lastDraw 1 (some .int) :: tC)) := gV_good tC_good wc_613 wc_614 wc_615 wc_21 wc_15
theorem gc_X8_298 : GoodIn tC (va_wsS RX8 298 yX8_above (Cond.code yX8_above cX8_above 1 (some .int) :: tC)) := gS_good tC_good wc_432 wc_369 wc_26 wc_359
theorem gc_code {y : MethodName} {b : ByteArray} {n : Nat} {rt : Option FieldType} (h : Cond.code y b n rt ∈ tC) : GoodIn tC (Cond.code y b n rt :: tC) := fun w hw => by
  have h2 : w ∈ tC := by
    rcases List.mem_cons.mp hw with rfl | h3
    · exact h
    · exact h3
  exact ⟨h2, good_of_word (tC_good w h2)⟩
end
