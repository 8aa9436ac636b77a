def RX0 : String := "NoGraveEnemy$Acts"
def TX0 : u_T := fun k => match k with
  | 0 => ("NoGraveEnemy$Acts", "bodies", "[I", true)
  | 1 => ("NoGraveEnemy$Acts", "ran", "I", false)
  | 2 => ("NoGraveEnemy$Acts", "number", "I", false)
  | 3 => ("NoGraveEnemy$Acts", "kind", "I", false)
  | _ => ("NoGraveEnemy$Acts", "v", "I", false)
def tyX0 : Nat → FieldType := fun k => match k with
  | 0 => .array .int
  | 1 => .int
  | 2 => .int
  | 3 => .int
  | _ => .int
abbrev wsX00 : List Cond := u_ws RX0 TX0 5
theorem nmX0 : ∀ a, a < 5 → ∀ b, b < 5 → a ≠ b → (TX0 a).2.1 ≠ (TX0 b).2.1 := by decide +kernel
theorem tyX0_ok : ∀ k, k < 5 → parseFieldDescriptor (TX0 k).2.2.1 = some (tyX0 k) := by decide +kernel
abbrev cX0_init : ByteArray := prog_2_method_1_code
def yX0_init : MethodName := ⟨RX0, "<init>", "()V"⟩
abbrev cX0_run : ByteArray := prog_2_method_2_code
def yX0_run : MethodName := ⟨RX0, "run", "(LNoGraveEnemy$Acts;IIII)I"⟩
abbrev cX0_bodyFor : ByteArray := prog_2_method_3_code
def yX0_bodyFor : MethodName := ⟨RX0, "bodyFor", "(II)I"⟩
abbrev cX0_note : ByteArray := prog_2_method_4_code
def yX0_note : MethodName := ⟨RX0, "note", "(I)V"⟩
def RX1 : String := "NoGraveEnemy$Choices"
def TX1 : u_T := fun k => match k with
  | 0 => ("NoGraveEnemy$Choices", "enemies", "[I", true)
  | 1 => ("NoGraveEnemy$Choices", "throwers", "[I", true)
  | 2 => ("NoGraveEnemy$Choices", "enemiesByDay", "[I", true)
  | _ => ("NoGraveEnemy$Choices", "ways", "[I", true)
def tyX1 : Nat → FieldType := fun k => match k with
  | 0 => .array .int
  | 1 => .array .int
  | 2 => .array .int
  | _ => .array .int
abbrev wsX10 : List Cond := u_ws RX1 TX1 4
theorem nmX1 : ∀ a, a < 4 → ∀ b, b < 4 → a ≠ b → (TX1 a).2.1 ≠ (TX1 b).2.1 := by decide +kernel
theorem tyX1_ok : ∀ k, k < 4 → parseFieldDescriptor (TX1 k).2.2.1 = some (tyX1 k) := by decide +kernel
abbrev cX1_init : ByteArray := prog_3_method_1_code
def yX1_init : MethodName := ⟨RX1, "<init>", "()V"⟩
abbrev cX1_findEnemies : ByteArray := prog_3_method_2_code
def yX1_findEnemies : MethodName := ⟨RX1, "findEnemies", "(LNoGraveEnemy$Village;I)V"⟩
abbrev cX1_lonely : ByteArray := prog_3_method_3_code
def yX1_lonely : MethodName := ⟨RX1, "lonely", "(LNoGraveEnemy$Village;)I"⟩
abbrev cX1_keep : ByteArray := prog_3_method_4_code
def yX1_keep : MethodName := ⟨RX1, "keep", "(LNoGraveEnemy$Village;)I"⟩
abbrev cX1_isEnough : ByteArray := prog_3_method_5_code
def yX1_isEnough : MethodName := ⟨RX1, "isEnough", "(II)Z"⟩
abbrev cX1_findThrowers : ByteArray := prog_3_method_6_code
def yX1_findThrowers : MethodName := ⟨RX1, "findThrowers", "(LNoGraveEnemy$Village;)I"⟩
abbrev cX1_mostFrom : ByteArray := prog_3_method_7_code
def yX1_mostFrom : MethodName := ⟨RX1, "mostFrom", "([III)I"⟩
abbrev cX1_findWays : ByteArray := prog_3_method_8_code
def yX1_findWays : MethodName := ⟨RX1, "findWays", "(LNoGraveEnemy$Village;)V"⟩
abbrev cX1_findEnemiesByDay : ByteArray := prog_3_method_9_code
def yX1_findEnemiesByDay : MethodName := ⟨RX1, "findEnemiesByDay", "(LNoGraveEnemy$Village;)V"⟩
abbrev cX1_rowsOf : ByteArray := prog_3_method_10_code
def yX1_rowsOf : MethodName := ⟨RX1, "rowsOf", "(LNoGraveEnemy$Village;I)I"⟩
abbrev cX1_longest : ByteArray := prog_3_method_11_code
def yX1_longest : MethodName := ⟨RX1, "longest", "(LNoGraveEnemy$Village;)I"⟩
def RX2 : String := "NoGraveEnemy$Parish"
def TX2 : u_T := fun k => match k with
  | 0 => ("NoGraveEnemy$Parish", "steps", "[I", true)
  | 1 => ("NoGraveEnemy$Parish", "numbers", "[I", true)
  | 2 => ("NoGraveEnemy$Parish", "length", "I", false)
  | _ => ("NoGraveEnemy$Parish", "need", "I", false)
def tyX2 : Nat → FieldType := fun k => match k with
  | 0 => .array .int
  | 1 => .array .int
  | 2 => .int
  | _ => .int
abbrev wsX20 : List Cond := u_ws RX2 TX2 4
theorem nmX2 : ∀ a, a < 4 → ∀ b, b < 4 → a ≠ b → (TX2 a).2.1 ≠ (TX2 b).2.1 := by decide +kernel
theorem tyX2_ok : ∀ k, k < 4 → parseFieldDescriptor (TX2 k).2.2.1 = some (tyX2 k) := by decide +kernel
abbrev cX2_init : ByteArray := prog_4_method_1_code
def yX2_init : MethodName := ⟨RX2, "<init>", "()V"⟩
abbrev cX2_startOver : ByteArray := prog_4_method_2_code
def yX2_startOver : MethodName := ⟨RX2, "startOver", "()V"⟩
abbrev cX2_put : ByteArray := prog_4_method_3_code
def yX2_put : MethodName := ⟨RX2, "put", "(II)V"⟩
abbrev cX2_weigh : ByteArray := prog_4_method_4_code
def yX2_weigh : MethodName := ⟨RX2, "weigh", "([I)I"⟩
def RX3 : String := "NoGraveEnemy$Table"
def TX3 : u_T := fun k => match k with
  | 0 => ("NoGraveEnemy$Table", "cells", "[I", true)
  | 1 => ("NoGraveEnemy$Table", "limit", "I", true)
  | _ => ("NoGraveEnemy$Table", "size", "I", false)
def tyX3 : Nat → FieldType := fun k => match k with
  | 0 => .array .int
  | 1 => .int
  | _ => .int
abbrev wsX30 : List Cond := u_ws RX3 TX3 3
theorem nmX3 : ∀ a, a < 3 → ∀ b, b < 3 → a ≠ b → (TX3 a).2.1 ≠ (TX3 b).2.1 := by decide +kernel
theorem tyX3_ok : ∀ k, k < 3 → parseFieldDescriptor (TX3 k).2.2.1 = some (tyX3 k) := by decide +kernel
abbrev cX3_init : ByteArray := prog_5_method_1_code
def yX3_init : MethodName := ⟨RX3, "<init>", "(I)V"⟩
abbrev cX3_add : ByteArray := prog_5_method_2_code
def yX3_add : MethodName := ⟨RX3, "add", "(IIII)I"⟩
abbrev cX3_clear : ByteArray := prog_5_method_3_code
def yX3_clear : MethodName := ⟨RX3, "clear", "()I"⟩
abbrev cX3_cell : ByteArray := prog_5_method_4_code
def yX3_cell : MethodName := ⟨RX3, "cell", "(II)I"⟩
abbrev cX3_copyFrom : ByteArray := prog_5_method_5_code
def yX3_copyFrom : MethodName := ⟨RX3, "copyFrom", "(LNoGraveEnemy$Table;)V"⟩
def RX4 : String := "NoGraveEnemy$Tape"
def TX4 : u_T := fun k => match k with
  | 0 => ("NoGraveEnemy$Tape", "items", "[J", true)
  | 1 => ("NoGraveEnemy$Tape", "sort", "I", false)
  | _ => ("NoGraveEnemy$Tape", "length", "I", false)
def tyX4 : Nat → FieldType := fun k => match k with
  | 0 => .array .long
  | 1 => .int
  | _ => .int
abbrev wsX40 : List Cond := u_ws RX4 TX4 3
theorem nmX4 : ∀ a, a < 3 → ∀ b, b < 3 → a ≠ b → (TX4 a).2.1 ≠ (TX4 b).2.1 := by decide +kernel
theorem tyX4_ok : ∀ k, k < 3 → parseFieldDescriptor (TX4 k).2.2.1 = some (tyX4 k) := by decide +kernel
abbrev cX4_init : ByteArray := prog_6_method_1_code
def yX4_init : MethodName := ⟨RX4, "<init>", "()V"⟩
abbrev cX4_become : ByteArray := prog_6_method_2_code
def yX4_become : MethodName := ⟨RX4, "become", "(II)V"⟩
abbrev cX4_has : ByteArray := prog_6_method_3_code
def yX4_has : MethodName := ⟨RX4, "has", "(I)Z"⟩
abbrev cX4_hasPart : ByteArray := prog_6_method_4_code
def yX4_hasPart : MethodName := ⟨RX4, "hasPart", "(II)Z"⟩
abbrev cX4_cut : ByteArray := prog_6_method_5_code
def yX4_cut : MethodName := ⟨RX4, "cut", "(J)J"⟩
def RX5 : String := "NoGraveEnemy$Text"
def TX5 : u_T := fun k => match k with
  | 0 => ("NoGraveEnemy$Text", "signs", "[C", true)
  | 1 => ("NoGraveEnemy$Text", "length", "I", false)
  | 2 => ("NoGraveEnemy$Text", "at", "I", false)
  | _ => ("NoGraveEnemy$Text", "number", "I", false)
def tyX5 : Nat → FieldType := fun k => match k with
  | 0 => .array .char
  | 1 => .int
  | 2 => .int
  | _ => .int
abbrev wsX50 : List Cond := u_ws RX5 TX5 4
theorem nmX5 : ∀ a, a < 4 → ∀ b, b < 4 → a ≠ b → (TX5 a).2.1 ≠ (TX5 b).2.1 := by decide +kernel
theorem tyX5_ok : ∀ k, k < 4 → parseFieldDescriptor (TX5 k).2.2.1 = some (tyX5 k) := by decide +kernel
abbrev cX5_init : ByteArray := prog_7_method_1_code
def yX5_init : MethodName := ⟨RX5, "<init>", "()V"⟩
abbrev cX5_add : ByteArray := prog_7_method_2_code
def yX5_add : MethodName := ⟨RX5, "add", "(C)Z"⟩
abbrev cX5_parse : ByteArray := prog_7_method_3_code
def yX5_parse : MethodName := ⟨RX5, "parse", "(LNoGraveEnemy$Parish;)Z"⟩
abbrev cX5_next : ByteArray := prog_7_method_4_code
def yX5_next : MethodName := ⟨RX5, "next", "()C"⟩
abbrev cX5_take : ByteArray := prog_7_method_5_code
def yX5_take : MethodName := ⟨RX5, "take", "(C)Z"⟩
abbrev cX5_takeWord : ByteArray := prog_7_method_6_code
def yX5_takeWord : MethodName := ⟨RX5, "takeWord", "(Ljava/lang/String;)Z"⟩
abbrev cX5_clause : ByteArray := prog_7_method_7_code
def yX5_clause : MethodName := ⟨RX5, "clause", "(LNoGraveEnemy$Parish;)Z"⟩
abbrev cX5_takeNumber : ByteArray := prog_7_method_8_code
def yX5_takeNumber : MethodName := ⟨RX5, "takeNumber", "()Z"⟩
abbrev cX5_either : ByteArray := prog_7_method_9_code
def yX5_either : MethodName := ⟨RX5, "either", "(LNoGraveEnemy$Parish;I)Z"⟩
abbrev cX5_both : ByteArray := prog_7_method_10_code
def yX5_both : MethodName := ⟨RX5, "both", "(LNoGraveEnemy$Parish;I)Z"⟩
abbrev cX5_factor : ByteArray := prog_7_method_11_code
def yX5_factor : MethodName := ⟨RX5, "factor", "(LNoGraveEnemy$Parish;I)Z"⟩
abbrev cX5_test : ByteArray := prog_7_method_12_code
def yX5_test : MethodName := ⟨RX5, "test", "(LNoGraveEnemy$Parish;)Z"⟩
def RX6 : String := "NoGraveEnemy$Village"
def TX6 : u_T := fun k => match k with
  | 0 => ("NoGraveEnemy$Village", "people", "I", false)
  | 1 => ("NoGraveEnemy$Village", "day", "I", false)
  | 2 => ("NoGraveEnemy$Village", "dead", "I", false)
  | 3 => ("NoGraveEnemy$Village", "buried", "I", false)
  | 4 => ("NoGraveEnemy$Village", "holding", "LNoGraveEnemy$Parish;", false)
  | 5 => ("NoGraveEnemy$Village", "kinds", "[I", true)
  | 6 => ("NoGraveEnemy$Village", "vs", "[I", true)
  | 7 => ("NoGraveEnemy$Village", "thrown", "[I", true)
  | 8 => ("NoGraveEnemy$Village", "hates", "[I", true)
  | 9 => ("NoGraveEnemy$Village", "rows", "[I", true)
  | 10 => ("NoGraveEnemy$Village", "seen", "LNoGraveEnemy$Table;", true)
  | 11 => ("NoGraveEnemy$Village", "plan", "LNoGraveEnemy$Table;", true)
  | 12 => ("NoGraveEnemy$Village", "book", "LNoGraveEnemy$Table;", true)
  | _ => ("NoGraveEnemy$Village", "facts", "[I", true)
def tyX6 : Nat → FieldType := fun k => match k with
  | 0 => .int
  | 1 => .int
  | 2 => .int
  | 3 => .int
  | 4 => .object "NoGraveEnemy$Parish"
  | 5 => .array .int
  | 6 => .array .int
  | 7 => .array .int
  | 8 => .array .int
  | 9 => .array .int
  | 10 => .object "NoGraveEnemy$Table"
  | 11 => .object "NoGraveEnemy$Table"
  | 12 => .object "NoGraveEnemy$Table"
  | _ => .array .int
abbrev wsX60 : List Cond := u_ws RX6 TX6 14
theorem nmX6 : ∀ a, a < 14 → ∀ b, b < 14 → a ≠ b → (TX6 a).2.1 ≠ (TX6 b).2.1 := by decide +kernel
theorem tyX6_ok : ∀ k, k < 14 → parseFieldDescriptor (TX6 k).2.2.1 = some (tyX6 k) := by decide +kernel
abbrev cX6_init : ByteArray := prog_8_method_1_code
def yX6_init : MethodName := ⟨RX6, "<init>", "()V"⟩
abbrev cX6_has : ByteArray := prog_8_method_2_code
def yX6_has : MethodName := ⟨RX6, "has", "(I)Z"⟩
abbrev cX6_come : ByteArray := prog_8_method_3_code
def yX6_come : MethodName := ⟨RX6, "come", "(II)I"⟩
abbrev cX6_hateOf : ByteArray := prog_8_method_4_code
def yX6_hateOf : MethodName := ⟨RX6, "hateOf", "(II)I"⟩
abbrev cX6_setHate : ByteArray := prog_8_method_5_code
def yX6_setHate : MethodName := ⟨RX6, "setHate", "(III)V"⟩
abbrev cX6_allHate : ByteArray := prog_8_method_6_code
def yX6_allHate : MethodName := ⟨RX6, "allHate", "()I"⟩
abbrev cX6_alive : ByteArray := prog_8_method_7_code
def yX6_alive : MethodName := ⟨RX6, "alive", "()I"⟩
abbrev cX6_spite : ByteArray := prog_8_method_8_code
def yX6_spite : MethodName := ⟨RX6, "spite", "(IIIII)I"⟩
abbrev cX6_isEnemy : ByteArray := prog_8_method_9_code
def yX6_isEnemy : MethodName := ⟨RX6, "isEnemy", "(III)Z"⟩
abbrev cX6_enemiesOf : ByteArray := prog_8_method_10_code
def yX6_enemiesOf : MethodName := ⟨RX6, "enemiesOf", "(II)I"⟩
abbrev cX6_goDay : ByteArray := prog_8_method_11_code
def yX6_goDay : MethodName := ⟨RX6, "goDay", "(I)V"⟩
abbrev cX6_suffer : ByteArray := prog_8_method_12_code
def yX6_suffer : MethodName := ⟨RX6, "suffer", "(II)V"⟩
abbrev cX6_fitsHate : ByteArray := prog_8_method_13_code
def yX6_fitsHate : MethodName := ⟨RX6, "fitsHate", "(III)Z"⟩
abbrev cX6_fitsV : ByteArray := prog_8_method_14_code
def yX6_fitsV : MethodName := ⟨RX6, "fitsV", "(II)Z"⟩
abbrev cX6_copyFrom : ByteArray := prog_8_method_15_code
def yX6_copyFrom : MethodName := ⟨RX6, "copyFrom", "(LNoGraveEnemy$Village;)V"⟩
def RX7 : String := "NoGraveEnemy"
def TX7 : u_T := fun k => match k with
  | 0 => ("NoGraveEnemy", "now", "LNoGraveEnemy$Village;", true)
  | 1 => ("NoGraveEnemy", "kept", "LNoGraveEnemy$Village;", true)
  | 2 => ("NoGraveEnemy", "asked", "LNoGraveEnemy$Village;", true)
  | 3 => ("NoGraveEnemy", "isKept", "Z", false)
  | 4 => ("NoGraveEnemy", "text", "LNoGraveEnemy$Text;", true)
  | 5 => ("NoGraveEnemy", "parishes", "[LNoGraveEnemy$Parish;", true)
  | 6 => ("NoGraveEnemy", "parishCount", "I", false)
  | 7 => ("NoGraveEnemy", "choices", "LNoGraveEnemy$Choices;", true)
  | 8 => ("NoGraveEnemy", "acts", "LNoGraveEnemy$Acts;", true)
  | _ => ("NoGraveEnemy", "tapes", "[LNoGraveEnemy$Tape;", true)
def tyX7 : Nat → FieldType := fun k => match k with
  | 0 => .object "NoGraveEnemy$Village"
  | 1 => .object "NoGraveEnemy$Village"
  | 2 => .object "NoGraveEnemy$Village"
  | 3 => .boolean
  | 4 => .object "NoGraveEnemy$Text"
  | 5 => .array (.object "NoGraveEnemy$Parish")
  | 6 => .int
  | 7 => .object "NoGraveEnemy$Choices"
  | 8 => .object "NoGraveEnemy$Acts"
  | _ => .array (.object "NoGraveEnemy$Tape")
abbrev wsX70 : List Cond := u_ws RX7 TX7 10
theorem nmX7 : ∀ a, a < 10 → ∀ b, b < 10 → a ≠ b → (TX7 a).2.1 ≠ (TX7 b).2.1 := by decide +kernel
theorem tyX7_ok : ∀ k, k < 10 → parseFieldDescriptor (TX7 k).2.2.1 = some (tyX7 k) := by decide +kernel
abbrev cX7_init : ByteArray := prog_1_method_1_code
def yX7_init : MethodName := ⟨RX7, "<init>", "()V"⟩
abbrev cX7_one : ByteArray := prog_1_method_2_code
def yX7_one : MethodName := ⟨RX7, "one", "(II)I"⟩
abbrev cX7_of : ByteArray := prog_1_method_3_code
def yX7_of : MethodName := ⟨RX7, "of", "(II)I"⟩
abbrev cX7_hate : ByteArray := prog_1_method_4_code
def yX7_hate : MethodName := ⟨RX7, "hate", "(III)I"⟩
abbrev cX7_between : ByteArray := prog_1_method_5_code
def yX7_between : MethodName := ⟨RX7, "between", "(III)I"⟩
abbrev cX7_die : ByteArray := prog_1_method_6_code
def yX7_die : MethodName := ⟨RX7, "die", "(IZ)I"⟩
abbrev cX7_row : ByteArray := prog_1_method_7_code
def yX7_row : MethodName := ⟨RX7, "row", "(III)I"⟩
abbrev cX7_feed : ByteArray := prog_1_method_8_code
def yX7_feed : MethodName := ⟨RX7, "feed", "(I)I"⟩
abbrev cX7_parish : ByteArray := prog_1_method_9_code
def yX7_parish : MethodName := ⟨RX7, "parish", "()I"⟩
abbrev cX7_told : ByteArray := prog_1_method_10_code
def yX7_told : MethodName := ⟨RX7, "told", "(I)I"⟩
abbrev cX7_pass : ByteArray := prog_1_method_11_code
def yX7_pass : MethodName := ⟨RX7, "pass", "(I)I"⟩
abbrev cX7_on : ByteArray := prog_1_method_12_code
def yX7_on : MethodName := ⟨RX7, "on", "(II)I"⟩
abbrev cX7_handful : ByteArray := prog_1_method_13_code
def yX7_handful : MethodName := ⟨RX7, "handful", "(I)I"⟩
abbrev cX7_orders : ByteArray := prog_1_method_14_code
def yX7_orders : MethodName := ⟨RX7, "orders", "(I)I"⟩
abbrev cX7_see : ByteArray := prog_1_method_15_code
def yX7_see : MethodName := ⟨RX7, "see", "(IIIZ)I"⟩
abbrev cX7_hates : ByteArray := prog_1_method_16_code
def yX7_hates : MethodName := ⟨RX7, "hates", "(III)I"⟩
abbrev cX7_can : ByteArray := prog_1_method_17_code
def yX7_can : MethodName := ⟨RX7, "can", "(II)I"⟩
abbrev cX7_odds : ByteArray := prog_1_method_18_code
def yX7_odds : MethodName := ⟨RX7, "odds", "(II)J"⟩
abbrev cX7_mean : ByteArray := prog_1_method_19_code
def yX7_mean : MethodName := ⟨RX7, "mean", "(I)J"⟩
abbrev cX7_plan : ByteArray := prog_1_method_20_code
def yX7_plan : MethodName := ⟨RX7, "plan", "(II)I"⟩
abbrev cX7_ends : ByteArray := prog_1_method_21_code
def yX7_ends : MethodName := ⟨RX7, "ends", "(I)I"⟩
abbrev cX7_book : ByteArray := prog_1_method_22_code
def yX7_book : MethodName := ⟨RX7, "book", "(III)I"⟩
abbrev cX7_looked : ByteArray := prog_1_method_23_code
def yX7_looked : MethodName := ⟨RX7, "looked", "()I"⟩
abbrev cX7_judge : ByteArray := prog_1_method_24_code
def yX7_judge : MethodName := ⟨RX7, "judge", "(II)I"⟩
abbrev cX7_image : ByteArray := prog_1_method_25_code
def yX7_image : MethodName := ⟨RX7, "image", "()I"⟩
abbrev cX7_undo : ByteArray := prog_1_method_26_code
def yX7_undo : MethodName := ⟨RX7, "undo", "()I"⟩
abbrev cX7_act : ByteArray := prog_1_method_27_code
def yX7_act : MethodName := ⟨RX7, "act", "(III)I"⟩
abbrev cX7_trace : ByteArray := prog_1_method_28_code
def yX7_trace : MethodName := ⟨RX7, "trace", "(I)I"⟩
abbrev cX7_taken : ByteArray := prog_1_method_29_code
def yX7_taken : MethodName := ⟨RX7, "taken", "(II)I"⟩
abbrev cX7_count : ByteArray := prog_1_method_30_code
def yX7_count : MethodName := ⟨RX7, "count", "(I)I"⟩
abbrev cX7_tape : ByteArray := prog_1_method_31_code
def yX7_tape : MethodName := ⟨RX7, "tape", "(III)I"⟩
abbrev cX7_item : ByteArray := prog_1_method_32_code
def yX7_item : MethodName := ⟨RX7, "item", "(IIJ)I"⟩
abbrev cX7_read : ByteArray := prog_1_method_33_code
def yX7_read : MethodName := ⟨RX7, "read", "(II)J"⟩
abbrev cX7_shift : ByteArray := prog_1_method_34_code
def yX7_shift : MethodName := ⟨RX7, "shift", "(IIIII)I"⟩
abbrev cX7_isTape : ByteArray := prog_1_method_35_code
def yX7_isTape : MethodName := ⟨RX7, "isTape", "(I)Z"⟩
abbrev cX7_bit : ByteArray := prog_1_method_36_code
def yX7_bit : MethodName := ⟨RX7, "bit", "(II)I"⟩
abbrev cX7_firstOf : ByteArray := prog_1_method_37_code
def yX7_firstOf : MethodName := ⟨RX7, "firstOf", "(I)I"⟩
abbrev cX7_lies : ByteArray := prog_1_method_38_code
def yX7_lies : MethodName := ⟨RX7, "lies", "(I)I"⟩
abbrev cX7_forHowLong : ByteArray := prog_1_method_39_code
def yX7_forHowLong : MethodName := ⟨RX7, "forHowLong", "(II)I"⟩
abbrev cX7_fraction : ByteArray := prog_1_method_40_code
def yX7_fraction : MethodName := ⟨RX7, "fraction", "(III)J"⟩
abbrev cX7_common : ByteArray := prog_1_method_41_code
def yX7_common : MethodName := ⟨RX7, "common", "(II)I"⟩
def RX8 : String := "NoGraveEnemyModel"
def TX8 : u_T := fun k => match k with
  | 0 => ("NoGraveEnemyModel", "people", "I", false)
  | 1 => ("NoGraveEnemyModel", "kind", "[I", true)
  | 2 => ("NoGraveEnemyModel", "v", "[I", true)
  | 3 => ("NoGraveEnemyModel", "dead", "[I", true)
  | 4 => ("NoGraveEnemyModel", "buried", "[I", true)
  | 5 => ("NoGraveEnemyModel", "thrown", "[I", true)
  | 6 => ("NoGraveEnemyModel", "rows", "[I", true)
  | 7 => ("NoGraveEnemyModel", "hate", "[I", true)
  | 8 => ("NoGraveEnemyModel", "day", "I", false)
  | 9 => ("NoGraveEnemyModel", "texted", "I", false)
  | 10 => ("NoGraveEnemyModel", "text", "[I", true)
  | 11 => ("NoGraveEnemyModel", "at", "I", false)
  | 12 => ("NoGraveEnemyModel", "value", "I", false)
  | 13 => ("NoGraveEnemyModel", "digits", "I", false)
  | 14 => ("NoGraveEnemyModel", "open", "I", false)
  | 15 => ("NoGraveEnemyModel", "parishes", "I", false)
  | 16 => ("NoGraveEnemyModel", "holds", "I", false)
  | 17 => ("NoGraveEnemyModel", "clauses", "[I", true)
  | 18 => ("NoGraveEnemyModel", "word", "[I", true)
  | 19 => ("NoGraveEnemyModel", "number", "[I", true)
  | 20 => ("NoGraveEnemyModel", "begins", "[I", true)
  | 21 => ("NoGraveEnemyModel", "length", "[I", true)
  | 22 => ("NoGraveEnemyModel", "code", "[I", true)
  | 23 => ("NoGraveEnemyModel", "coded", "I", false)
  | 24 => ("NoGraveEnemyModel", "stack", "[Z", true)
  | 25 => ("NoGraveEnemyModel", "seen", "I", false)
  | 26 => ("NoGraveEnemyModel", "seenBy", "[I", true)
  | 27 => ("NoGraveEnemyModel", "seenOf", "[I", true)
  | 28 => ("NoGraveEnemyModel", "seenIn", "[I", true)
  | 29 => ("NoGraveEnemyModel", "seenSo", "[I", true)
  | 30 => ("NoGraveEnemyModel", "inPlan", "I", false)
  | 31 => ("NoGraveEnemyModel", "goes", "[I", true)
  | 32 => ("NoGraveEnemyModel", "whose", "[I", true)
  | 33 => ("NoGraveEnemyModel", "inBook", "I", false)
  | 34 => ("NoGraveEnemyModel", "bookBy", "[I", true)
  | 35 => ("NoGraveEnemyModel", "bookOf", "[I", true)
  | 36 => ("NoGraveEnemyModel", "bookHate", "[I", true)
  | 37 => ("NoGraveEnemyModel", "traced", "I", false)
  | 38 => ("NoGraveEnemyModel", "traces", "[I", true)
  | 39 => ("NoGraveEnemyModel", "imaged", "Z", false)
  | 40 => ("NoGraveEnemyModel", "image", "[I", true)
  | 41 => ("NoGraveEnemyModel", "ahead", "[I", true)
  | 42 => ("NoGraveEnemyModel", "tried", "[I", true)
  | 43 => ("NoGraveEnemyModel", "best", "[I", true)
  | 44 => ("NoGraveEnemyModel", "most", "I", false)
  | 45 => ("NoGraveEnemyModel", "tapeSort", "[I", true)
  | 46 => ("NoGraveEnemyModel", "tapeSize", "[I", true)
  | _ => ("NoGraveEnemyModel", "items", "[J", true)
def tyX8 : Nat → FieldType := fun k => match k with
  | 0 => .int
  | 1 => .array .int
  | 2 => .array .int
  | 3 => .array .int
  | 4 => .array .int
  | 5 => .array .int
  | 6 => .array .int
  | 7 => .array .int
  | 8 => .int
  | 9 => .int
  | 10 => .array .int
  | 11 => .int
  | 12 => .int
  | 13 => .int
  | 14 => .int
  | 15 => .int
  | 16 => .int
  | 17 => .array .int
  | 18 => .array .int
  | 19 => .array .int
  | 20 => .array .int
  | 21 => .array .int
  | 22 => .array .int
  | 23 => .int
  | 24 => .array .boolean
  | 25 => .int
  | 26 => .array .int
  | 27 => .array .int
  | 28 => .array .int
  | 29 => .array .int
  | 30 => .int
  | 31 => .array .int
  | 32 => .array .int
  | 33 => .int
  | 34 => .array .int
  | 35 => .array .int
  | 36 => .array .int
  | 37 => .int
  | 38 => .array .int
  | 39 => .boolean
  | 40 => .array .int
  | 41 => .array .int
  | 42 => .array .int
  | 43 => .array .int
  | 44 => .int
  | 45 => .array .int
  | 46 => .array .int
  | _ => .array .long
abbrev wsX80 : List Cond := u_ws RX8 TX8 48
theorem nmX8 : ∀ a, a < 48 → ∀ b, b < 48 → a ≠ b → (TX8 a).2.1 ≠ (TX8 b).2.1 := by decide +kernel
theorem tyX8_ok : ∀ k, k < 48 → parseFieldDescriptor (TX8 k).2.2.1 = some (tyX8 k) := by decide +kernel
abbrev cX8_init : ByteArray := prog_10_method_1_code
def yX8_init : MethodName := ⟨RX8, "<init>", "()V"⟩
abbrev cX8_within : ByteArray := prog_10_method_2_code
def yX8_within : MethodName := ⟨RX8, "within", "(III)Z"⟩
abbrev cX8_isOne : ByteArray := prog_10_method_3_code
def yX8_isOne : MethodName := ⟨RX8, "isOne", "(I)Z"⟩
abbrev cX8_are : ByteArray := prog_10_method_4_code
def yX8_are : MethodName := ⟨RX8, "are", "(II)Z"⟩
abbrev cX8_one : ByteArray := prog_10_method_5_code
def yX8_one : MethodName := ⟨RX8, "one", "(II)I"⟩
abbrev cX8_of : ByteArray := prog_10_method_6_code
def yX8_of : MethodName := ⟨RX8, "of", "(II)I"⟩
abbrev cX8_hate : ByteArray := prog_10_method_7_code
def yX8_hate : MethodName := ⟨RX8, "hate", "(III)I"⟩
abbrev cX8_between : ByteArray := prog_10_method_8_code
def yX8_between : MethodName := ⟨RX8, "between", "(III)I"⟩
abbrev cX8_die : ByteArray := prog_10_method_9_code
def yX8_die : MethodName := ⟨RX8, "die", "(IZ)I"⟩
abbrev cX8_row : ByteArray := prog_10_method_10_code
def yX8_row : MethodName := ⟨RX8, "row", "(III)I"⟩
abbrev cX8_feed : ByteArray := prog_10_method_11_code
def yX8_feed : MethodName := ⟨RX8, "feed", "(I)I"⟩
abbrev cX8_is : ByteArray := prog_10_method_12_code
def yX8_is : MethodName := ⟨RX8, "is", "(I)Z"⟩
abbrev cX8_isDigit : ByteArray := prog_10_method_13_code
def yX8_isDigit : MethodName := ⟨RX8, "isDigit", "()Z"⟩
abbrev cX8_isNumber : ByteArray := prog_10_method_14_code
def yX8_isNumber : MethodName := ⟨RX8, "isNumber", "()Z"⟩
abbrev cX8_isAll : ByteArray := prog_10_method_15_code
def yX8_isAll : MethodName := ⟨RX8, "isAll", "(Ljava/lang/String;)Z"⟩
abbrev cX8_codes : ByteArray := prog_10_method_16_code
def yX8_codes : MethodName := ⟨RX8, "codes", "(I)Z"⟩
abbrev cX8_isTest : ByteArray := prog_10_method_17_code
def yX8_isTest : MethodName := ⟨RX8, "isTest", "()Z"⟩
abbrev cX8_isOpened : ByteArray := prog_10_method_18_code
def yX8_isOpened : MethodName := ⟨RX8, "isOpened", "(I)Z"⟩
abbrev cX8_isF : ByteArray := prog_10_method_19_code
def yX8_isF : MethodName := ⟨RX8, "isF", "()Z"⟩
abbrev cX8_isT : ByteArray := prog_10_method_20_code
def yX8_isT : MethodName := ⟨RX8, "isT", "()Z"⟩
abbrev cX8_isE : ByteArray := prog_10_method_21_code
def yX8_isE : MethodName := ⟨RX8, "isE", "()Z"⟩
abbrev cX8_isClause : ByteArray := prog_10_method_22_code
def yX8_isClause : MethodName := ⟨RX8, "isClause", "(I)Z"⟩
abbrev cX8_parish : ByteArray := prog_10_method_23_code
def yX8_parish : MethodName := ⟨RX8, "parish", "()I"⟩
abbrev cX8_letterOf : ByteArray := prog_10_method_24_code
def yX8_letterOf : MethodName := ⟨RX8, "letterOf", "(IIII)I"⟩
abbrev cX8_isTrue : ByteArray := prog_10_method_25_code
def yX8_isTrue : MethodName := ⟨RX8, "isTrue", "(IIII)Z"⟩
abbrev cX8_sum : ByteArray := prog_10_method_26_code
def yX8_sum : MethodName := ⟨RX8, "sum", "(III)I"⟩
abbrev cX8_need : ByteArray := prog_10_method_27_code
def yX8_need : MethodName := ⟨RX8, "need", "()I"⟩
abbrev cX8_spite : ByteArray := prog_10_method_28_code
def yX8_spite : MethodName := ⟨RX8, "spite", "(III)I"⟩
abbrev cX8_does : ByteArray := prog_10_method_29_code
def yX8_does : MethodName := ⟨RX8, "does", "(III)Z"⟩
abbrev cX8_isEnemy : ByteArray := prog_10_method_30_code
def yX8_isEnemy : MethodName := ⟨RX8, "isEnemy", "(III)Z"⟩
abbrev cX8_enemies : ByteArray := prog_10_method_31_code
def yX8_enemies : MethodName := ⟨RX8, "enemies", "(II)I"⟩
abbrev cX8_howLong : ByteArray := prog_10_method_32_code
def yX8_howLong : MethodName := ⟨RX8, "howLong", "(II)I"⟩
abbrev cX8_deadBits : ByteArray := prog_10_method_33_code
def yX8_deadBits : MethodName := ⟨RX8, "deadBits", "()I"⟩
abbrev cX8_buriedBits : ByteArray := prog_10_method_34_code
def yX8_buriedBits : MethodName := ⟨RX8, "buriedBits", "()I"⟩
abbrev cX8_allHate : ByteArray := prog_10_method_35_code
def yX8_allHate : MethodName := ⟨RX8, "allHate", "()I"⟩
abbrev cX8_lonely : ByteArray := prog_10_method_36_code
def yX8_lonely : MethodName := ⟨RX8, "lonely", "()I"⟩
abbrev cX8_keepsAll : ByteArray := prog_10_method_37_code
def yX8_keepsAll : MethodName := ⟨RX8, "keepsAll", "(I)Z"⟩
abbrev cX8_keepers : ByteArray := prog_10_method_38_code
def yX8_keepers : MethodName := ⟨RX8, "keepers", "()I"⟩
abbrev cX8_told : ByteArray := prog_10_method_39_code
def yX8_told : MethodName := ⟨RX8, "told", "(I)I"⟩
abbrev cX8_goesDay : ByteArray := prog_10_method_40_code
def yX8_goesDay : MethodName := ⟨RX8, "goesDay", "()V"⟩
abbrev cX8_pass : ByteArray := prog_10_method_41_code
def yX8_pass : MethodName := ⟨RX8, "pass", "(I)I"⟩
abbrev cX8_isAsked : ByteArray := prog_10_method_42_code
def yX8_isAsked : MethodName := ⟨RX8, "isAsked", "(I)Z"⟩
abbrev cX8_heldHate : ByteArray := prog_10_method_43_code
def yX8_heldHate : MethodName := ⟨RX8, "heldHate", "(I)I"⟩
abbrev cX8_on : ByteArray := prog_10_method_44_code
def yX8_on : MethodName := ⟨RX8, "on", "(II)I"⟩
abbrev cX8_lies : ByteArray := prog_10_method_45_code
def yX8_lies : MethodName := ⟨RX8, "lies", "(I)I"⟩
abbrev cX8_throwers : ByteArray := prog_10_method_46_code
def yX8_throwers : MethodName := ⟨RX8, "throwers", "(III)V"⟩
abbrev cX8_handful : ByteArray := prog_10_method_47_code
def yX8_handful : MethodName := ⟨RX8, "handful", "(I)I"⟩
abbrev cX8_rowsOf : ByteArray := prog_10_method_48_code
def yX8_rowsOf : MethodName := ⟨RX8, "rowsOf", "(III)I"⟩
abbrev cX8_orders : ByteArray := prog_10_method_49_code
def yX8_orders : MethodName := ⟨RX8, "orders", "(I)I"⟩
abbrev cX8_longest : ByteArray := prog_10_method_50_code
def yX8_longest : MethodName := ⟨RX8, "longest", "()I"⟩
abbrev cX8_see : ByteArray := prog_10_method_51_code
def yX8_see : MethodName := ⟨RX8, "see", "(IIIZ)I"⟩
abbrev cX8_isSeen : ByteArray := prog_10_method_52_code
def yX8_isSeen : MethodName := ⟨RX8, "isSeen", "(II)Z"⟩
abbrev cX8_hates : ByteArray := prog_10_method_53_code
def yX8_hates : MethodName := ⟨RX8, "hates", "(III)I"⟩
abbrev cX8_can : ByteArray := prog_10_method_54_code
def yX8_can : MethodName := ⟨RX8, "can", "(II)I"⟩
abbrev cX8_part : ByteArray := prog_10_method_55_code
def yX8_part : MethodName := ⟨RX8, "part", "(III)J"⟩
abbrev cX8_odds : ByteArray := prog_10_method_56_code
def yX8_odds : MethodName := ⟨RX8, "odds", "(II)J"⟩
abbrev cX8_mean : ByteArray := prog_10_method_57_code
def yX8_mean : MethodName := ⟨RX8, "mean", "(I)J"⟩
abbrev cX8_plan : ByteArray := prog_10_method_58_code
def yX8_plan : MethodName := ⟨RX8, "plan", "(II)I"⟩
abbrev cX8_ends : ByteArray := prog_10_method_59_code
def yX8_ends : MethodName := ⟨RX8, "ends", "(I)I"⟩
abbrev cX8_book : ByteArray := prog_10_method_60_code
def yX8_book : MethodName := ⟨RX8, "book", "(III)I"⟩
abbrev cX8_looked : ByteArray := prog_10_method_61_code
def yX8_looked : MethodName := ⟨RX8, "looked", "()I"⟩
abbrev cX8_judge : ByteArray := prog_10_method_62_code
def yX8_judge : MethodName := ⟨RX8, "judge", "(II)I"⟩
abbrev cX8_keep : ByteArray := prog_10_method_63_code
def yX8_keep : MethodName := ⟨RX8, "keep", "([I)V"⟩
abbrev cX8_again : ByteArray := prog_10_method_64_code
def yX8_again : MethodName := ⟨RX8, "again", "([I)V"⟩
abbrev cX8_image : ByteArray := prog_10_method_65_code
def yX8_image : MethodName := ⟨RX8, "image", "()I"⟩
abbrev cX8_undo : ByteArray := prog_10_method_66_code
def yX8_undo : MethodName := ⟨RX8, "undo", "()I"⟩
abbrev cX8_ran : ByteArray := prog_10_method_67_code
def yX8_ran : MethodName := ⟨RX8, "ran", "(I)V"⟩
abbrev cX8_above : ByteArray := prog_10_method_68_code
def yX8_above : MethodName := ⟨RX8, "above", "(I)I"⟩
abbrev cX8_digs : ByteArray := prog_10_method_69_code
def yX8_digs : MethodName := ⟨RX8, "digs", "(III)I"⟩
abbrev cX8_casts : ByteArray := prog_10_method_70_code
def yX8_casts : MethodName := ⟨RX8, "casts", "(III)I"⟩
abbrev cX8_tells : ByteArray := prog_10_method_71_code
def yX8_tells : MethodName := ⟨RX8, "tells", "(III)I"⟩
abbrev cX8_act : ByteArray := prog_10_method_72_code
def yX8_act : MethodName := ⟨RX8, "act", "(III)I"⟩
abbrev cX8_trace : ByteArray := prog_10_method_73_code
def yX8_trace : MethodName := ⟨RX8, "trace", "(I)I"⟩
abbrev cX8_taken : ByteArray := prog_10_method_74_code
def yX8_taken : MethodName := ⟨RX8, "taken", "(II)I"⟩
abbrev cX8_count : ByteArray := prog_10_method_75_code
def yX8_count : MethodName := ⟨RX8, "count", "(I)I"⟩
abbrev cX8_isTape : ByteArray := prog_10_method_76_code
def yX8_isTape : MethodName := ⟨RX8, "isTape", "(I)Z"⟩
abbrev cX8_tape : ByteArray := prog_10_method_77_code
def yX8_tape : MethodName := ⟨RX8, "tape", "(III)I"⟩
abbrev cX8_kept : ByteArray := prog_10_method_78_code
def yX8_kept : MethodName := ⟨RX8, "kept", "(IJ)J"⟩
abbrev cX8_item : ByteArray := prog_10_method_79_code
def yX8_item : MethodName := ⟨RX8, "item", "(IIJ)I"⟩
abbrev cX8_read : ByteArray := prog_10_method_80_code
def yX8_read : MethodName := ⟨RX8, "read", "(II)J"⟩
abbrev cX8_shift : ByteArray := prog_10_method_81_code
def yX8_shift : MethodName := ⟨RX8, "shift", "(IIIII)I"⟩
def RJ11 : String := "java/lang/Character"
def TJ11 : u_T := fun k => match k with
  | _ => ("", "", "", false)
def tyJ11 : Nat → FieldType := fun k => match k with
  | _ => .int
abbrev wsJ110 : List Cond := u_ws RJ11 TJ11 0
theorem nmJ11 : ∀ a, a < 0 → ∀ b, b < 0 → a ≠ b → (TJ11 a).2.1 ≠ (TJ11 b).2.1 := by decide +kernel
theorem tyJ11_ok : ∀ k, k < 0 → parseFieldDescriptor (TJ11 k).2.2.1 = some (tyJ11 k) := by decide +kernel
abbrev cJ11_isValidCodePoint_9a6ad : ByteArray := prog_11_method_11_code
def yJ11_isValidCodePoint_9a6ad : MethodName := ⟨RJ11, "isValidCodePoint", "(I)Z"⟩
abbrev cJ11_highSurrogate_5068e : ByteArray := prog_11_method_28_code
def yJ11_highSurrogate_5068e : MethodName := ⟨RJ11, "highSurrogate", "(I)C"⟩
abbrev cJ11_lowSurrogate_5068e : ByteArray := prog_11_method_29_code
def yJ11_lowSurrogate_5068e : MethodName := ⟨RJ11, "lowSurrogate", "(I)C"⟩
def RJ6 : String := "java/lang/Integer"
def TJ6 : u_T := fun k => match k with
  | _ => ("", "", "", false)
def tyJ6 : Nat → FieldType := fun k => match k with
  | _ => .int
abbrev wsJ60 : List Cond := u_ws RJ6 TJ6 0
theorem nmJ6 : ∀ a, a < 0 → ∀ b, b < 0 → a ≠ b → (TJ6 a).2.1 ≠ (TJ6 b).2.1 := by decide +kernel
theorem tyJ6_ok : ∀ k, k < 0 → parseFieldDescriptor (TJ6 k).2.2.1 = some (tyJ6 k) := by decide +kernel
abbrev cJ6_numberOfTrailingZeros_0f7a4 : ByteArray := prog_12_method_48_code
def yJ6_numberOfTrailingZeros_0f7a4 : MethodName := ⟨RJ6, "numberOfTrailingZeros", "(I)I"⟩
abbrev cJ6_bitCount_0f7a4 : ByteArray := prog_12_method_49_code
def yJ6_bitCount_0f7a4 : MethodName := ⟨RJ6, "bitCount", "(I)I"⟩
def RJ9 : String := "java/lang/Math"
def TJ9 : u_T := fun k => match k with
  | _ => ("", "", "", false)
def tyJ9 : Nat → FieldType := fun k => match k with
  | _ => .int
abbrev wsJ90 : List Cond := u_ws RJ9 TJ9 0
theorem nmJ9 : ∀ a, a < 0 → ∀ b, b < 0 → a ≠ b → (TJ9 a).2.1 ≠ (TJ9 b).2.1 := by decide +kernel
theorem tyJ9_ok : ∀ k, k < 0 → parseFieldDescriptor (TJ9 k).2.2.1 = some (tyJ9 k) := by decide +kernel
abbrev cJ9_floorMod_7cf53 : ByteArray := prog_13_method_50_code
def yJ9_floorMod_7cf53 : MethodName := ⟨RJ9, "floorMod", "(II)I"⟩
abbrev cJ9_max_7cf53 : ByteArray := prog_13_method_65_code
def yJ9_max_7cf53 : MethodName := ⟨RJ9, "max", "(II)I"⟩
abbrev cJ9_min_7cf53 : ByteArray := prog_13_method_69_code
def yJ9_min_7cf53 : MethodName := ⟨RJ9, "min", "(II)I"⟩
def RJ0 : String := "java/lang/String"
def TJ0 : u_T := fun k => match k with
  | _ => ("", "", "", false)
def tyJ0 : Nat → FieldType := fun k => match k with
  | _ => .int
abbrev wsJ00 : List Cond := u_ws RJ0 TJ0 0
theorem nmJ0 : ∀ a, a < 0 → ∀ b, b < 0 → a ≠ b → (TJ0 a).2.1 ≠ (TJ0 b).2.1 := by decide +kernel
theorem tyJ0_ok : ∀ k, k < 0 → parseFieldDescriptor (TJ0 k).2.2.1 = some (tyJ0 k) := by decide +kernel
abbrev cJ0_length_8abf5 : ByteArray := prog_14_method_54_code
def yJ0_length_8abf5 : MethodName := ⟨RJ0, "length", "()I"⟩
abbrev cJ0_charAt_5068e : ByteArray := prog_14_method_56_code
def yJ0_charAt_5068e : MethodName := ⟨RJ0, "charAt", "(I)C"⟩
abbrev cJ0_indexOf_0f7a4 : ByteArray := prog_14_method_79_code
def yJ0_indexOf_0f7a4 : MethodName := ⟨RJ0, "indexOf", "(I)I"⟩
abbrev cJ0_indexOf_7cf53 : ByteArray := prog_14_method_80_code
def yJ0_indexOf_7cf53 : MethodName := ⟨RJ0, "indexOf", "(II)I"⟩
abbrev cJ0_coder_7d493 : ByteArray := prog_14_method_152_code
def yJ0_coder_7d493 : MethodName := ⟨RJ0, "coder", "()B"⟩
abbrev cJ0_isLatin1_aae02 : ByteArray := prog_14_method_154_code
def yJ0_isLatin1_aae02 : MethodName := ⟨RJ0, "isLatin1", "()Z"⟩
abbrev cJ0_checkIndex_df160 : ByteArray := prog_14_method_155_code
def yJ0_checkIndex_df160 : MethodName := ⟨RJ0, "checkIndex", "(II)V"⟩
abbrev cJ0_checkBoundsBeginEnd_23922 : ByteArray := prog_14_method_158_code
def yJ0_checkBoundsBeginEnd_23922 : MethodName := ⟨RJ0, "checkBoundsBeginEnd", "(III)V"⟩
def RJ1 : String := "java/lang/StringLatin1"
def TJ1 : u_T := fun k => match k with
  | _ => ("", "", "", false)
def tyJ1 : Nat → FieldType := fun k => match k with
  | _ => .int
abbrev wsJ10 : List Cond := u_ws RJ1 TJ1 0
theorem nmJ1 : ∀ a, a < 0 → ∀ b, b < 0 → a ≠ b → (TJ1 a).2.1 ≠ (TJ1 b).2.1 := by decide +kernel
theorem tyJ1_ok : ∀ k, k < 0 → parseFieldDescriptor (TJ1 k).2.2.1 = some (tyJ1 k) := by decide +kernel
abbrev cJ1_charAt_3b067 : ByteArray := prog_15_method_2_code
def yJ1_charAt_3b067 : MethodName := ⟨RJ1, "charAt", "([BI)C"⟩
abbrev cJ1_canEncode_9a6ad : ByteArray := prog_15_method_4_code
def yJ1_canEncode_9a6ad : MethodName := ⟨RJ1, "canEncode", "(I)Z"⟩
abbrev cJ1_indexOf_4cfef : ByteArray := prog_15_method_22_code
def yJ1_indexOf_4cfef : MethodName := ⟨RJ1, "indexOf", "([BIII)I"⟩
abbrev cJ1_indexOfChar_4cfef : ByteArray := prog_15_method_23_code
def yJ1_indexOfChar_4cfef : MethodName := ⟨RJ1, "indexOfChar", "([BIII)I"⟩
def RJ2 : String := "java/lang/StringUTF16"
def TJ2 : u_T := fun k => match k with
  | _ => ("", "", "", false)
def tyJ2 : Nat → FieldType := fun k => match k with
  | _ => .int
abbrev wsJ20 : List Cond := u_ws RJ2 TJ2 0
theorem nmJ2 : ∀ a, a < 0 → ∀ b, b < 0 → a ≠ b → (TJ2 a).2.1 ≠ (TJ2 b).2.1 := by decide +kernel
theorem tyJ2_ok : ∀ k, k < 0 → parseFieldDescriptor (TJ2 k).2.2.1 = some (tyJ2 k) := by decide +kernel
abbrev cJ2_getChar_3b067 : ByteArray := prog_16_method_5_code
def yJ2_getChar_3b067 : MethodName := ⟨RJ2, "getChar", "([BI)C"⟩
abbrev cJ2_length_9d52b : ByteArray := prog_16_method_6_code
def yJ2_length_9d52b : MethodName := ⟨RJ2, "length", "([B)I"⟩
abbrev cJ2_indexOf_4cfef : ByteArray := prog_16_method_40_code
def yJ2_indexOf_4cfef : MethodName := ⟨RJ2, "indexOf", "([BIII)I"⟩
abbrev cJ2_indexOfChar_4cfef : ByteArray := prog_16_method_47_code
def yJ2_indexOfChar_4cfef : MethodName := ⟨RJ2, "indexOfChar", "([BIII)I"⟩
abbrev cJ2_indexOfCharUnsafe_4cfef : ByteArray := prog_16_method_48_code
def yJ2_indexOfCharUnsafe_4cfef : MethodName := ⟨RJ2, "indexOfCharUnsafe", "([BIII)I"⟩
abbrev cJ2_indexOfSupplementary_4cfef : ByteArray := prog_16_method_49_code
def yJ2_indexOfSupplementary_4cfef : MethodName := ⟨RJ2, "indexOfSupplementary", "([BIII)I"⟩
abbrev cJ2_charAt_3b067 : ByteArray := prog_16_method_83_code
def yJ2_charAt_3b067 : MethodName := ⟨RJ2, "charAt", "([BI)C"⟩
abbrev cJ2_checkIndex_2214a : ByteArray := prog_16_method_91_code
def yJ2_checkIndex_2214a : MethodName := ⟨RJ2, "checkIndex", "(I[B)V"⟩
abbrev cJ2_checkBoundsBeginEnd_d044e : ByteArray := prog_16_method_93_code
def yJ2_checkBoundsBeginEnd_d044e : MethodName := ⟨RJ2, "checkBoundsBeginEnd", "(II[B)V"⟩
def RJ10 : String := "java/lang/System"
def TJ10 : u_T := fun k => match k with
  | _ => ("", "", "", false)
def tyJ10 : Nat → FieldType := fun k => match k with
  | _ => .int
abbrev wsJ100 : List Cond := u_ws RJ10 TJ10 0
theorem nmJ10 : ∀ a, a < 0 → ∀ b, b < 0 → a ≠ b → (TJ10 a).2.1 ≠ (TJ10 b).2.1 := by decide +kernel
theorem tyJ10_ok : ∀ k, k < 0 → parseFieldDescriptor (TJ10 k).2.2.1 = some (tyJ10 k) := by decide +kernel
def RJ3 : String := "jdk/internal/util/Preconditions"
def TJ3 : u_T := fun k => match k with
  | _ => ("", "", "", false)
def tyJ3 : Nat → FieldType := fun k => match k with
  | _ => .int
abbrev wsJ30 : List Cond := u_ws RJ3 TJ3 0
theorem nmJ3 : ∀ a, a < 0 → ∀ b, b < 0 → a ≠ b → (TJ3 a).2.1 ≠ (TJ3 b).2.1 := by decide +kernel
theorem tyJ3_ok : ∀ k, k < 0 → parseFieldDescriptor (TJ3 k).2.2.1 = some (tyJ3 k) := by decide +kernel
abbrev cJ3_checkIndex_8e157 : ByteArray := prog_18_method_11_code
def yJ3_checkIndex_8e157 : MethodName := ⟨RJ3, "checkIndex", "(IILjava/util/function/BiFunction;)I"⟩
abbrev cJ3_checkFromToIndex_8c36e : ByteArray := prog_18_method_12_code
def yJ3_checkFromToIndex_8c36e : MethodName := ⟨RJ3, "checkFromToIndex", "(IIILjava/util/function/BiFunction;)I"⟩
def RL : String := "NoGraveEnemyLaw"
abbrev cL_law : ByteArray := code
def yL_law : MethodName := ⟨RL, "law", "([I)Z"⟩
abbrev vwCl : List vw_C := [(RX0, TX0, 5), (RX1, TX1, 4), (RX2, TX2, 4), (RX3, TX3, 3), (RX4, TX4, 3), (RX5, TX5, 4), (RX6, TX6, 14), (RX7, TX7, 10), (RX8, TX8, 48)]
theorem dX0_init_0 : decode cX0_init 0 = .ok (.aload_n 0, 1) := by decide +kernel
theorem dX0_init_1 : decode cX0_init 1 = .ok (.invokespecial 3, 3) := by decide +kernel
theorem dX0_init_4 : decode cX0_init 4 = .ok (.aload_n 0, 1) := by decide +kernel
theorem dX0_init_5 : decode cX0_init 5 = .ok (.bipush 20, 2) := by decide +kernel
theorem dX0_init_7 : decode cX0_init 7 = .ok (.newarray .int, 2) := by decide +kernel
theorem dX0_init_9 : decode cX0_init 9 = .ok (.putfield 9, 3) := by decide +kernel
theorem dX0_init_12 : decode cX0_init 12 = .ok (.return_, 1) := by decide +kernel
theorem dX0_run_0 : decode cX0_run 0 = .ok (.iload 4, 2) := by decide +kernel
theorem dX0_run_2 : decode cX0_run 2 = .ok (.bipush 20, 2) := by decide +kernel
theorem dX0_run_4 : decode cX0_run 4 = .ok (.if_icmp .le 5, 3) := by decide +kernel
theorem dX0_run_7 : decode cX0_run 7 = .ok (.iconst 0, 1) := by decide +kernel
theorem dX0_run_8 : decode cX0_run 8 = .ok (.ireturn, 1) := by decide +kernel
theorem dX0_run_9 : decode cX0_run 9 = .ok (.iload_n 1, 1) := by decide +kernel
theorem dX0_run_10 : decode cX0_run 10 = .ok (.iload_n 2, 1) := by decide +kernel
theorem dX0_run_11 : decode cX0_run 11 = .ok (.invokestatic 15, 3) := by decide +kernel
theorem dX0_run_14 : decode cX0_run 14 = .ok (.istore 5, 2) := by decide +kernel
theorem dX0_run_16 : decode cX0_run 16 = .ok (.aload_n 0, 1) := by decide +kernel
theorem dX0_run_17 : decode cX0_run 17 = .ok (.iload 5, 2) := by decide +kernel
theorem dX0_run_19 : decode cX0_run 19 = .ok (.invokevirtual 19, 3) := by decide +kernel
theorem dX0_run_22 : decode cX0_run 22 = .ok (.iload 4, 2) := by decide +kernel
theorem dX0_run_24 : decode cX0_run 24 = .ok (.iconst 1, 1) := by decide +kernel
theorem dX0_run_25 : decode cX0_run 25 = .ok (.iadd, 1) := by decide +kernel
theorem dX0_run_26 : decode cX0_run 26 = .ok (.istore 6, 2) := by decide +kernel
theorem dX0_run_28 : decode cX0_run 28 = .ok (.iload 5, 2) := by decide +kernel
theorem dX0_run_30 : decode cX0_run 30 = .ok (.lookupswitch 259 #[(10, 98), (11, 105), (12, 123), (20, 138), (30, 151), (40, 163), (50, 186), (51, 197), (60, 209), (70, 224), (71, 244)], 98) := by decide +kernel
theorem dX0_run_128 : decode cX0_run 128 = .ok (.iload_n 3, 1) := by decide +kernel
theorem dX0_run_129 : decode cX0_run 129 = .ok (.aload_n 0, 1) := by decide +kernel
theorem dX0_run_130 : decode cX0_run 130 = .ok (.getfield 23, 3) := by decide +kernel
theorem dX0_run_133 : decode cX0_run 133 = .ok (.iadd, 1) := by decide +kernel
theorem dX0_run_134 : decode cX0_run 134 = .ok (.ireturn, 1) := by decide +kernel
theorem dX0_run_135 : decode cX0_run 135 = .ok (.aload_n 0, 1) := by decide +kernel
theorem dX0_run_136 : decode cX0_run 136 = .ok (.iconst 0, 1) := by decide +kernel
theorem dX0_run_137 : decode cX0_run 137 = .ok (.aload_n 0, 1) := by decide +kernel
theorem dX0_run_138 : decode cX0_run 138 = .ok (.getfield 27, 3) := by decide +kernel
theorem dX0_run_141 : decode cX0_run 141 = .ok (.iload_n 3, 1) := by decide +kernel
theorem dX0_run_142 : decode cX0_run 142 = .ok (.iload 6, 2) := by decide +kernel
theorem dX0_run_144 : decode cX0_run 144 = .ok (.invokestatic 30, 3) := by decide +kernel
theorem dX0_run_147 : decode cX0_run 147 = .ok (.aload_n 0, 1) := by decide +kernel
theorem dX0_run_148 : decode cX0_run 148 = .ok (.getfield 34, 3) := by decide +kernel
theorem dX0_run_151 : decode cX0_run 151 = .ok (.isub, 1) := by decide +kernel
theorem dX0_run_152 : decode cX0_run 152 = .ok (.ireturn, 1) := by decide +kernel
theorem dX0_run_153 : decode cX0_run 153 = .ok (.aload_n 0, 1) := by decide +kernel
theorem dX0_run_154 : decode cX0_run 154 = .ok (.iconst 1, 1) := by decide +kernel
theorem dX0_run_155 : decode cX0_run 155 = .ok (.aload_n 0, 1) := by decide +kernel
theorem dX0_run_156 : decode cX0_run 156 = .ok (.getfield 27, 3) := by decide +kernel
theorem dX0_run_159 : decode cX0_run 159 = .ok (.iload_n 3, 1) := by decide +kernel
theorem dX0_run_160 : decode cX0_run 160 = .ok (.iload 6, 2) := by decide +kernel
theorem dX0_run_162 : decode cX0_run 162 = .ok (.invokestatic 30, 3) := by decide +kernel
theorem dX0_run_165 : decode cX0_run 165 = .ok (.iconst 2, 1) := by decide +kernel
theorem dX0_run_166 : decode cX0_run 166 = .ok (.imul, 1) := by decide +kernel
theorem dX0_run_167 : decode cX0_run 167 = .ok (.ireturn, 1) := by decide +kernel
theorem dX0_run_168 : decode cX0_run 168 = .ok (.aload_n 0, 1) := by decide +kernel
theorem dX0_run_169 : decode cX0_run 169 = .ok (.iconst 1, 1) := by decide +kernel
theorem dX0_run_170 : decode cX0_run 170 = .ok (.iconst 0, 1) := by decide +kernel
theorem dX0_run_171 : decode cX0_run 171 = .ok (.iload_n 3, 1) := by decide +kernel
theorem dX0_run_172 : decode cX0_run 172 = .ok (.iload 6, 2) := by decide +kernel
theorem dX0_run_174 : decode cX0_run 174 = .ok (.invokestatic 30, 3) := by decide +kernel
theorem dX0_run_177 : decode cX0_run 177 = .ok (.bipush 6, 2) := by decide +kernel
theorem dX0_run_179 : decode cX0_run 179 = .ok (.ixor, 1) := by decide +kernel
theorem dX0_run_180 : decode cX0_run 180 = .ok (.ireturn, 1) := by decide +kernel
theorem dX0_run_181 : decode cX0_run 181 = .ok (.aload_n 0, 1) := by decide +kernel
theorem dX0_run_182 : decode cX0_run 182 = .ok (.iconst 0, 1) := by decide +kernel
theorem dX0_run_183 : decode cX0_run 183 = .ok (.iconst 0, 1) := by decide +kernel
theorem dX0_run_184 : decode cX0_run 184 = .ok (.iload_n 3, 1) := by decide +kernel
theorem dX0_run_185 : decode cX0_run 185 = .ok (.iconst 3, 1) := by decide +kernel
theorem dX0_run_186 : decode cX0_run 186 = .ok (.imul, 1) := by decide +kernel
theorem dX0_run_187 : decode cX0_run 187 = .ok (.iload 6, 2) := by decide +kernel
theorem dX0_run_189 : decode cX0_run 189 = .ok (.invokestatic 30, 3) := by decide +kernel
theorem dX0_run_192 : decode cX0_run 192 = .ok (.ireturn, 1) := by decide +kernel
theorem dX0_run_193 : decode cX0_run 193 = .ok (.aload_n 0, 1) := by decide +kernel
theorem dX0_run_194 : decode cX0_run 194 = .ok (.iconst 2, 1) := by decide +kernel
theorem dX0_run_195 : decode cX0_run 195 = .ok (.iconst 0, 1) := by decide +kernel
theorem dX0_run_196 : decode cX0_run 196 = .ok (.iload_n 3, 1) := by decide +kernel
theorem dX0_run_197 : decode cX0_run 197 = .ok (.iload 6, 2) := by decide +kernel
theorem dX0_run_199 : decode cX0_run 199 = .ok (.invokestatic 30, 3) := by decide +kernel
theorem dX0_run_202 : decode cX0_run 202 = .ok (.aload_n 0, 1) := by decide +kernel
theorem dX0_run_203 : decode cX0_run 203 = .ok (.iconst 1, 1) := by decide +kernel
theorem dX0_run_204 : decode cX0_run 204 = .ok (.aload_n 0, 1) := by decide +kernel
theorem dX0_run_205 : decode cX0_run 205 = .ok (.getfield 27, 3) := by decide +kernel
theorem dX0_run_208 : decode cX0_run 208 = .ok (.iconst 1, 1) := by decide +kernel
theorem dX0_run_209 : decode cX0_run 209 = .ok (.iload 6, 2) := by decide +kernel
theorem dX0_run_211 : decode cX0_run 211 = .ok (.invokestatic 30, 3) := by decide +kernel
theorem dX0_run_214 : decode cX0_run 214 = .ok (.iadd, 1) := by decide +kernel
theorem dX0_run_215 : decode cX0_run 215 = .ok (.ireturn, 1) := by decide +kernel
theorem dX0_run_216 : decode cX0_run 216 = .ok (.aload_n 0, 1) := by decide +kernel
theorem dX0_run_217 : decode cX0_run 217 = .ok (.iconst 0, 1) := by decide +kernel
theorem dX0_run_218 : decode cX0_run 218 = .ok (.iconst 1, 1) := by decide +kernel
theorem dX0_run_219 : decode cX0_run 219 = .ok (.iload_n 3, 1) := by decide +kernel
theorem dX0_run_220 : decode cX0_run 220 = .ok (.iload 6, 2) := by decide +kernel
theorem dX0_run_222 : decode cX0_run 222 = .ok (.invokestatic 30, 3) := by decide +kernel
theorem dX0_run_225 : decode cX0_run 225 = .ok (.ineg, 1) := by decide +kernel
theorem dX0_run_226 : decode cX0_run 226 = .ok (.ireturn, 1) := by decide +kernel
theorem dX0_run_227 : decode cX0_run 227 = .ok (.aload_n 0, 1) := by decide +kernel
theorem dX0_run_228 : decode cX0_run 228 = .ok (.iconst 1, 1) := by decide +kernel
theorem dX0_run_229 : decode cX0_run 229 = .ok (.iconst 1, 1) := by decide +kernel
theorem dX0_run_230 : decode cX0_run 230 = .ok (.iload_n 3, 1) := by decide +kernel
theorem dX0_run_231 : decode cX0_run 231 = .ok (.iconst 1, 1) := by decide +kernel
theorem dX0_run_232 : decode cX0_run 232 = .ok (.iadd, 1) := by decide +kernel
theorem dX0_run_233 : decode cX0_run 233 = .ok (.iload 6, 2) := by decide +kernel
theorem dX0_run_235 : decode cX0_run 235 = .ok (.invokestatic 30, 3) := by decide +kernel
theorem dX0_run_238 : decode cX0_run 238 = .ok (.ireturn, 1) := by decide +kernel
theorem dX0_run_239 : decode cX0_run 239 = .ok (.aload_n 0, 1) := by decide +kernel
theorem dX0_run_240 : decode cX0_run 240 = .ok (.iconst 2, 1) := by decide +kernel
theorem dX0_run_241 : decode cX0_run 241 = .ok (.iconst 2, 1) := by decide +kernel
theorem dX0_run_242 : decode cX0_run 242 = .ok (.iload_n 3, 1) := by decide +kernel
theorem dX0_run_243 : decode cX0_run 243 = .ok (.aload_n 0, 1) := by decide +kernel
theorem dX0_run_244 : decode cX0_run 244 = .ok (.getfield 23, 3) := by decide +kernel
theorem dX0_run_247 : decode cX0_run 247 = .ok (.isub, 1) := by decide +kernel
theorem dX0_run_248 : decode cX0_run 248 = .ok (.iload 6, 2) := by decide +kernel
theorem dX0_run_250 : decode cX0_run 250 = .ok (.invokestatic 30, 3) := by decide +kernel
theorem dX0_run_253 : decode cX0_run 253 = .ok (.ireturn, 1) := by decide +kernel
theorem dX0_run_254 : decode cX0_run 254 = .ok (.aload_n 0, 1) := by decide +kernel
theorem dX0_run_255 : decode cX0_run 255 = .ok (.iconst 1, 1) := by decide +kernel
theorem dX0_run_256 : decode cX0_run 256 = .ok (.iconst 3, 1) := by decide +kernel
theorem dX0_run_257 : decode cX0_run 257 = .ok (.iload_n 3, 1) := by decide +kernel
theorem dX0_run_258 : decode cX0_run 258 = .ok (.iload 6, 2) := by decide +kernel
theorem dX0_run_260 : decode cX0_run 260 = .ok (.invokestatic 30, 3) := by decide +kernel
theorem dX0_run_263 : decode cX0_run 263 = .ok (.aload_n 0, 1) := by decide +kernel
theorem dX0_run_264 : decode cX0_run 264 = .ok (.iconst 0, 1) := by decide +kernel
theorem dX0_run_265 : decode cX0_run 265 = .ok (.iconst 3, 1) := by decide +kernel
theorem dX0_run_266 : decode cX0_run 266 = .ok (.iconst 2, 1) := by decide +kernel
theorem dX0_run_267 : decode cX0_run 267 = .ok (.iload 6, 2) := by decide +kernel
theorem dX0_run_269 : decode cX0_run 269 = .ok (.invokestatic 30, 3) := by decide +kernel
theorem dX0_run_272 : decode cX0_run 272 = .ok (.iadd, 1) := by decide +kernel
theorem dX0_run_273 : decode cX0_run 273 = .ok (.ireturn, 1) := by decide +kernel
theorem dX0_run_274 : decode cX0_run 274 = .ok (.aload_n 0, 1) := by decide +kernel
theorem dX0_run_275 : decode cX0_run 275 = .ok (.iconst 0, 1) := by decide +kernel
theorem dX0_run_276 : decode cX0_run 276 = .ok (.iconst 3, 1) := by decide +kernel
theorem dX0_run_277 : decode cX0_run 277 = .ok (.iload_n 3, 1) := by decide +kernel
theorem dX0_run_278 : decode cX0_run 278 = .ok (.iload 6, 2) := by decide +kernel
theorem dX0_run_280 : decode cX0_run 280 = .ok (.invokestatic 30, 3) := by decide +kernel
theorem dX0_run_283 : decode cX0_run 283 = .ok (.aload_n 0, 1) := by decide +kernel
theorem dX0_run_284 : decode cX0_run 284 = .ok (.getfield 34, 3) := by decide +kernel
theorem dX0_run_287 : decode cX0_run 287 = .ok (.ixor, 1) := by decide +kernel
theorem dX0_run_288 : decode cX0_run 288 = .ok (.ireturn, 1) := by decide +kernel
theorem dX0_run_289 : decode cX0_run 289 = .ok (.iconst 0, 1) := by decide +kernel
theorem dX0_run_290 : decode cX0_run 290 = .ok (.ireturn, 1) := by decide +kernel
theorem dX0_bodyFor_0 : decode cX0_bodyFor 0 = .ok (.iload_n 1, 1) := by decide +kernel
theorem dX0_bodyFor_1 : decode cX0_bodyFor 1 = .ok (.istore_n 2, 1) := by decide +kernel
theorem dX0_bodyFor_2 : decode cX0_bodyFor 2 = .ok (.iconst 0, 1) := by decide +kernel
theorem dX0_bodyFor_3 : decode cX0_bodyFor 3 = .ok (.istore_n 3, 1) := by decide +kernel
theorem dX0_bodyFor_4 : decode cX0_bodyFor 4 = .ok (.iload_n 3, 1) := by decide +kernel
theorem dX0_bodyFor_5 : decode cX0_bodyFor 5 = .ok (.bipush 7, 2) := by decide +kernel
theorem dX0_bodyFor_7 : decode cX0_bodyFor 7 = .ok (.if_icmp .ge 56, 3) := by decide +kernel
theorem dX0_bodyFor_10 : decode cX0_bodyFor 10 = .ok (.iload_n 2, 1) := by decide +kernel
theorem dX0_bodyFor_11 : decode cX0_bodyFor 11 = .ok (.ifCond .lt 52, 3) := by decide +kernel
theorem dX0_bodyFor_14 : decode cX0_bodyFor 14 = .ok (.iload_n 2, 1) := by decide +kernel
theorem dX0_bodyFor_15 : decode cX0_bodyFor 15 = .ok (.bipush 7, 2) := by decide +kernel
theorem dX0_bodyFor_17 : decode cX0_bodyFor 17 = .ok (.if_icmp .ge 46, 3) := by decide +kernel
theorem dX0_bodyFor_20 : decode cX0_bodyFor 20 = .ok (.iload_n 0, 1) := by decide +kernel
theorem dX0_bodyFor_21 : decode cX0_bodyFor 21 = .ok (.ifCond .lt 42, 3) := by decide +kernel
theorem dX0_bodyFor_24 : decode cX0_bodyFor 24 = .ok (.iload_n 0, 1) := by decide +kernel
theorem dX0_bodyFor_25 : decode cX0_bodyFor 25 = .ok (.iconst 3, 1) := by decide +kernel
theorem dX0_bodyFor_26 : decode cX0_bodyFor 26 = .ok (.if_icmp .ge 37, 3) := by decide +kernel
theorem dX0_bodyFor_29 : decode cX0_bodyFor 29 = .ok (.getstatic 37, 3) := by decide +kernel
theorem dX0_bodyFor_32 : decode cX0_bodyFor 32 = .ok (.iload_n 2, 1) := by decide +kernel
theorem dX0_bodyFor_33 : decode cX0_bodyFor 33 = .ok (.iconst 3, 1) := by decide +kernel
theorem dX0_bodyFor_34 : decode cX0_bodyFor 34 = .ok (.imul, 1) := by decide +kernel
theorem dX0_bodyFor_35 : decode cX0_bodyFor 35 = .ok (.iload_n 0, 1) := by decide +kernel
theorem dX0_bodyFor_36 : decode cX0_bodyFor 36 = .ok (.iadd, 1) := by decide +kernel
theorem dX0_bodyFor_37 : decode cX0_bodyFor 37 = .ok (.iaload, 1) := by decide +kernel
theorem dX0_bodyFor_38 : decode cX0_bodyFor 38 = .ok (.ifCond .eq 13, 3) := by decide +kernel
theorem dX0_bodyFor_41 : decode cX0_bodyFor 41 = .ok (.getstatic 37, 3) := by decide +kernel
theorem dX0_bodyFor_44 : decode cX0_bodyFor 44 = .ok (.iload_n 2, 1) := by decide +kernel
theorem dX0_bodyFor_45 : decode cX0_bodyFor 45 = .ok (.iconst 3, 1) := by decide +kernel
theorem dX0_bodyFor_46 : decode cX0_bodyFor 46 = .ok (.imul, 1) := by decide +kernel
theorem dX0_bodyFor_47 : decode cX0_bodyFor 47 = .ok (.iload_n 0, 1) := by decide +kernel
theorem dX0_bodyFor_48 : decode cX0_bodyFor 48 = .ok (.iadd, 1) := by decide +kernel
theorem dX0_bodyFor_49 : decode cX0_bodyFor 49 = .ok (.iaload, 1) := by decide +kernel
theorem dX0_bodyFor_50 : decode cX0_bodyFor 50 = .ok (.ireturn, 1) := by decide +kernel
theorem dX0_bodyFor_51 : decode cX0_bodyFor 51 = .ok (.getstatic 40, 3) := by decide +kernel
theorem dX0_bodyFor_54 : decode cX0_bodyFor 54 = .ok (.iload_n 2, 1) := by decide +kernel
theorem dX0_bodyFor_55 : decode cX0_bodyFor 55 = .ok (.iaload, 1) := by decide +kernel
theorem dX0_bodyFor_56 : decode cX0_bodyFor 56 = .ok (.istore_n 2, 1) := by decide +kernel
theorem dX0_bodyFor_57 : decode cX0_bodyFor 57 = .ok (.iinc 3 1, 3) := by decide +kernel
theorem dX0_bodyFor_60 : decode cX0_bodyFor 60 = .ok (.goto (-56), 3) := by decide +kernel
theorem dX0_bodyFor_63 : decode cX0_bodyFor 63 = .ok (.iconst 0, 1) := by decide +kernel
theorem dX0_bodyFor_64 : decode cX0_bodyFor 64 = .ok (.ireturn, 1) := by decide +kernel
theorem dX0_note_0 : decode cX0_note 0 = .ok (.aload_n 0, 1) := by decide +kernel
theorem dX0_note_1 : decode cX0_note 1 = .ok (.getfield 43, 3) := by decide +kernel
theorem dX0_note_4 : decode cX0_note 4 = .ok (.bipush 20, 2) := by decide +kernel
theorem dX0_note_6 : decode cX0_note 6 = .ok (.if_icmp .ge 13, 3) := by decide +kernel
theorem dX0_note_9 : decode cX0_note 9 = .ok (.aload_n 0, 1) := by decide +kernel
theorem dX0_note_10 : decode cX0_note 10 = .ok (.getfield 9, 3) := by decide +kernel
theorem dX0_note_13 : decode cX0_note 13 = .ok (.aload_n 0, 1) := by decide +kernel
theorem dX0_note_14 : decode cX0_note 14 = .ok (.getfield 43, 3) := by decide +kernel
theorem dX0_note_17 : decode cX0_note 17 = .ok (.iload_n 1, 1) := by decide +kernel
theorem dX0_note_18 : decode cX0_note 18 = .ok (.iastore, 1) := by decide +kernel
theorem dX0_note_19 : decode cX0_note 19 = .ok (.aload_n 0, 1) := by decide +kernel
theorem dX0_note_20 : decode cX0_note 20 = .ok (.dup, 1) := by decide +kernel
theorem dX0_note_21 : decode cX0_note 21 = .ok (.getfield 43, 3) := by decide +kernel
theorem dX0_note_24 : decode cX0_note 24 = .ok (.iconst 1, 1) := by decide +kernel
theorem dX0_note_25 : decode cX0_note 25 = .ok (.iadd, 1) := by decide +kernel
theorem dX0_note_26 : decode cX0_note 26 = .ok (.putfield 43, 3) := by decide +kernel
theorem dX0_note_29 : decode cX0_note 29 = .ok (.return_, 1) := by decide +kernel
theorem dX1_init_0 : decode cX1_init 0 = .ok (.aload_n 0, 1) := by decide +kernel
theorem dX1_init_1 : decode cX1_init 1 = .ok (.invokespecial 3, 3) := by decide +kernel
theorem dX1_init_4 : decode cX1_init 4 = .ok (.aload_n 0, 1) := by decide +kernel
theorem dX1_init_5 : decode cX1_init 5 = .ok (.bipush 6, 2) := by decide +kernel
theorem dX1_init_7 : decode cX1_init 7 = .ok (.newarray .int, 2) := by decide +kernel
theorem dX1_init_9 : decode cX1_init 9 = .ok (.putfield 9, 3) := by decide +kernel
theorem dX1_init_12 : decode cX1_init 12 = .ok (.aload_n 0, 1) := by decide +kernel
theorem dX1_init_13 : decode cX1_init 13 = .ok (.bipush 6, 2) := by decide +kernel
theorem dX1_init_15 : decode cX1_init 15 = .ok (.newarray .int, 2) := by decide +kernel
theorem dX1_init_17 : decode cX1_init 17 = .ok (.putfield 15, 3) := by decide +kernel
theorem dX1_init_20 : decode cX1_init 20 = .ok (.aload_n 0, 1) := by decide +kernel
theorem dX1_init_21 : decode cX1_init 21 = .ok (.bipush 36, 2) := by decide +kernel
theorem dX1_init_23 : decode cX1_init 23 = .ok (.newarray .int, 2) := by decide +kernel
theorem dX1_init_25 : decode cX1_init 25 = .ok (.putfield 18, 3) := by decide +kernel
theorem dX1_init_28 : decode cX1_init 28 = .ok (.aload_n 0, 1) := by decide +kernel
theorem dX1_init_29 : decode cX1_init 29 = .ok (.bipush 64, 2) := by decide +kernel
theorem dX1_init_31 : decode cX1_init 31 = .ok (.newarray .int, 2) := by decide +kernel
theorem dX1_init_33 : decode cX1_init 33 = .ok (.putfield 21, 3) := by decide +kernel
theorem dX1_init_36 : decode cX1_init 36 = .ok (.return_, 1) := by decide +kernel
theorem dX1_findEnemies_0 : decode cX1_findEnemies 0 = .ok (.iconst 0, 1) := by decide +kernel
theorem dX1_findEnemies_1 : decode cX1_findEnemies 1 = .ok (.istore_n 3, 1) := by decide +kernel
theorem dX1_findEnemies_2 : decode cX1_findEnemies 2 = .ok (.iload_n 3, 1) := by decide +kernel
theorem dX1_findEnemies_3 : decode cX1_findEnemies 3 = .ok (.bipush 6, 2) := by decide +kernel
theorem dX1_findEnemies_5 : decode cX1_findEnemies 5 = .ok (.if_icmp .ge 37, 3) := by decide +kernel
theorem dX1_findEnemies_8 : decode cX1_findEnemies 8 = .ok (.aload_n 0, 1) := by decide +kernel
theorem dX1_findEnemies_9 : decode cX1_findEnemies 9 = .ok (.getfield 9, 3) := by decide +kernel
theorem dX1_findEnemies_12 : decode cX1_findEnemies 12 = .ok (.iload_n 3, 1) := by decide +kernel
theorem dX1_findEnemies_13 : decode cX1_findEnemies 13 = .ok (.iload_n 2, 1) := by decide +kernel
theorem dX1_findEnemies_14 : decode cX1_findEnemies 14 = .ok (.iload_n 3, 1) := by decide +kernel
theorem dX1_findEnemies_15 : decode cX1_findEnemies 15 = .ok (.invokestatic 24, 3) := by decide +kernel
theorem dX1_findEnemies_18 : decode cX1_findEnemies 18 = .ok (.iconst 1, 1) := by decide +kernel
theorem dX1_findEnemies_19 : decode cX1_findEnemies 19 = .ok (.if_icmp .ne 15, 3) := by decide +kernel
theorem dX1_findEnemies_22 : decode cX1_findEnemies 22 = .ok (.aload_n 1, 1) := by decide +kernel
theorem dX1_findEnemies_23 : decode cX1_findEnemies 23 = .ok (.iload_n 3, 1) := by decide +kernel
theorem dX1_findEnemies_24 : decode cX1_findEnemies 24 = .ok (.aload_n 1, 1) := by decide +kernel
theorem dX1_findEnemies_25 : decode cX1_findEnemies 25 = .ok (.getfield 28, 3) := by decide +kernel
theorem dX1_findEnemies_28 : decode cX1_findEnemies 28 = .ok (.invokevirtual 34, 3) := by decide +kernel
theorem dX1_findEnemies_31 : decode cX1_findEnemies 31 = .ok (.goto 4, 3) := by decide +kernel
theorem dX1_findEnemies_34 : decode cX1_findEnemies 34 = .ok (.iconst 0, 1) := by decide +kernel
theorem dX1_findEnemies_35 : decode cX1_findEnemies 35 = .ok (.iastore, 1) := by decide +kernel
theorem dX1_findEnemies_36 : decode cX1_findEnemies 36 = .ok (.iinc 3 1, 3) := by decide +kernel
theorem dX1_findEnemies_39 : decode cX1_findEnemies 39 = .ok (.goto (-37), 3) := by decide +kernel
theorem dX1_findEnemies_42 : decode cX1_findEnemies 42 = .ok (.return_, 1) := by decide +kernel
theorem dX1_lonely_0 : decode cX1_lonely 0 = .ok (.aload_n 1, 1) := by decide +kernel
theorem dX1_lonely_1 : decode cX1_lonely 1 = .ok (.invokevirtual 37, 3) := by decide +kernel
theorem dX1_lonely_4 : decode cX1_lonely 4 = .ok (.istore_n 2, 1) := by decide +kernel
theorem dX1_lonely_5 : decode cX1_lonely 5 = .ok (.aload_n 0, 1) := by decide +kernel
theorem dX1_lonely_6 : decode cX1_lonely 6 = .ok (.aload_n 1, 1) := by decide +kernel
theorem dX1_lonely_7 : decode cX1_lonely 7 = .ok (.iload_n 2, 1) := by decide +kernel
theorem dX1_lonely_8 : decode cX1_lonely 8 = .ok (.invokevirtual 41, 3) := by decide +kernel
theorem dX1_lonely_11 : decode cX1_lonely 11 = .ok (.iconst 0, 1) := by decide +kernel
theorem dX1_lonely_12 : decode cX1_lonely 12 = .ok (.istore_n 3, 1) := by decide +kernel
theorem dX1_lonely_13 : decode cX1_lonely 13 = .ok (.iconst 0, 1) := by decide +kernel
theorem dX1_lonely_14 : decode cX1_lonely 14 = .ok (.istore 4, 2) := by decide +kernel
theorem dX1_lonely_16 : decode cX1_lonely 16 = .ok (.iload 4, 2) := by decide +kernel
theorem dX1_lonely_18 : decode cX1_lonely 18 = .ok (.bipush 6, 2) := by decide +kernel
theorem dX1_lonely_20 : decode cX1_lonely 20 = .ok (.if_icmp .ge 36, 3) := by decide +kernel
theorem dX1_lonely_23 : decode cX1_lonely 23 = .ok (.iload_n 2, 1) := by decide +kernel
theorem dX1_lonely_24 : decode cX1_lonely 24 = .ok (.iload 4, 2) := by decide +kernel
theorem dX1_lonely_26 : decode cX1_lonely 26 = .ok (.invokestatic 24, 3) := by decide +kernel
theorem dX1_lonely_29 : decode cX1_lonely 29 = .ok (.iconst 1, 1) := by decide +kernel
theorem dX1_lonely_30 : decode cX1_lonely 30 = .ok (.if_icmp .ne 20, 3) := by decide +kernel
theorem dX1_lonely_33 : decode cX1_lonely 33 = .ok (.aload_n 0, 1) := by decide +kernel
theorem dX1_lonely_34 : decode cX1_lonely 34 = .ok (.getfield 9, 3) := by decide +kernel
theorem dX1_lonely_37 : decode cX1_lonely 37 = .ok (.iload 4, 2) := by decide +kernel
theorem dX1_lonely_39 : decode cX1_lonely 39 = .ok (.iaload, 1) := by decide +kernel
theorem dX1_lonely_40 : decode cX1_lonely 40 = .ok (.ifCond .ne 10, 3) := by decide +kernel
theorem dX1_lonely_43 : decode cX1_lonely 43 = .ok (.iload_n 3, 1) := by decide +kernel
theorem dX1_lonely_44 : decode cX1_lonely 44 = .ok (.iconst 1, 1) := by decide +kernel
theorem dX1_lonely_45 : decode cX1_lonely 45 = .ok (.iload 4, 2) := by decide +kernel
theorem dX1_lonely_47 : decode cX1_lonely 47 = .ok (.ishl, 1) := by decide +kernel
theorem dX1_lonely_48 : decode cX1_lonely 48 = .ok (.ior, 1) := by decide +kernel
theorem dX1_lonely_49 : decode cX1_lonely 49 = .ok (.istore_n 3, 1) := by decide +kernel
theorem dX1_lonely_50 : decode cX1_lonely 50 = .ok (.iinc 4 1, 3) := by decide +kernel
theorem dX1_lonely_53 : decode cX1_lonely 53 = .ok (.goto (-37), 3) := by decide +kernel
theorem dX1_lonely_56 : decode cX1_lonely 56 = .ok (.iload_n 3, 1) := by decide +kernel
theorem dX1_lonely_57 : decode cX1_lonely 57 = .ok (.ireturn, 1) := by decide +kernel
theorem dX1_keep_0 : decode cX1_keep 0 = .ok (.aload_n 1, 1) := by decide +kernel
theorem dX1_keep_1 : decode cX1_keep 1 = .ok (.invokevirtual 37, 3) := by decide +kernel
theorem dX1_keep_4 : decode cX1_keep 4 = .ok (.istore_n 2, 1) := by decide +kernel
theorem dX1_keep_5 : decode cX1_keep 5 = .ok (.aload_n 0, 1) := by decide +kernel
theorem dX1_keep_6 : decode cX1_keep 6 = .ok (.aload_n 1, 1) := by decide +kernel
theorem dX1_keep_7 : decode cX1_keep 7 = .ok (.iload_n 2, 1) := by decide +kernel
theorem dX1_keep_8 : decode cX1_keep 8 = .ok (.invokevirtual 41, 3) := by decide +kernel
theorem dX1_keep_11 : decode cX1_keep 11 = .ok (.bipush (-5), 2) := by decide +kernel
theorem dX1_keep_13 : decode cX1_keep 13 = .ok (.istore_n 3, 1) := by decide +kernel
theorem dX1_keep_14 : decode cX1_keep 14 = .ok (.bipush 7, 2) := by decide +kernel
theorem dX1_keep_16 : decode cX1_keep 16 = .ok (.istore 4, 2) := by decide +kernel
theorem dX1_keep_18 : decode cX1_keep 18 = .ok (.iconst 0, 1) := by decide +kernel
theorem dX1_keep_19 : decode cX1_keep 19 = .ok (.istore 5, 2) := by decide +kernel
theorem dX1_keep_21 : decode cX1_keep 21 = .ok (.iload 5, 2) := by decide +kernel
theorem dX1_keep_23 : decode cX1_keep 23 = .ok (.bipush 64, 2) := by decide +kernel
theorem dX1_keep_25 : decode cX1_keep 25 = .ok (.if_icmp .ge 49, 3) := by decide +kernel
theorem dX1_keep_28 : decode cX1_keep 28 = .ok (.iload 5, 2) := by decide +kernel
theorem dX1_keep_30 : decode cX1_keep 30 = .ok (.invokestatic 45, 3) := by decide +kernel
theorem dX1_keep_33 : decode cX1_keep 33 = .ok (.istore 6, 2) := by decide +kernel
theorem dX1_keep_35 : decode cX1_keep 35 = .ok (.iload 5, 2) := by decide +kernel
theorem dX1_keep_37 : decode cX1_keep 37 = .ok (.iload_n 2, 1) := by decide +kernel
theorem dX1_keep_38 : decode cX1_keep 38 = .ok (.iconst (-1), 1) := by decide +kernel
theorem dX1_keep_39 : decode cX1_keep 39 = .ok (.ixor, 1) := by decide +kernel
theorem dX1_keep_40 : decode cX1_keep 40 = .ok (.iand, 1) := by decide +kernel
theorem dX1_keep_41 : decode cX1_keep 41 = .ok (.ifCond .ne 27, 3) := by decide +kernel
theorem dX1_keep_44 : decode cX1_keep 44 = .ok (.iload 6, 2) := by decide +kernel
theorem dX1_keep_46 : decode cX1_keep 46 = .ok (.iload 4, 2) := by decide +kernel
theorem dX1_keep_48 : decode cX1_keep 48 = .ok (.if_icmp .ge 20, 3) := by decide +kernel
theorem dX1_keep_51 : decode cX1_keep 51 = .ok (.aload_n 0, 1) := by decide +kernel
theorem dX1_keep_52 : decode cX1_keep 52 = .ok (.iload 5, 2) := by decide +kernel
theorem dX1_keep_54 : decode cX1_keep 54 = .ok (.iload_n 2, 1) := by decide +kernel
theorem dX1_keep_55 : decode cX1_keep 55 = .ok (.invokevirtual 51, 3) := by decide +kernel
theorem dX1_keep_58 : decode cX1_keep 58 = .ok (.ifCond .eq 10, 3) := by decide +kernel
theorem dX1_keep_61 : decode cX1_keep 61 = .ok (.iload 5, 2) := by decide +kernel
theorem dX1_keep_63 : decode cX1_keep 63 = .ok (.istore_n 3, 1) := by decide +kernel
theorem dX1_keep_64 : decode cX1_keep 64 = .ok (.iload 6, 2) := by decide +kernel
theorem dX1_keep_66 : decode cX1_keep 66 = .ok (.istore 4, 2) := by decide +kernel
theorem dX1_keep_68 : decode cX1_keep 68 = .ok (.iinc 5 1, 3) := by decide +kernel
theorem dX1_keep_71 : decode cX1_keep 71 = .ok (.goto (-50), 3) := by decide +kernel
theorem dX1_keep_74 : decode cX1_keep 74 = .ok (.iload_n 3, 1) := by decide +kernel
theorem dX1_keep_75 : decode cX1_keep 75 = .ok (.ireturn, 1) := by decide +kernel
theorem dX1_isEnough_0 : decode cX1_isEnough 0 = .ok (.iconst 0, 1) := by decide +kernel
theorem dX1_isEnough_1 : decode cX1_isEnough 1 = .ok (.istore_n 3, 1) := by decide +kernel
theorem dX1_isEnough_2 : decode cX1_isEnough 2 = .ok (.iload_n 3, 1) := by decide +kernel
theorem dX1_isEnough_3 : decode cX1_isEnough 3 = .ok (.bipush 6, 2) := by decide +kernel
theorem dX1_isEnough_5 : decode cX1_isEnough 5 = .ok (.if_icmp .ge 31, 3) := by decide +kernel
theorem dX1_isEnough_8 : decode cX1_isEnough 8 = .ok (.iload_n 2, 1) := by decide +kernel
theorem dX1_isEnough_9 : decode cX1_isEnough 9 = .ok (.iload_n 3, 1) := by decide +kernel
theorem dX1_isEnough_10 : decode cX1_isEnough 10 = .ok (.invokestatic 24, 3) := by decide +kernel
theorem dX1_isEnough_13 : decode cX1_isEnough 13 = .ok (.iconst 1, 1) := by decide +kernel
theorem dX1_isEnough_14 : decode cX1_isEnough 14 = .ok (.if_icmp .ne 16, 3) := by decide +kernel
theorem dX1_isEnough_17 : decode cX1_isEnough 17 = .ok (.aload_n 0, 1) := by decide +kernel
theorem dX1_isEnough_18 : decode cX1_isEnough 18 = .ok (.getfield 9, 3) := by decide +kernel
theorem dX1_isEnough_21 : decode cX1_isEnough 21 = .ok (.iload_n 3, 1) := by decide +kernel
theorem dX1_isEnough_22 : decode cX1_isEnough 22 = .ok (.iaload, 1) := by decide +kernel
theorem dX1_isEnough_23 : decode cX1_isEnough 23 = .ok (.iload_n 1, 1) := by decide +kernel
theorem dX1_isEnough_24 : decode cX1_isEnough 24 = .ok (.iand, 1) := by decide +kernel
theorem dX1_isEnough_25 : decode cX1_isEnough 25 = .ok (.ifCond .ne 5, 3) := by decide +kernel
theorem dX1_isEnough_28 : decode cX1_isEnough 28 = .ok (.iconst 0, 1) := by decide +kernel
theorem dX1_isEnough_29 : decode cX1_isEnough 29 = .ok (.ireturn, 1) := by decide +kernel
theorem dX1_isEnough_30 : decode cX1_isEnough 30 = .ok (.iinc 3 1, 3) := by decide +kernel
theorem dX1_isEnough_33 : decode cX1_isEnough 33 = .ok (.goto (-31), 3) := by decide +kernel
theorem dX1_isEnough_36 : decode cX1_isEnough 36 = .ok (.iconst 1, 1) := by decide +kernel
theorem dX1_isEnough_37 : decode cX1_isEnough 37 = .ok (.ireturn, 1) := by decide +kernel
theorem dX1_findThrowers_0 : decode cX1_findThrowers 0 = .ok (.aload_n 0, 1) := by decide +kernel
theorem dX1_findThrowers_1 : decode cX1_findThrowers 1 = .ok (.aload_n 1, 1) := by decide +kernel
theorem dX1_findThrowers_2 : decode cX1_findThrowers 2 = .ok (.aload_n 1, 1) := by decide +kernel
theorem dX1_findThrowers_3 : decode cX1_findThrowers 3 = .ok (.getfield 55, 3) := by decide +kernel
theorem dX1_findThrowers_6 : decode cX1_findThrowers 6 = .ok (.aload_n 1, 1) := by decide +kernel
theorem dX1_findThrowers_7 : decode cX1_findThrowers 7 = .ok (.getfield 58, 3) := by decide +kernel
theorem dX1_findThrowers_10 : decode cX1_findThrowers 10 = .ok (.iconst (-1), 1) := by decide +kernel
theorem dX1_findThrowers_11 : decode cX1_findThrowers 11 = .ok (.ixor, 1) := by decide +kernel
theorem dX1_findThrowers_12 : decode cX1_findThrowers 12 = .ok (.iand, 1) := by decide +kernel
theorem dX1_findThrowers_13 : decode cX1_findThrowers 13 = .ok (.invokevirtual 41, 3) := by decide +kernel
theorem dX1_findThrowers_16 : decode cX1_findThrowers 16 = .ok (.aload_n 0, 1) := by decide +kernel
theorem dX1_findThrowers_17 : decode cX1_findThrowers 17 = .ok (.getfield 9, 3) := by decide +kernel
theorem dX1_findThrowers_20 : decode cX1_findThrowers 20 = .ok (.iconst 0, 1) := by decide +kernel
theorem dX1_findThrowers_21 : decode cX1_findThrowers 21 = .ok (.iconst 0, 1) := by decide +kernel
theorem dX1_findThrowers_22 : decode cX1_findThrowers 22 = .ok (.invokestatic 61, 3) := by decide +kernel
theorem dX1_findThrowers_25 : decode cX1_findThrowers 25 = .ok (.istore_n 2, 1) := by decide +kernel
theorem dX1_findThrowers_26 : decode cX1_findThrowers 26 = .ok (.iload_n 2, 1) := by decide +kernel
theorem dX1_findThrowers_27 : decode cX1_findThrowers 27 = .ok (.istore_n 3, 1) := by decide +kernel
theorem dX1_findThrowers_28 : decode cX1_findThrowers 28 = .ok (.iconst 0, 1) := by decide +kernel
theorem dX1_findThrowers_29 : decode cX1_findThrowers 29 = .ok (.istore 4, 2) := by decide +kernel
theorem dX1_findThrowers_31 : decode cX1_findThrowers 31 = .ok (.iconst 0, 1) := by decide +kernel
theorem dX1_findThrowers_32 : decode cX1_findThrowers 32 = .ok (.istore 5, 2) := by decide +kernel
theorem dX1_findThrowers_34 : decode cX1_findThrowers 34 = .ok (.iload 5, 2) := by decide +kernel
theorem dX1_findThrowers_36 : decode cX1_findThrowers 36 = .ok (.bipush 6, 2) := by decide +kernel
theorem dX1_findThrowers_38 : decode cX1_findThrowers 38 = .ok (.if_icmp .ge 124, 3) := by decide +kernel
theorem dX1_findThrowers_41 : decode cX1_findThrowers 41 = .ok (.aload_n 0, 1) := by decide +kernel
theorem dX1_findThrowers_42 : decode cX1_findThrowers 42 = .ok (.getfield 15, 3) := by decide +kernel
theorem dX1_findThrowers_45 : decode cX1_findThrowers 45 = .ok (.iload 5, 2) := by decide +kernel
theorem dX1_findThrowers_47 : decode cX1_findThrowers 47 = .ok (.bipush (-5), 2) := by decide +kernel
theorem dX1_findThrowers_49 : decode cX1_findThrowers 49 = .ok (.iastore, 1) := by decide +kernel
theorem dX1_findThrowers_50 : decode cX1_findThrowers 50 = .ok (.iconst 0, 1) := by decide +kernel
theorem dX1_findThrowers_51 : decode cX1_findThrowers 51 = .ok (.istore 6, 2) := by decide +kernel
theorem dX1_findThrowers_53 : decode cX1_findThrowers 53 = .ok (.iload 6, 2) := by decide +kernel
theorem dX1_findThrowers_55 : decode cX1_findThrowers 55 = .ok (.bipush 6, 2) := by decide +kernel
theorem dX1_findThrowers_57 : decode cX1_findThrowers 57 = .ok (.if_icmp .ge 99, 3) := by decide +kernel
theorem dX1_findThrowers_60 : decode cX1_findThrowers 60 = .ok (.aload_n 0, 1) := by decide +kernel
theorem dX1_findThrowers_61 : decode cX1_findThrowers 61 = .ok (.getfield 15, 3) := by decide +kernel
theorem dX1_findThrowers_64 : decode cX1_findThrowers 64 = .ok (.iload 5, 2) := by decide +kernel
theorem dX1_findThrowers_66 : decode cX1_findThrowers 66 = .ok (.iaload, 1) := by decide +kernel
theorem dX1_findThrowers_67 : decode cX1_findThrowers 67 = .ok (.bipush (-5), 2) := by decide +kernel
theorem dX1_findThrowers_69 : decode cX1_findThrowers 69 = .ok (.if_icmp .ne 87, 3) := by decide +kernel
theorem dX1_findThrowers_72 : decode cX1_findThrowers 72 = .ok (.aload_n 0, 1) := by decide +kernel
theorem dX1_findThrowers_73 : decode cX1_findThrowers 73 = .ok (.getfield 9, 3) := by decide +kernel
theorem dX1_findThrowers_76 : decode cX1_findThrowers 76 = .ok (.iload 5, 2) := by decide +kernel
theorem dX1_findThrowers_78 : decode cX1_findThrowers 78 = .ok (.iaload, 1) := by decide +kernel
theorem dX1_findThrowers_79 : decode cX1_findThrowers 79 = .ok (.iload 4, 2) := by decide +kernel
theorem dX1_findThrowers_81 : decode cX1_findThrowers 81 = .ok (.iconst (-1), 1) := by decide +kernel
theorem dX1_findThrowers_82 : decode cX1_findThrowers 82 = .ok (.ixor, 1) := by decide +kernel
theorem dX1_findThrowers_83 : decode cX1_findThrowers 83 = .ok (.iand, 1) := by decide +kernel
theorem dX1_findThrowers_84 : decode cX1_findThrowers 84 = .ok (.iload 6, 2) := by decide +kernel
theorem dX1_findThrowers_86 : decode cX1_findThrowers 86 = .ok (.invokestatic 24, 3) := by decide +kernel
theorem dX1_findThrowers_89 : decode cX1_findThrowers 89 = .ok (.iconst 1, 1) := by decide +kernel
theorem dX1_findThrowers_90 : decode cX1_findThrowers 90 = .ok (.if_icmp .ne 7, 3) := by decide +kernel
theorem dX1_findThrowers_93 : decode cX1_findThrowers 93 = .ok (.iconst 1, 1) := by decide +kernel
theorem dX1_findThrowers_94 : decode cX1_findThrowers 94 = .ok (.goto 4, 3) := by decide +kernel
theorem dX1_findThrowers_97 : decode cX1_findThrowers 97 = .ok (.iconst 0, 1) := by decide +kernel
theorem dX1_findThrowers_98 : decode cX1_findThrowers 98 = .ok (.istore 7, 2) := by decide +kernel
theorem dX1_findThrowers_100 : decode cX1_findThrowers 100 = .ok (.iload 7, 2) := by decide +kernel
theorem dX1_findThrowers_102 : decode cX1_findThrowers 102 = .ok (.ifCond .eq 48, 3) := by decide +kernel
theorem dX1_findThrowers_105 : decode cX1_findThrowers 105 = .ok (.aload_n 0, 1) := by decide +kernel
theorem dX1_findThrowers_106 : decode cX1_findThrowers 106 = .ok (.getfield 9, 3) := by decide +kernel
theorem dX1_findThrowers_109 : decode cX1_findThrowers 109 = .ok (.iload 5, 2) := by decide +kernel
theorem dX1_findThrowers_111 : decode cX1_findThrowers 111 = .ok (.iconst 1, 1) := by decide +kernel
theorem dX1_findThrowers_112 : decode cX1_findThrowers 112 = .ok (.iadd, 1) := by decide +kernel
theorem dX1_findThrowers_113 : decode cX1_findThrowers 113 = .ok (.iload 4, 2) := by decide +kernel
theorem dX1_findThrowers_115 : decode cX1_findThrowers 115 = .ok (.iconst 1, 1) := by decide +kernel
theorem dX1_findThrowers_116 : decode cX1_findThrowers 116 = .ok (.iload 6, 2) := by decide +kernel
theorem dX1_findThrowers_118 : decode cX1_findThrowers 118 = .ok (.ishl, 1) := by decide +kernel
theorem dX1_findThrowers_119 : decode cX1_findThrowers 119 = .ok (.ior, 1) := by decide +kernel
theorem dX1_findThrowers_120 : decode cX1_findThrowers 120 = .ok (.invokestatic 61, 3) := by decide +kernel
theorem dX1_findThrowers_123 : decode cX1_findThrowers 123 = .ok (.iconst 1, 1) := by decide +kernel
theorem dX1_findThrowers_124 : decode cX1_findThrowers 124 = .ok (.iadd, 1) := by decide +kernel
theorem dX1_findThrowers_125 : decode cX1_findThrowers 125 = .ok (.iload_n 3, 1) := by decide +kernel
theorem dX1_findThrowers_126 : decode cX1_findThrowers 126 = .ok (.if_icmp .ne 24, 3) := by decide +kernel
theorem dX1_findThrowers_129 : decode cX1_findThrowers 129 = .ok (.aload_n 0, 1) := by decide +kernel
theorem dX1_findThrowers_130 : decode cX1_findThrowers 130 = .ok (.getfield 15, 3) := by decide +kernel
theorem dX1_findThrowers_133 : decode cX1_findThrowers 133 = .ok (.iload 5, 2) := by decide +kernel
theorem dX1_findThrowers_135 : decode cX1_findThrowers 135 = .ok (.iload 6, 2) := by decide +kernel
theorem dX1_findThrowers_137 : decode cX1_findThrowers 137 = .ok (.iastore, 1) := by decide +kernel
theorem dX1_findThrowers_138 : decode cX1_findThrowers 138 = .ok (.iload 4, 2) := by decide +kernel
theorem dX1_findThrowers_140 : decode cX1_findThrowers 140 = .ok (.iconst 1, 1) := by decide +kernel
theorem dX1_findThrowers_141 : decode cX1_findThrowers 141 = .ok (.iload 6, 2) := by decide +kernel
theorem dX1_findThrowers_143 : decode cX1_findThrowers 143 = .ok (.ishl, 1) := by decide +kernel
theorem dX1_findThrowers_144 : decode cX1_findThrowers 144 = .ok (.ior, 1) := by decide +kernel
theorem dX1_findThrowers_145 : decode cX1_findThrowers 145 = .ok (.istore 4, 2) := by decide +kernel
theorem dX1_findThrowers_147 : decode cX1_findThrowers 147 = .ok (.iinc 3 (-1), 3) := by decide +kernel
theorem dX1_findThrowers_150 : decode cX1_findThrowers 150 = .ok (.iinc 6 1, 3) := by decide +kernel
theorem dX1_findThrowers_153 : decode cX1_findThrowers 153 = .ok (.goto (-100), 3) := by decide +kernel
theorem dX1_findThrowers_156 : decode cX1_findThrowers 156 = .ok (.iinc 5 1, 3) := by decide +kernel
theorem dX1_findThrowers_159 : decode cX1_findThrowers 159 = .ok (.goto (-125), 3) := by decide +kernel
theorem dX1_findThrowers_162 : decode cX1_findThrowers 162 = .ok (.iload_n 2, 1) := by decide +kernel
theorem dX1_findThrowers_163 : decode cX1_findThrowers 163 = .ok (.ireturn, 1) := by decide +kernel
theorem dX1_mostFrom_0 : decode cX1_mostFrom 0 = .ok (.iload_n 1, 1) := by decide +kernel
theorem dX1_mostFrom_1 : decode cX1_mostFrom 1 = .ok (.ifCond .lt 15, 3) := by decide +kernel
theorem dX1_mostFrom_4 : decode cX1_mostFrom 4 = .ok (.iload_n 1, 1) := by decide +kernel
theorem dX1_mostFrom_5 : decode cX1_mostFrom 5 = .ok (.bipush 6, 2) := by decide +kernel
theorem dX1_mostFrom_7 : decode cX1_mostFrom 7 = .ok (.if_icmp .ge 9, 3) := by decide +kernel
theorem dX1_mostFrom_10 : decode cX1_mostFrom 10 = .ok (.iload_n 1, 1) := by decide +kernel
theorem dX1_mostFrom_11 : decode cX1_mostFrom 11 = .ok (.aload_n 0, 1) := by decide +kernel
theorem dX1_mostFrom_12 : decode cX1_mostFrom 12 = .ok (.arraylength, 1) := by decide +kernel
theorem dX1_mostFrom_13 : decode cX1_mostFrom 13 = .ok (.if_icmp .lt 5, 3) := by decide +kernel
theorem dX1_mostFrom_16 : decode cX1_mostFrom 16 = .ok (.iconst 0, 1) := by decide +kernel
theorem dX1_mostFrom_17 : decode cX1_mostFrom 17 = .ok (.ireturn, 1) := by decide +kernel
theorem dX1_mostFrom_18 : decode cX1_mostFrom 18 = .ok (.aload_n 0, 1) := by decide +kernel
theorem dX1_mostFrom_19 : decode cX1_mostFrom 19 = .ok (.iload_n 1, 1) := by decide +kernel
theorem dX1_mostFrom_20 : decode cX1_mostFrom 20 = .ok (.iconst 1, 1) := by decide +kernel
theorem dX1_mostFrom_21 : decode cX1_mostFrom 21 = .ok (.iadd, 1) := by decide +kernel
theorem dX1_mostFrom_22 : decode cX1_mostFrom 22 = .ok (.iload_n 2, 1) := by decide +kernel
theorem dX1_mostFrom_23 : decode cX1_mostFrom 23 = .ok (.invokestatic 61, 3) := by decide +kernel
theorem dX1_mostFrom_26 : decode cX1_mostFrom 26 = .ok (.istore_n 3, 1) := by decide +kernel
theorem dX1_mostFrom_27 : decode cX1_mostFrom 27 = .ok (.iconst 0, 1) := by decide +kernel
theorem dX1_mostFrom_28 : decode cX1_mostFrom 28 = .ok (.istore 4, 2) := by decide +kernel
theorem dX1_mostFrom_30 : decode cX1_mostFrom 30 = .ok (.iload 4, 2) := by decide +kernel
theorem dX1_mostFrom_32 : decode cX1_mostFrom 32 = .ok (.bipush 6, 2) := by decide +kernel
theorem dX1_mostFrom_34 : decode cX1_mostFrom 34 = .ok (.if_icmp .ge 45, 3) := by decide +kernel
theorem dX1_mostFrom_37 : decode cX1_mostFrom 37 = .ok (.aload_n 0, 1) := by decide +kernel
theorem dX1_mostFrom_38 : decode cX1_mostFrom 38 = .ok (.iload_n 1, 1) := by decide +kernel
theorem dX1_mostFrom_39 : decode cX1_mostFrom 39 = .ok (.iaload, 1) := by decide +kernel
theorem dX1_mostFrom_40 : decode cX1_mostFrom 40 = .ok (.iload_n 2, 1) := by decide +kernel
theorem dX1_mostFrom_41 : decode cX1_mostFrom 41 = .ok (.iconst (-1), 1) := by decide +kernel
theorem dX1_mostFrom_42 : decode cX1_mostFrom 42 = .ok (.ixor, 1) := by decide +kernel
theorem dX1_mostFrom_43 : decode cX1_mostFrom 43 = .ok (.iand, 1) := by decide +kernel
theorem dX1_mostFrom_44 : decode cX1_mostFrom 44 = .ok (.iload 4, 2) := by decide +kernel
theorem dX1_mostFrom_46 : decode cX1_mostFrom 46 = .ok (.invokestatic 24, 3) := by decide +kernel
theorem dX1_mostFrom_49 : decode cX1_mostFrom 49 = .ok (.iconst 1, 1) := by decide +kernel
theorem dX1_mostFrom_50 : decode cX1_mostFrom 50 = .ok (.if_icmp .ne 23, 3) := by decide +kernel
theorem dX1_mostFrom_53 : decode cX1_mostFrom 53 = .ok (.iload_n 3, 1) := by decide +kernel
theorem dX1_mostFrom_54 : decode cX1_mostFrom 54 = .ok (.aload_n 0, 1) := by decide +kernel
theorem dX1_mostFrom_55 : decode cX1_mostFrom 55 = .ok (.iload_n 1, 1) := by decide +kernel
theorem dX1_mostFrom_56 : decode cX1_mostFrom 56 = .ok (.iconst 1, 1) := by decide +kernel
theorem dX1_mostFrom_57 : decode cX1_mostFrom 57 = .ok (.iadd, 1) := by decide +kernel
theorem dX1_mostFrom_58 : decode cX1_mostFrom 58 = .ok (.iload_n 2, 1) := by decide +kernel
theorem dX1_mostFrom_59 : decode cX1_mostFrom 59 = .ok (.iconst 1, 1) := by decide +kernel
theorem dX1_mostFrom_60 : decode cX1_mostFrom 60 = .ok (.iload 4, 2) := by decide +kernel
theorem dX1_mostFrom_62 : decode cX1_mostFrom 62 = .ok (.ishl, 1) := by decide +kernel
theorem dX1_mostFrom_63 : decode cX1_mostFrom 63 = .ok (.ior, 1) := by decide +kernel
theorem dX1_mostFrom_64 : decode cX1_mostFrom 64 = .ok (.invokestatic 61, 3) := by decide +kernel
theorem dX1_mostFrom_67 : decode cX1_mostFrom 67 = .ok (.iconst 1, 1) := by decide +kernel
theorem dX1_mostFrom_68 : decode cX1_mostFrom 68 = .ok (.iadd, 1) := by decide +kernel
theorem dX1_mostFrom_69 : decode cX1_mostFrom 69 = .ok (.invokestatic 65, 3) := by decide +kernel
theorem dX1_mostFrom_72 : decode cX1_mostFrom 72 = .ok (.istore_n 3, 1) := by decide +kernel
theorem dX1_mostFrom_73 : decode cX1_mostFrom 73 = .ok (.iinc 4 1, 3) := by decide +kernel
theorem dX1_mostFrom_76 : decode cX1_mostFrom 76 = .ok (.goto (-46), 3) := by decide +kernel
theorem dX1_mostFrom_79 : decode cX1_mostFrom 79 = .ok (.iload_n 3, 1) := by decide +kernel
theorem dX1_mostFrom_80 : decode cX1_mostFrom 80 = .ok (.ireturn, 1) := by decide +kernel
theorem dX1_findWays_0 : decode cX1_findWays 0 = .ok (.aload_n 1, 1) := by decide +kernel
theorem dX1_findWays_1 : decode cX1_findWays 1 = .ok (.invokevirtual 37, 3) := by decide +kernel
theorem dX1_findWays_4 : decode cX1_findWays 4 = .ok (.istore_n 2, 1) := by decide +kernel
theorem dX1_findWays_5 : decode cX1_findWays 5 = .ok (.iconst 0, 1) := by decide +kernel
theorem dX1_findWays_6 : decode cX1_findWays 6 = .ok (.istore_n 3, 1) := by decide +kernel
theorem dX1_findWays_7 : decode cX1_findWays 7 = .ok (.iload_n 3, 1) := by decide +kernel
theorem dX1_findWays_8 : decode cX1_findWays 8 = .ok (.bipush 64, 2) := by decide +kernel
theorem dX1_findWays_10 : decode cX1_findWays 10 = .ok (.if_icmp .ge 24, 3) := by decide +kernel
theorem dX1_findWays_13 : decode cX1_findWays 13 = .ok (.aload_n 0, 1) := by decide +kernel
theorem dX1_findWays_14 : decode cX1_findWays 14 = .ok (.getfield 21, 3) := by decide +kernel
theorem dX1_findWays_17 : decode cX1_findWays 17 = .ok (.iload_n 3, 1) := by decide +kernel
theorem dX1_findWays_18 : decode cX1_findWays 18 = .ok (.iload_n 3, 1) := by decide +kernel
theorem dX1_findWays_19 : decode cX1_findWays 19 = .ok (.ifCond .ne 7, 3) := by decide +kernel
theorem dX1_findWays_22 : decode cX1_findWays 22 = .ok (.iconst 1, 1) := by decide +kernel
theorem dX1_findWays_23 : decode cX1_findWays 23 = .ok (.goto 4, 3) := by decide +kernel
theorem dX1_findWays_26 : decode cX1_findWays 26 = .ok (.iconst 0, 1) := by decide +kernel
theorem dX1_findWays_27 : decode cX1_findWays 27 = .ok (.iastore, 1) := by decide +kernel
theorem dX1_findWays_28 : decode cX1_findWays 28 = .ok (.iinc 3 1, 3) := by decide +kernel
theorem dX1_findWays_31 : decode cX1_findWays 31 = .ok (.goto (-24), 3) := by decide +kernel
theorem dX1_findWays_34 : decode cX1_findWays 34 = .ok (.iconst 0, 1) := by decide +kernel
theorem dX1_findWays_35 : decode cX1_findWays 35 = .ok (.istore_n 3, 1) := by decide +kernel
theorem dX1_findWays_36 : decode cX1_findWays 36 = .ok (.iload_n 3, 1) := by decide +kernel
theorem dX1_findWays_37 : decode cX1_findWays 37 = .ok (.bipush 64, 2) := by decide +kernel
theorem dX1_findWays_39 : decode cX1_findWays 39 = .ok (.if_icmp .ge 96, 3) := by decide +kernel
theorem dX1_findWays_42 : decode cX1_findWays 42 = .ok (.iload_n 3, 1) := by decide +kernel
theorem dX1_findWays_43 : decode cX1_findWays 43 = .ok (.invokestatic 45, 3) := by decide +kernel
theorem dX1_findWays_46 : decode cX1_findWays 46 = .ok (.istore 4, 2) := by decide +kernel
theorem dX1_findWays_48 : decode cX1_findWays 48 = .ok (.iconst 0, 1) := by decide +kernel
theorem dX1_findWays_49 : decode cX1_findWays 49 = .ok (.istore 5, 2) := by decide +kernel
theorem dX1_findWays_51 : decode cX1_findWays 51 = .ok (.iload 5, 2) := by decide +kernel
theorem dX1_findWays_53 : decode cX1_findWays 53 = .ok (.bipush 6, 2) := by decide +kernel
theorem dX1_findWays_55 : decode cX1_findWays 55 = .ok (.if_icmp .ge 74, 3) := by decide +kernel
theorem dX1_findWays_58 : decode cX1_findWays 58 = .ok (.iload 4, 2) := by decide +kernel
theorem dX1_findWays_60 : decode cX1_findWays 60 = .ok (.bipush 6, 2) := by decide +kernel
theorem dX1_findWays_62 : decode cX1_findWays 62 = .ok (.if_icmp .ge 67, 3) := by decide +kernel
theorem dX1_findWays_65 : decode cX1_findWays 65 = .ok (.aload_n 0, 1) := by decide +kernel
theorem dX1_findWays_66 : decode cX1_findWays 66 = .ok (.getfield 18, 3) := by decide +kernel
theorem dX1_findWays_69 : decode cX1_findWays 69 = .ok (.iload 4, 2) := by decide +kernel
theorem dX1_findWays_71 : decode cX1_findWays 71 = .ok (.bipush 6, 2) := by decide +kernel
theorem dX1_findWays_73 : decode cX1_findWays 73 = .ok (.imul, 1) := by decide +kernel
theorem dX1_findWays_74 : decode cX1_findWays 74 = .ok (.iload 5, 2) := by decide +kernel
theorem dX1_findWays_76 : decode cX1_findWays 76 = .ok (.iadd, 1) := by decide +kernel
theorem dX1_findWays_77 : decode cX1_findWays 77 = .ok (.iaload, 1) := by decide +kernel
theorem dX1_findWays_78 : decode cX1_findWays 78 = .ok (.iload_n 3, 1) := by decide +kernel
theorem dX1_findWays_79 : decode cX1_findWays 79 = .ok (.iconst (-1), 1) := by decide +kernel
theorem dX1_findWays_80 : decode cX1_findWays 80 = .ok (.ixor, 1) := by decide +kernel
theorem dX1_findWays_81 : decode cX1_findWays 81 = .ok (.iand, 1) := by decide +kernel
theorem dX1_findWays_82 : decode cX1_findWays 82 = .ok (.istore 6, 2) := by decide +kernel
theorem dX1_findWays_84 : decode cX1_findWays 84 = .ok (.iload_n 2, 1) := by decide +kernel
theorem dX1_findWays_85 : decode cX1_findWays 85 = .ok (.iload_n 3, 1) := by decide +kernel
theorem dX1_findWays_86 : decode cX1_findWays 86 = .ok (.iconst (-1), 1) := by decide +kernel
theorem dX1_findWays_87 : decode cX1_findWays 87 = .ok (.ixor, 1) := by decide +kernel
theorem dX1_findWays_88 : decode cX1_findWays 88 = .ok (.iand, 1) := by decide +kernel
theorem dX1_findWays_89 : decode cX1_findWays 89 = .ok (.iload 5, 2) := by decide +kernel
theorem dX1_findWays_91 : decode cX1_findWays 91 = .ok (.invokestatic 24, 3) := by decide +kernel
theorem dX1_findWays_94 : decode cX1_findWays 94 = .ok (.iconst 1, 1) := by decide +kernel
theorem dX1_findWays_95 : decode cX1_findWays 95 = .ok (.if_icmp .ne 28, 3) := by decide +kernel
theorem dX1_findWays_98 : decode cX1_findWays 98 = .ok (.iload 6, 2) := by decide +kernel
theorem dX1_findWays_100 : decode cX1_findWays 100 = .ok (.ifCond .eq 23, 3) := by decide +kernel
theorem dX1_findWays_103 : decode cX1_findWays 103 = .ok (.aload_n 0, 1) := by decide +kernel
theorem dX1_findWays_104 : decode cX1_findWays 104 = .ok (.getfield 21, 3) := by decide +kernel
theorem dX1_findWays_107 : decode cX1_findWays 107 = .ok (.iload_n 3, 1) := by decide +kernel
theorem dX1_findWays_108 : decode cX1_findWays 108 = .ok (.iconst 1, 1) := by decide +kernel
theorem dX1_findWays_109 : decode cX1_findWays 109 = .ok (.iload 5, 2) := by decide +kernel
theorem dX1_findWays_111 : decode cX1_findWays 111 = .ok (.ishl, 1) := by decide +kernel
theorem dX1_findWays_112 : decode cX1_findWays 112 = .ok (.ior, 1) := by decide +kernel
theorem dX1_findWays_113 : decode cX1_findWays 113 = .ok (.dup2, 1) := by decide +kernel
theorem dX1_findWays_114 : decode cX1_findWays 114 = .ok (.iaload, 1) := by decide +kernel
theorem dX1_findWays_115 : decode cX1_findWays 115 = .ok (.aload_n 0, 1) := by decide +kernel
theorem dX1_findWays_116 : decode cX1_findWays 116 = .ok (.getfield 21, 3) := by decide +kernel
theorem dX1_findWays_119 : decode cX1_findWays 119 = .ok (.iload_n 3, 1) := by decide +kernel
theorem dX1_findWays_120 : decode cX1_findWays 120 = .ok (.iaload, 1) := by decide +kernel
theorem dX1_findWays_121 : decode cX1_findWays 121 = .ok (.iadd, 1) := by decide +kernel
theorem dX1_findWays_122 : decode cX1_findWays 122 = .ok (.iastore, 1) := by decide +kernel
theorem dX1_findWays_123 : decode cX1_findWays 123 = .ok (.iinc 5 1, 3) := by decide +kernel
theorem dX1_findWays_126 : decode cX1_findWays 126 = .ok (.goto (-75), 3) := by decide +kernel
theorem dX1_findWays_129 : decode cX1_findWays 129 = .ok (.iinc 3 1, 3) := by decide +kernel
theorem dX1_findWays_132 : decode cX1_findWays 132 = .ok (.goto (-96), 3) := by decide +kernel
theorem dX1_findWays_135 : decode cX1_findWays 135 = .ok (.return_, 1) := by decide +kernel
theorem dX1_findEnemiesByDay_0 : decode cX1_findEnemiesByDay 0 = .ok (.iconst 0, 1) := by decide +kernel
theorem dX1_findEnemiesByDay_1 : decode cX1_findEnemiesByDay 1 = .ok (.istore_n 2, 1) := by decide +kernel
theorem dX1_findEnemiesByDay_2 : decode cX1_findEnemiesByDay 2 = .ok (.iload_n 2, 1) := by decide +kernel
theorem dX1_findEnemiesByDay_3 : decode cX1_findEnemiesByDay 3 = .ok (.bipush 6, 2) := by decide +kernel
theorem dX1_findEnemiesByDay_5 : decode cX1_findEnemiesByDay 5 = .ok (.if_icmp .ge 61, 3) := by decide +kernel
theorem dX1_findEnemiesByDay_8 : decode cX1_findEnemiesByDay 8 = .ok (.iconst 0, 1) := by decide +kernel
theorem dX1_findEnemiesByDay_9 : decode cX1_findEnemiesByDay 9 = .ok (.istore_n 3, 1) := by decide +kernel
theorem dX1_findEnemiesByDay_10 : decode cX1_findEnemiesByDay 10 = .ok (.iload_n 3, 1) := by decide +kernel
theorem dX1_findEnemiesByDay_11 : decode cX1_findEnemiesByDay 11 = .ok (.bipush 6, 2) := by decide +kernel
theorem dX1_findEnemiesByDay_13 : decode cX1_findEnemiesByDay 13 = .ok (.if_icmp .ge 47, 3) := by decide +kernel
theorem dX1_findEnemiesByDay_16 : decode cX1_findEnemiesByDay 16 = .ok (.aload_n 1, 1) := by decide +kernel
theorem dX1_findEnemiesByDay_17 : decode cX1_findEnemiesByDay 17 = .ok (.getfield 28, 3) := by decide +kernel
theorem dX1_findEnemiesByDay_20 : decode cX1_findEnemiesByDay 20 = .ok (.iload_n 2, 1) := by decide +kernel
theorem dX1_findEnemiesByDay_21 : decode cX1_findEnemiesByDay 21 = .ok (.iadd, 1) := by decide +kernel
theorem dX1_findEnemiesByDay_22 : decode cX1_findEnemiesByDay 22 = .ok (.istore 4, 2) := by decide +kernel
theorem dX1_findEnemiesByDay_24 : decode cX1_findEnemiesByDay 24 = .ok (.aload_n 0, 1) := by decide +kernel
theorem dX1_findEnemiesByDay_25 : decode cX1_findEnemiesByDay 25 = .ok (.getfield 18, 3) := by decide +kernel
theorem dX1_findEnemiesByDay_28 : decode cX1_findEnemiesByDay 28 = .ok (.iload_n 2, 1) := by decide +kernel
theorem dX1_findEnemiesByDay_29 : decode cX1_findEnemiesByDay 29 = .ok (.bipush 6, 2) := by decide +kernel
theorem dX1_findEnemiesByDay_31 : decode cX1_findEnemiesByDay 31 = .ok (.imul, 1) := by decide +kernel
theorem dX1_findEnemiesByDay_32 : decode cX1_findEnemiesByDay 32 = .ok (.iload_n 3, 1) := by decide +kernel
theorem dX1_findEnemiesByDay_33 : decode cX1_findEnemiesByDay 33 = .ok (.iadd, 1) := by decide +kernel
theorem dX1_findEnemiesByDay_34 : decode cX1_findEnemiesByDay 34 = .ok (.aload_n 1, 1) := by decide +kernel
theorem dX1_findEnemiesByDay_35 : decode cX1_findEnemiesByDay 35 = .ok (.iload_n 3, 1) := by decide +kernel
theorem dX1_findEnemiesByDay_36 : decode cX1_findEnemiesByDay 36 = .ok (.invokevirtual 70, 3) := by decide +kernel
theorem dX1_findEnemiesByDay_39 : decode cX1_findEnemiesByDay 39 = .ok (.ifCond .eq 13, 3) := by decide +kernel
theorem dX1_findEnemiesByDay_42 : decode cX1_findEnemiesByDay 42 = .ok (.aload_n 1, 1) := by decide +kernel
theorem dX1_findEnemiesByDay_43 : decode cX1_findEnemiesByDay 43 = .ok (.iload_n 3, 1) := by decide +kernel
theorem dX1_findEnemiesByDay_44 : decode cX1_findEnemiesByDay 44 = .ok (.iload 4, 2) := by decide +kernel
theorem dX1_findEnemiesByDay_46 : decode cX1_findEnemiesByDay 46 = .ok (.invokevirtual 34, 3) := by decide +kernel
theorem dX1_findEnemiesByDay_49 : decode cX1_findEnemiesByDay 49 = .ok (.goto 4, 3) := by decide +kernel
theorem dX1_findEnemiesByDay_52 : decode cX1_findEnemiesByDay 52 = .ok (.iconst 0, 1) := by decide +kernel
theorem dX1_findEnemiesByDay_53 : decode cX1_findEnemiesByDay 53 = .ok (.iastore, 1) := by decide +kernel
theorem dX1_findEnemiesByDay_54 : decode cX1_findEnemiesByDay 54 = .ok (.iinc 3 1, 3) := by decide +kernel
theorem dX1_findEnemiesByDay_57 : decode cX1_findEnemiesByDay 57 = .ok (.goto (-47), 3) := by decide +kernel
theorem dX1_findEnemiesByDay_60 : decode cX1_findEnemiesByDay 60 = .ok (.iinc 2 1, 3) := by decide +kernel
theorem dX1_findEnemiesByDay_63 : decode cX1_findEnemiesByDay 63 = .ok (.goto (-61), 3) := by decide +kernel
theorem dX1_findEnemiesByDay_66 : decode cX1_findEnemiesByDay 66 = .ok (.return_, 1) := by decide +kernel
theorem dX1_rowsOf_0 : decode cX1_rowsOf 0 = .ok (.aload_n 0, 1) := by decide +kernel
theorem dX1_rowsOf_1 : decode cX1_rowsOf 1 = .ok (.aload_n 1, 1) := by decide +kernel
theorem dX1_rowsOf_2 : decode cX1_rowsOf 2 = .ok (.invokevirtual 74, 3) := by decide +kernel
theorem dX1_rowsOf_5 : decode cX1_rowsOf 5 = .ok (.aload_n 0, 1) := by decide +kernel
theorem dX1_rowsOf_6 : decode cX1_rowsOf 6 = .ok (.aload_n 1, 1) := by decide +kernel
theorem dX1_rowsOf_7 : decode cX1_rowsOf 7 = .ok (.invokevirtual 78, 3) := by decide +kernel
theorem dX1_rowsOf_10 : decode cX1_rowsOf 10 = .ok (.iconst 0, 1) := by decide +kernel
theorem dX1_rowsOf_11 : decode cX1_rowsOf 11 = .ok (.istore_n 3, 1) := by decide +kernel
theorem dX1_rowsOf_12 : decode cX1_rowsOf 12 = .ok (.iconst 0, 1) := by decide +kernel
theorem dX1_rowsOf_13 : decode cX1_rowsOf 13 = .ok (.istore 4, 2) := by decide +kernel
theorem dX1_rowsOf_15 : decode cX1_rowsOf 15 = .ok (.iload 4, 2) := by decide +kernel
theorem dX1_rowsOf_17 : decode cX1_rowsOf 17 = .ok (.bipush 64, 2) := by decide +kernel
theorem dX1_rowsOf_19 : decode cX1_rowsOf 19 = .ok (.if_icmp .ge 28, 3) := by decide +kernel
theorem dX1_rowsOf_22 : decode cX1_rowsOf 22 = .ok (.iload 4, 2) := by decide +kernel
theorem dX1_rowsOf_24 : decode cX1_rowsOf 24 = .ok (.invokestatic 45, 3) := by decide +kernel
theorem dX1_rowsOf_27 : decode cX1_rowsOf 27 = .ok (.iload_n 2, 1) := by decide +kernel
theorem dX1_rowsOf_28 : decode cX1_rowsOf 28 = .ok (.if_icmp .ne 13, 3) := by decide +kernel
theorem dX1_rowsOf_31 : decode cX1_rowsOf 31 = .ok (.iload_n 3, 1) := by decide +kernel
theorem dX1_rowsOf_32 : decode cX1_rowsOf 32 = .ok (.aload_n 0, 1) := by decide +kernel
theorem dX1_rowsOf_33 : decode cX1_rowsOf 33 = .ok (.getfield 21, 3) := by decide +kernel
theorem dX1_rowsOf_36 : decode cX1_rowsOf 36 = .ok (.iload 4, 2) := by decide +kernel
theorem dX1_rowsOf_38 : decode cX1_rowsOf 38 = .ok (.iaload, 1) := by decide +kernel
theorem dX1_rowsOf_39 : decode cX1_rowsOf 39 = .ok (.iadd, 1) := by decide +kernel
theorem dX1_rowsOf_40 : decode cX1_rowsOf 40 = .ok (.istore_n 3, 1) := by decide +kernel
theorem dX1_rowsOf_41 : decode cX1_rowsOf 41 = .ok (.iinc 4 1, 3) := by decide +kernel
theorem dX1_rowsOf_44 : decode cX1_rowsOf 44 = .ok (.goto (-29), 3) := by decide +kernel
theorem dX1_rowsOf_47 : decode cX1_rowsOf 47 = .ok (.iload_n 3, 1) := by decide +kernel
theorem dX1_rowsOf_48 : decode cX1_rowsOf 48 = .ok (.ireturn, 1) := by decide +kernel
theorem dX1_longest_0 : decode cX1_longest 0 = .ok (.aload_n 0, 1) := by decide +kernel
theorem dX1_longest_1 : decode cX1_longest 1 = .ok (.aload_n 1, 1) := by decide +kernel
theorem dX1_longest_2 : decode cX1_longest 2 = .ok (.invokevirtual 74, 3) := by decide +kernel
theorem dX1_longest_5 : decode cX1_longest 5 = .ok (.aload_n 0, 1) := by decide +kernel
theorem dX1_longest_6 : decode cX1_longest 6 = .ok (.aload_n 1, 1) := by decide +kernel
theorem dX1_longest_7 : decode cX1_longest 7 = .ok (.invokevirtual 78, 3) := by decide +kernel
theorem dX1_longest_10 : decode cX1_longest 10 = .ok (.iconst 0, 1) := by decide +kernel
theorem dX1_longest_11 : decode cX1_longest 11 = .ok (.istore_n 2, 1) := by decide +kernel
theorem dX1_longest_12 : decode cX1_longest 12 = .ok (.iconst 0, 1) := by decide +kernel
theorem dX1_longest_13 : decode cX1_longest 13 = .ok (.istore_n 3, 1) := by decide +kernel
theorem dX1_longest_14 : decode cX1_longest 14 = .ok (.iload_n 3, 1) := by decide +kernel
theorem dX1_longest_15 : decode cX1_longest 15 = .ok (.bipush 64, 2) := by decide +kernel
theorem dX1_longest_17 : decode cX1_longest 17 = .ok (.if_icmp .ge 27, 3) := by decide +kernel
theorem dX1_longest_20 : decode cX1_longest 20 = .ok (.aload_n 0, 1) := by decide +kernel
theorem dX1_longest_21 : decode cX1_longest 21 = .ok (.getfield 21, 3) := by decide +kernel
theorem dX1_longest_24 : decode cX1_longest 24 = .ok (.iload_n 3, 1) := by decide +kernel
theorem dX1_longest_25 : decode cX1_longest 25 = .ok (.iaload, 1) := by decide +kernel
theorem dX1_longest_26 : decode cX1_longest 26 = .ok (.ifCond .le 12, 3) := by decide +kernel
theorem dX1_longest_29 : decode cX1_longest 29 = .ok (.iload_n 2, 1) := by decide +kernel
theorem dX1_longest_30 : decode cX1_longest 30 = .ok (.iload_n 3, 1) := by decide +kernel
theorem dX1_longest_31 : decode cX1_longest 31 = .ok (.invokestatic 45, 3) := by decide +kernel
theorem dX1_longest_34 : decode cX1_longest 34 = .ok (.invokestatic 65, 3) := by decide +kernel
theorem dX1_longest_37 : decode cX1_longest 37 = .ok (.istore_n 2, 1) := by decide +kernel
theorem dX1_longest_38 : decode cX1_longest 38 = .ok (.iinc 3 1, 3) := by decide +kernel
theorem dX1_longest_41 : decode cX1_longest 41 = .ok (.goto (-27), 3) := by decide +kernel
theorem dX1_longest_44 : decode cX1_longest 44 = .ok (.iload_n 2, 1) := by decide +kernel
theorem dX1_longest_45 : decode cX1_longest 45 = .ok (.ireturn, 1) := by decide +kernel
theorem dX2_init_0 : decode cX2_init 0 = .ok (.aload_n 0, 1) := by decide +kernel
theorem dX2_init_1 : decode cX2_init 1 = .ok (.invokespecial 3, 3) := by decide +kernel
theorem dX2_init_4 : decode cX2_init 4 = .ok (.aload_n 0, 1) := by decide +kernel
theorem dX2_init_5 : decode cX2_init 5 = .ok (.bipush 100, 2) := by decide +kernel
theorem dX2_init_7 : decode cX2_init 7 = .ok (.newarray .int, 2) := by decide +kernel
theorem dX2_init_9 : decode cX2_init 9 = .ok (.putfield 9, 3) := by decide +kernel
theorem dX2_init_12 : decode cX2_init 12 = .ok (.aload_n 0, 1) := by decide +kernel
theorem dX2_init_13 : decode cX2_init 13 = .ok (.bipush 100, 2) := by decide +kernel
theorem dX2_init_15 : decode cX2_init 15 = .ok (.newarray .int, 2) := by decide +kernel
theorem dX2_init_17 : decode cX2_init 17 = .ok (.putfield 15, 3) := by decide +kernel
theorem dX2_init_20 : decode cX2_init 20 = .ok (.aload_n 0, 1) := by decide +kernel
theorem dX2_init_21 : decode cX2_init 21 = .ok (.bipush 30, 2) := by decide +kernel
theorem dX2_init_23 : decode cX2_init 23 = .ok (.putfield 18, 3) := by decide +kernel
theorem dX2_init_26 : decode cX2_init 26 = .ok (.return_, 1) := by decide +kernel
theorem dX2_startOver_0 : decode cX2_startOver 0 = .ok (.aload_n 0, 1) := by decide +kernel
theorem dX2_startOver_1 : decode cX2_startOver 1 = .ok (.iconst 0, 1) := by decide +kernel
theorem dX2_startOver_2 : decode cX2_startOver 2 = .ok (.putfield 22, 3) := by decide +kernel
theorem dX2_startOver_5 : decode cX2_startOver 5 = .ok (.aload_n 0, 1) := by decide +kernel
theorem dX2_startOver_6 : decode cX2_startOver 6 = .ok (.bipush 30, 2) := by decide +kernel
theorem dX2_startOver_8 : decode cX2_startOver 8 = .ok (.putfield 18, 3) := by decide +kernel
theorem dX2_startOver_11 : decode cX2_startOver 11 = .ok (.return_, 1) := by decide +kernel
theorem dX2_put_0 : decode cX2_put 0 = .ok (.aload_n 0, 1) := by decide +kernel
theorem dX2_put_1 : decode cX2_put 1 = .ok (.getfield 22, 3) := by decide +kernel
theorem dX2_put_4 : decode cX2_put 4 = .ok (.bipush 100, 2) := by decide +kernel
theorem dX2_put_6 : decode cX2_put 6 = .ok (.if_icmp .ge 33, 3) := by decide +kernel
theorem dX2_put_9 : decode cX2_put 9 = .ok (.aload_n 0, 1) := by decide +kernel
theorem dX2_put_10 : decode cX2_put 10 = .ok (.getfield 9, 3) := by decide +kernel
theorem dX2_put_13 : decode cX2_put 13 = .ok (.aload_n 0, 1) := by decide +kernel
theorem dX2_put_14 : decode cX2_put 14 = .ok (.getfield 22, 3) := by decide +kernel
theorem dX2_put_17 : decode cX2_put 17 = .ok (.iload_n 1, 1) := by decide +kernel
theorem dX2_put_18 : decode cX2_put 18 = .ok (.iastore, 1) := by decide +kernel
theorem dX2_put_19 : decode cX2_put 19 = .ok (.aload_n 0, 1) := by decide +kernel
theorem dX2_put_20 : decode cX2_put 20 = .ok (.getfield 15, 3) := by decide +kernel
theorem dX2_put_23 : decode cX2_put 23 = .ok (.aload_n 0, 1) := by decide +kernel
theorem dX2_put_24 : decode cX2_put 24 = .ok (.getfield 22, 3) := by decide +kernel
theorem dX2_put_27 : decode cX2_put 27 = .ok (.iload_n 2, 1) := by decide +kernel
theorem dX2_put_28 : decode cX2_put 28 = .ok (.iastore, 1) := by decide +kernel
theorem dX2_put_29 : decode cX2_put 29 = .ok (.aload_n 0, 1) := by decide +kernel
theorem dX2_put_30 : decode cX2_put 30 = .ok (.dup, 1) := by decide +kernel
theorem dX2_put_31 : decode cX2_put 31 = .ok (.getfield 22, 3) := by decide +kernel
theorem dX2_put_34 : decode cX2_put 34 = .ok (.iconst 1, 1) := by decide +kernel
theorem dX2_put_35 : decode cX2_put 35 = .ok (.iadd, 1) := by decide +kernel
theorem dX2_put_36 : decode cX2_put 36 = .ok (.putfield 22, 3) := by decide +kernel
theorem dX2_put_39 : decode cX2_put 39 = .ok (.return_, 1) := by decide +kernel
theorem dX2_weigh_0 : decode cX2_weigh 0 = .ok (.iconst 0, 1) := by decide +kernel
theorem dX2_weigh_1 : decode cX2_weigh 1 = .ok (.istore_n 2, 1) := by decide +kernel
theorem dX2_weigh_2 : decode cX2_weigh 2 = .ok (.iconst 0, 1) := by decide +kernel
theorem dX2_weigh_3 : decode cX2_weigh 3 = .ok (.istore_n 3, 1) := by decide +kernel
theorem dX2_weigh_4 : decode cX2_weigh 4 = .ok (.iconst 0, 1) := by decide +kernel
theorem dX2_weigh_5 : decode cX2_weigh 5 = .ok (.istore 4, 2) := by decide +kernel
theorem dX2_weigh_7 : decode cX2_weigh 7 = .ok (.iload 4, 2) := by decide +kernel
theorem dX2_weigh_9 : decode cX2_weigh 9 = .ok (.aload_n 0, 1) := by decide +kernel
theorem dX2_weigh_10 : decode cX2_weigh 10 = .ok (.getfield 22, 3) := by decide +kernel
theorem dX2_weigh_13 : decode cX2_weigh 13 = .ok (.if_icmp .ge 185, 3) := by decide +kernel
theorem dX2_weigh_16 : decode cX2_weigh 16 = .ok (.aload_n 0, 1) := by decide +kernel
theorem dX2_weigh_17 : decode cX2_weigh 17 = .ok (.getfield 9, 3) := by decide +kernel
theorem dX2_weigh_20 : decode cX2_weigh 20 = .ok (.iload 4, 2) := by decide +kernel
theorem dX2_weigh_22 : decode cX2_weigh 22 = .ok (.iaload, 1) := by decide +kernel
theorem dX2_weigh_23 : decode cX2_weigh 23 = .ok (.istore 5, 2) := by decide +kernel
theorem dX2_weigh_25 : decode cX2_weigh 25 = .ok (.iload_n 3, 1) := by decide +kernel
theorem dX2_weigh_26 : decode cX2_weigh 26 = .ok (.iconst 1, 1) := by decide +kernel
theorem dX2_weigh_27 : decode cX2_weigh 27 = .ok (.iand, 1) := by decide +kernel
theorem dX2_weigh_28 : decode cX2_weigh 28 = .ok (.istore 6, 2) := by decide +kernel
theorem dX2_weigh_30 : decode cX2_weigh 30 = .ok (.iload 5, 2) := by decide +kernel
theorem dX2_weigh_32 : decode cX2_weigh 32 = .ok (.iconst (-1), 1) := by decide +kernel
theorem dX2_weigh_33 : decode cX2_weigh 33 = .ok (.if_icmp .ne 10, 3) := by decide +kernel
theorem dX2_weigh_36 : decode cX2_weigh 36 = .ok (.iload_n 3, 1) := by decide +kernel
theorem dX2_weigh_37 : decode cX2_weigh 37 = .ok (.iconst 1, 1) := by decide +kernel
theorem dX2_weigh_38 : decode cX2_weigh 38 = .ok (.ixor, 1) := by decide +kernel
theorem dX2_weigh_39 : decode cX2_weigh 39 = .ok (.istore_n 3, 1) := by decide +kernel
theorem dX2_weigh_40 : decode cX2_weigh 40 = .ok (.goto 152, 3) := by decide +kernel
theorem dX2_weigh_43 : decode cX2_weigh 43 = .ok (.iload 5, 2) := by decide +kernel
theorem dX2_weigh_45 : decode cX2_weigh 45 = .ok (.bipush (-2), 2) := by decide +kernel
theorem dX2_weigh_47 : decode cX2_weigh 47 = .ok (.if_icmp .ne 25, 3) := by decide +kernel
theorem dX2_weigh_50 : decode cX2_weigh 50 = .ok (.iload 6, 2) := by decide +kernel
theorem dX2_weigh_52 : decode cX2_weigh 52 = .ok (.iconst 1, 1) := by decide +kernel
theorem dX2_weigh_53 : decode cX2_weigh 53 = .ok (.if_icmp .ne 9, 3) := by decide +kernel
theorem dX2_weigh_56 : decode cX2_weigh 56 = .ok (.iload_n 3, 1) := by decide +kernel
theorem dX2_weigh_57 : decode cX2_weigh 57 = .ok (.iconst 1, 1) := by decide +kernel
theorem dX2_weigh_58 : decode cX2_weigh 58 = .ok (.ishr, 1) := by decide +kernel
theorem dX2_weigh_59 : decode cX2_weigh 59 = .ok (.goto 9, 3) := by decide +kernel
theorem dX2_weigh_62 : decode cX2_weigh 62 = .ok (.iload_n 3, 1) := by decide +kernel
theorem dX2_weigh_63 : decode cX2_weigh 63 = .ok (.iconst 1, 1) := by decide +kernel
theorem dX2_weigh_64 : decode cX2_weigh 64 = .ok (.ishr, 1) := by decide +kernel
theorem dX2_weigh_65 : decode cX2_weigh 65 = .ok (.bipush (-2), 2) := by decide +kernel
theorem dX2_weigh_67 : decode cX2_weigh 67 = .ok (.iand, 1) := by decide +kernel
theorem dX2_weigh_68 : decode cX2_weigh 68 = .ok (.istore_n 3, 1) := by decide +kernel
theorem dX2_weigh_69 : decode cX2_weigh 69 = .ok (.goto 123, 3) := by decide +kernel
theorem dX2_weigh_72 : decode cX2_weigh 72 = .ok (.iload 5, 2) := by decide +kernel
theorem dX2_weigh_74 : decode cX2_weigh 74 = .ok (.bipush (-3), 2) := by decide +kernel
theorem dX2_weigh_76 : decode cX2_weigh 76 = .ok (.if_icmp .ne 13, 3) := by decide +kernel
theorem dX2_weigh_79 : decode cX2_weigh 79 = .ok (.iload_n 3, 1) := by decide +kernel
theorem dX2_weigh_80 : decode cX2_weigh 80 = .ok (.iconst 1, 1) := by decide +kernel
theorem dX2_weigh_81 : decode cX2_weigh 81 = .ok (.ishr, 1) := by decide +kernel
theorem dX2_weigh_82 : decode cX2_weigh 82 = .ok (.iload 6, 2) := by decide +kernel
theorem dX2_weigh_84 : decode cX2_weigh 84 = .ok (.ior, 1) := by decide +kernel
theorem dX2_weigh_85 : decode cX2_weigh 85 = .ok (.istore_n 3, 1) := by decide +kernel
theorem dX2_weigh_86 : decode cX2_weigh 86 = .ok (.goto 106, 3) := by decide +kernel
theorem dX2_weigh_89 : decode cX2_weigh 89 = .ok (.iload 5, 2) := by decide +kernel
theorem dX2_weigh_91 : decode cX2_weigh 91 = .ok (.bipush (-4), 2) := by decide +kernel
theorem dX2_weigh_93 : decode cX2_weigh 93 = .ok (.if_icmp .ne 23, 3) := by decide +kernel
theorem dX2_weigh_96 : decode cX2_weigh 96 = .ok (.iload_n 2, 1) := by decide +kernel
theorem dX2_weigh_97 : decode cX2_weigh 97 = .ok (.iload 6, 2) := by decide +kernel
theorem dX2_weigh_99 : decode cX2_weigh 99 = .ok (.aload_n 0, 1) := by decide +kernel
theorem dX2_weigh_100 : decode cX2_weigh 100 = .ok (.getfield 15, 3) := by decide +kernel
theorem dX2_weigh_103 : decode cX2_weigh 103 = .ok (.iload 4, 2) := by decide +kernel
theorem dX2_weigh_105 : decode cX2_weigh 105 = .ok (.iaload, 1) := by decide +kernel
theorem dX2_weigh_106 : decode cX2_weigh 106 = .ok (.imul, 1) := by decide +kernel
theorem dX2_weigh_107 : decode cX2_weigh 107 = .ok (.iadd, 1) := by decide +kernel
theorem dX2_weigh_108 : decode cX2_weigh 108 = .ok (.istore_n 2, 1) := by decide +kernel
theorem dX2_weigh_109 : decode cX2_weigh 109 = .ok (.iload_n 3, 1) := by decide +kernel
theorem dX2_weigh_110 : decode cX2_weigh 110 = .ok (.iconst 1, 1) := by decide +kernel
theorem dX2_weigh_111 : decode cX2_weigh 111 = .ok (.ishr, 1) := by decide +kernel
theorem dX2_weigh_112 : decode cX2_weigh 112 = .ok (.istore_n 3, 1) := by decide +kernel
theorem dX2_weigh_113 : decode cX2_weigh 113 = .ok (.goto 79, 3) := by decide +kernel
theorem dX2_weigh_116 : decode cX2_weigh 116 = .ok (.iload 5, 2) := by decide +kernel
theorem dX2_weigh_118 : decode cX2_weigh 118 = .ok (.ifCond .lt 74, 3) := by decide +kernel
theorem dX2_weigh_121 : decode cX2_weigh 121 = .ok (.iload 5, 2) := by decide +kernel
theorem dX2_weigh_123 : decode cX2_weigh 123 = .ok (.iconst 3, 1) := by decide +kernel
theorem dX2_weigh_124 : decode cX2_weigh 124 = .ok (.idiv, 1) := by decide +kernel
theorem dX2_weigh_125 : decode cX2_weigh 125 = .ok (.aload_n 1, 1) := by decide +kernel
theorem dX2_weigh_126 : decode cX2_weigh 126 = .ok (.arraylength, 1) := by decide +kernel
theorem dX2_weigh_127 : decode cX2_weigh 127 = .ok (.if_icmp .ge 65, 3) := by decide +kernel
theorem dX2_weigh_130 : decode cX2_weigh 130 = .ok (.aload_n 1, 1) := by decide +kernel
theorem dX2_weigh_131 : decode cX2_weigh 131 = .ok (.iload 5, 2) := by decide +kernel
theorem dX2_weigh_133 : decode cX2_weigh 133 = .ok (.iconst 3, 1) := by decide +kernel
theorem dX2_weigh_134 : decode cX2_weigh 134 = .ok (.idiv, 1) := by decide +kernel
theorem dX2_weigh_135 : decode cX2_weigh 135 = .ok (.iaload, 1) := by decide +kernel
theorem dX2_weigh_136 : decode cX2_weigh 136 = .ok (.istore 7, 2) := by decide +kernel
theorem dX2_weigh_138 : decode cX2_weigh 138 = .ok (.iload 7, 2) := by decide +kernel
theorem dX2_weigh_140 : decode cX2_weigh 140 = .ok (.aload_n 0, 1) := by decide +kernel
theorem dX2_weigh_141 : decode cX2_weigh 141 = .ok (.getfield 15, 3) := by decide +kernel
theorem dX2_weigh_144 : decode cX2_weigh 144 = .ok (.iload 4, 2) := by decide +kernel
theorem dX2_weigh_146 : decode cX2_weigh 146 = .ok (.iaload, 1) := by decide +kernel
theorem dX2_weigh_147 : decode cX2_weigh 147 = .ok (.if_icmp .ge 7, 3) := by decide +kernel
theorem dX2_weigh_150 : decode cX2_weigh 150 = .ok (.iconst 0, 1) := by decide +kernel
theorem dX2_weigh_151 : decode cX2_weigh 151 = .ok (.goto 20, 3) := by decide +kernel
theorem dX2_weigh_154 : decode cX2_weigh 154 = .ok (.iload 7, 2) := by decide +kernel
theorem dX2_weigh_156 : decode cX2_weigh 156 = .ok (.aload_n 0, 1) := by decide +kernel
theorem dX2_weigh_157 : decode cX2_weigh 157 = .ok (.getfield 15, 3) := by decide +kernel
theorem dX2_weigh_160 : decode cX2_weigh 160 = .ok (.iload 4, 2) := by decide +kernel
theorem dX2_weigh_162 : decode cX2_weigh 162 = .ok (.iaload, 1) := by decide +kernel
theorem dX2_weigh_163 : decode cX2_weigh 163 = .ok (.if_icmp .ne 7, 3) := by decide +kernel
theorem dX2_weigh_166 : decode cX2_weigh 166 = .ok (.iconst 1, 1) := by decide +kernel
theorem dX2_weigh_167 : decode cX2_weigh 167 = .ok (.goto 4, 3) := by decide +kernel
theorem dX2_weigh_170 : decode cX2_weigh 170 = .ok (.iconst 2, 1) := by decide +kernel
theorem dX2_weigh_171 : decode cX2_weigh 171 = .ok (.istore 8, 2) := by decide +kernel
theorem dX2_weigh_173 : decode cX2_weigh 173 = .ok (.iload_n 3, 1) := by decide +kernel
theorem dX2_weigh_174 : decode cX2_weigh 174 = .ok (.iconst 1, 1) := by decide +kernel
theorem dX2_weigh_175 : decode cX2_weigh 175 = .ok (.ishl, 1) := by decide +kernel
theorem dX2_weigh_176 : decode cX2_weigh 176 = .ok (.iload 8, 2) := by decide +kernel
theorem dX2_weigh_178 : decode cX2_weigh 178 = .ok (.iload 5, 2) := by decide +kernel
theorem dX2_weigh_180 : decode cX2_weigh 180 = .ok (.iconst 3, 1) := by decide +kernel
theorem dX2_weigh_181 : decode cX2_weigh 181 = .ok (.irem, 1) := by decide +kernel
theorem dX2_weigh_182 : decode cX2_weigh 182 = .ok (.if_icmp .ne 7, 3) := by decide +kernel
theorem dX2_weigh_185 : decode cX2_weigh 185 = .ok (.iconst 1, 1) := by decide +kernel
theorem dX2_weigh_186 : decode cX2_weigh 186 = .ok (.goto 4, 3) := by decide +kernel
theorem dX2_weigh_189 : decode cX2_weigh 189 = .ok (.iconst 0, 1) := by decide +kernel
theorem dX2_weigh_190 : decode cX2_weigh 190 = .ok (.ior, 1) := by decide +kernel
theorem dX2_weigh_191 : decode cX2_weigh 191 = .ok (.istore_n 3, 1) := by decide +kernel
theorem dX2_weigh_192 : decode cX2_weigh 192 = .ok (.iinc 4 1, 3) := by decide +kernel
theorem dX2_weigh_195 : decode cX2_weigh 195 = .ok (.goto (-188), 3) := by decide +kernel
theorem dX2_weigh_198 : decode cX2_weigh 198 = .ok (.iload_n 2, 1) := by decide +kernel
theorem dX2_weigh_199 : decode cX2_weigh 199 = .ok (.ireturn, 1) := by decide +kernel
theorem dX3_init_0 : decode cX3_init 0 = .ok (.aload_n 0, 1) := by decide +kernel
theorem dX3_init_1 : decode cX3_init 1 = .ok (.invokespecial 3, 3) := by decide +kernel
theorem dX3_init_4 : decode cX3_init 4 = .ok (.aload_n 0, 1) := by decide +kernel
theorem dX3_init_5 : decode cX3_init 5 = .ok (.bipush 40, 2) := by decide +kernel
theorem dX3_init_7 : decode cX3_init 7 = .ok (.newarray .int, 2) := by decide +kernel
theorem dX3_init_9 : decode cX3_init 9 = .ok (.putfield 9, 3) := by decide +kernel
theorem dX3_init_12 : decode cX3_init 12 = .ok (.aload_n 0, 1) := by decide +kernel
theorem dX3_init_13 : decode cX3_init 13 = .ok (.iload_n 1, 1) := by decide +kernel
theorem dX3_init_14 : decode cX3_init 14 = .ok (.bipush 10, 2) := by decide +kernel
theorem dX3_init_16 : decode cX3_init 16 = .ok (.invokestatic 15, 3) := by decide +kernel
theorem dX3_init_19 : decode cX3_init 19 = .ok (.putfield 21, 3) := by decide +kernel
theorem dX3_init_22 : decode cX3_init 22 = .ok (.return_, 1) := by decide +kernel
theorem dX3_add_0 : decode cX3_add 0 = .ok (.aload_n 0, 1) := by decide +kernel
theorem dX3_add_1 : decode cX3_add 1 = .ok (.getfield 25, 3) := by decide +kernel
theorem dX3_add_4 : decode cX3_add 4 = .ok (.aload_n 0, 1) := by decide +kernel
theorem dX3_add_5 : decode cX3_add 5 = .ok (.getfield 21, 3) := by decide +kernel
theorem dX3_add_8 : decode cX3_add 8 = .ok (.if_icmp .lt 6, 3) := by decide +kernel
theorem dX3_add_11 : decode cX3_add 11 = .ok (.bipush (-4), 2) := by decide +kernel
theorem dX3_add_13 : decode cX3_add 13 = .ok (.ireturn, 1) := by decide +kernel
theorem dX3_add_14 : decode cX3_add 14 = .ok (.aload_n 0, 1) := by decide +kernel
theorem dX3_add_15 : decode cX3_add 15 = .ok (.getfield 25, 3) := by decide +kernel
theorem dX3_add_18 : decode cX3_add 18 = .ok (.iconst 4, 1) := by decide +kernel
theorem dX3_add_19 : decode cX3_add 19 = .ok (.imul, 1) := by decide +kernel
theorem dX3_add_20 : decode cX3_add 20 = .ok (.istore 5, 2) := by decide +kernel
theorem dX3_add_22 : decode cX3_add 22 = .ok (.aload_n 0, 1) := by decide +kernel
theorem dX3_add_23 : decode cX3_add 23 = .ok (.getfield 9, 3) := by decide +kernel
theorem dX3_add_26 : decode cX3_add 26 = .ok (.iload 5, 2) := by decide +kernel
theorem dX3_add_28 : decode cX3_add 28 = .ok (.iload_n 1, 1) := by decide +kernel
theorem dX3_add_29 : decode cX3_add 29 = .ok (.iastore, 1) := by decide +kernel
theorem dX3_add_30 : decode cX3_add 30 = .ok (.aload_n 0, 1) := by decide +kernel
theorem dX3_add_31 : decode cX3_add 31 = .ok (.getfield 9, 3) := by decide +kernel
theorem dX3_add_34 : decode cX3_add 34 = .ok (.iload 5, 2) := by decide +kernel
theorem dX3_add_36 : decode cX3_add 36 = .ok (.iconst 1, 1) := by decide +kernel
theorem dX3_add_37 : decode cX3_add 37 = .ok (.iadd, 1) := by decide +kernel
theorem dX3_add_38 : decode cX3_add 38 = .ok (.iload_n 2, 1) := by decide +kernel
theorem dX3_add_39 : decode cX3_add 39 = .ok (.iastore, 1) := by decide +kernel
theorem dX3_add_40 : decode cX3_add 40 = .ok (.aload_n 0, 1) := by decide +kernel
theorem dX3_add_41 : decode cX3_add 41 = .ok (.getfield 9, 3) := by decide +kernel
theorem dX3_add_44 : decode cX3_add 44 = .ok (.iload 5, 2) := by decide +kernel
theorem dX3_add_46 : decode cX3_add 46 = .ok (.iconst 2, 1) := by decide +kernel
theorem dX3_add_47 : decode cX3_add 47 = .ok (.iadd, 1) := by decide +kernel
theorem dX3_add_48 : decode cX3_add 48 = .ok (.iload_n 3, 1) := by decide +kernel
theorem dX3_add_49 : decode cX3_add 49 = .ok (.iastore, 1) := by decide +kernel
theorem dX3_add_50 : decode cX3_add 50 = .ok (.aload_n 0, 1) := by decide +kernel
theorem dX3_add_51 : decode cX3_add 51 = .ok (.getfield 9, 3) := by decide +kernel
theorem dX3_add_54 : decode cX3_add 54 = .ok (.iload 5, 2) := by decide +kernel
theorem dX3_add_56 : decode cX3_add 56 = .ok (.iconst 3, 1) := by decide +kernel
theorem dX3_add_57 : decode cX3_add 57 = .ok (.iadd, 1) := by decide +kernel
theorem dX3_add_58 : decode cX3_add 58 = .ok (.iload 4, 2) := by decide +kernel
theorem dX3_add_60 : decode cX3_add 60 = .ok (.iastore, 1) := by decide +kernel
theorem dX3_add_61 : decode cX3_add 61 = .ok (.aload_n 0, 1) := by decide +kernel
theorem dX3_add_62 : decode cX3_add 62 = .ok (.dup, 1) := by decide +kernel
theorem dX3_add_63 : decode cX3_add 63 = .ok (.getfield 25, 3) := by decide +kernel
theorem dX3_add_66 : decode cX3_add 66 = .ok (.iconst 1, 1) := by decide +kernel
theorem dX3_add_67 : decode cX3_add 67 = .ok (.iadd, 1) := by decide +kernel
theorem dX3_add_68 : decode cX3_add 68 = .ok (.putfield 25, 3) := by decide +kernel
theorem dX3_add_71 : decode cX3_add 71 = .ok (.aload_n 0, 1) := by decide +kernel
theorem dX3_add_72 : decode cX3_add 72 = .ok (.getfield 25, 3) := by decide +kernel
theorem dX3_add_75 : decode cX3_add 75 = .ok (.ireturn, 1) := by decide +kernel
theorem dX3_clear_0 : decode cX3_clear 0 = .ok (.aload_n 0, 1) := by decide +kernel
theorem dX3_clear_1 : decode cX3_clear 1 = .ok (.iconst 0, 1) := by decide +kernel
theorem dX3_clear_2 : decode cX3_clear 2 = .ok (.putfield 25, 3) := by decide +kernel
theorem dX3_clear_5 : decode cX3_clear 5 = .ok (.iconst 0, 1) := by decide +kernel
theorem dX3_clear_6 : decode cX3_clear 6 = .ok (.ireturn, 1) := by decide +kernel
theorem dX3_cell_0 : decode cX3_cell 0 = .ok (.iload_n 1, 1) := by decide +kernel
theorem dX3_cell_1 : decode cX3_cell 1 = .ok (.ifCond .lt 20, 3) := by decide +kernel
theorem dX3_cell_4 : decode cX3_cell 4 = .ok (.iload_n 1, 1) := by decide +kernel
theorem dX3_cell_5 : decode cX3_cell 5 = .ok (.aload_n 0, 1) := by decide +kernel
theorem dX3_cell_6 : decode cX3_cell 6 = .ok (.getfield 25, 3) := by decide +kernel
theorem dX3_cell_9 : decode cX3_cell 9 = .ok (.if_icmp .ge 12, 3) := by decide +kernel
theorem dX3_cell_12 : decode cX3_cell 12 = .ok (.iload_n 2, 1) := by decide +kernel
theorem dX3_cell_13 : decode cX3_cell 13 = .ok (.ifCond .lt 8, 3) := by decide +kernel
theorem dX3_cell_16 : decode cX3_cell 16 = .ok (.iload_n 2, 1) := by decide +kernel
theorem dX3_cell_17 : decode cX3_cell 17 = .ok (.iconst 4, 1) := by decide +kernel
theorem dX3_cell_18 : decode cX3_cell 18 = .ok (.if_icmp .lt 5, 3) := by decide +kernel
theorem dX3_cell_21 : decode cX3_cell 21 = .ok (.iconst 0, 1) := by decide +kernel
theorem dX3_cell_22 : decode cX3_cell 22 = .ok (.ireturn, 1) := by decide +kernel
theorem dX3_cell_23 : decode cX3_cell 23 = .ok (.aload_n 0, 1) := by decide +kernel
theorem dX3_cell_24 : decode cX3_cell 24 = .ok (.getfield 9, 3) := by decide +kernel
theorem dX3_cell_27 : decode cX3_cell 27 = .ok (.iload_n 1, 1) := by decide +kernel
theorem dX3_cell_28 : decode cX3_cell 28 = .ok (.iconst 4, 1) := by decide +kernel
theorem dX3_cell_29 : decode cX3_cell 29 = .ok (.imul, 1) := by decide +kernel
theorem dX3_cell_30 : decode cX3_cell 30 = .ok (.iload_n 2, 1) := by decide +kernel
theorem dX3_cell_31 : decode cX3_cell 31 = .ok (.iadd, 1) := by decide +kernel
theorem dX3_cell_32 : decode cX3_cell 32 = .ok (.iaload, 1) := by decide +kernel
theorem dX3_cell_33 : decode cX3_cell 33 = .ok (.ireturn, 1) := by decide +kernel
theorem dX3_copyFrom_0 : decode cX3_copyFrom 0 = .ok (.aload_n 0, 1) := by decide +kernel
theorem dX3_copyFrom_1 : decode cX3_copyFrom 1 = .ok (.aload_n 1, 1) := by decide +kernel
theorem dX3_copyFrom_2 : decode cX3_copyFrom 2 = .ok (.getfield 25, 3) := by decide +kernel
theorem dX3_copyFrom_5 : decode cX3_copyFrom 5 = .ok (.putfield 25, 3) := by decide +kernel
theorem dX3_copyFrom_8 : decode cX3_copyFrom 8 = .ok (.aload_n 1, 1) := by decide +kernel
theorem dX3_copyFrom_9 : decode cX3_copyFrom 9 = .ok (.getfield 9, 3) := by decide +kernel
theorem dX3_copyFrom_12 : decode cX3_copyFrom 12 = .ok (.iconst 0, 1) := by decide +kernel
theorem dX3_copyFrom_13 : decode cX3_copyFrom 13 = .ok (.aload_n 0, 1) := by decide +kernel
theorem dX3_copyFrom_14 : decode cX3_copyFrom 14 = .ok (.getfield 9, 3) := by decide +kernel
theorem dX3_copyFrom_17 : decode cX3_copyFrom 17 = .ok (.iconst 0, 1) := by decide +kernel
theorem dX3_copyFrom_18 : decode cX3_copyFrom 18 = .ok (.bipush 40, 2) := by decide +kernel
theorem dX3_copyFrom_20 : decode cX3_copyFrom 20 = .ok (.invokestatic 28, 3) := by decide +kernel
theorem dX3_copyFrom_23 : decode cX3_copyFrom 23 = .ok (.return_, 1) := by decide +kernel
theorem dX4_init_0 : decode cX4_init 0 = .ok (.aload_n 0, 1) := by decide +kernel
theorem dX4_init_1 : decode cX4_init 1 = .ok (.invokespecial 3, 3) := by decide +kernel
theorem dX4_init_4 : decode cX4_init 4 = .ok (.aload_n 0, 1) := by decide +kernel
theorem dX4_init_5 : decode cX4_init 5 = .ok (.bipush 60, 2) := by decide +kernel
theorem dX4_init_7 : decode cX4_init 7 = .ok (.newarray .long, 2) := by decide +kernel
theorem dX4_init_9 : decode cX4_init 9 = .ok (.putfield 9, 3) := by decide +kernel
theorem dX4_init_12 : decode cX4_init 12 = .ok (.aload_n 0, 1) := by decide +kernel
theorem dX4_init_13 : decode cX4_init 13 = .ok (.iconst (-1), 1) := by decide +kernel
theorem dX4_init_14 : decode cX4_init 14 = .ok (.putfield 15, 3) := by decide +kernel
theorem dX4_init_17 : decode cX4_init 17 = .ok (.return_, 1) := by decide +kernel
theorem dX4_become_0 : decode cX4_become 0 = .ok (.aload_n 0, 1) := by decide +kernel
theorem dX4_become_1 : decode cX4_become 1 = .ok (.iload_n 1, 1) := by decide +kernel
theorem dX4_become_2 : decode cX4_become 2 = .ok (.putfield 15, 3) := by decide +kernel
theorem dX4_become_5 : decode cX4_become 5 = .ok (.aload_n 0, 1) := by decide +kernel
theorem dX4_become_6 : decode cX4_become 6 = .ok (.iconst 0, 1) := by decide +kernel
theorem dX4_become_7 : decode cX4_become 7 = .ok (.iload_n 2, 1) := by decide +kernel
theorem dX4_become_8 : decode cX4_become 8 = .ok (.bipush 60, 2) := by decide +kernel
theorem dX4_become_10 : decode cX4_become 10 = .ok (.invokestatic 19, 3) := by decide +kernel
theorem dX4_become_13 : decode cX4_become 13 = .ok (.invokestatic 25, 3) := by decide +kernel
theorem dX4_become_16 : decode cX4_become 16 = .ok (.putfield 28, 3) := by decide +kernel
theorem dX4_become_19 : decode cX4_become 19 = .ok (.iconst 0, 1) := by decide +kernel
theorem dX4_become_20 : decode cX4_become 20 = .ok (.istore_n 3, 1) := by decide +kernel
theorem dX4_become_21 : decode cX4_become 21 = .ok (.iload_n 3, 1) := by decide +kernel
theorem dX4_become_22 : decode cX4_become 22 = .ok (.bipush 60, 2) := by decide +kernel
theorem dX4_become_24 : decode cX4_become 24 = .ok (.if_icmp .ge 16, 3) := by decide +kernel
theorem dX4_become_27 : decode cX4_become 27 = .ok (.aload_n 0, 1) := by decide +kernel
theorem dX4_become_28 : decode cX4_become 28 = .ok (.getfield 9, 3) := by decide +kernel
theorem dX4_become_31 : decode cX4_become 31 = .ok (.iload_n 3, 1) := by decide +kernel
theorem dX4_become_32 : decode cX4_become 32 = .ok (.lconst 0, 1) := by decide +kernel
theorem dX4_become_33 : decode cX4_become 33 = .ok (.lastore, 1) := by decide +kernel
theorem dX4_become_34 : decode cX4_become 34 = .ok (.iinc 3 1, 3) := by decide +kernel
theorem dX4_become_37 : decode cX4_become 37 = .ok (.goto (-16), 3) := by decide +kernel
theorem dX4_become_40 : decode cX4_become 40 = .ok (.return_, 1) := by decide +kernel
theorem dX4_has_0 : decode cX4_has 0 = .ok (.iload_n 1, 1) := by decide +kernel
theorem dX4_has_1 : decode cX4_has 1 = .ok (.ifCond .lt 15, 3) := by decide +kernel
theorem dX4_has_4 : decode cX4_has 4 = .ok (.iload_n 1, 1) := by decide +kernel
theorem dX4_has_5 : decode cX4_has 5 = .ok (.aload_n 0, 1) := by decide +kernel
theorem dX4_has_6 : decode cX4_has 6 = .ok (.getfield 28, 3) := by decide +kernel
theorem dX4_has_9 : decode cX4_has 9 = .ok (.if_icmp .ge 7, 3) := by decide +kernel
theorem dX4_has_12 : decode cX4_has 12 = .ok (.iconst 1, 1) := by decide +kernel
theorem dX4_has_13 : decode cX4_has 13 = .ok (.goto 4, 3) := by decide +kernel
theorem dX4_has_16 : decode cX4_has 16 = .ok (.iconst 0, 1) := by decide +kernel
theorem dX4_has_17 : decode cX4_has 17 = .ok (.ireturn, 1) := by decide +kernel
theorem dX4_hasPart_0 : decode cX4_hasPart 0 = .ok (.iload_n 2, 1) := by decide +kernel
theorem dX4_hasPart_1 : decode cX4_hasPart 1 = .ok (.ifCond .lt 29, 3) := by decide +kernel
theorem dX4_hasPart_4 : decode cX4_hasPart 4 = .ok (.iload_n 2, 1) := by decide +kernel
theorem dX4_hasPart_5 : decode cX4_hasPart 5 = .ok (.aload_n 0, 1) := by decide +kernel
theorem dX4_hasPart_6 : decode cX4_hasPart 6 = .ok (.getfield 28, 3) := by decide +kernel
theorem dX4_hasPart_9 : decode cX4_hasPart 9 = .ok (.if_icmp .gt 21, 3) := by decide +kernel
theorem dX4_hasPart_12 : decode cX4_hasPart 12 = .ok (.iload_n 1, 1) := by decide +kernel
theorem dX4_hasPart_13 : decode cX4_hasPart 13 = .ok (.ifCond .lt 17, 3) := by decide +kernel
theorem dX4_hasPart_16 : decode cX4_hasPart 16 = .ok (.iload_n 1, 1) := by decide +kernel
theorem dX4_hasPart_17 : decode cX4_hasPart 17 = .ok (.aload_n 0, 1) := by decide +kernel
theorem dX4_hasPart_18 : decode cX4_hasPart 18 = .ok (.getfield 28, 3) := by decide +kernel
theorem dX4_hasPart_21 : decode cX4_hasPart 21 = .ok (.iload_n 2, 1) := by decide +kernel
theorem dX4_hasPart_22 : decode cX4_hasPart 22 = .ok (.isub, 1) := by decide +kernel
theorem dX4_hasPart_23 : decode cX4_hasPart 23 = .ok (.if_icmp .gt 7, 3) := by decide +kernel
theorem dX4_hasPart_26 : decode cX4_hasPart 26 = .ok (.iconst 1, 1) := by decide +kernel
theorem dX4_hasPart_27 : decode cX4_hasPart 27 = .ok (.goto 4, 3) := by decide +kernel
theorem dX4_hasPart_30 : decode cX4_hasPart 30 = .ok (.iconst 0, 1) := by decide +kernel
theorem dX4_hasPart_31 : decode cX4_hasPart 31 = .ok (.ireturn, 1) := by decide +kernel
theorem dX4_cut_0 : decode cX4_cut 0 = .ok (.aload_n 0, 1) := by decide +kernel
theorem dX4_cut_1 : decode cX4_cut 1 = .ok (.getfield 15, 3) := by decide +kernel
theorem dX4_cut_4 : decode cX4_cut 4 = .ok (.tableswitch 62 0 4 #[36, 41, 46, 62, 50], 36) := by decide +kernel
theorem dX4_cut_40 : decode cX4_cut 40 = .ok (.lload_n 1, 1) := by decide +kernel
theorem dX4_cut_41 : decode cX4_cut 41 = .ok (.l2i, 1) := by decide +kernel
theorem dX4_cut_42 : decode cX4_cut 42 = .ok (.i2b, 1) := by decide +kernel
theorem dX4_cut_43 : decode cX4_cut 43 = .ok (.i2l, 1) := by decide +kernel
theorem dX4_cut_44 : decode cX4_cut 44 = .ok (.lreturn, 1) := by decide +kernel
theorem dX4_cut_45 : decode cX4_cut 45 = .ok (.lload_n 1, 1) := by decide +kernel
theorem dX4_cut_46 : decode cX4_cut 46 = .ok (.l2i, 1) := by decide +kernel
theorem dX4_cut_47 : decode cX4_cut 47 = .ok (.i2s, 1) := by decide +kernel
theorem dX4_cut_48 : decode cX4_cut 48 = .ok (.i2l, 1) := by decide +kernel
theorem dX4_cut_49 : decode cX4_cut 49 = .ok (.lreturn, 1) := by decide +kernel
theorem dX4_cut_50 : decode cX4_cut 50 = .ok (.lload_n 1, 1) := by decide +kernel
theorem dX4_cut_51 : decode cX4_cut 51 = .ok (.l2i, 1) := by decide +kernel
theorem dX4_cut_52 : decode cX4_cut 52 = .ok (.i2l, 1) := by decide +kernel
theorem dX4_cut_53 : decode cX4_cut 53 = .ok (.lreturn, 1) := by decide +kernel
theorem dX4_cut_54 : decode cX4_cut 54 = .ok (.lload_n 1, 1) := by decide +kernel
theorem dX4_cut_55 : decode cX4_cut 55 = .ok (.lconst 0, 1) := by decide +kernel
theorem dX4_cut_56 : decode cX4_cut 56 = .ok (.lcmp, 1) := by decide +kernel
theorem dX4_cut_57 : decode cX4_cut 57 = .ok (.ifCond .eq 7, 3) := by decide +kernel
theorem dX4_cut_60 : decode cX4_cut 60 = .ok (.lconst 1, 1) := by decide +kernel
theorem dX4_cut_61 : decode cX4_cut 61 = .ok (.goto 4, 3) := by decide +kernel
theorem dX4_cut_64 : decode cX4_cut 64 = .ok (.lconst 0, 1) := by decide +kernel
theorem dX4_cut_65 : decode cX4_cut 65 = .ok (.lreturn, 1) := by decide +kernel
theorem dX4_cut_66 : decode cX4_cut 66 = .ok (.lload_n 1, 1) := by decide +kernel
theorem dX4_cut_67 : decode cX4_cut 67 = .ok (.lreturn, 1) := by decide +kernel
theorem dX5_init_0 : decode cX5_init 0 = .ok (.aload_n 0, 1) := by decide +kernel
theorem dX5_init_1 : decode cX5_init 1 = .ok (.invokespecial 3, 3) := by decide +kernel
theorem dX5_init_4 : decode cX5_init 4 = .ok (.aload_n 0, 1) := by decide +kernel
theorem dX5_init_5 : decode cX5_init 5 = .ok (.bipush 100, 2) := by decide +kernel
theorem dX5_init_7 : decode cX5_init 7 = .ok (.newarray .char, 2) := by decide +kernel
theorem dX5_init_9 : decode cX5_init 9 = .ok (.putfield 9, 3) := by decide +kernel
theorem dX5_init_12 : decode cX5_init 12 = .ok (.return_, 1) := by decide +kernel
theorem dX5_add_0 : decode cX5_add 0 = .ok (.aload_n 0, 1) := by decide +kernel
theorem dX5_add_1 : decode cX5_add 1 = .ok (.getfield 15, 3) := by decide +kernel
theorem dX5_add_4 : decode cX5_add 4 = .ok (.bipush 100, 2) := by decide +kernel
theorem dX5_add_6 : decode cX5_add 6 = .ok (.if_icmp .lt 5, 3) := by decide +kernel
theorem dX5_add_9 : decode cX5_add 9 = .ok (.iconst 0, 1) := by decide +kernel
theorem dX5_add_10 : decode cX5_add 10 = .ok (.ireturn, 1) := by decide +kernel
theorem dX5_add_11 : decode cX5_add 11 = .ok (.aload_n 0, 1) := by decide +kernel
theorem dX5_add_12 : decode cX5_add 12 = .ok (.getfield 9, 3) := by decide +kernel
theorem dX5_add_15 : decode cX5_add 15 = .ok (.aload_n 0, 1) := by decide +kernel
theorem dX5_add_16 : decode cX5_add 16 = .ok (.getfield 15, 3) := by decide +kernel
theorem dX5_add_19 : decode cX5_add 19 = .ok (.iload_n 1, 1) := by decide +kernel
theorem dX5_add_20 : decode cX5_add 20 = .ok (.castore, 1) := by decide +kernel
theorem dX5_add_21 : decode cX5_add 21 = .ok (.aload_n 0, 1) := by decide +kernel
theorem dX5_add_22 : decode cX5_add 22 = .ok (.dup, 1) := by decide +kernel
theorem dX5_add_23 : decode cX5_add 23 = .ok (.getfield 15, 3) := by decide +kernel
theorem dX5_add_26 : decode cX5_add 26 = .ok (.iconst 1, 1) := by decide +kernel
theorem dX5_add_27 : decode cX5_add 27 = .ok (.iadd, 1) := by decide +kernel
theorem dX5_add_28 : decode cX5_add 28 = .ok (.putfield 15, 3) := by decide +kernel
theorem dX5_add_31 : decode cX5_add 31 = .ok (.iconst 1, 1) := by decide +kernel
theorem dX5_add_32 : decode cX5_add 32 = .ok (.ireturn, 1) := by decide +kernel
theorem dX5_parse_0 : decode cX5_parse 0 = .ok (.aload_n 1, 1) := by decide +kernel
theorem dX5_parse_1 : decode cX5_parse 1 = .ok (.invokevirtual 19, 3) := by decide +kernel
theorem dX5_parse_4 : decode cX5_parse 4 = .ok (.aload_n 0, 1) := by decide +kernel
theorem dX5_parse_5 : decode cX5_parse 5 = .ok (.iconst 0, 1) := by decide +kernel
theorem dX5_parse_6 : decode cX5_parse 6 = .ok (.putfield 24, 3) := by decide +kernel
theorem dX5_parse_9 : decode cX5_parse 9 = .ok (.iconst 0, 1) := by decide +kernel
theorem dX5_parse_10 : decode cX5_parse 10 = .ok (.istore_n 2, 1) := by decide +kernel
theorem dX5_parse_11 : decode cX5_parse 11 = .ok (.iload_n 2, 1) := by decide +kernel
theorem dX5_parse_12 : decode cX5_parse 12 = .ok (.bipush 10, 2) := by decide +kernel
theorem dX5_parse_14 : decode cX5_parse 14 = .ok (.if_icmp .ge 45, 3) := by decide +kernel
theorem dX5_parse_17 : decode cX5_parse 17 = .ok (.iload_n 2, 1) := by decide +kernel
theorem dX5_parse_18 : decode cX5_parse 18 = .ok (.ifCond .le 12, 3) := by decide +kernel
theorem dX5_parse_21 : decode cX5_parse 21 = .ok (.aload_n 0, 1) := by decide +kernel
theorem dX5_parse_22 : decode cX5_parse 22 = .ok (.bipush 59, 2) := by decide +kernel
theorem dX5_parse_24 : decode cX5_parse 24 = .ok (.invokevirtual 27, 3) := by decide +kernel
theorem dX5_parse_27 : decode cX5_parse 27 = .ok (.ifCond .eq 11, 3) := by decide +kernel
theorem dX5_parse_30 : decode cX5_parse 30 = .ok (.aload_n 0, 1) := by decide +kernel
theorem dX5_parse_31 : decode cX5_parse 31 = .ok (.aload_n 1, 1) := by decide +kernel
theorem dX5_parse_32 : decode cX5_parse 32 = .ok (.invokevirtual 31, 3) := by decide +kernel
theorem dX5_parse_35 : decode cX5_parse 35 = .ok (.ifCond .ne 5, 3) := by decide +kernel
theorem dX5_parse_38 : decode cX5_parse 38 = .ok (.iconst 0, 1) := by decide +kernel
theorem dX5_parse_39 : decode cX5_parse 39 = .ok (.ireturn, 1) := by decide +kernel
theorem dX5_parse_40 : decode cX5_parse 40 = .ok (.aload_n 0, 1) := by decide +kernel
theorem dX5_parse_41 : decode cX5_parse 41 = .ok (.getfield 24, 3) := by decide +kernel
theorem dX5_parse_44 : decode cX5_parse 44 = .ok (.aload_n 0, 1) := by decide +kernel
theorem dX5_parse_45 : decode cX5_parse 45 = .ok (.getfield 15, 3) := by decide +kernel
theorem dX5_parse_48 : decode cX5_parse 48 = .ok (.if_icmp .ne 5, 3) := by decide +kernel
theorem dX5_parse_51 : decode cX5_parse 51 = .ok (.iconst 1, 1) := by decide +kernel
theorem dX5_parse_52 : decode cX5_parse 52 = .ok (.ireturn, 1) := by decide +kernel
theorem dX5_parse_53 : decode cX5_parse 53 = .ok (.iinc 2 1, 3) := by decide +kernel
theorem dX5_parse_56 : decode cX5_parse 56 = .ok (.goto (-45), 3) := by decide +kernel
theorem dX5_parse_59 : decode cX5_parse 59 = .ok (.iconst 0, 1) := by decide +kernel
theorem dX5_parse_60 : decode cX5_parse 60 = .ok (.ireturn, 1) := by decide +kernel
theorem dX5_next_0 : decode cX5_next 0 = .ok (.aload_n 0, 1) := by decide +kernel
theorem dX5_next_1 : decode cX5_next 1 = .ok (.getfield 24, 3) := by decide +kernel
theorem dX5_next_4 : decode cX5_next 4 = .ok (.ifCond .lt 35, 3) := by decide +kernel
theorem dX5_next_7 : decode cX5_next 7 = .ok (.aload_n 0, 1) := by decide +kernel
theorem dX5_next_8 : decode cX5_next 8 = .ok (.getfield 24, 3) := by decide +kernel
theorem dX5_next_11 : decode cX5_next 11 = .ok (.aload_n 0, 1) := by decide +kernel
theorem dX5_next_12 : decode cX5_next 12 = .ok (.getfield 15, 3) := by decide +kernel
theorem dX5_next_15 : decode cX5_next 15 = .ok (.if_icmp .ge 24, 3) := by decide +kernel
theorem dX5_next_18 : decode cX5_next 18 = .ok (.aload_n 0, 1) := by decide +kernel
theorem dX5_next_19 : decode cX5_next 19 = .ok (.getfield 24, 3) := by decide +kernel
theorem dX5_next_22 : decode cX5_next 22 = .ok (.bipush 100, 2) := by decide +kernel
theorem dX5_next_24 : decode cX5_next 24 = .ok (.if_icmp .ge 15, 3) := by decide +kernel
theorem dX5_next_27 : decode cX5_next 27 = .ok (.aload_n 0, 1) := by decide +kernel
theorem dX5_next_28 : decode cX5_next 28 = .ok (.getfield 9, 3) := by decide +kernel
theorem dX5_next_31 : decode cX5_next 31 = .ok (.aload_n 0, 1) := by decide +kernel
theorem dX5_next_32 : decode cX5_next 32 = .ok (.getfield 24, 3) := by decide +kernel
theorem dX5_next_35 : decode cX5_next 35 = .ok (.caload, 1) := by decide +kernel
theorem dX5_next_36 : decode cX5_next 36 = .ok (.goto 4, 3) := by decide +kernel
theorem dX5_next_39 : decode cX5_next 39 = .ok (.iconst 0, 1) := by decide +kernel
theorem dX5_next_40 : decode cX5_next 40 = .ok (.ireturn, 1) := by decide +kernel
theorem dX5_take_0 : decode cX5_take 0 = .ok (.aload_n 0, 1) := by decide +kernel
theorem dX5_take_1 : decode cX5_take 1 = .ok (.invokevirtual 35, 3) := by decide +kernel
theorem dX5_take_4 : decode cX5_take 4 = .ok (.iload_n 1, 1) := by decide +kernel
theorem dX5_take_5 : decode cX5_take 5 = .ok (.if_icmp .eq 5, 3) := by decide +kernel
theorem dX5_take_8 : decode cX5_take 8 = .ok (.iconst 0, 1) := by decide +kernel
theorem dX5_take_9 : decode cX5_take 9 = .ok (.ireturn, 1) := by decide +kernel
theorem dX5_take_10 : decode cX5_take 10 = .ok (.aload_n 0, 1) := by decide +kernel
theorem dX5_take_11 : decode cX5_take 11 = .ok (.dup, 1) := by decide +kernel
theorem dX5_take_12 : decode cX5_take 12 = .ok (.getfield 24, 3) := by decide +kernel
theorem dX5_take_15 : decode cX5_take 15 = .ok (.iconst 1, 1) := by decide +kernel
theorem dX5_take_16 : decode cX5_take 16 = .ok (.iadd, 1) := by decide +kernel
theorem dX5_take_17 : decode cX5_take 17 = .ok (.putfield 24, 3) := by decide +kernel
theorem dX5_take_20 : decode cX5_take 20 = .ok (.iconst 1, 1) := by decide +kernel
theorem dX5_take_21 : decode cX5_take 21 = .ok (.ireturn, 1) := by decide +kernel
theorem dX5_takeWord_0 : decode cX5_takeWord 0 = .ok (.iconst 0, 1) := by decide +kernel
theorem dX5_takeWord_1 : decode cX5_takeWord 1 = .ok (.istore_n 2, 1) := by decide +kernel
theorem dX5_takeWord_2 : decode cX5_takeWord 2 = .ok (.iload_n 2, 1) := by decide +kernel
theorem dX5_takeWord_3 : decode cX5_takeWord 3 = .ok (.aload_n 1, 1) := by decide +kernel
theorem dX5_takeWord_4 : decode cX5_takeWord 4 = .ok (.invokevirtual 39, 3) := by decide +kernel
theorem dX5_takeWord_7 : decode cX5_takeWord 7 = .ok (.if_icmp .ge 23, 3) := by decide +kernel
theorem dX5_takeWord_10 : decode cX5_takeWord 10 = .ok (.aload_n 0, 1) := by decide +kernel
theorem dX5_takeWord_11 : decode cX5_takeWord 11 = .ok (.aload_n 1, 1) := by decide +kernel
theorem dX5_takeWord_12 : decode cX5_takeWord 12 = .ok (.iload_n 2, 1) := by decide +kernel
theorem dX5_takeWord_13 : decode cX5_takeWord 13 = .ok (.invokevirtual 44, 3) := by decide +kernel
theorem dX5_takeWord_16 : decode cX5_takeWord 16 = .ok (.invokevirtual 27, 3) := by decide +kernel
theorem dX5_takeWord_19 : decode cX5_takeWord 19 = .ok (.ifCond .ne 5, 3) := by decide +kernel
theorem dX5_takeWord_22 : decode cX5_takeWord 22 = .ok (.iconst 0, 1) := by decide +kernel
theorem dX5_takeWord_23 : decode cX5_takeWord 23 = .ok (.ireturn, 1) := by decide +kernel
theorem dX5_takeWord_24 : decode cX5_takeWord 24 = .ok (.iinc 2 1, 3) := by decide +kernel
theorem dX5_takeWord_27 : decode cX5_takeWord 27 = .ok (.goto (-25), 3) := by decide +kernel
theorem dX5_takeWord_30 : decode cX5_takeWord 30 = .ok (.iconst 1, 1) := by decide +kernel
theorem dX5_takeWord_31 : decode cX5_takeWord 31 = .ok (.ireturn, 1) := by decide +kernel
theorem dX5_clause_0 : decode cX5_clause 0 = .ok (.aload_n 0, 1) := by decide +kernel
theorem dX5_clause_1 : decode cX5_clause 1 = .ok (.invokevirtual 35, 3) := by decide +kernel
theorem dX5_clause_4 : decode cX5_clause 4 = .ok (.istore_n 2, 1) := by decide +kernel
theorem dX5_clause_5 : decode cX5_clause 5 = .ok (.iload_n 2, 1) := by decide +kernel
theorem dX5_clause_6 : decode cX5_clause 6 = .ok (.bipush 115, 2) := by decide +kernel
theorem dX5_clause_8 : decode cX5_clause 8 = .ok (.if_icmp .ne 8, 3) := by decide +kernel
theorem dX5_clause_11 : decode cX5_clause 11 = .ok (.ldc 48, 2) := by decide +kernel
theorem dX5_clause_13 : decode cX5_clause 13 = .ok (.goto 16, 3) := by decide +kernel
theorem dX5_clause_16 : decode cX5_clause 16 = .ok (.iload_n 2, 1) := by decide +kernel
theorem dX5_clause_17 : decode cX5_clause 17 = .ok (.bipush 98, 2) := by decide +kernel
theorem dX5_clause_19 : decode cX5_clause 19 = .ok (.if_icmp .ne 8, 3) := by decide +kernel
theorem dX5_clause_22 : decode cX5_clause 22 = .ok (.ldc 50, 2) := by decide +kernel
theorem dX5_clause_24 : decode cX5_clause 24 = .ok (.goto 5, 3) := by decide +kernel
theorem dX5_clause_27 : decode cX5_clause 27 = .ok (.ldc 52, 2) := by decide +kernel
theorem dX5_clause_29 : decode cX5_clause 29 = .ok (.astore_n 3, 1) := by decide +kernel
theorem dX5_clause_30 : decode cX5_clause 30 = .ok (.aload_n 0, 1) := by decide +kernel
theorem dX5_clause_31 : decode cX5_clause 31 = .ok (.aload_n 3, 1) := by decide +kernel
theorem dX5_clause_32 : decode cX5_clause 32 = .ok (.invokevirtual 54, 3) := by decide +kernel
theorem dX5_clause_35 : decode cX5_clause 35 = .ok (.ifCond .eq 10, 3) := by decide +kernel
theorem dX5_clause_38 : decode cX5_clause 38 = .ok (.aload_n 0, 1) := by decide +kernel
theorem dX5_clause_39 : decode cX5_clause 39 = .ok (.invokevirtual 58, 3) := by decide +kernel
theorem dX5_clause_42 : decode cX5_clause 42 = .ok (.ifCond .ne 5, 3) := by decide +kernel
theorem dX5_clause_45 : decode cX5_clause 45 = .ok (.iconst 0, 1) := by decide +kernel
theorem dX5_clause_46 : decode cX5_clause 46 = .ok (.ireturn, 1) := by decide +kernel
theorem dX5_clause_47 : decode cX5_clause 47 = .ok (.aload_n 0, 1) := by decide +kernel
theorem dX5_clause_48 : decode cX5_clause 48 = .ok (.getfield 62, 3) := by decide +kernel
theorem dX5_clause_51 : decode cX5_clause 51 = .ok (.istore 4, 2) := by decide +kernel
theorem dX5_clause_53 : decode cX5_clause 53 = .ok (.iload_n 2, 1) := by decide +kernel
theorem dX5_clause_54 : decode cX5_clause 54 = .ok (.bipush 110, 2) := by decide +kernel
theorem dX5_clause_56 : decode cX5_clause 56 = .ok (.if_icmp .ne 11, 3) := by decide +kernel
theorem dX5_clause_59 : decode cX5_clause 59 = .ok (.aload_n 1, 1) := by decide +kernel
theorem dX5_clause_60 : decode cX5_clause 60 = .ok (.iload 4, 2) := by decide +kernel
theorem dX5_clause_62 : decode cX5_clause 62 = .ok (.putfield 65, 3) := by decide +kernel
theorem dX5_clause_65 : decode cX5_clause 65 = .ok (.iconst 1, 1) := by decide +kernel
theorem dX5_clause_66 : decode cX5_clause 66 = .ok (.ireturn, 1) := by decide +kernel
theorem dX5_clause_67 : decode cX5_clause 67 = .ok (.aload_n 0, 1) := by decide +kernel
theorem dX5_clause_68 : decode cX5_clause 68 = .ok (.bipush 32, 2) := by decide +kernel
theorem dX5_clause_70 : decode cX5_clause 70 = .ok (.invokevirtual 27, 3) := by decide +kernel
theorem dX5_clause_73 : decode cX5_clause 73 = .ok (.ifCond .eq 12, 3) := by decide +kernel
theorem dX5_clause_76 : decode cX5_clause 76 = .ok (.aload_n 0, 1) := by decide +kernel
theorem dX5_clause_77 : decode cX5_clause 77 = .ok (.aload_n 1, 1) := by decide +kernel
theorem dX5_clause_78 : decode cX5_clause 78 = .ok (.iconst 0, 1) := by decide +kernel
theorem dX5_clause_79 : decode cX5_clause 79 = .ok (.invokevirtual 68, 3) := by decide +kernel
theorem dX5_clause_82 : decode cX5_clause 82 = .ok (.ifCond .ne 5, 3) := by decide +kernel
theorem dX5_clause_85 : decode cX5_clause 85 = .ok (.iconst 0, 1) := by decide +kernel
theorem dX5_clause_86 : decode cX5_clause 86 = .ok (.ireturn, 1) := by decide +kernel
theorem dX5_clause_87 : decode cX5_clause 87 = .ok (.aload_n 1, 1) := by decide +kernel
theorem dX5_clause_88 : decode cX5_clause 88 = .ok (.bipush (-4), 2) := by decide +kernel
theorem dX5_clause_90 : decode cX5_clause 90 = .ok (.iload_n 2, 1) := by decide +kernel
theorem dX5_clause_91 : decode cX5_clause 91 = .ok (.bipush 115, 2) := by decide +kernel
theorem dX5_clause_93 : decode cX5_clause 93 = .ok (.if_icmp .ne 8, 3) := by decide +kernel
theorem dX5_clause_96 : decode cX5_clause 96 = .ok (.iload 4, 2) := by decide +kernel
theorem dX5_clause_98 : decode cX5_clause 98 = .ok (.goto 6, 3) := by decide +kernel
theorem dX5_clause_101 : decode cX5_clause 101 = .ok (.iload 4, 2) := by decide +kernel
theorem dX5_clause_103 : decode cX5_clause 103 = .ok (.ineg, 1) := by decide +kernel
theorem dX5_clause_104 : decode cX5_clause 104 = .ok (.invokevirtual 72, 3) := by decide +kernel
theorem dX5_clause_107 : decode cX5_clause 107 = .ok (.iconst 1, 1) := by decide +kernel
theorem dX5_clause_108 : decode cX5_clause 108 = .ok (.ireturn, 1) := by decide +kernel
theorem dX5_takeNumber_0 : decode cX5_takeNumber 0 = .ok (.aload_n 0, 1) := by decide +kernel
theorem dX5_takeNumber_1 : decode cX5_takeNumber 1 = .ok (.iconst 0, 1) := by decide +kernel
theorem dX5_takeNumber_2 : decode cX5_takeNumber 2 = .ok (.putfield 62, 3) := by decide +kernel
theorem dX5_takeNumber_5 : decode cX5_takeNumber 5 = .ok (.iconst 0, 1) := by decide +kernel
theorem dX5_takeNumber_6 : decode cX5_takeNumber 6 = .ok (.istore_n 1, 1) := by decide +kernel
theorem dX5_takeNumber_7 : decode cX5_takeNumber 7 = .ok (.iload_n 1, 1) := by decide +kernel
theorem dX5_takeNumber_8 : decode cX5_takeNumber 8 = .ok (.iconst 2, 1) := by decide +kernel
theorem dX5_takeNumber_9 : decode cX5_takeNumber 9 = .ok (.if_icmp .ge 56, 3) := by decide +kernel
theorem dX5_takeNumber_12 : decode cX5_takeNumber 12 = .ok (.aload_n 0, 1) := by decide +kernel
theorem dX5_takeNumber_13 : decode cX5_takeNumber 13 = .ok (.invokevirtual 35, 3) := by decide +kernel
theorem dX5_takeNumber_16 : decode cX5_takeNumber 16 = .ok (.bipush 48, 2) := by decide +kernel
theorem dX5_takeNumber_18 : decode cX5_takeNumber 18 = .ok (.if_icmp .lt 47, 3) := by decide +kernel
theorem dX5_takeNumber_21 : decode cX5_takeNumber 21 = .ok (.aload_n 0, 1) := by decide +kernel
theorem dX5_takeNumber_22 : decode cX5_takeNumber 22 = .ok (.invokevirtual 35, 3) := by decide +kernel
theorem dX5_takeNumber_25 : decode cX5_takeNumber 25 = .ok (.bipush 57, 2) := by decide +kernel
theorem dX5_takeNumber_27 : decode cX5_takeNumber 27 = .ok (.if_icmp .gt 38, 3) := by decide +kernel
theorem dX5_takeNumber_30 : decode cX5_takeNumber 30 = .ok (.aload_n 0, 1) := by decide +kernel
theorem dX5_takeNumber_31 : decode cX5_takeNumber 31 = .ok (.aload_n 0, 1) := by decide +kernel
theorem dX5_takeNumber_32 : decode cX5_takeNumber 32 = .ok (.getfield 62, 3) := by decide +kernel
theorem dX5_takeNumber_35 : decode cX5_takeNumber 35 = .ok (.bipush 10, 2) := by decide +kernel
theorem dX5_takeNumber_37 : decode cX5_takeNumber 37 = .ok (.imul, 1) := by decide +kernel
theorem dX5_takeNumber_38 : decode cX5_takeNumber 38 = .ok (.aload_n 0, 1) := by decide +kernel
theorem dX5_takeNumber_39 : decode cX5_takeNumber 39 = .ok (.invokevirtual 35, 3) := by decide +kernel
theorem dX5_takeNumber_42 : decode cX5_takeNumber 42 = .ok (.bipush 48, 2) := by decide +kernel
theorem dX5_takeNumber_44 : decode cX5_takeNumber 44 = .ok (.isub, 1) := by decide +kernel
theorem dX5_takeNumber_45 : decode cX5_takeNumber 45 = .ok (.iadd, 1) := by decide +kernel
theorem dX5_takeNumber_46 : decode cX5_takeNumber 46 = .ok (.putfield 62, 3) := by decide +kernel
theorem dX5_takeNumber_49 : decode cX5_takeNumber 49 = .ok (.aload_n 0, 1) := by decide +kernel
theorem dX5_takeNumber_50 : decode cX5_takeNumber 50 = .ok (.dup, 1) := by decide +kernel
theorem dX5_takeNumber_51 : decode cX5_takeNumber 51 = .ok (.getfield 24, 3) := by decide +kernel
theorem dX5_takeNumber_54 : decode cX5_takeNumber 54 = .ok (.iconst 1, 1) := by decide +kernel
theorem dX5_takeNumber_55 : decode cX5_takeNumber 55 = .ok (.iadd, 1) := by decide +kernel
theorem dX5_takeNumber_56 : decode cX5_takeNumber 56 = .ok (.putfield 24, 3) := by decide +kernel
theorem dX5_takeNumber_59 : decode cX5_takeNumber 59 = .ok (.iinc 1 1, 3) := by decide +kernel
theorem dX5_takeNumber_62 : decode cX5_takeNumber 62 = .ok (.goto (-55), 3) := by decide +kernel
theorem dX5_takeNumber_65 : decode cX5_takeNumber 65 = .ok (.iload_n 1, 1) := by decide +kernel
theorem dX5_takeNumber_66 : decode cX5_takeNumber 66 = .ok (.ifCond .le 7, 3) := by decide +kernel
theorem dX5_takeNumber_69 : decode cX5_takeNumber 69 = .ok (.iconst 1, 1) := by decide +kernel
theorem dX5_takeNumber_70 : decode cX5_takeNumber 70 = .ok (.goto 4, 3) := by decide +kernel
theorem dX5_takeNumber_73 : decode cX5_takeNumber 73 = .ok (.iconst 0, 1) := by decide +kernel
theorem dX5_takeNumber_74 : decode cX5_takeNumber 74 = .ok (.ireturn, 1) := by decide +kernel
theorem dX5_either_0 : decode cX5_either 0 = .ok (.aload_n 0, 1) := by decide +kernel
theorem dX5_either_1 : decode cX5_either 1 = .ok (.aload_n 1, 1) := by decide +kernel
theorem dX5_either_2 : decode cX5_either 2 = .ok (.iload_n 2, 1) := by decide +kernel
theorem dX5_either_3 : decode cX5_either 3 = .ok (.invokevirtual 76, 3) := by decide +kernel
theorem dX5_either_6 : decode cX5_either 6 = .ok (.istore_n 3, 1) := by decide +kernel
theorem dX5_either_7 : decode cX5_either 7 = .ok (.iconst 0, 1) := by decide +kernel
theorem dX5_either_8 : decode cX5_either 8 = .ok (.istore 4, 2) := by decide +kernel
theorem dX5_either_10 : decode cX5_either 10 = .ok (.iload 4, 2) := by decide +kernel
theorem dX5_either_12 : decode cX5_either 12 = .ok (.bipush 100, 2) := by decide +kernel
theorem dX5_either_14 : decode cX5_either 14 = .ok (.if_icmp .ge 36, 3) := by decide +kernel
theorem dX5_either_17 : decode cX5_either 17 = .ok (.iload_n 3, 1) := by decide +kernel
theorem dX5_either_18 : decode cX5_either 18 = .ok (.ifCond .eq 32, 3) := by decide +kernel
theorem dX5_either_21 : decode cX5_either 21 = .ok (.aload_n 0, 1) := by decide +kernel
theorem dX5_either_22 : decode cX5_either 22 = .ok (.bipush 124, 2) := by decide +kernel
theorem dX5_either_24 : decode cX5_either 24 = .ok (.invokevirtual 27, 3) := by decide +kernel
theorem dX5_either_27 : decode cX5_either 27 = .ok (.ifCond .eq 23, 3) := by decide +kernel
theorem dX5_either_30 : decode cX5_either 30 = .ok (.aload_n 0, 1) := by decide +kernel
theorem dX5_either_31 : decode cX5_either 31 = .ok (.aload_n 1, 1) := by decide +kernel
theorem dX5_either_32 : decode cX5_either 32 = .ok (.iload_n 2, 1) := by decide +kernel
theorem dX5_either_33 : decode cX5_either 33 = .ok (.invokevirtual 76, 3) := by decide +kernel
theorem dX5_either_36 : decode cX5_either 36 = .ok (.istore_n 3, 1) := by decide +kernel
theorem dX5_either_37 : decode cX5_either 37 = .ok (.aload_n 1, 1) := by decide +kernel
theorem dX5_either_38 : decode cX5_either 38 = .ok (.bipush (-3), 2) := by decide +kernel
theorem dX5_either_40 : decode cX5_either 40 = .ok (.iconst 0, 1) := by decide +kernel
theorem dX5_either_41 : decode cX5_either 41 = .ok (.invokevirtual 72, 3) := by decide +kernel
theorem dX5_either_44 : decode cX5_either 44 = .ok (.iinc 4 1, 3) := by decide +kernel
theorem dX5_either_47 : decode cX5_either 47 = .ok (.goto (-37), 3) := by decide +kernel
theorem dX5_either_50 : decode cX5_either 50 = .ok (.iload_n 3, 1) := by decide +kernel
theorem dX5_either_51 : decode cX5_either 51 = .ok (.ireturn, 1) := by decide +kernel
theorem dX5_both_0 : decode cX5_both 0 = .ok (.aload_n 0, 1) := by decide +kernel
theorem dX5_both_1 : decode cX5_both 1 = .ok (.aload_n 1, 1) := by decide +kernel
theorem dX5_both_2 : decode cX5_both 2 = .ok (.iload_n 2, 1) := by decide +kernel
theorem dX5_both_3 : decode cX5_both 3 = .ok (.invokevirtual 79, 3) := by decide +kernel
theorem dX5_both_6 : decode cX5_both 6 = .ok (.istore_n 3, 1) := by decide +kernel
theorem dX5_both_7 : decode cX5_both 7 = .ok (.iconst 0, 1) := by decide +kernel
theorem dX5_both_8 : decode cX5_both 8 = .ok (.istore 4, 2) := by decide +kernel
theorem dX5_both_10 : decode cX5_both 10 = .ok (.iload 4, 2) := by decide +kernel
theorem dX5_both_12 : decode cX5_both 12 = .ok (.bipush 100, 2) := by decide +kernel
theorem dX5_both_14 : decode cX5_both 14 = .ok (.if_icmp .ge 36, 3) := by decide +kernel
theorem dX5_both_17 : decode cX5_both 17 = .ok (.iload_n 3, 1) := by decide +kernel
theorem dX5_both_18 : decode cX5_both 18 = .ok (.ifCond .eq 32, 3) := by decide +kernel
theorem dX5_both_21 : decode cX5_both 21 = .ok (.aload_n 0, 1) := by decide +kernel
theorem dX5_both_22 : decode cX5_both 22 = .ok (.bipush 38, 2) := by decide +kernel
theorem dX5_both_24 : decode cX5_both 24 = .ok (.invokevirtual 27, 3) := by decide +kernel
theorem dX5_both_27 : decode cX5_both 27 = .ok (.ifCond .eq 23, 3) := by decide +kernel
theorem dX5_both_30 : decode cX5_both 30 = .ok (.aload_n 0, 1) := by decide +kernel
theorem dX5_both_31 : decode cX5_both 31 = .ok (.aload_n 1, 1) := by decide +kernel
theorem dX5_both_32 : decode cX5_both 32 = .ok (.iload_n 2, 1) := by decide +kernel
theorem dX5_both_33 : decode cX5_both 33 = .ok (.invokevirtual 79, 3) := by decide +kernel
theorem dX5_both_36 : decode cX5_both 36 = .ok (.istore_n 3, 1) := by decide +kernel
theorem dX5_both_37 : decode cX5_both 37 = .ok (.aload_n 1, 1) := by decide +kernel
theorem dX5_both_38 : decode cX5_both 38 = .ok (.bipush (-2), 2) := by decide +kernel
theorem dX5_both_40 : decode cX5_both 40 = .ok (.iconst 0, 1) := by decide +kernel
theorem dX5_both_41 : decode cX5_both 41 = .ok (.invokevirtual 72, 3) := by decide +kernel
theorem dX5_both_44 : decode cX5_both 44 = .ok (.iinc 4 1, 3) := by decide +kernel
theorem dX5_both_47 : decode cX5_both 47 = .ok (.goto (-37), 3) := by decide +kernel
theorem dX5_both_50 : decode cX5_both 50 = .ok (.iload_n 3, 1) := by decide +kernel
theorem dX5_both_51 : decode cX5_both 51 = .ok (.ireturn, 1) := by decide +kernel
theorem dX5_factor_0 : decode cX5_factor 0 = .ok (.aload_n 0, 1) := by decide +kernel
theorem dX5_factor_1 : decode cX5_factor 1 = .ok (.invokevirtual 35, 3) := by decide +kernel
theorem dX5_factor_4 : decode cX5_factor 4 = .ok (.bipush 33, 2) := by decide +kernel
theorem dX5_factor_6 : decode cX5_factor 6 = .ok (.if_icmp .ne 7, 3) := by decide +kernel
theorem dX5_factor_9 : decode cX5_factor 9 = .ok (.iconst 1, 1) := by decide +kernel
theorem dX5_factor_10 : decode cX5_factor 10 = .ok (.goto 4, 3) := by decide +kernel
theorem dX5_factor_13 : decode cX5_factor 13 = .ok (.iconst 0, 1) := by decide +kernel
theorem dX5_factor_14 : decode cX5_factor 14 = .ok (.istore_n 3, 1) := by decide +kernel
theorem dX5_factor_15 : decode cX5_factor 15 = .ok (.iload_n 3, 1) := by decide +kernel
theorem dX5_factor_16 : decode cX5_factor 16 = .ok (.ifCond .ne 18, 3) := by decide +kernel
theorem dX5_factor_19 : decode cX5_factor 19 = .ok (.aload_n 0, 1) := by decide +kernel
theorem dX5_factor_20 : decode cX5_factor 20 = .ok (.invokevirtual 35, 3) := by decide +kernel
theorem dX5_factor_23 : decode cX5_factor 23 = .ok (.bipush 40, 2) := by decide +kernel
theorem dX5_factor_25 : decode cX5_factor 25 = .ok (.if_icmp .eq 9, 3) := by decide +kernel
theorem dX5_factor_28 : decode cX5_factor 28 = .ok (.aload_n 0, 1) := by decide +kernel
theorem dX5_factor_29 : decode cX5_factor 29 = .ok (.aload_n 1, 1) := by decide +kernel
theorem dX5_factor_30 : decode cX5_factor 30 = .ok (.invokevirtual 82, 3) := by decide +kernel
theorem dX5_factor_33 : decode cX5_factor 33 = .ok (.ireturn, 1) := by decide +kernel
theorem dX5_factor_34 : decode cX5_factor 34 = .ok (.iload_n 2, 1) := by decide +kernel
theorem dX5_factor_35 : decode cX5_factor 35 = .ok (.iconst 4, 1) := by decide +kernel
theorem dX5_factor_36 : decode cX5_factor 36 = .ok (.if_icmp .lt 5, 3) := by decide +kernel
theorem dX5_factor_39 : decode cX5_factor 39 = .ok (.iconst 0, 1) := by decide +kernel
theorem dX5_factor_40 : decode cX5_factor 40 = .ok (.ireturn, 1) := by decide +kernel
theorem dX5_factor_41 : decode cX5_factor 41 = .ok (.aload_n 0, 1) := by decide +kernel
theorem dX5_factor_42 : decode cX5_factor 42 = .ok (.dup, 1) := by decide +kernel
theorem dX5_factor_43 : decode cX5_factor 43 = .ok (.getfield 24, 3) := by decide +kernel
theorem dX5_factor_46 : decode cX5_factor 46 = .ok (.iconst 1, 1) := by decide +kernel
theorem dX5_factor_47 : decode cX5_factor 47 = .ok (.iadd, 1) := by decide +kernel
theorem dX5_factor_48 : decode cX5_factor 48 = .ok (.putfield 24, 3) := by decide +kernel
theorem dX5_factor_51 : decode cX5_factor 51 = .ok (.iload_n 3, 1) := by decide +kernel
theorem dX5_factor_52 : decode cX5_factor 52 = .ok (.ifCond .ne 29, 3) := by decide +kernel
theorem dX5_factor_55 : decode cX5_factor 55 = .ok (.aload_n 0, 1) := by decide +kernel
theorem dX5_factor_56 : decode cX5_factor 56 = .ok (.aload_n 1, 1) := by decide +kernel
theorem dX5_factor_57 : decode cX5_factor 57 = .ok (.iload_n 2, 1) := by decide +kernel
theorem dX5_factor_58 : decode cX5_factor 58 = .ok (.iconst 1, 1) := by decide +kernel
theorem dX5_factor_59 : decode cX5_factor 59 = .ok (.iadd, 1) := by decide +kernel
theorem dX5_factor_60 : decode cX5_factor 60 = .ok (.invokevirtual 68, 3) := by decide +kernel
theorem dX5_factor_63 : decode cX5_factor 63 = .ok (.ifCond .eq 16, 3) := by decide +kernel
theorem dX5_factor_66 : decode cX5_factor 66 = .ok (.aload_n 0, 1) := by decide +kernel
theorem dX5_factor_67 : decode cX5_factor 67 = .ok (.bipush 41, 2) := by decide +kernel
theorem dX5_factor_69 : decode cX5_factor 69 = .ok (.invokevirtual 27, 3) := by decide +kernel
theorem dX5_factor_72 : decode cX5_factor 72 = .ok (.ifCond .eq 7, 3) := by decide +kernel
theorem dX5_factor_75 : decode cX5_factor 75 = .ok (.iconst 1, 1) := by decide +kernel
theorem dX5_factor_76 : decode cX5_factor 76 = .ok (.goto 4, 3) := by decide +kernel
theorem dX5_factor_79 : decode cX5_factor 79 = .ok (.iconst 0, 1) := by decide +kernel
theorem dX5_factor_80 : decode cX5_factor 80 = .ok (.ireturn, 1) := by decide +kernel
theorem dX5_factor_81 : decode cX5_factor 81 = .ok (.aload_n 0, 1) := by decide +kernel
theorem dX5_factor_82 : decode cX5_factor 82 = .ok (.aload_n 1, 1) := by decide +kernel
theorem dX5_factor_83 : decode cX5_factor 83 = .ok (.iload_n 2, 1) := by decide +kernel
theorem dX5_factor_84 : decode cX5_factor 84 = .ok (.iconst 1, 1) := by decide +kernel
theorem dX5_factor_85 : decode cX5_factor 85 = .ok (.iadd, 1) := by decide +kernel
theorem dX5_factor_86 : decode cX5_factor 86 = .ok (.invokevirtual 79, 3) := by decide +kernel
theorem dX5_factor_89 : decode cX5_factor 89 = .ok (.istore 4, 2) := by decide +kernel
theorem dX5_factor_91 : decode cX5_factor 91 = .ok (.aload_n 1, 1) := by decide +kernel
theorem dX5_factor_92 : decode cX5_factor 92 = .ok (.iconst (-1), 1) := by decide +kernel
theorem dX5_factor_93 : decode cX5_factor 93 = .ok (.iconst 0, 1) := by decide +kernel
theorem dX5_factor_94 : decode cX5_factor 94 = .ok (.invokevirtual 72, 3) := by decide +kernel
theorem dX5_factor_97 : decode cX5_factor 97 = .ok (.iload 4, 2) := by decide +kernel
theorem dX5_factor_99 : decode cX5_factor 99 = .ok (.ireturn, 1) := by decide +kernel
theorem dX5_test_0 : decode cX5_test 0 = .ok (.ldc 85, 2) := by decide +kernel
theorem dX5_test_2 : decode cX5_test 2 = .ok (.aload_n 0, 1) := by decide +kernel
theorem dX5_test_3 : decode cX5_test 3 = .ok (.invokevirtual 35, 3) := by decide +kernel
theorem dX5_test_6 : decode cX5_test 6 = .ok (.invokevirtual 87, 3) := by decide +kernel
theorem dX5_test_9 : decode cX5_test 9 = .ok (.istore_n 2, 1) := by decide +kernel
theorem dX5_test_10 : decode cX5_test 10 = .ok (.iload_n 2, 1) := by decide +kernel
theorem dX5_test_11 : decode cX5_test 11 = .ok (.ifCond .ge 5, 3) := by decide +kernel
theorem dX5_test_14 : decode cX5_test 14 = .ok (.iconst 0, 1) := by decide +kernel
theorem dX5_test_15 : decode cX5_test 15 = .ok (.ireturn, 1) := by decide +kernel
theorem dX5_test_16 : decode cX5_test 16 = .ok (.aload_n 0, 1) := by decide +kernel
theorem dX5_test_17 : decode cX5_test 17 = .ok (.dup, 1) := by decide +kernel
theorem dX5_test_18 : decode cX5_test 18 = .ok (.getfield 24, 3) := by decide +kernel
theorem dX5_test_21 : decode cX5_test 21 = .ok (.iconst 1, 1) := by decide +kernel
theorem dX5_test_22 : decode cX5_test 22 = .ok (.iadd, 1) := by decide +kernel
theorem dX5_test_23 : decode cX5_test 23 = .ok (.putfield 24, 3) := by decide +kernel
theorem dX5_test_26 : decode cX5_test 26 = .ok (.ldc 91, 2) := by decide +kernel
theorem dX5_test_28 : decode cX5_test 28 = .ok (.aload_n 0, 1) := by decide +kernel
theorem dX5_test_29 : decode cX5_test 29 = .ok (.invokevirtual 35, 3) := by decide +kernel
theorem dX5_test_32 : decode cX5_test 32 = .ok (.invokevirtual 87, 3) := by decide +kernel
theorem dX5_test_35 : decode cX5_test 35 = .ok (.istore_n 3, 1) := by decide +kernel
theorem dX5_test_36 : decode cX5_test 36 = .ok (.iload_n 3, 1) := by decide +kernel
theorem dX5_test_37 : decode cX5_test 37 = .ok (.ifCond .ge 5, 3) := by decide +kernel
theorem dX5_test_40 : decode cX5_test 40 = .ok (.iconst 0, 1) := by decide +kernel
theorem dX5_test_41 : decode cX5_test 41 = .ok (.ireturn, 1) := by decide +kernel
theorem dX5_test_42 : decode cX5_test 42 = .ok (.aload_n 0, 1) := by decide +kernel
theorem dX5_test_43 : decode cX5_test 43 = .ok (.dup, 1) := by decide +kernel
theorem dX5_test_44 : decode cX5_test 44 = .ok (.getfield 24, 3) := by decide +kernel
theorem dX5_test_47 : decode cX5_test 47 = .ok (.iconst 1, 1) := by decide +kernel
theorem dX5_test_48 : decode cX5_test 48 = .ok (.iadd, 1) := by decide +kernel
theorem dX5_test_49 : decode cX5_test 49 = .ok (.putfield 24, 3) := by decide +kernel
theorem dX5_test_52 : decode cX5_test 52 = .ok (.aload_n 0, 1) := by decide +kernel
theorem dX5_test_53 : decode cX5_test 53 = .ok (.invokevirtual 58, 3) := by decide +kernel
theorem dX5_test_56 : decode cX5_test 56 = .ok (.ifCond .ne 5, 3) := by decide +kernel
theorem dX5_test_59 : decode cX5_test 59 = .ok (.iconst 0, 1) := by decide +kernel
theorem dX5_test_60 : decode cX5_test 60 = .ok (.ireturn, 1) := by decide +kernel
theorem dX5_test_61 : decode cX5_test 61 = .ok (.aload_n 1, 1) := by decide +kernel
theorem dX5_test_62 : decode cX5_test 62 = .ok (.iload_n 2, 1) := by decide +kernel
theorem dX5_test_63 : decode cX5_test 63 = .ok (.iconst 3, 1) := by decide +kernel
theorem dX5_test_64 : decode cX5_test 64 = .ok (.imul, 1) := by decide +kernel
theorem dX5_test_65 : decode cX5_test 65 = .ok (.iload_n 3, 1) := by decide +kernel
theorem dX5_test_66 : decode cX5_test 66 = .ok (.iadd, 1) := by decide +kernel
theorem dX5_test_67 : decode cX5_test 67 = .ok (.aload_n 0, 1) := by decide +kernel
theorem dX5_test_68 : decode cX5_test 68 = .ok (.getfield 62, 3) := by decide +kernel
theorem dX5_test_71 : decode cX5_test 71 = .ok (.invokevirtual 72, 3) := by decide +kernel
theorem dX5_test_74 : decode cX5_test 74 = .ok (.iconst 1, 1) := by decide +kernel
theorem dX5_test_75 : decode cX5_test 75 = .ok (.ireturn, 1) := by decide +kernel
theorem dX6_init_0 : decode cX6_init 0 = .ok (.aload_n 0, 1) := by decide +kernel
theorem dX6_init_1 : decode cX6_init 1 = .ok (.invokespecial 3, 3) := by decide +kernel
theorem dX6_init_4 : decode cX6_init 4 = .ok (.aload_n 0, 1) := by decide +kernel
theorem dX6_init_5 : decode cX6_init 5 = .ok (.new 9, 3) := by decide +kernel
theorem dX6_init_8 : decode cX6_init 8 = .ok (.dup, 1) := by decide +kernel
theorem dX6_init_9 : decode cX6_init 9 = .ok (.invokespecial 11, 3) := by decide +kernel
theorem dX6_init_12 : decode cX6_init 12 = .ok (.putfield 12, 3) := by decide +kernel
theorem dX6_init_15 : decode cX6_init 15 = .ok (.aload_n 0, 1) := by decide +kernel
theorem dX6_init_16 : decode cX6_init 16 = .ok (.bipush 6, 2) := by decide +kernel
theorem dX6_init_18 : decode cX6_init 18 = .ok (.newarray .int, 2) := by decide +kernel
theorem dX6_init_20 : decode cX6_init 20 = .ok (.putfield 18, 3) := by decide +kernel
theorem dX6_init_23 : decode cX6_init 23 = .ok (.aload_n 0, 1) := by decide +kernel
theorem dX6_init_24 : decode cX6_init 24 = .ok (.bipush 6, 2) := by decide +kernel
theorem dX6_init_26 : decode cX6_init 26 = .ok (.newarray .int, 2) := by decide +kernel
theorem dX6_init_28 : decode cX6_init 28 = .ok (.putfield 22, 3) := by decide +kernel
theorem dX6_init_31 : decode cX6_init 31 = .ok (.aload_n 0, 1) := by decide +kernel
theorem dX6_init_32 : decode cX6_init 32 = .ok (.bipush 6, 2) := by decide +kernel
theorem dX6_init_34 : decode cX6_init 34 = .ok (.newarray .int, 2) := by decide +kernel
theorem dX6_init_36 : decode cX6_init 36 = .ok (.putfield 25, 3) := by decide +kernel
theorem dX6_init_39 : decode cX6_init 39 = .ok (.aload_n 0, 1) := by decide +kernel
theorem dX6_init_40 : decode cX6_init 40 = .ok (.bipush 36, 2) := by decide +kernel
theorem dX6_init_42 : decode cX6_init 42 = .ok (.newarray .int, 2) := by decide +kernel
theorem dX6_init_44 : decode cX6_init 44 = .ok (.putfield 28, 3) := by decide +kernel
theorem dX6_init_47 : decode cX6_init 47 = .ok (.aload_n 0, 1) := by decide +kernel
theorem dX6_init_48 : decode cX6_init 48 = .ok (.bipush 24, 2) := by decide +kernel
theorem dX6_init_50 : decode cX6_init 50 = .ok (.newarray .int, 2) := by decide +kernel
theorem dX6_init_52 : decode cX6_init 52 = .ok (.putfield 31, 3) := by decide +kernel
theorem dX6_init_55 : decode cX6_init 55 = .ok (.aload_n 0, 1) := by decide +kernel
theorem dX6_init_56 : decode cX6_init 56 = .ok (.new 34, 3) := by decide +kernel
theorem dX6_init_59 : decode cX6_init 59 = .ok (.dup, 1) := by decide +kernel
theorem dX6_init_60 : decode cX6_init 60 = .ok (.iconst 5, 1) := by decide +kernel
theorem dX6_init_61 : decode cX6_init 61 = .ok (.invokespecial 36, 3) := by decide +kernel
theorem dX6_init_64 : decode cX6_init 64 = .ok (.putfield 39, 3) := by decide +kernel
theorem dX6_init_67 : decode cX6_init 67 = .ok (.aload_n 0, 1) := by decide +kernel
theorem dX6_init_68 : decode cX6_init 68 = .ok (.new 34, 3) := by decide +kernel
theorem dX6_init_71 : decode cX6_init 71 = .ok (.dup, 1) := by decide +kernel
theorem dX6_init_72 : decode cX6_init 72 = .ok (.bipush 10, 2) := by decide +kernel
theorem dX6_init_74 : decode cX6_init 74 = .ok (.invokespecial 36, 3) := by decide +kernel
theorem dX6_init_77 : decode cX6_init 77 = .ok (.putfield 43, 3) := by decide +kernel
theorem dX6_init_80 : decode cX6_init 80 = .ok (.aload_n 0, 1) := by decide +kernel
theorem dX6_init_81 : decode cX6_init 81 = .ok (.new 34, 3) := by decide +kernel
theorem dX6_init_84 : decode cX6_init 84 = .ok (.dup, 1) := by decide +kernel
theorem dX6_init_85 : decode cX6_init 85 = .ok (.bipush 8, 2) := by decide +kernel
theorem dX6_init_87 : decode cX6_init 87 = .ok (.invokespecial 36, 3) := by decide +kernel
theorem dX6_init_90 : decode cX6_init 90 = .ok (.putfield 46, 3) := by decide +kernel
theorem dX6_init_93 : decode cX6_init 93 = .ok (.aload_n 0, 1) := by decide +kernel
theorem dX6_init_94 : decode cX6_init 94 = .ok (.bipush 6, 2) := by decide +kernel
theorem dX6_init_96 : decode cX6_init 96 = .ok (.newarray .int, 2) := by decide +kernel
theorem dX6_init_98 : decode cX6_init 98 = .ok (.putfield 49, 3) := by decide +kernel
theorem dX6_init_101 : decode cX6_init 101 = .ok (.return_, 1) := by decide +kernel
theorem dX6_has_0 : decode cX6_has 0 = .ok (.iload_n 1, 1) := by decide +kernel
theorem dX6_has_1 : decode cX6_has 1 = .ok (.ifCond .lt 15, 3) := by decide +kernel
theorem dX6_has_4 : decode cX6_has 4 = .ok (.iload_n 1, 1) := by decide +kernel
theorem dX6_has_5 : decode cX6_has 5 = .ok (.aload_n 0, 1) := by decide +kernel
theorem dX6_has_6 : decode cX6_has 6 = .ok (.getfield 52, 3) := by decide +kernel
theorem dX6_has_9 : decode cX6_has 9 = .ok (.if_icmp .ge 7, 3) := by decide +kernel
theorem dX6_has_12 : decode cX6_has 12 = .ok (.iconst 1, 1) := by decide +kernel
theorem dX6_has_13 : decode cX6_has 13 = .ok (.goto 4, 3) := by decide +kernel
theorem dX6_has_16 : decode cX6_has 16 = .ok (.iconst 0, 1) := by decide +kernel
theorem dX6_has_17 : decode cX6_has 17 = .ok (.ireturn, 1) := by decide +kernel
theorem dX6_come_0 : decode cX6_come 0 = .ok (.aload_n 0, 1) := by decide +kernel
theorem dX6_come_1 : decode cX6_come 1 = .ok (.getfield 52, 3) := by decide +kernel
theorem dX6_come_4 : decode cX6_come 4 = .ok (.bipush 6, 2) := by decide +kernel
theorem dX6_come_6 : decode cX6_come 6 = .ok (.if_icmp .lt 6, 3) := by decide +kernel
theorem dX6_come_9 : decode cX6_come 9 = .ok (.bipush (-4), 2) := by decide +kernel
theorem dX6_come_11 : decode cX6_come 11 = .ok (.ireturn, 1) := by decide +kernel
theorem dX6_come_12 : decode cX6_come 12 = .ok (.aload_n 0, 1) := by decide +kernel
theorem dX6_come_13 : decode cX6_come 13 = .ok (.getfield 18, 3) := by decide +kernel
theorem dX6_come_16 : decode cX6_come 16 = .ok (.aload_n 0, 1) := by decide +kernel
theorem dX6_come_17 : decode cX6_come 17 = .ok (.getfield 52, 3) := by decide +kernel
theorem dX6_come_20 : decode cX6_come 20 = .ok (.iload_n 1, 1) := by decide +kernel
theorem dX6_come_21 : decode cX6_come 21 = .ok (.iastore, 1) := by decide +kernel
theorem dX6_come_22 : decode cX6_come 22 = .ok (.aload_n 0, 1) := by decide +kernel
theorem dX6_come_23 : decode cX6_come 23 = .ok (.getfield 22, 3) := by decide +kernel
theorem dX6_come_26 : decode cX6_come 26 = .ok (.aload_n 0, 1) := by decide +kernel
theorem dX6_come_27 : decode cX6_come 27 = .ok (.getfield 52, 3) := by decide +kernel
theorem dX6_come_30 : decode cX6_come 30 = .ok (.iload_n 2, 1) := by decide +kernel
theorem dX6_come_31 : decode cX6_come 31 = .ok (.iastore, 1) := by decide +kernel
theorem dX6_come_32 : decode cX6_come 32 = .ok (.aload_n 0, 1) := by decide +kernel
theorem dX6_come_33 : decode cX6_come 33 = .ok (.dup, 1) := by decide +kernel
theorem dX6_come_34 : decode cX6_come 34 = .ok (.getfield 52, 3) := by decide +kernel
theorem dX6_come_37 : decode cX6_come 37 = .ok (.iconst 1, 1) := by decide +kernel
theorem dX6_come_38 : decode cX6_come 38 = .ok (.iadd, 1) := by decide +kernel
theorem dX6_come_39 : decode cX6_come 39 = .ok (.putfield 52, 3) := by decide +kernel
theorem dX6_come_42 : decode cX6_come 42 = .ok (.aload_n 0, 1) := by decide +kernel
theorem dX6_come_43 : decode cX6_come 43 = .ok (.getfield 52, 3) := by decide +kernel
theorem dX6_come_46 : decode cX6_come 46 = .ok (.iconst 1, 1) := by decide +kernel
theorem dX6_come_47 : decode cX6_come 47 = .ok (.isub, 1) := by decide +kernel
theorem dX6_come_48 : decode cX6_come 48 = .ok (.ireturn, 1) := by decide +kernel
theorem dX6_hateOf_0 : decode cX6_hateOf 0 = .ok (.aload_n 0, 1) := by decide +kernel
theorem dX6_hateOf_1 : decode cX6_hateOf 1 = .ok (.iload_n 1, 1) := by decide +kernel
theorem dX6_hateOf_2 : decode cX6_hateOf 2 = .ok (.invokevirtual 56, 3) := by decide +kernel
theorem dX6_hateOf_5 : decode cX6_hateOf 5 = .ok (.ifCond .eq 25, 3) := by decide +kernel
theorem dX6_hateOf_8 : decode cX6_hateOf 8 = .ok (.aload_n 0, 1) := by decide +kernel
theorem dX6_hateOf_9 : decode cX6_hateOf 9 = .ok (.iload_n 2, 1) := by decide +kernel
theorem dX6_hateOf_10 : decode cX6_hateOf 10 = .ok (.invokevirtual 56, 3) := by decide +kernel
theorem dX6_hateOf_13 : decode cX6_hateOf 13 = .ok (.ifCond .eq 17, 3) := by decide +kernel
theorem dX6_hateOf_16 : decode cX6_hateOf 16 = .ok (.aload_n 0, 1) := by decide +kernel
theorem dX6_hateOf_17 : decode cX6_hateOf 17 = .ok (.getfield 28, 3) := by decide +kernel
theorem dX6_hateOf_20 : decode cX6_hateOf 20 = .ok (.iload_n 1, 1) := by decide +kernel
theorem dX6_hateOf_21 : decode cX6_hateOf 21 = .ok (.bipush 6, 2) := by decide +kernel
theorem dX6_hateOf_23 : decode cX6_hateOf 23 = .ok (.imul, 1) := by decide +kernel
theorem dX6_hateOf_24 : decode cX6_hateOf 24 = .ok (.iload_n 2, 1) := by decide +kernel
theorem dX6_hateOf_25 : decode cX6_hateOf 25 = .ok (.iadd, 1) := by decide +kernel
theorem dX6_hateOf_26 : decode cX6_hateOf 26 = .ok (.iaload, 1) := by decide +kernel
theorem dX6_hateOf_27 : decode cX6_hateOf 27 = .ok (.goto 4, 3) := by decide +kernel
theorem dX6_hateOf_30 : decode cX6_hateOf 30 = .ok (.iconst 0, 1) := by decide +kernel
theorem dX6_hateOf_31 : decode cX6_hateOf 31 = .ok (.ireturn, 1) := by decide +kernel
theorem dX6_setHate_0 : decode cX6_setHate 0 = .ok (.aload_n 0, 1) := by decide +kernel
theorem dX6_setHate_1 : decode cX6_setHate 1 = .ok (.iload_n 1, 1) := by decide +kernel
theorem dX6_setHate_2 : decode cX6_setHate 2 = .ok (.invokevirtual 56, 3) := by decide +kernel
theorem dX6_setHate_5 : decode cX6_setHate 5 = .ok (.ifCond .eq 23, 3) := by decide +kernel
theorem dX6_setHate_8 : decode cX6_setHate 8 = .ok (.aload_n 0, 1) := by decide +kernel
theorem dX6_setHate_9 : decode cX6_setHate 9 = .ok (.iload_n 2, 1) := by decide +kernel
theorem dX6_setHate_10 : decode cX6_setHate 10 = .ok (.invokevirtual 56, 3) := by decide +kernel
theorem dX6_setHate_13 : decode cX6_setHate 13 = .ok (.ifCond .eq 15, 3) := by decide +kernel
theorem dX6_setHate_16 : decode cX6_setHate 16 = .ok (.aload_n 0, 1) := by decide +kernel
theorem dX6_setHate_17 : decode cX6_setHate 17 = .ok (.getfield 28, 3) := by decide +kernel
theorem dX6_setHate_20 : decode cX6_setHate 20 = .ok (.iload_n 1, 1) := by decide +kernel
theorem dX6_setHate_21 : decode cX6_setHate 21 = .ok (.bipush 6, 2) := by decide +kernel
theorem dX6_setHate_23 : decode cX6_setHate 23 = .ok (.imul, 1) := by decide +kernel
theorem dX6_setHate_24 : decode cX6_setHate 24 = .ok (.iload_n 2, 1) := by decide +kernel
theorem dX6_setHate_25 : decode cX6_setHate 25 = .ok (.iadd, 1) := by decide +kernel
theorem dX6_setHate_26 : decode cX6_setHate 26 = .ok (.iload_n 3, 1) := by decide +kernel
theorem dX6_setHate_27 : decode cX6_setHate 27 = .ok (.iastore, 1) := by decide +kernel
theorem dX6_setHate_28 : decode cX6_setHate 28 = .ok (.return_, 1) := by decide +kernel
theorem dX6_allHate_0 : decode cX6_allHate 0 = .ok (.iconst 0, 1) := by decide +kernel
theorem dX6_allHate_1 : decode cX6_allHate 1 = .ok (.istore_n 1, 1) := by decide +kernel
theorem dX6_allHate_2 : decode cX6_allHate 2 = .ok (.iconst 0, 1) := by decide +kernel
theorem dX6_allHate_3 : decode cX6_allHate 3 = .ok (.istore_n 2, 1) := by decide +kernel
theorem dX6_allHate_4 : decode cX6_allHate 4 = .ok (.iload_n 2, 1) := by decide +kernel
theorem dX6_allHate_5 : decode cX6_allHate 5 = .ok (.bipush 36, 2) := by decide +kernel
theorem dX6_allHate_7 : decode cX6_allHate 7 = .ok (.if_icmp .ge 18, 3) := by decide +kernel
theorem dX6_allHate_10 : decode cX6_allHate 10 = .ok (.iload_n 1, 1) := by decide +kernel
theorem dX6_allHate_11 : decode cX6_allHate 11 = .ok (.aload_n 0, 1) := by decide +kernel
theorem dX6_allHate_12 : decode cX6_allHate 12 = .ok (.getfield 28, 3) := by decide +kernel
theorem dX6_allHate_15 : decode cX6_allHate 15 = .ok (.iload_n 2, 1) := by decide +kernel
theorem dX6_allHate_16 : decode cX6_allHate 16 = .ok (.iaload, 1) := by decide +kernel
theorem dX6_allHate_17 : decode cX6_allHate 17 = .ok (.iadd, 1) := by decide +kernel
theorem dX6_allHate_18 : decode cX6_allHate 18 = .ok (.istore_n 1, 1) := by decide +kernel
theorem dX6_allHate_19 : decode cX6_allHate 19 = .ok (.iinc 2 1, 3) := by decide +kernel
theorem dX6_allHate_22 : decode cX6_allHate 22 = .ok (.goto (-18), 3) := by decide +kernel
theorem dX6_allHate_25 : decode cX6_allHate 25 = .ok (.iload_n 1, 1) := by decide +kernel
theorem dX6_allHate_26 : decode cX6_allHate 26 = .ok (.ireturn, 1) := by decide +kernel
theorem dX6_alive_0 : decode cX6_alive 0 = .ok (.iconst 1, 1) := by decide +kernel
theorem dX6_alive_1 : decode cX6_alive 1 = .ok (.aload_n 0, 1) := by decide +kernel
theorem dX6_alive_2 : decode cX6_alive 2 = .ok (.getfield 52, 3) := by decide +kernel
theorem dX6_alive_5 : decode cX6_alive 5 = .ok (.ishl, 1) := by decide +kernel
theorem dX6_alive_6 : decode cX6_alive 6 = .ok (.iconst 1, 1) := by decide +kernel
theorem dX6_alive_7 : decode cX6_alive 7 = .ok (.isub, 1) := by decide +kernel
theorem dX6_alive_8 : decode cX6_alive 8 = .ok (.aload_n 0, 1) := by decide +kernel
theorem dX6_alive_9 : decode cX6_alive 9 = .ok (.getfield 60, 3) := by decide +kernel
theorem dX6_alive_12 : decode cX6_alive 12 = .ok (.iconst (-1), 1) := by decide +kernel
theorem dX6_alive_13 : decode cX6_alive 13 = .ok (.ixor, 1) := by decide +kernel
theorem dX6_alive_14 : decode cX6_alive 14 = .ok (.iand, 1) := by decide +kernel
theorem dX6_alive_15 : decode cX6_alive 15 = .ok (.ireturn, 1) := by decide +kernel
theorem dX6_spite_0 : decode cX6_spite 0 = .ok (.aload_n 0, 1) := by decide +kernel
theorem dX6_spite_1 : decode cX6_spite 1 = .ok (.iload_n 1, 1) := by decide +kernel
theorem dX6_spite_2 : decode cX6_spite 2 = .ok (.invokevirtual 56, 3) := by decide +kernel
theorem dX6_spite_5 : decode cX6_spite 5 = .ok (.ifCond .ne 5, 3) := by decide +kernel
theorem dX6_spite_8 : decode cX6_spite 8 = .ok (.iconst 0, 1) := by decide +kernel
theorem dX6_spite_9 : decode cX6_spite 9 = .ok (.ireturn, 1) := by decide +kernel
theorem dX6_spite_10 : decode cX6_spite 10 = .ok (.aload_n 0, 1) := by decide +kernel
theorem dX6_spite_11 : decode cX6_spite 11 = .ok (.getfield 18, 3) := by decide +kernel
theorem dX6_spite_14 : decode cX6_spite 14 = .ok (.iload_n 1, 1) := by decide +kernel
theorem dX6_spite_15 : decode cX6_spite 15 = .ok (.iaload, 1) := by decide +kernel
theorem dX6_spite_16 : decode cX6_spite 16 = .ok (.istore 6, 2) := by decide +kernel
theorem dX6_spite_18 : decode cX6_spite 18 = .ok (.aload_n 0, 1) := by decide +kernel
theorem dX6_spite_19 : decode cX6_spite 19 = .ok (.getfield 49, 3) := by decide +kernel
theorem dX6_spite_22 : decode cX6_spite 22 = .ok (.iconst 0, 1) := by decide +kernel
theorem dX6_spite_23 : decode cX6_spite 23 = .ok (.iload_n 1, 1) := by decide +kernel
theorem dX6_spite_24 : decode cX6_spite 24 = .ok (.iastore, 1) := by decide +kernel
theorem dX6_spite_25 : decode cX6_spite 25 = .ok (.aload_n 0, 1) := by decide +kernel
theorem dX6_spite_26 : decode cX6_spite 26 = .ok (.getfield 49, 3) := by decide +kernel
theorem dX6_spite_29 : decode cX6_spite 29 = .ok (.iconst 1, 1) := by decide +kernel
theorem dX6_spite_30 : decode cX6_spite 30 = .ok (.iload_n 2, 1) := by decide +kernel
theorem dX6_spite_31 : decode cX6_spite 31 = .ok (.iastore, 1) := by decide +kernel
theorem dX6_spite_32 : decode cX6_spite 32 = .ok (.aload_n 0, 1) := by decide +kernel
theorem dX6_spite_33 : decode cX6_spite 33 = .ok (.getfield 49, 3) := by decide +kernel
theorem dX6_spite_36 : decode cX6_spite 36 = .ok (.iconst 2, 1) := by decide +kernel
theorem dX6_spite_37 : decode cX6_spite 37 = .ok (.iload 6, 2) := by decide +kernel
theorem dX6_spite_39 : decode cX6_spite 39 = .ok (.iastore, 1) := by decide +kernel
theorem dX6_spite_40 : decode cX6_spite 40 = .ok (.aload_n 0, 1) := by decide +kernel
theorem dX6_spite_41 : decode cX6_spite 41 = .ok (.getfield 49, 3) := by decide +kernel
theorem dX6_spite_44 : decode cX6_spite 44 = .ok (.iconst 3, 1) := by decide +kernel
theorem dX6_spite_45 : decode cX6_spite 45 = .ok (.iload 5, 2) := by decide +kernel
theorem dX6_spite_47 : decode cX6_spite 47 = .ok (.iastore, 1) := by decide +kernel
theorem dX6_spite_48 : decode cX6_spite 48 = .ok (.aload_n 0, 1) := by decide +kernel
theorem dX6_spite_49 : decode cX6_spite 49 = .ok (.getfield 49, 3) := by decide +kernel
theorem dX6_spite_52 : decode cX6_spite 52 = .ok (.iconst 4, 1) := by decide +kernel
theorem dX6_spite_53 : decode cX6_spite 53 = .ok (.iload 4, 2) := by decide +kernel
theorem dX6_spite_55 : decode cX6_spite 55 = .ok (.bipush 10, 2) := by decide +kernel
theorem dX6_spite_57 : decode cX6_spite 57 = .ok (.idiv, 1) := by decide +kernel
theorem dX6_spite_58 : decode cX6_spite 58 = .ok (.iastore, 1) := by decide +kernel
theorem dX6_spite_59 : decode cX6_spite 59 = .ok (.aload_n 0, 1) := by decide +kernel
theorem dX6_spite_60 : decode cX6_spite 60 = .ok (.getfield 49, 3) := by decide +kernel
theorem dX6_spite_63 : decode cX6_spite 63 = .ok (.iconst 5, 1) := by decide +kernel
theorem dX6_spite_64 : decode cX6_spite 64 = .ok (.iload_n 3, 1) := by decide +kernel
theorem dX6_spite_65 : decode cX6_spite 65 = .ok (.bipush 10, 2) := by decide +kernel
theorem dX6_spite_67 : decode cX6_spite 67 = .ok (.irem, 1) := by decide +kernel
theorem dX6_spite_68 : decode cX6_spite 68 = .ok (.iastore, 1) := by decide +kernel
theorem dX6_spite_69 : decode cX6_spite 69 = .ok (.iload 4, 2) := by decide +kernel
theorem dX6_spite_71 : decode cX6_spite 71 = .ok (.aload_n 0, 1) := by decide +kernel
theorem dX6_spite_72 : decode cX6_spite 72 = .ok (.getfield 12, 3) := by decide +kernel
theorem dX6_spite_75 : decode cX6_spite 75 = .ok (.aload_n 0, 1) := by decide +kernel
theorem dX6_spite_76 : decode cX6_spite 76 = .ok (.getfield 49, 3) := by decide +kernel
theorem dX6_spite_79 : decode cX6_spite 79 = .ok (.invokevirtual 63, 3) := by decide +kernel
theorem dX6_spite_82 : decode cX6_spite 82 = .ok (.iadd, 1) := by decide +kernel
theorem dX6_spite_83 : decode cX6_spite 83 = .ok (.istore 7, 2) := by decide +kernel
theorem dX6_spite_85 : decode cX6_spite 85 = .ok (.iload_n 3, 1) := by decide +kernel
theorem dX6_spite_86 : decode cX6_spite 86 = .ok (.iconst 2, 1) := by decide +kernel
theorem dX6_spite_87 : decode cX6_spite 87 = .ok (.irem, 1) := by decide +kernel
theorem dX6_spite_88 : decode cX6_spite 88 = .ok (.ifCond .ne 8, 3) := by decide +kernel
theorem dX6_spite_91 : decode cX6_spite 91 = .ok (.iload 7, 2) := by decide +kernel
theorem dX6_spite_93 : decode cX6_spite 93 = .ok (.goto 7, 3) := by decide +kernel
theorem dX6_spite_96 : decode cX6_spite 96 = .ok (.iload 7, 2) := by decide +kernel
theorem dX6_spite_98 : decode cX6_spite 98 = .ok (.iconst 2, 1) := by decide +kernel
theorem dX6_spite_99 : decode cX6_spite 99 = .ok (.idiv, 1) := by decide +kernel
theorem dX6_spite_100 : decode cX6_spite 100 = .ok (.istore 8, 2) := by decide +kernel
theorem dX6_spite_102 : decode cX6_spite 102 = .ok (.iload 6, 2) := by decide +kernel
theorem dX6_spite_104 : decode cX6_spite 104 = .ok (.tableswitch 107 1 6 #[40, 48, 51, 57, 70, 86], 40) := by decide +kernel
theorem dX6_spite_144 : decode cX6_spite 144 = .ok (.iload 7, 2) := by decide +kernel
theorem dX6_spite_146 : decode cX6_spite 146 = .ok (.iload_n 3, 1) := by decide +kernel
theorem dX6_spite_147 : decode cX6_spite 147 = .ok (.bipush 7, 2) := by decide +kernel
theorem dX6_spite_149 : decode cX6_spite 149 = .ok (.irem, 1) := by decide +kernel
theorem dX6_spite_150 : decode cX6_spite 150 = .ok (.isub, 1) := by decide +kernel
theorem dX6_spite_151 : decode cX6_spite 151 = .ok (.ireturn, 1) := by decide +kernel
theorem dX6_spite_152 : decode cX6_spite 152 = .ok (.iload 8, 2) := by decide +kernel
theorem dX6_spite_154 : decode cX6_spite 154 = .ok (.ireturn, 1) := by decide +kernel
theorem dX6_spite_155 : decode cX6_spite 155 = .ok (.iload 7, 2) := by decide +kernel
theorem dX6_spite_157 : decode cX6_spite 157 = .ok (.iload 5, 2) := by decide +kernel
theorem dX6_spite_159 : decode cX6_spite 159 = .ok (.iadd, 1) := by decide +kernel
theorem dX6_spite_160 : decode cX6_spite 160 = .ok (.ireturn, 1) := by decide +kernel
theorem dX6_spite_161 : decode cX6_spite 161 = .ok (.iload 7, 2) := by decide +kernel
theorem dX6_spite_163 : decode cX6_spite 163 = .ok (.iload_n 3, 1) := by decide +kernel
theorem dX6_spite_164 : decode cX6_spite 164 = .ok (.bipush 7, 2) := by decide +kernel
theorem dX6_spite_166 : decode cX6_spite 166 = .ok (.irem, 1) := by decide +kernel
theorem dX6_spite_167 : decode cX6_spite 167 = .ok (.isub, 1) := by decide +kernel
theorem dX6_spite_168 : decode cX6_spite 168 = .ok (.iconst 2, 1) := by decide +kernel
theorem dX6_spite_169 : decode cX6_spite 169 = .ok (.iload 5, 2) := by decide +kernel
theorem dX6_spite_171 : decode cX6_spite 171 = .ok (.imul, 1) := by decide +kernel
theorem dX6_spite_172 : decode cX6_spite 172 = .ok (.isub, 1) := by decide +kernel
theorem dX6_spite_173 : decode cX6_spite 173 = .ok (.ireturn, 1) := by decide +kernel
theorem dX6_spite_174 : decode cX6_spite 174 = .ok (.iload_n 2, 1) := by decide +kernel
theorem dX6_spite_175 : decode cX6_spite 175 = .ok (.iload_n 1, 1) := by decide +kernel
theorem dX6_spite_176 : decode cX6_spite 176 = .ok (.if_icmp .le 11, 3) := by decide +kernel
theorem dX6_spite_179 : decode cX6_spite 179 = .ok (.iload 8, 2) := by decide +kernel
theorem dX6_spite_181 : decode cX6_spite 181 = .ok (.bipush 20, 2) := by decide +kernel
theorem dX6_spite_183 : decode cX6_spite 183 = .ok (.iadd, 1) := by decide +kernel
theorem dX6_spite_184 : decode cX6_spite 184 = .ok (.goto 5, 3) := by decide +kernel
theorem dX6_spite_187 : decode cX6_spite 187 = .ok (.iload 8, 2) := by decide +kernel
theorem dX6_spite_189 : decode cX6_spite 189 = .ok (.ireturn, 1) := by decide +kernel
theorem dX6_spite_190 : decode cX6_spite 190 = .ok (.iload 7, 2) := by decide +kernel
theorem dX6_spite_192 : decode cX6_spite 192 = .ok (.iload 5, 2) := by decide +kernel
theorem dX6_spite_194 : decode cX6_spite 194 = .ok (.iadd, 1) := by decide +kernel
theorem dX6_spite_195 : decode cX6_spite 195 = .ok (.aload_n 0, 1) := by decide +kernel
theorem dX6_spite_196 : decode cX6_spite 196 = .ok (.getfield 31, 3) := by decide +kernel
theorem dX6_spite_199 : decode cX6_spite 199 = .ok (.iload_n 1, 1) := by decide +kernel
theorem dX6_spite_200 : decode cX6_spite 200 = .ok (.iconst 4, 1) := by decide +kernel
theorem dX6_spite_201 : decode cX6_spite 201 = .ok (.imul, 1) := by decide +kernel
theorem dX6_spite_202 : decode cX6_spite 202 = .ok (.iload_n 3, 1) := by decide +kernel
theorem dX6_spite_203 : decode cX6_spite 203 = .ok (.iconst 4, 1) := by decide +kernel
theorem dX6_spite_204 : decode cX6_spite 204 = .ok (.invokestatic 67, 3) := by decide +kernel
theorem dX6_spite_207 : decode cX6_spite 207 = .ok (.iadd, 1) := by decide +kernel
theorem dX6_spite_208 : decode cX6_spite 208 = .ok (.iaload, 1) := by decide +kernel
theorem dX6_spite_209 : decode cX6_spite 209 = .ok (.iadd, 1) := by decide +kernel
theorem dX6_spite_210 : decode cX6_spite 210 = .ok (.ireturn, 1) := by decide +kernel
theorem dX6_spite_211 : decode cX6_spite 211 = .ok (.iload 7, 2) := by decide +kernel
theorem dX6_spite_213 : decode cX6_spite 213 = .ok (.ireturn, 1) := by decide +kernel
theorem dX6_isEnemy_0 : decode cX6_isEnemy 0 = .ok (.aload_n 0, 1) := by decide +kernel
theorem dX6_isEnemy_1 : decode cX6_isEnemy 1 = .ok (.iload_n 1, 1) := by decide +kernel
theorem dX6_isEnemy_2 : decode cX6_isEnemy 2 = .ok (.invokevirtual 56, 3) := by decide +kernel
theorem dX6_isEnemy_5 : decode cX6_isEnemy 5 = .ok (.ifCond .eq 20, 3) := by decide +kernel
theorem dX6_isEnemy_8 : decode cX6_isEnemy 8 = .ok (.iload_n 1, 1) := by decide +kernel
theorem dX6_isEnemy_9 : decode cX6_isEnemy 9 = .ok (.iload_n 2, 1) := by decide +kernel
theorem dX6_isEnemy_10 : decode cX6_isEnemy 10 = .ok (.if_icmp .eq 15, 3) := by decide +kernel
theorem dX6_isEnemy_13 : decode cX6_isEnemy 13 = .ok (.aload_n 0, 1) := by decide +kernel
theorem dX6_isEnemy_14 : decode cX6_isEnemy 14 = .ok (.getfield 60, 3) := by decide +kernel
theorem dX6_isEnemy_17 : decode cX6_isEnemy 17 = .ok (.iload_n 1, 1) := by decide +kernel
theorem dX6_isEnemy_18 : decode cX6_isEnemy 18 = .ok (.invokestatic 73, 3) := by decide +kernel
theorem dX6_isEnemy_21 : decode cX6_isEnemy 21 = .ok (.iconst 1, 1) := by decide +kernel
theorem dX6_isEnemy_22 : decode cX6_isEnemy 22 = .ok (.if_icmp .ne 5, 3) := by decide +kernel
theorem dX6_isEnemy_25 : decode cX6_isEnemy 25 = .ok (.iconst 0, 1) := by decide +kernel
theorem dX6_isEnemy_26 : decode cX6_isEnemy 26 = .ok (.ireturn, 1) := by decide +kernel
theorem dX6_isEnemy_27 : decode cX6_isEnemy 27 = .ok (.aload_n 0, 1) := by decide +kernel
theorem dX6_isEnemy_28 : decode cX6_isEnemy 28 = .ok (.iload_n 1, 1) := by decide +kernel
theorem dX6_isEnemy_29 : decode cX6_isEnemy 29 = .ok (.iload_n 2, 1) := by decide +kernel
theorem dX6_isEnemy_30 : decode cX6_isEnemy 30 = .ok (.iload_n 3, 1) := by decide +kernel
theorem dX6_isEnemy_31 : decode cX6_isEnemy 31 = .ok (.aload_n 0, 1) := by decide +kernel
theorem dX6_isEnemy_32 : decode cX6_isEnemy 32 = .ok (.iload_n 1, 1) := by decide +kernel
theorem dX6_isEnemy_33 : decode cX6_isEnemy 33 = .ok (.iload_n 2, 1) := by decide +kernel
theorem dX6_isEnemy_34 : decode cX6_isEnemy 34 = .ok (.invokevirtual 76, 3) := by decide +kernel
theorem dX6_isEnemy_37 : decode cX6_isEnemy 37 = .ok (.aload_n 0, 1) := by decide +kernel
theorem dX6_isEnemy_38 : decode cX6_isEnemy 38 = .ok (.getfield 22, 3) := by decide +kernel
theorem dX6_isEnemy_41 : decode cX6_isEnemy 41 = .ok (.iload_n 1, 1) := by decide +kernel
theorem dX6_isEnemy_42 : decode cX6_isEnemy 42 = .ok (.iaload, 1) := by decide +kernel
theorem dX6_isEnemy_43 : decode cX6_isEnemy 43 = .ok (.invokevirtual 79, 3) := by decide +kernel
theorem dX6_isEnemy_46 : decode cX6_isEnemy 46 = .ok (.aload_n 0, 1) := by decide +kernel
theorem dX6_isEnemy_47 : decode cX6_isEnemy 47 = .ok (.getfield 12, 3) := by decide +kernel
theorem dX6_isEnemy_50 : decode cX6_isEnemy 50 = .ok (.getfield 83, 3) := by decide +kernel
theorem dX6_isEnemy_53 : decode cX6_isEnemy 53 = .ok (.if_icmp .lt 7, 3) := by decide +kernel
theorem dX6_isEnemy_56 : decode cX6_isEnemy 56 = .ok (.iconst 1, 1) := by decide +kernel
theorem dX6_isEnemy_57 : decode cX6_isEnemy 57 = .ok (.goto 4, 3) := by decide +kernel
theorem dX6_isEnemy_60 : decode cX6_isEnemy 60 = .ok (.iconst 0, 1) := by decide +kernel
theorem dX6_isEnemy_61 : decode cX6_isEnemy 61 = .ok (.ireturn, 1) := by decide +kernel
theorem dX6_enemiesOf_0 : decode cX6_enemiesOf 0 = .ok (.iconst 0, 1) := by decide +kernel
theorem dX6_enemiesOf_1 : decode cX6_enemiesOf 1 = .ok (.istore_n 3, 1) := by decide +kernel
theorem dX6_enemiesOf_2 : decode cX6_enemiesOf 2 = .ok (.iconst 0, 1) := by decide +kernel
theorem dX6_enemiesOf_3 : decode cX6_enemiesOf 3 = .ok (.istore 4, 2) := by decide +kernel
theorem dX6_enemiesOf_5 : decode cX6_enemiesOf 5 = .ok (.iload 4, 2) := by decide +kernel
theorem dX6_enemiesOf_7 : decode cX6_enemiesOf 7 = .ok (.aload_n 0, 1) := by decide +kernel
theorem dX6_enemiesOf_8 : decode cX6_enemiesOf 8 = .ok (.getfield 52, 3) := by decide +kernel
theorem dX6_enemiesOf_11 : decode cX6_enemiesOf 11 = .ok (.if_icmp .ge 27, 3) := by decide +kernel
theorem dX6_enemiesOf_14 : decode cX6_enemiesOf 14 = .ok (.aload_n 0, 1) := by decide +kernel
theorem dX6_enemiesOf_15 : decode cX6_enemiesOf 15 = .ok (.iload 4, 2) := by decide +kernel
theorem dX6_enemiesOf_17 : decode cX6_enemiesOf 17 = .ok (.iload_n 1, 1) := by decide +kernel
theorem dX6_enemiesOf_18 : decode cX6_enemiesOf 18 = .ok (.iload_n 2, 1) := by decide +kernel
theorem dX6_enemiesOf_19 : decode cX6_enemiesOf 19 = .ok (.invokevirtual 86, 3) := by decide +kernel
theorem dX6_enemiesOf_22 : decode cX6_enemiesOf 22 = .ok (.ifCond .eq 10, 3) := by decide +kernel
theorem dX6_enemiesOf_25 : decode cX6_enemiesOf 25 = .ok (.iload_n 3, 1) := by decide +kernel
theorem dX6_enemiesOf_26 : decode cX6_enemiesOf 26 = .ok (.iconst 1, 1) := by decide +kernel
theorem dX6_enemiesOf_27 : decode cX6_enemiesOf 27 = .ok (.iload 4, 2) := by decide +kernel
theorem dX6_enemiesOf_29 : decode cX6_enemiesOf 29 = .ok (.ishl, 1) := by decide +kernel
theorem dX6_enemiesOf_30 : decode cX6_enemiesOf 30 = .ok (.ior, 1) := by decide +kernel
theorem dX6_enemiesOf_31 : decode cX6_enemiesOf 31 = .ok (.istore_n 3, 1) := by decide +kernel
theorem dX6_enemiesOf_32 : decode cX6_enemiesOf 32 = .ok (.iinc 4 1, 3) := by decide +kernel
theorem dX6_enemiesOf_35 : decode cX6_enemiesOf 35 = .ok (.goto (-30), 3) := by decide +kernel
theorem dX6_enemiesOf_38 : decode cX6_enemiesOf 38 = .ok (.iload_n 3, 1) := by decide +kernel
theorem dX6_enemiesOf_39 : decode cX6_enemiesOf 39 = .ok (.ireturn, 1) := by decide +kernel
theorem dX6_goDay_0 : decode cX6_goDay 0 = .ok (.iconst 0, 1) := by decide +kernel
theorem dX6_goDay_1 : decode cX6_goDay 1 = .ok (.istore_n 2, 1) := by decide +kernel
theorem dX6_goDay_2 : decode cX6_goDay 2 = .ok (.iconst 0, 1) := by decide +kernel
theorem dX6_goDay_3 : decode cX6_goDay 3 = .ok (.istore_n 3, 1) := by decide +kernel
theorem dX6_goDay_4 : decode cX6_goDay 4 = .ok (.iload_n 3, 1) := by decide +kernel
theorem dX6_goDay_5 : decode cX6_goDay 5 = .ok (.aload_n 0, 1) := by decide +kernel
theorem dX6_goDay_6 : decode cX6_goDay 6 = .ok (.getfield 52, 3) := by decide +kernel
theorem dX6_goDay_9 : decode cX6_goDay 9 = .ok (.if_icmp .ge 104, 3) := by decide +kernel
theorem dX6_goDay_12 : decode cX6_goDay 12 = .ok (.aload_n 0, 1) := by decide +kernel
theorem dX6_goDay_13 : decode cX6_goDay 13 = .ok (.getfield 60, 3) := by decide +kernel
theorem dX6_goDay_16 : decode cX6_goDay 16 = .ok (.aload_n 0, 1) := by decide +kernel
theorem dX6_goDay_17 : decode cX6_goDay 17 = .ok (.getfield 90, 3) := by decide +kernel
theorem dX6_goDay_20 : decode cX6_goDay 20 = .ok (.iconst (-1), 1) := by decide +kernel
theorem dX6_goDay_21 : decode cX6_goDay 21 = .ok (.ixor, 1) := by decide +kernel
theorem dX6_goDay_22 : decode cX6_goDay 22 = .ok (.iand, 1) := by decide +kernel
theorem dX6_goDay_23 : decode cX6_goDay 23 = .ok (.iload_n 3, 1) := by decide +kernel
theorem dX6_goDay_24 : decode cX6_goDay 24 = .ok (.invokestatic 73, 3) := by decide +kernel
theorem dX6_goDay_27 : decode cX6_goDay 27 = .ok (.ifCond .ne 6, 3) := by decide +kernel
theorem dX6_goDay_30 : decode cX6_goDay 30 = .ok (.goto 77, 3) := by decide +kernel
theorem dX6_goDay_33 : decode cX6_goDay 33 = .ok (.aload_n 0, 1) := by decide +kernel
theorem dX6_goDay_34 : decode cX6_goDay 34 = .ok (.iload_n 3, 1) := by decide +kernel
theorem dX6_goDay_35 : decode cX6_goDay 35 = .ok (.aload_n 0, 1) := by decide +kernel
theorem dX6_goDay_36 : decode cX6_goDay 36 = .ok (.getfield 93, 3) := by decide +kernel
theorem dX6_goDay_39 : decode cX6_goDay 39 = .ok (.invokevirtual 96, 3) := by decide +kernel
theorem dX6_goDay_42 : decode cX6_goDay 42 = .ok (.iload_n 2, 1) := by decide +kernel
theorem dX6_goDay_43 : decode cX6_goDay 43 = .ok (.iconst (-1), 1) := by decide +kernel
theorem dX6_goDay_44 : decode cX6_goDay 44 = .ok (.ixor, 1) := by decide +kernel
theorem dX6_goDay_45 : decode cX6_goDay 45 = .ok (.iand, 1) := by decide +kernel
theorem dX6_goDay_46 : decode cX6_goDay 46 = .ok (.invokestatic 99, 3) := by decide +kernel
theorem dX6_goDay_49 : decode cX6_goDay 49 = .ok (.istore 4, 2) := by decide +kernel
theorem dX6_goDay_51 : decode cX6_goDay 51 = .ok (.aload_n 0, 1) := by decide +kernel
theorem dX6_goDay_52 : decode cX6_goDay 52 = .ok (.iload 4, 2) := by decide +kernel
theorem dX6_goDay_54 : decode cX6_goDay 54 = .ok (.invokevirtual 56, 3) := by decide +kernel
theorem dX6_goDay_57 : decode cX6_goDay 57 = .ok (.ifCond .eq 50, 3) := by decide +kernel
theorem dX6_goDay_60 : decode cX6_goDay 60 = .ok (.iload_n 2, 1) := by decide +kernel
theorem dX6_goDay_61 : decode cX6_goDay 61 = .ok (.iconst 1, 1) := by decide +kernel
theorem dX6_goDay_62 : decode cX6_goDay 62 = .ok (.iload 4, 2) := by decide +kernel
theorem dX6_goDay_64 : decode cX6_goDay 64 = .ok (.ishl, 1) := by decide +kernel
theorem dX6_goDay_65 : decode cX6_goDay 65 = .ok (.ior, 1) := by decide +kernel
theorem dX6_goDay_66 : decode cX6_goDay 66 = .ok (.istore_n 2, 1) := by decide +kernel
theorem dX6_goDay_67 : decode cX6_goDay 67 = .ok (.aload_n 0, 1) := by decide +kernel
theorem dX6_goDay_68 : decode cX6_goDay 68 = .ok (.dup, 1) := by decide +kernel
theorem dX6_goDay_69 : decode cX6_goDay 69 = .ok (.getfield 90, 3) := by decide +kernel
theorem dX6_goDay_72 : decode cX6_goDay 72 = .ok (.iconst 1, 1) := by decide +kernel
theorem dX6_goDay_73 : decode cX6_goDay 73 = .ok (.iload_n 3, 1) := by decide +kernel
theorem dX6_goDay_74 : decode cX6_goDay 74 = .ok (.ishl, 1) := by decide +kernel
theorem dX6_goDay_75 : decode cX6_goDay 75 = .ok (.ior, 1) := by decide +kernel
theorem dX6_goDay_76 : decode cX6_goDay 76 = .ok (.putfield 90, 3) := by decide +kernel
theorem dX6_goDay_79 : decode cX6_goDay 79 = .ok (.aload_n 0, 1) := by decide +kernel
theorem dX6_goDay_80 : decode cX6_goDay 80 = .ok (.getfield 25, 3) := by decide +kernel
theorem dX6_goDay_83 : decode cX6_goDay 83 = .ok (.iload 4, 2) := by decide +kernel
theorem dX6_goDay_85 : decode cX6_goDay 85 = .ok (.aload_n 0, 1) := by decide +kernel
theorem dX6_goDay_86 : decode cX6_goDay 86 = .ok (.getfield 25, 3) := by decide +kernel
theorem dX6_goDay_89 : decode cX6_goDay 89 = .ok (.iload 4, 2) := by decide +kernel
theorem dX6_goDay_91 : decode cX6_goDay 91 = .ok (.iaload, 1) := by decide +kernel
theorem dX6_goDay_92 : decode cX6_goDay 92 = .ok (.iconst 1, 1) := by decide +kernel
theorem dX6_goDay_93 : decode cX6_goDay 93 = .ok (.iadd, 1) := by decide +kernel
theorem dX6_goDay_94 : decode cX6_goDay 94 = .ok (.iload_n 1, 1) := by decide +kernel
theorem dX6_goDay_95 : decode cX6_goDay 95 = .ok (.invokestatic 103, 3) := by decide +kernel
theorem dX6_goDay_98 : decode cX6_goDay 98 = .ok (.iastore, 1) := by decide +kernel
theorem dX6_goDay_99 : decode cX6_goDay 99 = .ok (.aload_n 0, 1) := by decide +kernel
theorem dX6_goDay_100 : decode cX6_goDay 100 = .ok (.iload 4, 2) := by decide +kernel
theorem dX6_goDay_102 : decode cX6_goDay 102 = .ok (.iload_n 3, 1) := by decide +kernel
theorem dX6_goDay_103 : decode cX6_goDay 103 = .ok (.iconst 0, 1) := by decide +kernel
theorem dX6_goDay_104 : decode cX6_goDay 104 = .ok (.invokevirtual 106, 3) := by decide +kernel
theorem dX6_goDay_107 : decode cX6_goDay 107 = .ok (.iinc 3 1, 3) := by decide +kernel
theorem dX6_goDay_110 : decode cX6_goDay 110 = .ok (.goto (-106), 3) := by decide +kernel
theorem dX6_goDay_113 : decode cX6_goDay 113 = .ok (.aload_n 0, 1) := by decide +kernel
theorem dX6_goDay_114 : decode cX6_goDay 114 = .ok (.dup, 1) := by decide +kernel
theorem dX6_goDay_115 : decode cX6_goDay 115 = .ok (.getfield 93, 3) := by decide +kernel
theorem dX6_goDay_118 : decode cX6_goDay 118 = .ok (.iconst 1, 1) := by decide +kernel
theorem dX6_goDay_119 : decode cX6_goDay 119 = .ok (.iadd, 1) := by decide +kernel
theorem dX6_goDay_120 : decode cX6_goDay 120 = .ok (.putfield 93, 3) := by decide +kernel
theorem dX6_goDay_123 : decode cX6_goDay 123 = .ok (.return_, 1) := by decide +kernel
theorem dX6_suffer_0 : decode cX6_suffer 0 = .ok (.iload_n 1, 1) := by decide +kernel
theorem dX6_suffer_1 : decode cX6_suffer 1 = .ok (.iconst 1, 1) := by decide +kernel
theorem dX6_suffer_2 : decode cX6_suffer 2 = .ok (.if_icmp .ne 16, 3) := by decide +kernel
theorem dX6_suffer_5 : decode cX6_suffer 5 = .ok (.aload_n 0, 1) := by decide +kernel
theorem dX6_suffer_6 : decode cX6_suffer 6 = .ok (.dup, 1) := by decide +kernel
theorem dX6_suffer_7 : decode cX6_suffer 7 = .ok (.getfield 60, 3) := by decide +kernel
theorem dX6_suffer_10 : decode cX6_suffer 10 = .ok (.iconst 1, 1) := by decide +kernel
theorem dX6_suffer_11 : decode cX6_suffer 11 = .ok (.iload_n 2, 1) := by decide +kernel
theorem dX6_suffer_12 : decode cX6_suffer 12 = .ok (.ishl, 1) := by decide +kernel
theorem dX6_suffer_13 : decode cX6_suffer 13 = .ok (.ior, 1) := by decide +kernel
theorem dX6_suffer_14 : decode cX6_suffer 14 = .ok (.putfield 60, 3) := by decide +kernel
theorem dX6_suffer_17 : decode cX6_suffer 17 = .ok (.return_, 1) := by decide +kernel
theorem dX6_suffer_18 : decode cX6_suffer 18 = .ok (.iconst 0, 1) := by decide +kernel
theorem dX6_suffer_19 : decode cX6_suffer 19 = .ok (.istore_n 3, 1) := by decide +kernel
theorem dX6_suffer_20 : decode cX6_suffer 20 = .ok (.iload_n 3, 1) := by decide +kernel
theorem dX6_suffer_21 : decode cX6_suffer 21 = .ok (.aload_n 0, 1) := by decide +kernel
theorem dX6_suffer_22 : decode cX6_suffer 22 = .ok (.getfield 52, 3) := by decide +kernel
theorem dX6_suffer_25 : decode cX6_suffer 25 = .ok (.if_icmp .ge 36, 3) := by decide +kernel
theorem dX6_suffer_28 : decode cX6_suffer 28 = .ok (.iload_n 1, 1) := by decide +kernel
theorem dX6_suffer_29 : decode cX6_suffer 29 = .ok (.iconst 2, 1) := by decide +kernel
theorem dX6_suffer_30 : decode cX6_suffer 30 = .ok (.if_icmp .ne 13, 3) := by decide +kernel
theorem dX6_suffer_33 : decode cX6_suffer 33 = .ok (.aload_n 0, 1) := by decide +kernel
theorem dX6_suffer_34 : decode cX6_suffer 34 = .ok (.iload_n 2, 1) := by decide +kernel
theorem dX6_suffer_35 : decode cX6_suffer 35 = .ok (.iload_n 3, 1) := by decide +kernel
theorem dX6_suffer_36 : decode cX6_suffer 36 = .ok (.iconst 0, 1) := by decide +kernel
theorem dX6_suffer_37 : decode cX6_suffer 37 = .ok (.invokevirtual 106, 3) := by decide +kernel
theorem dX6_suffer_40 : decode cX6_suffer 40 = .ok (.goto 15, 3) := by decide +kernel
theorem dX6_suffer_43 : decode cX6_suffer 43 = .ok (.iload_n 1, 1) := by decide +kernel
theorem dX6_suffer_44 : decode cX6_suffer 44 = .ok (.iconst 3, 1) := by decide +kernel
theorem dX6_suffer_45 : decode cX6_suffer 45 = .ok (.if_icmp .ne 10, 3) := by decide +kernel
theorem dX6_suffer_48 : decode cX6_suffer 48 = .ok (.aload_n 0, 1) := by decide +kernel
theorem dX6_suffer_49 : decode cX6_suffer 49 = .ok (.iload_n 3, 1) := by decide +kernel
theorem dX6_suffer_50 : decode cX6_suffer 50 = .ok (.iload_n 2, 1) := by decide +kernel
theorem dX6_suffer_51 : decode cX6_suffer 51 = .ok (.iconst 0, 1) := by decide +kernel
theorem dX6_suffer_52 : decode cX6_suffer 52 = .ok (.invokevirtual 106, 3) := by decide +kernel
theorem dX6_suffer_55 : decode cX6_suffer 55 = .ok (.iinc 3 1, 3) := by decide +kernel
theorem dX6_suffer_58 : decode cX6_suffer 58 = .ok (.goto (-38), 3) := by decide +kernel
theorem dX6_suffer_61 : decode cX6_suffer 61 = .ok (.return_, 1) := by decide +kernel
theorem dX6_fitsHate_0 : decode cX6_fitsHate 0 = .ok (.aload_n 0, 1) := by decide +kernel
theorem dX6_fitsHate_1 : decode cX6_fitsHate 1 = .ok (.iload_n 1, 1) := by decide +kernel
theorem dX6_fitsHate_2 : decode cX6_fitsHate 2 = .ok (.invokevirtual 56, 3) := by decide +kernel
theorem dX6_fitsHate_5 : decode cX6_fitsHate 5 = .ok (.ifCond .ne 5, 3) := by decide +kernel
theorem dX6_fitsHate_8 : decode cX6_fitsHate 8 = .ok (.iconst 0, 1) := by decide +kernel
theorem dX6_fitsHate_9 : decode cX6_fitsHate 9 = .ok (.ireturn, 1) := by decide +kernel
theorem dX6_fitsHate_10 : decode cX6_fitsHate 10 = .ok (.iconst 0, 1) := by decide +kernel
theorem dX6_fitsHate_11 : decode cX6_fitsHate 11 = .ok (.istore 4, 2) := by decide +kernel
theorem dX6_fitsHate_13 : decode cX6_fitsHate 13 = .ok (.iload 4, 2) := by decide +kernel
theorem dX6_fitsHate_15 : decode cX6_fitsHate 15 = .ok (.aload_n 0, 1) := by decide +kernel
theorem dX6_fitsHate_16 : decode cX6_fitsHate 16 = .ok (.getfield 39, 3) := by decide +kernel
theorem dX6_fitsHate_19 : decode cX6_fitsHate 19 = .ok (.getfield 110, 3) := by decide +kernel
theorem dX6_fitsHate_22 : decode cX6_fitsHate 22 = .ok (.if_icmp .ge 108, 3) := by decide +kernel
theorem dX6_fitsHate_25 : decode cX6_fitsHate 25 = .ok (.aload_n 0, 1) := by decide +kernel
theorem dX6_fitsHate_26 : decode cX6_fitsHate 26 = .ok (.getfield 39, 3) := by decide +kernel
theorem dX6_fitsHate_29 : decode cX6_fitsHate 29 = .ok (.iload 4, 2) := by decide +kernel
theorem dX6_fitsHate_31 : decode cX6_fitsHate 31 = .ok (.iconst 0, 1) := by decide +kernel
theorem dX6_fitsHate_32 : decode cX6_fitsHate 32 = .ok (.invokevirtual 113, 3) := by decide +kernel
theorem dX6_fitsHate_35 : decode cX6_fitsHate 35 = .ok (.iload_n 1, 1) := by decide +kernel
theorem dX6_fitsHate_36 : decode cX6_fitsHate 36 = .ok (.if_icmp .ne 88, 3) := by decide +kernel
theorem dX6_fitsHate_39 : decode cX6_fitsHate 39 = .ok (.aload_n 0, 1) := by decide +kernel
theorem dX6_fitsHate_40 : decode cX6_fitsHate 40 = .ok (.getfield 39, 3) := by decide +kernel
theorem dX6_fitsHate_43 : decode cX6_fitsHate 43 = .ok (.iload 4, 2) := by decide +kernel
theorem dX6_fitsHate_45 : decode cX6_fitsHate 45 = .ok (.iconst 1, 1) := by decide +kernel
theorem dX6_fitsHate_46 : decode cX6_fitsHate 46 = .ok (.invokevirtual 113, 3) := by decide +kernel
theorem dX6_fitsHate_49 : decode cX6_fitsHate 49 = .ok (.iload_n 2, 1) := by decide +kernel
theorem dX6_fitsHate_50 : decode cX6_fitsHate 50 = .ok (.if_icmp .ne 74, 3) := by decide +kernel
theorem dX6_fitsHate_53 : decode cX6_fitsHate 53 = .ok (.aload_n 0, 1) := by decide +kernel
theorem dX6_fitsHate_54 : decode cX6_fitsHate 54 = .ok (.iload_n 1, 1) := by decide +kernel
theorem dX6_fitsHate_55 : decode cX6_fitsHate 55 = .ok (.iload_n 2, 1) := by decide +kernel
theorem dX6_fitsHate_56 : decode cX6_fitsHate 56 = .ok (.aload_n 0, 1) := by decide +kernel
theorem dX6_fitsHate_57 : decode cX6_fitsHate 57 = .ok (.getfield 93, 3) := by decide +kernel
theorem dX6_fitsHate_60 : decode cX6_fitsHate 60 = .ok (.aload_n 0, 1) := by decide +kernel
theorem dX6_fitsHate_61 : decode cX6_fitsHate 61 = .ok (.getfield 39, 3) := by decide +kernel
theorem dX6_fitsHate_64 : decode cX6_fitsHate 64 = .ok (.iload 4, 2) := by decide +kernel
theorem dX6_fitsHate_66 : decode cX6_fitsHate 66 = .ok (.iconst 2, 1) := by decide +kernel
theorem dX6_fitsHate_67 : decode cX6_fitsHate 67 = .ok (.invokevirtual 113, 3) := by decide +kernel
theorem dX6_fitsHate_70 : decode cX6_fitsHate 70 = .ok (.iadd, 1) := by decide +kernel
theorem dX6_fitsHate_71 : decode cX6_fitsHate 71 = .ok (.iload_n 3, 1) := by decide +kernel
theorem dX6_fitsHate_72 : decode cX6_fitsHate 72 = .ok (.aload_n 0, 1) := by decide +kernel
theorem dX6_fitsHate_73 : decode cX6_fitsHate 73 = .ok (.getfield 22, 3) := by decide +kernel
theorem dX6_fitsHate_76 : decode cX6_fitsHate 76 = .ok (.iload_n 1, 1) := by decide +kernel
theorem dX6_fitsHate_77 : decode cX6_fitsHate 77 = .ok (.iaload, 1) := by decide +kernel
theorem dX6_fitsHate_78 : decode cX6_fitsHate 78 = .ok (.invokevirtual 79, 3) := by decide +kernel
theorem dX6_fitsHate_81 : decode cX6_fitsHate 81 = .ok (.istore 5, 2) := by decide +kernel
theorem dX6_fitsHate_83 : decode cX6_fitsHate 83 = .ok (.iload 5, 2) := by decide +kernel
theorem dX6_fitsHate_85 : decode cX6_fitsHate 85 = .ok (.aload_n 0, 1) := by decide +kernel
theorem dX6_fitsHate_86 : decode cX6_fitsHate 86 = .ok (.getfield 12, 3) := by decide +kernel
theorem dX6_fitsHate_89 : decode cX6_fitsHate 89 = .ok (.getfield 83, 3) := by decide +kernel
theorem dX6_fitsHate_92 : decode cX6_fitsHate 92 = .ok (.if_icmp .lt 7, 3) := by decide +kernel
theorem dX6_fitsHate_95 : decode cX6_fitsHate 95 = .ok (.iconst 1, 1) := by decide +kernel
theorem dX6_fitsHate_96 : decode cX6_fitsHate 96 = .ok (.goto 4, 3) := by decide +kernel
theorem dX6_fitsHate_99 : decode cX6_fitsHate 99 = .ok (.iconst 0, 1) := by decide +kernel
theorem dX6_fitsHate_100 : decode cX6_fitsHate 100 = .ok (.aload_n 0, 1) := by decide +kernel
theorem dX6_fitsHate_101 : decode cX6_fitsHate 101 = .ok (.getfield 39, 3) := by decide +kernel
theorem dX6_fitsHate_104 : decode cX6_fitsHate 104 = .ok (.iload 4, 2) := by decide +kernel
theorem dX6_fitsHate_106 : decode cX6_fitsHate 106 = .ok (.iconst 3, 1) := by decide +kernel
theorem dX6_fitsHate_107 : decode cX6_fitsHate 107 = .ok (.invokevirtual 113, 3) := by decide +kernel
theorem dX6_fitsHate_110 : decode cX6_fitsHate 110 = .ok (.iconst 1, 1) := by decide +kernel
theorem dX6_fitsHate_111 : decode cX6_fitsHate 111 = .ok (.if_icmp .ne 7, 3) := by decide +kernel
theorem dX6_fitsHate_114 : decode cX6_fitsHate 114 = .ok (.iconst 1, 1) := by decide +kernel
theorem dX6_fitsHate_115 : decode cX6_fitsHate 115 = .ok (.goto 4, 3) := by decide +kernel
theorem dX6_fitsHate_118 : decode cX6_fitsHate 118 = .ok (.iconst 0, 1) := by decide +kernel
theorem dX6_fitsHate_119 : decode cX6_fitsHate 119 = .ok (.if_icmp .eq 5, 3) := by decide +kernel
theorem dX6_fitsHate_122 : decode cX6_fitsHate 122 = .ok (.iconst 0, 1) := by decide +kernel
theorem dX6_fitsHate_123 : decode cX6_fitsHate 123 = .ok (.ireturn, 1) := by decide +kernel
theorem dX6_fitsHate_124 : decode cX6_fitsHate 124 = .ok (.iinc 4 1, 3) := by decide +kernel
theorem dX6_fitsHate_127 : decode cX6_fitsHate 127 = .ok (.goto (-114), 3) := by decide +kernel
theorem dX6_fitsHate_130 : decode cX6_fitsHate 130 = .ok (.iconst 1, 1) := by decide +kernel
theorem dX6_fitsHate_131 : decode cX6_fitsHate 131 = .ok (.ireturn, 1) := by decide +kernel
theorem dX6_fitsV_0 : decode cX6_fitsV 0 = .ok (.iconst 0, 1) := by decide +kernel
theorem dX6_fitsV_1 : decode cX6_fitsV 1 = .ok (.istore_n 3, 1) := by decide +kernel
theorem dX6_fitsV_2 : decode cX6_fitsV 2 = .ok (.iload_n 3, 1) := by decide +kernel
theorem dX6_fitsV_3 : decode cX6_fitsV 3 = .ok (.aload_n 0, 1) := by decide +kernel
theorem dX6_fitsV_4 : decode cX6_fitsV 4 = .ok (.getfield 39, 3) := by decide +kernel
theorem dX6_fitsV_7 : decode cX6_fitsV 7 = .ok (.getfield 110, 3) := by decide +kernel
theorem dX6_fitsV_10 : decode cX6_fitsV 10 = .ok (.if_icmp .ge 104, 3) := by decide +kernel
theorem dX6_fitsV_13 : decode cX6_fitsV 13 = .ok (.aload_n 0, 1) := by decide +kernel
theorem dX6_fitsV_14 : decode cX6_fitsV 14 = .ok (.getfield 39, 3) := by decide +kernel
theorem dX6_fitsV_17 : decode cX6_fitsV 17 = .ok (.iload_n 3, 1) := by decide +kernel
theorem dX6_fitsV_18 : decode cX6_fitsV 18 = .ok (.iconst 0, 1) := by decide +kernel
theorem dX6_fitsV_19 : decode cX6_fitsV 19 = .ok (.invokevirtual 113, 3) := by decide +kernel
theorem dX6_fitsV_22 : decode cX6_fitsV 22 = .ok (.iload_n 1, 1) := by decide +kernel
theorem dX6_fitsV_23 : decode cX6_fitsV 23 = .ok (.if_icmp .ne 85, 3) := by decide +kernel
theorem dX6_fitsV_26 : decode cX6_fitsV 26 = .ok (.aload_n 0, 1) := by decide +kernel
theorem dX6_fitsV_27 : decode cX6_fitsV 27 = .ok (.getfield 39, 3) := by decide +kernel
theorem dX6_fitsV_30 : decode cX6_fitsV 30 = .ok (.iload_n 3, 1) := by decide +kernel
theorem dX6_fitsV_31 : decode cX6_fitsV 31 = .ok (.iconst 1, 1) := by decide +kernel
theorem dX6_fitsV_32 : decode cX6_fitsV 32 = .ok (.invokevirtual 113, 3) := by decide +kernel
theorem dX6_fitsV_35 : decode cX6_fitsV 35 = .ok (.istore 4, 2) := by decide +kernel
theorem dX6_fitsV_37 : decode cX6_fitsV 37 = .ok (.aload_n 0, 1) := by decide +kernel
theorem dX6_fitsV_38 : decode cX6_fitsV 38 = .ok (.iload_n 1, 1) := by decide +kernel
theorem dX6_fitsV_39 : decode cX6_fitsV 39 = .ok (.iload 4, 2) := by decide +kernel
theorem dX6_fitsV_41 : decode cX6_fitsV 41 = .ok (.aload_n 0, 1) := by decide +kernel
theorem dX6_fitsV_42 : decode cX6_fitsV 42 = .ok (.getfield 93, 3) := by decide +kernel
theorem dX6_fitsV_45 : decode cX6_fitsV 45 = .ok (.aload_n 0, 1) := by decide +kernel
theorem dX6_fitsV_46 : decode cX6_fitsV 46 = .ok (.getfield 39, 3) := by decide +kernel
theorem dX6_fitsV_49 : decode cX6_fitsV 49 = .ok (.iload_n 3, 1) := by decide +kernel
theorem dX6_fitsV_50 : decode cX6_fitsV 50 = .ok (.iconst 2, 1) := by decide +kernel
theorem dX6_fitsV_51 : decode cX6_fitsV 51 = .ok (.invokevirtual 113, 3) := by decide +kernel
theorem dX6_fitsV_54 : decode cX6_fitsV 54 = .ok (.iadd, 1) := by decide +kernel
theorem dX6_fitsV_55 : decode cX6_fitsV 55 = .ok (.aload_n 0, 1) := by decide +kernel
theorem dX6_fitsV_56 : decode cX6_fitsV 56 = .ok (.iload_n 1, 1) := by decide +kernel
theorem dX6_fitsV_57 : decode cX6_fitsV 57 = .ok (.iload 4, 2) := by decide +kernel
theorem dX6_fitsV_59 : decode cX6_fitsV 59 = .ok (.invokevirtual 76, 3) := by decide +kernel
theorem dX6_fitsV_62 : decode cX6_fitsV 62 = .ok (.iload_n 2, 1) := by decide +kernel
theorem dX6_fitsV_63 : decode cX6_fitsV 63 = .ok (.invokevirtual 79, 3) := by decide +kernel
theorem dX6_fitsV_66 : decode cX6_fitsV 66 = .ok (.istore 5, 2) := by decide +kernel
theorem dX6_fitsV_68 : decode cX6_fitsV 68 = .ok (.iload 5, 2) := by decide +kernel
theorem dX6_fitsV_70 : decode cX6_fitsV 70 = .ok (.aload_n 0, 1) := by decide +kernel
theorem dX6_fitsV_71 : decode cX6_fitsV 71 = .ok (.getfield 12, 3) := by decide +kernel
theorem dX6_fitsV_74 : decode cX6_fitsV 74 = .ok (.getfield 83, 3) := by decide +kernel
theorem dX6_fitsV_77 : decode cX6_fitsV 77 = .ok (.if_icmp .lt 7, 3) := by decide +kernel
theorem dX6_fitsV_80 : decode cX6_fitsV 80 = .ok (.iconst 1, 1) := by decide +kernel
theorem dX6_fitsV_81 : decode cX6_fitsV 81 = .ok (.goto 4, 3) := by decide +kernel
theorem dX6_fitsV_84 : decode cX6_fitsV 84 = .ok (.iconst 0, 1) := by decide +kernel
theorem dX6_fitsV_85 : decode cX6_fitsV 85 = .ok (.aload_n 0, 1) := by decide +kernel
theorem dX6_fitsV_86 : decode cX6_fitsV 86 = .ok (.getfield 39, 3) := by decide +kernel
theorem dX6_fitsV_89 : decode cX6_fitsV 89 = .ok (.iload_n 3, 1) := by decide +kernel
theorem dX6_fitsV_90 : decode cX6_fitsV 90 = .ok (.iconst 3, 1) := by decide +kernel
theorem dX6_fitsV_91 : decode cX6_fitsV 91 = .ok (.invokevirtual 113, 3) := by decide +kernel
theorem dX6_fitsV_94 : decode cX6_fitsV 94 = .ok (.iconst 1, 1) := by decide +kernel
theorem dX6_fitsV_95 : decode cX6_fitsV 95 = .ok (.if_icmp .ne 7, 3) := by decide +kernel
theorem dX6_fitsV_98 : decode cX6_fitsV 98 = .ok (.iconst 1, 1) := by decide +kernel
theorem dX6_fitsV_99 : decode cX6_fitsV 99 = .ok (.goto 4, 3) := by decide +kernel
theorem dX6_fitsV_102 : decode cX6_fitsV 102 = .ok (.iconst 0, 1) := by decide +kernel
theorem dX6_fitsV_103 : decode cX6_fitsV 103 = .ok (.if_icmp .eq 5, 3) := by decide +kernel
theorem dX6_fitsV_106 : decode cX6_fitsV 106 = .ok (.iconst 0, 1) := by decide +kernel
theorem dX6_fitsV_107 : decode cX6_fitsV 107 = .ok (.ireturn, 1) := by decide +kernel
theorem dX6_fitsV_108 : decode cX6_fitsV 108 = .ok (.iinc 3 1, 3) := by decide +kernel
theorem dX6_fitsV_111 : decode cX6_fitsV 111 = .ok (.goto (-109), 3) := by decide +kernel
theorem dX6_fitsV_114 : decode cX6_fitsV 114 = .ok (.iconst 1, 1) := by decide +kernel
theorem dX6_fitsV_115 : decode cX6_fitsV 115 = .ok (.ireturn, 1) := by decide +kernel
theorem dX6_copyFrom_0 : decode cX6_copyFrom 0 = .ok (.aload_n 0, 1) := by decide +kernel
theorem dX6_copyFrom_1 : decode cX6_copyFrom 1 = .ok (.aload_n 1, 1) := by decide +kernel
theorem dX6_copyFrom_2 : decode cX6_copyFrom 2 = .ok (.getfield 52, 3) := by decide +kernel
theorem dX6_copyFrom_5 : decode cX6_copyFrom 5 = .ok (.putfield 52, 3) := by decide +kernel
theorem dX6_copyFrom_8 : decode cX6_copyFrom 8 = .ok (.aload_n 0, 1) := by decide +kernel
theorem dX6_copyFrom_9 : decode cX6_copyFrom 9 = .ok (.aload_n 1, 1) := by decide +kernel
theorem dX6_copyFrom_10 : decode cX6_copyFrom 10 = .ok (.getfield 93, 3) := by decide +kernel
theorem dX6_copyFrom_13 : decode cX6_copyFrom 13 = .ok (.putfield 93, 3) := by decide +kernel
theorem dX6_copyFrom_16 : decode cX6_copyFrom 16 = .ok (.aload_n 0, 1) := by decide +kernel
theorem dX6_copyFrom_17 : decode cX6_copyFrom 17 = .ok (.aload_n 1, 1) := by decide +kernel
theorem dX6_copyFrom_18 : decode cX6_copyFrom 18 = .ok (.getfield 60, 3) := by decide +kernel
theorem dX6_copyFrom_21 : decode cX6_copyFrom 21 = .ok (.putfield 60, 3) := by decide +kernel
theorem dX6_copyFrom_24 : decode cX6_copyFrom 24 = .ok (.aload_n 0, 1) := by decide +kernel
theorem dX6_copyFrom_25 : decode cX6_copyFrom 25 = .ok (.aload_n 1, 1) := by decide +kernel
theorem dX6_copyFrom_26 : decode cX6_copyFrom 26 = .ok (.getfield 90, 3) := by decide +kernel
theorem dX6_copyFrom_29 : decode cX6_copyFrom 29 = .ok (.putfield 90, 3) := by decide +kernel
theorem dX6_copyFrom_32 : decode cX6_copyFrom 32 = .ok (.aload_n 0, 1) := by decide +kernel
theorem dX6_copyFrom_33 : decode cX6_copyFrom 33 = .ok (.aload_n 1, 1) := by decide +kernel
theorem dX6_copyFrom_34 : decode cX6_copyFrom 34 = .ok (.getfield 12, 3) := by decide +kernel
theorem dX6_copyFrom_37 : decode cX6_copyFrom 37 = .ok (.putfield 12, 3) := by decide +kernel
theorem dX6_copyFrom_40 : decode cX6_copyFrom 40 = .ok (.aload_n 1, 1) := by decide +kernel
theorem dX6_copyFrom_41 : decode cX6_copyFrom 41 = .ok (.getfield 18, 3) := by decide +kernel
theorem dX6_copyFrom_44 : decode cX6_copyFrom 44 = .ok (.iconst 0, 1) := by decide +kernel
theorem dX6_copyFrom_45 : decode cX6_copyFrom 45 = .ok (.aload_n 0, 1) := by decide +kernel
theorem dX6_copyFrom_46 : decode cX6_copyFrom 46 = .ok (.getfield 18, 3) := by decide +kernel
theorem dX6_copyFrom_49 : decode cX6_copyFrom 49 = .ok (.iconst 0, 1) := by decide +kernel
theorem dX6_copyFrom_50 : decode cX6_copyFrom 50 = .ok (.bipush 6, 2) := by decide +kernel
theorem dX6_copyFrom_52 : decode cX6_copyFrom 52 = .ok (.invokestatic 116, 3) := by decide +kernel
theorem dX6_copyFrom_55 : decode cX6_copyFrom 55 = .ok (.aload_n 1, 1) := by decide +kernel
theorem dX6_copyFrom_56 : decode cX6_copyFrom 56 = .ok (.getfield 22, 3) := by decide +kernel
theorem dX6_copyFrom_59 : decode cX6_copyFrom 59 = .ok (.iconst 0, 1) := by decide +kernel
theorem dX6_copyFrom_60 : decode cX6_copyFrom 60 = .ok (.aload_n 0, 1) := by decide +kernel
theorem dX6_copyFrom_61 : decode cX6_copyFrom 61 = .ok (.getfield 22, 3) := by decide +kernel
theorem dX6_copyFrom_64 : decode cX6_copyFrom 64 = .ok (.iconst 0, 1) := by decide +kernel
theorem dX6_copyFrom_65 : decode cX6_copyFrom 65 = .ok (.bipush 6, 2) := by decide +kernel
theorem dX6_copyFrom_67 : decode cX6_copyFrom 67 = .ok (.invokestatic 116, 3) := by decide +kernel
theorem dX6_copyFrom_70 : decode cX6_copyFrom 70 = .ok (.aload_n 1, 1) := by decide +kernel
theorem dX6_copyFrom_71 : decode cX6_copyFrom 71 = .ok (.getfield 25, 3) := by decide +kernel
theorem dX6_copyFrom_74 : decode cX6_copyFrom 74 = .ok (.iconst 0, 1) := by decide +kernel
theorem dX6_copyFrom_75 : decode cX6_copyFrom 75 = .ok (.aload_n 0, 1) := by decide +kernel
theorem dX6_copyFrom_76 : decode cX6_copyFrom 76 = .ok (.getfield 25, 3) := by decide +kernel
theorem dX6_copyFrom_79 : decode cX6_copyFrom 79 = .ok (.iconst 0, 1) := by decide +kernel
theorem dX6_copyFrom_80 : decode cX6_copyFrom 80 = .ok (.bipush 6, 2) := by decide +kernel
theorem dX6_copyFrom_82 : decode cX6_copyFrom 82 = .ok (.invokestatic 116, 3) := by decide +kernel
theorem dX6_copyFrom_85 : decode cX6_copyFrom 85 = .ok (.aload_n 1, 1) := by decide +kernel
theorem dX6_copyFrom_86 : decode cX6_copyFrom 86 = .ok (.getfield 28, 3) := by decide +kernel
theorem dX6_copyFrom_89 : decode cX6_copyFrom 89 = .ok (.iconst 0, 1) := by decide +kernel
theorem dX6_copyFrom_90 : decode cX6_copyFrom 90 = .ok (.aload_n 0, 1) := by decide +kernel
theorem dX6_copyFrom_91 : decode cX6_copyFrom 91 = .ok (.getfield 28, 3) := by decide +kernel
theorem dX6_copyFrom_94 : decode cX6_copyFrom 94 = .ok (.iconst 0, 1) := by decide +kernel
theorem dX6_copyFrom_95 : decode cX6_copyFrom 95 = .ok (.bipush 36, 2) := by decide +kernel
theorem dX6_copyFrom_97 : decode cX6_copyFrom 97 = .ok (.invokestatic 116, 3) := by decide +kernel
theorem dX6_copyFrom_100 : decode cX6_copyFrom 100 = .ok (.aload_n 1, 1) := by decide +kernel
theorem dX6_copyFrom_101 : decode cX6_copyFrom 101 = .ok (.getfield 31, 3) := by decide +kernel
theorem dX6_copyFrom_104 : decode cX6_copyFrom 104 = .ok (.iconst 0, 1) := by decide +kernel
theorem dX6_copyFrom_105 : decode cX6_copyFrom 105 = .ok (.aload_n 0, 1) := by decide +kernel
theorem dX6_copyFrom_106 : decode cX6_copyFrom 106 = .ok (.getfield 31, 3) := by decide +kernel
theorem dX6_copyFrom_109 : decode cX6_copyFrom 109 = .ok (.iconst 0, 1) := by decide +kernel
theorem dX6_copyFrom_110 : decode cX6_copyFrom 110 = .ok (.bipush 24, 2) := by decide +kernel
theorem dX6_copyFrom_112 : decode cX6_copyFrom 112 = .ok (.invokestatic 116, 3) := by decide +kernel
theorem dX6_copyFrom_115 : decode cX6_copyFrom 115 = .ok (.aload_n 0, 1) := by decide +kernel
theorem dX6_copyFrom_116 : decode cX6_copyFrom 116 = .ok (.getfield 39, 3) := by decide +kernel
theorem dX6_copyFrom_119 : decode cX6_copyFrom 119 = .ok (.aload_n 1, 1) := by decide +kernel
theorem dX6_copyFrom_120 : decode cX6_copyFrom 120 = .ok (.getfield 39, 3) := by decide +kernel
theorem dX6_copyFrom_123 : decode cX6_copyFrom 123 = .ok (.invokevirtual 122, 3) := by decide +kernel
theorem dX6_copyFrom_126 : decode cX6_copyFrom 126 = .ok (.aload_n 0, 1) := by decide +kernel
theorem dX6_copyFrom_127 : decode cX6_copyFrom 127 = .ok (.getfield 43, 3) := by decide +kernel
theorem dX6_copyFrom_130 : decode cX6_copyFrom 130 = .ok (.aload_n 1, 1) := by decide +kernel
theorem dX6_copyFrom_131 : decode cX6_copyFrom 131 = .ok (.getfield 43, 3) := by decide +kernel
theorem dX6_copyFrom_134 : decode cX6_copyFrom 134 = .ok (.invokevirtual 122, 3) := by decide +kernel
theorem dX6_copyFrom_137 : decode cX6_copyFrom 137 = .ok (.aload_n 0, 1) := by decide +kernel
theorem dX6_copyFrom_138 : decode cX6_copyFrom 138 = .ok (.getfield 46, 3) := by decide +kernel
theorem dX6_copyFrom_141 : decode cX6_copyFrom 141 = .ok (.aload_n 1, 1) := by decide +kernel
theorem dX6_copyFrom_142 : decode cX6_copyFrom 142 = .ok (.getfield 46, 3) := by decide +kernel
theorem dX6_copyFrom_145 : decode cX6_copyFrom 145 = .ok (.invokevirtual 122, 3) := by decide +kernel
theorem dX6_copyFrom_148 : decode cX6_copyFrom 148 = .ok (.return_, 1) := by decide +kernel
theorem dX7_init_0 : decode cX7_init 0 = .ok (.aload_n 0, 1) := by decide +kernel
theorem dX7_init_1 : decode cX7_init 1 = .ok (.invokespecial 5, 3) := by decide +kernel
theorem dX7_init_4 : decode cX7_init 4 = .ok (.aload_n 0, 1) := by decide +kernel
theorem dX7_init_5 : decode cX7_init 5 = .ok (.new 11, 3) := by decide +kernel
theorem dX7_init_8 : decode cX7_init 8 = .ok (.dup, 1) := by decide +kernel
theorem dX7_init_9 : decode cX7_init 9 = .ok (.invokespecial 13, 3) := by decide +kernel
theorem dX7_init_12 : decode cX7_init 12 = .ok (.putfield 14, 3) := by decide +kernel
theorem dX7_init_15 : decode cX7_init 15 = .ok (.aload_n 0, 1) := by decide +kernel
theorem dX7_init_16 : decode cX7_init 16 = .ok (.new 11, 3) := by decide +kernel
theorem dX7_init_19 : decode cX7_init 19 = .ok (.dup, 1) := by decide +kernel
theorem dX7_init_20 : decode cX7_init 20 = .ok (.invokespecial 13, 3) := by decide +kernel
theorem dX7_init_23 : decode cX7_init 23 = .ok (.putfield 18, 3) := by decide +kernel
theorem dX7_init_26 : decode cX7_init 26 = .ok (.aload_n 0, 1) := by decide +kernel
theorem dX7_init_27 : decode cX7_init 27 = .ok (.new 11, 3) := by decide +kernel
theorem dX7_init_30 : decode cX7_init 30 = .ok (.dup, 1) := by decide +kernel
theorem dX7_init_31 : decode cX7_init 31 = .ok (.invokespecial 13, 3) := by decide +kernel
theorem dX7_init_34 : decode cX7_init 34 = .ok (.putfield 21, 3) := by decide +kernel
theorem dX7_init_37 : decode cX7_init 37 = .ok (.aload_n 0, 1) := by decide +kernel
theorem dX7_init_38 : decode cX7_init 38 = .ok (.new 24, 3) := by decide +kernel
theorem dX7_init_41 : decode cX7_init 41 = .ok (.dup, 1) := by decide +kernel
theorem dX7_init_42 : decode cX7_init 42 = .ok (.invokespecial 26, 3) := by decide +kernel
theorem dX7_init_45 : decode cX7_init 45 = .ok (.putfield 27, 3) := by decide +kernel
theorem dX7_init_48 : decode cX7_init 48 = .ok (.aload_n 0, 1) := by decide +kernel
theorem dX7_init_49 : decode cX7_init 49 = .ok (.bipush 6, 2) := by decide +kernel
theorem dX7_init_51 : decode cX7_init 51 = .ok (.anewarray 31, 3) := by decide +kernel
theorem dX7_init_54 : decode cX7_init 54 = .ok (.putfield 33, 3) := by decide +kernel
theorem dX7_init_57 : decode cX7_init 57 = .ok (.aload_n 0, 1) := by decide +kernel
theorem dX7_init_58 : decode cX7_init 58 = .ok (.new 37, 3) := by decide +kernel
theorem dX7_init_61 : decode cX7_init 61 = .ok (.dup, 1) := by decide +kernel
theorem dX7_init_62 : decode cX7_init 62 = .ok (.invokespecial 39, 3) := by decide +kernel
theorem dX7_init_65 : decode cX7_init 65 = .ok (.putfield 40, 3) := by decide +kernel
theorem dX7_init_68 : decode cX7_init 68 = .ok (.aload_n 0, 1) := by decide +kernel
theorem dX7_init_69 : decode cX7_init 69 = .ok (.new 44, 3) := by decide +kernel
theorem dX7_init_72 : decode cX7_init 72 = .ok (.dup, 1) := by decide +kernel
theorem dX7_init_73 : decode cX7_init 73 = .ok (.invokespecial 46, 3) := by decide +kernel
theorem dX7_init_76 : decode cX7_init 76 = .ok (.putfield 47, 3) := by decide +kernel
theorem dX7_init_79 : decode cX7_init 79 = .ok (.aload_n 0, 1) := by decide +kernel
theorem dX7_init_80 : decode cX7_init 80 = .ok (.bipush 6, 2) := by decide +kernel
theorem dX7_init_82 : decode cX7_init 82 = .ok (.anewarray 51, 3) := by decide +kernel
theorem dX7_init_85 : decode cX7_init 85 = .ok (.putfield 53, 3) := by decide +kernel
theorem dX7_init_88 : decode cX7_init 88 = .ok (.iconst 0, 1) := by decide +kernel
theorem dX7_init_89 : decode cX7_init 89 = .ok (.istore_n 1, 1) := by decide +kernel
theorem dX7_init_90 : decode cX7_init 90 = .ok (.iload_n 1, 1) := by decide +kernel
theorem dX7_init_91 : decode cX7_init 91 = .ok (.bipush 6, 2) := by decide +kernel
theorem dX7_init_93 : decode cX7_init 93 = .ok (.if_icmp .ge 22, 3) := by decide +kernel
theorem dX7_init_96 : decode cX7_init 96 = .ok (.aload_n 0, 1) := by decide +kernel
theorem dX7_init_97 : decode cX7_init 97 = .ok (.getfield 33, 3) := by decide +kernel
theorem dX7_init_100 : decode cX7_init 100 = .ok (.iload_n 1, 1) := by decide +kernel
theorem dX7_init_101 : decode cX7_init 101 = .ok (.new 31, 3) := by decide +kernel
theorem dX7_init_104 : decode cX7_init 104 = .ok (.dup, 1) := by decide +kernel
theorem dX7_init_105 : decode cX7_init 105 = .ok (.invokespecial 57, 3) := by decide +kernel
theorem dX7_init_108 : decode cX7_init 108 = .ok (.aastore, 1) := by decide +kernel
theorem dX7_init_109 : decode cX7_init 109 = .ok (.iinc 1 1, 3) := by decide +kernel
theorem dX7_init_112 : decode cX7_init 112 = .ok (.goto (-22), 3) := by decide +kernel
theorem dX7_init_115 : decode cX7_init 115 = .ok (.iconst 0, 1) := by decide +kernel
theorem dX7_init_116 : decode cX7_init 116 = .ok (.istore_n 1, 1) := by decide +kernel
theorem dX7_init_117 : decode cX7_init 117 = .ok (.iload_n 1, 1) := by decide +kernel
theorem dX7_init_118 : decode cX7_init 118 = .ok (.bipush 6, 2) := by decide +kernel
theorem dX7_init_120 : decode cX7_init 120 = .ok (.if_icmp .ge 22, 3) := by decide +kernel
theorem dX7_init_123 : decode cX7_init 123 = .ok (.aload_n 0, 1) := by decide +kernel
theorem dX7_init_124 : decode cX7_init 124 = .ok (.getfield 53, 3) := by decide +kernel
theorem dX7_init_127 : decode cX7_init 127 = .ok (.iload_n 1, 1) := by decide +kernel
theorem dX7_init_128 : decode cX7_init 128 = .ok (.new 51, 3) := by decide +kernel
theorem dX7_init_131 : decode cX7_init 131 = .ok (.dup, 1) := by decide +kernel
theorem dX7_init_132 : decode cX7_init 132 = .ok (.invokespecial 58, 3) := by decide +kernel
theorem dX7_init_135 : decode cX7_init 135 = .ok (.aastore, 1) := by decide +kernel
theorem dX7_init_136 : decode cX7_init 136 = .ok (.iinc 1 1, 3) := by decide +kernel
theorem dX7_init_139 : decode cX7_init 139 = .ok (.goto (-22), 3) := by decide +kernel
theorem dX7_init_142 : decode cX7_init 142 = .ok (.return_, 1) := by decide +kernel
theorem dX7_one_0 : decode cX7_one 0 = .ok (.iload_n 1, 1) := by decide +kernel
theorem dX7_one_1 : decode cX7_one 1 = .ok (.ifCond .lt 9, 3) := by decide +kernel
theorem dX7_one_4 : decode cX7_one 4 = .ok (.iload_n 1, 1) := by decide +kernel
theorem dX7_one_5 : decode cX7_one 5 = .ok (.bipush 7, 2) := by decide +kernel
theorem dX7_one_7 : decode cX7_one 7 = .ok (.if_icmp .lt 5, 3) := by decide +kernel
theorem dX7_one_10 : decode cX7_one 10 = .ok (.iconst (-1), 1) := by decide +kernel
theorem dX7_one_11 : decode cX7_one 11 = .ok (.ireturn, 1) := by decide +kernel
theorem dX7_one_12 : decode cX7_one 12 = .ok (.iload_n 2, 1) := by decide +kernel
theorem dX7_one_13 : decode cX7_one 13 = .ok (.ifCond .lt 9, 3) := by decide +kernel
theorem dX7_one_16 : decode cX7_one 16 = .ok (.iload_n 2, 1) := by decide +kernel
theorem dX7_one_17 : decode cX7_one 17 = .ok (.bipush 9, 2) := by decide +kernel
theorem dX7_one_19 : decode cX7_one 19 = .ok (.if_icmp .le 6, 3) := by decide +kernel
theorem dX7_one_22 : decode cX7_one 22 = .ok (.bipush (-2), 2) := by decide +kernel
theorem dX7_one_24 : decode cX7_one 24 = .ok (.ireturn, 1) := by decide +kernel
theorem dX7_one_25 : decode cX7_one 25 = .ok (.aload_n 0, 1) := by decide +kernel
theorem dX7_one_26 : decode cX7_one 26 = .ok (.getfield 14, 3) := by decide +kernel
theorem dX7_one_29 : decode cX7_one 29 = .ok (.iload_n 1, 1) := by decide +kernel
theorem dX7_one_30 : decode cX7_one 30 = .ok (.iload_n 2, 1) := by decide +kernel
theorem dX7_one_31 : decode cX7_one 31 = .ok (.invokevirtual 59, 3) := by decide +kernel
theorem dX7_one_34 : decode cX7_one 34 = .ok (.ireturn, 1) := by decide +kernel
theorem dX7_of_0 : decode cX7_of 0 = .ok (.aload_n 0, 1) := by decide +kernel
theorem dX7_of_1 : decode cX7_of 1 = .ok (.getfield 14, 3) := by decide +kernel
theorem dX7_of_4 : decode cX7_of 4 = .ok (.iload_n 1, 1) := by decide +kernel
theorem dX7_of_5 : decode cX7_of 5 = .ok (.invokevirtual 63, 3) := by decide +kernel
theorem dX7_of_8 : decode cX7_of 8 = .ok (.ifCond .ne 5, 3) := by decide +kernel
theorem dX7_of_11 : decode cX7_of 11 = .ok (.iconst (-1), 1) := by decide +kernel
theorem dX7_of_12 : decode cX7_of 12 = .ok (.ireturn, 1) := by decide +kernel
theorem dX7_of_13 : decode cX7_of 13 = .ok (.iload_n 2, 1) := by decide +kernel
theorem dX7_of_14 : decode cX7_of 14 = .ok (.tableswitch 118 0 6 #[42, 52, 62, 74, 86, 96, 112], 42) := by decide +kernel
theorem dX7_of_56 : decode cX7_of 56 = .ok (.aload_n 0, 1) := by decide +kernel
theorem dX7_of_57 : decode cX7_of 57 = .ok (.getfield 14, 3) := by decide +kernel
theorem dX7_of_60 : decode cX7_of 60 = .ok (.getfield 67, 3) := by decide +kernel
theorem dX7_of_63 : decode cX7_of 63 = .ok (.iload_n 1, 1) := by decide +kernel
theorem dX7_of_64 : decode cX7_of 64 = .ok (.iaload, 1) := by decide +kernel
theorem dX7_of_65 : decode cX7_of 65 = .ok (.ireturn, 1) := by decide +kernel
theorem dX7_of_66 : decode cX7_of 66 = .ok (.aload_n 0, 1) := by decide +kernel
theorem dX7_of_67 : decode cX7_of 67 = .ok (.getfield 14, 3) := by decide +kernel
theorem dX7_of_70 : decode cX7_of 70 = .ok (.getfield 71, 3) := by decide +kernel
theorem dX7_of_73 : decode cX7_of 73 = .ok (.iload_n 1, 1) := by decide +kernel
theorem dX7_of_74 : decode cX7_of 74 = .ok (.iaload, 1) := by decide +kernel
theorem dX7_of_75 : decode cX7_of 75 = .ok (.ireturn, 1) := by decide +kernel
theorem dX7_of_76 : decode cX7_of 76 = .ok (.aload_n 0, 1) := by decide +kernel
theorem dX7_of_77 : decode cX7_of 77 = .ok (.getfield 14, 3) := by decide +kernel
theorem dX7_of_80 : decode cX7_of 80 = .ok (.getfield 74, 3) := by decide +kernel
theorem dX7_of_83 : decode cX7_of 83 = .ok (.iload_n 1, 1) := by decide +kernel
theorem dX7_of_84 : decode cX7_of 84 = .ok (.invokestatic 78, 3) := by decide +kernel
theorem dX7_of_87 : decode cX7_of 87 = .ok (.ireturn, 1) := by decide +kernel
theorem dX7_of_88 : decode cX7_of 88 = .ok (.aload_n 0, 1) := by decide +kernel
theorem dX7_of_89 : decode cX7_of 89 = .ok (.getfield 14, 3) := by decide +kernel
theorem dX7_of_92 : decode cX7_of 92 = .ok (.getfield 81, 3) := by decide +kernel
theorem dX7_of_95 : decode cX7_of 95 = .ok (.iload_n 1, 1) := by decide +kernel
theorem dX7_of_96 : decode cX7_of 96 = .ok (.invokestatic 78, 3) := by decide +kernel
theorem dX7_of_99 : decode cX7_of 99 = .ok (.ireturn, 1) := by decide +kernel
theorem dX7_of_100 : decode cX7_of 100 = .ok (.aload_n 0, 1) := by decide +kernel
theorem dX7_of_101 : decode cX7_of 101 = .ok (.getfield 14, 3) := by decide +kernel
theorem dX7_of_104 : decode cX7_of 104 = .ok (.getfield 84, 3) := by decide +kernel
theorem dX7_of_107 : decode cX7_of 107 = .ok (.iload_n 1, 1) := by decide +kernel
theorem dX7_of_108 : decode cX7_of 108 = .ok (.iaload, 1) := by decide +kernel
theorem dX7_of_109 : decode cX7_of 109 = .ok (.ireturn, 1) := by decide +kernel
theorem dX7_of_110 : decode cX7_of 110 = .ok (.aload_n 0, 1) := by decide +kernel
theorem dX7_of_111 : decode cX7_of 111 = .ok (.getfield 14, 3) := by decide +kernel
theorem dX7_of_114 : decode cX7_of 114 = .ok (.iload_n 1, 1) := by decide +kernel
theorem dX7_of_115 : decode cX7_of 115 = .ok (.aload_n 0, 1) := by decide +kernel
theorem dX7_of_116 : decode cX7_of 116 = .ok (.getfield 14, 3) := by decide +kernel
theorem dX7_of_119 : decode cX7_of 119 = .ok (.getfield 87, 3) := by decide +kernel
theorem dX7_of_122 : decode cX7_of 122 = .ok (.invokevirtual 90, 3) := by decide +kernel
theorem dX7_of_125 : decode cX7_of 125 = .ok (.ireturn, 1) := by decide +kernel
theorem dX7_of_126 : decode cX7_of 126 = .ok (.aload_n 0, 1) := by decide +kernel
theorem dX7_of_127 : decode cX7_of 127 = .ok (.iload_n 1, 1) := by decide +kernel
theorem dX7_of_128 : decode cX7_of 128 = .ok (.invokevirtual 93, 3) := by decide +kernel
theorem dX7_of_131 : decode cX7_of 131 = .ok (.ireturn, 1) := by decide +kernel
theorem dX7_of_132 : decode cX7_of 132 = .ok (.iconst (-1), 1) := by decide +kernel
theorem dX7_of_133 : decode cX7_of 133 = .ok (.ireturn, 1) := by decide +kernel
theorem dX7_hate_0 : decode cX7_hate 0 = .ok (.aload_n 0, 1) := by decide +kernel
theorem dX7_hate_1 : decode cX7_hate 1 = .ok (.getfield 14, 3) := by decide +kernel
theorem dX7_hate_4 : decode cX7_hate 4 = .ok (.iload_n 1, 1) := by decide +kernel
theorem dX7_hate_5 : decode cX7_hate 5 = .ok (.invokevirtual 63, 3) := by decide +kernel
theorem dX7_hate_8 : decode cX7_hate 8 = .ok (.ifCond .eq 14, 3) := by decide +kernel
theorem dX7_hate_11 : decode cX7_hate 11 = .ok (.aload_n 0, 1) := by decide +kernel
theorem dX7_hate_12 : decode cX7_hate 12 = .ok (.getfield 14, 3) := by decide +kernel
theorem dX7_hate_15 : decode cX7_hate 15 = .ok (.iload_n 2, 1) := by decide +kernel
theorem dX7_hate_16 : decode cX7_hate 16 = .ok (.invokevirtual 63, 3) := by decide +kernel
theorem dX7_hate_19 : decode cX7_hate 19 = .ok (.ifCond .ne 5, 3) := by decide +kernel
theorem dX7_hate_22 : decode cX7_hate 22 = .ok (.iconst (-1), 1) := by decide +kernel
theorem dX7_hate_23 : decode cX7_hate 23 = .ok (.ireturn, 1) := by decide +kernel
theorem dX7_hate_24 : decode cX7_hate 24 = .ok (.iload_n 1, 1) := by decide +kernel
theorem dX7_hate_25 : decode cX7_hate 25 = .ok (.iload_n 2, 1) := by decide +kernel
theorem dX7_hate_26 : decode cX7_hate 26 = .ok (.if_icmp .eq 13, 3) := by decide +kernel
theorem dX7_hate_29 : decode cX7_hate 29 = .ok (.iload_n 3, 1) := by decide +kernel
theorem dX7_hate_30 : decode cX7_hate 30 = .ok (.ifCond .lt 9, 3) := by decide +kernel
theorem dX7_hate_33 : decode cX7_hate 33 = .ok (.iload_n 3, 1) := by decide +kernel
theorem dX7_hate_34 : decode cX7_hate 34 = .ok (.bipush 99, 2) := by decide +kernel
theorem dX7_hate_36 : decode cX7_hate 36 = .ok (.if_icmp .le 6, 3) := by decide +kernel
theorem dX7_hate_39 : decode cX7_hate 39 = .ok (.bipush (-2), 2) := by decide +kernel
theorem dX7_hate_41 : decode cX7_hate 41 = .ok (.ireturn, 1) := by decide +kernel
theorem dX7_hate_42 : decode cX7_hate 42 = .ok (.aload_n 0, 1) := by decide +kernel
theorem dX7_hate_43 : decode cX7_hate 43 = .ok (.getfield 14, 3) := by decide +kernel
theorem dX7_hate_46 : decode cX7_hate 46 = .ok (.iload_n 1, 1) := by decide +kernel
theorem dX7_hate_47 : decode cX7_hate 47 = .ok (.iload_n 2, 1) := by decide +kernel
theorem dX7_hate_48 : decode cX7_hate 48 = .ok (.invokevirtual 97, 3) := by decide +kernel
theorem dX7_hate_51 : decode cX7_hate 51 = .ok (.istore 4, 2) := by decide +kernel
theorem dX7_hate_53 : decode cX7_hate 53 = .ok (.aload_n 0, 1) := by decide +kernel
theorem dX7_hate_54 : decode cX7_hate 54 = .ok (.getfield 14, 3) := by decide +kernel
theorem dX7_hate_57 : decode cX7_hate 57 = .ok (.iload_n 1, 1) := by decide +kernel
theorem dX7_hate_58 : decode cX7_hate 58 = .ok (.iload_n 2, 1) := by decide +kernel
theorem dX7_hate_59 : decode cX7_hate 59 = .ok (.iload_n 3, 1) := by decide +kernel
theorem dX7_hate_60 : decode cX7_hate 60 = .ok (.invokevirtual 100, 3) := by decide +kernel
theorem dX7_hate_63 : decode cX7_hate 63 = .ok (.iload 4, 2) := by decide +kernel
theorem dX7_hate_65 : decode cX7_hate 65 = .ok (.ireturn, 1) := by decide +kernel
theorem dX7_between_0 : decode cX7_between 0 = .ok (.aload_n 0, 1) := by decide +kernel
theorem dX7_between_1 : decode cX7_between 1 = .ok (.getfield 14, 3) := by decide +kernel
theorem dX7_between_4 : decode cX7_between 4 = .ok (.iload_n 1, 1) := by decide +kernel
theorem dX7_between_5 : decode cX7_between 5 = .ok (.invokevirtual 63, 3) := by decide +kernel
theorem dX7_between_8 : decode cX7_between 8 = .ok (.ifCond .eq 23, 3) := by decide +kernel
theorem dX7_between_11 : decode cX7_between 11 = .ok (.aload_n 0, 1) := by decide +kernel
theorem dX7_between_12 : decode cX7_between 12 = .ok (.getfield 14, 3) := by decide +kernel
theorem dX7_between_15 : decode cX7_between 15 = .ok (.iload_n 2, 1) := by decide +kernel
theorem dX7_between_16 : decode cX7_between 16 = .ok (.invokevirtual 63, 3) := by decide +kernel
theorem dX7_between_19 : decode cX7_between 19 = .ok (.ifCond .eq 12, 3) := by decide +kernel
theorem dX7_between_22 : decode cX7_between 22 = .ok (.iload_n 3, 1) := by decide +kernel
theorem dX7_between_23 : decode cX7_between 23 = .ok (.ifCond .lt 8, 3) := by decide +kernel
theorem dX7_between_26 : decode cX7_between 26 = .ok (.iload_n 3, 1) := by decide +kernel
theorem dX7_between_27 : decode cX7_between 27 = .ok (.iconst 3, 1) := by decide +kernel
theorem dX7_between_28 : decode cX7_between 28 = .ok (.if_icmp .le 7, 3) := by decide +kernel
theorem dX7_between_31 : decode cX7_between 31 = .ok (.sipush (-10001), 3) := by decide +kernel
theorem dX7_between_34 : decode cX7_between 34 = .ok (.ireturn, 1) := by decide +kernel
theorem dX7_between_35 : decode cX7_between 35 = .ok (.iload_n 1, 1) := by decide +kernel
theorem dX7_between_36 : decode cX7_between 36 = .ok (.iload_n 2, 1) := by decide +kernel
theorem dX7_between_37 : decode cX7_between 37 = .ok (.if_icmp .ne 7, 3) := by decide +kernel
theorem dX7_between_40 : decode cX7_between 40 = .ok (.sipush (-10002), 3) := by decide +kernel
theorem dX7_between_43 : decode cX7_between 43 = .ok (.ireturn, 1) := by decide +kernel
theorem dX7_between_44 : decode cX7_between 44 = .ok (.iload_n 3, 1) := by decide +kernel
theorem dX7_between_45 : decode cX7_between 45 = .ok (.tableswitch 97 0 2 #[27, 37, 72], 27) := by decide +kernel
theorem dX7_between_72 : decode cX7_between 72 = .ok (.aload_n 0, 1) := by decide +kernel
theorem dX7_between_73 : decode cX7_between 73 = .ok (.getfield 14, 3) := by decide +kernel
theorem dX7_between_76 : decode cX7_between 76 = .ok (.iload_n 1, 1) := by decide +kernel
theorem dX7_between_77 : decode cX7_between 77 = .ok (.iload_n 2, 1) := by decide +kernel
theorem dX7_between_78 : decode cX7_between 78 = .ok (.invokevirtual 97, 3) := by decide +kernel
theorem dX7_between_81 : decode cX7_between 81 = .ok (.ireturn, 1) := by decide +kernel
theorem dX7_between_82 : decode cX7_between 82 = .ok (.aload_n 0, 1) := by decide +kernel
theorem dX7_between_83 : decode cX7_between 83 = .ok (.getfield 14, 3) := by decide +kernel
theorem dX7_between_86 : decode cX7_between 86 = .ok (.iload_n 1, 1) := by decide +kernel
theorem dX7_between_87 : decode cX7_between 87 = .ok (.iload_n 2, 1) := by decide +kernel
theorem dX7_between_88 : decode cX7_between 88 = .ok (.aload_n 0, 1) := by decide +kernel
theorem dX7_between_89 : decode cX7_between 89 = .ok (.getfield 14, 3) := by decide +kernel
theorem dX7_between_92 : decode cX7_between 92 = .ok (.getfield 87, 3) := by decide +kernel
theorem dX7_between_95 : decode cX7_between 95 = .ok (.aload_n 0, 1) := by decide +kernel
theorem dX7_between_96 : decode cX7_between 96 = .ok (.getfield 14, 3) := by decide +kernel
theorem dX7_between_99 : decode cX7_between 99 = .ok (.iload_n 1, 1) := by decide +kernel
theorem dX7_between_100 : decode cX7_between 100 = .ok (.iload_n 2, 1) := by decide +kernel
theorem dX7_between_101 : decode cX7_between 101 = .ok (.invokevirtual 97, 3) := by decide +kernel
theorem dX7_between_104 : decode cX7_between 104 = .ok (.aload_n 0, 1) := by decide +kernel
theorem dX7_between_105 : decode cX7_between 105 = .ok (.getfield 14, 3) := by decide +kernel
theorem dX7_between_108 : decode cX7_between 108 = .ok (.getfield 71, 3) := by decide +kernel
theorem dX7_between_111 : decode cX7_between 111 = .ok (.iload_n 1, 1) := by decide +kernel
theorem dX7_between_112 : decode cX7_between 112 = .ok (.iaload, 1) := by decide +kernel
theorem dX7_between_113 : decode cX7_between 113 = .ok (.invokevirtual 104, 3) := by decide +kernel
theorem dX7_between_116 : decode cX7_between 116 = .ok (.ireturn, 1) := by decide +kernel
theorem dX7_between_117 : decode cX7_between 117 = .ok (.aload_n 0, 1) := by decide +kernel
theorem dX7_between_118 : decode cX7_between 118 = .ok (.getfield 14, 3) := by decide +kernel
theorem dX7_between_121 : decode cX7_between 121 = .ok (.iload_n 1, 1) := by decide +kernel
theorem dX7_between_122 : decode cX7_between 122 = .ok (.iload_n 2, 1) := by decide +kernel
theorem dX7_between_123 : decode cX7_between 123 = .ok (.aload_n 0, 1) := by decide +kernel
theorem dX7_between_124 : decode cX7_between 124 = .ok (.getfield 14, 3) := by decide +kernel
theorem dX7_between_127 : decode cX7_between 127 = .ok (.getfield 87, 3) := by decide +kernel
theorem dX7_between_130 : decode cX7_between 130 = .ok (.invokevirtual 108, 3) := by decide +kernel
theorem dX7_between_133 : decode cX7_between 133 = .ok (.ifCond .eq 7, 3) := by decide +kernel
theorem dX7_between_136 : decode cX7_between 136 = .ok (.iconst 1, 1) := by decide +kernel
theorem dX7_between_137 : decode cX7_between 137 = .ok (.goto 4, 3) := by decide +kernel
theorem dX7_between_140 : decode cX7_between 140 = .ok (.iconst 0, 1) := by decide +kernel
theorem dX7_between_141 : decode cX7_between 141 = .ok (.ireturn, 1) := by decide +kernel
theorem dX7_between_142 : decode cX7_between 142 = .ok (.aload_n 0, 1) := by decide +kernel
theorem dX7_between_143 : decode cX7_between 143 = .ok (.iload_n 1, 1) := by decide +kernel
theorem dX7_between_144 : decode cX7_between 144 = .ok (.iload_n 2, 1) := by decide +kernel
theorem dX7_between_145 : decode cX7_between 145 = .ok (.invokevirtual 112, 3) := by decide +kernel
theorem dX7_between_148 : decode cX7_between 148 = .ok (.ireturn, 1) := by decide +kernel
theorem dX7_die_0 : decode cX7_die 0 = .ok (.aload_n 0, 1) := by decide +kernel
theorem dX7_die_1 : decode cX7_die 1 = .ok (.getfield 14, 3) := by decide +kernel
theorem dX7_die_4 : decode cX7_die 4 = .ok (.iload_n 1, 1) := by decide +kernel
theorem dX7_die_5 : decode cX7_die 5 = .ok (.invokevirtual 63, 3) := by decide +kernel
theorem dX7_die_8 : decode cX7_die 8 = .ok (.ifCond .ne 5, 3) := by decide +kernel
theorem dX7_die_11 : decode cX7_die 11 = .ok (.iconst (-1), 1) := by decide +kernel
theorem dX7_die_12 : decode cX7_die 12 = .ok (.ireturn, 1) := by decide +kernel
theorem dX7_die_13 : decode cX7_die 13 = .ok (.aload_n 0, 1) := by decide +kernel
theorem dX7_die_14 : decode cX7_die 14 = .ok (.getfield 14, 3) := by decide +kernel
theorem dX7_die_17 : decode cX7_die 17 = .ok (.getfield 74, 3) := by decide +kernel
theorem dX7_die_20 : decode cX7_die 20 = .ok (.iload_n 1, 1) := by decide +kernel
theorem dX7_die_21 : decode cX7_die 21 = .ok (.invokestatic 78, 3) := by decide +kernel
theorem dX7_die_24 : decode cX7_die 24 = .ok (.istore_n 3, 1) := by decide +kernel
theorem dX7_die_25 : decode cX7_die 25 = .ok (.iload_n 2, 1) := by decide +kernel
theorem dX7_die_26 : decode cX7_die 26 = .ok (.ifCond .eq 21, 3) := by decide +kernel
theorem dX7_die_29 : decode cX7_die 29 = .ok (.aload_n 0, 1) := by decide +kernel
theorem dX7_die_30 : decode cX7_die 30 = .ok (.getfield 14, 3) := by decide +kernel
theorem dX7_die_33 : decode cX7_die 33 = .ok (.dup, 1) := by decide +kernel
theorem dX7_die_34 : decode cX7_die 34 = .ok (.getfield 74, 3) := by decide +kernel
theorem dX7_die_37 : decode cX7_die 37 = .ok (.iconst 1, 1) := by decide +kernel
theorem dX7_die_38 : decode cX7_die 38 = .ok (.iload_n 1, 1) := by decide +kernel
theorem dX7_die_39 : decode cX7_die 39 = .ok (.ishl, 1) := by decide +kernel
theorem dX7_die_40 : decode cX7_die 40 = .ok (.ior, 1) := by decide +kernel
theorem dX7_die_41 : decode cX7_die 41 = .ok (.putfield 74, 3) := by decide +kernel
theorem dX7_die_44 : decode cX7_die 44 = .ok (.goto 37, 3) := by decide +kernel
theorem dX7_die_47 : decode cX7_die 47 = .ok (.aload_n 0, 1) := by decide +kernel
theorem dX7_die_48 : decode cX7_die 48 = .ok (.getfield 14, 3) := by decide +kernel
theorem dX7_die_51 : decode cX7_die 51 = .ok (.dup, 1) := by decide +kernel
theorem dX7_die_52 : decode cX7_die 52 = .ok (.getfield 74, 3) := by decide +kernel
theorem dX7_die_55 : decode cX7_die 55 = .ok (.iconst 1, 1) := by decide +kernel
theorem dX7_die_56 : decode cX7_die 56 = .ok (.iload_n 1, 1) := by decide +kernel
theorem dX7_die_57 : decode cX7_die 57 = .ok (.ishl, 1) := by decide +kernel
theorem dX7_die_58 : decode cX7_die 58 = .ok (.iconst (-1), 1) := by decide +kernel
theorem dX7_die_59 : decode cX7_die 59 = .ok (.ixor, 1) := by decide +kernel
theorem dX7_die_60 : decode cX7_die 60 = .ok (.iand, 1) := by decide +kernel
theorem dX7_die_61 : decode cX7_die 61 = .ok (.putfield 74, 3) := by decide +kernel
theorem dX7_die_64 : decode cX7_die 64 = .ok (.aload_n 0, 1) := by decide +kernel
theorem dX7_die_65 : decode cX7_die 65 = .ok (.getfield 14, 3) := by decide +kernel
theorem dX7_die_68 : decode cX7_die 68 = .ok (.dup, 1) := by decide +kernel
theorem dX7_die_69 : decode cX7_die 69 = .ok (.getfield 81, 3) := by decide +kernel
theorem dX7_die_72 : decode cX7_die 72 = .ok (.iconst 1, 1) := by decide +kernel
theorem dX7_die_73 : decode cX7_die 73 = .ok (.iload_n 1, 1) := by decide +kernel
theorem dX7_die_74 : decode cX7_die 74 = .ok (.ishl, 1) := by decide +kernel
theorem dX7_die_75 : decode cX7_die 75 = .ok (.iconst (-1), 1) := by decide +kernel
theorem dX7_die_76 : decode cX7_die 76 = .ok (.ixor, 1) := by decide +kernel
theorem dX7_die_77 : decode cX7_die 77 = .ok (.iand, 1) := by decide +kernel
theorem dX7_die_78 : decode cX7_die 78 = .ok (.putfield 81, 3) := by decide +kernel
theorem dX7_die_81 : decode cX7_die 81 = .ok (.iload_n 3, 1) := by decide +kernel
theorem dX7_die_82 : decode cX7_die 82 = .ok (.ireturn, 1) := by decide +kernel
theorem dX7_row_0 : decode cX7_row 0 = .ok (.aload_n 0, 1) := by decide +kernel
theorem dX7_row_1 : decode cX7_row 1 = .ok (.getfield 14, 3) := by decide +kernel
theorem dX7_row_4 : decode cX7_row 4 = .ok (.iload_n 1, 1) := by decide +kernel
theorem dX7_row_5 : decode cX7_row 5 = .ok (.invokevirtual 63, 3) := by decide +kernel
theorem dX7_row_8 : decode cX7_row 8 = .ok (.ifCond .eq 12, 3) := by decide +kernel
theorem dX7_row_11 : decode cX7_row 11 = .ok (.iload_n 2, 1) := by decide +kernel
theorem dX7_row_12 : decode cX7_row 12 = .ok (.ifCond .lt 8, 3) := by decide +kernel
theorem dX7_row_15 : decode cX7_row 15 = .ok (.iload_n 2, 1) := by decide +kernel
theorem dX7_row_16 : decode cX7_row 16 = .ok (.iconst 4, 1) := by decide +kernel
theorem dX7_row_17 : decode cX7_row 17 = .ok (.if_icmp .lt 5, 3) := by decide +kernel
theorem dX7_row_20 : decode cX7_row 20 = .ok (.iconst (-1), 1) := by decide +kernel
theorem dX7_row_21 : decode cX7_row 21 = .ok (.ireturn, 1) := by decide +kernel
theorem dX7_row_22 : decode cX7_row 22 = .ok (.iload_n 3, 1) := by decide +kernel
theorem dX7_row_23 : decode cX7_row 23 = .ok (.ifCond .lt 9, 3) := by decide +kernel
theorem dX7_row_26 : decode cX7_row 26 = .ok (.iload_n 3, 1) := by decide +kernel
theorem dX7_row_27 : decode cX7_row 27 = .ok (.bipush 9, 2) := by decide +kernel
theorem dX7_row_29 : decode cX7_row 29 = .ok (.if_icmp .le 6, 3) := by decide +kernel
theorem dX7_row_32 : decode cX7_row 32 = .ok (.bipush (-2), 2) := by decide +kernel
theorem dX7_row_34 : decode cX7_row 34 = .ok (.ireturn, 1) := by decide +kernel
theorem dX7_row_35 : decode cX7_row 35 = .ok (.aload_n 0, 1) := by decide +kernel
theorem dX7_row_36 : decode cX7_row 36 = .ok (.getfield 14, 3) := by decide +kernel
theorem dX7_row_39 : decode cX7_row 39 = .ok (.getfield 67, 3) := by decide +kernel
theorem dX7_row_42 : decode cX7_row 42 = .ok (.iload_n 1, 1) := by decide +kernel
theorem dX7_row_43 : decode cX7_row 43 = .ok (.iaload, 1) := by decide +kernel
theorem dX7_row_44 : decode cX7_row 44 = .ok (.bipush 6, 2) := by decide +kernel
theorem dX7_row_46 : decode cX7_row 46 = .ok (.if_icmp .eq 6, 3) := by decide +kernel
theorem dX7_row_49 : decode cX7_row 49 = .ok (.bipush (-3), 2) := by decide +kernel
theorem dX7_row_51 : decode cX7_row 51 = .ok (.ireturn, 1) := by decide +kernel
theorem dX7_row_52 : decode cX7_row 52 = .ok (.aload_n 0, 1) := by decide +kernel
theorem dX7_row_53 : decode cX7_row 53 = .ok (.getfield 14, 3) := by decide +kernel
theorem dX7_row_56 : decode cX7_row 56 = .ok (.getfield 115, 3) := by decide +kernel
theorem dX7_row_59 : decode cX7_row 59 = .ok (.iload_n 1, 1) := by decide +kernel
theorem dX7_row_60 : decode cX7_row 60 = .ok (.iconst 4, 1) := by decide +kernel
theorem dX7_row_61 : decode cX7_row 61 = .ok (.imul, 1) := by decide +kernel
theorem dX7_row_62 : decode cX7_row 62 = .ok (.iload_n 2, 1) := by decide +kernel
theorem dX7_row_63 : decode cX7_row 63 = .ok (.iadd, 1) := by decide +kernel
theorem dX7_row_64 : decode cX7_row 64 = .ok (.iaload, 1) := by decide +kernel
theorem dX7_row_65 : decode cX7_row 65 = .ok (.istore 4, 2) := by decide +kernel
theorem dX7_row_67 : decode cX7_row 67 = .ok (.aload_n 0, 1) := by decide +kernel
theorem dX7_row_68 : decode cX7_row 68 = .ok (.getfield 14, 3) := by decide +kernel
theorem dX7_row_71 : decode cX7_row 71 = .ok (.getfield 115, 3) := by decide +kernel
theorem dX7_row_74 : decode cX7_row 74 = .ok (.iload_n 1, 1) := by decide +kernel
theorem dX7_row_75 : decode cX7_row 75 = .ok (.iconst 4, 1) := by decide +kernel
theorem dX7_row_76 : decode cX7_row 76 = .ok (.imul, 1) := by decide +kernel
theorem dX7_row_77 : decode cX7_row 77 = .ok (.iload_n 2, 1) := by decide +kernel
theorem dX7_row_78 : decode cX7_row 78 = .ok (.iadd, 1) := by decide +kernel
theorem dX7_row_79 : decode cX7_row 79 = .ok (.iload_n 3, 1) := by decide +kernel
theorem dX7_row_80 : decode cX7_row 80 = .ok (.iastore, 1) := by decide +kernel
theorem dX7_row_81 : decode cX7_row 81 = .ok (.iload 4, 2) := by decide +kernel
theorem dX7_row_83 : decode cX7_row 83 = .ok (.ireturn, 1) := by decide +kernel
theorem dX7_feed_0 : decode cX7_feed 0 = .ok (.iload_n 1, 1) := by decide +kernel
theorem dX7_feed_1 : decode cX7_feed 1 = .ok (.ifCond .lt 9, 3) := by decide +kernel
theorem dX7_feed_4 : decode cX7_feed 4 = .ok (.iload_n 1, 1) := by decide +kernel
theorem dX7_feed_5 : decode cX7_feed 5 = .ok (.bipush 127, 2) := by decide +kernel
theorem dX7_feed_7 : decode cX7_feed 7 = .ok (.if_icmp .le 6, 3) := by decide +kernel
theorem dX7_feed_10 : decode cX7_feed 10 = .ok (.bipush (-2), 2) := by decide +kernel
theorem dX7_feed_12 : decode cX7_feed 12 = .ok (.ireturn, 1) := by decide +kernel
theorem dX7_feed_13 : decode cX7_feed 13 = .ok (.aload_n 0, 1) := by decide +kernel
theorem dX7_feed_14 : decode cX7_feed 14 = .ok (.getfield 27, 3) := by decide +kernel
theorem dX7_feed_17 : decode cX7_feed 17 = .ok (.iload_n 1, 1) := by decide +kernel
theorem dX7_feed_18 : decode cX7_feed 18 = .ok (.i2c, 1) := by decide +kernel
theorem dX7_feed_19 : decode cX7_feed 19 = .ok (.invokevirtual 118, 3) := by decide +kernel
theorem dX7_feed_22 : decode cX7_feed 22 = .ok (.ifCond .eq 13, 3) := by decide +kernel
theorem dX7_feed_25 : decode cX7_feed 25 = .ok (.aload_n 0, 1) := by decide +kernel
theorem dX7_feed_26 : decode cX7_feed 26 = .ok (.getfield 27, 3) := by decide +kernel
theorem dX7_feed_29 : decode cX7_feed 29 = .ok (.getfield 122, 3) := by decide +kernel
theorem dX7_feed_32 : decode cX7_feed 32 = .ok (.goto 5, 3) := by decide +kernel
theorem dX7_feed_35 : decode cX7_feed 35 = .ok (.bipush (-4), 2) := by decide +kernel
theorem dX7_feed_37 : decode cX7_feed 37 = .ok (.ireturn, 1) := by decide +kernel
theorem dX7_parish_0 : decode cX7_parish 0 = .ok (.aload_n 0, 1) := by decide +kernel
theorem dX7_parish_1 : decode cX7_parish 1 = .ok (.getfield 125, 3) := by decide +kernel
theorem dX7_parish_4 : decode cX7_parish 4 = .ok (.bipush 6, 2) := by decide +kernel
theorem dX7_parish_6 : decode cX7_parish 6 = .ok (.if_icmp .lt 6, 3) := by decide +kernel
theorem dX7_parish_9 : decode cX7_parish 9 = .ok (.bipush (-4), 2) := by decide +kernel
theorem dX7_parish_11 : decode cX7_parish 11 = .ok (.ireturn, 1) := by decide +kernel
theorem dX7_parish_12 : decode cX7_parish 12 = .ok (.aload_n 0, 1) := by decide +kernel
theorem dX7_parish_13 : decode cX7_parish 13 = .ok (.getfield 33, 3) := by decide +kernel
theorem dX7_parish_16 : decode cX7_parish 16 = .ok (.aload_n 0, 1) := by decide +kernel
theorem dX7_parish_17 : decode cX7_parish 17 = .ok (.getfield 125, 3) := by decide +kernel
theorem dX7_parish_20 : decode cX7_parish 20 = .ok (.aaload, 1) := by decide +kernel
theorem dX7_parish_21 : decode cX7_parish 21 = .ok (.astore_n 1, 1) := by decide +kernel
theorem dX7_parish_22 : decode cX7_parish 22 = .ok (.aload_n 0, 1) := by decide +kernel
theorem dX7_parish_23 : decode cX7_parish 23 = .ok (.getfield 27, 3) := by decide +kernel
theorem dX7_parish_26 : decode cX7_parish 26 = .ok (.aload_n 1, 1) := by decide +kernel
theorem dX7_parish_27 : decode cX7_parish 27 = .ok (.invokevirtual 128, 3) := by decide +kernel
theorem dX7_parish_30 : decode cX7_parish 30 = .ok (.istore_n 2, 1) := by decide +kernel
theorem dX7_parish_31 : decode cX7_parish 31 = .ok (.aload_n 0, 1) := by decide +kernel
theorem dX7_parish_32 : decode cX7_parish 32 = .ok (.getfield 27, 3) := by decide +kernel
theorem dX7_parish_35 : decode cX7_parish 35 = .ok (.getfield 132, 3) := by decide +kernel
theorem dX7_parish_38 : decode cX7_parish 38 = .ok (.istore_n 3, 1) := by decide +kernel
theorem dX7_parish_39 : decode cX7_parish 39 = .ok (.aload_n 0, 1) := by decide +kernel
theorem dX7_parish_40 : decode cX7_parish 40 = .ok (.getfield 27, 3) := by decide +kernel
theorem dX7_parish_43 : decode cX7_parish 43 = .ok (.iconst 0, 1) := by decide +kernel
theorem dX7_parish_44 : decode cX7_parish 44 = .ok (.putfield 122, 3) := by decide +kernel
theorem dX7_parish_47 : decode cX7_parish 47 = .ok (.iload_n 2, 1) := by decide +kernel
theorem dX7_parish_48 : decode cX7_parish 48 = .ok (.ifCond .ne 8, 3) := by decide +kernel
theorem dX7_parish_51 : decode cX7_parish 51 = .ok (.bipush (-10), 2) := by decide +kernel
theorem dX7_parish_53 : decode cX7_parish 53 = .ok (.iload_n 3, 1) := by decide +kernel
theorem dX7_parish_54 : decode cX7_parish 54 = .ok (.isub, 1) := by decide +kernel
theorem dX7_parish_55 : decode cX7_parish 55 = .ok (.ireturn, 1) := by decide +kernel
theorem dX7_parish_56 : decode cX7_parish 56 = .ok (.aload_n 0, 1) := by decide +kernel
theorem dX7_parish_57 : decode cX7_parish 57 = .ok (.getfield 14, 3) := by decide +kernel
theorem dX7_parish_60 : decode cX7_parish 60 = .ok (.aload_n 1, 1) := by decide +kernel
theorem dX7_parish_61 : decode cX7_parish 61 = .ok (.putfield 135, 3) := by decide +kernel
theorem dX7_parish_64 : decode cX7_parish 64 = .ok (.aload_n 0, 1) := by decide +kernel
theorem dX7_parish_65 : decode cX7_parish 65 = .ok (.dup, 1) := by decide +kernel
theorem dX7_parish_66 : decode cX7_parish 66 = .ok (.getfield 125, 3) := by decide +kernel
theorem dX7_parish_69 : decode cX7_parish 69 = .ok (.iconst 1, 1) := by decide +kernel
theorem dX7_parish_70 : decode cX7_parish 70 = .ok (.iadd, 1) := by decide +kernel
theorem dX7_parish_71 : decode cX7_parish 71 = .ok (.putfield 125, 3) := by decide +kernel
theorem dX7_parish_74 : decode cX7_parish 74 = .ok (.aload_n 0, 1) := by decide +kernel
theorem dX7_parish_75 : decode cX7_parish 75 = .ok (.getfield 125, 3) := by decide +kernel
theorem dX7_parish_78 : decode cX7_parish 78 = .ok (.iconst 1, 1) := by decide +kernel
theorem dX7_parish_79 : decode cX7_parish 79 = .ok (.isub, 1) := by decide +kernel
theorem dX7_parish_80 : decode cX7_parish 80 = .ok (.ireturn, 1) := by decide +kernel
theorem dX7_told_0 : decode cX7_told 0 = .ok (.iload_n 1, 1) := by decide +kernel
theorem dX7_told_1 : decode cX7_told 1 = .ok (.tableswitch 126 0 7 #[47, 55, 66, 74, 82, 90, 102, 114], 47) := by decide +kernel
theorem dX7_told_48 : decode cX7_told 48 = .ok (.aload_n 0, 1) := by decide +kernel
theorem dX7_told_49 : decode cX7_told 49 = .ok (.getfield 14, 3) := by decide +kernel
theorem dX7_told_52 : decode cX7_told 52 = .ok (.getfield 87, 3) := by decide +kernel
theorem dX7_told_55 : decode cX7_told 55 = .ok (.ireturn, 1) := by decide +kernel
theorem dX7_told_56 : decode cX7_told 56 = .ok (.aload_n 0, 1) := by decide +kernel
theorem dX7_told_57 : decode cX7_told 57 = .ok (.getfield 14, 3) := by decide +kernel
theorem dX7_told_60 : decode cX7_told 60 = .ok (.getfield 135, 3) := by decide +kernel
theorem dX7_told_63 : decode cX7_told 63 = .ok (.getfield 139, 3) := by decide +kernel
theorem dX7_told_66 : decode cX7_told 66 = .ok (.ireturn, 1) := by decide +kernel
theorem dX7_told_67 : decode cX7_told 67 = .ok (.aload_n 0, 1) := by decide +kernel
theorem dX7_told_68 : decode cX7_told 68 = .ok (.getfield 14, 3) := by decide +kernel
theorem dX7_told_71 : decode cX7_told 71 = .ok (.getfield 74, 3) := by decide +kernel
theorem dX7_told_74 : decode cX7_told 74 = .ok (.ireturn, 1) := by decide +kernel
theorem dX7_told_75 : decode cX7_told 75 = .ok (.aload_n 0, 1) := by decide +kernel
theorem dX7_told_76 : decode cX7_told 76 = .ok (.getfield 14, 3) := by decide +kernel
theorem dX7_told_79 : decode cX7_told 79 = .ok (.getfield 81, 3) := by decide +kernel
theorem dX7_told_82 : decode cX7_told 82 = .ok (.ireturn, 1) := by decide +kernel
theorem dX7_told_83 : decode cX7_told 83 = .ok (.aload_n 0, 1) := by decide +kernel
theorem dX7_told_84 : decode cX7_told 84 = .ok (.getfield 14, 3) := by decide +kernel
theorem dX7_told_87 : decode cX7_told 87 = .ok (.invokevirtual 142, 3) := by decide +kernel
theorem dX7_told_90 : decode cX7_told 90 = .ok (.ireturn, 1) := by decide +kernel
theorem dX7_told_91 : decode cX7_told 91 = .ok (.aload_n 0, 1) := by decide +kernel
theorem dX7_told_92 : decode cX7_told 92 = .ok (.getfield 40, 3) := by decide +kernel
theorem dX7_told_95 : decode cX7_told 95 = .ok (.aload_n 0, 1) := by decide +kernel
theorem dX7_told_96 : decode cX7_told 96 = .ok (.getfield 14, 3) := by decide +kernel
theorem dX7_told_99 : decode cX7_told 99 = .ok (.invokevirtual 146, 3) := by decide +kernel
theorem dX7_told_102 : decode cX7_told 102 = .ok (.ireturn, 1) := by decide +kernel
theorem dX7_told_103 : decode cX7_told 103 = .ok (.aload_n 0, 1) := by decide +kernel
theorem dX7_told_104 : decode cX7_told 104 = .ok (.getfield 40, 3) := by decide +kernel
theorem dX7_told_107 : decode cX7_told 107 = .ok (.aload_n 0, 1) := by decide +kernel
theorem dX7_told_108 : decode cX7_told 108 = .ok (.getfield 14, 3) := by decide +kernel
theorem dX7_told_111 : decode cX7_told 111 = .ok (.invokevirtual 150, 3) := by decide +kernel
theorem dX7_told_114 : decode cX7_told 114 = .ok (.ireturn, 1) := by decide +kernel
theorem dX7_told_115 : decode cX7_told 115 = .ok (.aload_n 0, 1) := by decide +kernel
theorem dX7_told_116 : decode cX7_told 116 = .ok (.getfield 40, 3) := by decide +kernel
theorem dX7_told_119 : decode cX7_told 119 = .ok (.aload_n 0, 1) := by decide +kernel
theorem dX7_told_120 : decode cX7_told 120 = .ok (.getfield 14, 3) := by decide +kernel
theorem dX7_told_123 : decode cX7_told 123 = .ok (.invokevirtual 153, 3) := by decide +kernel
theorem dX7_told_126 : decode cX7_told 126 = .ok (.ireturn, 1) := by decide +kernel
theorem dX7_told_127 : decode cX7_told 127 = .ok (.iconst (-1), 1) := by decide +kernel
theorem dX7_told_128 : decode cX7_told 128 = .ok (.ireturn, 1) := by decide +kernel
theorem dX7_pass_0 : decode cX7_pass 0 = .ok (.iload_n 1, 1) := by decide +kernel
theorem dX7_pass_1 : decode cX7_pass 1 = .ok (.ifCond .lt 9, 3) := by decide +kernel
theorem dX7_pass_4 : decode cX7_pass 4 = .ok (.iload_n 1, 1) := by decide +kernel
theorem dX7_pass_5 : decode cX7_pass 5 = .ok (.bipush 60, 2) := by decide +kernel
theorem dX7_pass_7 : decode cX7_pass 7 = .ok (.if_icmp .le 6, 3) := by decide +kernel
theorem dX7_pass_10 : decode cX7_pass 10 = .ok (.bipush (-2), 2) := by decide +kernel
theorem dX7_pass_12 : decode cX7_pass 12 = .ok (.ireturn, 1) := by decide +kernel
theorem dX7_pass_13 : decode cX7_pass 13 = .ok (.aload_n 0, 1) := by decide +kernel
theorem dX7_pass_14 : decode cX7_pass 14 = .ok (.getfield 14, 3) := by decide +kernel
theorem dX7_pass_17 : decode cX7_pass 17 = .ok (.getfield 87, 3) := by decide +kernel
theorem dX7_pass_20 : decode cX7_pass 20 = .ok (.iload_n 1, 1) := by decide +kernel
theorem dX7_pass_21 : decode cX7_pass 21 = .ok (.iadd, 1) := by decide +kernel
theorem dX7_pass_22 : decode cX7_pass 22 = .ok (.sipush 9999, 3) := by decide +kernel
theorem dX7_pass_25 : decode cX7_pass 25 = .ok (.if_icmp .le 6, 3) := by decide +kernel
theorem dX7_pass_28 : decode cX7_pass 28 = .ok (.bipush (-3), 2) := by decide +kernel
theorem dX7_pass_30 : decode cX7_pass 30 = .ok (.ireturn, 1) := by decide +kernel
theorem dX7_pass_31 : decode cX7_pass 31 = .ok (.iconst 0, 1) := by decide +kernel
theorem dX7_pass_32 : decode cX7_pass 32 = .ok (.istore_n 2, 1) := by decide +kernel
theorem dX7_pass_33 : decode cX7_pass 33 = .ok (.iload_n 2, 1) := by decide +kernel
theorem dX7_pass_34 : decode cX7_pass 34 = .ok (.iload_n 1, 1) := by decide +kernel
theorem dX7_pass_35 : decode cX7_pass 35 = .ok (.if_icmp .ge 19, 3) := by decide +kernel
theorem dX7_pass_38 : decode cX7_pass 38 = .ok (.aload_n 0, 1) := by decide +kernel
theorem dX7_pass_39 : decode cX7_pass 39 = .ok (.getfield 14, 3) := by decide +kernel
theorem dX7_pass_42 : decode cX7_pass 42 = .ok (.sipush 9999, 3) := by decide +kernel
theorem dX7_pass_45 : decode cX7_pass 45 = .ok (.invokevirtual 156, 3) := by decide +kernel
theorem dX7_pass_48 : decode cX7_pass 48 = .ok (.iinc 2 1, 3) := by decide +kernel
theorem dX7_pass_51 : decode cX7_pass 51 = .ok (.goto (-18), 3) := by decide +kernel
theorem dX7_pass_54 : decode cX7_pass 54 = .ok (.aload_n 0, 1) := by decide +kernel
theorem dX7_pass_55 : decode cX7_pass 55 = .ok (.getfield 14, 3) := by decide +kernel
theorem dX7_pass_58 : decode cX7_pass 58 = .ok (.getfield 87, 3) := by decide +kernel
theorem dX7_pass_61 : decode cX7_pass 61 = .ok (.ireturn, 1) := by decide +kernel
theorem dX7_on_0 : decode cX7_on 0 = .ok (.iload_n 2, 1) := by decide +kernel
theorem dX7_on_1 : decode cX7_on 1 = .ok (.bipush 10, 2) := by decide +kernel
theorem dX7_on_3 : decode cX7_on 3 = .ok (.isub, 1) := by decide +kernel
theorem dX7_on_4 : decode cX7_on 4 = .ok (.istore_n 3, 1) := by decide +kernel
theorem dX7_on_5 : decode cX7_on 5 = .ok (.iload_n 2, 1) := by decide +kernel
theorem dX7_on_6 : decode cX7_on 6 = .ok (.bipush 20, 2) := by decide +kernel
theorem dX7_on_8 : decode cX7_on 8 = .ok (.isub, 1) := by decide +kernel
theorem dX7_on_9 : decode cX7_on 9 = .ok (.bipush 6, 2) := by decide +kernel
theorem dX7_on_11 : decode cX7_on 11 = .ok (.idiv, 1) := by decide +kernel
theorem dX7_on_12 : decode cX7_on 12 = .ok (.istore 4, 2) := by decide +kernel
theorem dX7_on_14 : decode cX7_on 14 = .ok (.iload_n 2, 1) := by decide +kernel
theorem dX7_on_15 : decode cX7_on 15 = .ok (.bipush 20, 2) := by decide +kernel
theorem dX7_on_17 : decode cX7_on 17 = .ok (.isub, 1) := by decide +kernel
theorem dX7_on_18 : decode cX7_on 18 = .ok (.bipush 6, 2) := by decide +kernel
theorem dX7_on_20 : decode cX7_on 20 = .ok (.irem, 1) := by decide +kernel
theorem dX7_on_21 : decode cX7_on 21 = .ok (.istore 5, 2) := by decide +kernel
theorem dX7_on_23 : decode cX7_on 23 = .ok (.iload_n 2, 1) := by decide +kernel
theorem dX7_on_24 : decode cX7_on 24 = .ok (.bipush 20, 2) := by decide +kernel
theorem dX7_on_26 : decode cX7_on 26 = .ok (.if_icmp .ge 18, 3) := by decide +kernel
theorem dX7_on_29 : decode cX7_on 29 = .ok (.aload_n 0, 1) := by decide +kernel
theorem dX7_on_30 : decode cX7_on 30 = .ok (.getfield 14, 3) := by decide +kernel
theorem dX7_on_33 : decode cX7_on 33 = .ok (.iload_n 3, 1) := by decide +kernel
theorem dX7_on_34 : decode cX7_on 34 = .ok (.invokevirtual 63, 3) := by decide +kernel
theorem dX7_on_37 : decode cX7_on 37 = .ok (.ifCond .eq 7, 3) := by decide +kernel
theorem dX7_on_40 : decode cX7_on 40 = .ok (.iconst 1, 1) := by decide +kernel
theorem dX7_on_41 : decode cX7_on 41 = .ok (.goto 4, 3) := by decide +kernel
theorem dX7_on_44 : decode cX7_on 44 = .ok (.iconst 0, 1) := by decide +kernel
theorem dX7_on_45 : decode cX7_on 45 = .ok (.istore 6, 2) := by decide +kernel
theorem dX7_on_47 : decode cX7_on 47 = .ok (.iload_n 2, 1) := by decide +kernel
theorem dX7_on_48 : decode cX7_on 48 = .ok (.bipush 20, 2) := by decide +kernel
theorem dX7_on_50 : decode cX7_on 50 = .ok (.if_icmp .lt 31, 3) := by decide +kernel
theorem dX7_on_53 : decode cX7_on 53 = .ok (.aload_n 0, 1) := by decide +kernel
theorem dX7_on_54 : decode cX7_on 54 = .ok (.getfield 14, 3) := by decide +kernel
theorem dX7_on_57 : decode cX7_on 57 = .ok (.iload 4, 2) := by decide +kernel
theorem dX7_on_59 : decode cX7_on 59 = .ok (.invokevirtual 63, 3) := by decide +kernel
theorem dX7_on_62 : decode cX7_on 62 = .ok (.ifCond .eq 19, 3) := by decide +kernel
theorem dX7_on_65 : decode cX7_on 65 = .ok (.aload_n 0, 1) := by decide +kernel
theorem dX7_on_66 : decode cX7_on 66 = .ok (.getfield 14, 3) := by decide +kernel
theorem dX7_on_69 : decode cX7_on 69 = .ok (.iload 5, 2) := by decide +kernel
theorem dX7_on_71 : decode cX7_on 71 = .ok (.invokevirtual 63, 3) := by decide +kernel
theorem dX7_on_74 : decode cX7_on 74 = .ok (.ifCond .eq 7, 3) := by decide +kernel
theorem dX7_on_77 : decode cX7_on 77 = .ok (.iconst 1, 1) := by decide +kernel
theorem dX7_on_78 : decode cX7_on 78 = .ok (.goto 4, 3) := by decide +kernel
theorem dX7_on_81 : decode cX7_on 81 = .ok (.iconst 0, 1) := by decide +kernel
theorem dX7_on_82 : decode cX7_on 82 = .ok (.istore 7, 2) := by decide +kernel
theorem dX7_on_84 : decode cX7_on 84 = .ok (.iload_n 2, 1) := by decide +kernel
theorem dX7_on_85 : decode cX7_on 85 = .ok (.ifCond .eq 15, 3) := by decide +kernel
theorem dX7_on_88 : decode cX7_on 88 = .ok (.iload 6, 2) := by decide +kernel
theorem dX7_on_90 : decode cX7_on 90 = .ok (.ifCond .ne 10, 3) := by decide +kernel
theorem dX7_on_93 : decode cX7_on 93 = .ok (.iload 7, 2) := by decide +kernel
theorem dX7_on_95 : decode cX7_on 95 = .ok (.ifCond .ne 5, 3) := by decide +kernel
theorem dX7_on_98 : decode cX7_on 98 = .ok (.iconst (-1), 1) := by decide +kernel
theorem dX7_on_99 : decode cX7_on 99 = .ok (.ireturn, 1) := by decide +kernel
theorem dX7_on_100 : decode cX7_on 100 = .ok (.iload_n 1, 1) := by decide +kernel
theorem dX7_on_101 : decode cX7_on 101 = .ok (.ifCond .lt 9, 3) := by decide +kernel
theorem dX7_on_104 : decode cX7_on 104 = .ok (.iload_n 1, 1) := by decide +kernel
theorem dX7_on_105 : decode cX7_on 105 = .ok (.bipush 30, 2) := by decide +kernel
theorem dX7_on_107 : decode cX7_on 107 = .ok (.if_icmp .le 6, 3) := by decide +kernel
theorem dX7_on_110 : decode cX7_on 110 = .ok (.bipush (-2), 2) := by decide +kernel
theorem dX7_on_112 : decode cX7_on 112 = .ok (.ireturn, 1) := by decide +kernel
theorem dX7_on_113 : decode cX7_on 113 = .ok (.aload_n 0, 1) := by decide +kernel
theorem dX7_on_114 : decode cX7_on 114 = .ok (.getfield 21, 3) := by decide +kernel
theorem dX7_on_117 : decode cX7_on 117 = .ok (.aload_n 0, 1) := by decide +kernel
theorem dX7_on_118 : decode cX7_on 118 = .ok (.getfield 14, 3) := by decide +kernel
theorem dX7_on_121 : decode cX7_on 121 = .ok (.invokevirtual 160, 3) := by decide +kernel
theorem dX7_on_124 : decode cX7_on 124 = .ok (.iconst 0, 1) := by decide +kernel
theorem dX7_on_125 : decode cX7_on 125 = .ok (.istore 8, 2) := by decide +kernel
theorem dX7_on_127 : decode cX7_on 127 = .ok (.iload 8, 2) := by decide +kernel
theorem dX7_on_129 : decode cX7_on 129 = .ok (.iload_n 1, 1) := by decide +kernel
theorem dX7_on_130 : decode cX7_on 130 = .ok (.if_icmp .ge 18, 3) := by decide +kernel
theorem dX7_on_133 : decode cX7_on 133 = .ok (.aload_n 0, 1) := by decide +kernel
theorem dX7_on_134 : decode cX7_on 134 = .ok (.getfield 21, 3) := by decide +kernel
theorem dX7_on_137 : decode cX7_on 137 = .ok (.ldc 164, 2) := by decide +kernel
theorem dX7_on_139 : decode cX7_on 139 = .ok (.invokevirtual 156, 3) := by decide +kernel
theorem dX7_on_142 : decode cX7_on 142 = .ok (.iinc 8 1, 3) := by decide +kernel
theorem dX7_on_145 : decode cX7_on 145 = .ok (.goto (-18), 3) := by decide +kernel
theorem dX7_on_148 : decode cX7_on 148 = .ok (.iload 6, 2) := by decide +kernel
theorem dX7_on_150 : decode cX7_on 150 = .ok (.ifCond .eq 13, 3) := by decide +kernel
theorem dX7_on_153 : decode cX7_on 153 = .ok (.aload_n 0, 1) := by decide +kernel
theorem dX7_on_154 : decode cX7_on 154 = .ok (.getfield 21, 3) := by decide +kernel
theorem dX7_on_157 : decode cX7_on 157 = .ok (.getfield 84, 3) := by decide +kernel
theorem dX7_on_160 : decode cX7_on 160 = .ok (.iload_n 3, 1) := by decide +kernel
theorem dX7_on_161 : decode cX7_on 161 = .ok (.iaload, 1) := by decide +kernel
theorem dX7_on_162 : decode cX7_on 162 = .ok (.ireturn, 1) := by decide +kernel
theorem dX7_on_163 : decode cX7_on 163 = .ok (.iload 7, 2) := by decide +kernel
theorem dX7_on_165 : decode cX7_on 165 = .ok (.ifCond .eq 17, 3) := by decide +kernel
theorem dX7_on_168 : decode cX7_on 168 = .ok (.aload_n 0, 1) := by decide +kernel
theorem dX7_on_169 : decode cX7_on 169 = .ok (.getfield 21, 3) := by decide +kernel
theorem dX7_on_172 : decode cX7_on 172 = .ok (.iload 4, 2) := by decide +kernel
theorem dX7_on_174 : decode cX7_on 174 = .ok (.iload 5, 2) := by decide +kernel
theorem dX7_on_176 : decode cX7_on 176 = .ok (.invokevirtual 97, 3) := by decide +kernel
theorem dX7_on_179 : decode cX7_on 179 = .ok (.goto 10, 3) := by decide +kernel
theorem dX7_on_182 : decode cX7_on 182 = .ok (.aload_n 0, 1) := by decide +kernel
theorem dX7_on_183 : decode cX7_on 183 = .ok (.getfield 21, 3) := by decide +kernel
theorem dX7_on_186 : decode cX7_on 186 = .ok (.getfield 81, 3) := by decide +kernel
theorem dX7_on_189 : decode cX7_on 189 = .ok (.ireturn, 1) := by decide +kernel
theorem dX7_handful_0 : decode cX7_handful 0 = .ok (.iload_n 1, 1) := by decide +kernel
theorem dX7_handful_1 : decode cX7_handful 1 = .ok (.bipush 10, 2) := by decide +kernel
theorem dX7_handful_3 : decode cX7_handful 3 = .ok (.isub, 1) := by decide +kernel
theorem dX7_handful_4 : decode cX7_handful 4 = .ok (.istore_n 2, 1) := by decide +kernel
theorem dX7_handful_5 : decode cX7_handful 5 = .ok (.iload_n 1, 1) := by decide +kernel
theorem dX7_handful_6 : decode cX7_handful 6 = .ok (.ifCond .eq 16, 3) := by decide +kernel
theorem dX7_handful_9 : decode cX7_handful 9 = .ok (.aload_n 0, 1) := by decide +kernel
theorem dX7_handful_10 : decode cX7_handful 10 = .ok (.getfield 14, 3) := by decide +kernel
theorem dX7_handful_13 : decode cX7_handful 13 = .ok (.iload_n 2, 1) := by decide +kernel
theorem dX7_handful_14 : decode cX7_handful 14 = .ok (.invokevirtual 63, 3) := by decide +kernel
theorem dX7_handful_17 : decode cX7_handful 17 = .ok (.ifCond .ne 5, 3) := by decide +kernel
theorem dX7_handful_20 : decode cX7_handful 20 = .ok (.iconst (-1), 1) := by decide +kernel
theorem dX7_handful_21 : decode cX7_handful 21 = .ok (.ireturn, 1) := by decide +kernel
theorem dX7_handful_22 : decode cX7_handful 22 = .ok (.aload_n 0, 1) := by decide +kernel
theorem dX7_handful_23 : decode cX7_handful 23 = .ok (.getfield 40, 3) := by decide +kernel
theorem dX7_handful_26 : decode cX7_handful 26 = .ok (.aload_n 0, 1) := by decide +kernel
theorem dX7_handful_27 : decode cX7_handful 27 = .ok (.getfield 14, 3) := by decide +kernel
theorem dX7_handful_30 : decode cX7_handful 30 = .ok (.invokevirtual 165, 3) := by decide +kernel
theorem dX7_handful_33 : decode cX7_handful 33 = .ok (.istore_n 3, 1) := by decide +kernel
theorem dX7_handful_34 : decode cX7_handful 34 = .ok (.iload_n 1, 1) := by decide +kernel
theorem dX7_handful_35 : decode cX7_handful 35 = .ok (.ifCond .ne 7, 3) := by decide +kernel
theorem dX7_handful_38 : decode cX7_handful 38 = .ok (.iload_n 3, 1) := by decide +kernel
theorem dX7_handful_39 : decode cX7_handful 39 = .ok (.goto 12, 3) := by decide +kernel
theorem dX7_handful_42 : decode cX7_handful 42 = .ok (.aload_n 0, 1) := by decide +kernel
theorem dX7_handful_43 : decode cX7_handful 43 = .ok (.getfield 40, 3) := by decide +kernel
theorem dX7_handful_46 : decode cX7_handful 46 = .ok (.getfield 168, 3) := by decide +kernel
theorem dX7_handful_49 : decode cX7_handful 49 = .ok (.iload_n 2, 1) := by decide +kernel
theorem dX7_handful_50 : decode cX7_handful 50 = .ok (.iaload, 1) := by decide +kernel
theorem dX7_handful_51 : decode cX7_handful 51 = .ok (.ireturn, 1) := by decide +kernel
theorem dX7_orders_0 : decode cX7_orders 0 = .ok (.iload_n 1, 1) := by decide +kernel
theorem dX7_orders_1 : decode cX7_orders 1 = .ok (.ifCond .lt 9, 3) := by decide +kernel
theorem dX7_orders_4 : decode cX7_orders 4 = .ok (.iload_n 1, 1) := by decide +kernel
theorem dX7_orders_5 : decode cX7_orders 5 = .ok (.bipush 6, 2) := by decide +kernel
theorem dX7_orders_7 : decode cX7_orders 7 = .ok (.if_icmp .le 6, 3) := by decide +kernel
theorem dX7_orders_10 : decode cX7_orders 10 = .ok (.bipush (-2), 2) := by decide +kernel
theorem dX7_orders_12 : decode cX7_orders 12 = .ok (.ireturn, 1) := by decide +kernel
theorem dX7_orders_13 : decode cX7_orders 13 = .ok (.aload_n 0, 1) := by decide +kernel
theorem dX7_orders_14 : decode cX7_orders 14 = .ok (.getfield 40, 3) := by decide +kernel
theorem dX7_orders_17 : decode cX7_orders 17 = .ok (.aload_n 0, 1) := by decide +kernel
theorem dX7_orders_18 : decode cX7_orders 18 = .ok (.getfield 14, 3) := by decide +kernel
theorem dX7_orders_21 : decode cX7_orders 21 = .ok (.iload_n 1, 1) := by decide +kernel
theorem dX7_orders_22 : decode cX7_orders 22 = .ok (.invokevirtual 171, 3) := by decide +kernel
theorem dX7_orders_25 : decode cX7_orders 25 = .ok (.ireturn, 1) := by decide +kernel
theorem dX7_see_0 : decode cX7_see 0 = .ok (.iload_n 1, 1) := by decide +kernel
theorem dX7_see_1 : decode cX7_see 1 = .ok (.iconst (-1), 1) := by decide +kernel
theorem dX7_see_2 : decode cX7_see 2 = .ok (.if_icmp .ne 14, 3) := by decide +kernel
theorem dX7_see_5 : decode cX7_see 5 = .ok (.aload_n 0, 1) := by decide +kernel
theorem dX7_see_6 : decode cX7_see 6 = .ok (.getfield 14, 3) := by decide +kernel
theorem dX7_see_9 : decode cX7_see 9 = .ok (.getfield 175, 3) := by decide +kernel
theorem dX7_see_12 : decode cX7_see 12 = .ok (.invokevirtual 179, 3) := by decide +kernel
theorem dX7_see_15 : decode cX7_see 15 = .ok (.ireturn, 1) := by decide +kernel
theorem dX7_see_16 : decode cX7_see 16 = .ok (.aload_n 0, 1) := by decide +kernel
theorem dX7_see_17 : decode cX7_see 17 = .ok (.getfield 14, 3) := by decide +kernel
theorem dX7_see_20 : decode cX7_see 20 = .ok (.iload_n 1, 1) := by decide +kernel
theorem dX7_see_21 : decode cX7_see 21 = .ok (.invokevirtual 63, 3) := by decide +kernel
theorem dX7_see_24 : decode cX7_see 24 = .ok (.ifCond .eq 14, 3) := by decide +kernel
theorem dX7_see_27 : decode cX7_see 27 = .ok (.aload_n 0, 1) := by decide +kernel
theorem dX7_see_28 : decode cX7_see 28 = .ok (.getfield 14, 3) := by decide +kernel
theorem dX7_see_31 : decode cX7_see 31 = .ok (.iload_n 2, 1) := by decide +kernel
theorem dX7_see_32 : decode cX7_see 32 = .ok (.invokevirtual 63, 3) := by decide +kernel
theorem dX7_see_35 : decode cX7_see 35 = .ok (.ifCond .ne 5, 3) := by decide +kernel
theorem dX7_see_38 : decode cX7_see 38 = .ok (.iconst (-1), 1) := by decide +kernel
theorem dX7_see_39 : decode cX7_see 39 = .ok (.ireturn, 1) := by decide +kernel
theorem dX7_see_40 : decode cX7_see 40 = .ok (.iload_n 1, 1) := by decide +kernel
theorem dX7_see_41 : decode cX7_see 41 = .ok (.iload_n 2, 1) := by decide +kernel
theorem dX7_see_42 : decode cX7_see 42 = .ok (.if_icmp .eq 13, 3) := by decide +kernel
theorem dX7_see_45 : decode cX7_see 45 = .ok (.iload_n 3, 1) := by decide +kernel
theorem dX7_see_46 : decode cX7_see 46 = .ok (.ifCond .lt 9, 3) := by decide +kernel
theorem dX7_see_49 : decode cX7_see 49 = .ok (.iload_n 3, 1) := by decide +kernel
theorem dX7_see_50 : decode cX7_see 50 = .ok (.bipush 20, 2) := by decide +kernel
theorem dX7_see_52 : decode cX7_see 52 = .ok (.if_icmp .le 6, 3) := by decide +kernel
theorem dX7_see_55 : decode cX7_see 55 = .ok (.bipush (-2), 2) := by decide +kernel
theorem dX7_see_57 : decode cX7_see 57 = .ok (.ireturn, 1) := by decide +kernel
theorem dX7_see_58 : decode cX7_see 58 = .ok (.aload_n 0, 1) := by decide +kernel
theorem dX7_see_59 : decode cX7_see 59 = .ok (.getfield 14, 3) := by decide +kernel
theorem dX7_see_62 : decode cX7_see 62 = .ok (.getfield 175, 3) := by decide +kernel
theorem dX7_see_65 : decode cX7_see 65 = .ok (.iload_n 1, 1) := by decide +kernel
theorem dX7_see_66 : decode cX7_see 66 = .ok (.iload_n 2, 1) := by decide +kernel
theorem dX7_see_67 : decode cX7_see 67 = .ok (.iload_n 3, 1) := by decide +kernel
theorem dX7_see_68 : decode cX7_see 68 = .ok (.iload 4, 2) := by decide +kernel
theorem dX7_see_70 : decode cX7_see 70 = .ok (.ifCond .eq 7, 3) := by decide +kernel
theorem dX7_see_73 : decode cX7_see 73 = .ok (.iconst 1, 1) := by decide +kernel
theorem dX7_see_74 : decode cX7_see 74 = .ok (.goto 4, 3) := by decide +kernel
theorem dX7_see_77 : decode cX7_see 77 = .ok (.iconst 0, 1) := by decide +kernel
theorem dX7_see_78 : decode cX7_see 78 = .ok (.invokevirtual 184, 3) := by decide +kernel
theorem dX7_see_81 : decode cX7_see 81 = .ok (.ireturn, 1) := by decide +kernel
theorem dX7_hates_0 : decode cX7_hates 0 = .ok (.aload_n 0, 1) := by decide +kernel
theorem dX7_hates_1 : decode cX7_hates 1 = .ok (.getfield 14, 3) := by decide +kernel
theorem dX7_hates_4 : decode cX7_hates 4 = .ok (.iload_n 1, 1) := by decide +kernel
theorem dX7_hates_5 : decode cX7_hates 5 = .ok (.invokevirtual 63, 3) := by decide +kernel
theorem dX7_hates_8 : decode cX7_hates 8 = .ok (.ifCond .eq 23, 3) := by decide +kernel
theorem dX7_hates_11 : decode cX7_hates 11 = .ok (.aload_n 0, 1) := by decide +kernel
theorem dX7_hates_12 : decode cX7_hates 12 = .ok (.getfield 14, 3) := by decide +kernel
theorem dX7_hates_15 : decode cX7_hates 15 = .ok (.iload_n 2, 1) := by decide +kernel
theorem dX7_hates_16 : decode cX7_hates 16 = .ok (.invokevirtual 63, 3) := by decide +kernel
theorem dX7_hates_19 : decode cX7_hates 19 = .ok (.ifCond .eq 12, 3) := by decide +kernel
theorem dX7_hates_22 : decode cX7_hates 22 = .ok (.iload_n 3, 1) := by decide +kernel
theorem dX7_hates_23 : decode cX7_hates 23 = .ok (.ifCond .lt 8, 3) := by decide +kernel
theorem dX7_hates_26 : decode cX7_hates 26 = .ok (.iload_n 3, 1) := by decide +kernel
theorem dX7_hates_27 : decode cX7_hates 27 = .ok (.iconst 1, 1) := by decide +kernel
theorem dX7_hates_28 : decode cX7_hates 28 = .ok (.if_icmp .le 5, 3) := by decide +kernel
theorem dX7_hates_31 : decode cX7_hates 31 = .ok (.iconst (-1), 1) := by decide +kernel
theorem dX7_hates_32 : decode cX7_hates 32 = .ok (.ireturn, 1) := by decide +kernel
theorem dX7_hates_33 : decode cX7_hates 33 = .ok (.iload_n 1, 1) := by decide +kernel
theorem dX7_hates_34 : decode cX7_hates 34 = .ok (.iload_n 2, 1) := by decide +kernel
theorem dX7_hates_35 : decode cX7_hates 35 = .ok (.if_icmp .ne 6, 3) := by decide +kernel
theorem dX7_hates_38 : decode cX7_hates 38 = .ok (.bipush (-2), 2) := by decide +kernel
theorem dX7_hates_40 : decode cX7_hates 40 = .ok (.ireturn, 1) := by decide +kernel
theorem dX7_hates_41 : decode cX7_hates 41 = .ok (.iconst 0, 1) := by decide +kernel
theorem dX7_hates_42 : decode cX7_hates 42 = .ok (.istore 4, 2) := by decide +kernel
theorem dX7_hates_44 : decode cX7_hates 44 = .ok (.bipush (-5), 2) := by decide +kernel
theorem dX7_hates_46 : decode cX7_hates 46 = .ok (.istore 5, 2) := by decide +kernel
theorem dX7_hates_48 : decode cX7_hates 48 = .ok (.iconst 0, 1) := by decide +kernel
theorem dX7_hates_49 : decode cX7_hates 49 = .ok (.istore 6, 2) := by decide +kernel
theorem dX7_hates_51 : decode cX7_hates 51 = .ok (.iload 6, 2) := by decide +kernel
theorem dX7_hates_53 : decode cX7_hates 53 = .ok (.bipush 99, 2) := by decide +kernel
theorem dX7_hates_55 : decode cX7_hates 55 = .ok (.if_icmp .gt 40, 3) := by decide +kernel
theorem dX7_hates_58 : decode cX7_hates 58 = .ok (.aload_n 0, 1) := by decide +kernel
theorem dX7_hates_59 : decode cX7_hates 59 = .ok (.getfield 14, 3) := by decide +kernel
theorem dX7_hates_62 : decode cX7_hates 62 = .ok (.iload_n 1, 1) := by decide +kernel
theorem dX7_hates_63 : decode cX7_hates 63 = .ok (.iload_n 2, 1) := by decide +kernel
theorem dX7_hates_64 : decode cX7_hates 64 = .ok (.iload 6, 2) := by decide +kernel
theorem dX7_hates_66 : decode cX7_hates 66 = .ok (.invokevirtual 187, 3) := by decide +kernel
theorem dX7_hates_69 : decode cX7_hates 69 = .ok (.ifCond .eq 20, 3) := by decide +kernel
theorem dX7_hates_72 : decode cX7_hates 72 = .ok (.iload 4, 2) := by decide +kernel
theorem dX7_hates_74 : decode cX7_hates 74 = .ok (.ifCond .ne 8, 3) := by decide +kernel
theorem dX7_hates_77 : decode cX7_hates 77 = .ok (.iload 6, 2) := by decide +kernel
theorem dX7_hates_79 : decode cX7_hates 79 = .ok (.goto 5, 3) := by decide +kernel
theorem dX7_hates_82 : decode cX7_hates 82 = .ok (.iload 5, 2) := by decide +kernel
theorem dX7_hates_84 : decode cX7_hates 84 = .ok (.istore 5, 2) := by decide +kernel
theorem dX7_hates_86 : decode cX7_hates 86 = .ok (.iinc 4 1, 3) := by decide +kernel
theorem dX7_hates_89 : decode cX7_hates 89 = .ok (.iinc 6 1, 3) := by decide +kernel
theorem dX7_hates_92 : decode cX7_hates 92 = .ok (.goto (-41), 3) := by decide +kernel
theorem dX7_hates_95 : decode cX7_hates 95 = .ok (.iload_n 3, 1) := by decide +kernel
theorem dX7_hates_96 : decode cX7_hates 96 = .ok (.ifCond .ne 8, 3) := by decide +kernel
theorem dX7_hates_99 : decode cX7_hates 99 = .ok (.iload 4, 2) := by decide +kernel
theorem dX7_hates_101 : decode cX7_hates 101 = .ok (.goto 5, 3) := by decide +kernel
theorem dX7_hates_104 : decode cX7_hates 104 = .ok (.iload 5, 2) := by decide +kernel
theorem dX7_hates_106 : decode cX7_hates 106 = .ok (.ireturn, 1) := by decide +kernel
theorem dX7_can_0 : decode cX7_can 0 = .ok (.aload_n 0, 1) := by decide +kernel
theorem dX7_can_1 : decode cX7_can 1 = .ok (.getfield 14, 3) := by decide +kernel
theorem dX7_can_4 : decode cX7_can 4 = .ok (.iload_n 1, 1) := by decide +kernel
theorem dX7_can_5 : decode cX7_can 5 = .ok (.invokevirtual 63, 3) := by decide +kernel
theorem dX7_can_8 : decode cX7_can 8 = .ok (.ifCond .eq 12, 3) := by decide +kernel
theorem dX7_can_11 : decode cX7_can 11 = .ok (.iload_n 2, 1) := by decide +kernel
theorem dX7_can_12 : decode cX7_can 12 = .ok (.ifCond .lt 8, 3) := by decide +kernel
theorem dX7_can_15 : decode cX7_can 15 = .ok (.iload_n 2, 1) := by decide +kernel
theorem dX7_can_16 : decode cX7_can 16 = .ok (.iconst 1, 1) := by decide +kernel
theorem dX7_can_17 : decode cX7_can 17 = .ok (.if_icmp .le 5, 3) := by decide +kernel
theorem dX7_can_20 : decode cX7_can 20 = .ok (.iconst (-1), 1) := by decide +kernel
theorem dX7_can_21 : decode cX7_can 21 = .ok (.ireturn, 1) := by decide +kernel
theorem dX7_can_22 : decode cX7_can 22 = .ok (.iconst 0, 1) := by decide +kernel
theorem dX7_can_23 : decode cX7_can 23 = .ok (.istore_n 3, 1) := by decide +kernel
theorem dX7_can_24 : decode cX7_can 24 = .ok (.bipush (-5), 2) := by decide +kernel
theorem dX7_can_26 : decode cX7_can 26 = .ok (.istore 4, 2) := by decide +kernel
theorem dX7_can_28 : decode cX7_can 28 = .ok (.iconst 0, 1) := by decide +kernel
theorem dX7_can_29 : decode cX7_can 29 = .ok (.istore 5, 2) := by decide +kernel
theorem dX7_can_31 : decode cX7_can 31 = .ok (.iload 5, 2) := by decide +kernel
theorem dX7_can_33 : decode cX7_can 33 = .ok (.bipush 9, 2) := by decide +kernel
theorem dX7_can_35 : decode cX7_can 35 = .ok (.if_icmp .gt 38, 3) := by decide +kernel
theorem dX7_can_38 : decode cX7_can 38 = .ok (.aload_n 0, 1) := by decide +kernel
theorem dX7_can_39 : decode cX7_can 39 = .ok (.getfield 14, 3) := by decide +kernel
theorem dX7_can_42 : decode cX7_can 42 = .ok (.iload_n 1, 1) := by decide +kernel
theorem dX7_can_43 : decode cX7_can 43 = .ok (.iload 5, 2) := by decide +kernel
theorem dX7_can_45 : decode cX7_can 45 = .ok (.invokevirtual 190, 3) := by decide +kernel
theorem dX7_can_48 : decode cX7_can 48 = .ok (.ifCond .eq 19, 3) := by decide +kernel
theorem dX7_can_51 : decode cX7_can 51 = .ok (.iload_n 3, 1) := by decide +kernel
theorem dX7_can_52 : decode cX7_can 52 = .ok (.ifCond .ne 8, 3) := by decide +kernel
theorem dX7_can_55 : decode cX7_can 55 = .ok (.iload 5, 2) := by decide +kernel
theorem dX7_can_57 : decode cX7_can 57 = .ok (.goto 5, 3) := by decide +kernel
theorem dX7_can_60 : decode cX7_can 60 = .ok (.iload 4, 2) := by decide +kernel
theorem dX7_can_62 : decode cX7_can 62 = .ok (.istore 4, 2) := by decide +kernel
theorem dX7_can_64 : decode cX7_can 64 = .ok (.iinc 3 1, 3) := by decide +kernel
theorem dX7_can_67 : decode cX7_can 67 = .ok (.iinc 5 1, 3) := by decide +kernel
theorem dX7_can_70 : decode cX7_can 70 = .ok (.goto (-39), 3) := by decide +kernel
theorem dX7_can_73 : decode cX7_can 73 = .ok (.iload_n 2, 1) := by decide +kernel
theorem dX7_can_74 : decode cX7_can 74 = .ok (.ifCond .ne 7, 3) := by decide +kernel
theorem dX7_can_77 : decode cX7_can 77 = .ok (.iload_n 3, 1) := by decide +kernel
theorem dX7_can_78 : decode cX7_can 78 = .ok (.goto 5, 3) := by decide +kernel
theorem dX7_can_81 : decode cX7_can 81 = .ok (.iload 4, 2) := by decide +kernel
theorem dX7_can_83 : decode cX7_can 83 = .ok (.ireturn, 1) := by decide +kernel
theorem dX7_odds_0 : decode cX7_odds 0 = .ok (.aload_n 0, 1) := by decide +kernel
theorem dX7_odds_1 : decode cX7_odds 1 = .ok (.getfield 14, 3) := by decide +kernel
theorem dX7_odds_4 : decode cX7_odds 4 = .ok (.iload_n 1, 1) := by decide +kernel
theorem dX7_odds_5 : decode cX7_odds 5 = .ok (.invokevirtual 63, 3) := by decide +kernel
theorem dX7_odds_8 : decode cX7_odds 8 = .ok (.ifCond .eq 14, 3) := by decide +kernel
theorem dX7_odds_11 : decode cX7_odds 11 = .ok (.aload_n 0, 1) := by decide +kernel
theorem dX7_odds_12 : decode cX7_odds 12 = .ok (.getfield 14, 3) := by decide +kernel
theorem dX7_odds_15 : decode cX7_odds 15 = .ok (.getfield 194, 3) := by decide +kernel
theorem dX7_odds_18 : decode cX7_odds 18 = .ok (.iconst 2, 1) := by decide +kernel
theorem dX7_odds_19 : decode cX7_odds 19 = .ok (.if_icmp .ge 7, 3) := by decide +kernel
theorem dX7_odds_22 : decode cX7_odds 22 = .ok (.ldc2_w 197, 3) := by decide +kernel
theorem dX7_odds_25 : decode cX7_odds 25 = .ok (.lreturn, 1) := by decide +kernel
theorem dX7_odds_26 : decode cX7_odds 26 = .ok (.aload_n 0, 1) := by decide +kernel
theorem dX7_odds_27 : decode cX7_odds 27 = .ok (.getfield 14, 3) := by decide +kernel
theorem dX7_odds_30 : decode cX7_odds 30 = .ok (.iload_n 1, 1) := by decide +kernel
theorem dX7_odds_31 : decode cX7_odds 31 = .ok (.aload_n 0, 1) := by decide +kernel
theorem dX7_odds_32 : decode cX7_odds 32 = .ok (.getfield 14, 3) := by decide +kernel
theorem dX7_odds_35 : decode cX7_odds 35 = .ok (.getfield 87, 3) := by decide +kernel
theorem dX7_odds_38 : decode cX7_odds 38 = .ok (.invokevirtual 90, 3) := by decide +kernel
theorem dX7_odds_41 : decode cX7_odds 41 = .ok (.istore_n 3, 1) := by decide +kernel
theorem dX7_odds_42 : decode cX7_odds 42 = .ok (.iconst 0, 1) := by decide +kernel
theorem dX7_odds_43 : decode cX7_odds 43 = .ok (.istore 4, 2) := by decide +kernel
theorem dX7_odds_45 : decode cX7_odds 45 = .ok (.iconst 0, 1) := by decide +kernel
theorem dX7_odds_46 : decode cX7_odds 46 = .ok (.istore 5, 2) := by decide +kernel
theorem dX7_odds_48 : decode cX7_odds 48 = .ok (.iload 5, 2) := by decide +kernel
theorem dX7_odds_50 : decode cX7_odds 50 = .ok (.aload_n 0, 1) := by decide +kernel
theorem dX7_odds_51 : decode cX7_odds 51 = .ok (.getfield 14, 3) := by decide +kernel
theorem dX7_odds_54 : decode cX7_odds 54 = .ok (.getfield 194, 3) := by decide +kernel
theorem dX7_odds_57 : decode cX7_odds 57 = .ok (.if_icmp .ge 29, 3) := by decide +kernel
theorem dX7_odds_60 : decode cX7_odds 60 = .ok (.iload 5, 2) := by decide +kernel
theorem dX7_odds_62 : decode cX7_odds 62 = .ok (.iload_n 1, 1) := by decide +kernel
theorem dX7_odds_63 : decode cX7_odds 63 = .ok (.if_icmp .eq 17, 3) := by decide +kernel
theorem dX7_odds_66 : decode cX7_odds 66 = .ok (.iload_n 3, 1) := by decide +kernel
theorem dX7_odds_67 : decode cX7_odds 67 = .ok (.iconst 1, 1) := by decide +kernel
theorem dX7_odds_68 : decode cX7_odds 68 = .ok (.iload 5, 2) := by decide +kernel
theorem dX7_odds_70 : decode cX7_odds 70 = .ok (.ishl, 1) := by decide +kernel
theorem dX7_odds_71 : decode cX7_odds 71 = .ok (.iconst (-1), 1) := by decide +kernel
theorem dX7_odds_72 : decode cX7_odds 72 = .ok (.ixor, 1) := by decide +kernel
theorem dX7_odds_73 : decode cX7_odds 73 = .ok (.iand, 1) := by decide +kernel
theorem dX7_odds_74 : decode cX7_odds 74 = .ok (.ifCond .eq 6, 3) := by decide +kernel
theorem dX7_odds_77 : decode cX7_odds 77 = .ok (.iinc 4 1, 3) := by decide +kernel
theorem dX7_odds_80 : decode cX7_odds 80 = .ok (.iinc 5 1, 3) := by decide +kernel
theorem dX7_odds_83 : decode cX7_odds 83 = .ok (.goto (-35), 3) := by decide +kernel
theorem dX7_odds_86 : decode cX7_odds 86 = .ok (.iload 4, 2) := by decide +kernel
theorem dX7_odds_88 : decode cX7_odds 88 = .ok (.aload_n 0, 1) := by decide +kernel
theorem dX7_odds_89 : decode cX7_odds 89 = .ok (.getfield 14, 3) := by decide +kernel
theorem dX7_odds_92 : decode cX7_odds 92 = .ok (.getfield 194, 3) := by decide +kernel
theorem dX7_odds_95 : decode cX7_odds 95 = .ok (.iconst 1, 1) := by decide +kernel
theorem dX7_odds_96 : decode cX7_odds 96 = .ok (.isub, 1) := by decide +kernel
theorem dX7_odds_97 : decode cX7_odds 97 = .ok (.iload_n 2, 1) := by decide +kernel
theorem dX7_odds_98 : decode cX7_odds 98 = .ok (.invokestatic 199, 3) := by decide +kernel
theorem dX7_odds_101 : decode cX7_odds 101 = .ok (.lreturn, 1) := by decide +kernel
theorem dX7_mean_0 : decode cX7_mean 0 = .ok (.aload_n 0, 1) := by decide +kernel
theorem dX7_mean_1 : decode cX7_mean 1 = .ok (.getfield 14, 3) := by decide +kernel
theorem dX7_mean_4 : decode cX7_mean 4 = .ok (.invokevirtual 142, 3) := by decide +kernel
theorem dX7_mean_7 : decode cX7_mean 7 = .ok (.aload_n 0, 1) := by decide +kernel
theorem dX7_mean_8 : decode cX7_mean 8 = .ok (.getfield 14, 3) := by decide +kernel
theorem dX7_mean_11 : decode cX7_mean 11 = .ok (.getfield 194, 3) := by decide +kernel
theorem dX7_mean_14 : decode cX7_mean 14 = .ok (.iload_n 1, 1) := by decide +kernel
theorem dX7_mean_15 : decode cX7_mean 15 = .ok (.invokestatic 199, 3) := by decide +kernel
theorem dX7_mean_18 : decode cX7_mean 18 = .ok (.lreturn, 1) := by decide +kernel
theorem dX7_plan_0 : decode cX7_plan 0 = .ok (.iload_n 1, 1) := by decide +kernel
theorem dX7_plan_1 : decode cX7_plan 1 = .ok (.iconst (-1), 1) := by decide +kernel
theorem dX7_plan_2 : decode cX7_plan 2 = .ok (.if_icmp .ne 14, 3) := by decide +kernel
theorem dX7_plan_5 : decode cX7_plan 5 = .ok (.aload_n 0, 1) := by decide +kernel
theorem dX7_plan_6 : decode cX7_plan 6 = .ok (.getfield 14, 3) := by decide +kernel
theorem dX7_plan_9 : decode cX7_plan 9 = .ok (.getfield 203, 3) := by decide +kernel
theorem dX7_plan_12 : decode cX7_plan 12 = .ok (.invokevirtual 179, 3) := by decide +kernel
theorem dX7_plan_15 : decode cX7_plan 15 = .ok (.ireturn, 1) := by decide +kernel
theorem dX7_plan_16 : decode cX7_plan 16 = .ok (.iload_n 1, 1) := by decide +kernel
theorem dX7_plan_17 : decode cX7_plan 17 = .ok (.ifCond .lt 23, 3) := by decide +kernel
theorem dX7_plan_20 : decode cX7_plan 20 = .ok (.iload_n 1, 1) := by decide +kernel
theorem dX7_plan_21 : decode cX7_plan 21 = .ok (.iconst 3, 1) := by decide +kernel
theorem dX7_plan_22 : decode cX7_plan 22 = .ok (.if_icmp .gt 18, 3) := by decide +kernel
theorem dX7_plan_25 : decode cX7_plan 25 = .ok (.iload_n 1, 1) := by decide +kernel
theorem dX7_plan_26 : decode cX7_plan 26 = .ok (.ifCond .eq 16, 3) := by decide +kernel
theorem dX7_plan_29 : decode cX7_plan 29 = .ok (.aload_n 0, 1) := by decide +kernel
theorem dX7_plan_30 : decode cX7_plan 30 = .ok (.getfield 14, 3) := by decide +kernel
theorem dX7_plan_33 : decode cX7_plan 33 = .ok (.iload_n 2, 1) := by decide +kernel
theorem dX7_plan_34 : decode cX7_plan 34 = .ok (.invokevirtual 63, 3) := by decide +kernel
theorem dX7_plan_37 : decode cX7_plan 37 = .ok (.ifCond .ne 5, 3) := by decide +kernel
theorem dX7_plan_40 : decode cX7_plan 40 = .ok (.iconst (-1), 1) := by decide +kernel
theorem dX7_plan_41 : decode cX7_plan 41 = .ok (.ireturn, 1) := by decide +kernel
theorem dX7_plan_42 : decode cX7_plan 42 = .ok (.aload_n 0, 1) := by decide +kernel
theorem dX7_plan_43 : decode cX7_plan 43 = .ok (.getfield 14, 3) := by decide +kernel
theorem dX7_plan_46 : decode cX7_plan 46 = .ok (.getfield 203, 3) := by decide +kernel
theorem dX7_plan_49 : decode cX7_plan 49 = .ok (.iload_n 1, 1) := by decide +kernel
theorem dX7_plan_50 : decode cX7_plan 50 = .ok (.iload_n 2, 1) := by decide +kernel
theorem dX7_plan_51 : decode cX7_plan 51 = .ok (.iconst 0, 1) := by decide +kernel
theorem dX7_plan_52 : decode cX7_plan 52 = .ok (.iconst 0, 1) := by decide +kernel
theorem dX7_plan_53 : decode cX7_plan 53 = .ok (.invokevirtual 184, 3) := by decide +kernel
theorem dX7_plan_56 : decode cX7_plan 56 = .ok (.ireturn, 1) := by decide +kernel
theorem dX7_ends_0 : decode cX7_ends 0 = .ok (.iload_n 1, 1) := by decide +kernel
theorem dX7_ends_1 : decode cX7_ends 1 = .ok (.ifCond .lt 8, 3) := by decide +kernel
theorem dX7_ends_4 : decode cX7_ends 4 = .ok (.iload_n 1, 1) := by decide +kernel
theorem dX7_ends_5 : decode cX7_ends 5 = .ok (.iconst 1, 1) := by decide +kernel
theorem dX7_ends_6 : decode cX7_ends 6 = .ok (.if_icmp .le 5, 3) := by decide +kernel
theorem dX7_ends_9 : decode cX7_ends 9 = .ok (.iconst (-1), 1) := by decide +kernel
theorem dX7_ends_10 : decode cX7_ends 10 = .ok (.ireturn, 1) := by decide +kernel
theorem dX7_ends_11 : decode cX7_ends 11 = .ok (.aload_n 0, 1) := by decide +kernel
theorem dX7_ends_12 : decode cX7_ends 12 = .ok (.getfield 21, 3) := by decide +kernel
theorem dX7_ends_15 : decode cX7_ends 15 = .ok (.aload_n 0, 1) := by decide +kernel
theorem dX7_ends_16 : decode cX7_ends 16 = .ok (.getfield 14, 3) := by decide +kernel
theorem dX7_ends_19 : decode cX7_ends 19 = .ok (.invokevirtual 160, 3) := by decide +kernel
theorem dX7_ends_22 : decode cX7_ends 22 = .ok (.iconst 0, 1) := by decide +kernel
theorem dX7_ends_23 : decode cX7_ends 23 = .ok (.istore_n 2, 1) := by decide +kernel
theorem dX7_ends_24 : decode cX7_ends 24 = .ok (.iload_n 2, 1) := by decide +kernel
theorem dX7_ends_25 : decode cX7_ends 25 = .ok (.aload_n 0, 1) := by decide +kernel
theorem dX7_ends_26 : decode cX7_ends 26 = .ok (.getfield 14, 3) := by decide +kernel
theorem dX7_ends_29 : decode cX7_ends 29 = .ok (.getfield 203, 3) := by decide +kernel
theorem dX7_ends_32 : decode cX7_ends 32 = .ok (.getfield 206, 3) := by decide +kernel
theorem dX7_ends_35 : decode cX7_ends 35 = .ok (.if_icmp .ge 58, 3) := by decide +kernel
theorem dX7_ends_38 : decode cX7_ends 38 = .ok (.aload_n 0, 1) := by decide +kernel
theorem dX7_ends_39 : decode cX7_ends 39 = .ok (.getfield 14, 3) := by decide +kernel
theorem dX7_ends_42 : decode cX7_ends 42 = .ok (.getfield 203, 3) := by decide +kernel
theorem dX7_ends_45 : decode cX7_ends 45 = .ok (.iload_n 2, 1) := by decide +kernel
theorem dX7_ends_46 : decode cX7_ends 46 = .ok (.iconst 0, 1) := by decide +kernel
theorem dX7_ends_47 : decode cX7_ends 47 = .ok (.invokevirtual 209, 3) := by decide +kernel
theorem dX7_ends_50 : decode cX7_ends 50 = .ok (.istore_n 3, 1) := by decide +kernel
theorem dX7_ends_51 : decode cX7_ends 51 = .ok (.iload_n 3, 1) := by decide +kernel
theorem dX7_ends_52 : decode cX7_ends 52 = .ok (.ifCond .ne 15, 3) := by decide +kernel
theorem dX7_ends_55 : decode cX7_ends 55 = .ok (.aload_n 0, 1) := by decide +kernel
theorem dX7_ends_56 : decode cX7_ends 56 = .ok (.getfield 21, 3) := by decide +kernel
theorem dX7_ends_59 : decode cX7_ends 59 = .ok (.ldc 164, 2) := by decide +kernel
theorem dX7_ends_61 : decode cX7_ends 61 = .ok (.invokevirtual 156, 3) := by decide +kernel
theorem dX7_ends_64 : decode cX7_ends 64 = .ok (.goto 23, 3) := by decide +kernel
theorem dX7_ends_67 : decode cX7_ends 67 = .ok (.aload_n 0, 1) := by decide +kernel
theorem dX7_ends_68 : decode cX7_ends 68 = .ok (.getfield 21, 3) := by decide +kernel
theorem dX7_ends_71 : decode cX7_ends 71 = .ok (.iload_n 3, 1) := by decide +kernel
theorem dX7_ends_72 : decode cX7_ends 72 = .ok (.aload_n 0, 1) := by decide +kernel
theorem dX7_ends_73 : decode cX7_ends 73 = .ok (.getfield 14, 3) := by decide +kernel
theorem dX7_ends_76 : decode cX7_ends 76 = .ok (.getfield 203, 3) := by decide +kernel
theorem dX7_ends_79 : decode cX7_ends 79 = .ok (.iload_n 2, 1) := by decide +kernel
theorem dX7_ends_80 : decode cX7_ends 80 = .ok (.iconst 1, 1) := by decide +kernel
theorem dX7_ends_81 : decode cX7_ends 81 = .ok (.invokevirtual 209, 3) := by decide +kernel
theorem dX7_ends_84 : decode cX7_ends 84 = .ok (.invokevirtual 212, 3) := by decide +kernel
theorem dX7_ends_87 : decode cX7_ends 87 = .ok (.iinc 2 1, 3) := by decide +kernel
theorem dX7_ends_90 : decode cX7_ends 90 = .ok (.goto (-66), 3) := by decide +kernel
theorem dX7_ends_93 : decode cX7_ends 93 = .ok (.iload_n 1, 1) := by decide +kernel
theorem dX7_ends_94 : decode cX7_ends 94 = .ok (.ifCond .ne 13, 3) := by decide +kernel
theorem dX7_ends_97 : decode cX7_ends 97 = .ok (.aload_n 0, 1) := by decide +kernel
theorem dX7_ends_98 : decode cX7_ends 98 = .ok (.getfield 21, 3) := by decide +kernel
theorem dX7_ends_101 : decode cX7_ends 101 = .ok (.getfield 81, 3) := by decide +kernel
theorem dX7_ends_104 : decode cX7_ends 104 = .ok (.goto 10, 3) := by decide +kernel
theorem dX7_ends_107 : decode cX7_ends 107 = .ok (.aload_n 0, 1) := by decide +kernel
theorem dX7_ends_108 : decode cX7_ends 108 = .ok (.getfield 21, 3) := by decide +kernel
theorem dX7_ends_111 : decode cX7_ends 111 = .ok (.invokevirtual 142, 3) := by decide +kernel
theorem dX7_ends_114 : decode cX7_ends 114 = .ok (.ireturn, 1) := by decide +kernel
theorem dX7_book_0 : decode cX7_book 0 = .ok (.iload_n 1, 1) := by decide +kernel
theorem dX7_book_1 : decode cX7_book 1 = .ok (.iconst (-1), 1) := by decide +kernel
theorem dX7_book_2 : decode cX7_book 2 = .ok (.if_icmp .ne 14, 3) := by decide +kernel
theorem dX7_book_5 : decode cX7_book 5 = .ok (.aload_n 0, 1) := by decide +kernel
theorem dX7_book_6 : decode cX7_book 6 = .ok (.getfield 14, 3) := by decide +kernel
theorem dX7_book_9 : decode cX7_book 9 = .ok (.getfield 216, 3) := by decide +kernel
theorem dX7_book_12 : decode cX7_book 12 = .ok (.invokevirtual 179, 3) := by decide +kernel
theorem dX7_book_15 : decode cX7_book 15 = .ok (.ireturn, 1) := by decide +kernel
theorem dX7_book_16 : decode cX7_book 16 = .ok (.aload_n 0, 1) := by decide +kernel
theorem dX7_book_17 : decode cX7_book 17 = .ok (.getfield 14, 3) := by decide +kernel
theorem dX7_book_20 : decode cX7_book 20 = .ok (.iload_n 1, 1) := by decide +kernel
theorem dX7_book_21 : decode cX7_book 21 = .ok (.invokevirtual 63, 3) := by decide +kernel
theorem dX7_book_24 : decode cX7_book 24 = .ok (.ifCond .eq 14, 3) := by decide +kernel
theorem dX7_book_27 : decode cX7_book 27 = .ok (.aload_n 0, 1) := by decide +kernel
theorem dX7_book_28 : decode cX7_book 28 = .ok (.getfield 14, 3) := by decide +kernel
theorem dX7_book_31 : decode cX7_book 31 = .ok (.iload_n 2, 1) := by decide +kernel
theorem dX7_book_32 : decode cX7_book 32 = .ok (.invokevirtual 63, 3) := by decide +kernel
theorem dX7_book_35 : decode cX7_book 35 = .ok (.ifCond .ne 5, 3) := by decide +kernel
theorem dX7_book_38 : decode cX7_book 38 = .ok (.iconst (-1), 1) := by decide +kernel
theorem dX7_book_39 : decode cX7_book 39 = .ok (.ireturn, 1) := by decide +kernel
theorem dX7_book_40 : decode cX7_book 40 = .ok (.iload_n 1, 1) := by decide +kernel
theorem dX7_book_41 : decode cX7_book 41 = .ok (.iload_n 2, 1) := by decide +kernel
theorem dX7_book_42 : decode cX7_book 42 = .ok (.if_icmp .eq 13, 3) := by decide +kernel
theorem dX7_book_45 : decode cX7_book 45 = .ok (.iload_n 3, 1) := by decide +kernel
theorem dX7_book_46 : decode cX7_book 46 = .ok (.ifCond .lt 9, 3) := by decide +kernel
theorem dX7_book_49 : decode cX7_book 49 = .ok (.iload_n 3, 1) := by decide +kernel
theorem dX7_book_50 : decode cX7_book 50 = .ok (.bipush 99, 2) := by decide +kernel
theorem dX7_book_52 : decode cX7_book 52 = .ok (.if_icmp .le 6, 3) := by decide +kernel
theorem dX7_book_55 : decode cX7_book 55 = .ok (.bipush (-2), 2) := by decide +kernel
theorem dX7_book_57 : decode cX7_book 57 = .ok (.ireturn, 1) := by decide +kernel
theorem dX7_book_58 : decode cX7_book 58 = .ok (.aload_n 0, 1) := by decide +kernel
theorem dX7_book_59 : decode cX7_book 59 = .ok (.getfield 14, 3) := by decide +kernel
theorem dX7_book_62 : decode cX7_book 62 = .ok (.getfield 216, 3) := by decide +kernel
theorem dX7_book_65 : decode cX7_book 65 = .ok (.iload_n 1, 1) := by decide +kernel
theorem dX7_book_66 : decode cX7_book 66 = .ok (.iload_n 2, 1) := by decide +kernel
theorem dX7_book_67 : decode cX7_book 67 = .ok (.iload_n 3, 1) := by decide +kernel
theorem dX7_book_68 : decode cX7_book 68 = .ok (.iconst 0, 1) := by decide +kernel
theorem dX7_book_69 : decode cX7_book 69 = .ok (.invokevirtual 184, 3) := by decide +kernel
theorem dX7_book_72 : decode cX7_book 72 = .ok (.ireturn, 1) := by decide +kernel
theorem dX7_looked_0 : decode cX7_looked 0 = .ok (.iconst 0, 1) := by decide +kernel
theorem dX7_looked_1 : decode cX7_looked 1 = .ok (.istore_n 1, 1) := by decide +kernel
theorem dX7_looked_2 : decode cX7_looked 2 = .ok (.iload_n 1, 1) := by decide +kernel
theorem dX7_looked_3 : decode cX7_looked 3 = .ok (.aload_n 0, 1) := by decide +kernel
theorem dX7_looked_4 : decode cX7_looked 4 = .ok (.getfield 14, 3) := by decide +kernel
theorem dX7_looked_7 : decode cX7_looked 7 = .ok (.getfield 216, 3) := by decide +kernel
theorem dX7_looked_10 : decode cX7_looked 10 = .ok (.getfield 206, 3) := by decide +kernel
theorem dX7_looked_13 : decode cX7_looked 13 = .ok (.if_icmp .ge 57, 3) := by decide +kernel
theorem dX7_looked_16 : decode cX7_looked 16 = .ok (.aload_n 0, 1) := by decide +kernel
theorem dX7_looked_17 : decode cX7_looked 17 = .ok (.getfield 14, 3) := by decide +kernel
theorem dX7_looked_20 : decode cX7_looked 20 = .ok (.aload_n 0, 1) := by decide +kernel
theorem dX7_looked_21 : decode cX7_looked 21 = .ok (.getfield 14, 3) := by decide +kernel
theorem dX7_looked_24 : decode cX7_looked 24 = .ok (.getfield 216, 3) := by decide +kernel
theorem dX7_looked_27 : decode cX7_looked 27 = .ok (.iload_n 1, 1) := by decide +kernel
theorem dX7_looked_28 : decode cX7_looked 28 = .ok (.iconst 0, 1) := by decide +kernel
theorem dX7_looked_29 : decode cX7_looked 29 = .ok (.invokevirtual 209, 3) := by decide +kernel
theorem dX7_looked_32 : decode cX7_looked 32 = .ok (.aload_n 0, 1) := by decide +kernel
theorem dX7_looked_33 : decode cX7_looked 33 = .ok (.getfield 14, 3) := by decide +kernel
theorem dX7_looked_36 : decode cX7_looked 36 = .ok (.getfield 216, 3) := by decide +kernel
theorem dX7_looked_39 : decode cX7_looked 39 = .ok (.iload_n 1, 1) := by decide +kernel
theorem dX7_looked_40 : decode cX7_looked 40 = .ok (.iconst 1, 1) := by decide +kernel
theorem dX7_looked_41 : decode cX7_looked 41 = .ok (.invokevirtual 209, 3) := by decide +kernel
theorem dX7_looked_44 : decode cX7_looked 44 = .ok (.invokevirtual 97, 3) := by decide +kernel
theorem dX7_looked_47 : decode cX7_looked 47 = .ok (.aload_n 0, 1) := by decide +kernel
theorem dX7_looked_48 : decode cX7_looked 48 = .ok (.getfield 14, 3) := by decide +kernel
theorem dX7_looked_51 : decode cX7_looked 51 = .ok (.getfield 216, 3) := by decide +kernel
theorem dX7_looked_54 : decode cX7_looked 54 = .ok (.iload_n 1, 1) := by decide +kernel
theorem dX7_looked_55 : decode cX7_looked 55 = .ok (.iconst 2, 1) := by decide +kernel
theorem dX7_looked_56 : decode cX7_looked 56 = .ok (.invokevirtual 209, 3) := by decide +kernel
theorem dX7_looked_59 : decode cX7_looked 59 = .ok (.if_icmp .eq 5, 3) := by decide +kernel
theorem dX7_looked_62 : decode cX7_looked 62 = .ok (.iload_n 1, 1) := by decide +kernel
theorem dX7_looked_63 : decode cX7_looked 63 = .ok (.ireturn, 1) := by decide +kernel
theorem dX7_looked_64 : decode cX7_looked 64 = .ok (.iinc 1 1, 3) := by decide +kernel
theorem dX7_looked_67 : decode cX7_looked 67 = .ok (.goto (-65), 3) := by decide +kernel
theorem dX7_looked_70 : decode cX7_looked 70 = .ok (.bipush (-5), 2) := by decide +kernel
theorem dX7_looked_72 : decode cX7_looked 72 = .ok (.ireturn, 1) := by decide +kernel
theorem dX7_judge_0 : decode cX7_judge 0 = .ok (.iload_n 1, 1) := by decide +kernel
theorem dX7_judge_1 : decode cX7_judge 1 = .ok (.invokestatic 219, 3) := by decide +kernel
theorem dX7_judge_4 : decode cX7_judge 4 = .ok (.ifCond .ne 5, 3) := by decide +kernel
theorem dX7_judge_7 : decode cX7_judge 7 = .ok (.iconst (-1), 1) := by decide +kernel
theorem dX7_judge_8 : decode cX7_judge 8 = .ok (.ireturn, 1) := by decide +kernel
theorem dX7_judge_9 : decode cX7_judge 9 = .ok (.aload_n 0, 1) := by decide +kernel
theorem dX7_judge_10 : decode cX7_judge 10 = .ok (.getfield 53, 3) := by decide +kernel
theorem dX7_judge_13 : decode cX7_judge 13 = .ok (.iload_n 1, 1) := by decide +kernel
theorem dX7_judge_14 : decode cX7_judge 14 = .ok (.aaload, 1) := by decide +kernel
theorem dX7_judge_15 : decode cX7_judge 15 = .ok (.astore_n 3, 1) := by decide +kernel
theorem dX7_judge_16 : decode cX7_judge 16 = .ok (.aload_n 3, 1) := by decide +kernel
theorem dX7_judge_17 : decode cX7_judge 17 = .ok (.getfield 222, 3) := by decide +kernel
theorem dX7_judge_20 : decode cX7_judge 20 = .ok (.iconst 4, 1) := by decide +kernel
theorem dX7_judge_21 : decode cX7_judge 21 = .ok (.if_icmp .eq 14, 3) := by decide +kernel
theorem dX7_judge_24 : decode cX7_judge 24 = .ok (.aload_n 3, 1) := by decide +kernel
theorem dX7_judge_25 : decode cX7_judge 25 = .ok (.getfield 222, 3) := by decide +kernel
theorem dX7_judge_28 : decode cX7_judge 28 = .ok (.iconst (-1), 1) := by decide +kernel
theorem dX7_judge_29 : decode cX7_judge 29 = .ok (.if_icmp .eq 6, 3) := by decide +kernel
theorem dX7_judge_32 : decode cX7_judge 32 = .ok (.bipush (-12), 2) := by decide +kernel
theorem dX7_judge_34 : decode cX7_judge 34 = .ok (.ireturn, 1) := by decide +kernel
theorem dX7_judge_35 : decode cX7_judge 35 = .ok (.aload_n 0, 1) := by decide +kernel
theorem dX7_judge_36 : decode cX7_judge 36 = .ok (.getfield 14, 3) := by decide +kernel
theorem dX7_judge_39 : decode cX7_judge 39 = .ok (.getfield 194, 3) := by decide +kernel
theorem dX7_judge_42 : decode cX7_judge 42 = .ok (.ifCond .ne 6, 3) := by decide +kernel
theorem dX7_judge_45 : decode cX7_judge 45 = .ok (.bipush (-5), 2) := by decide +kernel
theorem dX7_judge_47 : decode cX7_judge 47 = .ok (.ireturn, 1) := by decide +kernel
theorem dX7_judge_48 : decode cX7_judge 48 = .ok (.aload_n 3, 1) := by decide +kernel
theorem dX7_judge_49 : decode cX7_judge 49 = .ok (.iload_n 2, 1) := by decide +kernel
theorem dX7_judge_50 : decode cX7_judge 50 = .ok (.invokevirtual 225, 3) := by decide +kernel
theorem dX7_judge_53 : decode cX7_judge 53 = .ok (.ifCond .ne 6, 3) := by decide +kernel
theorem dX7_judge_56 : decode cX7_judge 56 = .ok (.bipush 100, 2) := by decide +kernel
theorem dX7_judge_58 : decode cX7_judge 58 = .ok (.ireturn, 1) := by decide +kernel
theorem dX7_judge_59 : decode cX7_judge 59 = .ok (.iconst 0, 1) := by decide +kernel
theorem dX7_judge_60 : decode cX7_judge 60 = .ok (.istore 4, 2) := by decide +kernel
theorem dX7_judge_62 : decode cX7_judge 62 = .ok (.iload 4, 2) := by decide +kernel
theorem dX7_judge_64 : decode cX7_judge 64 = .ok (.aload_n 0, 1) := by decide +kernel
theorem dX7_judge_65 : decode cX7_judge 65 = .ok (.getfield 14, 3) := by decide +kernel
theorem dX7_judge_68 : decode cX7_judge 68 = .ok (.getfield 194, 3) := by decide +kernel
theorem dX7_judge_71 : decode cX7_judge 71 = .ok (.if_icmp .ge 55, 3) := by decide +kernel
theorem dX7_judge_74 : decode cX7_judge 74 = .ok (.aload_n 3, 1) := by decide +kernel
theorem dX7_judge_75 : decode cX7_judge 75 = .ok (.iload_n 2, 1) := by decide +kernel
theorem dX7_judge_76 : decode cX7_judge 76 = .ok (.iload 4, 2) := by decide +kernel
theorem dX7_judge_78 : decode cX7_judge 78 = .ok (.iadd, 1) := by decide +kernel
theorem dX7_judge_79 : decode cX7_judge 79 = .ok (.invokevirtual 225, 3) := by decide +kernel
theorem dX7_judge_82 : decode cX7_judge 82 = .ok (.ifCond .ne 9, 3) := by decide +kernel
theorem dX7_judge_85 : decode cX7_judge 85 = .ok (.bipush 100, 2) := by decide +kernel
theorem dX7_judge_87 : decode cX7_judge 87 = .ok (.iload 4, 2) := by decide +kernel
theorem dX7_judge_89 : decode cX7_judge 89 = .ok (.iadd, 1) := by decide +kernel
theorem dX7_judge_90 : decode cX7_judge 90 = .ok (.ireturn, 1) := by decide +kernel
theorem dX7_judge_91 : decode cX7_judge 91 = .ok (.aload_n 3, 1) := by decide +kernel
theorem dX7_judge_92 : decode cX7_judge 92 = .ok (.getfield 226, 3) := by decide +kernel
theorem dX7_judge_95 : decode cX7_judge 95 = .ok (.iload_n 2, 1) := by decide +kernel
theorem dX7_judge_96 : decode cX7_judge 96 = .ok (.iload 4, 2) := by decide +kernel
theorem dX7_judge_98 : decode cX7_judge 98 = .ok (.iadd, 1) := by decide +kernel
theorem dX7_judge_99 : decode cX7_judge 99 = .ok (.laload, 1) := by decide +kernel
theorem dX7_judge_100 : decode cX7_judge 100 = .ok (.aload_n 0, 1) := by decide +kernel
theorem dX7_judge_101 : decode cX7_judge 101 = .ok (.getfield 14, 3) := by decide +kernel
theorem dX7_judge_104 : decode cX7_judge 104 = .ok (.getfield 74, 3) := by decide +kernel
theorem dX7_judge_107 : decode cX7_judge 107 = .ok (.iload 4, 2) := by decide +kernel
theorem dX7_judge_109 : decode cX7_judge 109 = .ok (.invokestatic 78, 3) := by decide +kernel
theorem dX7_judge_112 : decode cX7_judge 112 = .ok (.i2l, 1) := by decide +kernel
theorem dX7_judge_113 : decode cX7_judge 113 = .ok (.lcmp, 1) := by decide +kernel
theorem dX7_judge_114 : decode cX7_judge 114 = .ok (.ifCond .eq 6, 3) := by decide +kernel
theorem dX7_judge_117 : decode cX7_judge 117 = .ok (.iload 4, 2) := by decide +kernel
theorem dX7_judge_119 : decode cX7_judge 119 = .ok (.ireturn, 1) := by decide +kernel
theorem dX7_judge_120 : decode cX7_judge 120 = .ok (.iinc 4 1, 3) := by decide +kernel
theorem dX7_judge_123 : decode cX7_judge 123 = .ok (.goto (-61), 3) := by decide +kernel
theorem dX7_judge_126 : decode cX7_judge 126 = .ok (.bipush (-5), 2) := by decide +kernel
theorem dX7_judge_128 : decode cX7_judge 128 = .ok (.ireturn, 1) := by decide +kernel
theorem dX7_image_0 : decode cX7_image 0 = .ok (.aload_n 0, 1) := by decide +kernel
theorem dX7_image_1 : decode cX7_image 1 = .ok (.getfield 18, 3) := by decide +kernel
theorem dX7_image_4 : decode cX7_image 4 = .ok (.aload_n 0, 1) := by decide +kernel
theorem dX7_image_5 : decode cX7_image 5 = .ok (.getfield 14, 3) := by decide +kernel
theorem dX7_image_8 : decode cX7_image 8 = .ok (.invokevirtual 160, 3) := by decide +kernel
theorem dX7_image_11 : decode cX7_image 11 = .ok (.aload_n 0, 1) := by decide +kernel
theorem dX7_image_12 : decode cX7_image 12 = .ok (.iconst 1, 1) := by decide +kernel
theorem dX7_image_13 : decode cX7_image 13 = .ok (.putfield 230, 3) := by decide +kernel
theorem dX7_image_16 : decode cX7_image 16 = .ok (.aload_n 0, 1) := by decide +kernel
theorem dX7_image_17 : decode cX7_image 17 = .ok (.getfield 14, 3) := by decide +kernel
theorem dX7_image_20 : decode cX7_image 20 = .ok (.getfield 194, 3) := by decide +kernel
theorem dX7_image_23 : decode cX7_image 23 = .ok (.ireturn, 1) := by decide +kernel
theorem dX7_undo_0 : decode cX7_undo 0 = .ok (.aload_n 0, 1) := by decide +kernel
theorem dX7_undo_1 : decode cX7_undo 1 = .ok (.getfield 230, 3) := by decide +kernel
theorem dX7_undo_4 : decode cX7_undo 4 = .ok (.ifCond .ne 6, 3) := by decide +kernel
theorem dX7_undo_7 : decode cX7_undo 7 = .ok (.bipush (-3), 2) := by decide +kernel
theorem dX7_undo_9 : decode cX7_undo 9 = .ok (.ireturn, 1) := by decide +kernel
theorem dX7_undo_10 : decode cX7_undo 10 = .ok (.aload_n 0, 1) := by decide +kernel
theorem dX7_undo_11 : decode cX7_undo 11 = .ok (.getfield 14, 3) := by decide +kernel
theorem dX7_undo_14 : decode cX7_undo 14 = .ok (.aload_n 0, 1) := by decide +kernel
theorem dX7_undo_15 : decode cX7_undo 15 = .ok (.getfield 18, 3) := by decide +kernel
theorem dX7_undo_18 : decode cX7_undo 18 = .ok (.invokevirtual 160, 3) := by decide +kernel
theorem dX7_undo_21 : decode cX7_undo 21 = .ok (.aload_n 0, 1) := by decide +kernel
theorem dX7_undo_22 : decode cX7_undo 22 = .ok (.getfield 14, 3) := by decide +kernel
theorem dX7_undo_25 : decode cX7_undo 25 = .ok (.getfield 194, 3) := by decide +kernel
theorem dX7_undo_28 : decode cX7_undo 28 = .ok (.ireturn, 1) := by decide +kernel
theorem dX7_act_0 : decode cX7_act 0 = .ok (.aload_n 0, 1) := by decide +kernel
theorem dX7_act_1 : decode cX7_act 1 = .ok (.getfield 47, 3) := by decide +kernel
theorem dX7_act_4 : decode cX7_act 4 = .ok (.iconst 0, 1) := by decide +kernel
theorem dX7_act_5 : decode cX7_act 5 = .ok (.putfield 234, 3) := by decide +kernel
theorem dX7_act_8 : decode cX7_act 8 = .ok (.aload_n 0, 1) := by decide +kernel
theorem dX7_act_9 : decode cX7_act 9 = .ok (.getfield 14, 3) := by decide +kernel
theorem dX7_act_12 : decode cX7_act 12 = .ok (.iload_n 1, 1) := by decide +kernel
theorem dX7_act_13 : decode cX7_act 13 = .ok (.invokevirtual 63, 3) := by decide +kernel
theorem dX7_act_16 : decode cX7_act 16 = .ok (.ifCond .eq 12, 3) := by decide +kernel
theorem dX7_act_19 : decode cX7_act 19 = .ok (.iload_n 2, 1) := by decide +kernel
theorem dX7_act_20 : decode cX7_act 20 = .ok (.ifCond .lt 8, 3) := by decide +kernel
theorem dX7_act_23 : decode cX7_act 23 = .ok (.iload_n 2, 1) := by decide +kernel
theorem dX7_act_24 : decode cX7_act 24 = .ok (.iconst 3, 1) := by decide +kernel
theorem dX7_act_25 : decode cX7_act 25 = .ok (.if_icmp .lt 5, 3) := by decide +kernel
theorem dX7_act_28 : decode cX7_act 28 = .ok (.iconst 0, 1) := by decide +kernel
theorem dX7_act_29 : decode cX7_act 29 = .ok (.ireturn, 1) := by decide +kernel
theorem dX7_act_30 : decode cX7_act 30 = .ok (.aload_n 0, 1) := by decide +kernel
theorem dX7_act_31 : decode cX7_act 31 = .ok (.getfield 47, 3) := by decide +kernel
theorem dX7_act_34 : decode cX7_act 34 = .ok (.iload_n 1, 1) := by decide +kernel
theorem dX7_act_35 : decode cX7_act 35 = .ok (.putfield 237, 3) := by decide +kernel
theorem dX7_act_38 : decode cX7_act 38 = .ok (.aload_n 0, 1) := by decide +kernel
theorem dX7_act_39 : decode cX7_act 39 = .ok (.getfield 47, 3) := by decide +kernel
theorem dX7_act_42 : decode cX7_act 42 = .ok (.aload_n 0, 1) := by decide +kernel
theorem dX7_act_43 : decode cX7_act 43 = .ok (.getfield 14, 3) := by decide +kernel
theorem dX7_act_46 : decode cX7_act 46 = .ok (.getfield 67, 3) := by decide +kernel
theorem dX7_act_49 : decode cX7_act 49 = .ok (.iload_n 1, 1) := by decide +kernel
theorem dX7_act_50 : decode cX7_act 50 = .ok (.iaload, 1) := by decide +kernel
theorem dX7_act_51 : decode cX7_act 51 = .ok (.putfield 240, 3) := by decide +kernel
theorem dX7_act_54 : decode cX7_act 54 = .ok (.aload_n 0, 1) := by decide +kernel
theorem dX7_act_55 : decode cX7_act 55 = .ok (.getfield 47, 3) := by decide +kernel
theorem dX7_act_58 : decode cX7_act 58 = .ok (.aload_n 0, 1) := by decide +kernel
theorem dX7_act_59 : decode cX7_act 59 = .ok (.getfield 14, 3) := by decide +kernel
theorem dX7_act_62 : decode cX7_act 62 = .ok (.getfield 71, 3) := by decide +kernel
theorem dX7_act_65 : decode cX7_act 65 = .ok (.iload_n 1, 1) := by decide +kernel
theorem dX7_act_66 : decode cX7_act 66 = .ok (.iaload, 1) := by decide +kernel
theorem dX7_act_67 : decode cX7_act 67 = .ok (.putfield 243, 3) := by decide +kernel
theorem dX7_act_70 : decode cX7_act 70 = .ok (.aload_n 0, 1) := by decide +kernel
theorem dX7_act_71 : decode cX7_act 71 = .ok (.getfield 47, 3) := by decide +kernel
theorem dX7_act_74 : decode cX7_act 74 = .ok (.iload_n 2, 1) := by decide +kernel
theorem dX7_act_75 : decode cX7_act 75 = .ok (.aload_n 0, 1) := by decide +kernel
theorem dX7_act_76 : decode cX7_act 76 = .ok (.getfield 47, 3) := by decide +kernel
theorem dX7_act_79 : decode cX7_act 79 = .ok (.getfield 240, 3) := by decide +kernel
theorem dX7_act_82 : decode cX7_act 82 = .ok (.iload_n 3, 1) := by decide +kernel
theorem dX7_act_83 : decode cX7_act 83 = .ok (.iconst 0, 1) := by decide +kernel
theorem dX7_act_84 : decode cX7_act 84 = .ok (.invokestatic 246, 3) := by decide +kernel
theorem dX7_act_87 : decode cX7_act 87 = .ok (.ireturn, 1) := by decide +kernel
theorem dX7_trace_0 : decode cX7_trace 0 = .ok (.iload_n 1, 1) := by decide +kernel
theorem dX7_trace_1 : decode cX7_trace 1 = .ok (.ifCond .lt 20, 3) := by decide +kernel
theorem dX7_trace_4 : decode cX7_trace 4 = .ok (.iload_n 1, 1) := by decide +kernel
theorem dX7_trace_5 : decode cX7_trace 5 = .ok (.aload_n 0, 1) := by decide +kernel
theorem dX7_trace_6 : decode cX7_trace 6 = .ok (.getfield 47, 3) := by decide +kernel
theorem dX7_trace_9 : decode cX7_trace 9 = .ok (.getfield 234, 3) := by decide +kernel
theorem dX7_trace_12 : decode cX7_trace 12 = .ok (.if_icmp .ge 9, 3) := by decide +kernel
theorem dX7_trace_15 : decode cX7_trace 15 = .ok (.iload_n 1, 1) := by decide +kernel
theorem dX7_trace_16 : decode cX7_trace 16 = .ok (.bipush 20, 2) := by decide +kernel
theorem dX7_trace_18 : decode cX7_trace 18 = .ok (.if_icmp .lt 5, 3) := by decide +kernel
theorem dX7_trace_21 : decode cX7_trace 21 = .ok (.iconst (-1), 1) := by decide +kernel
theorem dX7_trace_22 : decode cX7_trace 22 = .ok (.ireturn, 1) := by decide +kernel
theorem dX7_trace_23 : decode cX7_trace 23 = .ok (.aload_n 0, 1) := by decide +kernel
theorem dX7_trace_24 : decode cX7_trace 24 = .ok (.getfield 47, 3) := by decide +kernel
theorem dX7_trace_27 : decode cX7_trace 27 = .ok (.getfield 250, 3) := by decide +kernel
theorem dX7_trace_30 : decode cX7_trace 30 = .ok (.iload_n 1, 1) := by decide +kernel
theorem dX7_trace_31 : decode cX7_trace 31 = .ok (.iaload, 1) := by decide +kernel
theorem dX7_trace_32 : decode cX7_trace 32 = .ok (.ireturn, 1) := by decide +kernel
theorem dX7_taken_0 : decode cX7_taken 0 = .ok (.iload_n 2, 1) := by decide +kernel
theorem dX7_taken_1 : decode cX7_taken 1 = .ok (.ifCond .lt 9, 3) := by decide +kernel
theorem dX7_taken_4 : decode cX7_taken 4 = .ok (.iload_n 2, 1) := by decide +kernel
theorem dX7_taken_5 : decode cX7_taken 5 = .ok (.bipush 7, 2) := by decide +kernel
theorem dX7_taken_7 : decode cX7_taken 7 = .ok (.if_icmp .lt 6, 3) := by decide +kernel
theorem dX7_taken_10 : decode cX7_taken 10 = .ok (.bipush (-2), 2) := by decide +kernel
theorem dX7_taken_12 : decode cX7_taken 12 = .ok (.ireturn, 1) := by decide +kernel
theorem dX7_taken_13 : decode cX7_taken 13 = .ok (.aload_n 0, 1) := by decide +kernel
theorem dX7_taken_14 : decode cX7_taken 14 = .ok (.getfield 14, 3) := by decide +kernel
theorem dX7_taken_17 : decode cX7_taken 17 = .ok (.iload_n 1, 1) := by decide +kernel
theorem dX7_taken_18 : decode cX7_taken 18 = .ok (.invokevirtual 63, 3) := by decide +kernel
theorem dX7_taken_21 : decode cX7_taken 21 = .ok (.ifCond .ne 6, 3) := by decide +kernel
theorem dX7_taken_24 : decode cX7_taken 24 = .ok (.bipush (-11), 2) := by decide +kernel
theorem dX7_taken_26 : decode cX7_taken 26 = .ok (.ireturn, 1) := by decide +kernel
theorem dX7_taken_27 : decode cX7_taken 27 = .ok (.aload_n 0, 1) := by decide +kernel
theorem dX7_taken_28 : decode cX7_taken 28 = .ok (.getfield 14, 3) := by decide +kernel
theorem dX7_taken_31 : decode cX7_taken 31 = .ok (.getfield 67, 3) := by decide +kernel
theorem dX7_taken_34 : decode cX7_taken 34 = .ok (.iload_n 1, 1) := by decide +kernel
theorem dX7_taken_35 : decode cX7_taken 35 = .ok (.iaload, 1) := by decide +kernel
theorem dX7_taken_36 : decode cX7_taken 36 = .ok (.istore_n 3, 1) := by decide +kernel
theorem dX7_taken_37 : decode cX7_taken 37 = .ok (.iload_n 3, 1) := by decide +kernel
theorem dX7_taken_38 : decode cX7_taken 38 = .ok (.istore 4, 2) := by decide +kernel
theorem dX7_taken_40 : decode cX7_taken 40 = .ok (.iconst 0, 1) := by decide +kernel
theorem dX7_taken_41 : decode cX7_taken 41 = .ok (.istore 5, 2) := by decide +kernel
theorem dX7_taken_43 : decode cX7_taken 43 = .ok (.iload 5, 2) := by decide +kernel
theorem dX7_taken_45 : decode cX7_taken 45 = .ok (.bipush 7, 2) := by decide +kernel
theorem dX7_taken_47 : decode cX7_taken 47 = .ok (.if_icmp .ge 37, 3) := by decide +kernel
theorem dX7_taken_50 : decode cX7_taken 50 = .ok (.iload 4, 2) := by decide +kernel
theorem dX7_taken_52 : decode cX7_taken 52 = .ok (.ifCond .lt 32, 3) := by decide +kernel
theorem dX7_taken_55 : decode cX7_taken 55 = .ok (.iload 4, 2) := by decide +kernel
theorem dX7_taken_57 : decode cX7_taken 57 = .ok (.bipush 7, 2) := by decide +kernel
theorem dX7_taken_59 : decode cX7_taken 59 = .ok (.if_icmp .ge 25, 3) := by decide +kernel
theorem dX7_taken_62 : decode cX7_taken 62 = .ok (.iload 4, 2) := by decide +kernel
theorem dX7_taken_64 : decode cX7_taken 64 = .ok (.iload_n 2, 1) := by decide +kernel
theorem dX7_taken_65 : decode cX7_taken 65 = .ok (.if_icmp .ne 5, 3) := by decide +kernel
theorem dX7_taken_68 : decode cX7_taken 68 = .ok (.iload_n 3, 1) := by decide +kernel
theorem dX7_taken_69 : decode cX7_taken 69 = .ok (.ireturn, 1) := by decide +kernel
theorem dX7_taken_70 : decode cX7_taken 70 = .ok (.getstatic 253, 3) := by decide +kernel
theorem dX7_taken_73 : decode cX7_taken 73 = .ok (.iload 4, 2) := by decide +kernel
theorem dX7_taken_75 : decode cX7_taken 75 = .ok (.iaload, 1) := by decide +kernel
theorem dX7_taken_76 : decode cX7_taken 76 = .ok (.istore 4, 2) := by decide +kernel
theorem dX7_taken_78 : decode cX7_taken 78 = .ok (.iinc 5 1, 3) := by decide +kernel
theorem dX7_taken_81 : decode cX7_taken 81 = .ok (.goto (-38), 3) := by decide +kernel
theorem dX7_taken_84 : decode cX7_taken 84 = .ok (.bipush (-12), 2) := by decide +kernel
theorem dX7_taken_86 : decode cX7_taken 86 = .ok (.ireturn, 1) := by decide +kernel
theorem dX7_count_0 : decode cX7_count 0 = .ok (.iload_n 1, 1) := by decide +kernel
theorem dX7_count_1 : decode cX7_count 1 = .ok (.tableswitch 105 0 6 #[43, 51, 56, 67, 78, 89, 97], 43) := by decide +kernel
theorem dX7_count_44 : decode cX7_count 44 = .ok (.aload_n 0, 1) := by decide +kernel
theorem dX7_count_45 : decode cX7_count 45 = .ok (.getfield 14, 3) := by decide +kernel
theorem dX7_count_48 : decode cX7_count 48 = .ok (.getfield 194, 3) := by decide +kernel
theorem dX7_count_51 : decode cX7_count 51 = .ok (.ireturn, 1) := by decide +kernel
theorem dX7_count_52 : decode cX7_count 52 = .ok (.aload_n 0, 1) := by decide +kernel
theorem dX7_count_53 : decode cX7_count 53 = .ok (.getfield 125, 3) := by decide +kernel
theorem dX7_count_56 : decode cX7_count 56 = .ok (.ireturn, 1) := by decide +kernel
theorem dX7_count_57 : decode cX7_count 57 = .ok (.aload_n 0, 1) := by decide +kernel
theorem dX7_count_58 : decode cX7_count 58 = .ok (.getfield 14, 3) := by decide +kernel
theorem dX7_count_61 : decode cX7_count 61 = .ok (.getfield 175, 3) := by decide +kernel
theorem dX7_count_64 : decode cX7_count 64 = .ok (.getfield 206, 3) := by decide +kernel
theorem dX7_count_67 : decode cX7_count 67 = .ok (.ireturn, 1) := by decide +kernel
theorem dX7_count_68 : decode cX7_count 68 = .ok (.aload_n 0, 1) := by decide +kernel
theorem dX7_count_69 : decode cX7_count 69 = .ok (.getfield 14, 3) := by decide +kernel
theorem dX7_count_72 : decode cX7_count 72 = .ok (.getfield 203, 3) := by decide +kernel
theorem dX7_count_75 : decode cX7_count 75 = .ok (.getfield 206, 3) := by decide +kernel
theorem dX7_count_78 : decode cX7_count 78 = .ok (.ireturn, 1) := by decide +kernel
theorem dX7_count_79 : decode cX7_count 79 = .ok (.aload_n 0, 1) := by decide +kernel
theorem dX7_count_80 : decode cX7_count 80 = .ok (.getfield 14, 3) := by decide +kernel
theorem dX7_count_83 : decode cX7_count 83 = .ok (.getfield 216, 3) := by decide +kernel
theorem dX7_count_86 : decode cX7_count 86 = .ok (.getfield 206, 3) := by decide +kernel
theorem dX7_count_89 : decode cX7_count 89 = .ok (.ireturn, 1) := by decide +kernel
theorem dX7_count_90 : decode cX7_count 90 = .ok (.aload_n 0, 1) := by decide +kernel
theorem dX7_count_91 : decode cX7_count 91 = .ok (.getfield 27, 3) := by decide +kernel
theorem dX7_count_94 : decode cX7_count 94 = .ok (.getfield 122, 3) := by decide +kernel
theorem dX7_count_97 : decode cX7_count 97 = .ok (.ireturn, 1) := by decide +kernel
theorem dX7_count_98 : decode cX7_count 98 = .ok (.aload_n 0, 1) := by decide +kernel
theorem dX7_count_99 : decode cX7_count 99 = .ok (.getfield 47, 3) := by decide +kernel
theorem dX7_count_102 : decode cX7_count 102 = .ok (.getfield 234, 3) := by decide +kernel
theorem dX7_count_105 : decode cX7_count 105 = .ok (.ireturn, 1) := by decide +kernel
theorem dX7_count_106 : decode cX7_count 106 = .ok (.bipush (-2), 2) := by decide +kernel
theorem dX7_count_108 : decode cX7_count 108 = .ok (.ireturn, 1) := by decide +kernel
theorem dX7_tape_0 : decode cX7_tape 0 = .ok (.iload_n 1, 1) := by decide +kernel
theorem dX7_tape_1 : decode cX7_tape 1 = .ok (.invokestatic 219, 3) := by decide +kernel
theorem dX7_tape_4 : decode cX7_tape 4 = .ok (.ifCond .ne 5, 3) := by decide +kernel
theorem dX7_tape_7 : decode cX7_tape 7 = .ok (.iconst (-1), 1) := by decide +kernel
theorem dX7_tape_8 : decode cX7_tape 8 = .ok (.ireturn, 1) := by decide +kernel
theorem dX7_tape_9 : decode cX7_tape 9 = .ok (.iload_n 2, 1) := by decide +kernel
theorem dX7_tape_10 : decode cX7_tape 10 = .ok (.iconst (-1), 1) := by decide +kernel
theorem dX7_tape_11 : decode cX7_tape 11 = .ok (.if_icmp .ne 16, 3) := by decide +kernel
theorem dX7_tape_14 : decode cX7_tape 14 = .ok (.aload_n 0, 1) := by decide +kernel
theorem dX7_tape_15 : decode cX7_tape 15 = .ok (.getfield 53, 3) := by decide +kernel
theorem dX7_tape_18 : decode cX7_tape 18 = .ok (.iload_n 1, 1) := by decide +kernel
theorem dX7_tape_19 : decode cX7_tape 19 = .ok (.aaload, 1) := by decide +kernel
theorem dX7_tape_20 : decode cX7_tape 20 = .ok (.iconst (-1), 1) := by decide +kernel
theorem dX7_tape_21 : decode cX7_tape 21 = .ok (.iconst 0, 1) := by decide +kernel
theorem dX7_tape_22 : decode cX7_tape 22 = .ok (.invokevirtual 256, 3) := by decide +kernel
theorem dX7_tape_25 : decode cX7_tape 25 = .ok (.iconst 1, 1) := by decide +kernel
theorem dX7_tape_26 : decode cX7_tape 26 = .ok (.ireturn, 1) := by decide +kernel
theorem dX7_tape_27 : decode cX7_tape 27 = .ok (.iload_n 2, 1) := by decide +kernel
theorem dX7_tape_28 : decode cX7_tape 28 = .ok (.ifCond .lt 14, 3) := by decide +kernel
theorem dX7_tape_31 : decode cX7_tape 31 = .ok (.iload_n 2, 1) := by decide +kernel
theorem dX7_tape_32 : decode cX7_tape 32 = .ok (.iconst 4, 1) := by decide +kernel
theorem dX7_tape_33 : decode cX7_tape 33 = .ok (.if_icmp .gt 9, 3) := by decide +kernel
theorem dX7_tape_36 : decode cX7_tape 36 = .ok (.iload_n 3, 1) := by decide +kernel
theorem dX7_tape_37 : decode cX7_tape 37 = .ok (.bipush 60, 2) := by decide +kernel
theorem dX7_tape_39 : decode cX7_tape 39 = .ok (.if_icmp .le 6, 3) := by decide +kernel
theorem dX7_tape_42 : decode cX7_tape 42 = .ok (.bipush (-2), 2) := by decide +kernel
theorem dX7_tape_44 : decode cX7_tape 44 = .ok (.ireturn, 1) := by decide +kernel
theorem dX7_tape_45 : decode cX7_tape 45 = .ok (.iload_n 3, 1) := by decide +kernel
theorem dX7_tape_46 : decode cX7_tape 46 = .ok (.ifCond .ge 6, 3) := by decide +kernel
theorem dX7_tape_49 : decode cX7_tape 49 = .ok (.bipush (-14), 2) := by decide +kernel
theorem dX7_tape_51 : decode cX7_tape 51 = .ok (.ireturn, 1) := by decide +kernel
theorem dX7_tape_52 : decode cX7_tape 52 = .ok (.aload_n 0, 1) := by decide +kernel
theorem dX7_tape_53 : decode cX7_tape 53 = .ok (.getfield 53, 3) := by decide +kernel
theorem dX7_tape_56 : decode cX7_tape 56 = .ok (.iload_n 1, 1) := by decide +kernel
theorem dX7_tape_57 : decode cX7_tape 57 = .ok (.aaload, 1) := by decide +kernel
theorem dX7_tape_58 : decode cX7_tape 58 = .ok (.iload_n 2, 1) := by decide +kernel
theorem dX7_tape_59 : decode cX7_tape 59 = .ok (.iload_n 3, 1) := by decide +kernel
theorem dX7_tape_60 : decode cX7_tape 60 = .ok (.invokevirtual 256, 3) := by decide +kernel
theorem dX7_tape_63 : decode cX7_tape 63 = .ok (.iconst 1, 1) := by decide +kernel
theorem dX7_tape_64 : decode cX7_tape 64 = .ok (.ireturn, 1) := by decide +kernel
theorem dX7_item_0 : decode cX7_item 0 = .ok (.iload_n 1, 1) := by decide +kernel
theorem dX7_item_1 : decode cX7_item 1 = .ok (.invokestatic 219, 3) := by decide +kernel
theorem dX7_item_4 : decode cX7_item 4 = .ok (.ifCond .ne 5, 3) := by decide +kernel
theorem dX7_item_7 : decode cX7_item 7 = .ok (.iconst (-1), 1) := by decide +kernel
theorem dX7_item_8 : decode cX7_item 8 = .ok (.ireturn, 1) := by decide +kernel
theorem dX7_item_9 : decode cX7_item 9 = .ok (.aload_n 0, 1) := by decide +kernel
theorem dX7_item_10 : decode cX7_item 10 = .ok (.getfield 53, 3) := by decide +kernel
theorem dX7_item_13 : decode cX7_item 13 = .ok (.iload_n 1, 1) := by decide +kernel
theorem dX7_item_14 : decode cX7_item 14 = .ok (.aaload, 1) := by decide +kernel
theorem dX7_item_15 : decode cX7_item 15 = .ok (.getfield 222, 3) := by decide +kernel
theorem dX7_item_18 : decode cX7_item 18 = .ok (.iconst (-1), 1) := by decide +kernel
theorem dX7_item_19 : decode cX7_item 19 = .ok (.if_icmp .ne 6, 3) := by decide +kernel
theorem dX7_item_22 : decode cX7_item 22 = .ok (.bipush (-11), 2) := by decide +kernel
theorem dX7_item_24 : decode cX7_item 24 = .ok (.ireturn, 1) := by decide +kernel
theorem dX7_item_25 : decode cX7_item 25 = .ok (.aload_n 0, 1) := by decide +kernel
theorem dX7_item_26 : decode cX7_item 26 = .ok (.getfield 53, 3) := by decide +kernel
theorem dX7_item_29 : decode cX7_item 29 = .ok (.iload_n 1, 1) := by decide +kernel
theorem dX7_item_30 : decode cX7_item 30 = .ok (.aaload, 1) := by decide +kernel
theorem dX7_item_31 : decode cX7_item 31 = .ok (.iload_n 2, 1) := by decide +kernel
theorem dX7_item_32 : decode cX7_item 32 = .ok (.invokevirtual 225, 3) := by decide +kernel
theorem dX7_item_35 : decode cX7_item 35 = .ok (.ifCond .ne 6, 3) := by decide +kernel
theorem dX7_item_38 : decode cX7_item 38 = .ok (.bipush (-13), 2) := by decide +kernel
theorem dX7_item_40 : decode cX7_item 40 = .ok (.ireturn, 1) := by decide +kernel
theorem dX7_item_41 : decode cX7_item 41 = .ok (.aload_n 0, 1) := by decide +kernel
theorem dX7_item_42 : decode cX7_item 42 = .ok (.getfield 53, 3) := by decide +kernel
theorem dX7_item_45 : decode cX7_item 45 = .ok (.iload_n 1, 1) := by decide +kernel
theorem dX7_item_46 : decode cX7_item 46 = .ok (.aaload, 1) := by decide +kernel
theorem dX7_item_47 : decode cX7_item 47 = .ok (.getfield 226, 3) := by decide +kernel
theorem dX7_item_50 : decode cX7_item 50 = .ok (.iload_n 2, 1) := by decide +kernel
theorem dX7_item_51 : decode cX7_item 51 = .ok (.aload_n 0, 1) := by decide +kernel
theorem dX7_item_52 : decode cX7_item 52 = .ok (.getfield 53, 3) := by decide +kernel
theorem dX7_item_55 : decode cX7_item 55 = .ok (.iload_n 1, 1) := by decide +kernel
theorem dX7_item_56 : decode cX7_item 56 = .ok (.aaload, 1) := by decide +kernel
theorem dX7_item_57 : decode cX7_item 57 = .ok (.lload_n 3, 1) := by decide +kernel
theorem dX7_item_58 : decode cX7_item 58 = .ok (.invokevirtual 259, 3) := by decide +kernel
theorem dX7_item_61 : decode cX7_item 61 = .ok (.lastore, 1) := by decide +kernel
theorem dX7_item_62 : decode cX7_item 62 = .ok (.iconst 1, 1) := by decide +kernel
theorem dX7_item_63 : decode cX7_item 63 = .ok (.ireturn, 1) := by decide +kernel
theorem dX7_read_0 : decode cX7_read 0 = .ok (.iload_n 1, 1) := by decide +kernel
theorem dX7_read_1 : decode cX7_read 1 = .ok (.invokestatic 219, 3) := by decide +kernel
theorem dX7_read_4 : decode cX7_read 4 = .ok (.ifCond .eq 16, 3) := by decide +kernel
theorem dX7_read_7 : decode cX7_read 7 = .ok (.aload_n 0, 1) := by decide +kernel
theorem dX7_read_8 : decode cX7_read 8 = .ok (.getfield 53, 3) := by decide +kernel
theorem dX7_read_11 : decode cX7_read 11 = .ok (.iload_n 1, 1) := by decide +kernel
theorem dX7_read_12 : decode cX7_read 12 = .ok (.aaload, 1) := by decide +kernel
theorem dX7_read_13 : decode cX7_read 13 = .ok (.iload_n 2, 1) := by decide +kernel
theorem dX7_read_14 : decode cX7_read 14 = .ok (.invokevirtual 225, 3) := by decide +kernel
theorem dX7_read_17 : decode cX7_read 17 = .ok (.ifCond .ne 7, 3) := by decide +kernel
theorem dX7_read_20 : decode cX7_read 20 = .ok (.ldc2_w 197, 3) := by decide +kernel
theorem dX7_read_23 : decode cX7_read 23 = .ok (.lreturn, 1) := by decide +kernel
theorem dX7_read_24 : decode cX7_read 24 = .ok (.aload_n 0, 1) := by decide +kernel
theorem dX7_read_25 : decode cX7_read 25 = .ok (.getfield 53, 3) := by decide +kernel
theorem dX7_read_28 : decode cX7_read 28 = .ok (.iload_n 1, 1) := by decide +kernel
theorem dX7_read_29 : decode cX7_read 29 = .ok (.aaload, 1) := by decide +kernel
theorem dX7_read_30 : decode cX7_read 30 = .ok (.getfield 226, 3) := by decide +kernel
theorem dX7_read_33 : decode cX7_read 33 = .ok (.iload_n 2, 1) := by decide +kernel
theorem dX7_read_34 : decode cX7_read 34 = .ok (.laload, 1) := by decide +kernel
theorem dX7_read_35 : decode cX7_read 35 = .ok (.lreturn, 1) := by decide +kernel
theorem dX7_shift_0 : decode cX7_shift 0 = .ok (.iload_n 1, 1) := by decide +kernel
theorem dX7_shift_1 : decode cX7_shift 1 = .ok (.invokestatic 219, 3) := by decide +kernel
theorem dX7_shift_4 : decode cX7_shift 4 = .ok (.ifCond .eq 10, 3) := by decide +kernel
theorem dX7_shift_7 : decode cX7_shift 7 = .ok (.iload_n 3, 1) := by decide +kernel
theorem dX7_shift_8 : decode cX7_shift 8 = .ok (.invokestatic 219, 3) := by decide +kernel
theorem dX7_shift_11 : decode cX7_shift 11 = .ok (.ifCond .ne 5, 3) := by decide +kernel
theorem dX7_shift_14 : decode cX7_shift 14 = .ok (.iconst (-1), 1) := by decide +kernel
theorem dX7_shift_15 : decode cX7_shift 15 = .ok (.ireturn, 1) := by decide +kernel
theorem dX7_shift_16 : decode cX7_shift 16 = .ok (.aload_n 0, 1) := by decide +kernel
theorem dX7_shift_17 : decode cX7_shift 17 = .ok (.getfield 53, 3) := by decide +kernel
theorem dX7_shift_20 : decode cX7_shift 20 = .ok (.iload_n 1, 1) := by decide +kernel
theorem dX7_shift_21 : decode cX7_shift 21 = .ok (.aaload, 1) := by decide +kernel
theorem dX7_shift_22 : decode cX7_shift 22 = .ok (.astore 6, 2) := by decide +kernel
theorem dX7_shift_24 : decode cX7_shift 24 = .ok (.aload_n 0, 1) := by decide +kernel
theorem dX7_shift_25 : decode cX7_shift 25 = .ok (.getfield 53, 3) := by decide +kernel
theorem dX7_shift_28 : decode cX7_shift 28 = .ok (.iload_n 3, 1) := by decide +kernel
theorem dX7_shift_29 : decode cX7_shift 29 = .ok (.aaload, 1) := by decide +kernel
theorem dX7_shift_30 : decode cX7_shift 30 = .ok (.astore 7, 2) := by decide +kernel
theorem dX7_shift_32 : decode cX7_shift 32 = .ok (.aload 6, 2) := by decide +kernel
theorem dX7_shift_34 : decode cX7_shift 34 = .ok (.getfield 222, 3) := by decide +kernel
theorem dX7_shift_37 : decode cX7_shift 37 = .ok (.iconst (-1), 1) := by decide +kernel
theorem dX7_shift_38 : decode cX7_shift 38 = .ok (.if_icmp .eq 12, 3) := by decide +kernel
theorem dX7_shift_41 : decode cX7_shift 41 = .ok (.aload 7, 2) := by decide +kernel
theorem dX7_shift_43 : decode cX7_shift 43 = .ok (.getfield 222, 3) := by decide +kernel
theorem dX7_shift_46 : decode cX7_shift 46 = .ok (.iconst (-1), 1) := by decide +kernel
theorem dX7_shift_47 : decode cX7_shift 47 = .ok (.if_icmp .ne 6, 3) := by decide +kernel
theorem dX7_shift_50 : decode cX7_shift 50 = .ok (.bipush (-11), 2) := by decide +kernel
theorem dX7_shift_52 : decode cX7_shift 52 = .ok (.ireturn, 1) := by decide +kernel
theorem dX7_shift_53 : decode cX7_shift 53 = .ok (.aload 6, 2) := by decide +kernel
theorem dX7_shift_55 : decode cX7_shift 55 = .ok (.getfield 222, 3) := by decide +kernel
theorem dX7_shift_58 : decode cX7_shift 58 = .ok (.aload 7, 2) := by decide +kernel
theorem dX7_shift_60 : decode cX7_shift 60 = .ok (.getfield 222, 3) := by decide +kernel
theorem dX7_shift_63 : decode cX7_shift 63 = .ok (.if_icmp .eq 6, 3) := by decide +kernel
theorem dX7_shift_66 : decode cX7_shift 66 = .ok (.bipush (-12), 2) := by decide +kernel
theorem dX7_shift_68 : decode cX7_shift 68 = .ok (.ireturn, 1) := by decide +kernel
theorem dX7_shift_69 : decode cX7_shift 69 = .ok (.aload 6, 2) := by decide +kernel
theorem dX7_shift_71 : decode cX7_shift 71 = .ok (.iload_n 2, 1) := by decide +kernel
theorem dX7_shift_72 : decode cX7_shift 72 = .ok (.iload 5, 2) := by decide +kernel
theorem dX7_shift_74 : decode cX7_shift 74 = .ok (.invokevirtual 263, 3) := by decide +kernel
theorem dX7_shift_77 : decode cX7_shift 77 = .ok (.ifCond .eq 15, 3) := by decide +kernel
theorem dX7_shift_80 : decode cX7_shift 80 = .ok (.aload 7, 2) := by decide +kernel
theorem dX7_shift_82 : decode cX7_shift 82 = .ok (.iload 4, 2) := by decide +kernel
theorem dX7_shift_84 : decode cX7_shift 84 = .ok (.iload 5, 2) := by decide +kernel
theorem dX7_shift_86 : decode cX7_shift 86 = .ok (.invokevirtual 263, 3) := by decide +kernel
theorem dX7_shift_89 : decode cX7_shift 89 = .ok (.ifCond .ne 6, 3) := by decide +kernel
theorem dX7_shift_92 : decode cX7_shift 92 = .ok (.bipush (-13), 2) := by decide +kernel
theorem dX7_shift_94 : decode cX7_shift 94 = .ok (.ireturn, 1) := by decide +kernel
theorem dX7_shift_95 : decode cX7_shift 95 = .ok (.aload 6, 2) := by decide +kernel
theorem dX7_shift_97 : decode cX7_shift 97 = .ok (.getfield 226, 3) := by decide +kernel
theorem dX7_shift_100 : decode cX7_shift 100 = .ok (.iload_n 2, 1) := by decide +kernel
theorem dX7_shift_101 : decode cX7_shift 101 = .ok (.aload 7, 2) := by decide +kernel
theorem dX7_shift_103 : decode cX7_shift 103 = .ok (.getfield 226, 3) := by decide +kernel
theorem dX7_shift_106 : decode cX7_shift 106 = .ok (.iload 4, 2) := by decide +kernel
theorem dX7_shift_108 : decode cX7_shift 108 = .ok (.iload 5, 2) := by decide +kernel
theorem dX7_shift_110 : decode cX7_shift 110 = .ok (.invokestatic 266, 3) := by decide +kernel
theorem dX7_shift_113 : decode cX7_shift 113 = .ok (.iload 5, 2) := by decide +kernel
theorem dX7_shift_115 : decode cX7_shift 115 = .ok (.ireturn, 1) := by decide +kernel
theorem dX7_isTape_0 : decode cX7_isTape 0 = .ok (.iload_n 0, 1) := by decide +kernel
theorem dX7_isTape_1 : decode cX7_isTape 1 = .ok (.ifCond .lt 13, 3) := by decide +kernel
theorem dX7_isTape_4 : decode cX7_isTape 4 = .ok (.iload_n 0, 1) := by decide +kernel
theorem dX7_isTape_5 : decode cX7_isTape 5 = .ok (.bipush 6, 2) := by decide +kernel
theorem dX7_isTape_7 : decode cX7_isTape 7 = .ok (.if_icmp .ge 7, 3) := by decide +kernel
theorem dX7_isTape_10 : decode cX7_isTape 10 = .ok (.iconst 1, 1) := by decide +kernel
theorem dX7_isTape_11 : decode cX7_isTape 11 = .ok (.goto 4, 3) := by decide +kernel
theorem dX7_isTape_14 : decode cX7_isTape 14 = .ok (.iconst 0, 1) := by decide +kernel
theorem dX7_isTape_15 : decode cX7_isTape 15 = .ok (.ireturn, 1) := by decide +kernel
theorem dX7_bit_0 : decode cX7_bit 0 = .ok (.iload_n 0, 1) := by decide +kernel
theorem dX7_bit_1 : decode cX7_bit 1 = .ok (.iload_n 1, 1) := by decide +kernel
theorem dX7_bit_2 : decode cX7_bit 2 = .ok (.ishr, 1) := by decide +kernel
theorem dX7_bit_3 : decode cX7_bit 3 = .ok (.iconst 1, 1) := by decide +kernel
theorem dX7_bit_4 : decode cX7_bit 4 = .ok (.iand, 1) := by decide +kernel
theorem dX7_bit_5 : decode cX7_bit 5 = .ok (.ireturn, 1) := by decide +kernel
theorem dX7_firstOf_0 : decode cX7_firstOf 0 = .ok (.iconst 0, 1) := by decide +kernel
theorem dX7_firstOf_1 : decode cX7_firstOf 1 = .ok (.istore_n 1, 1) := by decide +kernel
theorem dX7_firstOf_2 : decode cX7_firstOf 2 = .ok (.iload_n 1, 1) := by decide +kernel
theorem dX7_firstOf_3 : decode cX7_firstOf 3 = .ok (.bipush 6, 2) := by decide +kernel
theorem dX7_firstOf_5 : decode cX7_firstOf 5 = .ok (.if_icmp .ge 20, 3) := by decide +kernel
theorem dX7_firstOf_8 : decode cX7_firstOf 8 = .ok (.iload_n 0, 1) := by decide +kernel
theorem dX7_firstOf_9 : decode cX7_firstOf 9 = .ok (.iload_n 1, 1) := by decide +kernel
theorem dX7_firstOf_10 : decode cX7_firstOf 10 = .ok (.invokestatic 78, 3) := by decide +kernel
theorem dX7_firstOf_13 : decode cX7_firstOf 13 = .ok (.iconst 1, 1) := by decide +kernel
theorem dX7_firstOf_14 : decode cX7_firstOf 14 = .ok (.if_icmp .ne 5, 3) := by decide +kernel
theorem dX7_firstOf_17 : decode cX7_firstOf 17 = .ok (.iload_n 1, 1) := by decide +kernel
theorem dX7_firstOf_18 : decode cX7_firstOf 18 = .ok (.ireturn, 1) := by decide +kernel
theorem dX7_firstOf_19 : decode cX7_firstOf 19 = .ok (.iinc 1 1, 3) := by decide +kernel
theorem dX7_firstOf_22 : decode cX7_firstOf 22 = .ok (.goto (-20), 3) := by decide +kernel
theorem dX7_firstOf_25 : decode cX7_firstOf 25 = .ok (.iconst (-1), 1) := by decide +kernel
theorem dX7_firstOf_26 : decode cX7_firstOf 26 = .ok (.ireturn, 1) := by decide +kernel
theorem dX7_lies_0 : decode cX7_lies 0 = .ok (.aload_n 0, 1) := by decide +kernel
theorem dX7_lies_1 : decode cX7_lies 1 = .ok (.getfield 14, 3) := by decide +kernel
theorem dX7_lies_4 : decode cX7_lies 4 = .ok (.getfield 74, 3) := by decide +kernel
theorem dX7_lies_7 : decode cX7_lies 7 = .ok (.iload_n 1, 1) := by decide +kernel
theorem dX7_lies_8 : decode cX7_lies 8 = .ok (.invokestatic 78, 3) := by decide +kernel
theorem dX7_lies_11 : decode cX7_lies 11 = .ok (.ifCond .ne 6, 3) := by decide +kernel
theorem dX7_lies_14 : decode cX7_lies 14 = .ok (.bipush (-5), 2) := by decide +kernel
theorem dX7_lies_16 : decode cX7_lies 16 = .ok (.ireturn, 1) := by decide +kernel
theorem dX7_lies_17 : decode cX7_lies 17 = .ok (.aload_n 0, 1) := by decide +kernel
theorem dX7_lies_18 : decode cX7_lies 18 = .ok (.getfield 21, 3) := by decide +kernel
theorem dX7_lies_21 : decode cX7_lies 21 = .ok (.aload_n 0, 1) := by decide +kernel
theorem dX7_lies_22 : decode cX7_lies 22 = .ok (.getfield 14, 3) := by decide +kernel
theorem dX7_lies_25 : decode cX7_lies 25 = .ok (.invokevirtual 160, 3) := by decide +kernel
theorem dX7_lies_28 : decode cX7_lies 28 = .ok (.iconst 0, 1) := by decide +kernel
theorem dX7_lies_29 : decode cX7_lies 29 = .ok (.istore_n 2, 1) := by decide +kernel
theorem dX7_lies_30 : decode cX7_lies 30 = .ok (.iload_n 2, 1) := by decide +kernel
theorem dX7_lies_31 : decode cX7_lies 31 = .ok (.bipush 30, 2) := by decide +kernel
theorem dX7_lies_33 : decode cX7_lies 33 = .ok (.if_icmp .gt 35, 3) := by decide +kernel
theorem dX7_lies_36 : decode cX7_lies 36 = .ok (.aload_n 0, 1) := by decide +kernel
theorem dX7_lies_37 : decode cX7_lies 37 = .ok (.getfield 21, 3) := by decide +kernel
theorem dX7_lies_40 : decode cX7_lies 40 = .ok (.getfield 81, 3) := by decide +kernel
theorem dX7_lies_43 : decode cX7_lies 43 = .ok (.iload_n 1, 1) := by decide +kernel
theorem dX7_lies_44 : decode cX7_lies 44 = .ok (.invokestatic 78, 3) := by decide +kernel
theorem dX7_lies_47 : decode cX7_lies 47 = .ok (.iconst 1, 1) := by decide +kernel
theorem dX7_lies_48 : decode cX7_lies 48 = .ok (.if_icmp .ne 5, 3) := by decide +kernel
theorem dX7_lies_51 : decode cX7_lies 51 = .ok (.iload_n 2, 1) := by decide +kernel
theorem dX7_lies_52 : decode cX7_lies 52 = .ok (.ireturn, 1) := by decide +kernel
theorem dX7_lies_53 : decode cX7_lies 53 = .ok (.aload_n 0, 1) := by decide +kernel
theorem dX7_lies_54 : decode cX7_lies 54 = .ok (.getfield 21, 3) := by decide +kernel
theorem dX7_lies_57 : decode cX7_lies 57 = .ok (.ldc 164, 2) := by decide +kernel
theorem dX7_lies_59 : decode cX7_lies 59 = .ok (.invokevirtual 156, 3) := by decide +kernel
theorem dX7_lies_62 : decode cX7_lies 62 = .ok (.iinc 2 1, 3) := by decide +kernel
theorem dX7_lies_65 : decode cX7_lies 65 = .ok (.goto (-35), 3) := by decide +kernel
theorem dX7_lies_68 : decode cX7_lies 68 = .ok (.bipush (-5), 2) := by decide +kernel
theorem dX7_lies_70 : decode cX7_lies 70 = .ok (.ireturn, 1) := by decide +kernel
theorem dX7_forHowLong_0 : decode cX7_forHowLong 0 = .ok (.iconst 0, 1) := by decide +kernel
theorem dX7_forHowLong_1 : decode cX7_forHowLong 1 = .ok (.istore_n 3, 1) := by decide +kernel
theorem dX7_forHowLong_2 : decode cX7_forHowLong 2 = .ok (.iload_n 3, 1) := by decide +kernel
theorem dX7_forHowLong_3 : decode cX7_forHowLong 3 = .ok (.bipush 30, 2) := by decide +kernel
theorem dX7_forHowLong_5 : decode cX7_forHowLong 5 = .ok (.if_icmp .ge 30, 3) := by decide +kernel
theorem dX7_forHowLong_8 : decode cX7_forHowLong 8 = .ok (.aload_n 0, 1) := by decide +kernel
theorem dX7_forHowLong_9 : decode cX7_forHowLong 9 = .ok (.getfield 14, 3) := by decide +kernel
theorem dX7_forHowLong_12 : decode cX7_forHowLong 12 = .ok (.iload_n 1, 1) := by decide +kernel
theorem dX7_forHowLong_13 : decode cX7_forHowLong 13 = .ok (.iload_n 2, 1) := by decide +kernel
theorem dX7_forHowLong_14 : decode cX7_forHowLong 14 = .ok (.aload_n 0, 1) := by decide +kernel
theorem dX7_forHowLong_15 : decode cX7_forHowLong 15 = .ok (.getfield 14, 3) := by decide +kernel
theorem dX7_forHowLong_18 : decode cX7_forHowLong 18 = .ok (.getfield 87, 3) := by decide +kernel
theorem dX7_forHowLong_21 : decode cX7_forHowLong 21 = .ok (.iload_n 3, 1) := by decide +kernel
theorem dX7_forHowLong_22 : decode cX7_forHowLong 22 = .ok (.iadd, 1) := by decide +kernel
theorem dX7_forHowLong_23 : decode cX7_forHowLong 23 = .ok (.invokevirtual 108, 3) := by decide +kernel
theorem dX7_forHowLong_26 : decode cX7_forHowLong 26 = .ok (.ifCond .eq 9, 3) := by decide +kernel
theorem dX7_forHowLong_29 : decode cX7_forHowLong 29 = .ok (.iinc 3 1, 3) := by decide +kernel
theorem dX7_forHowLong_32 : decode cX7_forHowLong 32 = .ok (.goto (-30), 3) := by decide +kernel
theorem dX7_forHowLong_35 : decode cX7_forHowLong 35 = .ok (.iload_n 3, 1) := by decide +kernel
theorem dX7_forHowLong_36 : decode cX7_forHowLong 36 = .ok (.ireturn, 1) := by decide +kernel
theorem dX7_fraction_0 : decode cX7_fraction 0 = .ok (.iload_n 1, 1) := by decide +kernel
theorem dX7_fraction_1 : decode cX7_fraction 1 = .ok (.ifCond .le 12, 3) := by decide +kernel
theorem dX7_fraction_4 : decode cX7_fraction 4 = .ok (.iload_n 2, 1) := by decide +kernel
theorem dX7_fraction_5 : decode cX7_fraction 5 = .ok (.ifCond .lt 8, 3) := by decide +kernel
theorem dX7_fraction_8 : decode cX7_fraction 8 = .ok (.iload_n 2, 1) := by decide +kernel
theorem dX7_fraction_9 : decode cX7_fraction 9 = .ok (.iconst 1, 1) := by decide +kernel
theorem dX7_fraction_10 : decode cX7_fraction 10 = .ok (.if_icmp .le 7, 3) := by decide +kernel
theorem dX7_fraction_13 : decode cX7_fraction 13 = .ok (.ldc2_w 197, 3) := by decide +kernel
theorem dX7_fraction_16 : decode cX7_fraction 16 = .ok (.lreturn, 1) := by decide +kernel
theorem dX7_fraction_17 : decode cX7_fraction 17 = .ok (.iload_n 0, 1) := by decide +kernel
theorem dX7_fraction_18 : decode cX7_fraction 18 = .ok (.iload_n 1, 1) := by decide +kernel
theorem dX7_fraction_19 : decode cX7_fraction 19 = .ok (.invokestatic 272, 3) := by decide +kernel
theorem dX7_fraction_22 : decode cX7_fraction 22 = .ok (.istore_n 3, 1) := by decide +kernel
theorem dX7_fraction_23 : decode cX7_fraction 23 = .ok (.iload_n 3, 1) := by decide +kernel
theorem dX7_fraction_24 : decode cX7_fraction 24 = .ok (.ifCond .gt 7, 3) := by decide +kernel
theorem dX7_fraction_27 : decode cX7_fraction 27 = .ok (.ldc2_w 197, 3) := by decide +kernel
theorem dX7_fraction_30 : decode cX7_fraction 30 = .ok (.lreturn, 1) := by decide +kernel
theorem dX7_fraction_31 : decode cX7_fraction 31 = .ok (.iload_n 2, 1) := by decide +kernel
theorem dX7_fraction_32 : decode cX7_fraction 32 = .ok (.ifCond .ne 10, 3) := by decide +kernel
theorem dX7_fraction_35 : decode cX7_fraction 35 = .ok (.iload_n 0, 1) := by decide +kernel
theorem dX7_fraction_36 : decode cX7_fraction 36 = .ok (.iload_n 3, 1) := by decide +kernel
theorem dX7_fraction_37 : decode cX7_fraction 37 = .ok (.idiv, 1) := by decide +kernel
theorem dX7_fraction_38 : decode cX7_fraction 38 = .ok (.i2l, 1) := by decide +kernel
theorem dX7_fraction_39 : decode cX7_fraction 39 = .ok (.goto 7, 3) := by decide +kernel
theorem dX7_fraction_42 : decode cX7_fraction 42 = .ok (.iload_n 1, 1) := by decide +kernel
theorem dX7_fraction_43 : decode cX7_fraction 43 = .ok (.iload_n 3, 1) := by decide +kernel
theorem dX7_fraction_44 : decode cX7_fraction 44 = .ok (.idiv, 1) := by decide +kernel
theorem dX7_fraction_45 : decode cX7_fraction 45 = .ok (.i2l, 1) := by decide +kernel
theorem dX7_fraction_46 : decode cX7_fraction 46 = .ok (.lreturn, 1) := by decide +kernel
theorem dX7_common_0 : decode cX7_common 0 = .ok (.iload_n 0, 1) := by decide +kernel
theorem dX7_common_1 : decode cX7_common 1 = .ok (.istore_n 2, 1) := by decide +kernel
theorem dX7_common_2 : decode cX7_common 2 = .ok (.iload_n 1, 1) := by decide +kernel
theorem dX7_common_3 : decode cX7_common 3 = .ok (.istore_n 3, 1) := by decide +kernel
theorem dX7_common_4 : decode cX7_common 4 = .ok (.iconst 0, 1) := by decide +kernel
theorem dX7_common_5 : decode cX7_common 5 = .ok (.istore 4, 2) := by decide +kernel
theorem dX7_common_7 : decode cX7_common 7 = .ok (.iload 4, 2) := by decide +kernel
theorem dX7_common_9 : decode cX7_common 9 = .ok (.bipush 100, 2) := by decide +kernel
theorem dX7_common_11 : decode cX7_common 11 = .ok (.if_icmp .ge 23, 3) := by decide +kernel
theorem dX7_common_14 : decode cX7_common 14 = .ok (.iload_n 3, 1) := by decide +kernel
theorem dX7_common_15 : decode cX7_common 15 = .ok (.ifCond .eq 19, 3) := by decide +kernel
theorem dX7_common_18 : decode cX7_common 18 = .ok (.iload_n 2, 1) := by decide +kernel
theorem dX7_common_19 : decode cX7_common 19 = .ok (.iload_n 3, 1) := by decide +kernel
theorem dX7_common_20 : decode cX7_common 20 = .ok (.irem, 1) := by decide +kernel
theorem dX7_common_21 : decode cX7_common 21 = .ok (.istore 5, 2) := by decide +kernel
theorem dX7_common_23 : decode cX7_common 23 = .ok (.iload_n 3, 1) := by decide +kernel
theorem dX7_common_24 : decode cX7_common 24 = .ok (.istore_n 2, 1) := by decide +kernel
theorem dX7_common_25 : decode cX7_common 25 = .ok (.iload 5, 2) := by decide +kernel
theorem dX7_common_27 : decode cX7_common 27 = .ok (.istore_n 3, 1) := by decide +kernel
theorem dX7_common_28 : decode cX7_common 28 = .ok (.iinc 4 1, 3) := by decide +kernel
theorem dX7_common_31 : decode cX7_common 31 = .ok (.goto (-24), 3) := by decide +kernel
theorem dX7_common_34 : decode cX7_common 34 = .ok (.iload_n 2, 1) := by decide +kernel
theorem dX7_common_35 : decode cX7_common 35 = .ok (.ireturn, 1) := by decide +kernel
