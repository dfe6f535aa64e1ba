/-! ===== BEGIN printed: names, fields, word lists, decode rows ===== -/
def RX0 : String := "PromiseKitchen$Agenda"
def TX0 : u_T := fun k => match k with
  | _ => ("PromiseKitchen$Agenda", "marks", "[J", true)
def tyX0 : Nat → FieldType := fun k => match k with
  | _ => .array .long
abbrev wsX00 : List Cond := u_ws RX0 TX0 1
theorem nmX0 : ∀ a, a < 1 → ∀ b, b < 1 → a ≠ b → (TX0 a).2.1 ≠ (TX0 b).2.1 := by decide +kernel
theorem tyX0_ok : ∀ k, k < 1 → parseFieldDescriptor (TX0 k).2.2.1 = some (tyX0 k) := by decide +kernel
abbrev cX0_init : ByteArray := prog_2_method_1_code
def yX0_init : MethodName := ⟨RX0, "<init>", "()V"⟩
abbrev cX0_mark : ByteArray := prog_2_method_2_code
def yX0_mark : MethodName := ⟨RX0, "mark", "(I)V"⟩
abbrev cX0_isMarked : ByteArray := prog_2_method_3_code
def yX0_isMarked : MethodName := ⟨RX0, "isMarked", "(I)Z"⟩
def RX1 : String := "PromiseKitchen$Cook"
def TX1 : u_T := fun k => match k with
  | 0 => ("PromiseKitchen$Cook", "number", "I", true)
  | 1 => ("PromiseKitchen$Cook", "pile", "Ljava/util/ArrayList;", true)
  | 2 => ("PromiseKitchen$Cook", "helped", "I", false)
  | _ => ("PromiseKitchen$Cook", "idle", "I", false)
def tyX1 : Nat → FieldType := fun k => match k with
  | 0 => .int
  | 1 => .object "java/util/ArrayList"
  | 2 => .int
  | _ => .int
abbrev wsX10 : List Cond := u_ws RX1 TX1 4
theorem nmX1 : ∀ a, a < 4 → ∀ b, b < 4 → a ≠ b → (TX1 a).2.1 ≠ (TX1 b).2.1 := by decide +kernel
theorem tyX1_ok : ∀ k, k < 4 → parseFieldDescriptor (TX1 k).2.2.1 = some (tyX1 k) := by decide +kernel
abbrev cX1_init : ByteArray := prog_3_method_1_code
def yX1_init : MethodName := ⟨RX1, "<init>", "(I)V"⟩
abbrev cX1_upmost : ByteArray := prog_3_method_2_code
def yX1_upmost : MethodName := ⟨RX1, "upmost", "()LPromiseKitchen$Work;"⟩
def RX2 : String := "PromiseKitchen$Failure"
def TX2 : u_T := fun k => match k with
  | 0 => ("PromiseKitchen$Failure", "kind", "I", true)
  | 1 => ("PromiseKitchen$Failure", "at", "I", true)
  | 2 => ("PromiseKitchen$Failure", "cause", "LPromiseKitchen$Failure;", true)
  | 3 => ("PromiseKitchen$Failure", "suppressed", "[LPromiseKitchen$Failure;", true)
  | 4 => ("PromiseKitchen$Failure", "walk", "I", false)
  | 5 => ("PromiseKitchen$Failure", "place", "I", false)
  | 6 => ("PromiseKitchen$Failure", "tie", "I", false)
  | 7 => ("PromiseKitchen$Failure", "turn", "I", false)
  | _ => ("PromiseKitchen$Failure", "by", "LPromiseKitchen$Failure;", false)
def tyX2 : Nat → FieldType := fun k => match k with
  | 0 => .int
  | 1 => .int
  | 2 => .object "PromiseKitchen$Failure"
  | 3 => .array (.object "PromiseKitchen$Failure")
  | 4 => .int
  | 5 => .int
  | 6 => .int
  | 7 => .int
  | _ => .object "PromiseKitchen$Failure"
abbrev wsX20 : List Cond := u_ws RX2 TX2 9
theorem nmX2 : ∀ a, a < 9 → ∀ b, b < 9 → a ≠ b → (TX2 a).2.1 ≠ (TX2 b).2.1 := by decide +kernel
theorem tyX2_ok : ∀ k, k < 9 → parseFieldDescriptor (TX2 k).2.2.1 = some (tyX2 k) := by decide +kernel
abbrev cX2_init : ByteArray := prog_4_method_1_code
def yX2_init : MethodName := ⟨RX2, "<init>", "(II)V"⟩
abbrev cX2_init_ : ByteArray := prog_4_method_2_code
def yX2_init_ : MethodName := ⟨RX2, "<init>", "(IILPromiseKitchen$Failure;[LPromiseKitchen$Failure;)V"⟩
abbrev cX2_isUnder : ByteArray := prog_4_method_3_code
def yX2_isUnder : MethodName := ⟨RX2, "isUnder", "(II)Z"⟩
abbrev cX2_stand : ByteArray := prog_4_method_4_code
def yX2_stand : MethodName := ⟨RX2, "stand", "(IILPromiseKitchen$Failure;I)V"⟩
def RX3 : String := "PromiseKitchen$Journal"
def TX3 : u_T := fun k => match k with
  | 0 => ("PromiseKitchen$Journal", "cells", "[I", false)
  | _ => ("PromiseKitchen$Journal", "size", "I", false)
def tyX3 : Nat → FieldType := fun k => match k with
  | 0 => .array .int
  | _ => .int
abbrev wsX30 : List Cond := u_ws RX3 TX3 2
theorem nmX3 : ∀ a, a < 2 → ∀ b, b < 2 → a ≠ b → (TX3 a).2.1 ≠ (TX3 b).2.1 := by decide +kernel
theorem tyX3_ok : ∀ k, k < 2 → parseFieldDescriptor (TX3 k).2.2.1 = some (tyX3 k) := by decide +kernel
abbrev cX3_init : ByteArray := prog_5_method_1_code
def yX3_init : MethodName := ⟨RX3, "<init>", "()V"⟩
abbrev cX3_enter : ByteArray := prog_5_method_2_code
def yX3_enter : MethodName := ⟨RX3, "enter", "(III)V"⟩
def RX4 : String := "PromiseKitchen$Plan"
def TX4 : u_T := fun k => match k with
  | 0 => ("PromiseKitchen$Plan", "works", "[I", true)
  | 1 => ("PromiseKitchen$Plan", "times", "[I", true)
  | 2 => ("PromiseKitchen$Plan", "kinds", "[I", true)
  | _ => ("PromiseKitchen$Plan", "size", "I", false)
def tyX4 : Nat → FieldType := fun k => match k with
  | 0 => .array .int
  | 1 => .array .int
  | 2 => .array .int
  | _ => .int
abbrev wsX40 : List Cond := u_ws RX4 TX4 4
theorem nmX4 : ∀ a, a < 4 → ∀ b, b < 4 → a ≠ b → (TX4 a).2.1 ≠ (TX4 b).2.1 := by decide +kernel
theorem tyX4_ok : ∀ k, k < 4 → parseFieldDescriptor (TX4 k).2.2.1 = some (tyX4 k) := by decide +kernel
abbrev cX4_init : ByteArray := prog_6_method_1_code
def yX4_init : MethodName := ⟨RX4, "<init>", "()V"⟩
abbrev cX4_kindFor : ByteArray := prog_6_method_2_code
def yX4_kindFor : MethodName := ⟨RX4, "kindFor", "(II)I"⟩
abbrev cX4_put : ByteArray := prog_6_method_3_code
def yX4_put : MethodName := ⟨RX4, "put", "(III)Z"⟩
abbrev cX4_rowOf : ByteArray := prog_6_method_4_code
def yX4_rowOf : MethodName := ⟨RX4, "rowOf", "(II)I"⟩
def RX5 : String := "PromiseKitchen$Rules"
def TX5 : u_T := fun k => match k with
  | _ => ("", "", "", false)
def tyX5 : Nat → FieldType := fun k => match k with
  | _ => .int
abbrev wsX50 : List Cond := u_ws RX5 TX5 0
theorem nmX5 : ∀ a, a < 0 → ∀ b, b < 0 → a ≠ b → (TX5 a).2.1 ≠ (TX5 b).2.1 := by decide +kernel
theorem tyX5_ok : ∀ k, k < 0 → parseFieldDescriptor (TX5 k).2.2.1 = some (tyX5 k) := by decide +kernel
abbrev cX5_settle : ByteArray := prog_7_method_2_code
def yX5_settle : MethodName := ⟨RX5, "settle", "(LPromiseKitchen$Stage;)V"⟩
abbrev cX5_settleThen : ByteArray := prog_7_method_3_code
def yX5_settleThen : MethodName := ⟨RX5, "settleThen", "(LPromiseKitchen$Stage;)V"⟩
abbrev cX5_changed : ByteArray := prog_7_method_4_code
def yX5_changed : MethodName := ⟨RX5, "changed", "(III)I"⟩
abbrev cX5_settleBoth : ByteArray := prog_7_method_5_code
def yX5_settleBoth : MethodName := ⟨RX5, "settleBoth", "(LPromiseKitchen$Stage;)V"⟩
abbrev cX5_joined : ByteArray := prog_7_method_6_code
def yX5_joined : MethodName := ⟨RX5, "joined", "(III)I"⟩
abbrev cX5_settleFirst : ByteArray := prog_7_method_7_code
def yX5_settleFirst : MethodName := ⟨RX5, "settleFirst", "(LPromiseKitchen$Stage;)V"⟩
abbrev cX5_settleAll : ByteArray := prog_7_method_8_code
def yX5_settleAll : MethodName := ⟨RX5, "settleAll", "(LPromiseKitchen$Stage;)V"⟩
abbrev cX5_settleAny : ByteArray := prog_7_method_9_code
def yX5_settleAny : MethodName := ⟨RX5, "settleAny", "(LPromiseKitchen$Stage;)V"⟩
abbrev cX5_failAny : ByteArray := prog_7_method_10_code
def yX5_failAny : MethodName := ⟨RX5, "failAny", "(LPromiseKitchen$Stage;[LPromiseKitchen$Stage;)V"⟩
abbrev cX5_byPlace : ByteArray := prog_7_method_11_code
def yX5_byPlace : MethodName := ⟨RX5, "byPlace", "(LPromiseKitchen$Stage;II)[LPromiseKitchen$Stage;"⟩
abbrev cX5_settleOnFailure : ByteArray := prog_7_method_12_code
def yX5_settleOnFailure : MethodName := ⟨RX5, "settleOnFailure", "(LPromiseKitchen$Stage;)V"⟩
abbrev cX5_settleAlways : ByteArray := prog_7_method_13_code
def yX5_settleAlways : MethodName := ⟨RX5, "settleAlways", "(LPromiseKitchen$Stage;)V"⟩
abbrev cX5_countOf : ByteArray := prog_7_method_14_code
def yX5_countOf : MethodName := ⟨RX5, "countOf", "(LPromiseKitchen$Stage;I)I"⟩
abbrev cX5_earliest : ByteArray := prog_7_method_15_code
def yX5_earliest : MethodName := ⟨RX5, "earliest", "(LPromiseKitchen$Stage;I)LPromiseKitchen$Stage;"⟩
def RX6 : String := "PromiseKitchen$Stage"
def TX6 : u_T := fun k => match k with
  | 0 => ("PromiseKitchen$Stage", "number", "I", true)
  | 1 => ("PromiseKitchen$Stage", "form", "I", true)
  | 2 => ("PromiseKitchen$Stage", "inputs", "[LPromiseKitchen$Stage;", true)
  | 3 => ("PromiseKitchen$Stage", "kind", "I", true)
  | 4 => ("PromiseKitchen$Stage", "amount", "I", true)
  | 5 => ("PromiseKitchen$Stage", "hangs", "[J", true)
  | 6 => ("PromiseKitchen$Stage", "state", "I", false)
  | 7 => ("PromiseKitchen$Stage", "value", "I", false)
  | 8 => ("PromiseKitchen$Stage", "failure", "LPromiseKitchen$Failure;", false)
  | 9 => ("PromiseKitchen$Stage", "endMinute", "I", false)
  | 10 => ("PromiseKitchen$Stage", "place", "I", false)
  | 11 => ("PromiseKitchen$Stage", "callOffMinute", "I", false)
  | _ => ("PromiseKitchen$Stage", "servedBy", "I", false)
def tyX6 : Nat → FieldType := fun k => match k with
  | 0 => .int
  | 1 => .int
  | 2 => .array (.object "PromiseKitchen$Stage")
  | 3 => .int
  | 4 => .int
  | 5 => .array .long
  | 6 => .int
  | 7 => .int
  | 8 => .object "PromiseKitchen$Failure"
  | 9 => .int
  | 10 => .int
  | 11 => .int
  | _ => .int
abbrev wsX60 : List Cond := u_ws RX6 TX6 13
theorem nmX6 : ∀ a, a < 13 → ∀ b, b < 13 → a ≠ b → (TX6 a).2.1 ≠ (TX6 b).2.1 := by decide +kernel
theorem tyX6_ok : ∀ k, k < 13 → parseFieldDescriptor (TX6 k).2.2.1 = some (tyX6 k) := by decide +kernel
abbrev cX6_init : ByteArray := prog_8_method_1_code
def yX6_init : MethodName := ⟨RX6, "<init>", "(II[LPromiseKitchen$Stage;II)V"⟩
abbrev cX6_hangsOn : ByteArray := prog_8_method_2_code
def yX6_hangsOn : MethodName := ⟨RX6, "hangsOn", "(LPromiseKitchen$Stage;)Z"⟩
abbrev cX6_firstInput : ByteArray := prog_8_method_3_code
def yX6_firstInput : MethodName := ⟨RX6, "firstInput", "()LPromiseKitchen$Stage;"⟩
abbrev cX6_lastInput : ByteArray := prog_8_method_4_code
def yX6_lastInput : MethodName := ⟨RX6, "lastInput", "()LPromiseKitchen$Stage;"⟩
abbrev cX6_hasEnded : ByteArray := prog_8_method_5_code
def yX6_hasEnded : MethodName := ⟨RX6, "hasEnded", "()Z"⟩
abbrev cX6_gain : ByteArray := prog_8_method_6_code
def yX6_gain : MethodName := ⟨RX6, "gain", "(I)V"⟩
abbrev cX6_fail : ByteArray := prog_8_method_7_code
def yX6_fail : MethodName := ⟨RX6, "fail", "(LPromiseKitchen$Failure;)V"⟩
abbrev cX6_dismiss : ByteArray := prog_8_method_8_code
def yX6_dismiss : MethodName := ⟨RX6, "dismiss", "()V"⟩
abbrev cX6_endAs : ByteArray := prog_8_method_9_code
def yX6_endAs : MethodName := ⟨RX6, "endAs", "(LPromiseKitchen$Stage;)V"⟩
def RX7 : String := "PromiseKitchen$Work"
def TX7 : u_T := fun k => match k with
  | 0 => ("PromiseKitchen$Stage", "number", "I", true)
  | 1 => ("PromiseKitchen$Stage", "form", "I", true)
  | 2 => ("PromiseKitchen$Stage", "inputs", "[LPromiseKitchen$Stage;", true)
  | 3 => ("PromiseKitchen$Stage", "kind", "I", true)
  | 4 => ("PromiseKitchen$Stage", "amount", "I", true)
  | 5 => ("PromiseKitchen$Stage", "hangs", "[J", true)
  | 6 => ("PromiseKitchen$Stage", "state", "I", false)
  | 7 => ("PromiseKitchen$Stage", "value", "I", false)
  | 8 => ("PromiseKitchen$Stage", "failure", "LPromiseKitchen$Failure;", false)
  | 9 => ("PromiseKitchen$Stage", "endMinute", "I", false)
  | 10 => ("PromiseKitchen$Stage", "place", "I", false)
  | 11 => ("PromiseKitchen$Stage", "callOffMinute", "I", false)
  | 12 => ("PromiseKitchen$Stage", "servedBy", "I", false)
  | 13 => ("PromiseKitchen$Work", "minutes", "I", true)
  | 14 => ("PromiseKitchen$Work", "readyMinute", "I", false)
  | 15 => ("PromiseKitchen$Work", "overMinute", "I", false)
  | 16 => ("PromiseKitchen$Work", "begun", "I", false)
  | 17 => ("PromiseKitchen$Work", "workings", "I", false)
  | 18 => ("PromiseKitchen$Work", "inFirstPart", "Z", false)
  | 19 => ("PromiseKitchen$Work", "interrupted", "Z", false)
  | 20 => ("PromiseKitchen$Work", "lastCook", "I", false)
  | 21 => ("PromiseKitchen$Work", "holder", "LPromiseKitchen$Cook;", false)
  | 22 => ("PromiseKitchen$Work", "paused", "I", false)
  | 23 => ("PromiseKitchen$Work", "pauseMinutes", "I", false)
  | 24 => ("PromiseKitchen$Work", "pauseEnds", "[I", false)
  | _ => ("PromiseKitchen$Work", "earlier", "[LPromiseKitchen$Failure;", false)
def tyX7 : Nat → FieldType := fun k => match k with
  | 0 => .int
  | 1 => .int
  | 2 => .array (.object "PromiseKitchen$Stage")
  | 3 => .int
  | 4 => .int
  | 5 => .array .long
  | 6 => .int
  | 7 => .int
  | 8 => .object "PromiseKitchen$Failure"
  | 9 => .int
  | 10 => .int
  | 11 => .int
  | 12 => .int
  | 13 => .int
  | 14 => .int
  | 15 => .int
  | 16 => .int
  | 17 => .int
  | 18 => .boolean
  | 19 => .boolean
  | 20 => .int
  | 21 => .object "PromiseKitchen$Cook"
  | 22 => .int
  | 23 => .int
  | 24 => .array .int
  | _ => .array (.object "PromiseKitchen$Failure")
abbrev wsX70 : List Cond := u_ws RX7 TX7 26
theorem nmX7 : ∀ a, a < 26 → ∀ b, b < 26 → a ≠ b → (TX7 a).2.1 ≠ (TX7 b).2.1 := by decide +kernel
theorem tyX7_ok : ∀ k, k < 26 → parseFieldDescriptor (TX7 k).2.2.1 = some (tyX7 k) := by decide +kernel
abbrev cX7_init : ByteArray := prog_9_method_1_code
def yX7_init : MethodName := ⟨RX7, "<init>", "(II[LPromiseKitchen$Stage;III)V"⟩
abbrev cX7_allowPauses : ByteArray := prog_9_method_2_code
def yX7_allowPauses : MethodName := ⟨RX7, "allowPauses", "(II)V"⟩
abbrev cX7_mayPause : ByteArray := prog_9_method_3_code
def yX7_mayPause : MethodName := ⟨RX7, "mayPause", "()Z"⟩
abbrev cX7_beginPause : ByteArray := prog_9_method_4_code
def yX7_beginPause : MethodName := ⟨RX7, "beginPause", "(ILPromiseKitchen$Failure;)V"⟩
abbrev cX7_earlierFailures : ByteArray := prog_9_method_5_code
def yX7_earlierFailures : MethodName := ⟨RX7, "earlierFailures", "()[LPromiseKitchen$Failure;"⟩
abbrev cX7_beginWorking : ByteArray := prog_9_method_6_code
def yX7_beginWorking : MethodName := ⟨RX7, "beginWorking", "(I)V"⟩
abbrev cX7_beginSecondPart : ByteArray := prog_9_method_7_code
def yX7_beginSecondPart : MethodName := ⟨RX7, "beginSecondPart", "(I)V"⟩
abbrev cX7_isSetFree : ByteArray := prog_9_method_8_code
def yX7_isSetFree : MethodName := ⟨RX7, "isSetFree", "()Z"⟩
abbrev cX7_comesAheadOf : ByteArray := prog_9_method_9_code
def yX7_comesAheadOf : MethodName := ⟨RX7, "comesAheadOf", "(LPromiseKitchen$Work;)Z"⟩
abbrev cX7_result : ByteArray := prog_9_method_10_code
def yX7_result : MethodName := ⟨RX7, "result", "()I"⟩
def RX8 : String := "PromiseKitchen"
def TX8 : u_T := fun k => match k with
  | 0 => ("PromiseKitchen", "made", "[LPromiseKitchen$Stage;", true)
  | 1 => ("PromiseKitchen", "crew", "[LPromiseKitchen$Cook;", true)
  | 2 => ("PromiseKitchen", "ready", "Ljava/util/ArrayList;", true)
  | 3 => ("PromiseKitchen", "dues", "Ljava/util/ArrayList;", true)
  | 4 => ("PromiseKitchen", "planned", "LPromiseKitchen$Plan;", true)
  | 5 => ("PromiseKitchen", "agenda", "LPromiseKitchen$Agenda;", true)
  | 6 => ("PromiseKitchen", "journal", "LPromiseKitchen$Journal;", true)
  | 7 => ("PromiseKitchen", "madeCount", "I", false)
  | 8 => ("PromiseKitchen", "crewSize", "I", false)
  | 9 => ("PromiseKitchen", "clock", "I", false)
  | 10 => ("PromiseKitchen", "ends", "I", false)
  | _ => ("PromiseKitchen", "walks", "I", false)
def tyX8 : Nat → FieldType := fun k => match k with
  | 0 => .array (.object "PromiseKitchen$Stage")
  | 1 => .array (.object "PromiseKitchen$Cook")
  | 2 => .object "java/util/ArrayList"
  | 3 => .object "java/util/ArrayList"
  | 4 => .object "PromiseKitchen$Plan"
  | 5 => .object "PromiseKitchen$Agenda"
  | 6 => .object "PromiseKitchen$Journal"
  | 7 => .int
  | 8 => .int
  | 9 => .int
  | 10 => .int
  | _ => .int
abbrev wsX80 : List Cond := u_ws RX8 TX8 12
theorem nmX8 : ∀ a, a < 12 → ∀ b, b < 12 → a ≠ b → (TX8 a).2.1 ≠ (TX8 b).2.1 := by decide +kernel
theorem tyX8_ok : ∀ k, k < 12 → parseFieldDescriptor (TX8 k).2.2.1 = some (tyX8 k) := by decide +kernel
abbrev cX8_init : ByteArray := prog_1_method_1_code
def yX8_init : MethodName := ⟨RX8, "<init>", "()V"⟩
abbrev cX8_cooks : ByteArray := prog_1_method_2_code
def yX8_cooks : MethodName := ⟨RX8, "cooks", "(I)I"⟩
abbrev cX8_task : ByteArray := prog_1_method_3_code
def yX8_task : MethodName := ⟨RX8, "task", "(III)I"⟩
abbrev cX8_value : ByteArray := prog_1_method_4_code
def yX8_value : MethodName := ⟨RX8, "value", "(I)I"⟩
abbrev cX8_failed : ByteArray := prog_1_method_5_code
def yX8_failed : MethodName := ⟨RX8, "failed", "(I)I"⟩
abbrev cX8_then : ByteArray := prog_1_method_6_code
def yX8_then : MethodName := ⟨RX8, "then", "(III)I"⟩
abbrev cX8_both : ByteArray := prog_1_method_7_code
def yX8_both : MethodName := ⟨RX8, "both", "(III)I"⟩
abbrev cX8_first : ByteArray := prog_1_method_8_code
def yX8_first : MethodName := ⟨RX8, "first", "(II)I"⟩
abbrev cX8_all : ByteArray := prog_1_method_9_code
def yX8_all : MethodName := ⟨RX8, "all", "(II)I"⟩
abbrev cX8_any : ByteArray := prog_1_method_10_code
def yX8_any : MethodName := ⟨RX8, "any", "(III)I"⟩
abbrev cX8_onFailure : ByteArray := prog_1_method_11_code
def yX8_onFailure : MethodName := ⟨RX8, "onFailure", "(III)I"⟩
abbrev cX8_always : ByteArray := prog_1_method_12_code
def yX8_always : MethodName := ⟨RX8, "always", "(IIII)I"⟩
abbrev cX8_limit : ByteArray := prog_1_method_13_code
def yX8_limit : MethodName := ⟨RX8, "limit", "(II)I"⟩
abbrev cX8_retry : ByteArray := prog_1_method_14_code
def yX8_retry : MethodName := ⟨RX8, "retry", "(IIIII)I"⟩
abbrev cX8_nested : ByteArray := prog_1_method_15_code
def yX8_nested : MethodName := ⟨RX8, "nested", "(IIII)I"⟩
abbrev cX8_plan : ByteArray := prog_1_method_16_code
def yX8_plan : MethodName := ⟨RX8, "plan", "(III)I"⟩
abbrev cX8_clearPlan : ByteArray := prog_1_method_17_code
def yX8_clearPlan : MethodName := ⟨RX8, "clearPlan", "()I"⟩
abbrev cX8_callOff : ByteArray := prog_1_method_18_code
def yX8_callOff : MethodName := ⟨RX8, "callOff", "(II)I"⟩
abbrev cX8_run : ByteArray := prog_1_method_19_code
def yX8_run : MethodName := ⟨RX8, "run", "(I)I"⟩
abbrev cX8_now : ByteArray := prog_1_method_20_code
def yX8_now : MethodName := ⟨RX8, "now", "()I"⟩
abbrev cX8_state : ByteArray := prog_1_method_21_code
def yX8_state : MethodName := ⟨RX8, "state", "(I)I"⟩
abbrev cX8_answer : ByteArray := prog_1_method_22_code
def yX8_answer : MethodName := ⟨RX8, "answer", "(I)I"⟩
abbrev cX8_end : ByteArray := prog_1_method_23_code
def yX8_end : MethodName := ⟨RX8, "end", "(II)I"⟩
abbrev cX8_failure : ByteArray := prog_1_method_24_code
def yX8_failure : MethodName := ⟨RX8, "failure", "(III)I"⟩
abbrev cX8_work : ByteArray := prog_1_method_25_code
def yX8_work : MethodName := ⟨RX8, "work", "(II)I"⟩
abbrev cX8_pause : ByteArray := prog_1_method_26_code
def yX8_pause : MethodName := ⟨RX8, "pause", "(II)I"⟩
abbrev cX8_cook : ByteArray := prog_1_method_27_code
def yX8_cook : MethodName := ⟨RX8, "cook", "(II)I"⟩
abbrev cX8_served : ByteArray := prog_1_method_28_code
def yX8_served : MethodName := ⟨RX8, "served", "(I)I"⟩
abbrev cX8_stages : ByteArray := prog_1_method_29_code
def yX8_stages : MethodName := ⟨RX8, "stages", "()I"⟩
abbrev cX8_log : ByteArray := prog_1_method_30_code
def yX8_log : MethodName := ⟨RX8, "log", "(II)I"⟩
abbrev cX8_isWithin : ByteArray := prog_1_method_31_code
def yX8_isWithin : MethodName := ⟨RX8, "isWithin", "(III)Z"⟩
abbrev cX8_isWork : ByteArray := prog_1_method_32_code
def yX8_isWork : MethodName := ⟨RX8, "isWork", "(III)Z"⟩
abbrev cX8_isGroup : ByteArray := prog_1_method_33_code
def yX8_isGroup : MethodName := ⟨RX8, "isGroup", "(II)Z"⟩
abbrev cX8_find : ByteArray := prog_1_method_34_code
def yX8_find : MethodName := ⟨RX8, "find", "(I)LPromiseKitchen$Stage;"⟩
abbrev cX8_inputsOf : ByteArray := prog_1_method_35_code
def yX8_inputsOf : MethodName := ⟨RX8, "inputsOf", "()[LPromiseKitchen$Stage;"⟩
abbrev cX8_inputsOf_ : ByteArray := prog_1_method_36_code
def yX8_inputsOf_ : MethodName := ⟨RX8, "inputsOf", "(LPromiseKitchen$Stage;)[LPromiseKitchen$Stage;"⟩
abbrev cX8_inputsOf__ : ByteArray := prog_1_method_37_code
def yX8_inputsOf__ : MethodName := ⟨RX8, "inputsOf", "(LPromiseKitchen$Stage;LPromiseKitchen$Stage;)[LPromiseKitchen$Stage;"⟩
abbrev cX8_groupOf : ByteArray := prog_1_method_38_code
def yX8_groupOf : MethodName := ⟨RX8, "groupOf", "(II)[LPromiseKitchen$Stage;"⟩
abbrev cX8_open : ByteArray := prog_1_method_39_code
def yX8_open : MethodName := ⟨RX8, "open", "(LPromiseKitchen$Stage;)I"⟩
abbrev cX8_openWork : ByteArray := prog_1_method_40_code
def yX8_openWork : MethodName := ⟨RX8, "openWork", "(LPromiseKitchen$Work;)I"⟩
abbrev cX8_keep : ByteArray := prog_1_method_41_code
def yX8_keep : MethodName := ⟨RX8, "keep", "(LPromiseKitchen$Stage;)Z"⟩
abbrev cX8_makeReady : ByteArray := prog_1_method_42_code
def yX8_makeReady : MethodName := ⟨RX8, "makeReady", "(LPromiseKitchen$Work;)V"⟩
abbrev cX8_conclude : ByteArray := prog_1_method_43_code
def yX8_conclude : MethodName := ⟨RX8, "conclude", "(LPromiseKitchen$Stage;)V"⟩
abbrev cX8_noteEnd : ByteArray := prog_1_method_44_code
def yX8_noteEnd : MethodName := ⟨RX8, "noteEnd", "(LPromiseKitchen$Stage;)V"⟩
abbrev cX8_release : ByteArray := prog_1_method_45_code
def yX8_release : MethodName := ⟨RX8, "release", "(LPromiseKitchen$Work;)V"⟩
abbrev cX8_dropFrom : ByteArray := prog_1_method_46_code
def yX8_dropFrom : MethodName := ⟨RX8, "dropFrom", "(Ljava/util/ArrayList;LPromiseKitchen$Work;)V"⟩
abbrev cX8_payDues : ByteArray := prog_1_method_47_code
def yX8_payDues : MethodName := ⟨RX8, "payDues", "()V"⟩
abbrev cX8_callOffTheNamed : ByteArray := prog_1_method_48_code
def yX8_callOffTheNamed : MethodName := ⟨RX8, "callOffTheNamed", "()V"⟩
abbrev cX8_treatWorksOver : ByteArray := prog_1_method_49_code
def yX8_treatWorksOver : MethodName := ⟨RX8, "treatWorksOver", "()V"⟩
abbrev cX8_meetInput : ByteArray := prog_1_method_50_code
def yX8_meetInput : MethodName := ⟨RX8, "meetInput", "(LPromiseKitchen$Work;)V"⟩
abbrev cX8_finishWorking : ByteArray := prog_1_method_51_code
def yX8_finishWorking : MethodName := ⟨RX8, "finishWorking", "(LPromiseKitchen$Work;)V"⟩
abbrev cX8_failLimitsDue : ByteArray := prog_1_method_52_code
def yX8_failLimitsDue : MethodName := ⟨RX8, "failLimitsDue", "()V"⟩
abbrev cX8_endPauses : ByteArray := prog_1_method_53_code
def yX8_endPauses : MethodName := ⟨RX8, "endPauses", "()V"⟩
abbrev cX8_turnToCooks : ByteArray := prog_1_method_54_code
def yX8_turnToCooks : MethodName := ⟨RX8, "turnToCooks", "()V"⟩
abbrev cX8_resumeOrTake : ByteArray := prog_1_method_55_code
def yX8_resumeOrTake : MethodName := ⟨RX8, "resumeOrTake", "(LPromiseKitchen$Cook;)LPromiseKitchen$Work;"⟩
abbrev cX8_choose : ByteArray := prog_1_method_56_code
def yX8_choose : MethodName := ⟨RX8, "choose", "(LPromiseKitchen$Stage;)LPromiseKitchen$Work;"⟩
abbrev cX8_take : ByteArray := prog_1_method_57_code
def yX8_take : MethodName := ⟨RX8, "take", "(LPromiseKitchen$Cook;LPromiseKitchen$Work;)V"⟩
abbrev cX8_countIdle : ByteArray := prog_1_method_58_code
def yX8_countIdle : MethodName := ⟨RX8, "countIdle", "()V"⟩
abbrev cX8_walkTo : ByteArray := prog_1_method_59_code
def yX8_walkTo : MethodName := ⟨RX8, "walkTo", "(LPromiseKitchen$Failure;I)LPromiseKitchen$Failure;"⟩
def RX9 : String := "PromiseKitchenModel"
def TX9 : u_T := fun k => match k with
  | 0 => ("PromiseKitchenModel", "now", "I", false)
  | 1 => ("PromiseKitchenModel", "stages", "I", false)
  | 2 => ("PromiseKitchenModel", "sort", "[I", true)
  | 3 => ("PromiseKitchenModel", "input", "[I", true)
  | 4 => ("PromiseKitchenModel", "inputs", "[I", true)
  | 5 => ("PromiseKitchenModel", "kindOf", "[I", true)
  | 6 => ("PromiseKitchenModel", "numberOf", "[I", true)
  | 7 => ("PromiseKitchenModel", "wanted", "[I", true)
  | 8 => ("PromiseKitchenModel", "came", "[I", true)
  | 9 => ("PromiseKitchenModel", "minuteOf", "[I", true)
  | 10 => ("PromiseKitchenModel", "placeOf", "[I", true)
  | 11 => ("PromiseKitchenModel", "valueOf", "[I", true)
  | 12 => ("PromiseKitchenModel", "failureOf", "[I", true)
  | 13 => ("PromiseKitchenModel", "isDue", "[Z", true)
  | 14 => ("PromiseKitchenModel", "offAt", "[I", true)
  | 15 => ("PromiseKitchenModel", "ended", "[I", true)
  | 16 => ("PromiseKitchenModel", "ends", "I", false)
  | 17 => ("PromiseKitchenModel", "dueTill", "I", false)
  | 18 => ("PromiseKitchenModel", "minutes", "[I", true)
  | 19 => ("PromiseKitchenModel", "where", "[I", true)
  | 20 => ("PromiseKitchenModel", "readyAt", "[I", true)
  | 21 => ("PromiseKitchenModel", "workings", "[I", true)
  | 22 => ("PromiseKitchenModel", "beganAt", "[I", true)
  | 23 => ("PromiseKitchenModel", "overAt", "[I", true)
  | 24 => ("PromiseKitchenModel", "part", "[I", true)
  | 25 => ("PromiseKitchenModel", "cookOf", "[I", true)
  | 26 => ("PromiseKitchenModel", "isInterrupted", "[Z", true)
  | 27 => ("PromiseKitchenModel", "paused", "[I", true)
  | 28 => ("PromiseKitchenModel", "pauseOver", "[I", true)
  | 29 => ("PromiseKitchenModel", "times", "[I", true)
  | 30 => ("PromiseKitchenModel", "pauseFor", "[I", true)
  | 31 => ("PromiseKitchenModel", "earlier", "[I", true)
  | 32 => ("PromiseKitchenModel", "dueAt", "[I", true)
  | 33 => ("PromiseKitchenModel", "fKind", "[I", true)
  | 34 => ("PromiseKitchenModel", "fAt", "[I", true)
  | 35 => ("PromiseKitchenModel", "fCause", "[I", true)
  | 36 => ("PromiseKitchenModel", "fFrom", "[I", true)
  | 37 => ("PromiseKitchenModel", "fMany", "[I", true)
  | 38 => ("PromiseKitchenModel", "failures", "I", false)
  | 39 => ("PromiseKitchenModel", "pool", "[I", true)
  | 40 => ("PromiseKitchenModel", "pooled", "I", false)
  | 41 => ("PromiseKitchenModel", "planStage", "[I", true)
  | 42 => ("PromiseKitchenModel", "planTime", "[I", true)
  | 43 => ("PromiseKitchenModel", "planKind", "[I", true)
  | 44 => ("PromiseKitchenModel", "plans", "I", false)
  | 45 => ("PromiseKitchenModel", "cooks", "I", false)
  | 46 => ("PromiseKitchenModel", "pile", "[I", true)
  | 47 => ("PromiseKitchenModel", "piled", "[I", true)
  | 48 => ("PromiseKitchenModel", "helped", "[I", true)
  | 49 => ("PromiseKitchenModel", "idle", "[I", true)
  | 50 => ("PromiseKitchenModel", "logMinute", "[I", true)
  | 51 => ("PromiseKitchenModel", "logStage", "[I", true)
  | 52 => ("PromiseKitchenModel", "logEvent", "[I", true)
  | 53 => ("PromiseKitchenModel", "logs", "I", false)
  | 54 => ("PromiseKitchenModel", "thrown", "I", false)
  | 55 => ("PromiseKitchenModel", "isOver", "[Z", true)
  | 56 => ("PromiseKitchenModel", "hangs", "[Z", true)
  | 57 => ("PromiseKitchenModel", "rowOf", "[I", true)
  | 58 => ("PromiseKitchenModel", "rowUp", "[I", true)
  | 59 => ("PromiseKitchenModel", "rowRole", "[I", true)
  | 60 => ("PromiseKitchenModel", "rows", "I", false)
  | 61 => ("PromiseKitchenModel", "openOf", "[I", true)
  | 62 => ("PromiseKitchenModel", "openUp", "[I", true)
  | 63 => ("PromiseKitchenModel", "openRole", "[I", true)
  | 64 => ("PromiseKitchenModel", "opens", "I", false)
  | _ => ("PromiseKitchenModel", "stands", "[Z", true)
def tyX9 : Nat → FieldType := fun k => match k with
  | 0 => .int
  | 1 => .int
  | 2 => .array .int
  | 3 => .array .int
  | 4 => .array .int
  | 5 => .array .int
  | 6 => .array .int
  | 7 => .array .int
  | 8 => .array .int
  | 9 => .array .int
  | 10 => .array .int
  | 11 => .array .int
  | 12 => .array .int
  | 13 => .array .boolean
  | 14 => .array .int
  | 15 => .array .int
  | 16 => .int
  | 17 => .int
  | 18 => .array .int
  | 19 => .array .int
  | 20 => .array .int
  | 21 => .array .int
  | 22 => .array .int
  | 23 => .array .int
  | 24 => .array .int
  | 25 => .array .int
  | 26 => .array .boolean
  | 27 => .array .int
  | 28 => .array .int
  | 29 => .array .int
  | 30 => .array .int
  | 31 => .array .int
  | 32 => .array .int
  | 33 => .array .int
  | 34 => .array .int
  | 35 => .array .int
  | 36 => .array .int
  | 37 => .array .int
  | 38 => .int
  | 39 => .array .int
  | 40 => .int
  | 41 => .array .int
  | 42 => .array .int
  | 43 => .array .int
  | 44 => .int
  | 45 => .int
  | 46 => .array .int
  | 47 => .array .int
  | 48 => .array .int
  | 49 => .array .int
  | 50 => .array .int
  | 51 => .array .int
  | 52 => .array .int
  | 53 => .int
  | 54 => .int
  | 55 => .array .boolean
  | 56 => .array .boolean
  | 57 => .array .int
  | 58 => .array .int
  | 59 => .array .int
  | 60 => .int
  | 61 => .array .int
  | 62 => .array .int
  | 63 => .array .int
  | 64 => .int
  | _ => .array .boolean
abbrev wsX90 : List Cond := u_ws RX9 TX9 66
theorem nmX9 : ∀ a, a < 66 → ∀ b, b < 66 → a ≠ b → (TX9 a).2.1 ≠ (TX9 b).2.1 := by decide +kernel
theorem tyX9_ok : ∀ k, k < 66 → parseFieldDescriptor (TX9 k).2.2.1 = some (tyX9 k) := by decide +kernel
abbrev cX9_init : ByteArray := prog_11_method_1_code
def yX9_init : MethodName := ⟨RX9, "<init>", "()V"⟩
abbrev cX9_thrown : ByteArray := prog_11_method_2_code
def yX9_thrown : MethodName := ⟨RX9, "thrown", "()I"⟩
abbrev cX9_in : ByteArray := prog_11_method_3_code
def yX9_in : MethodName := ⟨RX9, "in", "(III)Z"⟩
abbrev cX9_isStage : ByteArray := prog_11_method_4_code
def yX9_isStage : MethodName := ⟨RX9, "isStage", "(I)Z"⟩
abbrev cX9_isWork : ByteArray := prog_11_method_5_code
def yX9_isWork : MethodName := ⟨RX9, "isWork", "(I)Z"⟩
abbrev cX9_note : ByteArray := prog_11_method_6_code
def yX9_note : MethodName := ⟨RX9, "note", "(II)V"⟩
abbrev cX9_newFailure : ByteArray := prog_11_method_7_code
def yX9_newFailure : MethodName := ⟨RX9, "newFailure", "(III)I"⟩
abbrev cX9_suppress : ByteArray := prog_11_method_8_code
def yX9_suppress : MethodName := ⟨RX9, "suppress", "(II)V"⟩
abbrev cX9_isUnder : ByteArray := prog_11_method_9_code
def yX9_isUnder : MethodName := ⟨RX9, "isUnder", "(II)Z"⟩
abbrev cX9_mark : ByteArray := prog_11_method_10_code
def yX9_mark : MethodName := ⟨RX9, "mark", "(II)V"⟩
abbrev cX9_leave : ByteArray := prog_11_method_11_code
def yX9_leave : MethodName := ⟨RX9, "leave", "(I)V"⟩
abbrev cX9_withValue : ByteArray := prog_11_method_12_code
def yX9_withValue : MethodName := ⟨RX9, "withValue", "(II)V"⟩
abbrev cX9_withFailure : ByteArray := prog_11_method_13_code
def yX9_withFailure : MethodName := ⟨RX9, "withFailure", "(II)V"⟩
abbrev cX9_as : ByteArray := prog_11_method_14_code
def yX9_as : MethodName := ⟨RX9, "as", "(II)V"⟩
abbrev cX9_follow : ByteArray := prog_11_method_15_code
def yX9_follow : MethodName := ⟨RX9, "follow", "(I)V"⟩
abbrev cX9_behind : ByteArray := prog_11_method_16_code
def yX9_behind : MethodName := ⟨RX9, "behind", "(I)V"⟩
abbrev cX9_isServed : ByteArray := prog_11_method_17_code
def yX9_isServed : MethodName := ⟨RX9, "isServed", "(I)Z"⟩
abbrev cX9_servedBy : ByteArray := prog_11_method_18_code
def yX9_servedBy : MethodName := ⟨RX9, "servedBy", "(I)I"⟩
abbrev cX9_dues : ByteArray := prog_11_method_19_code
def yX9_dues : MethodName := ⟨RX9, "dues", "()V"⟩
abbrev cX9_asked : ByteArray := prog_11_method_20_code
def yX9_asked : MethodName := ⟨RX9, "asked", "(I)V"⟩
abbrev cX9_becomes : ByteArray := prog_11_method_21_code
def yX9_becomes : MethodName := ⟨RX9, "becomes", "(I)V"⟩
abbrev cX9_askThen : ByteArray := prog_11_method_22_code
def yX9_askThen : MethodName := ⟨RX9, "askThen", "(II)V"⟩
abbrev cX9_firstOf : ByteArray := prog_11_method_23_code
def yX9_firstOf : MethodName := ⟨RX9, "firstOf", "(II)I"⟩
abbrev cX9_askBoth : ByteArray := prog_11_method_24_code
def yX9_askBoth : MethodName := ⟨RX9, "askBoth", "(III)V"⟩
abbrev cX9_askAll : ByteArray := prog_11_method_25_code
def yX9_askAll : MethodName := ⟨RX9, "askAll", "(I)V"⟩
abbrev cX9_isInput : ByteArray := prog_11_method_26_code
def yX9_isInput : MethodName := ⟨RX9, "isInput", "(II)Z"⟩
abbrev cX9_askAny : ByteArray := prog_11_method_27_code
def yX9_askAny : MethodName := ⟨RX9, "askAny", "(I)V"⟩
abbrev cX9_none : ByteArray := prog_11_method_28_code
def yX9_none : MethodName := ⟨RX9, "none", "(II)V"⟩
abbrev cX9_askOnFailure : ByteArray := prog_11_method_29_code
def yX9_askOnFailure : MethodName := ⟨RX9, "askOnFailure", "(I)V"⟩
abbrev cX9_askAlways : ByteArray := prog_11_method_30_code
def yX9_askAlways : MethodName := ⟨RX9, "askAlways", "(I)V"⟩
abbrev cX9_made : ByteArray := prog_11_method_31_code
def yX9_made : MethodName := ⟨RX9, "made", "(III)I"⟩
abbrev cX9_takes : ByteArray := prog_11_method_32_code
def yX9_takes : MethodName := ⟨RX9, "takes", "(II)V"⟩
abbrev cX9_begins : ByteArray := prog_11_method_33_code
def yX9_begins : MethodName := ⟨RX9, "begins", "(I)I"⟩
abbrev cX9_isFull : ByteArray := prog_11_method_34_code
def yX9_isFull : MethodName := ⟨RX9, "isFull", "(I)Z"⟩
abbrev cX9_newWork : ByteArray := prog_11_method_35_code
def yX9_newWork : MethodName := ⟨RX9, "newWork", "(IIII)I"⟩
abbrev cX9_task : ByteArray := prog_11_method_36_code
def yX9_task : MethodName := ⟨RX9, "task", "(III)I"⟩
abbrev cX9_value : ByteArray := prog_11_method_37_code
def yX9_value : MethodName := ⟨RX9, "value", "(I)I"⟩
abbrev cX9_failed : ByteArray := prog_11_method_38_code
def yX9_failed : MethodName := ⟨RX9, "failed", "(I)I"⟩
abbrev cX9_then : ByteArray := prog_11_method_39_code
def yX9_then : MethodName := ⟨RX9, "then", "(III)I"⟩
abbrev cX9_both : ByteArray := prog_11_method_40_code
def yX9_both : MethodName := ⟨RX9, "both", "(III)I"⟩
abbrev cX9_first : ByteArray := prog_11_method_41_code
def yX9_first : MethodName := ⟨RX9, "first", "(II)I"⟩
abbrev cX9_row : ByteArray := prog_11_method_42_code
def yX9_row : MethodName := ⟨RX9, "row", "(IIII)I"⟩
abbrev cX9_all : ByteArray := prog_11_method_43_code
def yX9_all : MethodName := ⟨RX9, "all", "(II)I"⟩
abbrev cX9_any : ByteArray := prog_11_method_44_code
def yX9_any : MethodName := ⟨RX9, "any", "(III)I"⟩
abbrev cX9_onFailure : ByteArray := prog_11_method_45_code
def yX9_onFailure : MethodName := ⟨RX9, "onFailure", "(III)I"⟩
abbrev cX9_always : ByteArray := prog_11_method_46_code
def yX9_always : MethodName := ⟨RX9, "always", "(IIII)I"⟩
abbrev cX9_limit : ByteArray := prog_11_method_47_code
def yX9_limit : MethodName := ⟨RX9, "limit", "(II)I"⟩
abbrev cX9_retry : ByteArray := prog_11_method_48_code
def yX9_retry : MethodName := ⟨RX9, "retry", "(IIIII)I"⟩
abbrev cX9_nested : ByteArray := prog_11_method_49_code
def yX9_nested : MethodName := ⟨RX9, "nested", "(IIII)I"⟩
abbrev cX9_planned : ByteArray := prog_11_method_50_code
def yX9_planned : MethodName := ⟨RX9, "planned", "(II)I"⟩
abbrev cX9_plan : ByteArray := prog_11_method_51_code
def yX9_plan : MethodName := ⟨RX9, "plan", "(III)I"⟩
abbrev cX9_clearPlan : ByteArray := prog_11_method_52_code
def yX9_clearPlan : MethodName := ⟨RX9, "clearPlan", "()I"⟩
abbrev cX9_callOff : ByteArray := prog_11_method_53_code
def yX9_callOff : MethodName := ⟨RX9, "callOff", "(II)I"⟩
abbrev cX9_run : ByteArray := prog_11_method_54_code
def yX9_run : MethodName := ⟨RX9, "run", "(I)I"⟩
abbrev cX9_callsOff : ByteArray := prog_11_method_55_code
def yX9_callsOff : MethodName := ⟨RX9, "callsOff", "()V"⟩
abbrev cX9_isOverNow : ByteArray := prog_11_method_56_code
def yX9_isOverNow : MethodName := ⟨RX9, "isOverNow", "(I)Z"⟩
abbrev cX9_overs : ByteArray := prog_11_method_57_code
def yX9_overs : MethodName := ⟨RX9, "overs", "()V"⟩
abbrev cX9_half : ByteArray := prog_11_method_58_code
def yX9_half : MethodName := ⟨RX9, "half", "(I)V"⟩
abbrev cX9_goesOn : ByteArray := prog_11_method_59_code
def yX9_goesOn : MethodName := ⟨RX9, "goesOn", "(I)V"⟩
abbrev cX9_worked : ByteArray := prog_11_method_60_code
def yX9_worked : MethodName := ⟨RX9, "worked", "(I)V"⟩
abbrev cX9_fails : ByteArray := prog_11_method_61_code
def yX9_fails : MethodName := ⟨RX9, "fails", "(II)V"⟩
abbrev cX9_limits : ByteArray := prog_11_method_62_code
def yX9_limits : MethodName := ⟨RX9, "limits", "()V"⟩
abbrev cX9_rests : ByteArray := prog_11_method_63_code
def yX9_rests : MethodName := ⟨RX9, "rests", "()V"⟩
abbrev cX9_upmost : ByteArray := prog_11_method_64_code
def yX9_upmost : MethodName := ⟨RX9, "upmost", "(I)I"⟩
abbrev cX9_turn : ByteArray := prog_11_method_65_code
def yX9_turn : MethodName := ⟨RX9, "turn", "(I)V"⟩
abbrev cX9_hang : ByteArray := prog_11_method_66_code
def yX9_hang : MethodName := ⟨RX9, "hang", "(I)V"⟩
abbrev cX9_take : ByteArray := prog_11_method_67_code
def yX9_take : MethodName := ⟨RX9, "take", "(II)Z"⟩
abbrev cX9_idles : ByteArray := prog_11_method_68_code
def yX9_idles : MethodName := ⟨RX9, "idles", "()V"⟩
abbrev cX9_cooks : ByteArray := prog_11_method_69_code
def yX9_cooks : MethodName := ⟨RX9, "cooks", "(I)I"⟩
abbrev cX9_now : ByteArray := prog_11_method_70_code
def yX9_now : MethodName := ⟨RX9, "now", "()I"⟩
abbrev cX9_state : ByteArray := prog_11_method_71_code
def yX9_state : MethodName := ⟨RX9, "state", "(I)I"⟩
abbrev cX9_answer : ByteArray := prog_11_method_72_code
def yX9_answer : MethodName := ⟨RX9, "answer", "(I)I"⟩
abbrev cX9_end : ByteArray := prog_11_method_73_code
def yX9_end : MethodName := ⟨RX9, "end", "(II)I"⟩
abbrev cX9_open : ByteArray := prog_11_method_74_code
def yX9_open : MethodName := ⟨RX9, "open", "(III)V"⟩
abbrev cX9_tree : ByteArray := prog_11_method_75_code
def yX9_tree : MethodName := ⟨RX9, "tree", "(I)V"⟩
abbrev cX9_failure : ByteArray := prog_11_method_76_code
def yX9_failure : MethodName := ⟨RX9, "failure", "(III)I"⟩
abbrev cX9_work : ByteArray := prog_11_method_77_code
def yX9_work : MethodName := ⟨RX9, "work", "(II)I"⟩
abbrev cX9_pause : ByteArray := prog_11_method_78_code
def yX9_pause : MethodName := ⟨RX9, "pause", "(II)I"⟩
abbrev cX9_cook : ByteArray := prog_11_method_79_code
def yX9_cook : MethodName := ⟨RX9, "cook", "(II)I"⟩
abbrev cX9_served : ByteArray := prog_11_method_80_code
def yX9_served : MethodName := ⟨RX9, "served", "(I)I"⟩
abbrev cX9_stages : ByteArray := prog_11_method_81_code
def yX9_stages : MethodName := ⟨RX9, "stages", "()I"⟩
abbrev cX9_log : ByteArray := prog_11_method_82_code
def yX9_log : MethodName := ⟨RX9, "log", "(II)I"⟩
def RJx145de : String := "java/io/Serializable"
def TJx145de : u_T := fun k => match k with
  | _ => ("", "", "", false)
def tyJx145de : Nat → FieldType := fun k => match k with
  | _ => .int
abbrev wsJx145de0 : List Cond := u_ws RJx145de TJx145de 0
theorem nmJx145de : ∀ a, a < 0 → ∀ b, b < 0 → a ≠ b → (TJx145de a).2.1 ≠ (TJx145de b).2.1 := by decide +kernel
theorem tyJx145de_ok : ∀ k, k < 0 → parseFieldDescriptor (TJx145de k).2.2.1 = some (tyJx145de k) := by decide +kernel
def RJx8e188 : String := "java/lang/Cloneable"
def TJx8e188 : u_T := fun k => match k with
  | _ => ("", "", "", false)
def tyJx8e188 : Nat → FieldType := fun k => match k with
  | _ => .int
abbrev wsJx8e1880 : List Cond := u_ws RJx8e188 TJx8e188 0
theorem nmJx8e188 : ∀ a, a < 0 → ∀ b, b < 0 → a ≠ b → (TJx8e188 a).2.1 ≠ (TJx8e188 b).2.1 := by decide +kernel
theorem tyJx8e188_ok : ∀ k, k < 0 → parseFieldDescriptor (TJx8e188 k).2.2.1 = some (tyJx8e188 k) := by decide +kernel
def RJxab1ab : String := "java/lang/Iterable"
def TJxab1ab : u_T := fun k => match k with
  | _ => ("", "", "", false)
def tyJxab1ab : Nat → FieldType := fun k => match k with
  | _ => .int
abbrev wsJxab1ab0 : List Cond := u_ws RJxab1ab TJxab1ab 0
theorem nmJxab1ab : ∀ a, a < 0 → ∀ b, b < 0 → a ≠ b → (TJxab1ab a).2.1 ≠ (TJxab1ab b).2.1 := by decide +kernel
theorem tyJxab1ab_ok : ∀ k, k < 0 → parseFieldDescriptor (TJxab1ab k).2.2.1 = some (tyJxab1ab k) := by decide +kernel
def RJ9 : String := "java/lang/Math"
def TJ9 : u_T := fun k => match k with
  | _ => ("", "", "", false)
def tyJ9 : Nat → FieldType := fun k => match k with
  | _ => .int
abbrev wsJ90 : List Cond := u_ws RJ9 TJ9 0
theorem nmJ9 : ∀ a, a < 0 → ∀ b, b < 0 → a ≠ b → (TJ9 a).2.1 ≠ (TJ9 b).2.1 := by decide +kernel
theorem tyJ9_ok : ∀ k, k < 0 → parseFieldDescriptor (TJ9 k).2.2.1 = some (tyJ9 k) := by decide +kernel
abbrev cJ9_floorDiv_7cf53 : ByteArray := prog_19_method_47_code
def yJ9_floorDiv_7cf53 : MethodName := ⟨RJ9, "floorDiv", "(II)I"⟩
abbrev cJ9_max_7cf53 : ByteArray := prog_19_method_65_code
def yJ9_max_7cf53 : MethodName := ⟨RJ9, "max", "(II)I"⟩
abbrev cJ9_min_7cf53 : ByteArray := prog_19_method_69_code
def yJ9_min_7cf53 : MethodName := ⟨RJ9, "min", "(II)I"⟩
def RJ0 : String := "java/lang/String"
def TJ0 : u_T := fun k => match k with
  | _ => ("", "", "", false)
def tyJ0 : Nat → FieldType := fun k => match k with
  | _ => .int
abbrev wsJ00 : List Cond := u_ws RJ0 TJ0 0
theorem nmJ0 : ∀ a, a < 0 → ∀ b, b < 0 → a ≠ b → (TJ0 a).2.1 ≠ (TJ0 b).2.1 := by decide +kernel
theorem tyJ0_ok : ∀ k, k < 0 → parseFieldDescriptor (TJ0 k).2.2.1 = some (tyJ0 k) := by decide +kernel
def RJ10 : String := "java/lang/System"
def TJ10 : u_T := fun k => match k with
  | _ => ("", "", "", false)
def tyJ10 : Nat → FieldType := fun k => match k with
  | _ => .int
abbrev wsJ100 : List Cond := u_ws RJ10 TJ10 0
theorem nmJ10 : ∀ a, a < 0 → ∀ b, b < 0 → a ≠ b → (TJ10 a).2.1 ≠ (TJ10 b).2.1 := by decide +kernel
theorem tyJ10_ok : ∀ k, k < 0 → parseFieldDescriptor (TJ10 k).2.2.1 = some (tyJ10 k) := by decide +kernel
def RJxa1e45 : String := "java/util/AbstractCollection"
def TJxa1e45 : u_T := fun k => match k with
  | _ => ("", "", "", false)
def tyJxa1e45 : Nat → FieldType := fun k => match k with
  | _ => .int
abbrev wsJxa1e450 : List Cond := u_ws RJxa1e45 TJxa1e45 0
theorem nmJxa1e45 : ∀ a, a < 0 → ∀ b, b < 0 → a ≠ b → (TJxa1e45 a).2.1 ≠ (TJxa1e45 b).2.1 := by decide +kernel
theorem tyJxa1e45_ok : ∀ k, k < 0 → parseFieldDescriptor (TJxa1e45 k).2.2.1 = some (tyJxa1e45 k) := by decide +kernel
abbrev cJxa1e45_init_da8c8 : ByteArray := prog_24_method_1_code
def yJxa1e45_init_da8c8 : MethodName := ⟨RJxa1e45, "<init>", "()V"⟩
def RJxc12de : String := "java/util/AbstractList"
def TJxc12de : u_T := fun k => match k with
  | _ => ("", "", "", false)
def tyJxc12de : Nat → FieldType := fun k => match k with
  | _ => .int
abbrev wsJxc12de0 : List Cond := u_ws RJxc12de TJxc12de 0
theorem nmJxc12de : ∀ a, a < 0 → ∀ b, b < 0 → a ≠ b → (TJxc12de a).2.1 ≠ (TJxc12de b).2.1 := by decide +kernel
theorem tyJxc12de_ok : ∀ k, k < 0 → parseFieldDescriptor (TJxc12de k).2.2.1 = some (tyJxc12de k) := by decide +kernel
abbrev cJxc12de_init_da8c8 : ByteArray := prog_25_method_1_code
def yJxc12de_init_da8c8 : MethodName := ⟨RJxc12de, "<init>", "()V"⟩
def RJx4a65c : String := "java/util/ArrayList"
def TJx4a65c : u_T := fun k => match k with
  | 0 => ("java/util/AbstractList", "modCount", "I", false)
  | 1 => ("java/util/ArrayList", "elementData", "[Ljava/lang/Object;", false)
  | _ => ("java/util/ArrayList", "size", "I", false)
def tyJx4a65c : Nat → FieldType := fun k => match k with
  | 0 => .int
  | 1 => .array (.object "java/lang/Object")
  | _ => .int
abbrev wsJx4a65c0 : List Cond := u_ws RJx4a65c TJx4a65c 3
theorem nmJx4a65c : ∀ a, a < 3 → ∀ b, b < 3 → a ≠ b → (TJx4a65c a).2.1 ≠ (TJx4a65c b).2.1 := by decide +kernel
theorem tyJx4a65c_ok : ∀ k, k < 3 → parseFieldDescriptor (TJx4a65c k).2.2.1 = some (tyJx4a65c k) := by decide +kernel
abbrev cJx4a65c_init_da8c8 : ByteArray := prog_26_method_2_code
def yJx4a65c_init_da8c8 : MethodName := ⟨RJx4a65c, "<init>", "()V"⟩
abbrev cJx4a65c_grow_92f84 : ByteArray := prog_26_method_6_code
def yJx4a65c_grow_92f84 : MethodName := ⟨RJx4a65c, "grow", "(I)[Ljava/lang/Object;"⟩
abbrev cJx4a65c_grow_d5877 : ByteArray := prog_26_method_7_code
def yJx4a65c_grow_d5877 : MethodName := ⟨RJx4a65c, "grow", "()[Ljava/lang/Object;"⟩
abbrev cJx4a65c_size_8abf5 : ByteArray := prog_26_method_8_code
def yJx4a65c_size_8abf5 : MethodName := ⟨RJx4a65c, "size", "()I"⟩
abbrev cJx4a65c_isEmpty_aae02 : ByteArray := prog_26_method_9_code
def yJx4a65c_isEmpty_aae02 : MethodName := ⟨RJx4a65c, "isEmpty", "()Z"⟩
abbrev cJx4a65c_elementData_915e3 : ByteArray := prog_26_method_18_code
def yJx4a65c_elementData_915e3 : MethodName := ⟨RJx4a65c, "elementData", "(I)Ljava/lang/Object;"⟩
abbrev cJx4a65c_get_915e3 : ByteArray := prog_26_method_20_code
def yJx4a65c_get_915e3 : MethodName := ⟨RJx4a65c, "get", "(I)Ljava/lang/Object;"⟩
abbrev cJx4a65c_add_72be8 : ByteArray := prog_26_method_24_code
def yJx4a65c_add_72be8 : MethodName := ⟨RJx4a65c, "add", "(Ljava/lang/Object;[Ljava/lang/Object;I)V"⟩
abbrev cJx4a65c_add_9ea2d : ByteArray := prog_26_method_25_code
def yJx4a65c_add_9ea2d : MethodName := ⟨RJx4a65c, "add", "(Ljava/lang/Object;)Z"⟩
abbrev cJx4a65c_remove_915e3 : ByteArray := prog_26_method_29_code
def yJx4a65c_remove_915e3 : MethodName := ⟨RJx4a65c, "remove", "(I)Ljava/lang/Object;"⟩
abbrev cJx4a65c_fastRemove_b59b0 : ByteArray := prog_26_method_39_code
def yJx4a65c_fastRemove_b59b0 : MethodName := ⟨RJx4a65c, "fastRemove", "([Ljava/lang/Object;I)V"⟩
abbrev cJx4a65c_clear_da8c8 : ByteArray := prog_26_method_40_code
def yJx4a65c_clear_da8c8 : MethodName := ⟨RJx4a65c, "clear", "()V"⟩
def RJ7 : String := "java/util/Arrays"
def TJ7 : u_T := fun k => match k with
  | _ => ("", "", "", false)
def tyJ7 : Nat → FieldType := fun k => match k with
  | _ => .int
abbrev wsJ70 : List Cond := u_ws RJ7 TJ7 0
theorem nmJ7 : ∀ a, a < 0 → ∀ b, b < 0 → a ≠ b → (TJ7 a).2.1 ≠ (TJ7 b).2.1 := by decide +kernel
theorem tyJ7_ok : ∀ k, k < 0 → parseFieldDescriptor (TJ7 k).2.2.1 = some (tyJ7 k) := by decide +kernel
abbrev cJ7_copyOf_1904c : ByteArray := prog_27_method_119_code
def yJ7_copyOf_1904c : MethodName := ⟨RJ7, "copyOf", "([Ljava/lang/Object;I)[Ljava/lang/Object;"⟩
abbrev cJ7_copyOf_6403c : ByteArray := prog_27_method_120_code
def yJ7_copyOf_6403c : MethodName := ⟨RJ7, "copyOf", "([Ljava/lang/Object;ILjava/lang/Class;)[Ljava/lang/Object;"⟩
abbrev cJ7_copyOf_59c91 : ByteArray := prog_27_method_123_code
def yJ7_copyOf_59c91 : MethodName := ⟨RJ7, "copyOf", "([II)[I"⟩
def RJx5ef63 : String := "java/util/Collection"
def TJx5ef63 : u_T := fun k => match k with
  | _ => ("", "", "", false)
def tyJx5ef63 : Nat → FieldType := fun k => match k with
  | _ => .int
abbrev wsJx5ef630 : List Cond := u_ws RJx5ef63 TJx5ef63 0
theorem nmJx5ef63 : ∀ a, a < 0 → ∀ b, b < 0 → a ≠ b → (TJx5ef63 a).2.1 ≠ (TJx5ef63 b).2.1 := by decide +kernel
theorem tyJx5ef63_ok : ∀ k, k < 0 → parseFieldDescriptor (TJx5ef63 k).2.2.1 = some (tyJx5ef63 k) := by decide +kernel
def RJxbd725 : String := "java/util/List"
def TJxbd725 : u_T := fun k => match k with
  | _ => ("", "", "", false)
def tyJxbd725 : Nat → FieldType := fun k => match k with
  | _ => .int
abbrev wsJxbd7250 : List Cond := u_ws RJxbd725 TJxbd725 0
theorem nmJxbd725 : ∀ a, a < 0 → ∀ b, b < 0 → a ≠ b → (TJxbd725 a).2.1 ≠ (TJxbd725 b).2.1 := by decide +kernel
theorem tyJxbd725_ok : ∀ k, k < 0 → parseFieldDescriptor (TJxbd725 k).2.2.1 = some (tyJxbd725 k) := by decide +kernel
def RJ15 : String := "java/util/Objects"
def TJ15 : u_T := fun k => match k with
  | _ => ("", "", "", false)
def tyJ15 : Nat → FieldType := fun k => match k with
  | _ => .int
abbrev wsJ150 : List Cond := u_ws RJ15 TJ15 0
theorem nmJ15 : ∀ a, a < 0 → ∀ b, b < 0 → a ≠ b → (TJ15 a).2.1 ≠ (TJ15 b).2.1 := by decide +kernel
theorem tyJ15_ok : ∀ k, k < 0 → parseFieldDescriptor (TJ15 k).2.2.1 = some (tyJ15 k) := by decide +kernel
abbrev cJ15_checkIndex_7cf53 : ByteArray := prog_30_method_17_code
def yJ15_checkIndex_7cf53 : MethodName := ⟨RJ15, "checkIndex", "(II)I"⟩
def RJxf0a74 : String := "java/util/RandomAccess"
def TJxf0a74 : u_T := fun k => match k with
  | _ => ("", "", "", false)
def tyJxf0a74 : Nat → FieldType := fun k => match k with
  | _ => .int
abbrev wsJxf0a740 : List Cond := u_ws RJxf0a74 TJxf0a74 0
theorem nmJxf0a74 : ∀ a, a < 0 → ∀ b, b < 0 → a ≠ b → (TJxf0a74 a).2.1 ≠ (TJxf0a74 b).2.1 := by decide +kernel
theorem tyJxf0a74_ok : ∀ k, k < 0 → parseFieldDescriptor (TJxf0a74 k).2.2.1 = some (tyJxf0a74 k) := by decide +kernel
def RJxa66e6 : String := "java/util/SequencedCollection"
def TJxa66e6 : u_T := fun k => match k with
  | _ => ("", "", "", false)
def tyJxa66e6 : Nat → FieldType := fun k => match k with
  | _ => .int
abbrev wsJxa66e60 : List Cond := u_ws RJxa66e6 TJxa66e6 0
theorem nmJxa66e6 : ∀ a, a < 0 → ∀ b, b < 0 → a ≠ b → (TJxa66e6 a).2.1 ≠ (TJxa66e6 b).2.1 := by decide +kernel
theorem tyJxa66e6_ok : ∀ k, k < 0 → parseFieldDescriptor (TJxa66e6 k).2.2.1 = some (tyJxa66e6 k) := by decide +kernel
def RJ8 : String := "jdk/internal/util/ArraysSupport"
def TJ8 : u_T := fun k => match k with
  | _ => ("", "", "", false)
def tyJ8 : Nat → FieldType := fun k => match k with
  | _ => .int
abbrev wsJ80 : List Cond := u_ws RJ8 TJ8 0
theorem nmJ8 : ∀ a, a < 0 → ∀ b, b < 0 → a ≠ b → (TJ8 a).2.1 ≠ (TJ8 b).2.1 := by decide +kernel
theorem tyJ8_ok : ∀ k, k < 0 → parseFieldDescriptor (TJ8 k).2.2.1 = some (tyJ8 k) := by decide +kernel
abbrev cJ8_newLength_cabcc : ByteArray := prog_33_method_27_code
def yJ8_newLength_cabcc : MethodName := ⟨RJ8, "newLength", "(III)I"⟩
abbrev cJ8_hugeLength_7cf53 : ByteArray := prog_33_method_28_code
def yJ8_hugeLength_7cf53 : MethodName := ⟨RJ8, "hugeLength", "(II)I"⟩
def RJ3 : String := "jdk/internal/util/Preconditions"
def TJ3 : u_T := fun k => match k with
  | _ => ("", "", "", false)
def tyJ3 : Nat → FieldType := fun k => match k with
  | _ => .int
abbrev wsJ30 : List Cond := u_ws RJ3 TJ3 0
theorem nmJ3 : ∀ a, a < 0 → ∀ b, b < 0 → a ≠ b → (TJ3 a).2.1 ≠ (TJ3 b).2.1 := by decide +kernel
theorem tyJ3_ok : ∀ k, k < 0 → parseFieldDescriptor (TJ3 k).2.2.1 = some (tyJ3 k) := by decide +kernel
abbrev cJ3_checkIndex_8e157 : ByteArray := prog_34_method_11_code
def yJ3_checkIndex_8e157 : MethodName := ⟨RJ3, "checkIndex", "(IILjava/util/function/BiFunction;)I"⟩
def RL : String := "PromiseKitchenLaw"
abbrev cL_answer : ByteArray := method_3_code
def yL_answer : MethodName := ⟨RL, "answer", "(LPromiseKitchen;I[J)I"⟩
abbrev cL_failure : ByteArray := method_4_code
def yL_failure : MethodName := ⟨RL, "failure", "(LPromiseKitchen;III[J)I"⟩
abbrev cL_law : ByteArray := code
def yL_law : MethodName := ⟨RL, "law", "([I)Z"⟩
set_option maxRecDepth 100000 in
theorem inX0 : ∀ w ∈ wsX00, w ∈ lw_tbl := by decide +kernel
set_option maxRecDepth 100000 in
theorem inX1 : ∀ w ∈ wsX10, w ∈ lw_tbl := by decide +kernel
set_option maxRecDepth 100000 in
theorem inX2 : ∀ w ∈ wsX20, w ∈ lw_tbl := by decide +kernel
set_option maxRecDepth 100000 in
theorem inX3 : ∀ w ∈ wsX30, w ∈ lw_tbl := by decide +kernel
set_option maxRecDepth 100000 in
theorem inX4 : ∀ w ∈ wsX40, w ∈ lw_tbl := by decide +kernel
set_option maxRecDepth 100000 in
theorem inX5 : ∀ w ∈ wsX50, w ∈ lw_tbl := by decide +kernel
set_option maxRecDepth 100000 in
theorem inX6 : ∀ w ∈ wsX60, w ∈ lw_tbl := by decide +kernel
set_option maxRecDepth 100000 in
theorem inX7 : ∀ w ∈ wsX70, w ∈ lw_tbl := by decide +kernel
set_option maxRecDepth 100000 in
theorem inX8 : ∀ w ∈ wsX80, w ∈ lw_tbl := by decide +kernel
set_option maxRecDepth 100000 in
theorem inX9 : ∀ w ∈ wsX90, w ∈ lw_tbl := by decide +kernel
set_option maxRecDepth 100000 in
theorem inJx145de : ∀ w ∈ wsJx145de0, w ∈ lw_tbl := by decide +kernel
set_option maxRecDepth 100000 in
theorem inJx8e188 : ∀ w ∈ wsJx8e1880, w ∈ lw_tbl := by decide +kernel
set_option maxRecDepth 100000 in
theorem inJxab1ab : ∀ w ∈ wsJxab1ab0, w ∈ lw_tbl := by decide +kernel
set_option maxRecDepth 100000 in
theorem inJ9 : ∀ w ∈ wsJ90, w ∈ lw_tbl := by decide +kernel
set_option maxRecDepth 100000 in
theorem inJ0 : ∀ w ∈ wsJ00, w ∈ lw_tbl := by decide +kernel
set_option maxRecDepth 100000 in
theorem inJ10 : ∀ w ∈ wsJ100, w ∈ lw_tbl := by decide +kernel
set_option maxRecDepth 100000 in
theorem inJxa1e45 : ∀ w ∈ wsJxa1e450, w ∈ lw_tbl := by decide +kernel
set_option maxRecDepth 100000 in
theorem inJxc12de : ∀ w ∈ wsJxc12de0, w ∈ lw_tbl := by decide +kernel
set_option maxRecDepth 100000 in
theorem inJx4a65c : ∀ w ∈ wsJx4a65c0, w ∈ lw_tbl := by decide +kernel
set_option maxRecDepth 100000 in
theorem inJ7 : ∀ w ∈ wsJ70, w ∈ lw_tbl := by decide +kernel
set_option maxRecDepth 100000 in
theorem inJx5ef63 : ∀ w ∈ wsJx5ef630, w ∈ lw_tbl := by decide +kernel
set_option maxRecDepth 100000 in
theorem inJxbd725 : ∀ w ∈ wsJxbd7250, w ∈ lw_tbl := by decide +kernel
set_option maxRecDepth 100000 in
theorem inJ15 : ∀ w ∈ wsJ150, w ∈ lw_tbl := by decide +kernel
set_option maxRecDepth 100000 in
theorem inJxf0a74 : ∀ w ∈ wsJxf0a740, w ∈ lw_tbl := by decide +kernel
set_option maxRecDepth 100000 in
theorem inJxa66e6 : ∀ w ∈ wsJxa66e60, w ∈ lw_tbl := by decide +kernel
set_option maxRecDepth 100000 in
theorem inJ8 : ∀ w ∈ wsJ80, w ∈ lw_tbl := by decide +kernel
set_option maxRecDepth 100000 in
theorem inJ3 : ∀ w ∈ wsJ30, w ∈ lw_tbl := by decide +kernel
abbrev vwCl : List vw_C := [(RJx4a65c, TJx4a65c, 3), (RX0, TX0, 1), (RX1, TX1, 4), (RX2, TX2, 9), (RX3, TX3, 2), (RX4, TX4, 4), (RX6, TX6, 13), (RX7, TX7, 26), (RX8, TX8, 12), (RX9, TX9, 66)]
