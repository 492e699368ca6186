/-! ===== BEGIN printed: names, fields, word lists, decode rows ===== -/
def RX0 : String := "Statusboard$Incidents"
def TX0 : u_T := fun k => match k with
  | 0 => ("Statusboard$Incidents", "size", "I", false)
  | 1 => ("Statusboard$Incidents", "component", "[I", true)
  | 2 => ("Statusboard$Incidents", "level", "[I", true)
  | 3 => ("Statusboard$Incidents", "start", "[I", true)
  | 4 => ("Statusboard$Incidents", "end", "[I", true)
  | _ => ("Statusboard$Incidents", "caseNumber", "[I", true)
def tyX0 : Nat → FieldType := fun k => match k with
  | 0 => .int
  | 1 => .array .int
  | 2 => .array .int
  | 3 => .array .int
  | 4 => .array .int
  | _ => .array .int
abbrev wsX00 : List Cond := u_ws RX0 TX0 6
theorem nmX0 : ∀ a, a < 6 → ∀ b, b < 6 → a ≠ b → (TX0 a).2.1 ≠ (TX0 b).2.1 := by decide +kernel
theorem tyX0_ok : ∀ k, k < 6 → parseFieldDescriptor (TX0 k).2.2.1 = some (tyX0 k) := by decide +kernel
abbrev cX0_init : ByteArray := prog_2_method_1_code
def yX0_init : MethodName := ⟨RX0, "<init>", "()V"⟩
abbrev cX0_add : ByteArray := prog_2_method_2_code
def yX0_add : MethodName := ⟨RX0, "add", "(III)I"⟩
abbrev cX0_isOpen : ByteArray := prog_2_method_3_code
def yX0_isOpen : MethodName := ⟨RX0, "isOpen", "(I)Z"⟩
abbrev cX0_covers : ByteArray := prog_2_method_4_code
def yX0_covers : MethodName := ⟨RX0, "covers", "(II)Z"⟩
abbrev cX0_anyOf : ByteArray := prog_2_method_5_code
def yX0_anyOf : MethodName := ⟨RX0, "anyOf", "(I)Z"⟩
abbrev cX0_countOpen : ByteArray := prog_2_method_6_code
def yX0_countOpen : MethodName := ⟨RX0, "countOpen", "()I"⟩
abbrev cX0_mostUrgent : ByteArray := prog_2_method_7_code
def yX0_mostUrgent : MethodName := ⟨RX0, "mostUrgent", "()I"⟩
abbrev cX0_isMoreUrgent : ByteArray := prog_2_method_8_code
def yX0_isMoreUrgent : MethodName := ⟨RX0, "isMoreUrgent", "(II)Z"⟩
abbrev cX0_countCases : ByteArray := prog_2_method_9_code
def yX0_countCases : MethodName := ⟨RX0, "countCases", "()I"⟩
abbrev cX0_merge : ByteArray := prog_2_method_10_code
def yX0_merge : MethodName := ⟨RX0, "merge", "(II)I"⟩
abbrev cX0_nextChange : ByteArray := prog_2_method_11_code
def yX0_nextChange : MethodName := ⟨RX0, "nextChange", "(II)I"⟩
abbrev cX0_coveredMinutes : ByteArray := prog_2_method_12_code
def yX0_coveredMinutes : MethodName := ⟨RX0, "coveredMinutes", "(II)I"⟩
abbrev cX0_caseCovers : ByteArray := prog_2_method_13_code
def yX0_caseCovers : MethodName := ⟨RX0, "caseCovers", "(II)Z"⟩
def RX1 : String := "Statusboard$Levels"
def TX1 : u_T := fun k => match k with
  | 0 => ("Statusboard$Levels", "level", "[I", true)
  | 1 => ("Statusboard$Levels", "greatest", "[I", true)
  | 2 => ("Statusboard$Levels", "losses", "[I", true)
  | _ => ("Statusboard$Levels", "weights", "[I", true)
def tyX1 : Nat → FieldType := fun k => match k with
  | 0 => .array .int
  | 1 => .array .int
  | 2 => .array .int
  | _ => .array .int
abbrev wsX10 : List Cond := u_ws RX1 TX1 4
theorem nmX1 : ∀ a, a < 4 → ∀ b, b < 4 → a ≠ b → (TX1 a).2.1 ≠ (TX1 b).2.1 := by decide +kernel
theorem tyX1_ok : ∀ k, k < 4 → parseFieldDescriptor (TX1 k).2.2.1 = some (tyX1 k) := by decide +kernel
abbrev cX1_init : ByteArray := prog_3_method_1_code
def yX1_init : MethodName := ⟨RX1, "<init>", "()V"⟩
abbrev cX1_find : ByteArray := prog_3_method_2_code
def yX1_find : MethodName := ⟨RX1, "find", "(LStatusboard$Tree;LStatusboard$Incidents;I)V"⟩
abbrev cX1_clear : ByteArray := prog_3_method_3_code
def yX1_clear : MethodName := ⟨RX1, "clear", "()V"⟩
abbrev cX1_passUp : ByteArray := prog_3_method_4_code
def yX1_passUp : MethodName := ⟨RX1, "passUp", "(III)V"⟩
abbrev cX1_meanLoss : ByteArray := prog_3_method_5_code
def yX1_meanLoss : MethodName := ⟨RX1, "meanLoss", "(I)I"⟩
abbrev cX1_worstLeaf : ByteArray := prog_3_method_6_code
def yX1_worstLeaf : MethodName := ⟨RX1, "worstLeaf", "(LStatusboard$Tree;)I"⟩
def RX2 : String := "Statusboard$Mails"
def TX2 : u_T := fun k => match k with
  | 0 => ("Statusboard$Mails", "size", "I", false)
  | _ => ("Statusboard$Mails", "facts", "[I", false)
def tyX2 : Nat → FieldType := fun k => match k with
  | 0 => .int
  | _ => .array .int
abbrev wsX20 : List Cond := u_ws RX2 TX2 2
theorem nmX2 : ∀ a, a < 2 → ∀ b, b < 2 → a ≠ b → (TX2 a).2.1 ≠ (TX2 b).2.1 := by decide +kernel
theorem tyX2_ok : ∀ k, k < 2 → parseFieldDescriptor (TX2 k).2.2.1 = some (tyX2 k) := by decide +kernel
abbrev cX2_init : ByteArray := prog_4_method_1_code
def yX2_init : MethodName := ⟨RX2, "<init>", "()V"⟩
abbrev cX2_add : ByteArray := prog_4_method_2_code
def yX2_add : MethodName := ⟨RX2, "add", "(IIII)V"⟩
abbrev cX2_fact : ByteArray := prog_4_method_3_code
def yX2_fact : MethodName := ⟨RX2, "fact", "(II)I"⟩
abbrev cX2_countTo : ByteArray := prog_4_method_4_code
def yX2_countTo : MethodName := ⟨RX2, "countTo", "(I)I"⟩
def RX3 : String := "Statusboard$Maintenance"
def TX3 : u_T := fun k => match k with
  | 0 => ("Statusboard$Maintenance", "size", "I", false)
  | 1 => ("Statusboard$Maintenance", "component", "[I", true)
  | 2 => ("Statusboard$Maintenance", "from", "[I", true)
  | _ => ("Statusboard$Maintenance", "to", "[I", true)
def tyX3 : Nat → FieldType := fun k => match k with
  | 0 => .int
  | 1 => .array .int
  | 2 => .array .int
  | _ => .array .int
abbrev wsX30 : List Cond := u_ws RX3 TX3 4
theorem nmX3 : ∀ a, a < 4 → ∀ b, b < 4 → a ≠ b → (TX3 a).2.1 ≠ (TX3 b).2.1 := by decide +kernel
theorem tyX3_ok : ∀ k, k < 4 → parseFieldDescriptor (TX3 k).2.2.1 = some (tyX3 k) := by decide +kernel
abbrev cX3_init : ByteArray := prog_5_method_1_code
def yX3_init : MethodName := ⟨RX3, "<init>", "()V"⟩
abbrev cX3_add : ByteArray := prog_5_method_2_code
def yX3_add : MethodName := ⟨RX3, "add", "(III)I"⟩
abbrev cX3_excuses : ByteArray := prog_5_method_3_code
def yX3_excuses : MethodName := ⟨RX3, "excuses", "(II)Z"⟩
abbrev cX3_nextChange : ByteArray := prog_5_method_4_code
def yX3_nextChange : MethodName := ⟨RX3, "nextChange", "(II)I"⟩
abbrev cX3_excusedMinutes : ByteArray := prog_5_method_5_code
def yX3_excusedMinutes : MethodName := ⟨RX3, "excusedMinutes", "(III)I"⟩
def RX4 : String := "Statusboard$Persons"
def TX4 : u_T := fun k => match k with
  | 0 => ("Statusboard$Persons", "size", "I", false)
  | 1 => ("Statusboard$Persons", "least", "[I", true)
  | _ => ("Statusboard$Persons", "followed", "[I", true)
def tyX4 : Nat → FieldType := fun k => match k with
  | 0 => .int
  | 1 => .array .int
  | _ => .array .int
abbrev wsX40 : List Cond := u_ws RX4 TX4 3
theorem nmX4 : ∀ a, a < 3 → ∀ b, b < 3 → a ≠ b → (TX4 a).2.1 ≠ (TX4 b).2.1 := by decide +kernel
theorem tyX4_ok : ∀ k, k < 3 → parseFieldDescriptor (TX4 k).2.2.1 = some (tyX4 k) := by decide +kernel
abbrev cX4_init : ByteArray := prog_6_method_1_code
def yX4_init : MethodName := ⟨RX4, "<init>", "()V"⟩
abbrev cX4_add : ByteArray := prog_6_method_2_code
def yX4_add : MethodName := ⟨RX4, "add", "(I)I"⟩
abbrev cX4_follows : ByteArray := prog_6_method_3_code
def yX4_follows : MethodName := ⟨RX4, "follows", "(II)Z"⟩
abbrev cX4_toggle : ByteArray := prog_6_method_4_code
def yX4_toggle : MethodName := ⟨RX4, "toggle", "(II)V"⟩
abbrev cX4_count : ByteArray := prog_6_method_5_code
def yX4_count : MethodName := ⟨RX4, "count", "(I)I"⟩
def RX5 : String := "Statusboard$Tree"
def TX5 : u_T := fun k => match k with
  | 0 => ("Statusboard$Tree", "size", "I", false)
  | 1 => ("Statusboard$Tree", "parent", "[I", true)
  | 2 => ("Statusboard$Tree", "weight", "[I", true)
  | 3 => ("Statusboard$Tree", "rule", "[C", true)
  | 4 => ("Statusboard$Tree", "path", "[I", true)
  | _ => ("Statusboard$Tree", "within", "[I", true)
def tyX5 : Nat → FieldType := fun k => match k with
  | 0 => .int
  | 1 => .array .int
  | 2 => .array .int
  | 3 => .array .char
  | 4 => .array .int
  | _ => .array .int
abbrev wsX50 : List Cond := u_ws RX5 TX5 6
theorem nmX5 : ∀ a, a < 6 → ∀ b, b < 6 → a ≠ b → (TX5 a).2.1 ≠ (TX5 b).2.1 := by decide +kernel
theorem tyX5_ok : ∀ k, k < 6 → parseFieldDescriptor (TX5 k).2.2.1 = some (tyX5 k) := by decide +kernel
abbrev cX5_init : ByteArray := prog_7_method_1_code
def yX5_init : MethodName := ⟨RX5, "<init>", "()V"⟩
abbrev cX5_add : ByteArray := prog_7_method_2_code
def yX5_add : MethodName := ⟨RX5, "add", "(IIC)I"⟩
abbrev cX5_holds : ByteArray := prog_7_method_3_code
def yX5_holds : MethodName := ⟨RX5, "holds", "(II)Z"⟩
abbrev cX5_countAbove : ByteArray := prog_7_method_4_code
def yX5_countAbove : MethodName := ⟨RX5, "countAbove", "(I)I"⟩
abbrev cX5_countWithin : ByteArray := prog_7_method_5_code
def yX5_countWithin : MethodName := ⟨RX5, "countWithin", "(I)I"⟩
abbrev cX5_hasChildren : ByteArray := prog_7_method_6_code
def yX5_hasChildren : MethodName := ⟨RX5, "hasChildren", "(I)Z"⟩
abbrev cX5_countLeaves : ByteArray := prog_7_method_7_code
def yX5_countLeaves : MethodName := ⟨RX5, "countLeaves", "(I)I"⟩
abbrev cX5_withinAt : ByteArray := prog_7_method_8_code
def yX5_withinAt : MethodName := ⟨RX5, "withinAt", "(II)I"⟩
abbrev cX5_onPath : ByteArray := prog_7_method_9_code
def yX5_onPath : MethodName := ⟨RX5, "onPath", "(II)I"⟩
def RX6 : String := "Statusboard"
def TX6 : u_T := fun k => match k with
  | 0 => ("Statusboard", "tree", "LStatusboard$Tree;", true)
  | 1 => ("Statusboard", "persons", "LStatusboard$Persons;", true)
  | 2 => ("Statusboard", "incidentTable", "LStatusboard$Incidents;", true)
  | 3 => ("Statusboard", "maintenanceTable", "LStatusboard$Maintenance;", true)
  | 4 => ("Statusboard", "mailTable", "LStatusboard$Mails;", true)
  | 5 => ("Statusboard", "before", "LStatusboard$Levels;", true)
  | 6 => ("Statusboard", "now", "LStatusboard$Levels;", true)
  | _ => ("Statusboard", "present", "I", false)
def tyX6 : Nat → FieldType := fun k => match k with
  | 0 => .object "Statusboard$Tree"
  | 1 => .object "Statusboard$Persons"
  | 2 => .object "Statusboard$Incidents"
  | 3 => .object "Statusboard$Maintenance"
  | 4 => .object "Statusboard$Mails"
  | 5 => .object "Statusboard$Levels"
  | 6 => .object "Statusboard$Levels"
  | _ => .int
abbrev wsX60 : List Cond := u_ws RX6 TX6 8
theorem nmX6 : ∀ a, a < 8 → ∀ b, b < 8 → a ≠ b → (TX6 a).2.1 ≠ (TX6 b).2.1 := by decide +kernel
theorem tyX6_ok : ∀ k, k < 8 → parseFieldDescriptor (TX6 k).2.2.1 = some (tyX6 k) := by decide +kernel
abbrev cX6_init : ByteArray := prog_1_method_1_code
def yX6_init : MethodName := ⟨RX6, "<init>", "()V"⟩
abbrev cX6_addComponent : ByteArray := prog_1_method_2_code
def yX6_addComponent : MethodName := ⟨RX6, "addComponent", "(IIC)I"⟩
abbrev cX6_setWeight : ByteArray := prog_1_method_3_code
def yX6_setWeight : MethodName := ⟨RX6, "setWeight", "(II)I"⟩
abbrev cX6_addPerson : ByteArray := prog_1_method_4_code
def yX6_addPerson : MethodName := ⟨RX6, "addPerson", "(I)I"⟩
abbrev cX6_subscribe : ByteArray := prog_1_method_5_code
def yX6_subscribe : MethodName := ⟨RX6, "subscribe", "(II)I"⟩
abbrev cX6_unsubscribe : ByteArray := prog_1_method_6_code
def yX6_unsubscribe : MethodName := ⟨RX6, "unsubscribe", "(II)I"⟩
abbrev cX6_report : ByteArray := prog_1_method_7_code
def yX6_report : MethodName := ⟨RX6, "report", "(III)I"⟩
abbrev cX6_resolve : ByteArray := prog_1_method_8_code
def yX6_resolve : MethodName := ⟨RX6, "resolve", "(II)I"⟩
abbrev cX6_correct : ByteArray := prog_1_method_9_code
def yX6_correct : MethodName := ⟨RX6, "correct", "(III)I"⟩
abbrev cX6_withdraw : ByteArray := prog_1_method_10_code
def yX6_withdraw : MethodName := ⟨RX6, "withdraw", "(I)I"⟩
abbrev cX6_join : ByteArray := prog_1_method_11_code
def yX6_join : MethodName := ⟨RX6, "join", "(II)I"⟩
abbrev cX6_maintain : ByteArray := prog_1_method_12_code
def yX6_maintain : MethodName := ⟨RX6, "maintain", "(III)I"⟩
abbrev cX6_callOff : ByteArray := prog_1_method_13_code
def yX6_callOff : MethodName := ⟨RX6, "callOff", "(I)I"⟩
abbrev cX6_pass : ByteArray := prog_1_method_14_code
def yX6_pass : MethodName := ⟨RX6, "pass", "(I)I"⟩
abbrev cX6_components : ByteArray := prog_1_method_15_code
def yX6_components : MethodName := ⟨RX6, "components", "()I"⟩
abbrev cX6_people : ByteArray := prog_1_method_16_code
def yX6_people : MethodName := ⟨RX6, "people", "()I"⟩
abbrev cX6_incidents : ByteArray := prog_1_method_17_code
def yX6_incidents : MethodName := ⟨RX6, "incidents", "()I"⟩
abbrev cX6_minute : ByteArray := prog_1_method_18_code
def yX6_minute : MethodName := ⟨RX6, "minute", "()I"⟩
abbrev cX6_isGroup : ByteArray := prog_1_method_19_code
def yX6_isGroup : MethodName := ⟨RX6, "isGroup", "(I)Z"⟩
abbrev cX6_depth : ByteArray := prog_1_method_20_code
def yX6_depth : MethodName := ⟨RX6, "depth", "(I)I"⟩
abbrev cX6_leaves : ByteArray := prog_1_method_21_code
def yX6_leaves : MethodName := ⟨RX6, "leaves", "(I)I"⟩
abbrev cX6_belowAt : ByteArray := prog_1_method_22_code
def yX6_belowAt : MethodName := ⟨RX6, "belowAt", "(II)I"⟩
abbrev cX6_pathAt : ByteArray := prog_1_method_23_code
def yX6_pathAt : MethodName := ⟨RX6, "pathAt", "(II)I"⟩
abbrev cX6_state : ByteArray := prog_1_method_24_code
def yX6_state : MethodName := ⟨RX6, "state", "(I)C"⟩
abbrev cX6_stateAt : ByteArray := prog_1_method_25_code
def yX6_stateAt : MethodName := ⟨RX6, "stateAt", "(II)C"⟩
abbrev cX6_isExcused : ByteArray := prog_1_method_26_code
def yX6_isExcused : MethodName := ⟨RX6, "isExcused", "(II)Z"⟩
abbrev cX6_weightedLoss : ByteArray := prog_1_method_27_code
def yX6_weightedLoss : MethodName := ⟨RX6, "weightedLoss", "(I)I"⟩
abbrev cX6_worst : ByteArray := prog_1_method_28_code
def yX6_worst : MethodName := ⟨RX6, "worst", "()I"⟩
abbrev cX6_counted : ByteArray := prog_1_method_29_code
def yX6_counted : MethodName := ⟨RX6, "counted", "(II)I"⟩
abbrev cX6_uptime : ByteArray := prog_1_method_30_code
def yX6_uptime : MethodName := ⟨RX6, "uptime", "(II)I"⟩
abbrev cX6_uptimeByMinutes : ByteArray := prog_1_method_31_code
def yX6_uptimeByMinutes : MethodName := ⟨RX6, "uptimeByMinutes", "(II)I"⟩
abbrev cX6_excusedShare : ByteArray := prog_1_method_32_code
def yX6_excusedShare : MethodName := ⟨RX6, "excusedShare", "(I)F"⟩
abbrev cX6_meanUptime : ByteArray := prog_1_method_33_code
def yX6_meanUptime : MethodName := ⟨RX6, "meanUptime", "(I)D"⟩
abbrev cX6_open : ByteArray := prog_1_method_34_code
def yX6_open : MethodName := ⟨RX6, "open", "()I"⟩
abbrev cX6_nextIncident : ByteArray := prog_1_method_35_code
def yX6_nextIncident : MethodName := ⟨RX6, "nextIncident", "()I"⟩
abbrev cX6_levelOf : ByteArray := prog_1_method_36_code
def yX6_levelOf : MethodName := ⟨RX6, "levelOf", "(I)I"⟩
abbrev cX6_startOf : ByteArray := prog_1_method_37_code
def yX6_startOf : MethodName := ⟨RX6, "startOf", "(I)I"⟩
abbrev cX6_endOf : ByteArray := prog_1_method_38_code
def yX6_endOf : MethodName := ⟨RX6, "endOf", "(I)I"⟩
abbrev cX6_caseOf : ByteArray := prog_1_method_39_code
def yX6_caseOf : MethodName := ⟨RX6, "caseOf", "(I)I"⟩
abbrev cX6_cases : ByteArray := prog_1_method_40_code
def yX6_cases : MethodName := ⟨RX6, "cases", "()I"⟩
abbrev cX6_caseMinutes : ByteArray := prog_1_method_41_code
def yX6_caseMinutes : MethodName := ⟨RX6, "caseMinutes", "(I)I"⟩
abbrev cX6_subscriptions : ByteArray := prog_1_method_42_code
def yX6_subscriptions : MethodName := ⟨RX6, "subscriptions", "(I)I"⟩
abbrev cX6_mails : ByteArray := prog_1_method_43_code
def yX6_mails : MethodName := ⟨RX6, "mails", "()I"⟩
abbrev cX6_mailsTo : ByteArray := prog_1_method_44_code
def yX6_mailsTo : MethodName := ⟨RX6, "mailsTo", "(I)I"⟩
abbrev cX6_mailPerson : ByteArray := prog_1_method_45_code
def yX6_mailPerson : MethodName := ⟨RX6, "mailPerson", "(I)I"⟩
abbrev cX6_mailComponent : ByteArray := prog_1_method_46_code
def yX6_mailComponent : MethodName := ⟨RX6, "mailComponent", "(I)I"⟩
abbrev cX6_mailState : ByteArray := prog_1_method_47_code
def yX6_mailState : MethodName := ⟨RX6, "mailState", "(I)C"⟩
abbrev cX6_mailMinute : ByteArray := prog_1_method_48_code
def yX6_mailMinute : MethodName := ⟨RX6, "mailMinute", "(I)I"⟩
abbrev cX6_needComponent : ByteArray := prog_1_method_49_code
def yX6_needComponent : MethodName := ⟨RX6, "needComponent", "(I)V"⟩
abbrev cX6_needPerson : ByteArray := prog_1_method_50_code
def yX6_needPerson : MethodName := ⟨RX6, "needPerson", "(I)V"⟩
abbrev cX6_needIncident : ByteArray := prog_1_method_51_code
def yX6_needIncident : MethodName := ⟨RX6, "needIncident", "(I)V"⟩
abbrev cX6_needMail : ByteArray := prog_1_method_52_code
def yX6_needMail : MethodName := ⟨RX6, "needMail", "(I)V"⟩
abbrev cX6_needWeight : ByteArray := prog_1_method_53_code
def yX6_needWeight : MethodName := ⟨RX6, "needWeight", "(I)V"⟩
abbrev cX6_needLevel : ByteArray := prog_1_method_54_code
def yX6_needLevel : MethodName := ⟨RX6, "needLevel", "(I)V"⟩
abbrev cX6_needMinute : ByteArray := prog_1_method_55_code
def yX6_needMinute : MethodName := ⟨RX6, "needMinute", "(III)V"⟩
abbrev cX6_needMonth : ByteArray := prog_1_method_56_code
def yX6_needMonth : MethodName := ⟨RX6, "needMonth", "(I)V"⟩
abbrev cX6_signOf : ByteArray := prog_1_method_57_code
def yX6_signOf : MethodName := ⟨RX6, "signOf", "(I)C"⟩
abbrev cX6_lossOf : ByteArray := prog_1_method_58_code
def yX6_lossOf : MethodName := ⟨RX6, "lossOf", "(I)I"⟩
abbrev cX6_levelOfMeanLoss : ByteArray := prog_1_method_59_code
def yX6_levelOfMeanLoss : MethodName := ⟨RX6, "levelOfMeanLoss", "(I)I"⟩
abbrev cX6_nearer : ByteArray := prog_1_method_60_code
def yX6_nearer : MethodName := ⟨RX6, "nearer", "(III)I"⟩
abbrev cX6_sendMails : ByteArray := prog_1_method_61_code
def yX6_sendMails : MethodName := ⟨RX6, "sendMails", "()V"⟩
abbrev cX6_subjectFor : ByteArray := prog_1_method_62_code
def yX6_subjectFor : MethodName := ⟨RX6, "subjectFor", "(I)I"⟩
abbrev cX6_concerns : ByteArray := prog_1_method_63_code
def yX6_concerns : MethodName := ⟨RX6, "concerns", "(II)Z"⟩
abbrev cX6_shareByChanges : ByteArray := prog_1_method_64_code
def yX6_shareByChanges : MethodName := ⟨RX6, "shareByChanges", "(II)I"⟩
abbrev cX6_shareByMinutes : ByteArray := prog_1_method_65_code
def yX6_shareByMinutes : MethodName := ⟨RX6, "shareByMinutes", "(II)I"⟩
def RX7 : String := "StatusboardModel"
def TX7 : u_T := fun k => match k with
  | 0 => ("StatusboardModel", "thrown", "I", false)
  | 1 => ("StatusboardModel", "parents", "[I", true)
  | 2 => ("StatusboardModel", "weights", "[I", true)
  | 3 => ("StatusboardModel", "owners", "[I", true)
  | 4 => ("StatusboardModel", "levels", "[I", true)
  | 5 => ("StatusboardModel", "starts", "[I", true)
  | 6 => ("StatusboardModel", "ends", "[I", true)
  | 7 => ("StatusboardModel", "cases", "[I", true)
  | 8 => ("StatusboardModel", "kept", "[I", true)
  | 9 => ("StatusboardModel", "froms", "[I", true)
  | 10 => ("StatusboardModel", "tos", "[I", true)
  | 11 => ("StatusboardModel", "rules", "[C", true)
  | 12 => ("StatusboardModel", "components", "I", false)
  | 13 => ("StatusboardModel", "incidents", "I", false)
  | 14 => ("StatusboardModel", "times", "I", false)
  | 15 => ("StatusboardModel", "minute", "I", false)
  | 16 => ("StatusboardModel", "leasts", "[I", true)
  | 17 => ("StatusboardModel", "wanted", "[I", true)
  | 18 => ("StatusboardModel", "before", "[I", true)
  | 19 => ("StatusboardModel", "mailPeople", "[I", true)
  | 20 => ("StatusboardModel", "mailComponents", "[I", true)
  | 21 => ("StatusboardModel", "mailLevels", "[I", true)
  | 22 => ("StatusboardModel", "mailMinutes", "[I", true)
  | 23 => ("StatusboardModel", "people", "I", false)
  | 24 => ("StatusboardModel", "mails", "I", false)
  | 25 => ("StatusboardModel", "row", "[I", true)
  | _ => ("StatusboardModel", "rowMany", "I", false)
def tyX7 : Nat → FieldType := fun k => match k with
  | 0 => .int
  | 1 => .array .int
  | 2 => .array .int
  | 3 => .array .int
  | 4 => .array .int
  | 5 => .array .int
  | 6 => .array .int
  | 7 => .array .int
  | 8 => .array .int
  | 9 => .array .int
  | 10 => .array .int
  | 11 => .array .char
  | 12 => .int
  | 13 => .int
  | 14 => .int
  | 15 => .int
  | 16 => .array .int
  | 17 => .array .int
  | 18 => .array .int
  | 19 => .array .int
  | 20 => .array .int
  | 21 => .array .int
  | 22 => .array .int
  | 23 => .int
  | 24 => .int
  | 25 => .array .int
  | _ => .int
abbrev wsX70 : List Cond := u_ws RX7 TX7 27
theorem nmX7 : ∀ a, a < 27 → ∀ b, b < 27 → a ≠ b → (TX7 a).2.1 ≠ (TX7 b).2.1 := by decide +kernel
theorem tyX7_ok : ∀ k, k < 27 → parseFieldDescriptor (TX7 k).2.2.1 = some (tyX7 k) := by decide +kernel
abbrev cX7_init : ByteArray := prog_9_method_1_code
def yX7_init : MethodName := ⟨RX7, "<init>", "()V"⟩
abbrev cX7_thrown : ByteArray := prog_9_method_2_code
def yX7_thrown : MethodName := ⟨RX7, "thrown", "()I"⟩
abbrev cX7_fails : ByteArray := prog_9_method_3_code
def yX7_fails : MethodName := ⟨RX7, "fails", "(I)I"⟩
abbrev cX7_isWrong : ByteArray := prog_9_method_4_code
def yX7_isWrong : MethodName := ⟨RX7, "isWrong", "(I)Z"⟩
abbrev cX7_isBetween : ByteArray := prog_9_method_5_code
def yX7_isBetween : MethodName := ⟨RX7, "isBetween", "(III)Z"⟩
abbrev cX7_isComponent : ByteArray := prog_9_method_6_code
def yX7_isComponent : MethodName := ⟨RX7, "isComponent", "(I)Z"⟩
abbrev cX7_isIncident : ByteArray := prog_9_method_7_code
def yX7_isIncident : MethodName := ⟨RX7, "isIncident", "(I)Z"⟩
abbrev cX7_isGroupNow : ByteArray := prog_9_method_8_code
def yX7_isGroupNow : MethodName := ⟨RX7, "isGroupNow", "(I)Z"⟩
abbrev cX7_hasIncidents : ByteArray := prog_9_method_9_code
def yX7_hasIncidents : MethodName := ⟨RX7, "hasIncidents", "(I)Z"⟩
abbrev cX7_addComponent : ByteArray := prog_9_method_10_code
def yX7_addComponent : MethodName := ⟨RX7, "addComponent", "(IIC)I"⟩
abbrev cX7_setWeight : ByteArray := prog_9_method_11_code
def yX7_setWeight : MethodName := ⟨RX7, "setWeight", "(II)I"⟩
abbrev cX7_loss : ByteArray := prog_9_method_12_code
def yX7_loss : MethodName := ⟨RX7, "loss", "(I)I"⟩
abbrev cX7_letter : ByteArray := prog_9_method_13_code
def yX7_letter : MethodName := ⟨RX7, "letter", "(I)C"⟩
abbrev cX7_covers : ByteArray := prog_9_method_14_code
def yX7_covers : MethodName := ⟨RX7, "covers", "(II)Z"⟩
abbrev cX7_lossBy : ByteArray := prog_9_method_15_code
def yX7_lossBy : MethodName := ⟨RX7, "lossBy", "(II)I"⟩
abbrev cX7_levelAt : ByteArray := prog_9_method_16_code
def yX7_levelAt : MethodName := ⟨RX7, "levelAt", "(II)I"⟩
abbrev cX7_isExcusedAt : ByteArray := prog_9_method_17_code
def yX7_isExcusedAt : MethodName := ⟨RX7, "isExcusedAt", "(II)Z"⟩
abbrev cX7_isPerson : ByteArray := prog_9_method_18_code
def yX7_isPerson : MethodName := ⟨RX7, "isPerson", "(I)Z"⟩
abbrev cX7_isWanted : ByteArray := prog_9_method_19_code
def yX7_isWanted : MethodName := ⟨RX7, "isWanted", "(II)Z"⟩
abbrev cX7_size : ByteArray := prog_9_method_20_code
def yX7_size : MethodName := ⟨RX7, "size", "(I)I"⟩
abbrev cX7_addPerson : ByteArray := prog_9_method_21_code
def yX7_addPerson : MethodName := ⟨RX7, "addPerson", "(I)I"⟩
abbrev cX7_wants : ByteArray := prog_9_method_22_code
def yX7_wants : MethodName := ⟨RX7, "wants", "(IIZ)I"⟩
abbrev cX7_subscribe : ByteArray := prog_9_method_23_code
def yX7_subscribe : MethodName := ⟨RX7, "subscribe", "(II)I"⟩
abbrev cX7_unsubscribe : ByteArray := prog_9_method_24_code
def yX7_unsubscribe : MethodName := ⟨RX7, "unsubscribe", "(II)I"⟩
abbrev cX7_depthOf : ByteArray := prog_9_method_25_code
def yX7_depthOf : MethodName := ⟨RX7, "depthOf", "(I)I"⟩
abbrev cX7_notes : ByteArray := prog_9_method_26_code
def yX7_notes : MethodName := ⟨RX7, "notes", "()V"⟩
abbrev cX7_isTold : ByteArray := prog_9_method_27_code
def yX7_isTold : MethodName := ⟨RX7, "isTold", "(II)Z"⟩
abbrev cX7_sends : ByteArray := prog_9_method_28_code
def yX7_sends : MethodName := ⟨RX7, "sends", "()V"⟩
abbrev cX7_report : ByteArray := prog_9_method_29_code
def yX7_report : MethodName := ⟨RX7, "report", "(III)I"⟩
abbrev cX7_resolve : ByteArray := prog_9_method_30_code
def yX7_resolve : MethodName := ⟨RX7, "resolve", "(II)I"⟩
abbrev cX7_correct : ByteArray := prog_9_method_31_code
def yX7_correct : MethodName := ⟨RX7, "correct", "(III)I"⟩
abbrev cX7_openMany : ByteArray := prog_9_method_32_code
def yX7_openMany : MethodName := ⟨RX7, "openMany", "()I"⟩
abbrev cX7_withdraw : ByteArray := prog_9_method_33_code
def yX7_withdraw : MethodName := ⟨RX7, "withdraw", "(I)I"⟩
abbrev cX7_join : ByteArray := prog_9_method_34_code
def yX7_join : MethodName := ⟨RX7, "join", "(II)I"⟩
abbrev cX7_maintain : ByteArray := prog_9_method_35_code
def yX7_maintain : MethodName := ⟨RX7, "maintain", "(III)I"⟩
abbrev cX7_callOff : ByteArray := prog_9_method_36_code
def yX7_callOff : MethodName := ⟨RX7, "callOff", "(I)I"⟩
abbrev cX7_pass : ByteArray := prog_9_method_37_code
def yX7_pass : MethodName := ⟨RX7, "pass", "(I)I"⟩
abbrev cX7_components : ByteArray := prog_9_method_38_code
def yX7_components : MethodName := ⟨RX7, "components", "()I"⟩
abbrev cX7_people : ByteArray := prog_9_method_39_code
def yX7_people : MethodName := ⟨RX7, "people", "()I"⟩
abbrev cX7_incidents : ByteArray := prog_9_method_40_code
def yX7_incidents : MethodName := ⟨RX7, "incidents", "()I"⟩
abbrev cX7_minute : ByteArray := prog_9_method_41_code
def yX7_minute : MethodName := ⟨RX7, "minute", "()I"⟩
abbrev cX7_isGroup : ByteArray := prog_9_method_42_code
def yX7_isGroup : MethodName := ⟨RX7, "isGroup", "(I)Z"⟩
abbrev cX7_depth : ByteArray := prog_9_method_43_code
def yX7_depth : MethodName := ⟨RX7, "depth", "(I)I"⟩
abbrev cX7_leavesOf : ByteArray := prog_9_method_44_code
def yX7_leavesOf : MethodName := ⟨RX7, "leavesOf", "(I)I"⟩
abbrev cX7_leaves : ByteArray := prog_9_method_45_code
def yX7_leaves : MethodName := ⟨RX7, "leaves", "(I)I"⟩
abbrev cX7_goesDown : ByteArray := prog_9_method_46_code
def yX7_goesDown : MethodName := ⟨RX7, "goesDown", "(I)V"⟩
abbrev cX7_belowAt : ByteArray := prog_9_method_47_code
def yX7_belowAt : MethodName := ⟨RX7, "belowAt", "(II)I"⟩
abbrev cX7_pathAt : ByteArray := prog_9_method_48_code
def yX7_pathAt : MethodName := ⟨RX7, "pathAt", "(II)I"⟩
abbrev cX7_state : ByteArray := prog_9_method_49_code
def yX7_state : MethodName := ⟨RX7, "state", "(I)C"⟩
abbrev cX7_stateAt : ByteArray := prog_9_method_50_code
def yX7_stateAt : MethodName := ⟨RX7, "stateAt", "(II)C"⟩
abbrev cX7_isExcused : ByteArray := prog_9_method_51_code
def yX7_isExcused : MethodName := ⟨RX7, "isExcused", "(II)Z"⟩
abbrev cX7_weightedLoss : ByteArray := prog_9_method_52_code
def yX7_weightedLoss : MethodName := ⟨RX7, "weightedLoss", "(I)I"⟩
abbrev cX7_countedIn : ByteArray := prog_9_method_53_code
def yX7_countedIn : MethodName := ⟨RX7, "countedIn", "(II)I"⟩
abbrev cX7_uptimeIn : ByteArray := prog_9_method_54_code
def yX7_uptimeIn : MethodName := ⟨RX7, "uptimeIn", "(II)I"⟩
abbrev cX7_isUnfit : ByteArray := prog_9_method_55_code
def yX7_isUnfit : MethodName := ⟨RX7, "isUnfit", "(II)Z"⟩
abbrev cX7_counted : ByteArray := prog_9_method_56_code
def yX7_counted : MethodName := ⟨RX7, "counted", "(II)I"⟩
abbrev cX7_uptime : ByteArray := prog_9_method_57_code
def yX7_uptime : MethodName := ⟨RX7, "uptime", "(II)I"⟩
abbrev cX7_uptimeByMinutes : ByteArray := prog_9_method_58_code
def yX7_uptimeByMinutes : MethodName := ⟨RX7, "uptimeByMinutes", "(II)I"⟩
abbrev cX7_worst : ByteArray := prog_9_method_59_code
def yX7_worst : MethodName := ⟨RX7, "worst", "()I"⟩
abbrev cX7_open : ByteArray := prog_9_method_60_code
def yX7_open : MethodName := ⟨RX7, "open", "()I"⟩
abbrev cX7_nextIncident : ByteArray := prog_9_method_61_code
def yX7_nextIncident : MethodName := ⟨RX7, "nextIncident", "()I"⟩
abbrev cX7_levelOf : ByteArray := prog_9_method_62_code
def yX7_levelOf : MethodName := ⟨RX7, "levelOf", "(I)I"⟩
abbrev cX7_startOf : ByteArray := prog_9_method_63_code
def yX7_startOf : MethodName := ⟨RX7, "startOf", "(I)I"⟩
abbrev cX7_endOf : ByteArray := prog_9_method_64_code
def yX7_endOf : MethodName := ⟨RX7, "endOf", "(I)I"⟩
abbrev cX7_caseOf : ByteArray := prog_9_method_65_code
def yX7_caseOf : MethodName := ⟨RX7, "caseOf", "(I)I"⟩
abbrev cX7_cases : ByteArray := prog_9_method_66_code
def yX7_cases : MethodName := ⟨RX7, "cases", "()I"⟩
abbrev cX7_isCovered : ByteArray := prog_9_method_67_code
def yX7_isCovered : MethodName := ⟨RX7, "isCovered", "(II)Z"⟩
abbrev cX7_caseMinutes : ByteArray := prog_9_method_68_code
def yX7_caseMinutes : MethodName := ⟨RX7, "caseMinutes", "(I)I"⟩
abbrev cX7_subscriptions : ByteArray := prog_9_method_69_code
def yX7_subscriptions : MethodName := ⟨RX7, "subscriptions", "(I)I"⟩
abbrev cX7_mails : ByteArray := prog_9_method_70_code
def yX7_mails : MethodName := ⟨RX7, "mails", "()I"⟩
abbrev cX7_mailsTo : ByteArray := prog_9_method_71_code
def yX7_mailsTo : MethodName := ⟨RX7, "mailsTo", "(I)I"⟩
abbrev cX7_isMail : ByteArray := prog_9_method_72_code
def yX7_isMail : MethodName := ⟨RX7, "isMail", "(I)Z"⟩
abbrev cX7_mailPerson : ByteArray := prog_9_method_73_code
def yX7_mailPerson : MethodName := ⟨RX7, "mailPerson", "(I)I"⟩
abbrev cX7_mailComponent : ByteArray := prog_9_method_74_code
def yX7_mailComponent : MethodName := ⟨RX7, "mailComponent", "(I)I"⟩
abbrev cX7_mailState : ByteArray := prog_9_method_75_code
def yX7_mailState : MethodName := ⟨RX7, "mailState", "(I)C"⟩
abbrev cX7_mailMinute : ByteArray := prog_9_method_76_code
def yX7_mailMinute : MethodName := ⟨RX7, "mailMinute", "(I)I"⟩
abbrev cX7_excusedShare : ByteArray := prog_9_method_77_code
def yX7_excusedShare : MethodName := ⟨RX7, "excusedShare", "(I)F"⟩
abbrev cX7_meanUptime : ByteArray := prog_9_method_78_code
def yX7_meanUptime : MethodName := ⟨RX7, "meanUptime", "(I)D"⟩
def RJx145de : String := "java/io/Serializable"
def TJx145de : u_T := fun k => match k with
  | _ => ("", "", "", false)
def tyJx145de : Nat → FieldType := fun k => match k with
  | _ => .int
abbrev wsJx145de0 : List Cond := u_ws RJx145de TJx145de 0
theorem nmJx145de : ∀ a, a < 0 → ∀ b, b < 0 → a ≠ b → (TJx145de a).2.1 ≠ (TJx145de b).2.1 := by decide +kernel
theorem tyJx145de_ok : ∀ k, k < 0 → parseFieldDescriptor (TJx145de k).2.2.1 = some (tyJx145de k) := by decide +kernel
def RJx00060 : String := "java/lang/ArrayIndexOutOfBoundsException"
def TJx00060 : u_T := fun k => match k with
  | 0 => ("java/lang/Throwable", "backtrace", "Ljava/lang/Object;", false)
  | 1 => ("java/lang/Throwable", "detailMessage", "Ljava/lang/String;", false)
  | 2 => ("java/lang/Throwable", "cause", "Ljava/lang/Throwable;", false)
  | 3 => ("java/lang/Throwable", "stackTrace", "[Ljava/lang/StackTraceElement;", false)
  | 4 => ("java/lang/Throwable", "depth", "I", false)
  | _ => ("java/lang/Throwable", "suppressedExceptions", "Ljava/util/List;", false)
def tyJx00060 : Nat → FieldType := fun k => match k with
  | 0 => .object "java/lang/Object"
  | 1 => .object "java/lang/String"
  | 2 => .object "java/lang/Throwable"
  | 3 => .array (.object "java/lang/StackTraceElement")
  | 4 => .int
  | _ => .object "java/util/List"
abbrev wsJx000600 : List Cond := u_ws RJx00060 TJx00060 6
theorem nmJx00060 : ∀ a, a < 6 → ∀ b, b < 6 → a ≠ b → (TJx00060 a).2.1 ≠ (TJx00060 b).2.1 := by decide +kernel
theorem tyJx00060_ok : ∀ k, k < 6 → parseFieldDescriptor (TJx00060 k).2.2.1 = some (tyJx00060 k) := by decide +kernel
abbrev cJx00060_init_a7421 : ByteArray := prog_12_method_2_code
def yJx00060_init_a7421 : MethodName := ⟨RJx00060, "<init>", "(Ljava/lang/String;)V"⟩
def RJx8e188 : String := "java/lang/Cloneable"
def TJx8e188 : u_T := fun k => match k with
  | _ => ("", "", "", false)
def tyJx8e188 : Nat → FieldType := fun k => match k with
  | _ => .int
abbrev wsJx8e1880 : List Cond := u_ws RJx8e188 TJx8e188 0
theorem nmJx8e188 : ∀ a, a < 0 → ∀ b, b < 0 → a ≠ b → (TJx8e188 a).2.1 ≠ (TJx8e188 b).2.1 := by decide +kernel
theorem tyJx8e188_ok : ∀ k, k < 0 → parseFieldDescriptor (TJx8e188 k).2.2.1 = some (tyJx8e188 k) := by decide +kernel
def RJ6 : String := "java/lang/Integer"
def TJ6 : u_T := fun k => match k with
  | _ => ("", "", "", false)
def tyJ6 : Nat → FieldType := fun k => match k with
  | _ => .int
abbrev wsJ60 : List Cond := u_ws RJ6 TJ6 0
theorem nmJ6 : ∀ a, a < 0 → ∀ b, b < 0 → a ≠ b → (TJ6 a).2.1 ≠ (TJ6 b).2.1 := by decide +kernel
theorem tyJ6_ok : ∀ k, k < 0 → parseFieldDescriptor (TJ6 k).2.2.1 = some (tyJ6 k) := by decide +kernel
abbrev cJ6_bitCount_0f7a4 : ByteArray := prog_18_method_49_code
def yJ6_bitCount_0f7a4 : MethodName := ⟨RJ6, "bitCount", "(I)I"⟩
def RJ9 : String := "java/lang/Math"
def TJ9 : u_T := fun k => match k with
  | _ => ("", "", "", false)
def tyJ9 : Nat → FieldType := fun k => match k with
  | _ => .int
abbrev wsJ90 : List Cond := u_ws RJ9 TJ9 0
theorem nmJ9 : ∀ a, a < 0 → ∀ b, b < 0 → a ≠ b → (TJ9 a).2.1 ≠ (TJ9 b).2.1 := by decide +kernel
theorem tyJ9_ok : ∀ k, k < 0 → parseFieldDescriptor (TJ9 k).2.2.1 = some (tyJ9 k) := by decide +kernel
abbrev cJ9_max_7cf53 : ByteArray := prog_19_method_65_code
def yJ9_max_7cf53 : MethodName := ⟨RJ9, "max", "(II)I"⟩
abbrev cJ9_min_7cf53 : ByteArray := prog_19_method_69_code
def yJ9_min_7cf53 : MethodName := ⟨RJ9, "min", "(II)I"⟩
def RJ0 : String := "java/lang/String"
def TJ0 : u_T := fun k => match k with
  | 0 => ("java/lang/String", "value", "[B", true)
  | _ => ("java/lang/String", "coder", "B", true)
def tyJ0 : Nat → FieldType := fun k => match k with
  | 0 => .array .byte
  | _ => .byte
abbrev wsJ00 : List Cond := u_ws RJ0 TJ0 2
theorem nmJ0 : ∀ a, a < 2 → ∀ b, b < 2 → a ≠ b → (TJ0 a).2.1 ≠ (TJ0 b).2.1 := by decide +kernel
theorem tyJ0_ok : ∀ k, k < 2 → parseFieldDescriptor (TJ0 k).2.2.1 = some (tyJ0 k) := by decide +kernel
def RJ10 : String := "java/lang/System"
def TJ10 : u_T := fun k => match k with
  | _ => ("", "", "", false)
def tyJ10 : Nat → FieldType := fun k => match k with
  | _ => .int
abbrev wsJ100 : List Cond := u_ws RJ10 TJ10 0
theorem nmJ10 : ∀ a, a < 0 → ∀ b, b < 0 → a ≠ b → (TJ10 a).2.1 ≠ (TJ10 b).2.1 := by decide +kernel
theorem tyJ10_ok : ∀ k, k < 0 → parseFieldDescriptor (TJ10 k).2.2.1 = some (tyJ10 k) := by decide +kernel
def RJ7 : String := "java/util/Arrays"
def TJ7 : u_T := fun k => match k with
  | _ => ("", "", "", false)
def tyJ7 : Nat → FieldType := fun k => match k with
  | _ => .int
abbrev wsJ70 : List Cond := u_ws RJ7 TJ7 0
theorem nmJ7 : ∀ a, a < 0 → ∀ b, b < 0 → a ≠ b → (TJ7 a).2.1 ≠ (TJ7 b).2.1 := by decide +kernel
theorem tyJ7_ok : ∀ k, k < 0 → parseFieldDescriptor (TJ7 k).2.2.1 = some (tyJ7 k) := by decide +kernel
abbrev cJ7_fill_53178 : ByteArray := prog_25_method_103_code
def yJ7_fill_53178 : MethodName := ⟨RJ7, "fill", "([II)V"⟩
abbrev cJ7_copyOf_59c91 : ByteArray := prog_25_method_123_code
def yJ7_copyOf_59c91 : MethodName := ⟨RJ7, "copyOf", "([II)[I"⟩
def RL : String := "StatusboardLaw"
abbrev cL_addComponent : ByteArray := method_3_code
def yL_addComponent : MethodName := ⟨RL, "addComponent", "(LStatusboard;IIC[J)I"⟩
abbrev cL_setWeight : ByteArray := method_4_code
def yL_setWeight : MethodName := ⟨RL, "setWeight", "(LStatusboard;II[J)I"⟩
abbrev cL_addPerson : ByteArray := method_5_code
def yL_addPerson : MethodName := ⟨RL, "addPerson", "(LStatusboard;I[J)I"⟩
abbrev cL_subscribe : ByteArray := method_6_code
def yL_subscribe : MethodName := ⟨RL, "subscribe", "(LStatusboard;II[J)I"⟩
abbrev cL_unsubscribe : ByteArray := method_7_code
def yL_unsubscribe : MethodName := ⟨RL, "unsubscribe", "(LStatusboard;II[J)I"⟩
abbrev cL_report : ByteArray := method_8_code
def yL_report : MethodName := ⟨RL, "report", "(LStatusboard;III[J)I"⟩
abbrev cL_resolve : ByteArray := method_9_code
def yL_resolve : MethodName := ⟨RL, "resolve", "(LStatusboard;II[J)I"⟩
abbrev cL_correct : ByteArray := method_10_code
def yL_correct : MethodName := ⟨RL, "correct", "(LStatusboard;III[J)I"⟩
abbrev cL_withdraw : ByteArray := method_11_code
def yL_withdraw : MethodName := ⟨RL, "withdraw", "(LStatusboard;I[J)I"⟩
abbrev cL_join : ByteArray := method_12_code
def yL_join : MethodName := ⟨RL, "join", "(LStatusboard;II[J)I"⟩
abbrev cL_maintain : ByteArray := method_13_code
def yL_maintain : MethodName := ⟨RL, "maintain", "(LStatusboard;III[J)I"⟩
abbrev cL_callOff : ByteArray := method_14_code
def yL_callOff : MethodName := ⟨RL, "callOff", "(LStatusboard;I[J)I"⟩
abbrev cL_pass : ByteArray := method_15_code
def yL_pass : MethodName := ⟨RL, "pass", "(LStatusboard;I[J)I"⟩
abbrev cL_isGroup : ByteArray := method_16_code
def yL_isGroup : MethodName := ⟨RL, "isGroup", "(LStatusboard;I[J)I"⟩
abbrev cL_depth : ByteArray := method_17_code
def yL_depth : MethodName := ⟨RL, "depth", "(LStatusboard;I[J)I"⟩
abbrev cL_leaves : ByteArray := method_18_code
def yL_leaves : MethodName := ⟨RL, "leaves", "(LStatusboard;I[J)I"⟩
abbrev cL_belowAt : ByteArray := method_19_code
def yL_belowAt : MethodName := ⟨RL, "belowAt", "(LStatusboard;II[J)I"⟩
abbrev cL_pathAt : ByteArray := method_20_code
def yL_pathAt : MethodName := ⟨RL, "pathAt", "(LStatusboard;II[J)I"⟩
abbrev cL_state : ByteArray := method_21_code
def yL_state : MethodName := ⟨RL, "state", "(LStatusboard;I[J)I"⟩
abbrev cL_stateAt : ByteArray := method_22_code
def yL_stateAt : MethodName := ⟨RL, "stateAt", "(LStatusboard;II[J)I"⟩
abbrev cL_isExcused : ByteArray := method_23_code
def yL_isExcused : MethodName := ⟨RL, "isExcused", "(LStatusboard;II[J)I"⟩
abbrev cL_weightedLoss : ByteArray := method_24_code
def yL_weightedLoss : MethodName := ⟨RL, "weightedLoss", "(LStatusboard;I[J)I"⟩
abbrev cL_counted : ByteArray := method_25_code
def yL_counted : MethodName := ⟨RL, "counted", "(LStatusboard;II[J)I"⟩
abbrev cL_uptime : ByteArray := method_26_code
def yL_uptime : MethodName := ⟨RL, "uptime", "(LStatusboard;II[J)I"⟩
abbrev cL_uptimeByMinutes : ByteArray := method_27_code
def yL_uptimeByMinutes : MethodName := ⟨RL, "uptimeByMinutes", "(LStatusboard;II[J)I"⟩
abbrev cL_worst : ByteArray := method_28_code
def yL_worst : MethodName := ⟨RL, "worst", "(LStatusboard;[J)I"⟩
abbrev cL_nextIncident : ByteArray := method_29_code
def yL_nextIncident : MethodName := ⟨RL, "nextIncident", "(LStatusboard;[J)I"⟩
abbrev cL_levelOf : ByteArray := method_30_code
def yL_levelOf : MethodName := ⟨RL, "levelOf", "(LStatusboard;I[J)I"⟩
abbrev cL_startOf : ByteArray := method_31_code
def yL_startOf : MethodName := ⟨RL, "startOf", "(LStatusboard;I[J)I"⟩
abbrev cL_endOf : ByteArray := method_32_code
def yL_endOf : MethodName := ⟨RL, "endOf", "(LStatusboard;I[J)I"⟩
abbrev cL_caseOf : ByteArray := method_33_code
def yL_caseOf : MethodName := ⟨RL, "caseOf", "(LStatusboard;I[J)I"⟩
abbrev cL_caseMinutes : ByteArray := method_34_code
def yL_caseMinutes : MethodName := ⟨RL, "caseMinutes", "(LStatusboard;I[J)I"⟩
abbrev cL_subscriptions : ByteArray := method_35_code
def yL_subscriptions : MethodName := ⟨RL, "subscriptions", "(LStatusboard;I[J)I"⟩
abbrev cL_mailsTo : ByteArray := method_36_code
def yL_mailsTo : MethodName := ⟨RL, "mailsTo", "(LStatusboard;I[J)I"⟩
abbrev cL_mailPerson : ByteArray := method_37_code
def yL_mailPerson : MethodName := ⟨RL, "mailPerson", "(LStatusboard;I[J)I"⟩
abbrev cL_mailComponent : ByteArray := method_38_code
def yL_mailComponent : MethodName := ⟨RL, "mailComponent", "(LStatusboard;I[J)I"⟩
abbrev cL_mailState : ByteArray := method_39_code
def yL_mailState : MethodName := ⟨RL, "mailState", "(LStatusboard;I[J)I"⟩
abbrev cL_mailMinute : ByteArray := method_40_code
def yL_mailMinute : MethodName := ⟨RL, "mailMinute", "(LStatusboard;I[J)I"⟩
abbrev cL_excusedShare : ByteArray := method_41_code
def yL_excusedShare : MethodName := ⟨RL, "excusedShare", "(LStatusboard;I[D)I"⟩
abbrev cL_meanUptime : ByteArray := method_42_code
def yL_meanUptime : MethodName := ⟨RL, "meanUptime", "(LStatusboard;I[D)I"⟩
abbrev cL_law : ByteArray := code
def yL_law : MethodName := ⟨RL, "law", "([I)Z"⟩
theorem dX0_init_0 : decode cX0_init 0 = .ok (.aload_n 0, 1) := by decide +kernel
theorem dX0_init_1 : decode cX0_init 1 = .ok (.invokespecial 3, 3) := by decide +kernel
theorem dX0_init_4 : decode cX0_init 4 = .ok (.aload_n 0, 1) := by decide +kernel
theorem dX0_init_5 : decode cX0_init 5 = .ok (.bipush 20, 2) := by decide +kernel
theorem dX0_init_7 : decode cX0_init 7 = .ok (.newarray .int, 2) := by decide +kernel
theorem dX0_init_9 : decode cX0_init 9 = .ok (.putfield 9, 3) := by decide +kernel
theorem dX0_init_12 : decode cX0_init 12 = .ok (.aload_n 0, 1) := by decide +kernel
theorem dX0_init_13 : decode cX0_init 13 = .ok (.bipush 20, 2) := by decide +kernel
theorem dX0_init_15 : decode cX0_init 15 = .ok (.newarray .int, 2) := by decide +kernel
theorem dX0_init_17 : decode cX0_init 17 = .ok (.putfield 15, 3) := by decide +kernel
theorem dX0_init_20 : decode cX0_init 20 = .ok (.aload_n 0, 1) := by decide +kernel
theorem dX0_init_21 : decode cX0_init 21 = .ok (.bipush 20, 2) := by decide +kernel
theorem dX0_init_23 : decode cX0_init 23 = .ok (.newarray .int, 2) := by decide +kernel
theorem dX0_init_25 : decode cX0_init 25 = .ok (.putfield 18, 3) := by decide +kernel
theorem dX0_init_28 : decode cX0_init 28 = .ok (.aload_n 0, 1) := by decide +kernel
theorem dX0_init_29 : decode cX0_init 29 = .ok (.bipush 20, 2) := by decide +kernel
theorem dX0_init_31 : decode cX0_init 31 = .ok (.newarray .int, 2) := by decide +kernel
theorem dX0_init_33 : decode cX0_init 33 = .ok (.putfield 21, 3) := by decide +kernel
theorem dX0_init_36 : decode cX0_init 36 = .ok (.aload_n 0, 1) := by decide +kernel
theorem dX0_init_37 : decode cX0_init 37 = .ok (.bipush 20, 2) := by decide +kernel
theorem dX0_init_39 : decode cX0_init 39 = .ok (.newarray .int, 2) := by decide +kernel
theorem dX0_init_41 : decode cX0_init 41 = .ok (.putfield 24, 3) := by decide +kernel
theorem dX0_init_44 : decode cX0_init 44 = .ok (.return_, 1) := by decide +kernel
theorem dX0_add_0 : decode cX0_add 0 = .ok (.aload_n 0, 1) := by decide +kernel
theorem dX0_add_1 : decode cX0_add 1 = .ok (.getfield 27, 3) := by decide +kernel
theorem dX0_add_4 : decode cX0_add 4 = .ok (.istore 4, 2) := by decide +kernel
theorem dX0_add_6 : decode cX0_add 6 = .ok (.aload_n 0, 1) := by decide +kernel
theorem dX0_add_7 : decode cX0_add 7 = .ok (.getfield 9, 3) := by decide +kernel
theorem dX0_add_10 : decode cX0_add 10 = .ok (.iload 4, 2) := by decide +kernel
theorem dX0_add_12 : decode cX0_add 12 = .ok (.iload_n 1, 1) := by decide +kernel
theorem dX0_add_13 : decode cX0_add 13 = .ok (.iastore, 1) := by decide +kernel
theorem dX0_add_14 : decode cX0_add 14 = .ok (.aload_n 0, 1) := by decide +kernel
theorem dX0_add_15 : decode cX0_add 15 = .ok (.getfield 15, 3) := by decide +kernel
theorem dX0_add_18 : decode cX0_add 18 = .ok (.iload 4, 2) := by decide +kernel
theorem dX0_add_20 : decode cX0_add 20 = .ok (.iload_n 2, 1) := by decide +kernel
theorem dX0_add_21 : decode cX0_add 21 = .ok (.iastore, 1) := by decide +kernel
theorem dX0_add_22 : decode cX0_add 22 = .ok (.aload_n 0, 1) := by decide +kernel
theorem dX0_add_23 : decode cX0_add 23 = .ok (.getfield 18, 3) := by decide +kernel
theorem dX0_add_26 : decode cX0_add 26 = .ok (.iload 4, 2) := by decide +kernel
theorem dX0_add_28 : decode cX0_add 28 = .ok (.iload_n 3, 1) := by decide +kernel
theorem dX0_add_29 : decode cX0_add 29 = .ok (.iastore, 1) := by decide +kernel
theorem dX0_add_30 : decode cX0_add 30 = .ok (.aload_n 0, 1) := by decide +kernel
theorem dX0_add_31 : decode cX0_add 31 = .ok (.getfield 21, 3) := by decide +kernel
theorem dX0_add_34 : decode cX0_add 34 = .ok (.iload 4, 2) := by decide +kernel
theorem dX0_add_36 : decode cX0_add 36 = .ok (.iconst (-1), 1) := by decide +kernel
theorem dX0_add_37 : decode cX0_add 37 = .ok (.iastore, 1) := by decide +kernel
theorem dX0_add_38 : decode cX0_add 38 = .ok (.aload_n 0, 1) := by decide +kernel
theorem dX0_add_39 : decode cX0_add 39 = .ok (.getfield 24, 3) := by decide +kernel
theorem dX0_add_42 : decode cX0_add 42 = .ok (.iload 4, 2) := by decide +kernel
theorem dX0_add_44 : decode cX0_add 44 = .ok (.iload 4, 2) := by decide +kernel
theorem dX0_add_46 : decode cX0_add 46 = .ok (.iastore, 1) := by decide +kernel
theorem dX0_add_47 : decode cX0_add 47 = .ok (.aload_n 0, 1) := by decide +kernel
theorem dX0_add_48 : decode cX0_add 48 = .ok (.dup, 1) := by decide +kernel
theorem dX0_add_49 : decode cX0_add 49 = .ok (.getfield 27, 3) := by decide +kernel
theorem dX0_add_52 : decode cX0_add 52 = .ok (.iconst 1, 1) := by decide +kernel
theorem dX0_add_53 : decode cX0_add 53 = .ok (.iadd, 1) := by decide +kernel
theorem dX0_add_54 : decode cX0_add 54 = .ok (.putfield 27, 3) := by decide +kernel
theorem dX0_add_57 : decode cX0_add 57 = .ok (.iload 4, 2) := by decide +kernel
theorem dX0_add_59 : decode cX0_add 59 = .ok (.ireturn, 1) := by decide +kernel
theorem dX0_isOpen_0 : decode cX0_isOpen 0 = .ok (.aload_n 0, 1) := by decide +kernel
theorem dX0_isOpen_1 : decode cX0_isOpen 1 = .ok (.getfield 21, 3) := by decide +kernel
theorem dX0_isOpen_4 : decode cX0_isOpen 4 = .ok (.iload_n 1, 1) := by decide +kernel
theorem dX0_isOpen_5 : decode cX0_isOpen 5 = .ok (.iaload, 1) := by decide +kernel
theorem dX0_isOpen_6 : decode cX0_isOpen 6 = .ok (.iconst (-1), 1) := by decide +kernel
theorem dX0_isOpen_7 : decode cX0_isOpen 7 = .ok (.if_icmp .ne 7, 3) := by decide +kernel
theorem dX0_isOpen_10 : decode cX0_isOpen 10 = .ok (.iconst 1, 1) := by decide +kernel
theorem dX0_isOpen_11 : decode cX0_isOpen 11 = .ok (.goto 4, 3) := by decide +kernel
theorem dX0_isOpen_14 : decode cX0_isOpen 14 = .ok (.iconst 0, 1) := by decide +kernel
theorem dX0_isOpen_15 : decode cX0_isOpen 15 = .ok (.ireturn, 1) := by decide +kernel
theorem dX0_covers_0 : decode cX0_covers 0 = .ok (.aload_n 0, 1) := by decide +kernel
theorem dX0_covers_1 : decode cX0_covers 1 = .ok (.getfield 18, 3) := by decide +kernel
theorem dX0_covers_4 : decode cX0_covers 4 = .ok (.iload_n 1, 1) := by decide +kernel
theorem dX0_covers_5 : decode cX0_covers 5 = .ok (.iaload, 1) := by decide +kernel
theorem dX0_covers_6 : decode cX0_covers 6 = .ok (.iload_n 2, 1) := by decide +kernel
theorem dX0_covers_7 : decode cX0_covers 7 = .ok (.if_icmp .gt 25, 3) := by decide +kernel
theorem dX0_covers_10 : decode cX0_covers 10 = .ok (.aload_n 0, 1) := by decide +kernel
theorem dX0_covers_11 : decode cX0_covers 11 = .ok (.iload_n 1, 1) := by decide +kernel
theorem dX0_covers_12 : decode cX0_covers 12 = .ok (.invokevirtual 31, 3) := by decide +kernel
theorem dX0_covers_15 : decode cX0_covers 15 = .ok (.ifCond .ne 13, 3) := by decide +kernel
theorem dX0_covers_18 : decode cX0_covers 18 = .ok (.iload_n 2, 1) := by decide +kernel
theorem dX0_covers_19 : decode cX0_covers 19 = .ok (.aload_n 0, 1) := by decide +kernel
theorem dX0_covers_20 : decode cX0_covers 20 = .ok (.getfield 21, 3) := by decide +kernel
theorem dX0_covers_23 : decode cX0_covers 23 = .ok (.iload_n 1, 1) := by decide +kernel
theorem dX0_covers_24 : decode cX0_covers 24 = .ok (.iaload, 1) := by decide +kernel
theorem dX0_covers_25 : decode cX0_covers 25 = .ok (.if_icmp .ge 7, 3) := by decide +kernel
theorem dX0_covers_28 : decode cX0_covers 28 = .ok (.iconst 1, 1) := by decide +kernel
theorem dX0_covers_29 : decode cX0_covers 29 = .ok (.goto 4, 3) := by decide +kernel
theorem dX0_covers_32 : decode cX0_covers 32 = .ok (.iconst 0, 1) := by decide +kernel
theorem dX0_covers_33 : decode cX0_covers 33 = .ok (.ireturn, 1) := by decide +kernel
theorem dX0_anyOf_0 : decode cX0_anyOf 0 = .ok (.iconst 0, 1) := by decide +kernel
theorem dX0_anyOf_1 : decode cX0_anyOf 1 = .ok (.istore_n 2, 1) := by decide +kernel
theorem dX0_anyOf_2 : decode cX0_anyOf 2 = .ok (.iload_n 2, 1) := by decide +kernel
theorem dX0_anyOf_3 : decode cX0_anyOf 3 = .ok (.aload_n 0, 1) := by decide +kernel
theorem dX0_anyOf_4 : decode cX0_anyOf 4 = .ok (.getfield 27, 3) := by decide +kernel
theorem dX0_anyOf_7 : decode cX0_anyOf 7 = .ok (.if_icmp .ge 21, 3) := by decide +kernel
theorem dX0_anyOf_10 : decode cX0_anyOf 10 = .ok (.aload_n 0, 1) := by decide +kernel
theorem dX0_anyOf_11 : decode cX0_anyOf 11 = .ok (.getfield 9, 3) := by decide +kernel
theorem dX0_anyOf_14 : decode cX0_anyOf 14 = .ok (.iload_n 2, 1) := by decide +kernel
theorem dX0_anyOf_15 : decode cX0_anyOf 15 = .ok (.iaload, 1) := by decide +kernel
theorem dX0_anyOf_16 : decode cX0_anyOf 16 = .ok (.iload_n 1, 1) := by decide +kernel
theorem dX0_anyOf_17 : decode cX0_anyOf 17 = .ok (.if_icmp .ne 5, 3) := by decide +kernel
theorem dX0_anyOf_20 : decode cX0_anyOf 20 = .ok (.iconst 1, 1) := by decide +kernel
theorem dX0_anyOf_21 : decode cX0_anyOf 21 = .ok (.ireturn, 1) := by decide +kernel
theorem dX0_anyOf_22 : decode cX0_anyOf 22 = .ok (.iinc 2 1, 3) := by decide +kernel
theorem dX0_anyOf_25 : decode cX0_anyOf 25 = .ok (.goto (-23), 3) := by decide +kernel
theorem dX0_anyOf_28 : decode cX0_anyOf 28 = .ok (.iconst 0, 1) := by decide +kernel
theorem dX0_anyOf_29 : decode cX0_anyOf 29 = .ok (.ireturn, 1) := by decide +kernel
theorem dX0_countOpen_0 : decode cX0_countOpen 0 = .ok (.iconst 0, 1) := by decide +kernel
theorem dX0_countOpen_1 : decode cX0_countOpen 1 = .ok (.istore_n 1, 1) := by decide +kernel
theorem dX0_countOpen_2 : decode cX0_countOpen 2 = .ok (.iconst 0, 1) := by decide +kernel
theorem dX0_countOpen_3 : decode cX0_countOpen 3 = .ok (.istore_n 2, 1) := by decide +kernel
theorem dX0_countOpen_4 : decode cX0_countOpen 4 = .ok (.iload_n 2, 1) := by decide +kernel
theorem dX0_countOpen_5 : decode cX0_countOpen 5 = .ok (.aload_n 0, 1) := by decide +kernel
theorem dX0_countOpen_6 : decode cX0_countOpen 6 = .ok (.getfield 27, 3) := by decide +kernel
theorem dX0_countOpen_9 : decode cX0_countOpen 9 = .ok (.if_icmp .ge 20, 3) := by decide +kernel
theorem dX0_countOpen_12 : decode cX0_countOpen 12 = .ok (.aload_n 0, 1) := by decide +kernel
theorem dX0_countOpen_13 : decode cX0_countOpen 13 = .ok (.iload_n 2, 1) := by decide +kernel
theorem dX0_countOpen_14 : decode cX0_countOpen 14 = .ok (.invokevirtual 31, 3) := by decide +kernel
theorem dX0_countOpen_17 : decode cX0_countOpen 17 = .ok (.ifCond .eq 6, 3) := by decide +kernel
theorem dX0_countOpen_20 : decode cX0_countOpen 20 = .ok (.iinc 1 1, 3) := by decide +kernel
theorem dX0_countOpen_23 : decode cX0_countOpen 23 = .ok (.iinc 2 1, 3) := by decide +kernel
theorem dX0_countOpen_26 : decode cX0_countOpen 26 = .ok (.goto (-22), 3) := by decide +kernel
theorem dX0_countOpen_29 : decode cX0_countOpen 29 = .ok (.iload_n 1, 1) := by decide +kernel
theorem dX0_countOpen_30 : decode cX0_countOpen 30 = .ok (.ireturn, 1) := by decide +kernel
theorem dX0_mostUrgent_0 : decode cX0_mostUrgent 0 = .ok (.iconst (-1), 1) := by decide +kernel
theorem dX0_mostUrgent_1 : decode cX0_mostUrgent 1 = .ok (.istore_n 1, 1) := by decide +kernel
theorem dX0_mostUrgent_2 : decode cX0_mostUrgent 2 = .ok (.iconst 0, 1) := by decide +kernel
theorem dX0_mostUrgent_3 : decode cX0_mostUrgent 3 = .ok (.istore_n 2, 1) := by decide +kernel
theorem dX0_mostUrgent_4 : decode cX0_mostUrgent 4 = .ok (.iload_n 2, 1) := by decide +kernel
theorem dX0_mostUrgent_5 : decode cX0_mostUrgent 5 = .ok (.aload_n 0, 1) := by decide +kernel
theorem dX0_mostUrgent_6 : decode cX0_mostUrgent 6 = .ok (.getfield 27, 3) := by decide +kernel
theorem dX0_mostUrgent_9 : decode cX0_mostUrgent 9 = .ok (.if_icmp .ge 33, 3) := by decide +kernel
theorem dX0_mostUrgent_12 : decode cX0_mostUrgent 12 = .ok (.aload_n 0, 1) := by decide +kernel
theorem dX0_mostUrgent_13 : decode cX0_mostUrgent 13 = .ok (.iload_n 2, 1) := by decide +kernel
theorem dX0_mostUrgent_14 : decode cX0_mostUrgent 14 = .ok (.invokevirtual 31, 3) := by decide +kernel
theorem dX0_mostUrgent_17 : decode cX0_mostUrgent 17 = .ok (.ifCond .eq 19, 3) := by decide +kernel
theorem dX0_mostUrgent_20 : decode cX0_mostUrgent 20 = .ok (.iload_n 1, 1) := by decide +kernel
theorem dX0_mostUrgent_21 : decode cX0_mostUrgent 21 = .ok (.iconst (-1), 1) := by decide +kernel
theorem dX0_mostUrgent_22 : decode cX0_mostUrgent 22 = .ok (.if_icmp .eq 12, 3) := by decide +kernel
theorem dX0_mostUrgent_25 : decode cX0_mostUrgent 25 = .ok (.aload_n 0, 1) := by decide +kernel
theorem dX0_mostUrgent_26 : decode cX0_mostUrgent 26 = .ok (.iload_n 2, 1) := by decide +kernel
theorem dX0_mostUrgent_27 : decode cX0_mostUrgent 27 = .ok (.iload_n 1, 1) := by decide +kernel
theorem dX0_mostUrgent_28 : decode cX0_mostUrgent 28 = .ok (.invokevirtual 35, 3) := by decide +kernel
theorem dX0_mostUrgent_31 : decode cX0_mostUrgent 31 = .ok (.ifCond .eq 5, 3) := by decide +kernel
theorem dX0_mostUrgent_34 : decode cX0_mostUrgent 34 = .ok (.iload_n 2, 1) := by decide +kernel
theorem dX0_mostUrgent_35 : decode cX0_mostUrgent 35 = .ok (.istore_n 1, 1) := by decide +kernel
theorem dX0_mostUrgent_36 : decode cX0_mostUrgent 36 = .ok (.iinc 2 1, 3) := by decide +kernel
theorem dX0_mostUrgent_39 : decode cX0_mostUrgent 39 = .ok (.goto (-35), 3) := by decide +kernel
theorem dX0_mostUrgent_42 : decode cX0_mostUrgent 42 = .ok (.iload_n 1, 1) := by decide +kernel
theorem dX0_mostUrgent_43 : decode cX0_mostUrgent 43 = .ok (.ireturn, 1) := by decide +kernel
theorem dX0_isMoreUrgent_0 : decode cX0_isMoreUrgent 0 = .ok (.aload_n 0, 1) := by decide +kernel
theorem dX0_isMoreUrgent_1 : decode cX0_isMoreUrgent 1 = .ok (.getfield 15, 3) := by decide +kernel
theorem dX0_isMoreUrgent_4 : decode cX0_isMoreUrgent 4 = .ok (.iload_n 1, 1) := by decide +kernel
theorem dX0_isMoreUrgent_5 : decode cX0_isMoreUrgent 5 = .ok (.iaload, 1) := by decide +kernel
theorem dX0_isMoreUrgent_6 : decode cX0_isMoreUrgent 6 = .ok (.aload_n 0, 1) := by decide +kernel
theorem dX0_isMoreUrgent_7 : decode cX0_isMoreUrgent 7 = .ok (.getfield 15, 3) := by decide +kernel
theorem dX0_isMoreUrgent_10 : decode cX0_isMoreUrgent 10 = .ok (.iload_n 2, 1) := by decide +kernel
theorem dX0_isMoreUrgent_11 : decode cX0_isMoreUrgent 11 = .ok (.iaload, 1) := by decide +kernel
theorem dX0_isMoreUrgent_12 : decode cX0_isMoreUrgent 12 = .ok (.if_icmp .eq 24, 3) := by decide +kernel
theorem dX0_isMoreUrgent_15 : decode cX0_isMoreUrgent 15 = .ok (.aload_n 0, 1) := by decide +kernel
theorem dX0_isMoreUrgent_16 : decode cX0_isMoreUrgent 16 = .ok (.getfield 15, 3) := by decide +kernel
theorem dX0_isMoreUrgent_19 : decode cX0_isMoreUrgent 19 = .ok (.iload_n 1, 1) := by decide +kernel
theorem dX0_isMoreUrgent_20 : decode cX0_isMoreUrgent 20 = .ok (.iaload, 1) := by decide +kernel
theorem dX0_isMoreUrgent_21 : decode cX0_isMoreUrgent 21 = .ok (.aload_n 0, 1) := by decide +kernel
theorem dX0_isMoreUrgent_22 : decode cX0_isMoreUrgent 22 = .ok (.getfield 15, 3) := by decide +kernel
theorem dX0_isMoreUrgent_25 : decode cX0_isMoreUrgent 25 = .ok (.iload_n 2, 1) := by decide +kernel
theorem dX0_isMoreUrgent_26 : decode cX0_isMoreUrgent 26 = .ok (.iaload, 1) := by decide +kernel
theorem dX0_isMoreUrgent_27 : decode cX0_isMoreUrgent 27 = .ok (.if_icmp .le 7, 3) := by decide +kernel
theorem dX0_isMoreUrgent_30 : decode cX0_isMoreUrgent 30 = .ok (.iconst 1, 1) := by decide +kernel
theorem dX0_isMoreUrgent_31 : decode cX0_isMoreUrgent 31 = .ok (.goto 4, 3) := by decide +kernel
theorem dX0_isMoreUrgent_34 : decode cX0_isMoreUrgent 34 = .ok (.iconst 0, 1) := by decide +kernel
theorem dX0_isMoreUrgent_35 : decode cX0_isMoreUrgent 35 = .ok (.ireturn, 1) := by decide +kernel
theorem dX0_isMoreUrgent_36 : decode cX0_isMoreUrgent 36 = .ok (.aload_n 0, 1) := by decide +kernel
theorem dX0_isMoreUrgent_37 : decode cX0_isMoreUrgent 37 = .ok (.getfield 18, 3) := by decide +kernel
theorem dX0_isMoreUrgent_40 : decode cX0_isMoreUrgent 40 = .ok (.iload_n 1, 1) := by decide +kernel
theorem dX0_isMoreUrgent_41 : decode cX0_isMoreUrgent 41 = .ok (.iaload, 1) := by decide +kernel
theorem dX0_isMoreUrgent_42 : decode cX0_isMoreUrgent 42 = .ok (.aload_n 0, 1) := by decide +kernel
theorem dX0_isMoreUrgent_43 : decode cX0_isMoreUrgent 43 = .ok (.getfield 18, 3) := by decide +kernel
theorem dX0_isMoreUrgent_46 : decode cX0_isMoreUrgent 46 = .ok (.iload_n 2, 1) := by decide +kernel
theorem dX0_isMoreUrgent_47 : decode cX0_isMoreUrgent 47 = .ok (.iaload, 1) := by decide +kernel
theorem dX0_isMoreUrgent_48 : decode cX0_isMoreUrgent 48 = .ok (.if_icmp .ge 7, 3) := by decide +kernel
theorem dX0_isMoreUrgent_51 : decode cX0_isMoreUrgent 51 = .ok (.iconst 1, 1) := by decide +kernel
theorem dX0_isMoreUrgent_52 : decode cX0_isMoreUrgent 52 = .ok (.goto 4, 3) := by decide +kernel
theorem dX0_isMoreUrgent_55 : decode cX0_isMoreUrgent 55 = .ok (.iconst 0, 1) := by decide +kernel
theorem dX0_isMoreUrgent_56 : decode cX0_isMoreUrgent 56 = .ok (.ireturn, 1) := by decide +kernel
theorem dX0_countCases_0 : decode cX0_countCases 0 = .ok (.iconst 0, 1) := by decide +kernel
theorem dX0_countCases_1 : decode cX0_countCases 1 = .ok (.istore_n 1, 1) := by decide +kernel
theorem dX0_countCases_2 : decode cX0_countCases 2 = .ok (.iconst 0, 1) := by decide +kernel
theorem dX0_countCases_3 : decode cX0_countCases 3 = .ok (.istore_n 2, 1) := by decide +kernel
theorem dX0_countCases_4 : decode cX0_countCases 4 = .ok (.iload_n 2, 1) := by decide +kernel
theorem dX0_countCases_5 : decode cX0_countCases 5 = .ok (.aload_n 0, 1) := by decide +kernel
theorem dX0_countCases_6 : decode cX0_countCases 6 = .ok (.getfield 27, 3) := by decide +kernel
theorem dX0_countCases_9 : decode cX0_countCases 9 = .ok (.if_icmp .ge 22, 3) := by decide +kernel
theorem dX0_countCases_12 : decode cX0_countCases 12 = .ok (.aload_n 0, 1) := by decide +kernel
theorem dX0_countCases_13 : decode cX0_countCases 13 = .ok (.getfield 24, 3) := by decide +kernel
theorem dX0_countCases_16 : decode cX0_countCases 16 = .ok (.iload_n 2, 1) := by decide +kernel
theorem dX0_countCases_17 : decode cX0_countCases 17 = .ok (.iaload, 1) := by decide +kernel
theorem dX0_countCases_18 : decode cX0_countCases 18 = .ok (.iload_n 2, 1) := by decide +kernel
theorem dX0_countCases_19 : decode cX0_countCases 19 = .ok (.if_icmp .ne 6, 3) := by decide +kernel
theorem dX0_countCases_22 : decode cX0_countCases 22 = .ok (.iinc 1 1, 3) := by decide +kernel
theorem dX0_countCases_25 : decode cX0_countCases 25 = .ok (.iinc 2 1, 3) := by decide +kernel
theorem dX0_countCases_28 : decode cX0_countCases 28 = .ok (.goto (-24), 3) := by decide +kernel
theorem dX0_countCases_31 : decode cX0_countCases 31 = .ok (.iload_n 1, 1) := by decide +kernel
theorem dX0_countCases_32 : decode cX0_countCases 32 = .ok (.ireturn, 1) := by decide +kernel
theorem dX0_merge_0 : decode cX0_merge 0 = .ok (.iconst 0, 1) := by decide +kernel
theorem dX0_merge_1 : decode cX0_merge 1 = .ok (.istore_n 3, 1) := by decide +kernel
theorem dX0_merge_2 : decode cX0_merge 2 = .ok (.iconst 0, 1) := by decide +kernel
theorem dX0_merge_3 : decode cX0_merge 3 = .ok (.istore 4, 2) := by decide +kernel
theorem dX0_merge_5 : decode cX0_merge 5 = .ok (.iload 4, 2) := by decide +kernel
theorem dX0_merge_7 : decode cX0_merge 7 = .ok (.aload_n 0, 1) := by decide +kernel
theorem dX0_merge_8 : decode cX0_merge 8 = .ok (.getfield 27, 3) := by decide +kernel
theorem dX0_merge_11 : decode cX0_merge 11 = .ok (.if_icmp .ge 42, 3) := by decide +kernel
theorem dX0_merge_14 : decode cX0_merge 14 = .ok (.aload_n 0, 1) := by decide +kernel
theorem dX0_merge_15 : decode cX0_merge 15 = .ok (.getfield 24, 3) := by decide +kernel
theorem dX0_merge_18 : decode cX0_merge 18 = .ok (.iload 4, 2) := by decide +kernel
theorem dX0_merge_20 : decode cX0_merge 20 = .ok (.iaload, 1) := by decide +kernel
theorem dX0_merge_21 : decode cX0_merge 21 = .ok (.iload_n 2, 1) := by decide +kernel
theorem dX0_merge_22 : decode cX0_merge 22 = .ok (.if_icmp .ne 11, 3) := by decide +kernel
theorem dX0_merge_25 : decode cX0_merge 25 = .ok (.aload_n 0, 1) := by decide +kernel
theorem dX0_merge_26 : decode cX0_merge 26 = .ok (.getfield 24, 3) := by decide +kernel
theorem dX0_merge_29 : decode cX0_merge 29 = .ok (.iload 4, 2) := by decide +kernel
theorem dX0_merge_31 : decode cX0_merge 31 = .ok (.iload_n 1, 1) := by decide +kernel
theorem dX0_merge_32 : decode cX0_merge 32 = .ok (.iastore, 1) := by decide +kernel
theorem dX0_merge_33 : decode cX0_merge 33 = .ok (.aload_n 0, 1) := by decide +kernel
theorem dX0_merge_34 : decode cX0_merge 34 = .ok (.getfield 24, 3) := by decide +kernel
theorem dX0_merge_37 : decode cX0_merge 37 = .ok (.iload 4, 2) := by decide +kernel
theorem dX0_merge_39 : decode cX0_merge 39 = .ok (.iaload, 1) := by decide +kernel
theorem dX0_merge_40 : decode cX0_merge 40 = .ok (.iload_n 1, 1) := by decide +kernel
theorem dX0_merge_41 : decode cX0_merge 41 = .ok (.if_icmp .ne 6, 3) := by decide +kernel
theorem dX0_merge_44 : decode cX0_merge 44 = .ok (.iinc 3 1, 3) := by decide +kernel
theorem dX0_merge_47 : decode cX0_merge 47 = .ok (.iinc 4 1, 3) := by decide +kernel
theorem dX0_merge_50 : decode cX0_merge 50 = .ok (.goto (-45), 3) := by decide +kernel
theorem dX0_merge_53 : decode cX0_merge 53 = .ok (.iload_n 3, 1) := by decide +kernel
theorem dX0_merge_54 : decode cX0_merge 54 = .ok (.ireturn, 1) := by decide +kernel
theorem dX0_nextChange_0 : decode cX0_nextChange 0 = .ok (.iload_n 2, 1) := by decide +kernel
theorem dX0_nextChange_1 : decode cX0_nextChange 1 = .ok (.istore_n 3, 1) := by decide +kernel
theorem dX0_nextChange_2 : decode cX0_nextChange 2 = .ok (.iconst 0, 1) := by decide +kernel
theorem dX0_nextChange_3 : decode cX0_nextChange 3 = .ok (.istore 4, 2) := by decide +kernel
theorem dX0_nextChange_5 : decode cX0_nextChange 5 = .ok (.iload 4, 2) := by decide +kernel
theorem dX0_nextChange_7 : decode cX0_nextChange 7 = .ok (.aload_n 0, 1) := by decide +kernel
theorem dX0_nextChange_8 : decode cX0_nextChange 8 = .ok (.getfield 27, 3) := by decide +kernel
theorem dX0_nextChange_11 : decode cX0_nextChange 11 = .ok (.if_icmp .ge 35, 3) := by decide +kernel
theorem dX0_nextChange_14 : decode cX0_nextChange 14 = .ok (.iload_n 1, 1) := by decide +kernel
theorem dX0_nextChange_15 : decode cX0_nextChange 15 = .ok (.iload_n 3, 1) := by decide +kernel
theorem dX0_nextChange_16 : decode cX0_nextChange 16 = .ok (.aload_n 0, 1) := by decide +kernel
theorem dX0_nextChange_17 : decode cX0_nextChange 17 = .ok (.getfield 18, 3) := by decide +kernel
theorem dX0_nextChange_20 : decode cX0_nextChange 20 = .ok (.iload 4, 2) := by decide +kernel
theorem dX0_nextChange_22 : decode cX0_nextChange 22 = .ok (.iaload, 1) := by decide +kernel
theorem dX0_nextChange_23 : decode cX0_nextChange 23 = .ok (.invokestatic 39, 3) := by decide +kernel
theorem dX0_nextChange_26 : decode cX0_nextChange 26 = .ok (.istore_n 3, 1) := by decide +kernel
theorem dX0_nextChange_27 : decode cX0_nextChange 27 = .ok (.iload_n 1, 1) := by decide +kernel
theorem dX0_nextChange_28 : decode cX0_nextChange 28 = .ok (.iload_n 3, 1) := by decide +kernel
theorem dX0_nextChange_29 : decode cX0_nextChange 29 = .ok (.aload_n 0, 1) := by decide +kernel
theorem dX0_nextChange_30 : decode cX0_nextChange 30 = .ok (.getfield 21, 3) := by decide +kernel
theorem dX0_nextChange_33 : decode cX0_nextChange 33 = .ok (.iload 4, 2) := by decide +kernel
theorem dX0_nextChange_35 : decode cX0_nextChange 35 = .ok (.iaload, 1) := by decide +kernel
theorem dX0_nextChange_36 : decode cX0_nextChange 36 = .ok (.invokestatic 39, 3) := by decide +kernel
theorem dX0_nextChange_39 : decode cX0_nextChange 39 = .ok (.istore_n 3, 1) := by decide +kernel
theorem dX0_nextChange_40 : decode cX0_nextChange 40 = .ok (.iinc 4 1, 3) := by decide +kernel
theorem dX0_nextChange_43 : decode cX0_nextChange 43 = .ok (.goto (-38), 3) := by decide +kernel
theorem dX0_nextChange_46 : decode cX0_nextChange 46 = .ok (.iload_n 3, 1) := by decide +kernel
theorem dX0_nextChange_47 : decode cX0_nextChange 47 = .ok (.ireturn, 1) := by decide +kernel
theorem dX0_coveredMinutes_0 : decode cX0_coveredMinutes 0 = .ok (.iconst 0, 1) := by decide +kernel
theorem dX0_coveredMinutes_1 : decode cX0_coveredMinutes 1 = .ok (.istore_n 3, 1) := by decide +kernel
theorem dX0_coveredMinutes_2 : decode cX0_coveredMinutes 2 = .ok (.iconst 0, 1) := by decide +kernel
theorem dX0_coveredMinutes_3 : decode cX0_coveredMinutes 3 = .ok (.istore 4, 2) := by decide +kernel
theorem dX0_coveredMinutes_5 : decode cX0_coveredMinutes 5 = .ok (.iconst 0, 1) := by decide +kernel
theorem dX0_coveredMinutes_6 : decode cX0_coveredMinutes 6 = .ok (.istore 5, 2) := by decide +kernel
theorem dX0_coveredMinutes_8 : decode cX0_coveredMinutes 8 = .ok (.iload 5, 2) := by decide +kernel
theorem dX0_coveredMinutes_10 : decode cX0_coveredMinutes 10 = .ok (.sipush 10000, 3) := by decide +kernel
theorem dX0_coveredMinutes_13 : decode cX0_coveredMinutes 13 = .ok (.if_icmp .ge 46, 3) := by decide +kernel
theorem dX0_coveredMinutes_16 : decode cX0_coveredMinutes 16 = .ok (.iload 4, 2) := by decide +kernel
theorem dX0_coveredMinutes_18 : decode cX0_coveredMinutes 18 = .ok (.iload_n 2, 1) := by decide +kernel
theorem dX0_coveredMinutes_19 : decode cX0_coveredMinutes 19 = .ok (.if_icmp .ge 40, 3) := by decide +kernel
theorem dX0_coveredMinutes_22 : decode cX0_coveredMinutes 22 = .ok (.aload_n 0, 1) := by decide +kernel
theorem dX0_coveredMinutes_23 : decode cX0_coveredMinutes 23 = .ok (.iload 4, 2) := by decide +kernel
theorem dX0_coveredMinutes_25 : decode cX0_coveredMinutes 25 = .ok (.iload_n 2, 1) := by decide +kernel
theorem dX0_coveredMinutes_26 : decode cX0_coveredMinutes 26 = .ok (.invokevirtual 43, 3) := by decide +kernel
theorem dX0_coveredMinutes_29 : decode cX0_coveredMinutes 29 = .ok (.istore 6, 2) := by decide +kernel
theorem dX0_coveredMinutes_31 : decode cX0_coveredMinutes 31 = .ok (.aload_n 0, 1) := by decide +kernel
theorem dX0_coveredMinutes_32 : decode cX0_coveredMinutes 32 = .ok (.iload_n 1, 1) := by decide +kernel
theorem dX0_coveredMinutes_33 : decode cX0_coveredMinutes 33 = .ok (.iload 4, 2) := by decide +kernel
theorem dX0_coveredMinutes_35 : decode cX0_coveredMinutes 35 = .ok (.invokevirtual 47, 3) := by decide +kernel
theorem dX0_coveredMinutes_38 : decode cX0_coveredMinutes 38 = .ok (.ifCond .eq 11, 3) := by decide +kernel
theorem dX0_coveredMinutes_41 : decode cX0_coveredMinutes 41 = .ok (.iload_n 3, 1) := by decide +kernel
theorem dX0_coveredMinutes_42 : decode cX0_coveredMinutes 42 = .ok (.iload 6, 2) := by decide +kernel
theorem dX0_coveredMinutes_44 : decode cX0_coveredMinutes 44 = .ok (.iload 4, 2) := by decide +kernel
theorem dX0_coveredMinutes_46 : decode cX0_coveredMinutes 46 = .ok (.isub, 1) := by decide +kernel
theorem dX0_coveredMinutes_47 : decode cX0_coveredMinutes 47 = .ok (.iadd, 1) := by decide +kernel
theorem dX0_coveredMinutes_48 : decode cX0_coveredMinutes 48 = .ok (.istore_n 3, 1) := by decide +kernel
theorem dX0_coveredMinutes_49 : decode cX0_coveredMinutes 49 = .ok (.iload 6, 2) := by decide +kernel
theorem dX0_coveredMinutes_51 : decode cX0_coveredMinutes 51 = .ok (.istore 4, 2) := by decide +kernel
theorem dX0_coveredMinutes_53 : decode cX0_coveredMinutes 53 = .ok (.iinc 5 1, 3) := by decide +kernel
theorem dX0_coveredMinutes_56 : decode cX0_coveredMinutes 56 = .ok (.goto (-48), 3) := by decide +kernel
theorem dX0_coveredMinutes_59 : decode cX0_coveredMinutes 59 = .ok (.iload_n 3, 1) := by decide +kernel
theorem dX0_coveredMinutes_60 : decode cX0_coveredMinutes 60 = .ok (.ireturn, 1) := by decide +kernel
theorem dX0_caseCovers_0 : decode cX0_caseCovers 0 = .ok (.iconst 0, 1) := by decide +kernel
theorem dX0_caseCovers_1 : decode cX0_caseCovers 1 = .ok (.istore_n 3, 1) := by decide +kernel
theorem dX0_caseCovers_2 : decode cX0_caseCovers 2 = .ok (.iload_n 3, 1) := by decide +kernel
theorem dX0_caseCovers_3 : decode cX0_caseCovers 3 = .ok (.aload_n 0, 1) := by decide +kernel
theorem dX0_caseCovers_4 : decode cX0_caseCovers 4 = .ok (.getfield 27, 3) := by decide +kernel
theorem dX0_caseCovers_7 : decode cX0_caseCovers 7 = .ok (.if_icmp .ge 30, 3) := by decide +kernel
theorem dX0_caseCovers_10 : decode cX0_caseCovers 10 = .ok (.aload_n 0, 1) := by decide +kernel
theorem dX0_caseCovers_11 : decode cX0_caseCovers 11 = .ok (.getfield 24, 3) := by decide +kernel
theorem dX0_caseCovers_14 : decode cX0_caseCovers 14 = .ok (.iload_n 3, 1) := by decide +kernel
theorem dX0_caseCovers_15 : decode cX0_caseCovers 15 = .ok (.iaload, 1) := by decide +kernel
theorem dX0_caseCovers_16 : decode cX0_caseCovers 16 = .ok (.iload_n 1, 1) := by decide +kernel
theorem dX0_caseCovers_17 : decode cX0_caseCovers 17 = .ok (.if_icmp .ne 14, 3) := by decide +kernel
theorem dX0_caseCovers_20 : decode cX0_caseCovers 20 = .ok (.aload_n 0, 1) := by decide +kernel
theorem dX0_caseCovers_21 : decode cX0_caseCovers 21 = .ok (.iload_n 3, 1) := by decide +kernel
theorem dX0_caseCovers_22 : decode cX0_caseCovers 22 = .ok (.iload_n 2, 1) := by decide +kernel
theorem dX0_caseCovers_23 : decode cX0_caseCovers 23 = .ok (.invokevirtual 50, 3) := by decide +kernel
theorem dX0_caseCovers_26 : decode cX0_caseCovers 26 = .ok (.ifCond .eq 5, 3) := by decide +kernel
theorem dX0_caseCovers_29 : decode cX0_caseCovers 29 = .ok (.iconst 1, 1) := by decide +kernel
theorem dX0_caseCovers_30 : decode cX0_caseCovers 30 = .ok (.ireturn, 1) := by decide +kernel
theorem dX0_caseCovers_31 : decode cX0_caseCovers 31 = .ok (.iinc 3 1, 3) := by decide +kernel
theorem dX0_caseCovers_34 : decode cX0_caseCovers 34 = .ok (.goto (-32), 3) := by decide +kernel
theorem dX0_caseCovers_37 : decode cX0_caseCovers 37 = .ok (.iconst 0, 1) := by decide +kernel
theorem dX0_caseCovers_38 : decode cX0_caseCovers 38 = .ok (.ireturn, 1) := by decide +kernel
theorem dX1_init_0 : decode cX1_init 0 = .ok (.aload_n 0, 1) := by decide +kernel
theorem dX1_init_1 : decode cX1_init 1 = .ok (.invokespecial 3, 3) := by decide +kernel
theorem dX1_init_4 : decode cX1_init 4 = .ok (.aload_n 0, 1) := by decide +kernel
theorem dX1_init_5 : decode cX1_init 5 = .ok (.bipush 12, 2) := by decide +kernel
theorem dX1_init_7 : decode cX1_init 7 = .ok (.newarray .int, 2) := by decide +kernel
theorem dX1_init_9 : decode cX1_init 9 = .ok (.putfield 9, 3) := by decide +kernel
theorem dX1_init_12 : decode cX1_init 12 = .ok (.aload_n 0, 1) := by decide +kernel
theorem dX1_init_13 : decode cX1_init 13 = .ok (.bipush 12, 2) := by decide +kernel
theorem dX1_init_15 : decode cX1_init 15 = .ok (.newarray .int, 2) := by decide +kernel
theorem dX1_init_17 : decode cX1_init 17 = .ok (.putfield 15, 3) := by decide +kernel
theorem dX1_init_20 : decode cX1_init 20 = .ok (.aload_n 0, 1) := by decide +kernel
theorem dX1_init_21 : decode cX1_init 21 = .ok (.bipush 12, 2) := by decide +kernel
theorem dX1_init_23 : decode cX1_init 23 = .ok (.newarray .int, 2) := by decide +kernel
theorem dX1_init_25 : decode cX1_init 25 = .ok (.putfield 18, 3) := by decide +kernel
theorem dX1_init_28 : decode cX1_init 28 = .ok (.aload_n 0, 1) := by decide +kernel
theorem dX1_init_29 : decode cX1_init 29 = .ok (.bipush 12, 2) := by decide +kernel
theorem dX1_init_31 : decode cX1_init 31 = .ok (.newarray .int, 2) := by decide +kernel
theorem dX1_init_33 : decode cX1_init 33 = .ok (.putfield 21, 3) := by decide +kernel
theorem dX1_init_36 : decode cX1_init 36 = .ok (.return_, 1) := by decide +kernel
theorem dX1_find_0 : decode cX1_find 0 = .ok (.aload_n 0, 1) := by decide +kernel
theorem dX1_find_1 : decode cX1_find 1 = .ok (.invokevirtual 24, 3) := by decide +kernel
theorem dX1_find_4 : decode cX1_find 4 = .ok (.iconst 0, 1) := by decide +kernel
theorem dX1_find_5 : decode cX1_find 5 = .ok (.istore 4, 2) := by decide +kernel
theorem dX1_find_7 : decode cX1_find 7 = .ok (.iload 4, 2) := by decide +kernel
theorem dX1_find_9 : decode cX1_find 9 = .ok (.aload_n 2, 1) := by decide +kernel
theorem dX1_find_10 : decode cX1_find 10 = .ok (.getfield 27, 3) := by decide +kernel
theorem dX1_find_13 : decode cX1_find 13 = .ok (.if_icmp .ge 52, 3) := by decide +kernel
theorem dX1_find_16 : decode cX1_find 16 = .ok (.aload_n 2, 1) := by decide +kernel
theorem dX1_find_17 : decode cX1_find 17 = .ok (.iload 4, 2) := by decide +kernel
theorem dX1_find_19 : decode cX1_find 19 = .ok (.iload_n 3, 1) := by decide +kernel
theorem dX1_find_20 : decode cX1_find 20 = .ok (.invokevirtual 33, 3) := by decide +kernel
theorem dX1_find_23 : decode cX1_find 23 = .ok (.ifCond .eq 36, 3) := by decide +kernel
theorem dX1_find_26 : decode cX1_find 26 = .ok (.aload_n 2, 1) := by decide +kernel
theorem dX1_find_27 : decode cX1_find 27 = .ok (.getfield 37, 3) := by decide +kernel
theorem dX1_find_30 : decode cX1_find 30 = .ok (.iload 4, 2) := by decide +kernel
theorem dX1_find_32 : decode cX1_find 32 = .ok (.iaload, 1) := by decide +kernel
theorem dX1_find_33 : decode cX1_find 33 = .ok (.istore 5, 2) := by decide +kernel
theorem dX1_find_35 : decode cX1_find 35 = .ok (.aload_n 0, 1) := by decide +kernel
theorem dX1_find_36 : decode cX1_find 36 = .ok (.getfield 9, 3) := by decide +kernel
theorem dX1_find_39 : decode cX1_find 39 = .ok (.iload 5, 2) := by decide +kernel
theorem dX1_find_41 : decode cX1_find 41 = .ok (.aload_n 0, 1) := by decide +kernel
theorem dX1_find_42 : decode cX1_find 42 = .ok (.getfield 9, 3) := by decide +kernel
theorem dX1_find_45 : decode cX1_find 45 = .ok (.iload 5, 2) := by decide +kernel
theorem dX1_find_47 : decode cX1_find 47 = .ok (.iaload, 1) := by decide +kernel
theorem dX1_find_48 : decode cX1_find 48 = .ok (.aload_n 2, 1) := by decide +kernel
theorem dX1_find_49 : decode cX1_find 49 = .ok (.getfield 40, 3) := by decide +kernel
theorem dX1_find_52 : decode cX1_find 52 = .ok (.iload 4, 2) := by decide +kernel
theorem dX1_find_54 : decode cX1_find 54 = .ok (.iaload, 1) := by decide +kernel
theorem dX1_find_55 : decode cX1_find 55 = .ok (.invokestatic 41, 3) := by decide +kernel
theorem dX1_find_58 : decode cX1_find 58 = .ok (.iastore, 1) := by decide +kernel
theorem dX1_find_59 : decode cX1_find 59 = .ok (.iinc 4 1, 3) := by decide +kernel
theorem dX1_find_62 : decode cX1_find 62 = .ok (.goto (-55), 3) := by decide +kernel
theorem dX1_find_65 : decode cX1_find 65 = .ok (.aload_n 1, 1) := by decide +kernel
theorem dX1_find_66 : decode cX1_find 66 = .ok (.getfield 47, 3) := by decide +kernel
theorem dX1_find_69 : decode cX1_find 69 = .ok (.iconst 1, 1) := by decide +kernel
theorem dX1_find_70 : decode cX1_find 70 = .ok (.isub, 1) := by decide +kernel
theorem dX1_find_71 : decode cX1_find 71 = .ok (.istore 4, 2) := by decide +kernel
theorem dX1_find_73 : decode cX1_find 73 = .ok (.iload 4, 2) := by decide +kernel
theorem dX1_find_75 : decode cX1_find 75 = .ok (.ifCond .lt 87, 3) := by decide +kernel
theorem dX1_find_78 : decode cX1_find 78 = .ok (.aload_n 1, 1) := by decide +kernel
theorem dX1_find_79 : decode cX1_find 79 = .ok (.iload 4, 2) := by decide +kernel
theorem dX1_find_81 : decode cX1_find 81 = .ok (.invokevirtual 50, 3) := by decide +kernel
theorem dX1_find_84 : decode cX1_find 84 = .ok (.ifCond .eq 41, 3) := by decide +kernel
theorem dX1_find_87 : decode cX1_find 87 = .ok (.aload_n 0, 1) := by decide +kernel
theorem dX1_find_88 : decode cX1_find 88 = .ok (.getfield 9, 3) := by decide +kernel
theorem dX1_find_91 : decode cX1_find 91 = .ok (.iload 4, 2) := by decide +kernel
theorem dX1_find_93 : decode cX1_find 93 = .ok (.aload_n 1, 1) := by decide +kernel
theorem dX1_find_94 : decode cX1_find 94 = .ok (.getfield 54, 3) := by decide +kernel
theorem dX1_find_97 : decode cX1_find 97 = .ok (.iload 4, 2) := by decide +kernel
theorem dX1_find_99 : decode cX1_find 99 = .ok (.caload, 1) := by decide +kernel
theorem dX1_find_100 : decode cX1_find 100 = .ok (.bipush 119, 2) := by decide +kernel
theorem dX1_find_102 : decode cX1_find 102 = .ok (.if_icmp .ne 13, 3) := by decide +kernel
theorem dX1_find_105 : decode cX1_find 105 = .ok (.aload_n 0, 1) := by decide +kernel
theorem dX1_find_106 : decode cX1_find 106 = .ok (.getfield 15, 3) := by decide +kernel
theorem dX1_find_109 : decode cX1_find 109 = .ok (.iload 4, 2) := by decide +kernel
theorem dX1_find_111 : decode cX1_find 111 = .ok (.iaload, 1) := by decide +kernel
theorem dX1_find_112 : decode cX1_find 112 = .ok (.goto 12, 3) := by decide +kernel
theorem dX1_find_115 : decode cX1_find 115 = .ok (.aload_n 0, 1) := by decide +kernel
theorem dX1_find_116 : decode cX1_find 116 = .ok (.iload 4, 2) := by decide +kernel
theorem dX1_find_118 : decode cX1_find 118 = .ok (.invokevirtual 58, 3) := by decide +kernel
theorem dX1_find_121 : decode cX1_find 121 = .ok (.invokestatic 62, 3) := by decide +kernel
theorem dX1_find_124 : decode cX1_find 124 = .ok (.iastore, 1) := by decide +kernel
theorem dX1_find_125 : decode cX1_find 125 = .ok (.aload_n 1, 1) := by decide +kernel
theorem dX1_find_126 : decode cX1_find 126 = .ok (.getfield 65, 3) := by decide +kernel
theorem dX1_find_129 : decode cX1_find 129 = .ok (.iload 4, 2) := by decide +kernel
theorem dX1_find_131 : decode cX1_find 131 = .ok (.iaload, 1) := by decide +kernel
theorem dX1_find_132 : decode cX1_find 132 = .ok (.iconst (-1), 1) := by decide +kernel
theorem dX1_find_133 : decode cX1_find 133 = .ok (.if_icmp .eq 23, 3) := by decide +kernel
theorem dX1_find_136 : decode cX1_find 136 = .ok (.aload_n 0, 1) := by decide +kernel
theorem dX1_find_137 : decode cX1_find 137 = .ok (.iload 4, 2) := by decide +kernel
theorem dX1_find_139 : decode cX1_find 139 = .ok (.aload_n 1, 1) := by decide +kernel
theorem dX1_find_140 : decode cX1_find 140 = .ok (.getfield 65, 3) := by decide +kernel
theorem dX1_find_143 : decode cX1_find 143 = .ok (.iload 4, 2) := by decide +kernel
theorem dX1_find_145 : decode cX1_find 145 = .ok (.iaload, 1) := by decide +kernel
theorem dX1_find_146 : decode cX1_find 146 = .ok (.aload_n 1, 1) := by decide +kernel
theorem dX1_find_147 : decode cX1_find 147 = .ok (.getfield 68, 3) := by decide +kernel
theorem dX1_find_150 : decode cX1_find 150 = .ok (.iload 4, 2) := by decide +kernel
theorem dX1_find_152 : decode cX1_find 152 = .ok (.iaload, 1) := by decide +kernel
theorem dX1_find_153 : decode cX1_find 153 = .ok (.invokevirtual 71, 3) := by decide +kernel
theorem dX1_find_156 : decode cX1_find 156 = .ok (.iinc 4 (-1), 3) := by decide +kernel
theorem dX1_find_159 : decode cX1_find 159 = .ok (.goto (-86), 3) := by decide +kernel
theorem dX1_find_162 : decode cX1_find 162 = .ok (.return_, 1) := by decide +kernel
theorem dX1_clear_0 : decode cX1_clear 0 = .ok (.aload_n 0, 1) := by decide +kernel
theorem dX1_clear_1 : decode cX1_clear 1 = .ok (.getfield 9, 3) := by decide +kernel
theorem dX1_clear_4 : decode cX1_clear 4 = .ok (.iconst 0, 1) := by decide +kernel
theorem dX1_clear_5 : decode cX1_clear 5 = .ok (.invokestatic 75, 3) := by decide +kernel
theorem dX1_clear_8 : decode cX1_clear 8 = .ok (.aload_n 0, 1) := by decide +kernel
theorem dX1_clear_9 : decode cX1_clear 9 = .ok (.getfield 15, 3) := by decide +kernel
theorem dX1_clear_12 : decode cX1_clear 12 = .ok (.iconst 0, 1) := by decide +kernel
theorem dX1_clear_13 : decode cX1_clear 13 = .ok (.invokestatic 75, 3) := by decide +kernel
theorem dX1_clear_16 : decode cX1_clear 16 = .ok (.aload_n 0, 1) := by decide +kernel
theorem dX1_clear_17 : decode cX1_clear 17 = .ok (.getfield 18, 3) := by decide +kernel
theorem dX1_clear_20 : decode cX1_clear 20 = .ok (.iconst 0, 1) := by decide +kernel
theorem dX1_clear_21 : decode cX1_clear 21 = .ok (.invokestatic 75, 3) := by decide +kernel
theorem dX1_clear_24 : decode cX1_clear 24 = .ok (.aload_n 0, 1) := by decide +kernel
theorem dX1_clear_25 : decode cX1_clear 25 = .ok (.getfield 21, 3) := by decide +kernel
theorem dX1_clear_28 : decode cX1_clear 28 = .ok (.iconst 0, 1) := by decide +kernel
theorem dX1_clear_29 : decode cX1_clear 29 = .ok (.invokestatic 75, 3) := by decide +kernel
theorem dX1_clear_32 : decode cX1_clear 32 = .ok (.return_, 1) := by decide +kernel
theorem dX1_passUp_0 : decode cX1_passUp 0 = .ok (.aload_n 0, 1) := by decide +kernel
theorem dX1_passUp_1 : decode cX1_passUp 1 = .ok (.getfield 15, 3) := by decide +kernel
theorem dX1_passUp_4 : decode cX1_passUp 4 = .ok (.iload_n 2, 1) := by decide +kernel
theorem dX1_passUp_5 : decode cX1_passUp 5 = .ok (.aload_n 0, 1) := by decide +kernel
theorem dX1_passUp_6 : decode cX1_passUp 6 = .ok (.getfield 15, 3) := by decide +kernel
theorem dX1_passUp_9 : decode cX1_passUp 9 = .ok (.iload_n 2, 1) := by decide +kernel
theorem dX1_passUp_10 : decode cX1_passUp 10 = .ok (.iaload, 1) := by decide +kernel
theorem dX1_passUp_11 : decode cX1_passUp 11 = .ok (.aload_n 0, 1) := by decide +kernel
theorem dX1_passUp_12 : decode cX1_passUp 12 = .ok (.getfield 9, 3) := by decide +kernel
theorem dX1_passUp_15 : decode cX1_passUp 15 = .ok (.iload_n 1, 1) := by decide +kernel
theorem dX1_passUp_16 : decode cX1_passUp 16 = .ok (.iaload, 1) := by decide +kernel
theorem dX1_passUp_17 : decode cX1_passUp 17 = .ok (.invokestatic 41, 3) := by decide +kernel
theorem dX1_passUp_20 : decode cX1_passUp 20 = .ok (.iastore, 1) := by decide +kernel
theorem dX1_passUp_21 : decode cX1_passUp 21 = .ok (.aload_n 0, 1) := by decide +kernel
theorem dX1_passUp_22 : decode cX1_passUp 22 = .ok (.getfield 18, 3) := by decide +kernel
theorem dX1_passUp_25 : decode cX1_passUp 25 = .ok (.iload_n 2, 1) := by decide +kernel
theorem dX1_passUp_26 : decode cX1_passUp 26 = .ok (.dup2, 1) := by decide +kernel
theorem dX1_passUp_27 : decode cX1_passUp 27 = .ok (.iaload, 1) := by decide +kernel
theorem dX1_passUp_28 : decode cX1_passUp 28 = .ok (.aload_n 0, 1) := by decide +kernel
theorem dX1_passUp_29 : decode cX1_passUp 29 = .ok (.getfield 9, 3) := by decide +kernel
theorem dX1_passUp_32 : decode cX1_passUp 32 = .ok (.iload_n 1, 1) := by decide +kernel
theorem dX1_passUp_33 : decode cX1_passUp 33 = .ok (.iaload, 1) := by decide +kernel
theorem dX1_passUp_34 : decode cX1_passUp 34 = .ok (.invokestatic 81, 3) := by decide +kernel
theorem dX1_passUp_37 : decode cX1_passUp 37 = .ok (.iload_n 3, 1) := by decide +kernel
theorem dX1_passUp_38 : decode cX1_passUp 38 = .ok (.imul, 1) := by decide +kernel
theorem dX1_passUp_39 : decode cX1_passUp 39 = .ok (.iadd, 1) := by decide +kernel
theorem dX1_passUp_40 : decode cX1_passUp 40 = .ok (.iastore, 1) := by decide +kernel
theorem dX1_passUp_41 : decode cX1_passUp 41 = .ok (.aload_n 0, 1) := by decide +kernel
theorem dX1_passUp_42 : decode cX1_passUp 42 = .ok (.getfield 21, 3) := by decide +kernel
theorem dX1_passUp_45 : decode cX1_passUp 45 = .ok (.iload_n 2, 1) := by decide +kernel
theorem dX1_passUp_46 : decode cX1_passUp 46 = .ok (.dup2, 1) := by decide +kernel
theorem dX1_passUp_47 : decode cX1_passUp 47 = .ok (.iaload, 1) := by decide +kernel
theorem dX1_passUp_48 : decode cX1_passUp 48 = .ok (.iload_n 3, 1) := by decide +kernel
theorem dX1_passUp_49 : decode cX1_passUp 49 = .ok (.iadd, 1) := by decide +kernel
theorem dX1_passUp_50 : decode cX1_passUp 50 = .ok (.iastore, 1) := by decide +kernel
theorem dX1_passUp_51 : decode cX1_passUp 51 = .ok (.return_, 1) := by decide +kernel
theorem dX1_meanLoss_0 : decode cX1_meanLoss 0 = .ok (.aload_n 0, 1) := by decide +kernel
theorem dX1_meanLoss_1 : decode cX1_meanLoss 1 = .ok (.getfield 21, 3) := by decide +kernel
theorem dX1_meanLoss_4 : decode cX1_meanLoss 4 = .ok (.iload_n 1, 1) := by decide +kernel
theorem dX1_meanLoss_5 : decode cX1_meanLoss 5 = .ok (.iaload, 1) := by decide +kernel
theorem dX1_meanLoss_6 : decode cX1_meanLoss 6 = .ok (.ifCond .ne 7, 3) := by decide +kernel
theorem dX1_meanLoss_9 : decode cX1_meanLoss 9 = .ok (.iconst 0, 1) := by decide +kernel
theorem dX1_meanLoss_10 : decode cX1_meanLoss 10 = .ok (.goto 16, 3) := by decide +kernel
theorem dX1_meanLoss_13 : decode cX1_meanLoss 13 = .ok (.aload_n 0, 1) := by decide +kernel
theorem dX1_meanLoss_14 : decode cX1_meanLoss 14 = .ok (.getfield 18, 3) := by decide +kernel
theorem dX1_meanLoss_17 : decode cX1_meanLoss 17 = .ok (.iload_n 1, 1) := by decide +kernel
theorem dX1_meanLoss_18 : decode cX1_meanLoss 18 = .ok (.iaload, 1) := by decide +kernel
theorem dX1_meanLoss_19 : decode cX1_meanLoss 19 = .ok (.aload_n 0, 1) := by decide +kernel
theorem dX1_meanLoss_20 : decode cX1_meanLoss 20 = .ok (.getfield 21, 3) := by decide +kernel
theorem dX1_meanLoss_23 : decode cX1_meanLoss 23 = .ok (.iload_n 1, 1) := by decide +kernel
theorem dX1_meanLoss_24 : decode cX1_meanLoss 24 = .ok (.iaload, 1) := by decide +kernel
theorem dX1_meanLoss_25 : decode cX1_meanLoss 25 = .ok (.idiv, 1) := by decide +kernel
theorem dX1_meanLoss_26 : decode cX1_meanLoss 26 = .ok (.ireturn, 1) := by decide +kernel
theorem dX1_worstLeaf_0 : decode cX1_worstLeaf 0 = .ok (.iconst (-1), 1) := by decide +kernel
theorem dX1_worstLeaf_1 : decode cX1_worstLeaf 1 = .ok (.istore_n 2, 1) := by decide +kernel
theorem dX1_worstLeaf_2 : decode cX1_worstLeaf 2 = .ok (.iconst 0, 1) := by decide +kernel
theorem dX1_worstLeaf_3 : decode cX1_worstLeaf 3 = .ok (.istore_n 3, 1) := by decide +kernel
theorem dX1_worstLeaf_4 : decode cX1_worstLeaf 4 = .ok (.iconst 0, 1) := by decide +kernel
theorem dX1_worstLeaf_5 : decode cX1_worstLeaf 5 = .ok (.istore 4, 2) := by decide +kernel
theorem dX1_worstLeaf_7 : decode cX1_worstLeaf 7 = .ok (.iload 4, 2) := by decide +kernel
theorem dX1_worstLeaf_9 : decode cX1_worstLeaf 9 = .ok (.aload_n 1, 1) := by decide +kernel
theorem dX1_worstLeaf_10 : decode cX1_worstLeaf 10 = .ok (.getfield 47, 3) := by decide +kernel
theorem dX1_worstLeaf_13 : decode cX1_worstLeaf 13 = .ok (.if_icmp .ge 50, 3) := by decide +kernel
theorem dX1_worstLeaf_16 : decode cX1_worstLeaf 16 = .ok (.aload_n 0, 1) := by decide +kernel
theorem dX1_worstLeaf_17 : decode cX1_worstLeaf 17 = .ok (.getfield 9, 3) := by decide +kernel
theorem dX1_worstLeaf_20 : decode cX1_worstLeaf 20 = .ok (.iload 4, 2) := by decide +kernel
theorem dX1_worstLeaf_22 : decode cX1_worstLeaf 22 = .ok (.iaload, 1) := by decide +kernel
theorem dX1_worstLeaf_23 : decode cX1_worstLeaf 23 = .ok (.invokestatic 81, 3) := by decide +kernel
theorem dX1_worstLeaf_26 : decode cX1_worstLeaf 26 = .ok (.aload_n 1, 1) := by decide +kernel
theorem dX1_worstLeaf_27 : decode cX1_worstLeaf 27 = .ok (.getfield 68, 3) := by decide +kernel
theorem dX1_worstLeaf_30 : decode cX1_worstLeaf 30 = .ok (.iload 4, 2) := by decide +kernel
theorem dX1_worstLeaf_32 : decode cX1_worstLeaf 32 = .ok (.iaload, 1) := by decide +kernel
theorem dX1_worstLeaf_33 : decode cX1_worstLeaf 33 = .ok (.imul, 1) := by decide +kernel
theorem dX1_worstLeaf_34 : decode cX1_worstLeaf 34 = .ok (.istore 5, 2) := by decide +kernel
theorem dX1_worstLeaf_36 : decode cX1_worstLeaf 36 = .ok (.iload 5, 2) := by decide +kernel
theorem dX1_worstLeaf_38 : decode cX1_worstLeaf 38 = .ok (.iload_n 3, 1) := by decide +kernel
theorem dX1_worstLeaf_39 : decode cX1_worstLeaf 39 = .ok (.if_icmp .le 18, 3) := by decide +kernel
theorem dX1_worstLeaf_42 : decode cX1_worstLeaf 42 = .ok (.aload_n 1, 1) := by decide +kernel
theorem dX1_worstLeaf_43 : decode cX1_worstLeaf 43 = .ok (.iload 4, 2) := by decide +kernel
theorem dX1_worstLeaf_45 : decode cX1_worstLeaf 45 = .ok (.invokevirtual 50, 3) := by decide +kernel
theorem dX1_worstLeaf_48 : decode cX1_worstLeaf 48 = .ok (.ifCond .ne 9, 3) := by decide +kernel
theorem dX1_worstLeaf_51 : decode cX1_worstLeaf 51 = .ok (.iload 4, 2) := by decide +kernel
theorem dX1_worstLeaf_53 : decode cX1_worstLeaf 53 = .ok (.istore_n 2, 1) := by decide +kernel
theorem dX1_worstLeaf_54 : decode cX1_worstLeaf 54 = .ok (.iload 5, 2) := by decide +kernel
theorem dX1_worstLeaf_56 : decode cX1_worstLeaf 56 = .ok (.istore_n 3, 1) := by decide +kernel
theorem dX1_worstLeaf_57 : decode cX1_worstLeaf 57 = .ok (.iinc 4 1, 3) := by decide +kernel
theorem dX1_worstLeaf_60 : decode cX1_worstLeaf 60 = .ok (.goto (-53), 3) := by decide +kernel
theorem dX1_worstLeaf_63 : decode cX1_worstLeaf 63 = .ok (.iload_n 2, 1) := by decide +kernel
theorem dX1_worstLeaf_64 : decode cX1_worstLeaf 64 = .ok (.ireturn, 1) := by decide +kernel
theorem dX2_init_0 : decode cX2_init 0 = .ok (.aload_n 0, 1) := by decide +kernel
theorem dX2_init_1 : decode cX2_init 1 = .ok (.invokespecial 3, 3) := by decide +kernel
theorem dX2_init_4 : decode cX2_init 4 = .ok (.aload_n 0, 1) := by decide +kernel
theorem dX2_init_5 : decode cX2_init 5 = .ok (.bipush 64, 2) := by decide +kernel
theorem dX2_init_7 : decode cX2_init 7 = .ok (.newarray .int, 2) := by decide +kernel
theorem dX2_init_9 : decode cX2_init 9 = .ok (.putfield 11, 3) := by decide +kernel
theorem dX2_init_12 : decode cX2_init 12 = .ok (.return_, 1) := by decide +kernel
theorem dX2_add_0 : decode cX2_add 0 = .ok (.aload_n 0, 1) := by decide +kernel
theorem dX2_add_1 : decode cX2_add 1 = .ok (.getfield 15, 3) := by decide +kernel
theorem dX2_add_4 : decode cX2_add 4 = .ok (.sipush 3072, 3) := by decide +kernel
theorem dX2_add_7 : decode cX2_add 7 = .ok (.if_icmp .lt 4, 3) := by decide +kernel
theorem dX2_add_10 : decode cX2_add 10 = .ok (.return_, 1) := by decide +kernel
theorem dX2_add_11 : decode cX2_add 11 = .ok (.aload_n 0, 1) := by decide +kernel
theorem dX2_add_12 : decode cX2_add 12 = .ok (.getfield 15, 3) := by decide +kernel
theorem dX2_add_15 : decode cX2_add 15 = .ok (.iconst 4, 1) := by decide +kernel
theorem dX2_add_16 : decode cX2_add 16 = .ok (.imul, 1) := by decide +kernel
theorem dX2_add_17 : decode cX2_add 17 = .ok (.istore 5, 2) := by decide +kernel
theorem dX2_add_19 : decode cX2_add 19 = .ok (.iload 5, 2) := by decide +kernel
theorem dX2_add_21 : decode cX2_add 21 = .ok (.aload_n 0, 1) := by decide +kernel
theorem dX2_add_22 : decode cX2_add 22 = .ok (.getfield 11, 3) := by decide +kernel
theorem dX2_add_25 : decode cX2_add 25 = .ok (.arraylength, 1) := by decide +kernel
theorem dX2_add_26 : decode cX2_add 26 = .ok (.if_icmp .lt 21, 3) := by decide +kernel
theorem dX2_add_29 : decode cX2_add 29 = .ok (.aload_n 0, 1) := by decide +kernel
theorem dX2_add_30 : decode cX2_add 30 = .ok (.aload_n 0, 1) := by decide +kernel
theorem dX2_add_31 : decode cX2_add 31 = .ok (.getfield 11, 3) := by decide +kernel
theorem dX2_add_34 : decode cX2_add 34 = .ok (.iconst 2, 1) := by decide +kernel
theorem dX2_add_35 : decode cX2_add 35 = .ok (.aload_n 0, 1) := by decide +kernel
theorem dX2_add_36 : decode cX2_add 36 = .ok (.getfield 11, 3) := by decide +kernel
theorem dX2_add_39 : decode cX2_add 39 = .ok (.arraylength, 1) := by decide +kernel
theorem dX2_add_40 : decode cX2_add 40 = .ok (.imul, 1) := by decide +kernel
theorem dX2_add_41 : decode cX2_add 41 = .ok (.invokestatic 19, 3) := by decide +kernel
theorem dX2_add_44 : decode cX2_add 44 = .ok (.putfield 11, 3) := by decide +kernel
theorem dX2_add_47 : decode cX2_add 47 = .ok (.aload_n 0, 1) := by decide +kernel
theorem dX2_add_48 : decode cX2_add 48 = .ok (.getfield 11, 3) := by decide +kernel
theorem dX2_add_51 : decode cX2_add 51 = .ok (.iload 5, 2) := by decide +kernel
theorem dX2_add_53 : decode cX2_add 53 = .ok (.iconst 0, 1) := by decide +kernel
theorem dX2_add_54 : decode cX2_add 54 = .ok (.iadd, 1) := by decide +kernel
theorem dX2_add_55 : decode cX2_add 55 = .ok (.iload_n 1, 1) := by decide +kernel
theorem dX2_add_56 : decode cX2_add 56 = .ok (.iastore, 1) := by decide +kernel
theorem dX2_add_57 : decode cX2_add 57 = .ok (.aload_n 0, 1) := by decide +kernel
theorem dX2_add_58 : decode cX2_add 58 = .ok (.getfield 11, 3) := by decide +kernel
theorem dX2_add_61 : decode cX2_add 61 = .ok (.iload 5, 2) := by decide +kernel
theorem dX2_add_63 : decode cX2_add 63 = .ok (.iconst 1, 1) := by decide +kernel
theorem dX2_add_64 : decode cX2_add 64 = .ok (.iadd, 1) := by decide +kernel
theorem dX2_add_65 : decode cX2_add 65 = .ok (.iload_n 2, 1) := by decide +kernel
theorem dX2_add_66 : decode cX2_add 66 = .ok (.iastore, 1) := by decide +kernel
theorem dX2_add_67 : decode cX2_add 67 = .ok (.aload_n 0, 1) := by decide +kernel
theorem dX2_add_68 : decode cX2_add 68 = .ok (.getfield 11, 3) := by decide +kernel
theorem dX2_add_71 : decode cX2_add 71 = .ok (.iload 5, 2) := by decide +kernel
theorem dX2_add_73 : decode cX2_add 73 = .ok (.iconst 2, 1) := by decide +kernel
theorem dX2_add_74 : decode cX2_add 74 = .ok (.iadd, 1) := by decide +kernel
theorem dX2_add_75 : decode cX2_add 75 = .ok (.iload_n 3, 1) := by decide +kernel
theorem dX2_add_76 : decode cX2_add 76 = .ok (.iastore, 1) := by decide +kernel
theorem dX2_add_77 : decode cX2_add 77 = .ok (.aload_n 0, 1) := by decide +kernel
theorem dX2_add_78 : decode cX2_add 78 = .ok (.getfield 11, 3) := by decide +kernel
theorem dX2_add_81 : decode cX2_add 81 = .ok (.iload 5, 2) := by decide +kernel
theorem dX2_add_83 : decode cX2_add 83 = .ok (.iconst 3, 1) := by decide +kernel
theorem dX2_add_84 : decode cX2_add 84 = .ok (.iadd, 1) := by decide +kernel
theorem dX2_add_85 : decode cX2_add 85 = .ok (.iload 4, 2) := by decide +kernel
theorem dX2_add_87 : decode cX2_add 87 = .ok (.iastore, 1) := by decide +kernel
theorem dX2_add_88 : decode cX2_add 88 = .ok (.aload_n 0, 1) := by decide +kernel
theorem dX2_add_89 : decode cX2_add 89 = .ok (.dup, 1) := by decide +kernel
theorem dX2_add_90 : decode cX2_add 90 = .ok (.getfield 15, 3) := by decide +kernel
theorem dX2_add_93 : decode cX2_add 93 = .ok (.iconst 1, 1) := by decide +kernel
theorem dX2_add_94 : decode cX2_add 94 = .ok (.iadd, 1) := by decide +kernel
theorem dX2_add_95 : decode cX2_add 95 = .ok (.putfield 15, 3) := by decide +kernel
theorem dX2_add_98 : decode cX2_add 98 = .ok (.return_, 1) := by decide +kernel
theorem dX2_fact_0 : decode cX2_fact 0 = .ok (.aload_n 0, 1) := by decide +kernel
theorem dX2_fact_1 : decode cX2_fact 1 = .ok (.getfield 11, 3) := by decide +kernel
theorem dX2_fact_4 : decode cX2_fact 4 = .ok (.iload_n 1, 1) := by decide +kernel
theorem dX2_fact_5 : decode cX2_fact 5 = .ok (.iconst 4, 1) := by decide +kernel
theorem dX2_fact_6 : decode cX2_fact 6 = .ok (.imul, 1) := by decide +kernel
theorem dX2_fact_7 : decode cX2_fact 7 = .ok (.iload_n 2, 1) := by decide +kernel
theorem dX2_fact_8 : decode cX2_fact 8 = .ok (.iadd, 1) := by decide +kernel
theorem dX2_fact_9 : decode cX2_fact 9 = .ok (.iaload, 1) := by decide +kernel
theorem dX2_fact_10 : decode cX2_fact 10 = .ok (.ireturn, 1) := by decide +kernel
theorem dX2_countTo_0 : decode cX2_countTo 0 = .ok (.iconst 0, 1) := by decide +kernel
theorem dX2_countTo_1 : decode cX2_countTo 1 = .ok (.istore_n 2, 1) := by decide +kernel
theorem dX2_countTo_2 : decode cX2_countTo 2 = .ok (.iconst 0, 1) := by decide +kernel
theorem dX2_countTo_3 : decode cX2_countTo 3 = .ok (.istore_n 3, 1) := by decide +kernel
theorem dX2_countTo_4 : decode cX2_countTo 4 = .ok (.iload_n 3, 1) := by decide +kernel
theorem dX2_countTo_5 : decode cX2_countTo 5 = .ok (.aload_n 0, 1) := by decide +kernel
theorem dX2_countTo_6 : decode cX2_countTo 6 = .ok (.getfield 15, 3) := by decide +kernel
theorem dX2_countTo_9 : decode cX2_countTo 9 = .ok (.if_icmp .ge 22, 3) := by decide +kernel
theorem dX2_countTo_12 : decode cX2_countTo 12 = .ok (.aload_n 0, 1) := by decide +kernel
theorem dX2_countTo_13 : decode cX2_countTo 13 = .ok (.iload_n 3, 1) := by decide +kernel
theorem dX2_countTo_14 : decode cX2_countTo 14 = .ok (.iconst 0, 1) := by decide +kernel
theorem dX2_countTo_15 : decode cX2_countTo 15 = .ok (.invokevirtual 25, 3) := by decide +kernel
theorem dX2_countTo_18 : decode cX2_countTo 18 = .ok (.iload_n 1, 1) := by decide +kernel
theorem dX2_countTo_19 : decode cX2_countTo 19 = .ok (.if_icmp .ne 6, 3) := by decide +kernel
theorem dX2_countTo_22 : decode cX2_countTo 22 = .ok (.iinc 2 1, 3) := by decide +kernel
theorem dX2_countTo_25 : decode cX2_countTo 25 = .ok (.iinc 3 1, 3) := by decide +kernel
theorem dX2_countTo_28 : decode cX2_countTo 28 = .ok (.goto (-24), 3) := by decide +kernel
theorem dX2_countTo_31 : decode cX2_countTo 31 = .ok (.iload_n 2, 1) := by decide +kernel
theorem dX2_countTo_32 : decode cX2_countTo 32 = .ok (.ireturn, 1) := by decide +kernel
theorem dX3_init_0 : decode cX3_init 0 = .ok (.aload_n 0, 1) := by decide +kernel
theorem dX3_init_1 : decode cX3_init 1 = .ok (.invokespecial 3, 3) := by decide +kernel
theorem dX3_init_4 : decode cX3_init 4 = .ok (.aload_n 0, 1) := by decide +kernel
theorem dX3_init_5 : decode cX3_init 5 = .ok (.bipush 8, 2) := by decide +kernel
theorem dX3_init_7 : decode cX3_init 7 = .ok (.newarray .int, 2) := by decide +kernel
theorem dX3_init_9 : decode cX3_init 9 = .ok (.putfield 9, 3) := by decide +kernel
theorem dX3_init_12 : decode cX3_init 12 = .ok (.aload_n 0, 1) := by decide +kernel
theorem dX3_init_13 : decode cX3_init 13 = .ok (.bipush 8, 2) := by decide +kernel
theorem dX3_init_15 : decode cX3_init 15 = .ok (.newarray .int, 2) := by decide +kernel
theorem dX3_init_17 : decode cX3_init 17 = .ok (.putfield 15, 3) := by decide +kernel
theorem dX3_init_20 : decode cX3_init 20 = .ok (.aload_n 0, 1) := by decide +kernel
theorem dX3_init_21 : decode cX3_init 21 = .ok (.bipush 8, 2) := by decide +kernel
theorem dX3_init_23 : decode cX3_init 23 = .ok (.newarray .int, 2) := by decide +kernel
theorem dX3_init_25 : decode cX3_init 25 = .ok (.putfield 18, 3) := by decide +kernel
theorem dX3_init_28 : decode cX3_init 28 = .ok (.return_, 1) := by decide +kernel
theorem dX3_add_0 : decode cX3_add 0 = .ok (.aload_n 0, 1) := by decide +kernel
theorem dX3_add_1 : decode cX3_add 1 = .ok (.getfield 21, 3) := by decide +kernel
theorem dX3_add_4 : decode cX3_add 4 = .ok (.istore 4, 2) := by decide +kernel
theorem dX3_add_6 : decode cX3_add 6 = .ok (.aload_n 0, 1) := by decide +kernel
theorem dX3_add_7 : decode cX3_add 7 = .ok (.getfield 9, 3) := by decide +kernel
theorem dX3_add_10 : decode cX3_add 10 = .ok (.iload 4, 2) := by decide +kernel
theorem dX3_add_12 : decode cX3_add 12 = .ok (.iload_n 1, 1) := by decide +kernel
theorem dX3_add_13 : decode cX3_add 13 = .ok (.iastore, 1) := by decide +kernel
theorem dX3_add_14 : decode cX3_add 14 = .ok (.aload_n 0, 1) := by decide +kernel
theorem dX3_add_15 : decode cX3_add 15 = .ok (.getfield 15, 3) := by decide +kernel
theorem dX3_add_18 : decode cX3_add 18 = .ok (.iload 4, 2) := by decide +kernel
theorem dX3_add_20 : decode cX3_add 20 = .ok (.iload_n 2, 1) := by decide +kernel
theorem dX3_add_21 : decode cX3_add 21 = .ok (.iastore, 1) := by decide +kernel
theorem dX3_add_22 : decode cX3_add 22 = .ok (.aload_n 0, 1) := by decide +kernel
theorem dX3_add_23 : decode cX3_add 23 = .ok (.getfield 18, 3) := by decide +kernel
theorem dX3_add_26 : decode cX3_add 26 = .ok (.iload 4, 2) := by decide +kernel
theorem dX3_add_28 : decode cX3_add 28 = .ok (.iload_n 3, 1) := by decide +kernel
theorem dX3_add_29 : decode cX3_add 29 = .ok (.iastore, 1) := by decide +kernel
theorem dX3_add_30 : decode cX3_add 30 = .ok (.aload_n 0, 1) := by decide +kernel
theorem dX3_add_31 : decode cX3_add 31 = .ok (.dup, 1) := by decide +kernel
theorem dX3_add_32 : decode cX3_add 32 = .ok (.getfield 21, 3) := by decide +kernel
theorem dX3_add_35 : decode cX3_add 35 = .ok (.iconst 1, 1) := by decide +kernel
theorem dX3_add_36 : decode cX3_add 36 = .ok (.iadd, 1) := by decide +kernel
theorem dX3_add_37 : decode cX3_add 37 = .ok (.putfield 21, 3) := by decide +kernel
theorem dX3_add_40 : decode cX3_add 40 = .ok (.iload 4, 2) := by decide +kernel
theorem dX3_add_42 : decode cX3_add 42 = .ok (.ireturn, 1) := by decide +kernel
theorem dX3_excuses_0 : decode cX3_excuses 0 = .ok (.iconst 0, 1) := by decide +kernel
theorem dX3_excuses_1 : decode cX3_excuses 1 = .ok (.istore_n 3, 1) := by decide +kernel
theorem dX3_excuses_2 : decode cX3_excuses 2 = .ok (.iload_n 3, 1) := by decide +kernel
theorem dX3_excuses_3 : decode cX3_excuses 3 = .ok (.aload_n 0, 1) := by decide +kernel
theorem dX3_excuses_4 : decode cX3_excuses 4 = .ok (.getfield 21, 3) := by decide +kernel
theorem dX3_excuses_7 : decode cX3_excuses 7 = .ok (.if_icmp .ge 44, 3) := by decide +kernel
theorem dX3_excuses_10 : decode cX3_excuses 10 = .ok (.aload_n 0, 1) := by decide +kernel
theorem dX3_excuses_11 : decode cX3_excuses 11 = .ok (.getfield 15, 3) := by decide +kernel
theorem dX3_excuses_14 : decode cX3_excuses 14 = .ok (.iload_n 3, 1) := by decide +kernel
theorem dX3_excuses_15 : decode cX3_excuses 15 = .ok (.iaload, 1) := by decide +kernel
theorem dX3_excuses_16 : decode cX3_excuses 16 = .ok (.iload_n 2, 1) := by decide +kernel
theorem dX3_excuses_17 : decode cX3_excuses 17 = .ok (.if_icmp .gt 28, 3) := by decide +kernel
theorem dX3_excuses_20 : decode cX3_excuses 20 = .ok (.iload_n 2, 1) := by decide +kernel
theorem dX3_excuses_21 : decode cX3_excuses 21 = .ok (.aload_n 0, 1) := by decide +kernel
theorem dX3_excuses_22 : decode cX3_excuses 22 = .ok (.getfield 18, 3) := by decide +kernel
theorem dX3_excuses_25 : decode cX3_excuses 25 = .ok (.iload_n 3, 1) := by decide +kernel
theorem dX3_excuses_26 : decode cX3_excuses 26 = .ok (.iaload, 1) := by decide +kernel
theorem dX3_excuses_27 : decode cX3_excuses 27 = .ok (.if_icmp .ge 18, 3) := by decide +kernel
theorem dX3_excuses_30 : decode cX3_excuses 30 = .ok (.iload_n 1, 1) := by decide +kernel
theorem dX3_excuses_31 : decode cX3_excuses 31 = .ok (.aload_n 0, 1) := by decide +kernel
theorem dX3_excuses_32 : decode cX3_excuses 32 = .ok (.getfield 9, 3) := by decide +kernel
theorem dX3_excuses_35 : decode cX3_excuses 35 = .ok (.iload_n 3, 1) := by decide +kernel
theorem dX3_excuses_36 : decode cX3_excuses 36 = .ok (.iaload, 1) := by decide +kernel
theorem dX3_excuses_37 : decode cX3_excuses 37 = .ok (.invokestatic 25, 3) := by decide +kernel
theorem dX3_excuses_40 : decode cX3_excuses 40 = .ok (.ifCond .eq 5, 3) := by decide +kernel
theorem dX3_excuses_43 : decode cX3_excuses 43 = .ok (.iconst 1, 1) := by decide +kernel
theorem dX3_excuses_44 : decode cX3_excuses 44 = .ok (.ireturn, 1) := by decide +kernel
theorem dX3_excuses_45 : decode cX3_excuses 45 = .ok (.iinc 3 1, 3) := by decide +kernel
theorem dX3_excuses_48 : decode cX3_excuses 48 = .ok (.goto (-46), 3) := by decide +kernel
theorem dX3_excuses_51 : decode cX3_excuses 51 = .ok (.iconst 0, 1) := by decide +kernel
theorem dX3_excuses_52 : decode cX3_excuses 52 = .ok (.ireturn, 1) := by decide +kernel
theorem dX3_nextChange_0 : decode cX3_nextChange 0 = .ok (.iload_n 2, 1) := by decide +kernel
theorem dX3_nextChange_1 : decode cX3_nextChange 1 = .ok (.istore_n 3, 1) := by decide +kernel
theorem dX3_nextChange_2 : decode cX3_nextChange 2 = .ok (.iconst 0, 1) := by decide +kernel
theorem dX3_nextChange_3 : decode cX3_nextChange 3 = .ok (.istore 4, 2) := by decide +kernel
theorem dX3_nextChange_5 : decode cX3_nextChange 5 = .ok (.iload 4, 2) := by decide +kernel
theorem dX3_nextChange_7 : decode cX3_nextChange 7 = .ok (.aload_n 0, 1) := by decide +kernel
theorem dX3_nextChange_8 : decode cX3_nextChange 8 = .ok (.getfield 21, 3) := by decide +kernel
theorem dX3_nextChange_11 : decode cX3_nextChange 11 = .ok (.if_icmp .ge 35, 3) := by decide +kernel
theorem dX3_nextChange_14 : decode cX3_nextChange 14 = .ok (.iload_n 1, 1) := by decide +kernel
theorem dX3_nextChange_15 : decode cX3_nextChange 15 = .ok (.iload_n 3, 1) := by decide +kernel
theorem dX3_nextChange_16 : decode cX3_nextChange 16 = .ok (.aload_n 0, 1) := by decide +kernel
theorem dX3_nextChange_17 : decode cX3_nextChange 17 = .ok (.getfield 15, 3) := by decide +kernel
theorem dX3_nextChange_20 : decode cX3_nextChange 20 = .ok (.iload 4, 2) := by decide +kernel
theorem dX3_nextChange_22 : decode cX3_nextChange 22 = .ok (.iaload, 1) := by decide +kernel
theorem dX3_nextChange_23 : decode cX3_nextChange 23 = .ok (.invokestatic 31, 3) := by decide +kernel
theorem dX3_nextChange_26 : decode cX3_nextChange 26 = .ok (.istore_n 3, 1) := by decide +kernel
theorem dX3_nextChange_27 : decode cX3_nextChange 27 = .ok (.iload_n 1, 1) := by decide +kernel
theorem dX3_nextChange_28 : decode cX3_nextChange 28 = .ok (.iload_n 3, 1) := by decide +kernel
theorem dX3_nextChange_29 : decode cX3_nextChange 29 = .ok (.aload_n 0, 1) := by decide +kernel
theorem dX3_nextChange_30 : decode cX3_nextChange 30 = .ok (.getfield 18, 3) := by decide +kernel
theorem dX3_nextChange_33 : decode cX3_nextChange 33 = .ok (.iload 4, 2) := by decide +kernel
theorem dX3_nextChange_35 : decode cX3_nextChange 35 = .ok (.iaload, 1) := by decide +kernel
theorem dX3_nextChange_36 : decode cX3_nextChange 36 = .ok (.invokestatic 31, 3) := by decide +kernel
theorem dX3_nextChange_39 : decode cX3_nextChange 39 = .ok (.istore_n 3, 1) := by decide +kernel
theorem dX3_nextChange_40 : decode cX3_nextChange 40 = .ok (.iinc 4 1, 3) := by decide +kernel
theorem dX3_nextChange_43 : decode cX3_nextChange 43 = .ok (.goto (-38), 3) := by decide +kernel
theorem dX3_nextChange_46 : decode cX3_nextChange 46 = .ok (.iload_n 3, 1) := by decide +kernel
theorem dX3_nextChange_47 : decode cX3_nextChange 47 = .ok (.ireturn, 1) := by decide +kernel
theorem dX3_excusedMinutes_0 : decode cX3_excusedMinutes 0 = .ok (.iconst 0, 1) := by decide +kernel
theorem dX3_excusedMinutes_1 : decode cX3_excusedMinutes 1 = .ok (.istore 4, 2) := by decide +kernel
theorem dX3_excusedMinutes_3 : decode cX3_excusedMinutes 3 = .ok (.iload_n 2, 1) := by decide +kernel
theorem dX3_excusedMinutes_4 : decode cX3_excusedMinutes 4 = .ok (.istore 5, 2) := by decide +kernel
theorem dX3_excusedMinutes_6 : decode cX3_excusedMinutes 6 = .ok (.iconst 0, 1) := by decide +kernel
theorem dX3_excusedMinutes_7 : decode cX3_excusedMinutes 7 = .ok (.istore 6, 2) := by decide +kernel
theorem dX3_excusedMinutes_9 : decode cX3_excusedMinutes 9 = .ok (.iload 6, 2) := by decide +kernel
theorem dX3_excusedMinutes_11 : decode cX3_excusedMinutes 11 = .ok (.sipush 10000, 3) := by decide +kernel
theorem dX3_excusedMinutes_14 : decode cX3_excusedMinutes 14 = .ok (.if_icmp .ge 48, 3) := by decide +kernel
theorem dX3_excusedMinutes_17 : decode cX3_excusedMinutes 17 = .ok (.iload 5, 2) := by decide +kernel
theorem dX3_excusedMinutes_19 : decode cX3_excusedMinutes 19 = .ok (.iload_n 3, 1) := by decide +kernel
theorem dX3_excusedMinutes_20 : decode cX3_excusedMinutes 20 = .ok (.if_icmp .ge 42, 3) := by decide +kernel
theorem dX3_excusedMinutes_23 : decode cX3_excusedMinutes 23 = .ok (.aload_n 0, 1) := by decide +kernel
theorem dX3_excusedMinutes_24 : decode cX3_excusedMinutes 24 = .ok (.iload 5, 2) := by decide +kernel
theorem dX3_excusedMinutes_26 : decode cX3_excusedMinutes 26 = .ok (.iload_n 3, 1) := by decide +kernel
theorem dX3_excusedMinutes_27 : decode cX3_excusedMinutes 27 = .ok (.invokevirtual 35, 3) := by decide +kernel
theorem dX3_excusedMinutes_30 : decode cX3_excusedMinutes 30 = .ok (.istore 7, 2) := by decide +kernel
theorem dX3_excusedMinutes_32 : decode cX3_excusedMinutes 32 = .ok (.aload_n 0, 1) := by decide +kernel
theorem dX3_excusedMinutes_33 : decode cX3_excusedMinutes 33 = .ok (.iload_n 1, 1) := by decide +kernel
theorem dX3_excusedMinutes_34 : decode cX3_excusedMinutes 34 = .ok (.iload 5, 2) := by decide +kernel
theorem dX3_excusedMinutes_36 : decode cX3_excusedMinutes 36 = .ok (.invokevirtual 39, 3) := by decide +kernel
theorem dX3_excusedMinutes_39 : decode cX3_excusedMinutes 39 = .ok (.ifCond .eq 13, 3) := by decide +kernel
theorem dX3_excusedMinutes_42 : decode cX3_excusedMinutes 42 = .ok (.iload 4, 2) := by decide +kernel
theorem dX3_excusedMinutes_44 : decode cX3_excusedMinutes 44 = .ok (.iload 7, 2) := by decide +kernel
theorem dX3_excusedMinutes_46 : decode cX3_excusedMinutes 46 = .ok (.iload 5, 2) := by decide +kernel
theorem dX3_excusedMinutes_48 : decode cX3_excusedMinutes 48 = .ok (.isub, 1) := by decide +kernel
theorem dX3_excusedMinutes_49 : decode cX3_excusedMinutes 49 = .ok (.iadd, 1) := by decide +kernel
theorem dX3_excusedMinutes_50 : decode cX3_excusedMinutes 50 = .ok (.istore 4, 2) := by decide +kernel
theorem dX3_excusedMinutes_52 : decode cX3_excusedMinutes 52 = .ok (.iload 7, 2) := by decide +kernel
theorem dX3_excusedMinutes_54 : decode cX3_excusedMinutes 54 = .ok (.istore 5, 2) := by decide +kernel
theorem dX3_excusedMinutes_56 : decode cX3_excusedMinutes 56 = .ok (.iinc 6 1, 3) := by decide +kernel
theorem dX3_excusedMinutes_59 : decode cX3_excusedMinutes 59 = .ok (.goto (-50), 3) := by decide +kernel
theorem dX3_excusedMinutes_62 : decode cX3_excusedMinutes 62 = .ok (.iload 4, 2) := by decide +kernel
theorem dX3_excusedMinutes_64 : decode cX3_excusedMinutes 64 = .ok (.ireturn, 1) := by decide +kernel
theorem dX4_init_0 : decode cX4_init 0 = .ok (.aload_n 0, 1) := by decide +kernel
theorem dX4_init_1 : decode cX4_init 1 = .ok (.invokespecial 3, 3) := by decide +kernel
theorem dX4_init_4 : decode cX4_init 4 = .ok (.aload_n 0, 1) := by decide +kernel
theorem dX4_init_5 : decode cX4_init 5 = .ok (.bipush 6, 2) := by decide +kernel
theorem dX4_init_7 : decode cX4_init 7 = .ok (.newarray .int, 2) := by decide +kernel
theorem dX4_init_9 : decode cX4_init 9 = .ok (.putfield 9, 3) := by decide +kernel
theorem dX4_init_12 : decode cX4_init 12 = .ok (.aload_n 0, 1) := by decide +kernel
theorem dX4_init_13 : decode cX4_init 13 = .ok (.bipush 6, 2) := by decide +kernel
theorem dX4_init_15 : decode cX4_init 15 = .ok (.newarray .int, 2) := by decide +kernel
theorem dX4_init_17 : decode cX4_init 17 = .ok (.putfield 15, 3) := by decide +kernel
theorem dX4_init_20 : decode cX4_init 20 = .ok (.return_, 1) := by decide +kernel
theorem dX4_add_0 : decode cX4_add 0 = .ok (.aload_n 0, 1) := by decide +kernel
theorem dX4_add_1 : decode cX4_add 1 = .ok (.getfield 18, 3) := by decide +kernel
theorem dX4_add_4 : decode cX4_add 4 = .ok (.istore_n 2, 1) := by decide +kernel
theorem dX4_add_5 : decode cX4_add 5 = .ok (.aload_n 0, 1) := by decide +kernel
theorem dX4_add_6 : decode cX4_add 6 = .ok (.getfield 9, 3) := by decide +kernel
theorem dX4_add_9 : decode cX4_add 9 = .ok (.iload_n 2, 1) := by decide +kernel
theorem dX4_add_10 : decode cX4_add 10 = .ok (.iload_n 1, 1) := by decide +kernel
theorem dX4_add_11 : decode cX4_add 11 = .ok (.iastore, 1) := by decide +kernel
theorem dX4_add_12 : decode cX4_add 12 = .ok (.aload_n 0, 1) := by decide +kernel
theorem dX4_add_13 : decode cX4_add 13 = .ok (.getfield 15, 3) := by decide +kernel
theorem dX4_add_16 : decode cX4_add 16 = .ok (.iload_n 2, 1) := by decide +kernel
theorem dX4_add_17 : decode cX4_add 17 = .ok (.iconst 0, 1) := by decide +kernel
theorem dX4_add_18 : decode cX4_add 18 = .ok (.iastore, 1) := by decide +kernel
theorem dX4_add_19 : decode cX4_add 19 = .ok (.aload_n 0, 1) := by decide +kernel
theorem dX4_add_20 : decode cX4_add 20 = .ok (.dup, 1) := by decide +kernel
theorem dX4_add_21 : decode cX4_add 21 = .ok (.getfield 18, 3) := by decide +kernel
theorem dX4_add_24 : decode cX4_add 24 = .ok (.iconst 1, 1) := by decide +kernel
theorem dX4_add_25 : decode cX4_add 25 = .ok (.iadd, 1) := by decide +kernel
theorem dX4_add_26 : decode cX4_add 26 = .ok (.putfield 18, 3) := by decide +kernel
theorem dX4_add_29 : decode cX4_add 29 = .ok (.iload_n 2, 1) := by decide +kernel
theorem dX4_add_30 : decode cX4_add 30 = .ok (.ireturn, 1) := by decide +kernel
theorem dX4_follows_0 : decode cX4_follows 0 = .ok (.aload_n 0, 1) := by decide +kernel
theorem dX4_follows_1 : decode cX4_follows 1 = .ok (.getfield 15, 3) := by decide +kernel
theorem dX4_follows_4 : decode cX4_follows 4 = .ok (.iload_n 1, 1) := by decide +kernel
theorem dX4_follows_5 : decode cX4_follows 5 = .ok (.iaload, 1) := by decide +kernel
theorem dX4_follows_6 : decode cX4_follows 6 = .ok (.iload_n 2, 1) := by decide +kernel
theorem dX4_follows_7 : decode cX4_follows 7 = .ok (.invokestatic 22, 3) := by decide +kernel
theorem dX4_follows_10 : decode cX4_follows 10 = .ok (.ireturn, 1) := by decide +kernel
theorem dX4_toggle_0 : decode cX4_toggle 0 = .ok (.aload_n 0, 1) := by decide +kernel
theorem dX4_toggle_1 : decode cX4_toggle 1 = .ok (.getfield 15, 3) := by decide +kernel
theorem dX4_toggle_4 : decode cX4_toggle 4 = .ok (.iload_n 1, 1) := by decide +kernel
theorem dX4_toggle_5 : decode cX4_toggle 5 = .ok (.dup2, 1) := by decide +kernel
theorem dX4_toggle_6 : decode cX4_toggle 6 = .ok (.iaload, 1) := by decide +kernel
theorem dX4_toggle_7 : decode cX4_toggle 7 = .ok (.iconst 1, 1) := by decide +kernel
theorem dX4_toggle_8 : decode cX4_toggle 8 = .ok (.iload_n 2, 1) := by decide +kernel
theorem dX4_toggle_9 : decode cX4_toggle 9 = .ok (.ishl, 1) := by decide +kernel
theorem dX4_toggle_10 : decode cX4_toggle 10 = .ok (.ixor, 1) := by decide +kernel
theorem dX4_toggle_11 : decode cX4_toggle 11 = .ok (.iastore, 1) := by decide +kernel
theorem dX4_toggle_12 : decode cX4_toggle 12 = .ok (.return_, 1) := by decide +kernel
theorem dX4_count_0 : decode cX4_count 0 = .ok (.aload_n 0, 1) := by decide +kernel
theorem dX4_count_1 : decode cX4_count 1 = .ok (.getfield 15, 3) := by decide +kernel
theorem dX4_count_4 : decode cX4_count 4 = .ok (.iload_n 1, 1) := by decide +kernel
theorem dX4_count_5 : decode cX4_count 5 = .ok (.iaload, 1) := by decide +kernel
theorem dX4_count_6 : decode cX4_count 6 = .ok (.invokestatic 28, 3) := by decide +kernel
theorem dX4_count_9 : decode cX4_count 9 = .ok (.ireturn, 1) := by decide +kernel
theorem dX5_init_0 : decode cX5_init 0 = .ok (.aload_n 0, 1) := by decide +kernel
theorem dX5_init_1 : decode cX5_init 1 = .ok (.invokespecial 3, 3) := by decide +kernel
theorem dX5_init_4 : decode cX5_init 4 = .ok (.aload_n 0, 1) := by decide +kernel
theorem dX5_init_5 : decode cX5_init 5 = .ok (.bipush 12, 2) := by decide +kernel
theorem dX5_init_7 : decode cX5_init 7 = .ok (.newarray .int, 2) := by decide +kernel
theorem dX5_init_9 : decode cX5_init 9 = .ok (.putfield 9, 3) := by decide +kernel
theorem dX5_init_12 : decode cX5_init 12 = .ok (.aload_n 0, 1) := by decide +kernel
theorem dX5_init_13 : decode cX5_init 13 = .ok (.bipush 12, 2) := by decide +kernel
theorem dX5_init_15 : decode cX5_init 15 = .ok (.newarray .int, 2) := by decide +kernel
theorem dX5_init_17 : decode cX5_init 17 = .ok (.putfield 15, 3) := by decide +kernel
theorem dX5_init_20 : decode cX5_init 20 = .ok (.aload_n 0, 1) := by decide +kernel
theorem dX5_init_21 : decode cX5_init 21 = .ok (.bipush 12, 2) := by decide +kernel
theorem dX5_init_23 : decode cX5_init 23 = .ok (.newarray .char, 2) := by decide +kernel
theorem dX5_init_25 : decode cX5_init 25 = .ok (.putfield 18, 3) := by decide +kernel
theorem dX5_init_28 : decode cX5_init 28 = .ok (.aload_n 0, 1) := by decide +kernel
theorem dX5_init_29 : decode cX5_init 29 = .ok (.bipush 12, 2) := by decide +kernel
theorem dX5_init_31 : decode cX5_init 31 = .ok (.newarray .int, 2) := by decide +kernel
theorem dX5_init_33 : decode cX5_init 33 = .ok (.putfield 22, 3) := by decide +kernel
theorem dX5_init_36 : decode cX5_init 36 = .ok (.aload_n 0, 1) := by decide +kernel
theorem dX5_init_37 : decode cX5_init 37 = .ok (.bipush 12, 2) := by decide +kernel
theorem dX5_init_39 : decode cX5_init 39 = .ok (.newarray .int, 2) := by decide +kernel
theorem dX5_init_41 : decode cX5_init 41 = .ok (.putfield 25, 3) := by decide +kernel
theorem dX5_init_44 : decode cX5_init 44 = .ok (.return_, 1) := by decide +kernel
theorem dX5_add_0 : decode cX5_add 0 = .ok (.aload_n 0, 1) := by decide +kernel
theorem dX5_add_1 : decode cX5_add 1 = .ok (.getfield 28, 3) := by decide +kernel
theorem dX5_add_4 : decode cX5_add 4 = .ok (.istore 4, 2) := by decide +kernel
theorem dX5_add_6 : decode cX5_add 6 = .ok (.iconst 1, 1) := by decide +kernel
theorem dX5_add_7 : decode cX5_add 7 = .ok (.iload 4, 2) := by decide +kernel
theorem dX5_add_9 : decode cX5_add 9 = .ok (.ishl, 1) := by decide +kernel
theorem dX5_add_10 : decode cX5_add 10 = .ok (.istore 5, 2) := by decide +kernel
theorem dX5_add_12 : decode cX5_add 12 = .ok (.aload_n 0, 1) := by decide +kernel
theorem dX5_add_13 : decode cX5_add 13 = .ok (.getfield 9, 3) := by decide +kernel
theorem dX5_add_16 : decode cX5_add 16 = .ok (.iload 4, 2) := by decide +kernel
theorem dX5_add_18 : decode cX5_add 18 = .ok (.iload_n 1, 1) := by decide +kernel
theorem dX5_add_19 : decode cX5_add 19 = .ok (.iastore, 1) := by decide +kernel
theorem dX5_add_20 : decode cX5_add 20 = .ok (.aload_n 0, 1) := by decide +kernel
theorem dX5_add_21 : decode cX5_add 21 = .ok (.getfield 15, 3) := by decide +kernel
theorem dX5_add_24 : decode cX5_add 24 = .ok (.iload 4, 2) := by decide +kernel
theorem dX5_add_26 : decode cX5_add 26 = .ok (.iload_n 2, 1) := by decide +kernel
theorem dX5_add_27 : decode cX5_add 27 = .ok (.iastore, 1) := by decide +kernel
theorem dX5_add_28 : decode cX5_add 28 = .ok (.aload_n 0, 1) := by decide +kernel
theorem dX5_add_29 : decode cX5_add 29 = .ok (.getfield 18, 3) := by decide +kernel
theorem dX5_add_32 : decode cX5_add 32 = .ok (.iload 4, 2) := by decide +kernel
theorem dX5_add_34 : decode cX5_add 34 = .ok (.iload_n 3, 1) := by decide +kernel
theorem dX5_add_35 : decode cX5_add 35 = .ok (.castore, 1) := by decide +kernel
theorem dX5_add_36 : decode cX5_add 36 = .ok (.aload_n 0, 1) := by decide +kernel
theorem dX5_add_37 : decode cX5_add 37 = .ok (.getfield 22, 3) := by decide +kernel
theorem dX5_add_40 : decode cX5_add 40 = .ok (.iload 4, 2) := by decide +kernel
theorem dX5_add_42 : decode cX5_add 42 = .ok (.iload_n 1, 1) := by decide +kernel
theorem dX5_add_43 : decode cX5_add 43 = .ok (.iconst (-1), 1) := by decide +kernel
theorem dX5_add_44 : decode cX5_add 44 = .ok (.if_icmp .ne 8, 3) := by decide +kernel
theorem dX5_add_47 : decode cX5_add 47 = .ok (.iload 5, 2) := by decide +kernel
theorem dX5_add_49 : decode cX5_add 49 = .ok (.goto 12, 3) := by decide +kernel
theorem dX5_add_52 : decode cX5_add 52 = .ok (.aload_n 0, 1) := by decide +kernel
theorem dX5_add_53 : decode cX5_add 53 = .ok (.getfield 22, 3) := by decide +kernel
theorem dX5_add_56 : decode cX5_add 56 = .ok (.iload_n 1, 1) := by decide +kernel
theorem dX5_add_57 : decode cX5_add 57 = .ok (.iaload, 1) := by decide +kernel
theorem dX5_add_58 : decode cX5_add 58 = .ok (.iload 5, 2) := by decide +kernel
theorem dX5_add_60 : decode cX5_add 60 = .ok (.ior, 1) := by decide +kernel
theorem dX5_add_61 : decode cX5_add 61 = .ok (.iastore, 1) := by decide +kernel
theorem dX5_add_62 : decode cX5_add 62 = .ok (.iconst 0, 1) := by decide +kernel
theorem dX5_add_63 : decode cX5_add 63 = .ok (.istore 6, 2) := by decide +kernel
theorem dX5_add_65 : decode cX5_add 65 = .ok (.iload 6, 2) := by decide +kernel
theorem dX5_add_67 : decode cX5_add 67 = .ok (.iload 4, 2) := by decide +kernel
theorem dX5_add_69 : decode cX5_add 69 = .ok (.if_icmp .gt 36, 3) := by decide +kernel
theorem dX5_add_72 : decode cX5_add 72 = .ok (.aload_n 0, 1) := by decide +kernel
theorem dX5_add_73 : decode cX5_add 73 = .ok (.getfield 22, 3) := by decide +kernel
theorem dX5_add_76 : decode cX5_add 76 = .ok (.iload 4, 2) := by decide +kernel
theorem dX5_add_78 : decode cX5_add 78 = .ok (.iaload, 1) := by decide +kernel
theorem dX5_add_79 : decode cX5_add 79 = .ok (.iload 6, 2) := by decide +kernel
theorem dX5_add_81 : decode cX5_add 81 = .ok (.invokestatic 32, 3) := by decide +kernel
theorem dX5_add_84 : decode cX5_add 84 = .ok (.ifCond .eq 15, 3) := by decide +kernel
theorem dX5_add_87 : decode cX5_add 87 = .ok (.aload_n 0, 1) := by decide +kernel
theorem dX5_add_88 : decode cX5_add 88 = .ok (.getfield 25, 3) := by decide +kernel
theorem dX5_add_91 : decode cX5_add 91 = .ok (.iload 6, 2) := by decide +kernel
theorem dX5_add_93 : decode cX5_add 93 = .ok (.dup2, 1) := by decide +kernel
theorem dX5_add_94 : decode cX5_add 94 = .ok (.iaload, 1) := by decide +kernel
theorem dX5_add_95 : decode cX5_add 95 = .ok (.iload 5, 2) := by decide +kernel
theorem dX5_add_97 : decode cX5_add 97 = .ok (.ior, 1) := by decide +kernel
theorem dX5_add_98 : decode cX5_add 98 = .ok (.iastore, 1) := by decide +kernel
theorem dX5_add_99 : decode cX5_add 99 = .ok (.iinc 6 1, 3) := by decide +kernel
theorem dX5_add_102 : decode cX5_add 102 = .ok (.goto (-37), 3) := by decide +kernel
theorem dX5_add_105 : decode cX5_add 105 = .ok (.aload_n 0, 1) := by decide +kernel
theorem dX5_add_106 : decode cX5_add 106 = .ok (.dup, 1) := by decide +kernel
theorem dX5_add_107 : decode cX5_add 107 = .ok (.getfield 28, 3) := by decide +kernel
theorem dX5_add_110 : decode cX5_add 110 = .ok (.iconst 1, 1) := by decide +kernel
theorem dX5_add_111 : decode cX5_add 111 = .ok (.iadd, 1) := by decide +kernel
theorem dX5_add_112 : decode cX5_add 112 = .ok (.putfield 28, 3) := by decide +kernel
theorem dX5_add_115 : decode cX5_add 115 = .ok (.iload 4, 2) := by decide +kernel
theorem dX5_add_117 : decode cX5_add 117 = .ok (.ireturn, 1) := by decide +kernel
theorem dX5_holds_0 : decode cX5_holds 0 = .ok (.iload_n 0, 1) := by decide +kernel
theorem dX5_holds_1 : decode cX5_holds 1 = .ok (.iload_n 1, 1) := by decide +kernel
theorem dX5_holds_2 : decode cX5_holds 2 = .ok (.ishr, 1) := by decide +kernel
theorem dX5_holds_3 : decode cX5_holds 3 = .ok (.iconst 1, 1) := by decide +kernel
theorem dX5_holds_4 : decode cX5_holds 4 = .ok (.iand, 1) := by decide +kernel
theorem dX5_holds_5 : decode cX5_holds 5 = .ok (.iconst 1, 1) := by decide +kernel
theorem dX5_holds_6 : decode cX5_holds 6 = .ok (.if_icmp .ne 7, 3) := by decide +kernel
theorem dX5_holds_9 : decode cX5_holds 9 = .ok (.iconst 1, 1) := by decide +kernel
theorem dX5_holds_10 : decode cX5_holds 10 = .ok (.goto 4, 3) := by decide +kernel
theorem dX5_holds_13 : decode cX5_holds 13 = .ok (.iconst 0, 1) := by decide +kernel
theorem dX5_holds_14 : decode cX5_holds 14 = .ok (.ireturn, 1) := by decide +kernel
theorem dX5_countAbove_0 : decode cX5_countAbove 0 = .ok (.aload_n 0, 1) := by decide +kernel
theorem dX5_countAbove_1 : decode cX5_countAbove 1 = .ok (.getfield 22, 3) := by decide +kernel
theorem dX5_countAbove_4 : decode cX5_countAbove 4 = .ok (.iload_n 1, 1) := by decide +kernel
theorem dX5_countAbove_5 : decode cX5_countAbove 5 = .ok (.iaload, 1) := by decide +kernel
theorem dX5_countAbove_6 : decode cX5_countAbove 6 = .ok (.invokestatic 36, 3) := by decide +kernel
theorem dX5_countAbove_9 : decode cX5_countAbove 9 = .ok (.iconst 1, 1) := by decide +kernel
theorem dX5_countAbove_10 : decode cX5_countAbove 10 = .ok (.isub, 1) := by decide +kernel
theorem dX5_countAbove_11 : decode cX5_countAbove 11 = .ok (.ireturn, 1) := by decide +kernel
theorem dX5_countWithin_0 : decode cX5_countWithin 0 = .ok (.aload_n 0, 1) := by decide +kernel
theorem dX5_countWithin_1 : decode cX5_countWithin 1 = .ok (.getfield 25, 3) := by decide +kernel
theorem dX5_countWithin_4 : decode cX5_countWithin 4 = .ok (.iload_n 1, 1) := by decide +kernel
theorem dX5_countWithin_5 : decode cX5_countWithin 5 = .ok (.iaload, 1) := by decide +kernel
theorem dX5_countWithin_6 : decode cX5_countWithin 6 = .ok (.invokestatic 36, 3) := by decide +kernel
theorem dX5_countWithin_9 : decode cX5_countWithin 9 = .ok (.ireturn, 1) := by decide +kernel
theorem dX5_hasChildren_0 : decode cX5_hasChildren 0 = .ok (.aload_n 0, 1) := by decide +kernel
theorem dX5_hasChildren_1 : decode cX5_hasChildren 1 = .ok (.iload_n 1, 1) := by decide +kernel
theorem dX5_hasChildren_2 : decode cX5_hasChildren 2 = .ok (.invokevirtual 42, 3) := by decide +kernel
theorem dX5_hasChildren_5 : decode cX5_hasChildren 5 = .ok (.iconst 1, 1) := by decide +kernel
theorem dX5_hasChildren_6 : decode cX5_hasChildren 6 = .ok (.if_icmp .le 7, 3) := by decide +kernel
theorem dX5_hasChildren_9 : decode cX5_hasChildren 9 = .ok (.iconst 1, 1) := by decide +kernel
theorem dX5_hasChildren_10 : decode cX5_hasChildren 10 = .ok (.goto 4, 3) := by decide +kernel
theorem dX5_hasChildren_13 : decode cX5_hasChildren 13 = .ok (.iconst 0, 1) := by decide +kernel
theorem dX5_hasChildren_14 : decode cX5_hasChildren 14 = .ok (.ireturn, 1) := by decide +kernel
theorem dX5_countLeaves_0 : decode cX5_countLeaves 0 = .ok (.iconst 0, 1) := by decide +kernel
theorem dX5_countLeaves_1 : decode cX5_countLeaves 1 = .ok (.istore_n 2, 1) := by decide +kernel
theorem dX5_countLeaves_2 : decode cX5_countLeaves 2 = .ok (.iload_n 1, 1) := by decide +kernel
theorem dX5_countLeaves_3 : decode cX5_countLeaves 3 = .ok (.istore_n 3, 1) := by decide +kernel
theorem dX5_countLeaves_4 : decode cX5_countLeaves 4 = .ok (.iload_n 3, 1) := by decide +kernel
theorem dX5_countLeaves_5 : decode cX5_countLeaves 5 = .ok (.aload_n 0, 1) := by decide +kernel
theorem dX5_countLeaves_6 : decode cX5_countLeaves 6 = .ok (.getfield 28, 3) := by decide +kernel
theorem dX5_countLeaves_9 : decode cX5_countLeaves 9 = .ok (.if_icmp .ge 33, 3) := by decide +kernel
theorem dX5_countLeaves_12 : decode cX5_countLeaves 12 = .ok (.aload_n 0, 1) := by decide +kernel
theorem dX5_countLeaves_13 : decode cX5_countLeaves 13 = .ok (.getfield 25, 3) := by decide +kernel
theorem dX5_countLeaves_16 : decode cX5_countLeaves 16 = .ok (.iload_n 1, 1) := by decide +kernel
theorem dX5_countLeaves_17 : decode cX5_countLeaves 17 = .ok (.iaload, 1) := by decide +kernel
theorem dX5_countLeaves_18 : decode cX5_countLeaves 18 = .ok (.iload_n 3, 1) := by decide +kernel
theorem dX5_countLeaves_19 : decode cX5_countLeaves 19 = .ok (.invokestatic 32, 3) := by decide +kernel
theorem dX5_countLeaves_22 : decode cX5_countLeaves 22 = .ok (.ifCond .eq 14, 3) := by decide +kernel
theorem dX5_countLeaves_25 : decode cX5_countLeaves 25 = .ok (.aload_n 0, 1) := by decide +kernel
theorem dX5_countLeaves_26 : decode cX5_countLeaves 26 = .ok (.iload_n 3, 1) := by decide +kernel
theorem dX5_countLeaves_27 : decode cX5_countLeaves 27 = .ok (.invokevirtual 45, 3) := by decide +kernel
theorem dX5_countLeaves_30 : decode cX5_countLeaves 30 = .ok (.ifCond .ne 6, 3) := by decide +kernel
theorem dX5_countLeaves_33 : decode cX5_countLeaves 33 = .ok (.iinc 2 1, 3) := by decide +kernel
theorem dX5_countLeaves_36 : decode cX5_countLeaves 36 = .ok (.iinc 3 1, 3) := by decide +kernel
theorem dX5_countLeaves_39 : decode cX5_countLeaves 39 = .ok (.goto (-35), 3) := by decide +kernel
theorem dX5_countLeaves_42 : decode cX5_countLeaves 42 = .ok (.iload_n 2, 1) := by decide +kernel
theorem dX5_countLeaves_43 : decode cX5_countLeaves 43 = .ok (.ireturn, 1) := by decide +kernel
theorem dX5_withinAt_0 : decode cX5_withinAt 0 = .ok (.iload_n 1, 1) := by decide +kernel
theorem dX5_withinAt_1 : decode cX5_withinAt 1 = .ok (.istore_n 3, 1) := by decide +kernel
theorem dX5_withinAt_2 : decode cX5_withinAt 2 = .ok (.iload_n 2, 1) := by decide +kernel
theorem dX5_withinAt_3 : decode cX5_withinAt 3 = .ok (.istore 4, 2) := by decide +kernel
theorem dX5_withinAt_5 : decode cX5_withinAt 5 = .ok (.iload_n 1, 1) := by decide +kernel
theorem dX5_withinAt_6 : decode cX5_withinAt 6 = .ok (.iconst 1, 1) := by decide +kernel
theorem dX5_withinAt_7 : decode cX5_withinAt 7 = .ok (.iadd, 1) := by decide +kernel
theorem dX5_withinAt_8 : decode cX5_withinAt 8 = .ok (.istore 5, 2) := by decide +kernel
theorem dX5_withinAt_10 : decode cX5_withinAt 10 = .ok (.iload 5, 2) := by decide +kernel
theorem dX5_withinAt_12 : decode cX5_withinAt 12 = .ok (.aload_n 0, 1) := by decide +kernel
theorem dX5_withinAt_13 : decode cX5_withinAt 13 = .ok (.getfield 28, 3) := by decide +kernel
theorem dX5_withinAt_16 : decode cX5_withinAt 16 = .ok (.if_icmp .ge 56, 3) := by decide +kernel
theorem dX5_withinAt_19 : decode cX5_withinAt 19 = .ok (.iload 4, 2) := by decide +kernel
theorem dX5_withinAt_21 : decode cX5_withinAt 21 = .ok (.ifCond .le 51, 3) := by decide +kernel
theorem dX5_withinAt_24 : decode cX5_withinAt 24 = .ok (.aload_n 0, 1) := by decide +kernel
theorem dX5_withinAt_25 : decode cX5_withinAt 25 = .ok (.getfield 9, 3) := by decide +kernel
theorem dX5_withinAt_28 : decode cX5_withinAt 28 = .ok (.iload 5, 2) := by decide +kernel
theorem dX5_withinAt_30 : decode cX5_withinAt 30 = .ok (.iaload, 1) := by decide +kernel
theorem dX5_withinAt_31 : decode cX5_withinAt 31 = .ok (.iload_n 3, 1) := by decide +kernel
theorem dX5_withinAt_32 : decode cX5_withinAt 32 = .ok (.if_icmp .ne 34, 3) := by decide +kernel
theorem dX5_withinAt_35 : decode cX5_withinAt 35 = .ok (.aload_n 0, 1) := by decide +kernel
theorem dX5_withinAt_36 : decode cX5_withinAt 36 = .ok (.iload 5, 2) := by decide +kernel
theorem dX5_withinAt_38 : decode cX5_withinAt 38 = .ok (.invokevirtual 42, 3) := by decide +kernel
theorem dX5_withinAt_41 : decode cX5_withinAt 41 = .ok (.istore 6, 2) := by decide +kernel
theorem dX5_withinAt_43 : decode cX5_withinAt 43 = .ok (.iload 4, 2) := by decide +kernel
theorem dX5_withinAt_45 : decode cX5_withinAt 45 = .ok (.iload 6, 2) := by decide +kernel
theorem dX5_withinAt_47 : decode cX5_withinAt 47 = .ok (.if_icmp .gt 12, 3) := by decide +kernel
theorem dX5_withinAt_50 : decode cX5_withinAt 50 = .ok (.iload 5, 2) := by decide +kernel
theorem dX5_withinAt_52 : decode cX5_withinAt 52 = .ok (.istore_n 3, 1) := by decide +kernel
theorem dX5_withinAt_53 : decode cX5_withinAt 53 = .ok (.iinc 4 (-1), 3) := by decide +kernel
theorem dX5_withinAt_56 : decode cX5_withinAt 56 = .ok (.goto 10, 3) := by decide +kernel
theorem dX5_withinAt_59 : decode cX5_withinAt 59 = .ok (.iload 4, 2) := by decide +kernel
theorem dX5_withinAt_61 : decode cX5_withinAt 61 = .ok (.iload 6, 2) := by decide +kernel
theorem dX5_withinAt_63 : decode cX5_withinAt 63 = .ok (.isub, 1) := by decide +kernel
theorem dX5_withinAt_64 : decode cX5_withinAt 64 = .ok (.istore 4, 2) := by decide +kernel
theorem dX5_withinAt_66 : decode cX5_withinAt 66 = .ok (.iinc 5 1, 3) := by decide +kernel
theorem dX5_withinAt_69 : decode cX5_withinAt 69 = .ok (.goto (-59), 3) := by decide +kernel
theorem dX5_withinAt_72 : decode cX5_withinAt 72 = .ok (.iload_n 3, 1) := by decide +kernel
theorem dX5_withinAt_73 : decode cX5_withinAt 73 = .ok (.ireturn, 1) := by decide +kernel
theorem dX5_onPath_0 : decode cX5_onPath 0 = .ok (.iload_n 2, 1) := by decide +kernel
theorem dX5_onPath_1 : decode cX5_onPath 1 = .ok (.istore_n 3, 1) := by decide +kernel
theorem dX5_onPath_2 : decode cX5_onPath 2 = .ok (.iconst 0, 1) := by decide +kernel
theorem dX5_onPath_3 : decode cX5_onPath 3 = .ok (.istore 4, 2) := by decide +kernel
theorem dX5_onPath_5 : decode cX5_onPath 5 = .ok (.iload 4, 2) := by decide +kernel
theorem dX5_onPath_7 : decode cX5_onPath 7 = .ok (.iload_n 1, 1) := by decide +kernel
theorem dX5_onPath_8 : decode cX5_onPath 8 = .ok (.if_icmp .ge 33, 3) := by decide +kernel
theorem dX5_onPath_11 : decode cX5_onPath 11 = .ok (.aload_n 0, 1) := by decide +kernel
theorem dX5_onPath_12 : decode cX5_onPath 12 = .ok (.getfield 22, 3) := by decide +kernel
theorem dX5_onPath_15 : decode cX5_onPath 15 = .ok (.iload_n 1, 1) := by decide +kernel
theorem dX5_onPath_16 : decode cX5_onPath 16 = .ok (.iaload, 1) := by decide +kernel
theorem dX5_onPath_17 : decode cX5_onPath 17 = .ok (.iload 4, 2) := by decide +kernel
theorem dX5_onPath_19 : decode cX5_onPath 19 = .ok (.invokestatic 32, 3) := by decide +kernel
theorem dX5_onPath_22 : decode cX5_onPath 22 = .ok (.ifCond .eq 13, 3) := by decide +kernel
theorem dX5_onPath_25 : decode cX5_onPath 25 = .ok (.iload_n 3, 1) := by decide +kernel
theorem dX5_onPath_26 : decode cX5_onPath 26 = .ok (.ifCond .ne 6, 3) := by decide +kernel
theorem dX5_onPath_29 : decode cX5_onPath 29 = .ok (.iload 4, 2) := by decide +kernel
theorem dX5_onPath_31 : decode cX5_onPath 31 = .ok (.ireturn, 1) := by decide +kernel
theorem dX5_onPath_32 : decode cX5_onPath 32 = .ok (.iinc 3 (-1), 3) := by decide +kernel
theorem dX5_onPath_35 : decode cX5_onPath 35 = .ok (.iinc 4 1, 3) := by decide +kernel
theorem dX5_onPath_38 : decode cX5_onPath 38 = .ok (.goto (-33), 3) := by decide +kernel
theorem dX5_onPath_41 : decode cX5_onPath 41 = .ok (.iload_n 1, 1) := by decide +kernel
theorem dX5_onPath_42 : decode cX5_onPath 42 = .ok (.ireturn, 1) := by decide +kernel
theorem dX6_init_0 : decode cX6_init 0 = .ok (.aload_n 0, 1) := by decide +kernel
theorem dX6_init_1 : decode cX6_init 1 = .ok (.invokespecial 1, 3) := by decide +kernel
theorem dX6_init_4 : decode cX6_init 4 = .ok (.aload_n 0, 1) := by decide +kernel
theorem dX6_init_5 : decode cX6_init 5 = .ok (.new 7, 3) := by decide +kernel
theorem dX6_init_8 : decode cX6_init 8 = .ok (.dup, 1) := by decide +kernel
theorem dX6_init_9 : decode cX6_init 9 = .ok (.invokespecial 9, 3) := by decide +kernel
theorem dX6_init_12 : decode cX6_init 12 = .ok (.putfield 10, 3) := by decide +kernel
theorem dX6_init_15 : decode cX6_init 15 = .ok (.aload_n 0, 1) := by decide +kernel
theorem dX6_init_16 : decode cX6_init 16 = .ok (.new 16, 3) := by decide +kernel
theorem dX6_init_19 : decode cX6_init 19 = .ok (.dup, 1) := by decide +kernel
theorem dX6_init_20 : decode cX6_init 20 = .ok (.invokespecial 18, 3) := by decide +kernel
theorem dX6_init_23 : decode cX6_init 23 = .ok (.putfield 19, 3) := by decide +kernel
theorem dX6_init_26 : decode cX6_init 26 = .ok (.aload_n 0, 1) := by decide +kernel
theorem dX6_init_27 : decode cX6_init 27 = .ok (.new 23, 3) := by decide +kernel
theorem dX6_init_30 : decode cX6_init 30 = .ok (.dup, 1) := by decide +kernel
theorem dX6_init_31 : decode cX6_init 31 = .ok (.invokespecial 25, 3) := by decide +kernel
theorem dX6_init_34 : decode cX6_init 34 = .ok (.putfield 26, 3) := by decide +kernel
theorem dX6_init_37 : decode cX6_init 37 = .ok (.aload_n 0, 1) := by decide +kernel
theorem dX6_init_38 : decode cX6_init 38 = .ok (.new 30, 3) := by decide +kernel
theorem dX6_init_41 : decode cX6_init 41 = .ok (.dup, 1) := by decide +kernel
theorem dX6_init_42 : decode cX6_init 42 = .ok (.invokespecial 32, 3) := by decide +kernel
theorem dX6_init_45 : decode cX6_init 45 = .ok (.putfield 33, 3) := by decide +kernel
theorem dX6_init_48 : decode cX6_init 48 = .ok (.aload_n 0, 1) := by decide +kernel
theorem dX6_init_49 : decode cX6_init 49 = .ok (.new 37, 3) := by decide +kernel
theorem dX6_init_52 : decode cX6_init 52 = .ok (.dup, 1) := by decide +kernel
theorem dX6_init_53 : decode cX6_init 53 = .ok (.invokespecial 39, 3) := by decide +kernel
theorem dX6_init_56 : decode cX6_init 56 = .ok (.putfield 40, 3) := by decide +kernel
theorem dX6_init_59 : decode cX6_init 59 = .ok (.aload_n 0, 1) := by decide +kernel
theorem dX6_init_60 : decode cX6_init 60 = .ok (.new 44, 3) := by decide +kernel
theorem dX6_init_63 : decode cX6_init 63 = .ok (.dup, 1) := by decide +kernel
theorem dX6_init_64 : decode cX6_init 64 = .ok (.invokespecial 46, 3) := by decide +kernel
theorem dX6_init_67 : decode cX6_init 67 = .ok (.putfield 47, 3) := by decide +kernel
theorem dX6_init_70 : decode cX6_init 70 = .ok (.aload_n 0, 1) := by decide +kernel
theorem dX6_init_71 : decode cX6_init 71 = .ok (.new 44, 3) := by decide +kernel
theorem dX6_init_74 : decode cX6_init 74 = .ok (.dup, 1) := by decide +kernel
theorem dX6_init_75 : decode cX6_init 75 = .ok (.invokespecial 46, 3) := by decide +kernel
theorem dX6_init_78 : decode cX6_init 78 = .ok (.putfield 51, 3) := by decide +kernel
theorem dX6_init_81 : decode cX6_init 81 = .ok (.aload_n 0, 1) := by decide +kernel
theorem dX6_init_82 : decode cX6_init 82 = .ok (.iconst 0, 1) := by decide +kernel
theorem dX6_init_83 : decode cX6_init 83 = .ok (.putfield 54, 3) := by decide +kernel
theorem dX6_init_86 : decode cX6_init 86 = .ok (.return_, 1) := by decide +kernel
theorem dX6_addComponent_0 : decode cX6_addComponent 0 = .ok (.iload_n 1, 1) := by decide +kernel
theorem dX6_addComponent_1 : decode cX6_addComponent 1 = .ok (.iconst (-1), 1) := by decide +kernel
theorem dX6_addComponent_2 : decode cX6_addComponent 2 = .ok (.if_icmp .eq 8, 3) := by decide +kernel
theorem dX6_addComponent_5 : decode cX6_addComponent 5 = .ok (.aload_n 0, 1) := by decide +kernel
theorem dX6_addComponent_6 : decode cX6_addComponent 6 = .ok (.iload_n 1, 1) := by decide +kernel
theorem dX6_addComponent_7 : decode cX6_addComponent 7 = .ok (.invokevirtual 58, 3) := by decide +kernel
theorem dX6_addComponent_10 : decode cX6_addComponent 10 = .ok (.iload_n 2, 1) := by decide +kernel
theorem dX6_addComponent_11 : decode cX6_addComponent 11 = .ok (.invokestatic 62, 3) := by decide +kernel
theorem dX6_addComponent_14 : decode cX6_addComponent 14 = .ok (.iload_n 3, 1) := by decide +kernel
theorem dX6_addComponent_15 : decode cX6_addComponent 15 = .ok (.bipush 119, 2) := by decide +kernel
theorem dX6_addComponent_17 : decode cX6_addComponent 17 = .ok (.if_icmp .eq 19, 3) := by decide +kernel
theorem dX6_addComponent_20 : decode cX6_addComponent 20 = .ok (.iload_n 3, 1) := by decide +kernel
theorem dX6_addComponent_21 : decode cX6_addComponent 21 = .ok (.bipush 115, 2) := by decide +kernel
theorem dX6_addComponent_23 : decode cX6_addComponent 23 = .ok (.if_icmp .eq 13, 3) := by decide +kernel
theorem dX6_addComponent_26 : decode cX6_addComponent 26 = .ok (.new 65, 3) := by decide +kernel
theorem dX6_addComponent_29 : decode cX6_addComponent 29 = .ok (.dup, 1) := by decide +kernel
theorem dX6_addComponent_30 : decode cX6_addComponent 30 = .ok (.ldc 67, 2) := by decide +kernel
theorem dX6_addComponent_32 : decode cX6_addComponent 32 = .ok (.invokespecial 69, 3) := by decide +kernel
theorem dX6_addComponent_35 : decode cX6_addComponent 35 = .ok (.athrow, 1) := by decide +kernel
theorem dX6_addComponent_36 : decode cX6_addComponent 36 = .ok (.iload_n 1, 1) := by decide +kernel
theorem dX6_addComponent_37 : decode cX6_addComponent 37 = .ok (.iconst (-1), 1) := by decide +kernel
theorem dX6_addComponent_38 : decode cX6_addComponent 38 = .ok (.if_icmp .eq 24, 3) := by decide +kernel
theorem dX6_addComponent_41 : decode cX6_addComponent 41 = .ok (.aload_n 0, 1) := by decide +kernel
theorem dX6_addComponent_42 : decode cX6_addComponent 42 = .ok (.getfield 26, 3) := by decide +kernel
theorem dX6_addComponent_45 : decode cX6_addComponent 45 = .ok (.iload_n 1, 1) := by decide +kernel
theorem dX6_addComponent_46 : decode cX6_addComponent 46 = .ok (.invokevirtual 72, 3) := by decide +kernel
theorem dX6_addComponent_49 : decode cX6_addComponent 49 = .ok (.ifCond .eq 13, 3) := by decide +kernel
theorem dX6_addComponent_52 : decode cX6_addComponent 52 = .ok (.new 76, 3) := by decide +kernel
theorem dX6_addComponent_55 : decode cX6_addComponent 55 = .ok (.dup, 1) := by decide +kernel
theorem dX6_addComponent_56 : decode cX6_addComponent 56 = .ok (.ldc 78, 2) := by decide +kernel
theorem dX6_addComponent_58 : decode cX6_addComponent 58 = .ok (.invokespecial 80, 3) := by decide +kernel
theorem dX6_addComponent_61 : decode cX6_addComponent 61 = .ok (.athrow, 1) := by decide +kernel
theorem dX6_addComponent_62 : decode cX6_addComponent 62 = .ok (.aload_n 0, 1) := by decide +kernel
theorem dX6_addComponent_63 : decode cX6_addComponent 63 = .ok (.getfield 10, 3) := by decide +kernel
theorem dX6_addComponent_66 : decode cX6_addComponent 66 = .ok (.getfield 81, 3) := by decide +kernel
theorem dX6_addComponent_69 : decode cX6_addComponent 69 = .ok (.bipush 12, 2) := by decide +kernel
theorem dX6_addComponent_71 : decode cX6_addComponent 71 = .ok (.if_icmp .lt 13, 3) := by decide +kernel
theorem dX6_addComponent_74 : decode cX6_addComponent 74 = .ok (.new 84, 3) := by decide +kernel
theorem dX6_addComponent_77 : decode cX6_addComponent 77 = .ok (.dup, 1) := by decide +kernel
theorem dX6_addComponent_78 : decode cX6_addComponent 78 = .ok (.ldc 86, 2) := by decide +kernel
theorem dX6_addComponent_80 : decode cX6_addComponent 80 = .ok (.invokespecial 88, 3) := by decide +kernel
theorem dX6_addComponent_83 : decode cX6_addComponent 83 = .ok (.athrow, 1) := by decide +kernel
theorem dX6_addComponent_84 : decode cX6_addComponent 84 = .ok (.aload_n 0, 1) := by decide +kernel
theorem dX6_addComponent_85 : decode cX6_addComponent 85 = .ok (.getfield 10, 3) := by decide +kernel
theorem dX6_addComponent_88 : decode cX6_addComponent 88 = .ok (.iload_n 1, 1) := by decide +kernel
theorem dX6_addComponent_89 : decode cX6_addComponent 89 = .ok (.iload_n 2, 1) := by decide +kernel
theorem dX6_addComponent_90 : decode cX6_addComponent 90 = .ok (.iload_n 3, 1) := by decide +kernel
theorem dX6_addComponent_91 : decode cX6_addComponent 91 = .ok (.invokevirtual 89, 3) := by decide +kernel
theorem dX6_addComponent_94 : decode cX6_addComponent 94 = .ok (.ireturn, 1) := by decide +kernel
theorem dX6_setWeight_0 : decode cX6_setWeight 0 = .ok (.aload_n 0, 1) := by decide +kernel
theorem dX6_setWeight_1 : decode cX6_setWeight 1 = .ok (.iload_n 1, 1) := by decide +kernel
theorem dX6_setWeight_2 : decode cX6_setWeight 2 = .ok (.invokevirtual 58, 3) := by decide +kernel
theorem dX6_setWeight_5 : decode cX6_setWeight 5 = .ok (.iload_n 2, 1) := by decide +kernel
theorem dX6_setWeight_6 : decode cX6_setWeight 6 = .ok (.invokestatic 62, 3) := by decide +kernel
theorem dX6_setWeight_9 : decode cX6_setWeight 9 = .ok (.aload_n 0, 1) := by decide +kernel
theorem dX6_setWeight_10 : decode cX6_setWeight 10 = .ok (.getfield 10, 3) := by decide +kernel
theorem dX6_setWeight_13 : decode cX6_setWeight 13 = .ok (.getfield 93, 3) := by decide +kernel
theorem dX6_setWeight_16 : decode cX6_setWeight 16 = .ok (.iload_n 1, 1) := by decide +kernel
theorem dX6_setWeight_17 : decode cX6_setWeight 17 = .ok (.iaload, 1) := by decide +kernel
theorem dX6_setWeight_18 : decode cX6_setWeight 18 = .ok (.istore_n 3, 1) := by decide +kernel
theorem dX6_setWeight_19 : decode cX6_setWeight 19 = .ok (.aload_n 0, 1) := by decide +kernel
theorem dX6_setWeight_20 : decode cX6_setWeight 20 = .ok (.getfield 10, 3) := by decide +kernel
theorem dX6_setWeight_23 : decode cX6_setWeight 23 = .ok (.getfield 93, 3) := by decide +kernel
theorem dX6_setWeight_26 : decode cX6_setWeight 26 = .ok (.iload_n 1, 1) := by decide +kernel
theorem dX6_setWeight_27 : decode cX6_setWeight 27 = .ok (.iload_n 2, 1) := by decide +kernel
theorem dX6_setWeight_28 : decode cX6_setWeight 28 = .ok (.iastore, 1) := by decide +kernel
theorem dX6_setWeight_29 : decode cX6_setWeight 29 = .ok (.iload_n 3, 1) := by decide +kernel
theorem dX6_setWeight_30 : decode cX6_setWeight 30 = .ok (.ireturn, 1) := by decide +kernel
theorem dX6_addPerson_0 : decode cX6_addPerson 0 = .ok (.iload_n 1, 1) := by decide +kernel
theorem dX6_addPerson_1 : decode cX6_addPerson 1 = .ok (.invokestatic 97, 3) := by decide +kernel
theorem dX6_addPerson_4 : decode cX6_addPerson 4 = .ok (.aload_n 0, 1) := by decide +kernel
theorem dX6_addPerson_5 : decode cX6_addPerson 5 = .ok (.getfield 19, 3) := by decide +kernel
theorem dX6_addPerson_8 : decode cX6_addPerson 8 = .ok (.getfield 100, 3) := by decide +kernel
theorem dX6_addPerson_11 : decode cX6_addPerson 11 = .ok (.bipush 6, 2) := by decide +kernel
theorem dX6_addPerson_13 : decode cX6_addPerson 13 = .ok (.if_icmp .lt 13, 3) := by decide +kernel
theorem dX6_addPerson_16 : decode cX6_addPerson 16 = .ok (.new 84, 3) := by decide +kernel
theorem dX6_addPerson_19 : decode cX6_addPerson 19 = .ok (.dup, 1) := by decide +kernel
theorem dX6_addPerson_20 : decode cX6_addPerson 20 = .ok (.ldc 101, 2) := by decide +kernel
theorem dX6_addPerson_22 : decode cX6_addPerson 22 = .ok (.invokespecial 88, 3) := by decide +kernel
theorem dX6_addPerson_25 : decode cX6_addPerson 25 = .ok (.athrow, 1) := by decide +kernel
theorem dX6_addPerson_26 : decode cX6_addPerson 26 = .ok (.aload_n 0, 1) := by decide +kernel
theorem dX6_addPerson_27 : decode cX6_addPerson 27 = .ok (.getfield 19, 3) := by decide +kernel
theorem dX6_addPerson_30 : decode cX6_addPerson 30 = .ok (.iload_n 1, 1) := by decide +kernel
theorem dX6_addPerson_31 : decode cX6_addPerson 31 = .ok (.invokevirtual 103, 3) := by decide +kernel
theorem dX6_addPerson_34 : decode cX6_addPerson 34 = .ok (.ireturn, 1) := by decide +kernel
theorem dX6_subscribe_0 : decode cX6_subscribe 0 = .ok (.aload_n 0, 1) := by decide +kernel
theorem dX6_subscribe_1 : decode cX6_subscribe 1 = .ok (.iload_n 1, 1) := by decide +kernel
theorem dX6_subscribe_2 : decode cX6_subscribe 2 = .ok (.invokevirtual 106, 3) := by decide +kernel
theorem dX6_subscribe_5 : decode cX6_subscribe 5 = .ok (.aload_n 0, 1) := by decide +kernel
theorem dX6_subscribe_6 : decode cX6_subscribe 6 = .ok (.iload_n 2, 1) := by decide +kernel
theorem dX6_subscribe_7 : decode cX6_subscribe 7 = .ok (.invokevirtual 58, 3) := by decide +kernel
theorem dX6_subscribe_10 : decode cX6_subscribe 10 = .ok (.aload_n 0, 1) := by decide +kernel
theorem dX6_subscribe_11 : decode cX6_subscribe 11 = .ok (.getfield 19, 3) := by decide +kernel
theorem dX6_subscribe_14 : decode cX6_subscribe 14 = .ok (.iload_n 1, 1) := by decide +kernel
theorem dX6_subscribe_15 : decode cX6_subscribe 15 = .ok (.iload_n 2, 1) := by decide +kernel
theorem dX6_subscribe_16 : decode cX6_subscribe 16 = .ok (.invokevirtual 109, 3) := by decide +kernel
theorem dX6_subscribe_19 : decode cX6_subscribe 19 = .ok (.ifCond .eq 13, 3) := by decide +kernel
theorem dX6_subscribe_22 : decode cX6_subscribe 22 = .ok (.new 84, 3) := by decide +kernel
theorem dX6_subscribe_25 : decode cX6_subscribe 25 = .ok (.dup, 1) := by decide +kernel
theorem dX6_subscribe_26 : decode cX6_subscribe 26 = .ok (.ldc 113, 2) := by decide +kernel
theorem dX6_subscribe_28 : decode cX6_subscribe 28 = .ok (.invokespecial 88, 3) := by decide +kernel
theorem dX6_subscribe_31 : decode cX6_subscribe 31 = .ok (.athrow, 1) := by decide +kernel
theorem dX6_subscribe_32 : decode cX6_subscribe 32 = .ok (.aload_n 0, 1) := by decide +kernel
theorem dX6_subscribe_33 : decode cX6_subscribe 33 = .ok (.getfield 19, 3) := by decide +kernel
theorem dX6_subscribe_36 : decode cX6_subscribe 36 = .ok (.iload_n 1, 1) := by decide +kernel
theorem dX6_subscribe_37 : decode cX6_subscribe 37 = .ok (.iload_n 2, 1) := by decide +kernel
theorem dX6_subscribe_38 : decode cX6_subscribe 38 = .ok (.invokevirtual 115, 3) := by decide +kernel
theorem dX6_subscribe_41 : decode cX6_subscribe 41 = .ok (.aload_n 0, 1) := by decide +kernel
theorem dX6_subscribe_42 : decode cX6_subscribe 42 = .ok (.getfield 19, 3) := by decide +kernel
theorem dX6_subscribe_45 : decode cX6_subscribe 45 = .ok (.iload_n 1, 1) := by decide +kernel
theorem dX6_subscribe_46 : decode cX6_subscribe 46 = .ok (.invokevirtual 119, 3) := by decide +kernel
theorem dX6_subscribe_49 : decode cX6_subscribe 49 = .ok (.ireturn, 1) := by decide +kernel
theorem dX6_unsubscribe_0 : decode cX6_unsubscribe 0 = .ok (.aload_n 0, 1) := by decide +kernel
theorem dX6_unsubscribe_1 : decode cX6_unsubscribe 1 = .ok (.iload_n 1, 1) := by decide +kernel
theorem dX6_unsubscribe_2 : decode cX6_unsubscribe 2 = .ok (.invokevirtual 106, 3) := by decide +kernel
theorem dX6_unsubscribe_5 : decode cX6_unsubscribe 5 = .ok (.aload_n 0, 1) := by decide +kernel
theorem dX6_unsubscribe_6 : decode cX6_unsubscribe 6 = .ok (.iload_n 2, 1) := by decide +kernel
theorem dX6_unsubscribe_7 : decode cX6_unsubscribe 7 = .ok (.invokevirtual 58, 3) := by decide +kernel
theorem dX6_unsubscribe_10 : decode cX6_unsubscribe 10 = .ok (.aload_n 0, 1) := by decide +kernel
theorem dX6_unsubscribe_11 : decode cX6_unsubscribe 11 = .ok (.getfield 19, 3) := by decide +kernel
theorem dX6_unsubscribe_14 : decode cX6_unsubscribe 14 = .ok (.iload_n 1, 1) := by decide +kernel
theorem dX6_unsubscribe_15 : decode cX6_unsubscribe 15 = .ok (.iload_n 2, 1) := by decide +kernel
theorem dX6_unsubscribe_16 : decode cX6_unsubscribe 16 = .ok (.invokevirtual 109, 3) := by decide +kernel
theorem dX6_unsubscribe_19 : decode cX6_unsubscribe 19 = .ok (.ifCond .ne 13, 3) := by decide +kernel
theorem dX6_unsubscribe_22 : decode cX6_unsubscribe 22 = .ok (.new 84, 3) := by decide +kernel
theorem dX6_unsubscribe_25 : decode cX6_unsubscribe 25 = .ok (.dup, 1) := by decide +kernel
theorem dX6_unsubscribe_26 : decode cX6_unsubscribe 26 = .ok (.ldc 122, 2) := by decide +kernel
theorem dX6_unsubscribe_28 : decode cX6_unsubscribe 28 = .ok (.invokespecial 88, 3) := by decide +kernel
theorem dX6_unsubscribe_31 : decode cX6_unsubscribe 31 = .ok (.athrow, 1) := by decide +kernel
theorem dX6_unsubscribe_32 : decode cX6_unsubscribe 32 = .ok (.aload_n 0, 1) := by decide +kernel
theorem dX6_unsubscribe_33 : decode cX6_unsubscribe 33 = .ok (.getfield 19, 3) := by decide +kernel
theorem dX6_unsubscribe_36 : decode cX6_unsubscribe 36 = .ok (.iload_n 1, 1) := by decide +kernel
theorem dX6_unsubscribe_37 : decode cX6_unsubscribe 37 = .ok (.iload_n 2, 1) := by decide +kernel
theorem dX6_unsubscribe_38 : decode cX6_unsubscribe 38 = .ok (.invokevirtual 115, 3) := by decide +kernel
theorem dX6_unsubscribe_41 : decode cX6_unsubscribe 41 = .ok (.aload_n 0, 1) := by decide +kernel
theorem dX6_unsubscribe_42 : decode cX6_unsubscribe 42 = .ok (.getfield 19, 3) := by decide +kernel
theorem dX6_unsubscribe_45 : decode cX6_unsubscribe 45 = .ok (.iload_n 1, 1) := by decide +kernel
theorem dX6_unsubscribe_46 : decode cX6_unsubscribe 46 = .ok (.invokevirtual 119, 3) := by decide +kernel
theorem dX6_unsubscribe_49 : decode cX6_unsubscribe 49 = .ok (.ireturn, 1) := by decide +kernel
theorem dX6_report_0 : decode cX6_report 0 = .ok (.aload_n 0, 1) := by decide +kernel
theorem dX6_report_1 : decode cX6_report 1 = .ok (.iload_n 1, 1) := by decide +kernel
theorem dX6_report_2 : decode cX6_report 2 = .ok (.invokevirtual 58, 3) := by decide +kernel
theorem dX6_report_5 : decode cX6_report 5 = .ok (.iload_n 2, 1) := by decide +kernel
theorem dX6_report_6 : decode cX6_report 6 = .ok (.invokestatic 97, 3) := by decide +kernel
theorem dX6_report_9 : decode cX6_report 9 = .ok (.iload_n 3, 1) := by decide +kernel
theorem dX6_report_10 : decode cX6_report 10 = .ok (.iconst 0, 1) := by decide +kernel
theorem dX6_report_11 : decode cX6_report 11 = .ok (.aload_n 0, 1) := by decide +kernel
theorem dX6_report_12 : decode cX6_report 12 = .ok (.getfield 54, 3) := by decide +kernel
theorem dX6_report_15 : decode cX6_report 15 = .ok (.invokestatic 124, 3) := by decide +kernel
theorem dX6_report_18 : decode cX6_report 18 = .ok (.aload_n 0, 1) := by decide +kernel
theorem dX6_report_19 : decode cX6_report 19 = .ok (.getfield 10, 3) := by decide +kernel
theorem dX6_report_22 : decode cX6_report 22 = .ok (.iload_n 1, 1) := by decide +kernel
theorem dX6_report_23 : decode cX6_report 23 = .ok (.invokevirtual 128, 3) := by decide +kernel
theorem dX6_report_26 : decode cX6_report 26 = .ok (.ifCond .eq 13, 3) := by decide +kernel
theorem dX6_report_29 : decode cX6_report 29 = .ok (.new 76, 3) := by decide +kernel
theorem dX6_report_32 : decode cX6_report 32 = .ok (.dup, 1) := by decide +kernel
theorem dX6_report_33 : decode cX6_report 33 = .ok (.ldc 131, 2) := by decide +kernel
theorem dX6_report_35 : decode cX6_report 35 = .ok (.invokespecial 80, 3) := by decide +kernel
theorem dX6_report_38 : decode cX6_report 38 = .ok (.athrow, 1) := by decide +kernel
theorem dX6_report_39 : decode cX6_report 39 = .ok (.aload_n 0, 1) := by decide +kernel
theorem dX6_report_40 : decode cX6_report 40 = .ok (.getfield 26, 3) := by decide +kernel
theorem dX6_report_43 : decode cX6_report 43 = .ok (.getfield 133, 3) := by decide +kernel
theorem dX6_report_46 : decode cX6_report 46 = .ok (.bipush 20, 2) := by decide +kernel
theorem dX6_report_48 : decode cX6_report 48 = .ok (.if_icmp .lt 13, 3) := by decide +kernel
theorem dX6_report_51 : decode cX6_report 51 = .ok (.new 84, 3) := by decide +kernel
theorem dX6_report_54 : decode cX6_report 54 = .ok (.dup, 1) := by decide +kernel
theorem dX6_report_55 : decode cX6_report 55 = .ok (.ldc 134, 2) := by decide +kernel
theorem dX6_report_57 : decode cX6_report 57 = .ok (.invokespecial 88, 3) := by decide +kernel
theorem dX6_report_60 : decode cX6_report 60 = .ok (.athrow, 1) := by decide +kernel
theorem dX6_report_61 : decode cX6_report 61 = .ok (.aload_n 0, 1) := by decide +kernel
theorem dX6_report_62 : decode cX6_report 62 = .ok (.getfield 47, 3) := by decide +kernel
theorem dX6_report_65 : decode cX6_report 65 = .ok (.aload_n 0, 1) := by decide +kernel
theorem dX6_report_66 : decode cX6_report 66 = .ok (.getfield 10, 3) := by decide +kernel
theorem dX6_report_69 : decode cX6_report 69 = .ok (.aload_n 0, 1) := by decide +kernel
theorem dX6_report_70 : decode cX6_report 70 = .ok (.getfield 26, 3) := by decide +kernel
theorem dX6_report_73 : decode cX6_report 73 = .ok (.aload_n 0, 1) := by decide +kernel
theorem dX6_report_74 : decode cX6_report 74 = .ok (.getfield 54, 3) := by decide +kernel
theorem dX6_report_77 : decode cX6_report 77 = .ok (.invokevirtual 136, 3) := by decide +kernel
theorem dX6_report_80 : decode cX6_report 80 = .ok (.aload_n 0, 1) := by decide +kernel
theorem dX6_report_81 : decode cX6_report 81 = .ok (.getfield 26, 3) := by decide +kernel
theorem dX6_report_84 : decode cX6_report 84 = .ok (.iload_n 1, 1) := by decide +kernel
theorem dX6_report_85 : decode cX6_report 85 = .ok (.iload_n 2, 1) := by decide +kernel
theorem dX6_report_86 : decode cX6_report 86 = .ok (.iload_n 3, 1) := by decide +kernel
theorem dX6_report_87 : decode cX6_report 87 = .ok (.invokevirtual 140, 3) := by decide +kernel
theorem dX6_report_90 : decode cX6_report 90 = .ok (.istore 4, 2) := by decide +kernel
theorem dX6_report_92 : decode cX6_report 92 = .ok (.aload_n 0, 1) := by decide +kernel
theorem dX6_report_93 : decode cX6_report 93 = .ok (.invokevirtual 143, 3) := by decide +kernel
theorem dX6_report_96 : decode cX6_report 96 = .ok (.iload 4, 2) := by decide +kernel
theorem dX6_report_98 : decode cX6_report 98 = .ok (.ireturn, 1) := by decide +kernel
theorem dX6_resolve_0 : decode cX6_resolve 0 = .ok (.aload_n 0, 1) := by decide +kernel
theorem dX6_resolve_1 : decode cX6_resolve 1 = .ok (.iload_n 1, 1) := by decide +kernel
theorem dX6_resolve_2 : decode cX6_resolve 2 = .ok (.invokevirtual 146, 3) := by decide +kernel
theorem dX6_resolve_5 : decode cX6_resolve 5 = .ok (.aload_n 0, 1) := by decide +kernel
theorem dX6_resolve_6 : decode cX6_resolve 6 = .ok (.getfield 26, 3) := by decide +kernel
theorem dX6_resolve_9 : decode cX6_resolve 9 = .ok (.iload_n 1, 1) := by decide +kernel
theorem dX6_resolve_10 : decode cX6_resolve 10 = .ok (.invokevirtual 149, 3) := by decide +kernel
theorem dX6_resolve_13 : decode cX6_resolve 13 = .ok (.ifCond .ne 13, 3) := by decide +kernel
theorem dX6_resolve_16 : decode cX6_resolve 16 = .ok (.new 84, 3) := by decide +kernel
theorem dX6_resolve_19 : decode cX6_resolve 19 = .ok (.dup, 1) := by decide +kernel
theorem dX6_resolve_20 : decode cX6_resolve 20 = .ok (.ldc 152, 2) := by decide +kernel
theorem dX6_resolve_22 : decode cX6_resolve 22 = .ok (.invokespecial 88, 3) := by decide +kernel
theorem dX6_resolve_25 : decode cX6_resolve 25 = .ok (.athrow, 1) := by decide +kernel
theorem dX6_resolve_26 : decode cX6_resolve 26 = .ok (.aload_n 0, 1) := by decide +kernel
theorem dX6_resolve_27 : decode cX6_resolve 27 = .ok (.getfield 26, 3) := by decide +kernel
theorem dX6_resolve_30 : decode cX6_resolve 30 = .ok (.getfield 154, 3) := by decide +kernel
theorem dX6_resolve_33 : decode cX6_resolve 33 = .ok (.iload_n 1, 1) := by decide +kernel
theorem dX6_resolve_34 : decode cX6_resolve 34 = .ok (.iaload, 1) := by decide +kernel
theorem dX6_resolve_35 : decode cX6_resolve 35 = .ok (.istore_n 3, 1) := by decide +kernel
theorem dX6_resolve_36 : decode cX6_resolve 36 = .ok (.iload_n 2, 1) := by decide +kernel
theorem dX6_resolve_37 : decode cX6_resolve 37 = .ok (.iload_n 3, 1) := by decide +kernel
theorem dX6_resolve_38 : decode cX6_resolve 38 = .ok (.aload_n 0, 1) := by decide +kernel
theorem dX6_resolve_39 : decode cX6_resolve 39 = .ok (.getfield 54, 3) := by decide +kernel
theorem dX6_resolve_42 : decode cX6_resolve 42 = .ok (.invokestatic 124, 3) := by decide +kernel
theorem dX6_resolve_45 : decode cX6_resolve 45 = .ok (.aload_n 0, 1) := by decide +kernel
theorem dX6_resolve_46 : decode cX6_resolve 46 = .ok (.getfield 47, 3) := by decide +kernel
theorem dX6_resolve_49 : decode cX6_resolve 49 = .ok (.aload_n 0, 1) := by decide +kernel
theorem dX6_resolve_50 : decode cX6_resolve 50 = .ok (.getfield 10, 3) := by decide +kernel
theorem dX6_resolve_53 : decode cX6_resolve 53 = .ok (.aload_n 0, 1) := by decide +kernel
theorem dX6_resolve_54 : decode cX6_resolve 54 = .ok (.getfield 26, 3) := by decide +kernel
theorem dX6_resolve_57 : decode cX6_resolve 57 = .ok (.aload_n 0, 1) := by decide +kernel
theorem dX6_resolve_58 : decode cX6_resolve 58 = .ok (.getfield 54, 3) := by decide +kernel
theorem dX6_resolve_61 : decode cX6_resolve 61 = .ok (.invokevirtual 136, 3) := by decide +kernel
theorem dX6_resolve_64 : decode cX6_resolve 64 = .ok (.aload_n 0, 1) := by decide +kernel
theorem dX6_resolve_65 : decode cX6_resolve 65 = .ok (.getfield 26, 3) := by decide +kernel
theorem dX6_resolve_68 : decode cX6_resolve 68 = .ok (.getfield 157, 3) := by decide +kernel
theorem dX6_resolve_71 : decode cX6_resolve 71 = .ok (.iload_n 1, 1) := by decide +kernel
theorem dX6_resolve_72 : decode cX6_resolve 72 = .ok (.iload_n 2, 1) := by decide +kernel
theorem dX6_resolve_73 : decode cX6_resolve 73 = .ok (.iastore, 1) := by decide +kernel
theorem dX6_resolve_74 : decode cX6_resolve 74 = .ok (.aload_n 0, 1) := by decide +kernel
theorem dX6_resolve_75 : decode cX6_resolve 75 = .ok (.invokevirtual 143, 3) := by decide +kernel
theorem dX6_resolve_78 : decode cX6_resolve 78 = .ok (.iload_n 2, 1) := by decide +kernel
theorem dX6_resolve_79 : decode cX6_resolve 79 = .ok (.iload_n 3, 1) := by decide +kernel
theorem dX6_resolve_80 : decode cX6_resolve 80 = .ok (.isub, 1) := by decide +kernel
theorem dX6_resolve_81 : decode cX6_resolve 81 = .ok (.ireturn, 1) := by decide +kernel
theorem dX6_correct_0 : decode cX6_correct 0 = .ok (.aload_n 0, 1) := by decide +kernel
theorem dX6_correct_1 : decode cX6_correct 1 = .ok (.iload_n 1, 1) := by decide +kernel
theorem dX6_correct_2 : decode cX6_correct 2 = .ok (.invokevirtual 146, 3) := by decide +kernel
theorem dX6_correct_5 : decode cX6_correct 5 = .ok (.iload_n 2, 1) := by decide +kernel
theorem dX6_correct_6 : decode cX6_correct 6 = .ok (.invokestatic 97, 3) := by decide +kernel
theorem dX6_correct_9 : decode cX6_correct 9 = .ok (.iload_n 3, 1) := by decide +kernel
theorem dX6_correct_10 : decode cX6_correct 10 = .ok (.iconst 0, 1) := by decide +kernel
theorem dX6_correct_11 : decode cX6_correct 11 = .ok (.aload_n 0, 1) := by decide +kernel
theorem dX6_correct_12 : decode cX6_correct 12 = .ok (.getfield 26, 3) := by decide +kernel
theorem dX6_correct_15 : decode cX6_correct 15 = .ok (.iload_n 1, 1) := by decide +kernel
theorem dX6_correct_16 : decode cX6_correct 16 = .ok (.invokevirtual 149, 3) := by decide +kernel
theorem dX6_correct_19 : decode cX6_correct 19 = .ok (.ifCond .eq 10, 3) := by decide +kernel
theorem dX6_correct_22 : decode cX6_correct 22 = .ok (.aload_n 0, 1) := by decide +kernel
theorem dX6_correct_23 : decode cX6_correct 23 = .ok (.getfield 54, 3) := by decide +kernel
theorem dX6_correct_26 : decode cX6_correct 26 = .ok (.goto 12, 3) := by decide +kernel
theorem dX6_correct_29 : decode cX6_correct 29 = .ok (.aload_n 0, 1) := by decide +kernel
theorem dX6_correct_30 : decode cX6_correct 30 = .ok (.getfield 26, 3) := by decide +kernel
theorem dX6_correct_33 : decode cX6_correct 33 = .ok (.getfield 157, 3) := by decide +kernel
theorem dX6_correct_36 : decode cX6_correct 36 = .ok (.iload_n 1, 1) := by decide +kernel
theorem dX6_correct_37 : decode cX6_correct 37 = .ok (.iaload, 1) := by decide +kernel
theorem dX6_correct_38 : decode cX6_correct 38 = .ok (.invokestatic 124, 3) := by decide +kernel
theorem dX6_correct_41 : decode cX6_correct 41 = .ok (.aload_n 0, 1) := by decide +kernel
theorem dX6_correct_42 : decode cX6_correct 42 = .ok (.getfield 47, 3) := by decide +kernel
theorem dX6_correct_45 : decode cX6_correct 45 = .ok (.aload_n 0, 1) := by decide +kernel
theorem dX6_correct_46 : decode cX6_correct 46 = .ok (.getfield 10, 3) := by decide +kernel
theorem dX6_correct_49 : decode cX6_correct 49 = .ok (.aload_n 0, 1) := by decide +kernel
theorem dX6_correct_50 : decode cX6_correct 50 = .ok (.getfield 26, 3) := by decide +kernel
theorem dX6_correct_53 : decode cX6_correct 53 = .ok (.aload_n 0, 1) := by decide +kernel
theorem dX6_correct_54 : decode cX6_correct 54 = .ok (.getfield 54, 3) := by decide +kernel
theorem dX6_correct_57 : decode cX6_correct 57 = .ok (.invokevirtual 136, 3) := by decide +kernel
theorem dX6_correct_60 : decode cX6_correct 60 = .ok (.aload_n 0, 1) := by decide +kernel
theorem dX6_correct_61 : decode cX6_correct 61 = .ok (.getfield 26, 3) := by decide +kernel
theorem dX6_correct_64 : decode cX6_correct 64 = .ok (.getfield 160, 3) := by decide +kernel
theorem dX6_correct_67 : decode cX6_correct 67 = .ok (.iload_n 1, 1) := by decide +kernel
theorem dX6_correct_68 : decode cX6_correct 68 = .ok (.iaload, 1) := by decide +kernel
theorem dX6_correct_69 : decode cX6_correct 69 = .ok (.istore 4, 2) := by decide +kernel
theorem dX6_correct_71 : decode cX6_correct 71 = .ok (.aload_n 0, 1) := by decide +kernel
theorem dX6_correct_72 : decode cX6_correct 72 = .ok (.getfield 26, 3) := by decide +kernel
theorem dX6_correct_75 : decode cX6_correct 75 = .ok (.getfield 160, 3) := by decide +kernel
theorem dX6_correct_78 : decode cX6_correct 78 = .ok (.iload_n 1, 1) := by decide +kernel
theorem dX6_correct_79 : decode cX6_correct 79 = .ok (.iload_n 2, 1) := by decide +kernel
theorem dX6_correct_80 : decode cX6_correct 80 = .ok (.iastore, 1) := by decide +kernel
theorem dX6_correct_81 : decode cX6_correct 81 = .ok (.aload_n 0, 1) := by decide +kernel
theorem dX6_correct_82 : decode cX6_correct 82 = .ok (.getfield 26, 3) := by decide +kernel
theorem dX6_correct_85 : decode cX6_correct 85 = .ok (.getfield 154, 3) := by decide +kernel
theorem dX6_correct_88 : decode cX6_correct 88 = .ok (.iload_n 1, 1) := by decide +kernel
theorem dX6_correct_89 : decode cX6_correct 89 = .ok (.iload_n 3, 1) := by decide +kernel
theorem dX6_correct_90 : decode cX6_correct 90 = .ok (.iastore, 1) := by decide +kernel
theorem dX6_correct_91 : decode cX6_correct 91 = .ok (.aload_n 0, 1) := by decide +kernel
theorem dX6_correct_92 : decode cX6_correct 92 = .ok (.invokevirtual 143, 3) := by decide +kernel
theorem dX6_correct_95 : decode cX6_correct 95 = .ok (.iload 4, 2) := by decide +kernel
theorem dX6_correct_97 : decode cX6_correct 97 = .ok (.ireturn, 1) := by decide +kernel
theorem dX6_withdraw_0 : decode cX6_withdraw 0 = .ok (.aload_n 0, 1) := by decide +kernel
theorem dX6_withdraw_1 : decode cX6_withdraw 1 = .ok (.iload_n 1, 1) := by decide +kernel
theorem dX6_withdraw_2 : decode cX6_withdraw 2 = .ok (.invokevirtual 146, 3) := by decide +kernel
theorem dX6_withdraw_5 : decode cX6_withdraw 5 = .ok (.aload_n 0, 1) := by decide +kernel
theorem dX6_withdraw_6 : decode cX6_withdraw 6 = .ok (.getfield 26, 3) := by decide +kernel
theorem dX6_withdraw_9 : decode cX6_withdraw 9 = .ok (.getfield 154, 3) := by decide +kernel
theorem dX6_withdraw_12 : decode cX6_withdraw 12 = .ok (.iload_n 1, 1) := by decide +kernel
theorem dX6_withdraw_13 : decode cX6_withdraw 13 = .ok (.iaload, 1) := by decide +kernel
theorem dX6_withdraw_14 : decode cX6_withdraw 14 = .ok (.istore_n 2, 1) := by decide +kernel
theorem dX6_withdraw_15 : decode cX6_withdraw 15 = .ok (.aload_n 0, 1) := by decide +kernel
theorem dX6_withdraw_16 : decode cX6_withdraw 16 = .ok (.getfield 26, 3) := by decide +kernel
theorem dX6_withdraw_19 : decode cX6_withdraw 19 = .ok (.getfield 157, 3) := by decide +kernel
theorem dX6_withdraw_22 : decode cX6_withdraw 22 = .ok (.iload_n 1, 1) := by decide +kernel
theorem dX6_withdraw_23 : decode cX6_withdraw 23 = .ok (.iaload, 1) := by decide +kernel
theorem dX6_withdraw_24 : decode cX6_withdraw 24 = .ok (.iload_n 2, 1) := by decide +kernel
theorem dX6_withdraw_25 : decode cX6_withdraw 25 = .ok (.if_icmp .ne 13, 3) := by decide +kernel
theorem dX6_withdraw_28 : decode cX6_withdraw 28 = .ok (.new 84, 3) := by decide +kernel
theorem dX6_withdraw_31 : decode cX6_withdraw 31 = .ok (.dup, 1) := by decide +kernel
theorem dX6_withdraw_32 : decode cX6_withdraw 32 = .ok (.ldc 163, 2) := by decide +kernel
theorem dX6_withdraw_34 : decode cX6_withdraw 34 = .ok (.invokespecial 88, 3) := by decide +kernel
theorem dX6_withdraw_37 : decode cX6_withdraw 37 = .ok (.athrow, 1) := by decide +kernel
theorem dX6_withdraw_38 : decode cX6_withdraw 38 = .ok (.aload_n 0, 1) := by decide +kernel
theorem dX6_withdraw_39 : decode cX6_withdraw 39 = .ok (.getfield 47, 3) := by decide +kernel
theorem dX6_withdraw_42 : decode cX6_withdraw 42 = .ok (.aload_n 0, 1) := by decide +kernel
theorem dX6_withdraw_43 : decode cX6_withdraw 43 = .ok (.getfield 10, 3) := by decide +kernel
theorem dX6_withdraw_46 : decode cX6_withdraw 46 = .ok (.aload_n 0, 1) := by decide +kernel
theorem dX6_withdraw_47 : decode cX6_withdraw 47 = .ok (.getfield 26, 3) := by decide +kernel
theorem dX6_withdraw_50 : decode cX6_withdraw 50 = .ok (.aload_n 0, 1) := by decide +kernel
theorem dX6_withdraw_51 : decode cX6_withdraw 51 = .ok (.getfield 54, 3) := by decide +kernel
theorem dX6_withdraw_54 : decode cX6_withdraw 54 = .ok (.invokevirtual 136, 3) := by decide +kernel
theorem dX6_withdraw_57 : decode cX6_withdraw 57 = .ok (.aload_n 0, 1) := by decide +kernel
theorem dX6_withdraw_58 : decode cX6_withdraw 58 = .ok (.getfield 26, 3) := by decide +kernel
theorem dX6_withdraw_61 : decode cX6_withdraw 61 = .ok (.getfield 157, 3) := by decide +kernel
theorem dX6_withdraw_64 : decode cX6_withdraw 64 = .ok (.iload_n 1, 1) := by decide +kernel
theorem dX6_withdraw_65 : decode cX6_withdraw 65 = .ok (.iload_n 2, 1) := by decide +kernel
theorem dX6_withdraw_66 : decode cX6_withdraw 66 = .ok (.iastore, 1) := by decide +kernel
theorem dX6_withdraw_67 : decode cX6_withdraw 67 = .ok (.aload_n 0, 1) := by decide +kernel
theorem dX6_withdraw_68 : decode cX6_withdraw 68 = .ok (.invokevirtual 143, 3) := by decide +kernel
theorem dX6_withdraw_71 : decode cX6_withdraw 71 = .ok (.aload_n 0, 1) := by decide +kernel
theorem dX6_withdraw_72 : decode cX6_withdraw 72 = .ok (.getfield 26, 3) := by decide +kernel
theorem dX6_withdraw_75 : decode cX6_withdraw 75 = .ok (.invokevirtual 165, 3) := by decide +kernel
theorem dX6_withdraw_78 : decode cX6_withdraw 78 = .ok (.ireturn, 1) := by decide +kernel
theorem dX6_join_0 : decode cX6_join 0 = .ok (.aload_n 0, 1) := by decide +kernel
theorem dX6_join_1 : decode cX6_join 1 = .ok (.iload_n 1, 1) := by decide +kernel
theorem dX6_join_2 : decode cX6_join 2 = .ok (.invokevirtual 146, 3) := by decide +kernel
theorem dX6_join_5 : decode cX6_join 5 = .ok (.aload_n 0, 1) := by decide +kernel
theorem dX6_join_6 : decode cX6_join 6 = .ok (.iload_n 2, 1) := by decide +kernel
theorem dX6_join_7 : decode cX6_join 7 = .ok (.invokevirtual 146, 3) := by decide +kernel
theorem dX6_join_10 : decode cX6_join 10 = .ok (.aload_n 0, 1) := by decide +kernel
theorem dX6_join_11 : decode cX6_join 11 = .ok (.getfield 26, 3) := by decide +kernel
theorem dX6_join_14 : decode cX6_join 14 = .ok (.getfield 169, 3) := by decide +kernel
theorem dX6_join_17 : decode cX6_join 17 = .ok (.iload_n 1, 1) := by decide +kernel
theorem dX6_join_18 : decode cX6_join 18 = .ok (.iaload, 1) := by decide +kernel
theorem dX6_join_19 : decode cX6_join 19 = .ok (.istore_n 3, 1) := by decide +kernel
theorem dX6_join_20 : decode cX6_join 20 = .ok (.aload_n 0, 1) := by decide +kernel
theorem dX6_join_21 : decode cX6_join 21 = .ok (.getfield 26, 3) := by decide +kernel
theorem dX6_join_24 : decode cX6_join 24 = .ok (.getfield 169, 3) := by decide +kernel
theorem dX6_join_27 : decode cX6_join 27 = .ok (.iload_n 2, 1) := by decide +kernel
theorem dX6_join_28 : decode cX6_join 28 = .ok (.iaload, 1) := by decide +kernel
theorem dX6_join_29 : decode cX6_join 29 = .ok (.istore 4, 2) := by decide +kernel
theorem dX6_join_31 : decode cX6_join 31 = .ok (.iload_n 3, 1) := by decide +kernel
theorem dX6_join_32 : decode cX6_join 32 = .ok (.iload 4, 2) := by decide +kernel
theorem dX6_join_34 : decode cX6_join 34 = .ok (.if_icmp .ne 13, 3) := by decide +kernel
theorem dX6_join_37 : decode cX6_join 37 = .ok (.new 84, 3) := by decide +kernel
theorem dX6_join_40 : decode cX6_join 40 = .ok (.dup, 1) := by decide +kernel
theorem dX6_join_41 : decode cX6_join 41 = .ok (.ldc 172, 2) := by decide +kernel
theorem dX6_join_43 : decode cX6_join 43 = .ok (.invokespecial 88, 3) := by decide +kernel
theorem dX6_join_46 : decode cX6_join 46 = .ok (.athrow, 1) := by decide +kernel
theorem dX6_join_47 : decode cX6_join 47 = .ok (.aload_n 0, 1) := by decide +kernel
theorem dX6_join_48 : decode cX6_join 48 = .ok (.getfield 26, 3) := by decide +kernel
theorem dX6_join_51 : decode cX6_join 51 = .ok (.iload_n 3, 1) := by decide +kernel
theorem dX6_join_52 : decode cX6_join 52 = .ok (.iload 4, 2) := by decide +kernel
theorem dX6_join_54 : decode cX6_join 54 = .ok (.invokestatic 174, 3) := by decide +kernel
theorem dX6_join_57 : decode cX6_join 57 = .ok (.iload_n 3, 1) := by decide +kernel
theorem dX6_join_58 : decode cX6_join 58 = .ok (.iload 4, 2) := by decide +kernel
theorem dX6_join_60 : decode cX6_join 60 = .ok (.invokestatic 180, 3) := by decide +kernel
theorem dX6_join_63 : decode cX6_join 63 = .ok (.invokevirtual 183, 3) := by decide +kernel
theorem dX6_join_66 : decode cX6_join 66 = .ok (.ireturn, 1) := by decide +kernel
theorem dX6_maintain_0 : decode cX6_maintain 0 = .ok (.aload_n 0, 1) := by decide +kernel
theorem dX6_maintain_1 : decode cX6_maintain 1 = .ok (.iload_n 1, 1) := by decide +kernel
theorem dX6_maintain_2 : decode cX6_maintain 2 = .ok (.invokevirtual 58, 3) := by decide +kernel
theorem dX6_maintain_5 : decode cX6_maintain 5 = .ok (.iload_n 2, 1) := by decide +kernel
theorem dX6_maintain_6 : decode cX6_maintain 6 = .ok (.aload_n 0, 1) := by decide +kernel
theorem dX6_maintain_7 : decode cX6_maintain 7 = .ok (.getfield 54, 3) := by decide +kernel
theorem dX6_maintain_10 : decode cX6_maintain 10 = .ok (.sipush 9999, 3) := by decide +kernel
theorem dX6_maintain_13 : decode cX6_maintain 13 = .ok (.invokestatic 124, 3) := by decide +kernel
theorem dX6_maintain_16 : decode cX6_maintain 16 = .ok (.iload_n 3, 1) := by decide +kernel
theorem dX6_maintain_17 : decode cX6_maintain 17 = .ok (.iload_n 2, 1) := by decide +kernel
theorem dX6_maintain_18 : decode cX6_maintain 18 = .ok (.if_icmp .le 10, 3) := by decide +kernel
theorem dX6_maintain_21 : decode cX6_maintain 21 = .ok (.iload_n 3, 1) := by decide +kernel
theorem dX6_maintain_22 : decode cX6_maintain 22 = .ok (.sipush 10000, 3) := by decide +kernel
theorem dX6_maintain_25 : decode cX6_maintain 25 = .ok (.if_icmp .le 13, 3) := by decide +kernel
theorem dX6_maintain_28 : decode cX6_maintain 28 = .ok (.new 65, 3) := by decide +kernel
theorem dX6_maintain_31 : decode cX6_maintain 31 = .ok (.dup, 1) := by decide +kernel
theorem dX6_maintain_32 : decode cX6_maintain 32 = .ok (.ldc 186, 2) := by decide +kernel
theorem dX6_maintain_34 : decode cX6_maintain 34 = .ok (.invokespecial 69, 3) := by decide +kernel
theorem dX6_maintain_37 : decode cX6_maintain 37 = .ok (.athrow, 1) := by decide +kernel
theorem dX6_maintain_38 : decode cX6_maintain 38 = .ok (.aload_n 0, 1) := by decide +kernel
theorem dX6_maintain_39 : decode cX6_maintain 39 = .ok (.getfield 33, 3) := by decide +kernel
theorem dX6_maintain_42 : decode cX6_maintain 42 = .ok (.getfield 188, 3) := by decide +kernel
theorem dX6_maintain_45 : decode cX6_maintain 45 = .ok (.bipush 8, 2) := by decide +kernel
theorem dX6_maintain_47 : decode cX6_maintain 47 = .ok (.if_icmp .lt 13, 3) := by decide +kernel
theorem dX6_maintain_50 : decode cX6_maintain 50 = .ok (.new 84, 3) := by decide +kernel
theorem dX6_maintain_53 : decode cX6_maintain 53 = .ok (.dup, 1) := by decide +kernel
theorem dX6_maintain_54 : decode cX6_maintain 54 = .ok (.ldc 189, 2) := by decide +kernel
theorem dX6_maintain_56 : decode cX6_maintain 56 = .ok (.invokespecial 88, 3) := by decide +kernel
theorem dX6_maintain_59 : decode cX6_maintain 59 = .ok (.athrow, 1) := by decide +kernel
theorem dX6_maintain_60 : decode cX6_maintain 60 = .ok (.aload_n 0, 1) := by decide +kernel
theorem dX6_maintain_61 : decode cX6_maintain 61 = .ok (.getfield 33, 3) := by decide +kernel
theorem dX6_maintain_64 : decode cX6_maintain 64 = .ok (.iload_n 1, 1) := by decide +kernel
theorem dX6_maintain_65 : decode cX6_maintain 65 = .ok (.iload_n 2, 1) := by decide +kernel
theorem dX6_maintain_66 : decode cX6_maintain 66 = .ok (.iload_n 3, 1) := by decide +kernel
theorem dX6_maintain_67 : decode cX6_maintain 67 = .ok (.invokevirtual 191, 3) := by decide +kernel
theorem dX6_maintain_70 : decode cX6_maintain 70 = .ok (.ireturn, 1) := by decide +kernel
theorem dX6_callOff_0 : decode cX6_callOff 0 = .ok (.iload_n 1, 1) := by decide +kernel
theorem dX6_callOff_1 : decode cX6_callOff 1 = .ok (.ifCond .lt 14, 3) := by decide +kernel
theorem dX6_callOff_4 : decode cX6_callOff 4 = .ok (.iload_n 1, 1) := by decide +kernel
theorem dX6_callOff_5 : decode cX6_callOff 5 = .ok (.aload_n 0, 1) := by decide +kernel
theorem dX6_callOff_6 : decode cX6_callOff 6 = .ok (.getfield 33, 3) := by decide +kernel
theorem dX6_callOff_9 : decode cX6_callOff 9 = .ok (.getfield 188, 3) := by decide +kernel
theorem dX6_callOff_12 : decode cX6_callOff 12 = .ok (.if_icmp .lt 13, 3) := by decide +kernel
theorem dX6_callOff_15 : decode cX6_callOff 15 = .ok (.new 192, 3) := by decide +kernel
theorem dX6_callOff_18 : decode cX6_callOff 18 = .ok (.dup, 1) := by decide +kernel
theorem dX6_callOff_19 : decode cX6_callOff 19 = .ok (.ldc 194, 2) := by decide +kernel
theorem dX6_callOff_21 : decode cX6_callOff 21 = .ok (.invokespecial 196, 3) := by decide +kernel
theorem dX6_callOff_24 : decode cX6_callOff 24 = .ok (.athrow, 1) := by decide +kernel
theorem dX6_callOff_25 : decode cX6_callOff 25 = .ok (.aload_n 0, 1) := by decide +kernel
theorem dX6_callOff_26 : decode cX6_callOff 26 = .ok (.getfield 33, 3) := by decide +kernel
theorem dX6_callOff_29 : decode cX6_callOff 29 = .ok (.getfield 197, 3) := by decide +kernel
theorem dX6_callOff_32 : decode cX6_callOff 32 = .ok (.iload_n 1, 1) := by decide +kernel
theorem dX6_callOff_33 : decode cX6_callOff 33 = .ok (.iaload, 1) := by decide +kernel
theorem dX6_callOff_34 : decode cX6_callOff 34 = .ok (.istore_n 2, 1) := by decide +kernel
theorem dX6_callOff_35 : decode cX6_callOff 35 = .ok (.aload_n 0, 1) := by decide +kernel
theorem dX6_callOff_36 : decode cX6_callOff 36 = .ok (.getfield 33, 3) := by decide +kernel
theorem dX6_callOff_39 : decode cX6_callOff 39 = .ok (.getfield 200, 3) := by decide +kernel
theorem dX6_callOff_42 : decode cX6_callOff 42 = .ok (.iload_n 1, 1) := by decide +kernel
theorem dX6_callOff_43 : decode cX6_callOff 43 = .ok (.iaload, 1) := by decide +kernel
theorem dX6_callOff_44 : decode cX6_callOff 44 = .ok (.iload_n 2, 1) := by decide +kernel
theorem dX6_callOff_45 : decode cX6_callOff 45 = .ok (.isub, 1) := by decide +kernel
theorem dX6_callOff_46 : decode cX6_callOff 46 = .ok (.istore_n 3, 1) := by decide +kernel
theorem dX6_callOff_47 : decode cX6_callOff 47 = .ok (.iload_n 2, 1) := by decide +kernel
theorem dX6_callOff_48 : decode cX6_callOff 48 = .ok (.aload_n 0, 1) := by decide +kernel
theorem dX6_callOff_49 : decode cX6_callOff 49 = .ok (.getfield 54, 3) := by decide +kernel
theorem dX6_callOff_52 : decode cX6_callOff 52 = .ok (.if_icmp .lt 7, 3) := by decide +kernel
theorem dX6_callOff_55 : decode cX6_callOff 55 = .ok (.iload_n 3, 1) := by decide +kernel
theorem dX6_callOff_56 : decode cX6_callOff 56 = .ok (.ifCond .ne 13, 3) := by decide +kernel
theorem dX6_callOff_59 : decode cX6_callOff 59 = .ok (.new 84, 3) := by decide +kernel
theorem dX6_callOff_62 : decode cX6_callOff 62 = .ok (.dup, 1) := by decide +kernel
theorem dX6_callOff_63 : decode cX6_callOff 63 = .ok (.ldc 203, 2) := by decide +kernel
theorem dX6_callOff_65 : decode cX6_callOff 65 = .ok (.invokespecial 88, 3) := by decide +kernel
theorem dX6_callOff_68 : decode cX6_callOff 68 = .ok (.athrow, 1) := by decide +kernel
theorem dX6_callOff_69 : decode cX6_callOff 69 = .ok (.aload_n 0, 1) := by decide +kernel
theorem dX6_callOff_70 : decode cX6_callOff 70 = .ok (.getfield 33, 3) := by decide +kernel
theorem dX6_callOff_73 : decode cX6_callOff 73 = .ok (.getfield 200, 3) := by decide +kernel
theorem dX6_callOff_76 : decode cX6_callOff 76 = .ok (.iload_n 1, 1) := by decide +kernel
theorem dX6_callOff_77 : decode cX6_callOff 77 = .ok (.iload_n 2, 1) := by decide +kernel
theorem dX6_callOff_78 : decode cX6_callOff 78 = .ok (.iastore, 1) := by decide +kernel
theorem dX6_callOff_79 : decode cX6_callOff 79 = .ok (.iload_n 3, 1) := by decide +kernel
theorem dX6_callOff_80 : decode cX6_callOff 80 = .ok (.ireturn, 1) := by decide +kernel
theorem dX6_pass_0 : decode cX6_pass 0 = .ok (.iload_n 1, 1) := by decide +kernel
theorem dX6_pass_1 : decode cX6_pass 1 = .ok (.iconst 1, 1) := by decide +kernel
theorem dX6_pass_2 : decode cX6_pass 2 = .ok (.if_icmp .lt 10, 3) := by decide +kernel
theorem dX6_pass_5 : decode cX6_pass 5 = .ok (.iload_n 1, 1) := by decide +kernel
theorem dX6_pass_6 : decode cX6_pass 6 = .ok (.sipush 600, 3) := by decide +kernel
theorem dX6_pass_9 : decode cX6_pass 9 = .ok (.if_icmp .le 13, 3) := by decide +kernel
theorem dX6_pass_12 : decode cX6_pass 12 = .ok (.new 65, 3) := by decide +kernel
theorem dX6_pass_15 : decode cX6_pass 15 = .ok (.dup, 1) := by decide +kernel
theorem dX6_pass_16 : decode cX6_pass 16 = .ok (.ldc 205, 2) := by decide +kernel
theorem dX6_pass_18 : decode cX6_pass 18 = .ok (.invokespecial 69, 3) := by decide +kernel
theorem dX6_pass_21 : decode cX6_pass 21 = .ok (.athrow, 1) := by decide +kernel
theorem dX6_pass_22 : decode cX6_pass 22 = .ok (.aload_n 0, 1) := by decide +kernel
theorem dX6_pass_23 : decode cX6_pass 23 = .ok (.getfield 54, 3) := by decide +kernel
theorem dX6_pass_26 : decode cX6_pass 26 = .ok (.iload_n 1, 1) := by decide +kernel
theorem dX6_pass_27 : decode cX6_pass 27 = .ok (.iadd, 1) := by decide +kernel
theorem dX6_pass_28 : decode cX6_pass 28 = .ok (.sipush 10000, 3) := by decide +kernel
theorem dX6_pass_31 : decode cX6_pass 31 = .ok (.if_icmp .lt 13, 3) := by decide +kernel
theorem dX6_pass_34 : decode cX6_pass 34 = .ok (.new 84, 3) := by decide +kernel
theorem dX6_pass_37 : decode cX6_pass 37 = .ok (.dup, 1) := by decide +kernel
theorem dX6_pass_38 : decode cX6_pass 38 = .ok (.ldc 207, 2) := by decide +kernel
theorem dX6_pass_40 : decode cX6_pass 40 = .ok (.invokespecial 88, 3) := by decide +kernel
theorem dX6_pass_43 : decode cX6_pass 43 = .ok (.athrow, 1) := by decide +kernel
theorem dX6_pass_44 : decode cX6_pass 44 = .ok (.aload_n 0, 1) := by decide +kernel
theorem dX6_pass_45 : decode cX6_pass 45 = .ok (.dup, 1) := by decide +kernel
theorem dX6_pass_46 : decode cX6_pass 46 = .ok (.getfield 54, 3) := by decide +kernel
theorem dX6_pass_49 : decode cX6_pass 49 = .ok (.iload_n 1, 1) := by decide +kernel
theorem dX6_pass_50 : decode cX6_pass 50 = .ok (.iadd, 1) := by decide +kernel
theorem dX6_pass_51 : decode cX6_pass 51 = .ok (.putfield 54, 3) := by decide +kernel
theorem dX6_pass_54 : decode cX6_pass 54 = .ok (.aload_n 0, 1) := by decide +kernel
theorem dX6_pass_55 : decode cX6_pass 55 = .ok (.getfield 54, 3) := by decide +kernel
theorem dX6_pass_58 : decode cX6_pass 58 = .ok (.ireturn, 1) := by decide +kernel
theorem dX6_components_0 : decode cX6_components 0 = .ok (.aload_n 0, 1) := by decide +kernel
theorem dX6_components_1 : decode cX6_components 1 = .ok (.getfield 10, 3) := by decide +kernel
theorem dX6_components_4 : decode cX6_components 4 = .ok (.getfield 81, 3) := by decide +kernel
theorem dX6_components_7 : decode cX6_components 7 = .ok (.ireturn, 1) := by decide +kernel
theorem dX6_people_0 : decode cX6_people 0 = .ok (.aload_n 0, 1) := by decide +kernel
theorem dX6_people_1 : decode cX6_people 1 = .ok (.getfield 19, 3) := by decide +kernel
theorem dX6_people_4 : decode cX6_people 4 = .ok (.getfield 100, 3) := by decide +kernel
theorem dX6_people_7 : decode cX6_people 7 = .ok (.ireturn, 1) := by decide +kernel
theorem dX6_incidents_0 : decode cX6_incidents 0 = .ok (.aload_n 0, 1) := by decide +kernel
theorem dX6_incidents_1 : decode cX6_incidents 1 = .ok (.getfield 26, 3) := by decide +kernel
theorem dX6_incidents_4 : decode cX6_incidents 4 = .ok (.getfield 133, 3) := by decide +kernel
theorem dX6_incidents_7 : decode cX6_incidents 7 = .ok (.ireturn, 1) := by decide +kernel
theorem dX6_minute_0 : decode cX6_minute 0 = .ok (.aload_n 0, 1) := by decide +kernel
theorem dX6_minute_1 : decode cX6_minute 1 = .ok (.getfield 54, 3) := by decide +kernel
theorem dX6_minute_4 : decode cX6_minute 4 = .ok (.ireturn, 1) := by decide +kernel
theorem dX6_isGroup_0 : decode cX6_isGroup 0 = .ok (.aload_n 0, 1) := by decide +kernel
theorem dX6_isGroup_1 : decode cX6_isGroup 1 = .ok (.iload_n 1, 1) := by decide +kernel
theorem dX6_isGroup_2 : decode cX6_isGroup 2 = .ok (.invokevirtual 58, 3) := by decide +kernel
theorem dX6_isGroup_5 : decode cX6_isGroup 5 = .ok (.aload_n 0, 1) := by decide +kernel
theorem dX6_isGroup_6 : decode cX6_isGroup 6 = .ok (.getfield 10, 3) := by decide +kernel
theorem dX6_isGroup_9 : decode cX6_isGroup 9 = .ok (.iload_n 1, 1) := by decide +kernel
theorem dX6_isGroup_10 : decode cX6_isGroup 10 = .ok (.invokevirtual 128, 3) := by decide +kernel
theorem dX6_isGroup_13 : decode cX6_isGroup 13 = .ok (.ireturn, 1) := by decide +kernel
theorem dX6_depth_0 : decode cX6_depth 0 = .ok (.aload_n 0, 1) := by decide +kernel
theorem dX6_depth_1 : decode cX6_depth 1 = .ok (.iload_n 1, 1) := by decide +kernel
theorem dX6_depth_2 : decode cX6_depth 2 = .ok (.invokevirtual 58, 3) := by decide +kernel
theorem dX6_depth_5 : decode cX6_depth 5 = .ok (.aload_n 0, 1) := by decide +kernel
theorem dX6_depth_6 : decode cX6_depth 6 = .ok (.getfield 10, 3) := by decide +kernel
theorem dX6_depth_9 : decode cX6_depth 9 = .ok (.iload_n 1, 1) := by decide +kernel
theorem dX6_depth_10 : decode cX6_depth 10 = .ok (.invokevirtual 209, 3) := by decide +kernel
theorem dX6_depth_13 : decode cX6_depth 13 = .ok (.ireturn, 1) := by decide +kernel
theorem dX6_leaves_0 : decode cX6_leaves 0 = .ok (.aload_n 0, 1) := by decide +kernel
theorem dX6_leaves_1 : decode cX6_leaves 1 = .ok (.iload_n 1, 1) := by decide +kernel
theorem dX6_leaves_2 : decode cX6_leaves 2 = .ok (.invokevirtual 58, 3) := by decide +kernel
theorem dX6_leaves_5 : decode cX6_leaves 5 = .ok (.aload_n 0, 1) := by decide +kernel
theorem dX6_leaves_6 : decode cX6_leaves 6 = .ok (.getfield 10, 3) := by decide +kernel
theorem dX6_leaves_9 : decode cX6_leaves 9 = .ok (.iload_n 1, 1) := by decide +kernel
theorem dX6_leaves_10 : decode cX6_leaves 10 = .ok (.invokevirtual 212, 3) := by decide +kernel
theorem dX6_leaves_13 : decode cX6_leaves 13 = .ok (.ireturn, 1) := by decide +kernel
theorem dX6_belowAt_0 : decode cX6_belowAt 0 = .ok (.aload_n 0, 1) := by decide +kernel
theorem dX6_belowAt_1 : decode cX6_belowAt 1 = .ok (.iload_n 1, 1) := by decide +kernel
theorem dX6_belowAt_2 : decode cX6_belowAt 2 = .ok (.invokevirtual 58, 3) := by decide +kernel
theorem dX6_belowAt_5 : decode cX6_belowAt 5 = .ok (.iload_n 2, 1) := by decide +kernel
theorem dX6_belowAt_6 : decode cX6_belowAt 6 = .ok (.ifCond .lt 15, 3) := by decide +kernel
theorem dX6_belowAt_9 : decode cX6_belowAt 9 = .ok (.iload_n 2, 1) := by decide +kernel
theorem dX6_belowAt_10 : decode cX6_belowAt 10 = .ok (.aload_n 0, 1) := by decide +kernel
theorem dX6_belowAt_11 : decode cX6_belowAt 11 = .ok (.getfield 10, 3) := by decide +kernel
theorem dX6_belowAt_14 : decode cX6_belowAt 14 = .ok (.iload_n 1, 1) := by decide +kernel
theorem dX6_belowAt_15 : decode cX6_belowAt 15 = .ok (.invokevirtual 215, 3) := by decide +kernel
theorem dX6_belowAt_18 : decode cX6_belowAt 18 = .ok (.if_icmp .lt 13, 3) := by decide +kernel
theorem dX6_belowAt_21 : decode cX6_belowAt 21 = .ok (.new 218, 3) := by decide +kernel
theorem dX6_belowAt_24 : decode cX6_belowAt 24 = .ok (.dup, 1) := by decide +kernel
theorem dX6_belowAt_25 : decode cX6_belowAt 25 = .ok (.ldc 220, 2) := by decide +kernel
theorem dX6_belowAt_27 : decode cX6_belowAt 27 = .ok (.invokespecial 222, 3) := by decide +kernel
theorem dX6_belowAt_30 : decode cX6_belowAt 30 = .ok (.athrow, 1) := by decide +kernel
theorem dX6_belowAt_31 : decode cX6_belowAt 31 = .ok (.aload_n 0, 1) := by decide +kernel
theorem dX6_belowAt_32 : decode cX6_belowAt 32 = .ok (.getfield 10, 3) := by decide +kernel
theorem dX6_belowAt_35 : decode cX6_belowAt 35 = .ok (.iload_n 1, 1) := by decide +kernel
theorem dX6_belowAt_36 : decode cX6_belowAt 36 = .ok (.iload_n 2, 1) := by decide +kernel
theorem dX6_belowAt_37 : decode cX6_belowAt 37 = .ok (.invokevirtual 223, 3) := by decide +kernel
theorem dX6_belowAt_40 : decode cX6_belowAt 40 = .ok (.ireturn, 1) := by decide +kernel
theorem dX6_pathAt_0 : decode cX6_pathAt 0 = .ok (.aload_n 0, 1) := by decide +kernel
theorem dX6_pathAt_1 : decode cX6_pathAt 1 = .ok (.iload_n 1, 1) := by decide +kernel
theorem dX6_pathAt_2 : decode cX6_pathAt 2 = .ok (.invokevirtual 58, 3) := by decide +kernel
theorem dX6_pathAt_5 : decode cX6_pathAt 5 = .ok (.iload_n 2, 1) := by decide +kernel
theorem dX6_pathAt_6 : decode cX6_pathAt 6 = .ok (.ifCond .lt 15, 3) := by decide +kernel
theorem dX6_pathAt_9 : decode cX6_pathAt 9 = .ok (.iload_n 2, 1) := by decide +kernel
theorem dX6_pathAt_10 : decode cX6_pathAt 10 = .ok (.aload_n 0, 1) := by decide +kernel
theorem dX6_pathAt_11 : decode cX6_pathAt 11 = .ok (.getfield 10, 3) := by decide +kernel
theorem dX6_pathAt_14 : decode cX6_pathAt 14 = .ok (.iload_n 1, 1) := by decide +kernel
theorem dX6_pathAt_15 : decode cX6_pathAt 15 = .ok (.invokevirtual 209, 3) := by decide +kernel
theorem dX6_pathAt_18 : decode cX6_pathAt 18 = .ok (.if_icmp .le 13, 3) := by decide +kernel
theorem dX6_pathAt_21 : decode cX6_pathAt 21 = .ok (.new 218, 3) := by decide +kernel
theorem dX6_pathAt_24 : decode cX6_pathAt 24 = .ok (.dup, 1) := by decide +kernel
theorem dX6_pathAt_25 : decode cX6_pathAt 25 = .ok (.ldc 226, 2) := by decide +kernel
theorem dX6_pathAt_27 : decode cX6_pathAt 27 = .ok (.invokespecial 222, 3) := by decide +kernel
theorem dX6_pathAt_30 : decode cX6_pathAt 30 = .ok (.athrow, 1) := by decide +kernel
theorem dX6_pathAt_31 : decode cX6_pathAt 31 = .ok (.aload_n 0, 1) := by decide +kernel
theorem dX6_pathAt_32 : decode cX6_pathAt 32 = .ok (.getfield 10, 3) := by decide +kernel
theorem dX6_pathAt_35 : decode cX6_pathAt 35 = .ok (.iload_n 1, 1) := by decide +kernel
theorem dX6_pathAt_36 : decode cX6_pathAt 36 = .ok (.iload_n 2, 1) := by decide +kernel
theorem dX6_pathAt_37 : decode cX6_pathAt 37 = .ok (.invokevirtual 228, 3) := by decide +kernel
theorem dX6_pathAt_40 : decode cX6_pathAt 40 = .ok (.ireturn, 1) := by decide +kernel
theorem dX6_state_0 : decode cX6_state 0 = .ok (.aload_n 0, 1) := by decide +kernel
theorem dX6_state_1 : decode cX6_state 1 = .ok (.iload_n 1, 1) := by decide +kernel
theorem dX6_state_2 : decode cX6_state 2 = .ok (.invokevirtual 58, 3) := by decide +kernel
theorem dX6_state_5 : decode cX6_state 5 = .ok (.aload_n 0, 1) := by decide +kernel
theorem dX6_state_6 : decode cX6_state 6 = .ok (.getfield 51, 3) := by decide +kernel
theorem dX6_state_9 : decode cX6_state 9 = .ok (.aload_n 0, 1) := by decide +kernel
theorem dX6_state_10 : decode cX6_state 10 = .ok (.getfield 10, 3) := by decide +kernel
theorem dX6_state_13 : decode cX6_state 13 = .ok (.aload_n 0, 1) := by decide +kernel
theorem dX6_state_14 : decode cX6_state 14 = .ok (.getfield 26, 3) := by decide +kernel
theorem dX6_state_17 : decode cX6_state 17 = .ok (.aload_n 0, 1) := by decide +kernel
theorem dX6_state_18 : decode cX6_state 18 = .ok (.getfield 54, 3) := by decide +kernel
theorem dX6_state_21 : decode cX6_state 21 = .ok (.invokevirtual 136, 3) := by decide +kernel
theorem dX6_state_24 : decode cX6_state 24 = .ok (.aload_n 0, 1) := by decide +kernel
theorem dX6_state_25 : decode cX6_state 25 = .ok (.getfield 51, 3) := by decide +kernel
theorem dX6_state_28 : decode cX6_state 28 = .ok (.getfield 231, 3) := by decide +kernel
theorem dX6_state_31 : decode cX6_state 31 = .ok (.iload_n 1, 1) := by decide +kernel
theorem dX6_state_32 : decode cX6_state 32 = .ok (.iaload, 1) := by decide +kernel
theorem dX6_state_33 : decode cX6_state 33 = .ok (.invokestatic 232, 3) := by decide +kernel
theorem dX6_state_36 : decode cX6_state 36 = .ok (.ireturn, 1) := by decide +kernel
theorem dX6_stateAt_0 : decode cX6_stateAt 0 = .ok (.aload_n 0, 1) := by decide +kernel
theorem dX6_stateAt_1 : decode cX6_stateAt 1 = .ok (.iload_n 1, 1) := by decide +kernel
theorem dX6_stateAt_2 : decode cX6_stateAt 2 = .ok (.invokevirtual 58, 3) := by decide +kernel
theorem dX6_stateAt_5 : decode cX6_stateAt 5 = .ok (.iload_n 2, 1) := by decide +kernel
theorem dX6_stateAt_6 : decode cX6_stateAt 6 = .ok (.iconst 0, 1) := by decide +kernel
theorem dX6_stateAt_7 : decode cX6_stateAt 7 = .ok (.aload_n 0, 1) := by decide +kernel
theorem dX6_stateAt_8 : decode cX6_stateAt 8 = .ok (.getfield 54, 3) := by decide +kernel
theorem dX6_stateAt_11 : decode cX6_stateAt 11 = .ok (.invokestatic 124, 3) := by decide +kernel
theorem dX6_stateAt_14 : decode cX6_stateAt 14 = .ok (.aload_n 0, 1) := by decide +kernel
theorem dX6_stateAt_15 : decode cX6_stateAt 15 = .ok (.getfield 51, 3) := by decide +kernel
theorem dX6_stateAt_18 : decode cX6_stateAt 18 = .ok (.aload_n 0, 1) := by decide +kernel
theorem dX6_stateAt_19 : decode cX6_stateAt 19 = .ok (.getfield 10, 3) := by decide +kernel
theorem dX6_stateAt_22 : decode cX6_stateAt 22 = .ok (.aload_n 0, 1) := by decide +kernel
theorem dX6_stateAt_23 : decode cX6_stateAt 23 = .ok (.getfield 26, 3) := by decide +kernel
theorem dX6_stateAt_26 : decode cX6_stateAt 26 = .ok (.iload_n 2, 1) := by decide +kernel
theorem dX6_stateAt_27 : decode cX6_stateAt 27 = .ok (.invokevirtual 136, 3) := by decide +kernel
theorem dX6_stateAt_30 : decode cX6_stateAt 30 = .ok (.aload_n 0, 1) := by decide +kernel
theorem dX6_stateAt_31 : decode cX6_stateAt 31 = .ok (.getfield 51, 3) := by decide +kernel
theorem dX6_stateAt_34 : decode cX6_stateAt 34 = .ok (.getfield 231, 3) := by decide +kernel
theorem dX6_stateAt_37 : decode cX6_stateAt 37 = .ok (.iload_n 1, 1) := by decide +kernel
theorem dX6_stateAt_38 : decode cX6_stateAt 38 = .ok (.iaload, 1) := by decide +kernel
theorem dX6_stateAt_39 : decode cX6_stateAt 39 = .ok (.invokestatic 232, 3) := by decide +kernel
theorem dX6_stateAt_42 : decode cX6_stateAt 42 = .ok (.ireturn, 1) := by decide +kernel
theorem dX6_isExcused_0 : decode cX6_isExcused 0 = .ok (.aload_n 0, 1) := by decide +kernel
theorem dX6_isExcused_1 : decode cX6_isExcused 1 = .ok (.iload_n 1, 1) := by decide +kernel
theorem dX6_isExcused_2 : decode cX6_isExcused 2 = .ok (.invokevirtual 58, 3) := by decide +kernel
theorem dX6_isExcused_5 : decode cX6_isExcused 5 = .ok (.iload_n 2, 1) := by decide +kernel
theorem dX6_isExcused_6 : decode cX6_isExcused 6 = .ok (.iconst 0, 1) := by decide +kernel
theorem dX6_isExcused_7 : decode cX6_isExcused 7 = .ok (.sipush 9999, 3) := by decide +kernel
theorem dX6_isExcused_10 : decode cX6_isExcused 10 = .ok (.invokestatic 124, 3) := by decide +kernel
theorem dX6_isExcused_13 : decode cX6_isExcused 13 = .ok (.aload_n 0, 1) := by decide +kernel
theorem dX6_isExcused_14 : decode cX6_isExcused 14 = .ok (.getfield 33, 3) := by decide +kernel
theorem dX6_isExcused_17 : decode cX6_isExcused 17 = .ok (.aload_n 0, 1) := by decide +kernel
theorem dX6_isExcused_18 : decode cX6_isExcused 18 = .ok (.getfield 10, 3) := by decide +kernel
theorem dX6_isExcused_21 : decode cX6_isExcused 21 = .ok (.getfield 236, 3) := by decide +kernel
theorem dX6_isExcused_24 : decode cX6_isExcused 24 = .ok (.iload_n 1, 1) := by decide +kernel
theorem dX6_isExcused_25 : decode cX6_isExcused 25 = .ok (.iaload, 1) := by decide +kernel
theorem dX6_isExcused_26 : decode cX6_isExcused 26 = .ok (.iload_n 2, 1) := by decide +kernel
theorem dX6_isExcused_27 : decode cX6_isExcused 27 = .ok (.invokevirtual 239, 3) := by decide +kernel
theorem dX6_isExcused_30 : decode cX6_isExcused 30 = .ok (.ireturn, 1) := by decide +kernel
theorem dX6_weightedLoss_0 : decode cX6_weightedLoss 0 = .ok (.aload_n 0, 1) := by decide +kernel
theorem dX6_weightedLoss_1 : decode cX6_weightedLoss 1 = .ok (.iload_n 1, 1) := by decide +kernel
theorem dX6_weightedLoss_2 : decode cX6_weightedLoss 2 = .ok (.invokevirtual 58, 3) := by decide +kernel
theorem dX6_weightedLoss_5 : decode cX6_weightedLoss 5 = .ok (.aload_n 0, 1) := by decide +kernel
theorem dX6_weightedLoss_6 : decode cX6_weightedLoss 6 = .ok (.getfield 10, 3) := by decide +kernel
theorem dX6_weightedLoss_9 : decode cX6_weightedLoss 9 = .ok (.iload_n 1, 1) := by decide +kernel
theorem dX6_weightedLoss_10 : decode cX6_weightedLoss 10 = .ok (.invokevirtual 128, 3) := by decide +kernel
theorem dX6_weightedLoss_13 : decode cX6_weightedLoss 13 = .ok (.ifCond .ne 13, 3) := by decide +kernel
theorem dX6_weightedLoss_16 : decode cX6_weightedLoss 16 = .ok (.new 76, 3) := by decide +kernel
theorem dX6_weightedLoss_19 : decode cX6_weightedLoss 19 = .ok (.dup, 1) := by decide +kernel
theorem dX6_weightedLoss_20 : decode cX6_weightedLoss 20 = .ok (.ldc 242, 2) := by decide +kernel
theorem dX6_weightedLoss_22 : decode cX6_weightedLoss 22 = .ok (.invokespecial 80, 3) := by decide +kernel
theorem dX6_weightedLoss_25 : decode cX6_weightedLoss 25 = .ok (.athrow, 1) := by decide +kernel
theorem dX6_weightedLoss_26 : decode cX6_weightedLoss 26 = .ok (.aload_n 0, 1) := by decide +kernel
theorem dX6_weightedLoss_27 : decode cX6_weightedLoss 27 = .ok (.getfield 51, 3) := by decide +kernel
theorem dX6_weightedLoss_30 : decode cX6_weightedLoss 30 = .ok (.aload_n 0, 1) := by decide +kernel
theorem dX6_weightedLoss_31 : decode cX6_weightedLoss 31 = .ok (.getfield 10, 3) := by decide +kernel
theorem dX6_weightedLoss_34 : decode cX6_weightedLoss 34 = .ok (.aload_n 0, 1) := by decide +kernel
theorem dX6_weightedLoss_35 : decode cX6_weightedLoss 35 = .ok (.getfield 26, 3) := by decide +kernel
theorem dX6_weightedLoss_38 : decode cX6_weightedLoss 38 = .ok (.aload_n 0, 1) := by decide +kernel
theorem dX6_weightedLoss_39 : decode cX6_weightedLoss 39 = .ok (.getfield 54, 3) := by decide +kernel
theorem dX6_weightedLoss_42 : decode cX6_weightedLoss 42 = .ok (.invokevirtual 136, 3) := by decide +kernel
theorem dX6_weightedLoss_45 : decode cX6_weightedLoss 45 = .ok (.aload_n 0, 1) := by decide +kernel
theorem dX6_weightedLoss_46 : decode cX6_weightedLoss 46 = .ok (.getfield 51, 3) := by decide +kernel
theorem dX6_weightedLoss_49 : decode cX6_weightedLoss 49 = .ok (.iload_n 1, 1) := by decide +kernel
theorem dX6_weightedLoss_50 : decode cX6_weightedLoss 50 = .ok (.invokevirtual 244, 3) := by decide +kernel
theorem dX6_weightedLoss_53 : decode cX6_weightedLoss 53 = .ok (.ireturn, 1) := by decide +kernel
theorem dX6_worst_0 : decode cX6_worst 0 = .ok (.aload_n 0, 1) := by decide +kernel
theorem dX6_worst_1 : decode cX6_worst 1 = .ok (.getfield 51, 3) := by decide +kernel
theorem dX6_worst_4 : decode cX6_worst 4 = .ok (.aload_n 0, 1) := by decide +kernel
theorem dX6_worst_5 : decode cX6_worst 5 = .ok (.getfield 10, 3) := by decide +kernel
theorem dX6_worst_8 : decode cX6_worst 8 = .ok (.aload_n 0, 1) := by decide +kernel
theorem dX6_worst_9 : decode cX6_worst 9 = .ok (.getfield 26, 3) := by decide +kernel
theorem dX6_worst_12 : decode cX6_worst 12 = .ok (.aload_n 0, 1) := by decide +kernel
theorem dX6_worst_13 : decode cX6_worst 13 = .ok (.getfield 54, 3) := by decide +kernel
theorem dX6_worst_16 : decode cX6_worst 16 = .ok (.invokevirtual 136, 3) := by decide +kernel
theorem dX6_worst_19 : decode cX6_worst 19 = .ok (.aload_n 0, 1) := by decide +kernel
theorem dX6_worst_20 : decode cX6_worst 20 = .ok (.getfield 51, 3) := by decide +kernel
theorem dX6_worst_23 : decode cX6_worst 23 = .ok (.aload_n 0, 1) := by decide +kernel
theorem dX6_worst_24 : decode cX6_worst 24 = .ok (.getfield 10, 3) := by decide +kernel
theorem dX6_worst_27 : decode cX6_worst 27 = .ok (.invokevirtual 247, 3) := by decide +kernel
theorem dX6_worst_30 : decode cX6_worst 30 = .ok (.istore_n 1, 1) := by decide +kernel
theorem dX6_worst_31 : decode cX6_worst 31 = .ok (.iload_n 1, 1) := by decide +kernel
theorem dX6_worst_32 : decode cX6_worst 32 = .ok (.iconst (-1), 1) := by decide +kernel
theorem dX6_worst_33 : decode cX6_worst 33 = .ok (.if_icmp .ne 13, 3) := by decide +kernel
theorem dX6_worst_36 : decode cX6_worst 36 = .ok (.new 192, 3) := by decide +kernel
theorem dX6_worst_39 : decode cX6_worst 39 = .ok (.dup, 1) := by decide +kernel
theorem dX6_worst_40 : decode cX6_worst 40 = .ok (.ldc 251, 2) := by decide +kernel
theorem dX6_worst_42 : decode cX6_worst 42 = .ok (.invokespecial 196, 3) := by decide +kernel
theorem dX6_worst_45 : decode cX6_worst 45 = .ok (.athrow, 1) := by decide +kernel
theorem dX6_worst_46 : decode cX6_worst 46 = .ok (.iload_n 1, 1) := by decide +kernel
theorem dX6_worst_47 : decode cX6_worst 47 = .ok (.ireturn, 1) := by decide +kernel
theorem dX6_counted_0 : decode cX6_counted 0 = .ok (.aload_n 0, 1) := by decide +kernel
theorem dX6_counted_1 : decode cX6_counted 1 = .ok (.iload_n 1, 1) := by decide +kernel
theorem dX6_counted_2 : decode cX6_counted 2 = .ok (.invokevirtual 58, 3) := by decide +kernel
theorem dX6_counted_5 : decode cX6_counted 5 = .ok (.iload_n 2, 1) := by decide +kernel
theorem dX6_counted_6 : decode cX6_counted 6 = .ok (.invokestatic 253, 3) := by decide +kernel
theorem dX6_counted_9 : decode cX6_counted 9 = .ok (.iload_n 2, 1) := by decide +kernel
theorem dX6_counted_10 : decode cX6_counted 10 = .ok (.sipush 600, 3) := by decide +kernel
theorem dX6_counted_13 : decode cX6_counted 13 = .ok (.imul, 1) := by decide +kernel
theorem dX6_counted_14 : decode cX6_counted 14 = .ok (.istore_n 3, 1) := by decide +kernel
theorem dX6_counted_15 : decode cX6_counted 15 = .ok (.iload_n 3, 1) := by decide +kernel
theorem dX6_counted_16 : decode cX6_counted 16 = .ok (.sipush 600, 3) := by decide +kernel
theorem dX6_counted_19 : decode cX6_counted 19 = .ok (.iadd, 1) := by decide +kernel
theorem dX6_counted_20 : decode cX6_counted 20 = .ok (.aload_n 0, 1) := by decide +kernel
theorem dX6_counted_21 : decode cX6_counted 21 = .ok (.getfield 54, 3) := by decide +kernel
theorem dX6_counted_24 : decode cX6_counted 24 = .ok (.invokestatic 174, 3) := by decide +kernel
theorem dX6_counted_27 : decode cX6_counted 27 = .ok (.istore 4, 2) := by decide +kernel
theorem dX6_counted_29 : decode cX6_counted 29 = .ok (.iload 4, 2) := by decide +kernel
theorem dX6_counted_31 : decode cX6_counted 31 = .ok (.iload_n 3, 1) := by decide +kernel
theorem dX6_counted_32 : decode cX6_counted 32 = .ok (.if_icmp .gt 7, 3) := by decide +kernel
theorem dX6_counted_35 : decode cX6_counted 35 = .ok (.iconst 0, 1) := by decide +kernel
theorem dX6_counted_36 : decode cX6_counted 36 = .ok (.goto 27, 3) := by decide +kernel
theorem dX6_counted_39 : decode cX6_counted 39 = .ok (.iload 4, 2) := by decide +kernel
theorem dX6_counted_41 : decode cX6_counted 41 = .ok (.iload_n 3, 1) := by decide +kernel
theorem dX6_counted_42 : decode cX6_counted 42 = .ok (.isub, 1) := by decide +kernel
theorem dX6_counted_43 : decode cX6_counted 43 = .ok (.aload_n 0, 1) := by decide +kernel
theorem dX6_counted_44 : decode cX6_counted 44 = .ok (.getfield 33, 3) := by decide +kernel
theorem dX6_counted_47 : decode cX6_counted 47 = .ok (.aload_n 0, 1) := by decide +kernel
theorem dX6_counted_48 : decode cX6_counted 48 = .ok (.getfield 10, 3) := by decide +kernel
theorem dX6_counted_51 : decode cX6_counted 51 = .ok (.getfield 236, 3) := by decide +kernel
theorem dX6_counted_54 : decode cX6_counted 54 = .ok (.iload_n 1, 1) := by decide +kernel
theorem dX6_counted_55 : decode cX6_counted 55 = .ok (.iaload, 1) := by decide +kernel
theorem dX6_counted_56 : decode cX6_counted 56 = .ok (.iload_n 3, 1) := by decide +kernel
theorem dX6_counted_57 : decode cX6_counted 57 = .ok (.iload 4, 2) := by decide +kernel
theorem dX6_counted_59 : decode cX6_counted 59 = .ok (.invokevirtual 256, 3) := by decide +kernel
theorem dX6_counted_62 : decode cX6_counted 62 = .ok (.isub, 1) := by decide +kernel
theorem dX6_counted_63 : decode cX6_counted 63 = .ok (.ireturn, 1) := by decide +kernel
theorem dX6_uptime_0 : decode cX6_uptime 0 = .ok (.aload_n 0, 1) := by decide +kernel
theorem dX6_uptime_1 : decode cX6_uptime 1 = .ok (.iload_n 1, 1) := by decide +kernel
theorem dX6_uptime_2 : decode cX6_uptime 2 = .ok (.invokevirtual 58, 3) := by decide +kernel
theorem dX6_uptime_5 : decode cX6_uptime 5 = .ok (.iload_n 2, 1) := by decide +kernel
theorem dX6_uptime_6 : decode cX6_uptime 6 = .ok (.invokestatic 253, 3) := by decide +kernel
theorem dX6_uptime_9 : decode cX6_uptime 9 = .ok (.aload_n 0, 1) := by decide +kernel
theorem dX6_uptime_10 : decode cX6_uptime 10 = .ok (.iload_n 1, 1) := by decide +kernel
theorem dX6_uptime_11 : decode cX6_uptime 11 = .ok (.iload_n 2, 1) := by decide +kernel
theorem dX6_uptime_12 : decode cX6_uptime 12 = .ok (.invokevirtual 259, 3) := by decide +kernel
theorem dX6_uptime_15 : decode cX6_uptime 15 = .ok (.istore_n 3, 1) := by decide +kernel
theorem dX6_uptime_16 : decode cX6_uptime 16 = .ok (.iload_n 3, 1) := by decide +kernel
theorem dX6_uptime_17 : decode cX6_uptime 17 = .ok (.iconst (-1), 1) := by decide +kernel
theorem dX6_uptime_18 : decode cX6_uptime 18 = .ok (.if_icmp .ne 14, 3) := by decide +kernel
theorem dX6_uptime_21 : decode cX6_uptime 21 = .ok (.new 84, 3) := by decide +kernel
theorem dX6_uptime_24 : decode cX6_uptime 24 = .ok (.dup, 1) := by decide +kernel
theorem dX6_uptime_25 : decode cX6_uptime 25 = .ok (.ldc_w 262, 3) := by decide +kernel
theorem dX6_uptime_28 : decode cX6_uptime 28 = .ok (.invokespecial 88, 3) := by decide +kernel
theorem dX6_uptime_31 : decode cX6_uptime 31 = .ok (.athrow, 1) := by decide +kernel
theorem dX6_uptime_32 : decode cX6_uptime 32 = .ok (.iload_n 3, 1) := by decide +kernel
theorem dX6_uptime_33 : decode cX6_uptime 33 = .ok (.ireturn, 1) := by decide +kernel
theorem dX6_uptimeByMinutes_0 : decode cX6_uptimeByMinutes 0 = .ok (.aload_n 0, 1) := by decide +kernel
theorem dX6_uptimeByMinutes_1 : decode cX6_uptimeByMinutes 1 = .ok (.iload_n 1, 1) := by decide +kernel
theorem dX6_uptimeByMinutes_2 : decode cX6_uptimeByMinutes 2 = .ok (.invokevirtual 58, 3) := by decide +kernel
theorem dX6_uptimeByMinutes_5 : decode cX6_uptimeByMinutes 5 = .ok (.iload_n 2, 1) := by decide +kernel
theorem dX6_uptimeByMinutes_6 : decode cX6_uptimeByMinutes 6 = .ok (.invokestatic 253, 3) := by decide +kernel
theorem dX6_uptimeByMinutes_9 : decode cX6_uptimeByMinutes 9 = .ok (.aload_n 0, 1) := by decide +kernel
theorem dX6_uptimeByMinutes_10 : decode cX6_uptimeByMinutes 10 = .ok (.iload_n 1, 1) := by decide +kernel
theorem dX6_uptimeByMinutes_11 : decode cX6_uptimeByMinutes 11 = .ok (.iload_n 2, 1) := by decide +kernel
theorem dX6_uptimeByMinutes_12 : decode cX6_uptimeByMinutes 12 = .ok (.invokevirtual 264, 3) := by decide +kernel
theorem dX6_uptimeByMinutes_15 : decode cX6_uptimeByMinutes 15 = .ok (.istore_n 3, 1) := by decide +kernel
theorem dX6_uptimeByMinutes_16 : decode cX6_uptimeByMinutes 16 = .ok (.iload_n 3, 1) := by decide +kernel
theorem dX6_uptimeByMinutes_17 : decode cX6_uptimeByMinutes 17 = .ok (.iconst (-1), 1) := by decide +kernel
theorem dX6_uptimeByMinutes_18 : decode cX6_uptimeByMinutes 18 = .ok (.if_icmp .ne 14, 3) := by decide +kernel
theorem dX6_uptimeByMinutes_21 : decode cX6_uptimeByMinutes 21 = .ok (.new 84, 3) := by decide +kernel
theorem dX6_uptimeByMinutes_24 : decode cX6_uptimeByMinutes 24 = .ok (.dup, 1) := by decide +kernel
theorem dX6_uptimeByMinutes_25 : decode cX6_uptimeByMinutes 25 = .ok (.ldc_w 262, 3) := by decide +kernel
theorem dX6_uptimeByMinutes_28 : decode cX6_uptimeByMinutes 28 = .ok (.invokespecial 88, 3) := by decide +kernel
theorem dX6_uptimeByMinutes_31 : decode cX6_uptimeByMinutes 31 = .ok (.athrow, 1) := by decide +kernel
theorem dX6_uptimeByMinutes_32 : decode cX6_uptimeByMinutes 32 = .ok (.iload_n 3, 1) := by decide +kernel
theorem dX6_uptimeByMinutes_33 : decode cX6_uptimeByMinutes 33 = .ok (.ireturn, 1) := by decide +kernel
theorem dX6_excusedShare_0 : decode cX6_excusedShare 0 = .ok (.aload_n 0, 1) := by decide +kernel
theorem dX6_excusedShare_1 : decode cX6_excusedShare 1 = .ok (.iload_n 1, 1) := by decide +kernel
theorem dX6_excusedShare_2 : decode cX6_excusedShare 2 = .ok (.invokevirtual 58, 3) := by decide +kernel
theorem dX6_excusedShare_5 : decode cX6_excusedShare 5 = .ok (.aload_n 0, 1) := by decide +kernel
theorem dX6_excusedShare_6 : decode cX6_excusedShare 6 = .ok (.getfield 54, 3) := by decide +kernel
theorem dX6_excusedShare_9 : decode cX6_excusedShare 9 = .ok (.ifCond .ne 14, 3) := by decide +kernel
theorem dX6_excusedShare_12 : decode cX6_excusedShare 12 = .ok (.new 267, 3) := by decide +kernel
theorem dX6_excusedShare_15 : decode cX6_excusedShare 15 = .ok (.dup, 1) := by decide +kernel
theorem dX6_excusedShare_16 : decode cX6_excusedShare 16 = .ok (.ldc_w 269, 3) := by decide +kernel
theorem dX6_excusedShare_19 : decode cX6_excusedShare 19 = .ok (.invokespecial 271, 3) := by decide +kernel
theorem dX6_excusedShare_22 : decode cX6_excusedShare 22 = .ok (.athrow, 1) := by decide +kernel
theorem dX6_excusedShare_23 : decode cX6_excusedShare 23 = .ok (.aload_n 0, 1) := by decide +kernel
theorem dX6_excusedShare_24 : decode cX6_excusedShare 24 = .ok (.getfield 33, 3) := by decide +kernel
theorem dX6_excusedShare_27 : decode cX6_excusedShare 27 = .ok (.aload_n 0, 1) := by decide +kernel
theorem dX6_excusedShare_28 : decode cX6_excusedShare 28 = .ok (.getfield 10, 3) := by decide +kernel
theorem dX6_excusedShare_31 : decode cX6_excusedShare 31 = .ok (.getfield 236, 3) := by decide +kernel
theorem dX6_excusedShare_34 : decode cX6_excusedShare 34 = .ok (.iload_n 1, 1) := by decide +kernel
theorem dX6_excusedShare_35 : decode cX6_excusedShare 35 = .ok (.iaload, 1) := by decide +kernel
theorem dX6_excusedShare_36 : decode cX6_excusedShare 36 = .ok (.iconst 0, 1) := by decide +kernel
theorem dX6_excusedShare_37 : decode cX6_excusedShare 37 = .ok (.aload_n 0, 1) := by decide +kernel
theorem dX6_excusedShare_38 : decode cX6_excusedShare 38 = .ok (.getfield 54, 3) := by decide +kernel
theorem dX6_excusedShare_41 : decode cX6_excusedShare 41 = .ok (.invokevirtual 256, 3) := by decide +kernel
theorem dX6_excusedShare_44 : decode cX6_excusedShare 44 = .ok (.istore_n 2, 1) := by decide +kernel
theorem dX6_excusedShare_45 : decode cX6_excusedShare 45 = .ok (.iload_n 2, 1) := by decide +kernel
theorem dX6_excusedShare_46 : decode cX6_excusedShare 46 = .ok (.i2f, 1) := by decide +kernel
theorem dX6_excusedShare_47 : decode cX6_excusedShare 47 = .ok (.aload_n 0, 1) := by decide +kernel
theorem dX6_excusedShare_48 : decode cX6_excusedShare 48 = .ok (.getfield 54, 3) := by decide +kernel
theorem dX6_excusedShare_51 : decode cX6_excusedShare 51 = .ok (.i2f, 1) := by decide +kernel
theorem dX6_excusedShare_52 : decode cX6_excusedShare 52 = .ok (.fdiv, 1) := by decide +kernel
theorem dX6_excusedShare_53 : decode cX6_excusedShare 53 = .ok (.freturn, 1) := by decide +kernel
theorem dX6_meanUptime_0 : decode cX6_meanUptime 0 = .ok (.iload_n 1, 1) := by decide +kernel
theorem dX6_meanUptime_1 : decode cX6_meanUptime 1 = .ok (.invokestatic 253, 3) := by decide +kernel
theorem dX6_meanUptime_4 : decode cX6_meanUptime 4 = .ok (.iconst 0, 1) := by decide +kernel
theorem dX6_meanUptime_5 : decode cX6_meanUptime 5 = .ok (.istore_n 2, 1) := by decide +kernel
theorem dX6_meanUptime_6 : decode cX6_meanUptime 6 = .ok (.iconst 0, 1) := by decide +kernel
theorem dX6_meanUptime_7 : decode cX6_meanUptime 7 = .ok (.istore_n 3, 1) := by decide +kernel
theorem dX6_meanUptime_8 : decode cX6_meanUptime 8 = .ok (.iconst 0, 1) := by decide +kernel
theorem dX6_meanUptime_9 : decode cX6_meanUptime 9 = .ok (.istore 4, 2) := by decide +kernel
theorem dX6_meanUptime_11 : decode cX6_meanUptime 11 = .ok (.iload 4, 2) := by decide +kernel
theorem dX6_meanUptime_13 : decode cX6_meanUptime 13 = .ok (.aload_n 0, 1) := by decide +kernel
theorem dX6_meanUptime_14 : decode cX6_meanUptime 14 = .ok (.getfield 10, 3) := by decide +kernel
theorem dX6_meanUptime_17 : decode cX6_meanUptime 17 = .ok (.getfield 81, 3) := by decide +kernel
theorem dX6_meanUptime_20 : decode cX6_meanUptime 20 = .ok (.if_icmp .ge 32, 3) := by decide +kernel
theorem dX6_meanUptime_23 : decode cX6_meanUptime 23 = .ok (.aload_n 0, 1) := by decide +kernel
theorem dX6_meanUptime_24 : decode cX6_meanUptime 24 = .ok (.iload 4, 2) := by decide +kernel
theorem dX6_meanUptime_26 : decode cX6_meanUptime 26 = .ok (.iload_n 1, 1) := by decide +kernel
theorem dX6_meanUptime_27 : decode cX6_meanUptime 27 = .ok (.invokevirtual 259, 3) := by decide +kernel
theorem dX6_meanUptime_30 : decode cX6_meanUptime 30 = .ok (.istore 5, 2) := by decide +kernel
theorem dX6_meanUptime_32 : decode cX6_meanUptime 32 = .ok (.iload 5, 2) := by decide +kernel
theorem dX6_meanUptime_34 : decode cX6_meanUptime 34 = .ok (.iconst (-1), 1) := by decide +kernel
theorem dX6_meanUptime_35 : decode cX6_meanUptime 35 = .ok (.if_icmp .eq 11, 3) := by decide +kernel
theorem dX6_meanUptime_38 : decode cX6_meanUptime 38 = .ok (.iload_n 2, 1) := by decide +kernel
theorem dX6_meanUptime_39 : decode cX6_meanUptime 39 = .ok (.iload 5, 2) := by decide +kernel
theorem dX6_meanUptime_41 : decode cX6_meanUptime 41 = .ok (.iadd, 1) := by decide +kernel
theorem dX6_meanUptime_42 : decode cX6_meanUptime 42 = .ok (.istore_n 2, 1) := by decide +kernel
theorem dX6_meanUptime_43 : decode cX6_meanUptime 43 = .ok (.iinc 3 1, 3) := by decide +kernel
theorem dX6_meanUptime_46 : decode cX6_meanUptime 46 = .ok (.iinc 4 1, 3) := by decide +kernel
theorem dX6_meanUptime_49 : decode cX6_meanUptime 49 = .ok (.goto (-38), 3) := by decide +kernel
theorem dX6_meanUptime_52 : decode cX6_meanUptime 52 = .ok (.iload_n 3, 1) := by decide +kernel
theorem dX6_meanUptime_53 : decode cX6_meanUptime 53 = .ok (.ifCond .ne 14, 3) := by decide +kernel
theorem dX6_meanUptime_56 : decode cX6_meanUptime 56 = .ok (.new 267, 3) := by decide +kernel
theorem dX6_meanUptime_59 : decode cX6_meanUptime 59 = .ok (.dup, 1) := by decide +kernel
theorem dX6_meanUptime_60 : decode cX6_meanUptime 60 = .ok (.ldc_w 272, 3) := by decide +kernel
theorem dX6_meanUptime_63 : decode cX6_meanUptime 63 = .ok (.invokespecial 271, 3) := by decide +kernel
theorem dX6_meanUptime_66 : decode cX6_meanUptime 66 = .ok (.athrow, 1) := by decide +kernel
theorem dX6_meanUptime_67 : decode cX6_meanUptime 67 = .ok (.iload_n 2, 1) := by decide +kernel
theorem dX6_meanUptime_68 : decode cX6_meanUptime 68 = .ok (.i2d, 1) := by decide +kernel
theorem dX6_meanUptime_69 : decode cX6_meanUptime 69 = .ok (.iload_n 3, 1) := by decide +kernel
theorem dX6_meanUptime_70 : decode cX6_meanUptime 70 = .ok (.i2d, 1) := by decide +kernel
theorem dX6_meanUptime_71 : decode cX6_meanUptime 71 = .ok (.ddiv, 1) := by decide +kernel
theorem dX6_meanUptime_72 : decode cX6_meanUptime 72 = .ok (.dreturn, 1) := by decide +kernel
theorem dX6_open_0 : decode cX6_open 0 = .ok (.aload_n 0, 1) := by decide +kernel
theorem dX6_open_1 : decode cX6_open 1 = .ok (.getfield 26, 3) := by decide +kernel
theorem dX6_open_4 : decode cX6_open 4 = .ok (.invokevirtual 165, 3) := by decide +kernel
theorem dX6_open_7 : decode cX6_open 7 = .ok (.ireturn, 1) := by decide +kernel
theorem dX6_nextIncident_0 : decode cX6_nextIncident 0 = .ok (.aload_n 0, 1) := by decide +kernel
theorem dX6_nextIncident_1 : decode cX6_nextIncident 1 = .ok (.getfield 26, 3) := by decide +kernel
theorem dX6_nextIncident_4 : decode cX6_nextIncident 4 = .ok (.invokevirtual 274, 3) := by decide +kernel
theorem dX6_nextIncident_7 : decode cX6_nextIncident 7 = .ok (.istore_n 1, 1) := by decide +kernel
theorem dX6_nextIncident_8 : decode cX6_nextIncident 8 = .ok (.iload_n 1, 1) := by decide +kernel
theorem dX6_nextIncident_9 : decode cX6_nextIncident 9 = .ok (.iconst (-1), 1) := by decide +kernel
theorem dX6_nextIncident_10 : decode cX6_nextIncident 10 = .ok (.if_icmp .ne 14, 3) := by decide +kernel
theorem dX6_nextIncident_13 : decode cX6_nextIncident 13 = .ok (.new 192, 3) := by decide +kernel
theorem dX6_nextIncident_16 : decode cX6_nextIncident 16 = .ok (.dup, 1) := by decide +kernel
theorem dX6_nextIncident_17 : decode cX6_nextIncident 17 = .ok (.ldc_w 277, 3) := by decide +kernel
theorem dX6_nextIncident_20 : decode cX6_nextIncident 20 = .ok (.invokespecial 196, 3) := by decide +kernel
theorem dX6_nextIncident_23 : decode cX6_nextIncident 23 = .ok (.athrow, 1) := by decide +kernel
theorem dX6_nextIncident_24 : decode cX6_nextIncident 24 = .ok (.iload_n 1, 1) := by decide +kernel
theorem dX6_nextIncident_25 : decode cX6_nextIncident 25 = .ok (.ireturn, 1) := by decide +kernel
theorem dX6_levelOf_0 : decode cX6_levelOf 0 = .ok (.aload_n 0, 1) := by decide +kernel
theorem dX6_levelOf_1 : decode cX6_levelOf 1 = .ok (.iload_n 1, 1) := by decide +kernel
theorem dX6_levelOf_2 : decode cX6_levelOf 2 = .ok (.invokevirtual 146, 3) := by decide +kernel
theorem dX6_levelOf_5 : decode cX6_levelOf 5 = .ok (.aload_n 0, 1) := by decide +kernel
theorem dX6_levelOf_6 : decode cX6_levelOf 6 = .ok (.getfield 26, 3) := by decide +kernel
theorem dX6_levelOf_9 : decode cX6_levelOf 9 = .ok (.getfield 160, 3) := by decide +kernel
theorem dX6_levelOf_12 : decode cX6_levelOf 12 = .ok (.iload_n 1, 1) := by decide +kernel
theorem dX6_levelOf_13 : decode cX6_levelOf 13 = .ok (.iaload, 1) := by decide +kernel
theorem dX6_levelOf_14 : decode cX6_levelOf 14 = .ok (.ireturn, 1) := by decide +kernel
theorem dX6_startOf_0 : decode cX6_startOf 0 = .ok (.aload_n 0, 1) := by decide +kernel
theorem dX6_startOf_1 : decode cX6_startOf 1 = .ok (.iload_n 1, 1) := by decide +kernel
theorem dX6_startOf_2 : decode cX6_startOf 2 = .ok (.invokevirtual 146, 3) := by decide +kernel
theorem dX6_startOf_5 : decode cX6_startOf 5 = .ok (.aload_n 0, 1) := by decide +kernel
theorem dX6_startOf_6 : decode cX6_startOf 6 = .ok (.getfield 26, 3) := by decide +kernel
theorem dX6_startOf_9 : decode cX6_startOf 9 = .ok (.getfield 154, 3) := by decide +kernel
theorem dX6_startOf_12 : decode cX6_startOf 12 = .ok (.iload_n 1, 1) := by decide +kernel
theorem dX6_startOf_13 : decode cX6_startOf 13 = .ok (.iaload, 1) := by decide +kernel
theorem dX6_startOf_14 : decode cX6_startOf 14 = .ok (.ireturn, 1) := by decide +kernel
theorem dX6_endOf_0 : decode cX6_endOf 0 = .ok (.aload_n 0, 1) := by decide +kernel
theorem dX6_endOf_1 : decode cX6_endOf 1 = .ok (.iload_n 1, 1) := by decide +kernel
theorem dX6_endOf_2 : decode cX6_endOf 2 = .ok (.invokevirtual 146, 3) := by decide +kernel
theorem dX6_endOf_5 : decode cX6_endOf 5 = .ok (.aload_n 0, 1) := by decide +kernel
theorem dX6_endOf_6 : decode cX6_endOf 6 = .ok (.getfield 26, 3) := by decide +kernel
theorem dX6_endOf_9 : decode cX6_endOf 9 = .ok (.getfield 157, 3) := by decide +kernel
theorem dX6_endOf_12 : decode cX6_endOf 12 = .ok (.iload_n 1, 1) := by decide +kernel
theorem dX6_endOf_13 : decode cX6_endOf 13 = .ok (.iaload, 1) := by decide +kernel
theorem dX6_endOf_14 : decode cX6_endOf 14 = .ok (.ireturn, 1) := by decide +kernel
theorem dX6_caseOf_0 : decode cX6_caseOf 0 = .ok (.aload_n 0, 1) := by decide +kernel
theorem dX6_caseOf_1 : decode cX6_caseOf 1 = .ok (.iload_n 1, 1) := by decide +kernel
theorem dX6_caseOf_2 : decode cX6_caseOf 2 = .ok (.invokevirtual 146, 3) := by decide +kernel
theorem dX6_caseOf_5 : decode cX6_caseOf 5 = .ok (.aload_n 0, 1) := by decide +kernel
theorem dX6_caseOf_6 : decode cX6_caseOf 6 = .ok (.getfield 26, 3) := by decide +kernel
theorem dX6_caseOf_9 : decode cX6_caseOf 9 = .ok (.getfield 169, 3) := by decide +kernel
theorem dX6_caseOf_12 : decode cX6_caseOf 12 = .ok (.iload_n 1, 1) := by decide +kernel
theorem dX6_caseOf_13 : decode cX6_caseOf 13 = .ok (.iaload, 1) := by decide +kernel
theorem dX6_caseOf_14 : decode cX6_caseOf 14 = .ok (.ireturn, 1) := by decide +kernel
theorem dX6_cases_0 : decode cX6_cases 0 = .ok (.aload_n 0, 1) := by decide +kernel
theorem dX6_cases_1 : decode cX6_cases 1 = .ok (.getfield 26, 3) := by decide +kernel
theorem dX6_cases_4 : decode cX6_cases 4 = .ok (.invokevirtual 279, 3) := by decide +kernel
theorem dX6_cases_7 : decode cX6_cases 7 = .ok (.ireturn, 1) := by decide +kernel
theorem dX6_caseMinutes_0 : decode cX6_caseMinutes 0 = .ok (.aload_n 0, 1) := by decide +kernel
theorem dX6_caseMinutes_1 : decode cX6_caseMinutes 1 = .ok (.iload_n 1, 1) := by decide +kernel
theorem dX6_caseMinutes_2 : decode cX6_caseMinutes 2 = .ok (.invokevirtual 146, 3) := by decide +kernel
theorem dX6_caseMinutes_5 : decode cX6_caseMinutes 5 = .ok (.aload_n 0, 1) := by decide +kernel
theorem dX6_caseMinutes_6 : decode cX6_caseMinutes 6 = .ok (.getfield 26, 3) := by decide +kernel
theorem dX6_caseMinutes_9 : decode cX6_caseMinutes 9 = .ok (.aload_n 0, 1) := by decide +kernel
theorem dX6_caseMinutes_10 : decode cX6_caseMinutes 10 = .ok (.getfield 26, 3) := by decide +kernel
theorem dX6_caseMinutes_13 : decode cX6_caseMinutes 13 = .ok (.getfield 169, 3) := by decide +kernel
theorem dX6_caseMinutes_16 : decode cX6_caseMinutes 16 = .ok (.iload_n 1, 1) := by decide +kernel
theorem dX6_caseMinutes_17 : decode cX6_caseMinutes 17 = .ok (.iaload, 1) := by decide +kernel
theorem dX6_caseMinutes_18 : decode cX6_caseMinutes 18 = .ok (.aload_n 0, 1) := by decide +kernel
theorem dX6_caseMinutes_19 : decode cX6_caseMinutes 19 = .ok (.getfield 54, 3) := by decide +kernel
theorem dX6_caseMinutes_22 : decode cX6_caseMinutes 22 = .ok (.invokevirtual 282, 3) := by decide +kernel
theorem dX6_caseMinutes_25 : decode cX6_caseMinutes 25 = .ok (.ireturn, 1) := by decide +kernel
theorem dX6_subscriptions_0 : decode cX6_subscriptions 0 = .ok (.aload_n 0, 1) := by decide +kernel
theorem dX6_subscriptions_1 : decode cX6_subscriptions 1 = .ok (.iload_n 1, 1) := by decide +kernel
theorem dX6_subscriptions_2 : decode cX6_subscriptions 2 = .ok (.invokevirtual 106, 3) := by decide +kernel
theorem dX6_subscriptions_5 : decode cX6_subscriptions 5 = .ok (.aload_n 0, 1) := by decide +kernel
theorem dX6_subscriptions_6 : decode cX6_subscriptions 6 = .ok (.getfield 19, 3) := by decide +kernel
theorem dX6_subscriptions_9 : decode cX6_subscriptions 9 = .ok (.iload_n 1, 1) := by decide +kernel
theorem dX6_subscriptions_10 : decode cX6_subscriptions 10 = .ok (.invokevirtual 119, 3) := by decide +kernel
theorem dX6_subscriptions_13 : decode cX6_subscriptions 13 = .ok (.ireturn, 1) := by decide +kernel
theorem dX6_mails_0 : decode cX6_mails 0 = .ok (.aload_n 0, 1) := by decide +kernel
theorem dX6_mails_1 : decode cX6_mails 1 = .ok (.getfield 40, 3) := by decide +kernel
theorem dX6_mails_4 : decode cX6_mails 4 = .ok (.getfield 285, 3) := by decide +kernel
theorem dX6_mails_7 : decode cX6_mails 7 = .ok (.ireturn, 1) := by decide +kernel
theorem dX6_mailsTo_0 : decode cX6_mailsTo 0 = .ok (.aload_n 0, 1) := by decide +kernel
theorem dX6_mailsTo_1 : decode cX6_mailsTo 1 = .ok (.iload_n 1, 1) := by decide +kernel
theorem dX6_mailsTo_2 : decode cX6_mailsTo 2 = .ok (.invokevirtual 106, 3) := by decide +kernel
theorem dX6_mailsTo_5 : decode cX6_mailsTo 5 = .ok (.aload_n 0, 1) := by decide +kernel
theorem dX6_mailsTo_6 : decode cX6_mailsTo 6 = .ok (.getfield 40, 3) := by decide +kernel
theorem dX6_mailsTo_9 : decode cX6_mailsTo 9 = .ok (.iload_n 1, 1) := by decide +kernel
theorem dX6_mailsTo_10 : decode cX6_mailsTo 10 = .ok (.invokevirtual 286, 3) := by decide +kernel
theorem dX6_mailsTo_13 : decode cX6_mailsTo 13 = .ok (.ireturn, 1) := by decide +kernel
theorem dX6_mailPerson_0 : decode cX6_mailPerson 0 = .ok (.aload_n 0, 1) := by decide +kernel
theorem dX6_mailPerson_1 : decode cX6_mailPerson 1 = .ok (.iload_n 1, 1) := by decide +kernel
theorem dX6_mailPerson_2 : decode cX6_mailPerson 2 = .ok (.invokevirtual 289, 3) := by decide +kernel
theorem dX6_mailPerson_5 : decode cX6_mailPerson 5 = .ok (.aload_n 0, 1) := by decide +kernel
theorem dX6_mailPerson_6 : decode cX6_mailPerson 6 = .ok (.getfield 40, 3) := by decide +kernel
theorem dX6_mailPerson_9 : decode cX6_mailPerson 9 = .ok (.iload_n 1, 1) := by decide +kernel
theorem dX6_mailPerson_10 : decode cX6_mailPerson 10 = .ok (.iconst 0, 1) := by decide +kernel
theorem dX6_mailPerson_11 : decode cX6_mailPerson 11 = .ok (.invokevirtual 292, 3) := by decide +kernel
theorem dX6_mailPerson_14 : decode cX6_mailPerson 14 = .ok (.ireturn, 1) := by decide +kernel
theorem dX6_mailComponent_0 : decode cX6_mailComponent 0 = .ok (.aload_n 0, 1) := by decide +kernel
theorem dX6_mailComponent_1 : decode cX6_mailComponent 1 = .ok (.iload_n 1, 1) := by decide +kernel
theorem dX6_mailComponent_2 : decode cX6_mailComponent 2 = .ok (.invokevirtual 289, 3) := by decide +kernel
theorem dX6_mailComponent_5 : decode cX6_mailComponent 5 = .ok (.aload_n 0, 1) := by decide +kernel
theorem dX6_mailComponent_6 : decode cX6_mailComponent 6 = .ok (.getfield 40, 3) := by decide +kernel
theorem dX6_mailComponent_9 : decode cX6_mailComponent 9 = .ok (.iload_n 1, 1) := by decide +kernel
theorem dX6_mailComponent_10 : decode cX6_mailComponent 10 = .ok (.iconst 1, 1) := by decide +kernel
theorem dX6_mailComponent_11 : decode cX6_mailComponent 11 = .ok (.invokevirtual 292, 3) := by decide +kernel
theorem dX6_mailComponent_14 : decode cX6_mailComponent 14 = .ok (.ireturn, 1) := by decide +kernel
theorem dX6_mailState_0 : decode cX6_mailState 0 = .ok (.aload_n 0, 1) := by decide +kernel
theorem dX6_mailState_1 : decode cX6_mailState 1 = .ok (.iload_n 1, 1) := by decide +kernel
theorem dX6_mailState_2 : decode cX6_mailState 2 = .ok (.invokevirtual 289, 3) := by decide +kernel
theorem dX6_mailState_5 : decode cX6_mailState 5 = .ok (.aload_n 0, 1) := by decide +kernel
theorem dX6_mailState_6 : decode cX6_mailState 6 = .ok (.getfield 40, 3) := by decide +kernel
theorem dX6_mailState_9 : decode cX6_mailState 9 = .ok (.iload_n 1, 1) := by decide +kernel
theorem dX6_mailState_10 : decode cX6_mailState 10 = .ok (.iconst 2, 1) := by decide +kernel
theorem dX6_mailState_11 : decode cX6_mailState 11 = .ok (.invokevirtual 292, 3) := by decide +kernel
theorem dX6_mailState_14 : decode cX6_mailState 14 = .ok (.invokestatic 232, 3) := by decide +kernel
theorem dX6_mailState_17 : decode cX6_mailState 17 = .ok (.ireturn, 1) := by decide +kernel
theorem dX6_mailMinute_0 : decode cX6_mailMinute 0 = .ok (.aload_n 0, 1) := by decide +kernel
theorem dX6_mailMinute_1 : decode cX6_mailMinute 1 = .ok (.iload_n 1, 1) := by decide +kernel
theorem dX6_mailMinute_2 : decode cX6_mailMinute 2 = .ok (.invokevirtual 289, 3) := by decide +kernel
theorem dX6_mailMinute_5 : decode cX6_mailMinute 5 = .ok (.aload_n 0, 1) := by decide +kernel
theorem dX6_mailMinute_6 : decode cX6_mailMinute 6 = .ok (.getfield 40, 3) := by decide +kernel
theorem dX6_mailMinute_9 : decode cX6_mailMinute 9 = .ok (.iload_n 1, 1) := by decide +kernel
theorem dX6_mailMinute_10 : decode cX6_mailMinute 10 = .ok (.iconst 3, 1) := by decide +kernel
theorem dX6_mailMinute_11 : decode cX6_mailMinute 11 = .ok (.invokevirtual 292, 3) := by decide +kernel
theorem dX6_mailMinute_14 : decode cX6_mailMinute 14 = .ok (.ireturn, 1) := by decide +kernel
theorem dX6_needComponent_0 : decode cX6_needComponent 0 = .ok (.iload_n 1, 1) := by decide +kernel
theorem dX6_needComponent_1 : decode cX6_needComponent 1 = .ok (.ifCond .lt 14, 3) := by decide +kernel
theorem dX6_needComponent_4 : decode cX6_needComponent 4 = .ok (.iload_n 1, 1) := by decide +kernel
theorem dX6_needComponent_5 : decode cX6_needComponent 5 = .ok (.aload_n 0, 1) := by decide +kernel
theorem dX6_needComponent_6 : decode cX6_needComponent 6 = .ok (.getfield 10, 3) := by decide +kernel
theorem dX6_needComponent_9 : decode cX6_needComponent 9 = .ok (.getfield 81, 3) := by decide +kernel
theorem dX6_needComponent_12 : decode cX6_needComponent 12 = .ok (.if_icmp .lt 14, 3) := by decide +kernel
theorem dX6_needComponent_15 : decode cX6_needComponent 15 = .ok (.new 192, 3) := by decide +kernel
theorem dX6_needComponent_18 : decode cX6_needComponent 18 = .ok (.dup, 1) := by decide +kernel
theorem dX6_needComponent_19 : decode cX6_needComponent 19 = .ok (.ldc_w 295, 3) := by decide +kernel
theorem dX6_needComponent_22 : decode cX6_needComponent 22 = .ok (.invokespecial 196, 3) := by decide +kernel
theorem dX6_needComponent_25 : decode cX6_needComponent 25 = .ok (.athrow, 1) := by decide +kernel
theorem dX6_needComponent_26 : decode cX6_needComponent 26 = .ok (.return_, 1) := by decide +kernel
theorem dX6_needPerson_0 : decode cX6_needPerson 0 = .ok (.iload_n 1, 1) := by decide +kernel
theorem dX6_needPerson_1 : decode cX6_needPerson 1 = .ok (.ifCond .lt 14, 3) := by decide +kernel
theorem dX6_needPerson_4 : decode cX6_needPerson 4 = .ok (.iload_n 1, 1) := by decide +kernel
theorem dX6_needPerson_5 : decode cX6_needPerson 5 = .ok (.aload_n 0, 1) := by decide +kernel
theorem dX6_needPerson_6 : decode cX6_needPerson 6 = .ok (.getfield 19, 3) := by decide +kernel
theorem dX6_needPerson_9 : decode cX6_needPerson 9 = .ok (.getfield 100, 3) := by decide +kernel
theorem dX6_needPerson_12 : decode cX6_needPerson 12 = .ok (.if_icmp .lt 14, 3) := by decide +kernel
theorem dX6_needPerson_15 : decode cX6_needPerson 15 = .ok (.new 192, 3) := by decide +kernel
theorem dX6_needPerson_18 : decode cX6_needPerson 18 = .ok (.dup, 1) := by decide +kernel
theorem dX6_needPerson_19 : decode cX6_needPerson 19 = .ok (.ldc_w 297, 3) := by decide +kernel
theorem dX6_needPerson_22 : decode cX6_needPerson 22 = .ok (.invokespecial 196, 3) := by decide +kernel
theorem dX6_needPerson_25 : decode cX6_needPerson 25 = .ok (.athrow, 1) := by decide +kernel
theorem dX6_needPerson_26 : decode cX6_needPerson 26 = .ok (.return_, 1) := by decide +kernel
theorem dX6_needIncident_0 : decode cX6_needIncident 0 = .ok (.iload_n 1, 1) := by decide +kernel
theorem dX6_needIncident_1 : decode cX6_needIncident 1 = .ok (.ifCond .lt 14, 3) := by decide +kernel
theorem dX6_needIncident_4 : decode cX6_needIncident 4 = .ok (.iload_n 1, 1) := by decide +kernel
theorem dX6_needIncident_5 : decode cX6_needIncident 5 = .ok (.aload_n 0, 1) := by decide +kernel
theorem dX6_needIncident_6 : decode cX6_needIncident 6 = .ok (.getfield 26, 3) := by decide +kernel
theorem dX6_needIncident_9 : decode cX6_needIncident 9 = .ok (.getfield 133, 3) := by decide +kernel
theorem dX6_needIncident_12 : decode cX6_needIncident 12 = .ok (.if_icmp .lt 14, 3) := by decide +kernel
theorem dX6_needIncident_15 : decode cX6_needIncident 15 = .ok (.new 192, 3) := by decide +kernel
theorem dX6_needIncident_18 : decode cX6_needIncident 18 = .ok (.dup, 1) := by decide +kernel
theorem dX6_needIncident_19 : decode cX6_needIncident 19 = .ok (.ldc_w 299, 3) := by decide +kernel
theorem dX6_needIncident_22 : decode cX6_needIncident 22 = .ok (.invokespecial 196, 3) := by decide +kernel
theorem dX6_needIncident_25 : decode cX6_needIncident 25 = .ok (.athrow, 1) := by decide +kernel
theorem dX6_needIncident_26 : decode cX6_needIncident 26 = .ok (.return_, 1) := by decide +kernel
theorem dX6_needMail_0 : decode cX6_needMail 0 = .ok (.iload_n 1, 1) := by decide +kernel
theorem dX6_needMail_1 : decode cX6_needMail 1 = .ok (.ifCond .lt 14, 3) := by decide +kernel
theorem dX6_needMail_4 : decode cX6_needMail 4 = .ok (.iload_n 1, 1) := by decide +kernel
theorem dX6_needMail_5 : decode cX6_needMail 5 = .ok (.aload_n 0, 1) := by decide +kernel
theorem dX6_needMail_6 : decode cX6_needMail 6 = .ok (.getfield 40, 3) := by decide +kernel
theorem dX6_needMail_9 : decode cX6_needMail 9 = .ok (.getfield 285, 3) := by decide +kernel
theorem dX6_needMail_12 : decode cX6_needMail 12 = .ok (.if_icmp .lt 14, 3) := by decide +kernel
theorem dX6_needMail_15 : decode cX6_needMail 15 = .ok (.new 192, 3) := by decide +kernel
theorem dX6_needMail_18 : decode cX6_needMail 18 = .ok (.dup, 1) := by decide +kernel
theorem dX6_needMail_19 : decode cX6_needMail 19 = .ok (.ldc_w 301, 3) := by decide +kernel
theorem dX6_needMail_22 : decode cX6_needMail 22 = .ok (.invokespecial 196, 3) := by decide +kernel
theorem dX6_needMail_25 : decode cX6_needMail 25 = .ok (.athrow, 1) := by decide +kernel
theorem dX6_needMail_26 : decode cX6_needMail 26 = .ok (.return_, 1) := by decide +kernel
theorem dX6_needWeight_0 : decode cX6_needWeight 0 = .ok (.iload_n 0, 1) := by decide +kernel
theorem dX6_needWeight_1 : decode cX6_needWeight 1 = .ok (.iconst 1, 1) := by decide +kernel
theorem dX6_needWeight_2 : decode cX6_needWeight 2 = .ok (.if_icmp .lt 9, 3) := by decide +kernel
theorem dX6_needWeight_5 : decode cX6_needWeight 5 = .ok (.iload_n 0, 1) := by decide +kernel
theorem dX6_needWeight_6 : decode cX6_needWeight 6 = .ok (.bipush 9, 2) := by decide +kernel
theorem dX6_needWeight_8 : decode cX6_needWeight 8 = .ok (.if_icmp .le 14, 3) := by decide +kernel
theorem dX6_needWeight_11 : decode cX6_needWeight 11 = .ok (.new 65, 3) := by decide +kernel
theorem dX6_needWeight_14 : decode cX6_needWeight 14 = .ok (.dup, 1) := by decide +kernel
theorem dX6_needWeight_15 : decode cX6_needWeight 15 = .ok (.ldc_w 303, 3) := by decide +kernel
theorem dX6_needWeight_18 : decode cX6_needWeight 18 = .ok (.invokespecial 69, 3) := by decide +kernel
theorem dX6_needWeight_21 : decode cX6_needWeight 21 = .ok (.athrow, 1) := by decide +kernel
theorem dX6_needWeight_22 : decode cX6_needWeight 22 = .ok (.return_, 1) := by decide +kernel
theorem dX6_needLevel_0 : decode cX6_needLevel 0 = .ok (.iload_n 0, 1) := by decide +kernel
theorem dX6_needLevel_1 : decode cX6_needLevel 1 = .ok (.iconst 1, 1) := by decide +kernel
theorem dX6_needLevel_2 : decode cX6_needLevel 2 = .ok (.if_icmp .lt 8, 3) := by decide +kernel
theorem dX6_needLevel_5 : decode cX6_needLevel 5 = .ok (.iload_n 0, 1) := by decide +kernel
theorem dX6_needLevel_6 : decode cX6_needLevel 6 = .ok (.iconst 3, 1) := by decide +kernel
theorem dX6_needLevel_7 : decode cX6_needLevel 7 = .ok (.if_icmp .le 14, 3) := by decide +kernel
theorem dX6_needLevel_10 : decode cX6_needLevel 10 = .ok (.new 65, 3) := by decide +kernel
theorem dX6_needLevel_13 : decode cX6_needLevel 13 = .ok (.dup, 1) := by decide +kernel
theorem dX6_needLevel_14 : decode cX6_needLevel 14 = .ok (.ldc_w 305, 3) := by decide +kernel
theorem dX6_needLevel_17 : decode cX6_needLevel 17 = .ok (.invokespecial 69, 3) := by decide +kernel
theorem dX6_needLevel_20 : decode cX6_needLevel 20 = .ok (.athrow, 1) := by decide +kernel
theorem dX6_needLevel_21 : decode cX6_needLevel 21 = .ok (.return_, 1) := by decide +kernel
theorem dX6_needMinute_0 : decode cX6_needMinute 0 = .ok (.iload_n 0, 1) := by decide +kernel
theorem dX6_needMinute_1 : decode cX6_needMinute 1 = .ok (.iload_n 1, 1) := by decide +kernel
theorem dX6_needMinute_2 : decode cX6_needMinute 2 = .ok (.if_icmp .lt 8, 3) := by decide +kernel
theorem dX6_needMinute_5 : decode cX6_needMinute 5 = .ok (.iload_n 0, 1) := by decide +kernel
theorem dX6_needMinute_6 : decode cX6_needMinute 6 = .ok (.iload_n 2, 1) := by decide +kernel
theorem dX6_needMinute_7 : decode cX6_needMinute 7 = .ok (.if_icmp .le 14, 3) := by decide +kernel
theorem dX6_needMinute_10 : decode cX6_needMinute 10 = .ok (.new 65, 3) := by decide +kernel
theorem dX6_needMinute_13 : decode cX6_needMinute 13 = .ok (.dup, 1) := by decide +kernel
theorem dX6_needMinute_14 : decode cX6_needMinute 14 = .ok (.ldc_w 307, 3) := by decide +kernel
theorem dX6_needMinute_17 : decode cX6_needMinute 17 = .ok (.invokespecial 69, 3) := by decide +kernel
theorem dX6_needMinute_20 : decode cX6_needMinute 20 = .ok (.athrow, 1) := by decide +kernel
theorem dX6_needMinute_21 : decode cX6_needMinute 21 = .ok (.return_, 1) := by decide +kernel
theorem dX6_needMonth_0 : decode cX6_needMonth 0 = .ok (.iload_n 0, 1) := by decide +kernel
theorem dX6_needMonth_1 : decode cX6_needMonth 1 = .ok (.ifCond .lt 9, 3) := by decide +kernel
theorem dX6_needMonth_4 : decode cX6_needMonth 4 = .ok (.iload_n 0, 1) := by decide +kernel
theorem dX6_needMonth_5 : decode cX6_needMonth 5 = .ok (.bipush 16, 2) := by decide +kernel
theorem dX6_needMonth_7 : decode cX6_needMonth 7 = .ok (.if_icmp .le 14, 3) := by decide +kernel
theorem dX6_needMonth_10 : decode cX6_needMonth 10 = .ok (.new 65, 3) := by decide +kernel
theorem dX6_needMonth_13 : decode cX6_needMonth 13 = .ok (.dup, 1) := by decide +kernel
theorem dX6_needMonth_14 : decode cX6_needMonth 14 = .ok (.ldc_w 309, 3) := by decide +kernel
theorem dX6_needMonth_17 : decode cX6_needMonth 17 = .ok (.invokespecial 69, 3) := by decide +kernel
theorem dX6_needMonth_20 : decode cX6_needMonth 20 = .ok (.athrow, 1) := by decide +kernel
theorem dX6_needMonth_21 : decode cX6_needMonth 21 = .ok (.return_, 1) := by decide +kernel
theorem dX6_signOf_0 : decode cX6_signOf 0 = .ok (.iload_n 0, 1) := by decide +kernel
theorem dX6_signOf_1 : decode cX6_signOf 1 = .ok (.tableswitch 36 0 2 #[27, 30, 33], 27) := by decide +kernel
theorem dX6_signOf_28 : decode cX6_signOf 28 = .ok (.bipush 117, 2) := by decide +kernel
theorem dX6_signOf_30 : decode cX6_signOf 30 = .ok (.ireturn, 1) := by decide +kernel
theorem dX6_signOf_31 : decode cX6_signOf 31 = .ok (.bipush 100, 2) := by decide +kernel
theorem dX6_signOf_33 : decode cX6_signOf 33 = .ok (.ireturn, 1) := by decide +kernel
theorem dX6_signOf_34 : decode cX6_signOf 34 = .ok (.bipush 112, 2) := by decide +kernel
theorem dX6_signOf_36 : decode cX6_signOf 36 = .ok (.ireturn, 1) := by decide +kernel
theorem dX6_signOf_37 : decode cX6_signOf 37 = .ok (.bipush 109, 2) := by decide +kernel
theorem dX6_signOf_39 : decode cX6_signOf 39 = .ok (.ireturn, 1) := by decide +kernel
theorem dX6_lossOf_0 : decode cX6_lossOf 0 = .ok (.iload_n 0, 1) := by decide +kernel
theorem dX6_lossOf_1 : decode cX6_lossOf 1 = .ok (.tableswitch 35 0 2 #[27, 29, 32], 27) := by decide +kernel
theorem dX6_lossOf_28 : decode cX6_lossOf 28 = .ok (.iconst 0, 1) := by decide +kernel
theorem dX6_lossOf_29 : decode cX6_lossOf 29 = .ok (.ireturn, 1) := by decide +kernel
theorem dX6_lossOf_30 : decode cX6_lossOf 30 = .ok (.bipush 25, 2) := by decide +kernel
theorem dX6_lossOf_32 : decode cX6_lossOf 32 = .ok (.ireturn, 1) := by decide +kernel
theorem dX6_lossOf_33 : decode cX6_lossOf 33 = .ok (.bipush 50, 2) := by decide +kernel
theorem dX6_lossOf_35 : decode cX6_lossOf 35 = .ok (.ireturn, 1) := by decide +kernel
theorem dX6_lossOf_36 : decode cX6_lossOf 36 = .ok (.bipush 100, 2) := by decide +kernel
theorem dX6_lossOf_38 : decode cX6_lossOf 38 = .ok (.ireturn, 1) := by decide +kernel
theorem dX6_levelOfMeanLoss_0 : decode cX6_levelOfMeanLoss 0 = .ok (.iload_n 0, 1) := by decide +kernel
theorem dX6_levelOfMeanLoss_1 : decode cX6_levelOfMeanLoss 1 = .ok (.ifCond .gt 5, 3) := by decide +kernel
theorem dX6_levelOfMeanLoss_4 : decode cX6_levelOfMeanLoss 4 = .ok (.iconst 0, 1) := by decide +kernel
theorem dX6_levelOfMeanLoss_5 : decode cX6_levelOfMeanLoss 5 = .ok (.ireturn, 1) := by decide +kernel
theorem dX6_levelOfMeanLoss_6 : decode cX6_levelOfMeanLoss 6 = .ok (.iload_n 0, 1) := by decide +kernel
theorem dX6_levelOfMeanLoss_7 : decode cX6_levelOfMeanLoss 7 = .ok (.bipush 33, 2) := by decide +kernel
theorem dX6_levelOfMeanLoss_9 : decode cX6_levelOfMeanLoss 9 = .ok (.if_icmp .gt 5, 3) := by decide +kernel
theorem dX6_levelOfMeanLoss_12 : decode cX6_levelOfMeanLoss 12 = .ok (.iconst 1, 1) := by decide +kernel
theorem dX6_levelOfMeanLoss_13 : decode cX6_levelOfMeanLoss 13 = .ok (.ireturn, 1) := by decide +kernel
theorem dX6_levelOfMeanLoss_14 : decode cX6_levelOfMeanLoss 14 = .ok (.iload_n 0, 1) := by decide +kernel
theorem dX6_levelOfMeanLoss_15 : decode cX6_levelOfMeanLoss 15 = .ok (.bipush 66, 2) := by decide +kernel
theorem dX6_levelOfMeanLoss_17 : decode cX6_levelOfMeanLoss 17 = .ok (.if_icmp .gt 7, 3) := by decide +kernel
theorem dX6_levelOfMeanLoss_20 : decode cX6_levelOfMeanLoss 20 = .ok (.iconst 2, 1) := by decide +kernel
theorem dX6_levelOfMeanLoss_21 : decode cX6_levelOfMeanLoss 21 = .ok (.goto 4, 3) := by decide +kernel
theorem dX6_levelOfMeanLoss_24 : decode cX6_levelOfMeanLoss 24 = .ok (.iconst 3, 1) := by decide +kernel
theorem dX6_levelOfMeanLoss_25 : decode cX6_levelOfMeanLoss 25 = .ok (.ireturn, 1) := by decide +kernel
theorem dX6_nearer_0 : decode cX6_nearer 0 = .ok (.iload_n 2, 1) := by decide +kernel
theorem dX6_nearer_1 : decode cX6_nearer 1 = .ok (.iload_n 0, 1) := by decide +kernel
theorem dX6_nearer_2 : decode cX6_nearer 2 = .ok (.if_icmp .le 12, 3) := by decide +kernel
theorem dX6_nearer_5 : decode cX6_nearer 5 = .ok (.iload_n 2, 1) := by decide +kernel
theorem dX6_nearer_6 : decode cX6_nearer 6 = .ok (.iload_n 1, 1) := by decide +kernel
theorem dX6_nearer_7 : decode cX6_nearer 7 = .ok (.if_icmp .ge 7, 3) := by decide +kernel
theorem dX6_nearer_10 : decode cX6_nearer 10 = .ok (.iload_n 2, 1) := by decide +kernel
theorem dX6_nearer_11 : decode cX6_nearer 11 = .ok (.goto 4, 3) := by decide +kernel
theorem dX6_nearer_14 : decode cX6_nearer 14 = .ok (.iload_n 1, 1) := by decide +kernel
theorem dX6_nearer_15 : decode cX6_nearer 15 = .ok (.ireturn, 1) := by decide +kernel
theorem dX6_sendMails_0 : decode cX6_sendMails 0 = .ok (.aload_n 0, 1) := by decide +kernel
theorem dX6_sendMails_1 : decode cX6_sendMails 1 = .ok (.getfield 51, 3) := by decide +kernel
theorem dX6_sendMails_4 : decode cX6_sendMails 4 = .ok (.aload_n 0, 1) := by decide +kernel
theorem dX6_sendMails_5 : decode cX6_sendMails 5 = .ok (.getfield 10, 3) := by decide +kernel
theorem dX6_sendMails_8 : decode cX6_sendMails 8 = .ok (.aload_n 0, 1) := by decide +kernel
theorem dX6_sendMails_9 : decode cX6_sendMails 9 = .ok (.getfield 26, 3) := by decide +kernel
theorem dX6_sendMails_12 : decode cX6_sendMails 12 = .ok (.aload_n 0, 1) := by decide +kernel
theorem dX6_sendMails_13 : decode cX6_sendMails 13 = .ok (.getfield 54, 3) := by decide +kernel
theorem dX6_sendMails_16 : decode cX6_sendMails 16 = .ok (.invokevirtual 136, 3) := by decide +kernel
theorem dX6_sendMails_19 : decode cX6_sendMails 19 = .ok (.iconst 0, 1) := by decide +kernel
theorem dX6_sendMails_20 : decode cX6_sendMails 20 = .ok (.istore_n 1, 1) := by decide +kernel
theorem dX6_sendMails_21 : decode cX6_sendMails 21 = .ok (.iload_n 1, 1) := by decide +kernel
theorem dX6_sendMails_22 : decode cX6_sendMails 22 = .ok (.aload_n 0, 1) := by decide +kernel
theorem dX6_sendMails_23 : decode cX6_sendMails 23 = .ok (.getfield 19, 3) := by decide +kernel
theorem dX6_sendMails_26 : decode cX6_sendMails 26 = .ok (.getfield 100, 3) := by decide +kernel
theorem dX6_sendMails_29 : decode cX6_sendMails 29 = .ok (.if_icmp .ge 42, 3) := by decide +kernel
theorem dX6_sendMails_32 : decode cX6_sendMails 32 = .ok (.aload_n 0, 1) := by decide +kernel
theorem dX6_sendMails_33 : decode cX6_sendMails 33 = .ok (.iload_n 1, 1) := by decide +kernel
theorem dX6_sendMails_34 : decode cX6_sendMails 34 = .ok (.invokevirtual 311, 3) := by decide +kernel
theorem dX6_sendMails_37 : decode cX6_sendMails 37 = .ok (.istore_n 2, 1) := by decide +kernel
theorem dX6_sendMails_38 : decode cX6_sendMails 38 = .ok (.iload_n 2, 1) := by decide +kernel
theorem dX6_sendMails_39 : decode cX6_sendMails 39 = .ok (.iconst (-1), 1) := by decide +kernel
theorem dX6_sendMails_40 : decode cX6_sendMails 40 = .ok (.if_icmp .eq 25, 3) := by decide +kernel
theorem dX6_sendMails_43 : decode cX6_sendMails 43 = .ok (.aload_n 0, 1) := by decide +kernel
theorem dX6_sendMails_44 : decode cX6_sendMails 44 = .ok (.getfield 40, 3) := by decide +kernel
theorem dX6_sendMails_47 : decode cX6_sendMails 47 = .ok (.iload_n 1, 1) := by decide +kernel
theorem dX6_sendMails_48 : decode cX6_sendMails 48 = .ok (.iload_n 2, 1) := by decide +kernel
theorem dX6_sendMails_49 : decode cX6_sendMails 49 = .ok (.aload_n 0, 1) := by decide +kernel
theorem dX6_sendMails_50 : decode cX6_sendMails 50 = .ok (.getfield 51, 3) := by decide +kernel
theorem dX6_sendMails_53 : decode cX6_sendMails 53 = .ok (.getfield 231, 3) := by decide +kernel
theorem dX6_sendMails_56 : decode cX6_sendMails 56 = .ok (.iload_n 2, 1) := by decide +kernel
theorem dX6_sendMails_57 : decode cX6_sendMails 57 = .ok (.iaload, 1) := by decide +kernel
theorem dX6_sendMails_58 : decode cX6_sendMails 58 = .ok (.aload_n 0, 1) := by decide +kernel
theorem dX6_sendMails_59 : decode cX6_sendMails 59 = .ok (.getfield 54, 3) := by decide +kernel
theorem dX6_sendMails_62 : decode cX6_sendMails 62 = .ok (.invokevirtual 314, 3) := by decide +kernel
theorem dX6_sendMails_65 : decode cX6_sendMails 65 = .ok (.iinc 1 1, 3) := by decide +kernel
theorem dX6_sendMails_68 : decode cX6_sendMails 68 = .ok (.goto (-47), 3) := by decide +kernel
theorem dX6_sendMails_71 : decode cX6_sendMails 71 = .ok (.return_, 1) := by decide +kernel
theorem dX6_subjectFor_0 : decode cX6_subjectFor 0 = .ok (.iconst (-1), 1) := by decide +kernel
theorem dX6_subjectFor_1 : decode cX6_subjectFor 1 = .ok (.istore_n 2, 1) := by decide +kernel
theorem dX6_subjectFor_2 : decode cX6_subjectFor 2 = .ok (.iconst 0, 1) := by decide +kernel
theorem dX6_subjectFor_3 : decode cX6_subjectFor 3 = .ok (.istore_n 3, 1) := by decide +kernel
theorem dX6_subjectFor_4 : decode cX6_subjectFor 4 = .ok (.iload_n 3, 1) := by decide +kernel
theorem dX6_subjectFor_5 : decode cX6_subjectFor 5 = .ok (.aload_n 0, 1) := by decide +kernel
theorem dX6_subjectFor_6 : decode cX6_subjectFor 6 = .ok (.getfield 10, 3) := by decide +kernel
theorem dX6_subjectFor_9 : decode cX6_subjectFor 9 = .ok (.getfield 81, 3) := by decide +kernel
theorem dX6_subjectFor_12 : decode cX6_subjectFor 12 = .ok (.if_icmp .ge 44, 3) := by decide +kernel
theorem dX6_subjectFor_15 : decode cX6_subjectFor 15 = .ok (.aload_n 0, 1) := by decide +kernel
theorem dX6_subjectFor_16 : decode cX6_subjectFor 16 = .ok (.iload_n 1, 1) := by decide +kernel
theorem dX6_subjectFor_17 : decode cX6_subjectFor 17 = .ok (.iload_n 3, 1) := by decide +kernel
theorem dX6_subjectFor_18 : decode cX6_subjectFor 18 = .ok (.invokevirtual 317, 3) := by decide +kernel
theorem dX6_subjectFor_21 : decode cX6_subjectFor 21 = .ok (.ifCond .eq 29, 3) := by decide +kernel
theorem dX6_subjectFor_24 : decode cX6_subjectFor 24 = .ok (.iload_n 2, 1) := by decide +kernel
theorem dX6_subjectFor_25 : decode cX6_subjectFor 25 = .ok (.iconst (-1), 1) := by decide +kernel
theorem dX6_subjectFor_26 : decode cX6_subjectFor 26 = .ok (.if_icmp .eq 22, 3) := by decide +kernel
theorem dX6_subjectFor_29 : decode cX6_subjectFor 29 = .ok (.aload_n 0, 1) := by decide +kernel
theorem dX6_subjectFor_30 : decode cX6_subjectFor 30 = .ok (.getfield 10, 3) := by decide +kernel
theorem dX6_subjectFor_33 : decode cX6_subjectFor 33 = .ok (.iload_n 3, 1) := by decide +kernel
theorem dX6_subjectFor_34 : decode cX6_subjectFor 34 = .ok (.invokevirtual 209, 3) := by decide +kernel
theorem dX6_subjectFor_37 : decode cX6_subjectFor 37 = .ok (.aload_n 0, 1) := by decide +kernel
theorem dX6_subjectFor_38 : decode cX6_subjectFor 38 = .ok (.getfield 10, 3) := by decide +kernel
theorem dX6_subjectFor_41 : decode cX6_subjectFor 41 = .ok (.iload_n 2, 1) := by decide +kernel
theorem dX6_subjectFor_42 : decode cX6_subjectFor 42 = .ok (.invokevirtual 209, 3) := by decide +kernel
theorem dX6_subjectFor_45 : decode cX6_subjectFor 45 = .ok (.if_icmp .ge 5, 3) := by decide +kernel
theorem dX6_subjectFor_48 : decode cX6_subjectFor 48 = .ok (.iload_n 3, 1) := by decide +kernel
theorem dX6_subjectFor_49 : decode cX6_subjectFor 49 = .ok (.istore_n 2, 1) := by decide +kernel
theorem dX6_subjectFor_50 : decode cX6_subjectFor 50 = .ok (.iinc 3 1, 3) := by decide +kernel
theorem dX6_subjectFor_53 : decode cX6_subjectFor 53 = .ok (.goto (-49), 3) := by decide +kernel
theorem dX6_subjectFor_56 : decode cX6_subjectFor 56 = .ok (.iload_n 2, 1) := by decide +kernel
theorem dX6_subjectFor_57 : decode cX6_subjectFor 57 = .ok (.ireturn, 1) := by decide +kernel
theorem dX6_concerns_0 : decode cX6_concerns 0 = .ok (.aload_n 0, 1) := by decide +kernel
theorem dX6_concerns_1 : decode cX6_concerns 1 = .ok (.getfield 47, 3) := by decide +kernel
theorem dX6_concerns_4 : decode cX6_concerns 4 = .ok (.getfield 231, 3) := by decide +kernel
theorem dX6_concerns_7 : decode cX6_concerns 7 = .ok (.iload_n 2, 1) := by decide +kernel
theorem dX6_concerns_8 : decode cX6_concerns 8 = .ok (.iaload, 1) := by decide +kernel
theorem dX6_concerns_9 : decode cX6_concerns 9 = .ok (.istore_n 3, 1) := by decide +kernel
theorem dX6_concerns_10 : decode cX6_concerns 10 = .ok (.aload_n 0, 1) := by decide +kernel
theorem dX6_concerns_11 : decode cX6_concerns 11 = .ok (.getfield 51, 3) := by decide +kernel
theorem dX6_concerns_14 : decode cX6_concerns 14 = .ok (.getfield 231, 3) := by decide +kernel
theorem dX6_concerns_17 : decode cX6_concerns 17 = .ok (.iload_n 2, 1) := by decide +kernel
theorem dX6_concerns_18 : decode cX6_concerns 18 = .ok (.iaload, 1) := by decide +kernel
theorem dX6_concerns_19 : decode cX6_concerns 19 = .ok (.istore 4, 2) := by decide +kernel
theorem dX6_concerns_21 : decode cX6_concerns 21 = .ok (.iload_n 3, 1) := by decide +kernel
theorem dX6_concerns_22 : decode cX6_concerns 22 = .ok (.iload 4, 2) := by decide +kernel
theorem dX6_concerns_24 : decode cX6_concerns 24 = .ok (.if_icmp .eq 60, 3) := by decide +kernel
theorem dX6_concerns_27 : decode cX6_concerns 27 = .ok (.iload_n 3, 1) := by decide +kernel
theorem dX6_concerns_28 : decode cX6_concerns 28 = .ok (.iload 4, 2) := by decide +kernel
theorem dX6_concerns_30 : decode cX6_concerns 30 = .ok (.invokestatic 180, 3) := by decide +kernel
theorem dX6_concerns_33 : decode cX6_concerns 33 = .ok (.aload_n 0, 1) := by decide +kernel
theorem dX6_concerns_34 : decode cX6_concerns 34 = .ok (.getfield 19, 3) := by decide +kernel
theorem dX6_concerns_37 : decode cX6_concerns 37 = .ok (.getfield 320, 3) := by decide +kernel
theorem dX6_concerns_40 : decode cX6_concerns 40 = .ok (.iload_n 1, 1) := by decide +kernel
theorem dX6_concerns_41 : decode cX6_concerns 41 = .ok (.iaload, 1) := by decide +kernel
theorem dX6_concerns_42 : decode cX6_concerns 42 = .ok (.if_icmp .lt 42, 3) := by decide +kernel
theorem dX6_concerns_45 : decode cX6_concerns 45 = .ok (.aload_n 0, 1) := by decide +kernel
theorem dX6_concerns_46 : decode cX6_concerns 46 = .ok (.getfield 19, 3) := by decide +kernel
theorem dX6_concerns_49 : decode cX6_concerns 49 = .ok (.iload_n 1, 1) := by decide +kernel
theorem dX6_concerns_50 : decode cX6_concerns 50 = .ok (.iload_n 2, 1) := by decide +kernel
theorem dX6_concerns_51 : decode cX6_concerns 51 = .ok (.invokevirtual 109, 3) := by decide +kernel
theorem dX6_concerns_54 : decode cX6_concerns 54 = .ok (.ifCond .eq 30, 3) := by decide +kernel
theorem dX6_concerns_57 : decode cX6_concerns 57 = .ok (.aload_n 0, 1) := by decide +kernel
theorem dX6_concerns_58 : decode cX6_concerns 58 = .ok (.getfield 33, 3) := by decide +kernel
theorem dX6_concerns_61 : decode cX6_concerns 61 = .ok (.aload_n 0, 1) := by decide +kernel
theorem dX6_concerns_62 : decode cX6_concerns 62 = .ok (.getfield 10, 3) := by decide +kernel
theorem dX6_concerns_65 : decode cX6_concerns 65 = .ok (.getfield 236, 3) := by decide +kernel
theorem dX6_concerns_68 : decode cX6_concerns 68 = .ok (.iload_n 2, 1) := by decide +kernel
theorem dX6_concerns_69 : decode cX6_concerns 69 = .ok (.iaload, 1) := by decide +kernel
theorem dX6_concerns_70 : decode cX6_concerns 70 = .ok (.aload_n 0, 1) := by decide +kernel
theorem dX6_concerns_71 : decode cX6_concerns 71 = .ok (.getfield 54, 3) := by decide +kernel
theorem dX6_concerns_74 : decode cX6_concerns 74 = .ok (.invokevirtual 239, 3) := by decide +kernel
theorem dX6_concerns_77 : decode cX6_concerns 77 = .ok (.ifCond .ne 7, 3) := by decide +kernel
theorem dX6_concerns_80 : decode cX6_concerns 80 = .ok (.iconst 1, 1) := by decide +kernel
theorem dX6_concerns_81 : decode cX6_concerns 81 = .ok (.goto 4, 3) := by decide +kernel
theorem dX6_concerns_84 : decode cX6_concerns 84 = .ok (.iconst 0, 1) := by decide +kernel
theorem dX6_concerns_85 : decode cX6_concerns 85 = .ok (.ireturn, 1) := by decide +kernel
theorem dX6_shareByChanges_0 : decode cX6_shareByChanges 0 = .ok (.iload_n 2, 1) := by decide +kernel
theorem dX6_shareByChanges_1 : decode cX6_shareByChanges 1 = .ok (.sipush 600, 3) := by decide +kernel
theorem dX6_shareByChanges_4 : decode cX6_shareByChanges 4 = .ok (.imul, 1) := by decide +kernel
theorem dX6_shareByChanges_5 : decode cX6_shareByChanges 5 = .ok (.istore_n 3, 1) := by decide +kernel
theorem dX6_shareByChanges_6 : decode cX6_shareByChanges 6 = .ok (.iload_n 3, 1) := by decide +kernel
theorem dX6_shareByChanges_7 : decode cX6_shareByChanges 7 = .ok (.sipush 600, 3) := by decide +kernel
theorem dX6_shareByChanges_10 : decode cX6_shareByChanges 10 = .ok (.iadd, 1) := by decide +kernel
theorem dX6_shareByChanges_11 : decode cX6_shareByChanges 11 = .ok (.aload_n 0, 1) := by decide +kernel
theorem dX6_shareByChanges_12 : decode cX6_shareByChanges 12 = .ok (.getfield 54, 3) := by decide +kernel
theorem dX6_shareByChanges_15 : decode cX6_shareByChanges 15 = .ok (.invokestatic 174, 3) := by decide +kernel
theorem dX6_shareByChanges_18 : decode cX6_shareByChanges 18 = .ok (.istore 4, 2) := by decide +kernel
theorem dX6_shareByChanges_20 : decode cX6_shareByChanges 20 = .ok (.iconst 0, 1) := by decide +kernel
theorem dX6_shareByChanges_21 : decode cX6_shareByChanges 21 = .ok (.istore 5, 2) := by decide +kernel
theorem dX6_shareByChanges_23 : decode cX6_shareByChanges 23 = .ok (.iconst 0, 1) := by decide +kernel
theorem dX6_shareByChanges_24 : decode cX6_shareByChanges 24 = .ok (.istore 6, 2) := by decide +kernel
theorem dX6_shareByChanges_26 : decode cX6_shareByChanges 26 = .ok (.iconst 0, 1) := by decide +kernel
theorem dX6_shareByChanges_27 : decode cX6_shareByChanges 27 = .ok (.istore 7, 2) := by decide +kernel
theorem dX6_shareByChanges_29 : decode cX6_shareByChanges 29 = .ok (.iload 7, 2) := by decide +kernel
theorem dX6_shareByChanges_31 : decode cX6_shareByChanges 31 = .ok (.sipush 600, 3) := by decide +kernel
theorem dX6_shareByChanges_34 : decode cX6_shareByChanges 34 = .ok (.if_icmp .ge 108, 3) := by decide +kernel
theorem dX6_shareByChanges_37 : decode cX6_shareByChanges 37 = .ok (.iload_n 3, 1) := by decide +kernel
theorem dX6_shareByChanges_38 : decode cX6_shareByChanges 38 = .ok (.iload 4, 2) := by decide +kernel
theorem dX6_shareByChanges_40 : decode cX6_shareByChanges 40 = .ok (.if_icmp .ge 102, 3) := by decide +kernel
theorem dX6_shareByChanges_43 : decode cX6_shareByChanges 43 = .ok (.aload_n 0, 1) := by decide +kernel
theorem dX6_shareByChanges_44 : decode cX6_shareByChanges 44 = .ok (.getfield 26, 3) := by decide +kernel
theorem dX6_shareByChanges_47 : decode cX6_shareByChanges 47 = .ok (.iload_n 3, 1) := by decide +kernel
theorem dX6_shareByChanges_48 : decode cX6_shareByChanges 48 = .ok (.aload_n 0, 1) := by decide +kernel
theorem dX6_shareByChanges_49 : decode cX6_shareByChanges 49 = .ok (.getfield 33, 3) := by decide +kernel
theorem dX6_shareByChanges_52 : decode cX6_shareByChanges 52 = .ok (.iload_n 3, 1) := by decide +kernel
theorem dX6_shareByChanges_53 : decode cX6_shareByChanges 53 = .ok (.iload 4, 2) := by decide +kernel
theorem dX6_shareByChanges_55 : decode cX6_shareByChanges 55 = .ok (.invokevirtual 323, 3) := by decide +kernel
theorem dX6_shareByChanges_58 : decode cX6_shareByChanges 58 = .ok (.invokevirtual 326, 3) := by decide +kernel
theorem dX6_shareByChanges_61 : decode cX6_shareByChanges 61 = .ok (.istore 8, 2) := by decide +kernel
theorem dX6_shareByChanges_63 : decode cX6_shareByChanges 63 = .ok (.aload_n 0, 1) := by decide +kernel
theorem dX6_shareByChanges_64 : decode cX6_shareByChanges 64 = .ok (.getfield 33, 3) := by decide +kernel
theorem dX6_shareByChanges_67 : decode cX6_shareByChanges 67 = .ok (.aload_n 0, 1) := by decide +kernel
theorem dX6_shareByChanges_68 : decode cX6_shareByChanges 68 = .ok (.getfield 10, 3) := by decide +kernel
theorem dX6_shareByChanges_71 : decode cX6_shareByChanges 71 = .ok (.getfield 236, 3) := by decide +kernel
theorem dX6_shareByChanges_74 : decode cX6_shareByChanges 74 = .ok (.iload_n 1, 1) := by decide +kernel
theorem dX6_shareByChanges_75 : decode cX6_shareByChanges 75 = .ok (.iaload, 1) := by decide +kernel
theorem dX6_shareByChanges_76 : decode cX6_shareByChanges 76 = .ok (.iload_n 3, 1) := by decide +kernel
theorem dX6_shareByChanges_77 : decode cX6_shareByChanges 77 = .ok (.invokevirtual 239, 3) := by decide +kernel
theorem dX6_shareByChanges_80 : decode cX6_shareByChanges 80 = .ok (.ifCond .ne 53, 3) := by decide +kernel
theorem dX6_shareByChanges_83 : decode cX6_shareByChanges 83 = .ok (.aload_n 0, 1) := by decide +kernel
theorem dX6_shareByChanges_84 : decode cX6_shareByChanges 84 = .ok (.getfield 51, 3) := by decide +kernel
theorem dX6_shareByChanges_87 : decode cX6_shareByChanges 87 = .ok (.aload_n 0, 1) := by decide +kernel
theorem dX6_shareByChanges_88 : decode cX6_shareByChanges 88 = .ok (.getfield 10, 3) := by decide +kernel
theorem dX6_shareByChanges_91 : decode cX6_shareByChanges 91 = .ok (.aload_n 0, 1) := by decide +kernel
theorem dX6_shareByChanges_92 : decode cX6_shareByChanges 92 = .ok (.getfield 26, 3) := by decide +kernel
theorem dX6_shareByChanges_95 : decode cX6_shareByChanges 95 = .ok (.iload_n 3, 1) := by decide +kernel
theorem dX6_shareByChanges_96 : decode cX6_shareByChanges 96 = .ok (.invokevirtual 136, 3) := by decide +kernel
theorem dX6_shareByChanges_99 : decode cX6_shareByChanges 99 = .ok (.iload 5, 2) := by decide +kernel
theorem dX6_shareByChanges_101 : decode cX6_shareByChanges 101 = .ok (.bipush 100, 2) := by decide +kernel
theorem dX6_shareByChanges_103 : decode cX6_shareByChanges 103 = .ok (.aload_n 0, 1) := by decide +kernel
theorem dX6_shareByChanges_104 : decode cX6_shareByChanges 104 = .ok (.getfield 51, 3) := by decide +kernel
theorem dX6_shareByChanges_107 : decode cX6_shareByChanges 107 = .ok (.getfield 231, 3) := by decide +kernel
theorem dX6_shareByChanges_110 : decode cX6_shareByChanges 110 = .ok (.iload_n 1, 1) := by decide +kernel
theorem dX6_shareByChanges_111 : decode cX6_shareByChanges 111 = .ok (.iaload, 1) := by decide +kernel
theorem dX6_shareByChanges_112 : decode cX6_shareByChanges 112 = .ok (.invokestatic 327, 3) := by decide +kernel
theorem dX6_shareByChanges_115 : decode cX6_shareByChanges 115 = .ok (.isub, 1) := by decide +kernel
theorem dX6_shareByChanges_116 : decode cX6_shareByChanges 116 = .ok (.iload 8, 2) := by decide +kernel
theorem dX6_shareByChanges_118 : decode cX6_shareByChanges 118 = .ok (.iload_n 3, 1) := by decide +kernel
theorem dX6_shareByChanges_119 : decode cX6_shareByChanges 119 = .ok (.isub, 1) := by decide +kernel
theorem dX6_shareByChanges_120 : decode cX6_shareByChanges 120 = .ok (.imul, 1) := by decide +kernel
theorem dX6_shareByChanges_121 : decode cX6_shareByChanges 121 = .ok (.iadd, 1) := by decide +kernel
theorem dX6_shareByChanges_122 : decode cX6_shareByChanges 122 = .ok (.istore 5, 2) := by decide +kernel
theorem dX6_shareByChanges_124 : decode cX6_shareByChanges 124 = .ok (.iload 6, 2) := by decide +kernel
theorem dX6_shareByChanges_126 : decode cX6_shareByChanges 126 = .ok (.iload 8, 2) := by decide +kernel
theorem dX6_shareByChanges_128 : decode cX6_shareByChanges 128 = .ok (.iload_n 3, 1) := by decide +kernel
theorem dX6_shareByChanges_129 : decode cX6_shareByChanges 129 = .ok (.isub, 1) := by decide +kernel
theorem dX6_shareByChanges_130 : decode cX6_shareByChanges 130 = .ok (.iadd, 1) := by decide +kernel
theorem dX6_shareByChanges_131 : decode cX6_shareByChanges 131 = .ok (.istore 6, 2) := by decide +kernel
theorem dX6_shareByChanges_133 : decode cX6_shareByChanges 133 = .ok (.iload 8, 2) := by decide +kernel
theorem dX6_shareByChanges_135 : decode cX6_shareByChanges 135 = .ok (.istore_n 3, 1) := by decide +kernel
theorem dX6_shareByChanges_136 : decode cX6_shareByChanges 136 = .ok (.iinc 7 1, 3) := by decide +kernel
theorem dX6_shareByChanges_139 : decode cX6_shareByChanges 139 = .ok (.goto (-110), 3) := by decide +kernel
theorem dX6_shareByChanges_142 : decode cX6_shareByChanges 142 = .ok (.iload 6, 2) := by decide +kernel
theorem dX6_shareByChanges_144 : decode cX6_shareByChanges 144 = .ok (.ifCond .ne 7, 3) := by decide +kernel
theorem dX6_shareByChanges_147 : decode cX6_shareByChanges 147 = .ok (.iconst (-1), 1) := by decide +kernel
theorem dX6_shareByChanges_148 : decode cX6_shareByChanges 148 = .ok (.goto 11, 3) := by decide +kernel
theorem dX6_shareByChanges_151 : decode cX6_shareByChanges 151 = .ok (.iload 5, 2) := by decide +kernel
theorem dX6_shareByChanges_153 : decode cX6_shareByChanges 153 = .ok (.bipush 100, 2) := by decide +kernel
theorem dX6_shareByChanges_155 : decode cX6_shareByChanges 155 = .ok (.imul, 1) := by decide +kernel
theorem dX6_shareByChanges_156 : decode cX6_shareByChanges 156 = .ok (.iload 6, 2) := by decide +kernel
theorem dX6_shareByChanges_158 : decode cX6_shareByChanges 158 = .ok (.idiv, 1) := by decide +kernel
theorem dX6_shareByChanges_159 : decode cX6_shareByChanges 159 = .ok (.ireturn, 1) := by decide +kernel
theorem dX6_shareByMinutes_0 : decode cX6_shareByMinutes 0 = .ok (.iload_n 2, 1) := by decide +kernel
theorem dX6_shareByMinutes_1 : decode cX6_shareByMinutes 1 = .ok (.sipush 600, 3) := by decide +kernel
theorem dX6_shareByMinutes_4 : decode cX6_shareByMinutes 4 = .ok (.imul, 1) := by decide +kernel
theorem dX6_shareByMinutes_5 : decode cX6_shareByMinutes 5 = .ok (.istore_n 3, 1) := by decide +kernel
theorem dX6_shareByMinutes_6 : decode cX6_shareByMinutes 6 = .ok (.iload_n 3, 1) := by decide +kernel
theorem dX6_shareByMinutes_7 : decode cX6_shareByMinutes 7 = .ok (.sipush 600, 3) := by decide +kernel
theorem dX6_shareByMinutes_10 : decode cX6_shareByMinutes 10 = .ok (.iadd, 1) := by decide +kernel
theorem dX6_shareByMinutes_11 : decode cX6_shareByMinutes 11 = .ok (.aload_n 0, 1) := by decide +kernel
theorem dX6_shareByMinutes_12 : decode cX6_shareByMinutes 12 = .ok (.getfield 54, 3) := by decide +kernel
theorem dX6_shareByMinutes_15 : decode cX6_shareByMinutes 15 = .ok (.invokestatic 174, 3) := by decide +kernel
theorem dX6_shareByMinutes_18 : decode cX6_shareByMinutes 18 = .ok (.istore 4, 2) := by decide +kernel
theorem dX6_shareByMinutes_20 : decode cX6_shareByMinutes 20 = .ok (.iconst 0, 1) := by decide +kernel
theorem dX6_shareByMinutes_21 : decode cX6_shareByMinutes 21 = .ok (.istore 5, 2) := by decide +kernel
theorem dX6_shareByMinutes_23 : decode cX6_shareByMinutes 23 = .ok (.iconst 0, 1) := by decide +kernel
theorem dX6_shareByMinutes_24 : decode cX6_shareByMinutes 24 = .ok (.istore 6, 2) := by decide +kernel
theorem dX6_shareByMinutes_26 : decode cX6_shareByMinutes 26 = .ok (.iload_n 3, 1) := by decide +kernel
theorem dX6_shareByMinutes_27 : decode cX6_shareByMinutes 27 = .ok (.istore 7, 2) := by decide +kernel
theorem dX6_shareByMinutes_29 : decode cX6_shareByMinutes 29 = .ok (.iload 7, 2) := by decide +kernel
theorem dX6_shareByMinutes_31 : decode cX6_shareByMinutes 31 = .ok (.iload 4, 2) := by decide +kernel
theorem dX6_shareByMinutes_33 : decode cX6_shareByMinutes 33 = .ok (.if_icmp .ge 70, 3) := by decide +kernel
theorem dX6_shareByMinutes_36 : decode cX6_shareByMinutes 36 = .ok (.aload_n 0, 1) := by decide +kernel
theorem dX6_shareByMinutes_37 : decode cX6_shareByMinutes 37 = .ok (.getfield 33, 3) := by decide +kernel
theorem dX6_shareByMinutes_40 : decode cX6_shareByMinutes 40 = .ok (.aload_n 0, 1) := by decide +kernel
theorem dX6_shareByMinutes_41 : decode cX6_shareByMinutes 41 = .ok (.getfield 10, 3) := by decide +kernel
theorem dX6_shareByMinutes_44 : decode cX6_shareByMinutes 44 = .ok (.getfield 236, 3) := by decide +kernel
theorem dX6_shareByMinutes_47 : decode cX6_shareByMinutes 47 = .ok (.iload_n 1, 1) := by decide +kernel
theorem dX6_shareByMinutes_48 : decode cX6_shareByMinutes 48 = .ok (.iaload, 1) := by decide +kernel
theorem dX6_shareByMinutes_49 : decode cX6_shareByMinutes 49 = .ok (.iload 7, 2) := by decide +kernel
theorem dX6_shareByMinutes_51 : decode cX6_shareByMinutes 51 = .ok (.invokevirtual 239, 3) := by decide +kernel
theorem dX6_shareByMinutes_54 : decode cX6_shareByMinutes 54 = .ok (.ifCond .ne 43, 3) := by decide +kernel
theorem dX6_shareByMinutes_57 : decode cX6_shareByMinutes 57 = .ok (.aload_n 0, 1) := by decide +kernel
theorem dX6_shareByMinutes_58 : decode cX6_shareByMinutes 58 = .ok (.getfield 51, 3) := by decide +kernel
theorem dX6_shareByMinutes_61 : decode cX6_shareByMinutes 61 = .ok (.aload_n 0, 1) := by decide +kernel
theorem dX6_shareByMinutes_62 : decode cX6_shareByMinutes 62 = .ok (.getfield 10, 3) := by decide +kernel
theorem dX6_shareByMinutes_65 : decode cX6_shareByMinutes 65 = .ok (.aload_n 0, 1) := by decide +kernel
theorem dX6_shareByMinutes_66 : decode cX6_shareByMinutes 66 = .ok (.getfield 26, 3) := by decide +kernel
theorem dX6_shareByMinutes_69 : decode cX6_shareByMinutes 69 = .ok (.iload 7, 2) := by decide +kernel
theorem dX6_shareByMinutes_71 : decode cX6_shareByMinutes 71 = .ok (.invokevirtual 136, 3) := by decide +kernel
theorem dX6_shareByMinutes_74 : decode cX6_shareByMinutes 74 = .ok (.iload 5, 2) := by decide +kernel
theorem dX6_shareByMinutes_76 : decode cX6_shareByMinutes 76 = .ok (.bipush 100, 2) := by decide +kernel
theorem dX6_shareByMinutes_78 : decode cX6_shareByMinutes 78 = .ok (.aload_n 0, 1) := by decide +kernel
theorem dX6_shareByMinutes_79 : decode cX6_shareByMinutes 79 = .ok (.getfield 51, 3) := by decide +kernel
theorem dX6_shareByMinutes_82 : decode cX6_shareByMinutes 82 = .ok (.getfield 231, 3) := by decide +kernel
theorem dX6_shareByMinutes_85 : decode cX6_shareByMinutes 85 = .ok (.iload_n 1, 1) := by decide +kernel
theorem dX6_shareByMinutes_86 : decode cX6_shareByMinutes 86 = .ok (.iaload, 1) := by decide +kernel
theorem dX6_shareByMinutes_87 : decode cX6_shareByMinutes 87 = .ok (.invokestatic 327, 3) := by decide +kernel
theorem dX6_shareByMinutes_90 : decode cX6_shareByMinutes 90 = .ok (.isub, 1) := by decide +kernel
theorem dX6_shareByMinutes_91 : decode cX6_shareByMinutes 91 = .ok (.iadd, 1) := by decide +kernel
theorem dX6_shareByMinutes_92 : decode cX6_shareByMinutes 92 = .ok (.istore 5, 2) := by decide +kernel
theorem dX6_shareByMinutes_94 : decode cX6_shareByMinutes 94 = .ok (.iinc 6 1, 3) := by decide +kernel
theorem dX6_shareByMinutes_97 : decode cX6_shareByMinutes 97 = .ok (.iinc 7 1, 3) := by decide +kernel
theorem dX6_shareByMinutes_100 : decode cX6_shareByMinutes 100 = .ok (.goto (-71), 3) := by decide +kernel
theorem dX6_shareByMinutes_103 : decode cX6_shareByMinutes 103 = .ok (.iload 6, 2) := by decide +kernel
theorem dX6_shareByMinutes_105 : decode cX6_shareByMinutes 105 = .ok (.ifCond .ne 7, 3) := by decide +kernel
theorem dX6_shareByMinutes_108 : decode cX6_shareByMinutes 108 = .ok (.iconst (-1), 1) := by decide +kernel
theorem dX6_shareByMinutes_109 : decode cX6_shareByMinutes 109 = .ok (.goto 11, 3) := by decide +kernel
theorem dX6_shareByMinutes_112 : decode cX6_shareByMinutes 112 = .ok (.iload 5, 2) := by decide +kernel
theorem dX6_shareByMinutes_114 : decode cX6_shareByMinutes 114 = .ok (.bipush 100, 2) := by decide +kernel
theorem dX6_shareByMinutes_116 : decode cX6_shareByMinutes 116 = .ok (.imul, 1) := by decide +kernel
theorem dX6_shareByMinutes_117 : decode cX6_shareByMinutes 117 = .ok (.iload 6, 2) := by decide +kernel
theorem dX6_shareByMinutes_119 : decode cX6_shareByMinutes 119 = .ok (.idiv, 1) := by decide +kernel
theorem dX6_shareByMinutes_120 : decode cX6_shareByMinutes 120 = .ok (.ireturn, 1) := by decide +kernel
theorem dX7_init_0 : decode cX7_init 0 = .ok (.aload_n 0, 1) := by decide +kernel
theorem dX7_init_1 : decode cX7_init 1 = .ok (.invokespecial 1, 3) := by decide +kernel
theorem dX7_init_4 : decode cX7_init 4 = .ok (.aload_n 0, 1) := by decide +kernel
theorem dX7_init_5 : decode cX7_init 5 = .ok (.bipush 12, 2) := by decide +kernel
theorem dX7_init_7 : decode cX7_init 7 = .ok (.newarray .int, 2) := by decide +kernel
theorem dX7_init_9 : decode cX7_init 9 = .ok (.putfield 9, 3) := by decide +kernel
theorem dX7_init_12 : decode cX7_init 12 = .ok (.aload_n 0, 1) := by decide +kernel
theorem dX7_init_13 : decode cX7_init 13 = .ok (.bipush 12, 2) := by decide +kernel
theorem dX7_init_15 : decode cX7_init 15 = .ok (.newarray .int, 2) := by decide +kernel
theorem dX7_init_17 : decode cX7_init 17 = .ok (.putfield 13, 3) := by decide +kernel
theorem dX7_init_20 : decode cX7_init 20 = .ok (.aload_n 0, 1) := by decide +kernel
theorem dX7_init_21 : decode cX7_init 21 = .ok (.bipush 20, 2) := by decide +kernel
theorem dX7_init_23 : decode cX7_init 23 = .ok (.newarray .int, 2) := by decide +kernel
theorem dX7_init_25 : decode cX7_init 25 = .ok (.putfield 16, 3) := by decide +kernel
theorem dX7_init_28 : decode cX7_init 28 = .ok (.aload_n 0, 1) := by decide +kernel
theorem dX7_init_29 : decode cX7_init 29 = .ok (.bipush 20, 2) := by decide +kernel
theorem dX7_init_31 : decode cX7_init 31 = .ok (.newarray .int, 2) := by decide +kernel
theorem dX7_init_33 : decode cX7_init 33 = .ok (.putfield 19, 3) := by decide +kernel
theorem dX7_init_36 : decode cX7_init 36 = .ok (.aload_n 0, 1) := by decide +kernel
theorem dX7_init_37 : decode cX7_init 37 = .ok (.bipush 20, 2) := by decide +kernel
theorem dX7_init_39 : decode cX7_init 39 = .ok (.newarray .int, 2) := by decide +kernel
theorem dX7_init_41 : decode cX7_init 41 = .ok (.putfield 22, 3) := by decide +kernel
theorem dX7_init_44 : decode cX7_init 44 = .ok (.aload_n 0, 1) := by decide +kernel
theorem dX7_init_45 : decode cX7_init 45 = .ok (.bipush 20, 2) := by decide +kernel
theorem dX7_init_47 : decode cX7_init 47 = .ok (.newarray .int, 2) := by decide +kernel
theorem dX7_init_49 : decode cX7_init 49 = .ok (.putfield 25, 3) := by decide +kernel
theorem dX7_init_52 : decode cX7_init 52 = .ok (.aload_n 0, 1) := by decide +kernel
theorem dX7_init_53 : decode cX7_init 53 = .ok (.bipush 20, 2) := by decide +kernel
theorem dX7_init_55 : decode cX7_init 55 = .ok (.newarray .int, 2) := by decide +kernel
theorem dX7_init_57 : decode cX7_init 57 = .ok (.putfield 28, 3) := by decide +kernel
theorem dX7_init_60 : decode cX7_init 60 = .ok (.aload_n 0, 1) := by decide +kernel
theorem dX7_init_61 : decode cX7_init 61 = .ok (.bipush 8, 2) := by decide +kernel
theorem dX7_init_63 : decode cX7_init 63 = .ok (.newarray .int, 2) := by decide +kernel
theorem dX7_init_65 : decode cX7_init 65 = .ok (.putfield 31, 3) := by decide +kernel
theorem dX7_init_68 : decode cX7_init 68 = .ok (.aload_n 0, 1) := by decide +kernel
theorem dX7_init_69 : decode cX7_init 69 = .ok (.bipush 8, 2) := by decide +kernel
theorem dX7_init_71 : decode cX7_init 71 = .ok (.newarray .int, 2) := by decide +kernel
theorem dX7_init_73 : decode cX7_init 73 = .ok (.putfield 34, 3) := by decide +kernel
theorem dX7_init_76 : decode cX7_init 76 = .ok (.aload_n 0, 1) := by decide +kernel
theorem dX7_init_77 : decode cX7_init 77 = .ok (.bipush 8, 2) := by decide +kernel
theorem dX7_init_79 : decode cX7_init 79 = .ok (.newarray .int, 2) := by decide +kernel
theorem dX7_init_81 : decode cX7_init 81 = .ok (.putfield 37, 3) := by decide +kernel
theorem dX7_init_84 : decode cX7_init 84 = .ok (.aload_n 0, 1) := by decide +kernel
theorem dX7_init_85 : decode cX7_init 85 = .ok (.bipush 12, 2) := by decide +kernel
theorem dX7_init_87 : decode cX7_init 87 = .ok (.newarray .char, 2) := by decide +kernel
theorem dX7_init_89 : decode cX7_init 89 = .ok (.putfield 40, 3) := by decide +kernel
theorem dX7_init_92 : decode cX7_init 92 = .ok (.aload_n 0, 1) := by decide +kernel
theorem dX7_init_93 : decode cX7_init 93 = .ok (.bipush 6, 2) := by decide +kernel
theorem dX7_init_95 : decode cX7_init 95 = .ok (.newarray .int, 2) := by decide +kernel
theorem dX7_init_97 : decode cX7_init 97 = .ok (.putfield 44, 3) := by decide +kernel
theorem dX7_init_100 : decode cX7_init 100 = .ok (.aload_n 0, 1) := by decide +kernel
theorem dX7_init_101 : decode cX7_init 101 = .ok (.bipush 6, 2) := by decide +kernel
theorem dX7_init_103 : decode cX7_init 103 = .ok (.newarray .int, 2) := by decide +kernel
theorem dX7_init_105 : decode cX7_init 105 = .ok (.putfield 47, 3) := by decide +kernel
theorem dX7_init_108 : decode cX7_init 108 = .ok (.aload_n 0, 1) := by decide +kernel
theorem dX7_init_109 : decode cX7_init 109 = .ok (.bipush 12, 2) := by decide +kernel
theorem dX7_init_111 : decode cX7_init 111 = .ok (.newarray .int, 2) := by decide +kernel
theorem dX7_init_113 : decode cX7_init 113 = .ok (.putfield 50, 3) := by decide +kernel
theorem dX7_init_116 : decode cX7_init 116 = .ok (.aload_n 0, 1) := by decide +kernel
theorem dX7_init_117 : decode cX7_init 117 = .ok (.sipush 4096, 3) := by decide +kernel
theorem dX7_init_120 : decode cX7_init 120 = .ok (.newarray .int, 2) := by decide +kernel
theorem dX7_init_122 : decode cX7_init 122 = .ok (.putfield 53, 3) := by decide +kernel
theorem dX7_init_125 : decode cX7_init 125 = .ok (.aload_n 0, 1) := by decide +kernel
theorem dX7_init_126 : decode cX7_init 126 = .ok (.sipush 4096, 3) := by decide +kernel
theorem dX7_init_129 : decode cX7_init 129 = .ok (.newarray .int, 2) := by decide +kernel
theorem dX7_init_131 : decode cX7_init 131 = .ok (.putfield 56, 3) := by decide +kernel
theorem dX7_init_134 : decode cX7_init 134 = .ok (.aload_n 0, 1) := by decide +kernel
theorem dX7_init_135 : decode cX7_init 135 = .ok (.sipush 4096, 3) := by decide +kernel
theorem dX7_init_138 : decode cX7_init 138 = .ok (.newarray .int, 2) := by decide +kernel
theorem dX7_init_140 : decode cX7_init 140 = .ok (.putfield 59, 3) := by decide +kernel
theorem dX7_init_143 : decode cX7_init 143 = .ok (.aload_n 0, 1) := by decide +kernel
theorem dX7_init_144 : decode cX7_init 144 = .ok (.sipush 4096, 3) := by decide +kernel
theorem dX7_init_147 : decode cX7_init 147 = .ok (.newarray .int, 2) := by decide +kernel
theorem dX7_init_149 : decode cX7_init 149 = .ok (.putfield 62, 3) := by decide +kernel
theorem dX7_init_152 : decode cX7_init 152 = .ok (.aload_n 0, 1) := by decide +kernel
theorem dX7_init_153 : decode cX7_init 153 = .ok (.bipush 12, 2) := by decide +kernel
theorem dX7_init_155 : decode cX7_init 155 = .ok (.newarray .int, 2) := by decide +kernel
theorem dX7_init_157 : decode cX7_init 157 = .ok (.putfield 65, 3) := by decide +kernel
theorem dX7_init_160 : decode cX7_init 160 = .ok (.return_, 1) := by decide +kernel
theorem dX7_thrown_0 : decode cX7_thrown 0 = .ok (.aload_n 0, 1) := by decide +kernel
theorem dX7_thrown_1 : decode cX7_thrown 1 = .ok (.getfield 68, 3) := by decide +kernel
theorem dX7_thrown_4 : decode cX7_thrown 4 = .ok (.ireturn, 1) := by decide +kernel
theorem dX7_fails_0 : decode cX7_fails 0 = .ok (.aload_n 0, 1) := by decide +kernel
theorem dX7_fails_1 : decode cX7_fails 1 = .ok (.iload_n 1, 1) := by decide +kernel
theorem dX7_fails_2 : decode cX7_fails 2 = .ok (.putfield 68, 3) := by decide +kernel
theorem dX7_fails_5 : decode cX7_fails 5 = .ok (.iconst 0, 1) := by decide +kernel
theorem dX7_fails_6 : decode cX7_fails 6 = .ok (.ireturn, 1) := by decide +kernel
theorem dX7_isWrong_0 : decode cX7_isWrong 0 = .ok (.aload_n 0, 1) := by decide +kernel
theorem dX7_isWrong_1 : decode cX7_isWrong 1 = .ok (.iload_n 1, 1) := by decide +kernel
theorem dX7_isWrong_2 : decode cX7_isWrong 2 = .ok (.putfield 68, 3) := by decide +kernel
theorem dX7_isWrong_5 : decode cX7_isWrong 5 = .ok (.iconst 0, 1) := by decide +kernel
theorem dX7_isWrong_6 : decode cX7_isWrong 6 = .ok (.ireturn, 1) := by decide +kernel
theorem dX7_isBetween_0 : decode cX7_isBetween 0 = .ok (.iload_n 1, 1) := by decide +kernel
theorem dX7_isBetween_1 : decode cX7_isBetween 1 = .ok (.iload_n 0, 1) := by decide +kernel
theorem dX7_isBetween_2 : decode cX7_isBetween 2 = .ok (.if_icmp .gt 12, 3) := by decide +kernel
theorem dX7_isBetween_5 : decode cX7_isBetween 5 = .ok (.iload_n 0, 1) := by decide +kernel
theorem dX7_isBetween_6 : decode cX7_isBetween 6 = .ok (.iload_n 2, 1) := by decide +kernel
theorem dX7_isBetween_7 : decode cX7_isBetween 7 = .ok (.if_icmp .gt 7, 3) := by decide +kernel
theorem dX7_isBetween_10 : decode cX7_isBetween 10 = .ok (.iconst 1, 1) := by decide +kernel
theorem dX7_isBetween_11 : decode cX7_isBetween 11 = .ok (.goto 4, 3) := by decide +kernel
theorem dX7_isBetween_14 : decode cX7_isBetween 14 = .ok (.iconst 0, 1) := by decide +kernel
theorem dX7_isBetween_15 : decode cX7_isBetween 15 = .ok (.ireturn, 1) := by decide +kernel
theorem dX7_isComponent_0 : decode cX7_isComponent 0 = .ok (.iload_n 1, 1) := by decide +kernel
theorem dX7_isComponent_1 : decode cX7_isComponent 1 = .ok (.iconst 0, 1) := by decide +kernel
theorem dX7_isComponent_2 : decode cX7_isComponent 2 = .ok (.aload_n 0, 1) := by decide +kernel
theorem dX7_isComponent_3 : decode cX7_isComponent 3 = .ok (.getfield 72, 3) := by decide +kernel
theorem dX7_isComponent_6 : decode cX7_isComponent 6 = .ok (.iconst 1, 1) := by decide +kernel
theorem dX7_isComponent_7 : decode cX7_isComponent 7 = .ok (.isub, 1) := by decide +kernel
theorem dX7_isComponent_8 : decode cX7_isComponent 8 = .ok (.invokestatic 75, 3) := by decide +kernel
theorem dX7_isComponent_11 : decode cX7_isComponent 11 = .ok (.ireturn, 1) := by decide +kernel
theorem dX7_isIncident_0 : decode cX7_isIncident 0 = .ok (.iload_n 1, 1) := by decide +kernel
theorem dX7_isIncident_1 : decode cX7_isIncident 1 = .ok (.iconst 0, 1) := by decide +kernel
theorem dX7_isIncident_2 : decode cX7_isIncident 2 = .ok (.aload_n 0, 1) := by decide +kernel
theorem dX7_isIncident_3 : decode cX7_isIncident 3 = .ok (.getfield 79, 3) := by decide +kernel
theorem dX7_isIncident_6 : decode cX7_isIncident 6 = .ok (.iconst 1, 1) := by decide +kernel
theorem dX7_isIncident_7 : decode cX7_isIncident 7 = .ok (.isub, 1) := by decide +kernel
theorem dX7_isIncident_8 : decode cX7_isIncident 8 = .ok (.invokestatic 75, 3) := by decide +kernel
theorem dX7_isIncident_11 : decode cX7_isIncident 11 = .ok (.ireturn, 1) := by decide +kernel
theorem dX7_isGroupNow_0 : decode cX7_isGroupNow 0 = .ok (.iconst 0, 1) := by decide +kernel
theorem dX7_isGroupNow_1 : decode cX7_isGroupNow 1 = .ok (.istore_n 2, 1) := by decide +kernel
theorem dX7_isGroupNow_2 : decode cX7_isGroupNow 2 = .ok (.iload_n 2, 1) := by decide +kernel
theorem dX7_isGroupNow_3 : decode cX7_isGroupNow 3 = .ok (.aload_n 0, 1) := by decide +kernel
theorem dX7_isGroupNow_4 : decode cX7_isGroupNow 4 = .ok (.getfield 72, 3) := by decide +kernel
theorem dX7_isGroupNow_7 : decode cX7_isGroupNow 7 = .ok (.if_icmp .ge 21, 3) := by decide +kernel
theorem dX7_isGroupNow_10 : decode cX7_isGroupNow 10 = .ok (.aload_n 0, 1) := by decide +kernel
theorem dX7_isGroupNow_11 : decode cX7_isGroupNow 11 = .ok (.getfield 9, 3) := by decide +kernel
theorem dX7_isGroupNow_14 : decode cX7_isGroupNow 14 = .ok (.iload_n 2, 1) := by decide +kernel
theorem dX7_isGroupNow_15 : decode cX7_isGroupNow 15 = .ok (.iaload, 1) := by decide +kernel
theorem dX7_isGroupNow_16 : decode cX7_isGroupNow 16 = .ok (.iload_n 1, 1) := by decide +kernel
theorem dX7_isGroupNow_17 : decode cX7_isGroupNow 17 = .ok (.if_icmp .ne 5, 3) := by decide +kernel
theorem dX7_isGroupNow_20 : decode cX7_isGroupNow 20 = .ok (.iconst 1, 1) := by decide +kernel
theorem dX7_isGroupNow_21 : decode cX7_isGroupNow 21 = .ok (.ireturn, 1) := by decide +kernel
theorem dX7_isGroupNow_22 : decode cX7_isGroupNow 22 = .ok (.iinc 2 1, 3) := by decide +kernel
theorem dX7_isGroupNow_25 : decode cX7_isGroupNow 25 = .ok (.goto (-23), 3) := by decide +kernel
theorem dX7_isGroupNow_28 : decode cX7_isGroupNow 28 = .ok (.iconst 0, 1) := by decide +kernel
theorem dX7_isGroupNow_29 : decode cX7_isGroupNow 29 = .ok (.ireturn, 1) := by decide +kernel
theorem dX7_hasIncidents_0 : decode cX7_hasIncidents 0 = .ok (.iconst 0, 1) := by decide +kernel
theorem dX7_hasIncidents_1 : decode cX7_hasIncidents 1 = .ok (.istore_n 2, 1) := by decide +kernel
theorem dX7_hasIncidents_2 : decode cX7_hasIncidents 2 = .ok (.iload_n 2, 1) := by decide +kernel
theorem dX7_hasIncidents_3 : decode cX7_hasIncidents 3 = .ok (.aload_n 0, 1) := by decide +kernel
theorem dX7_hasIncidents_4 : decode cX7_hasIncidents 4 = .ok (.getfield 79, 3) := by decide +kernel
theorem dX7_hasIncidents_7 : decode cX7_hasIncidents 7 = .ok (.if_icmp .ge 21, 3) := by decide +kernel
theorem dX7_hasIncidents_10 : decode cX7_hasIncidents 10 = .ok (.aload_n 0, 1) := by decide +kernel
theorem dX7_hasIncidents_11 : decode cX7_hasIncidents 11 = .ok (.getfield 16, 3) := by decide +kernel
theorem dX7_hasIncidents_14 : decode cX7_hasIncidents 14 = .ok (.iload_n 2, 1) := by decide +kernel
theorem dX7_hasIncidents_15 : decode cX7_hasIncidents 15 = .ok (.iaload, 1) := by decide +kernel
theorem dX7_hasIncidents_16 : decode cX7_hasIncidents 16 = .ok (.iload_n 1, 1) := by decide +kernel
theorem dX7_hasIncidents_17 : decode cX7_hasIncidents 17 = .ok (.if_icmp .ne 5, 3) := by decide +kernel
theorem dX7_hasIncidents_20 : decode cX7_hasIncidents 20 = .ok (.iconst 1, 1) := by decide +kernel
theorem dX7_hasIncidents_21 : decode cX7_hasIncidents 21 = .ok (.ireturn, 1) := by decide +kernel
theorem dX7_hasIncidents_22 : decode cX7_hasIncidents 22 = .ok (.iinc 2 1, 3) := by decide +kernel
theorem dX7_hasIncidents_25 : decode cX7_hasIncidents 25 = .ok (.goto (-23), 3) := by decide +kernel
theorem dX7_hasIncidents_28 : decode cX7_hasIncidents 28 = .ok (.iconst 0, 1) := by decide +kernel
theorem dX7_hasIncidents_29 : decode cX7_hasIncidents 29 = .ok (.ireturn, 1) := by decide +kernel
theorem dX7_addComponent_0 : decode cX7_addComponent 0 = .ok (.aload_n 0, 1) := by decide +kernel
theorem dX7_addComponent_1 : decode cX7_addComponent 1 = .ok (.iconst 0, 1) := by decide +kernel
theorem dX7_addComponent_2 : decode cX7_addComponent 2 = .ok (.putfield 68, 3) := by decide +kernel
theorem dX7_addComponent_5 : decode cX7_addComponent 5 = .ok (.iload_n 1, 1) := by decide +kernel
theorem dX7_addComponent_6 : decode cX7_addComponent 6 = .ok (.iconst (-1), 1) := by decide +kernel
theorem dX7_addComponent_7 : decode cX7_addComponent 7 = .ok (.if_icmp .eq 17, 3) := by decide +kernel
theorem dX7_addComponent_10 : decode cX7_addComponent 10 = .ok (.aload_n 0, 1) := by decide +kernel
theorem dX7_addComponent_11 : decode cX7_addComponent 11 = .ok (.iload_n 1, 1) := by decide +kernel
theorem dX7_addComponent_12 : decode cX7_addComponent 12 = .ok (.invokevirtual 82, 3) := by decide +kernel
theorem dX7_addComponent_15 : decode cX7_addComponent 15 = .ok (.ifCond .ne 9, 3) := by decide +kernel
theorem dX7_addComponent_18 : decode cX7_addComponent 18 = .ok (.aload_n 0, 1) := by decide +kernel
theorem dX7_addComponent_19 : decode cX7_addComponent 19 = .ok (.iconst 1, 1) := by decide +kernel
theorem dX7_addComponent_20 : decode cX7_addComponent 20 = .ok (.invokevirtual 86, 3) := by decide +kernel
theorem dX7_addComponent_23 : decode cX7_addComponent 23 = .ok (.ireturn, 1) := by decide +kernel
theorem dX7_addComponent_24 : decode cX7_addComponent 24 = .ok (.iload_n 2, 1) := by decide +kernel
theorem dX7_addComponent_25 : decode cX7_addComponent 25 = .ok (.iconst 1, 1) := by decide +kernel
theorem dX7_addComponent_26 : decode cX7_addComponent 26 = .ok (.bipush 9, 2) := by decide +kernel
theorem dX7_addComponent_28 : decode cX7_addComponent 28 = .ok (.invokestatic 75, 3) := by decide +kernel
theorem dX7_addComponent_31 : decode cX7_addComponent 31 = .ok (.ifCond .eq 15, 3) := by decide +kernel
theorem dX7_addComponent_34 : decode cX7_addComponent 34 = .ok (.iload_n 3, 1) := by decide +kernel
theorem dX7_addComponent_35 : decode cX7_addComponent 35 = .ok (.bipush 119, 2) := by decide +kernel
theorem dX7_addComponent_37 : decode cX7_addComponent 37 = .ok (.if_icmp .eq 15, 3) := by decide +kernel
theorem dX7_addComponent_40 : decode cX7_addComponent 40 = .ok (.iload_n 3, 1) := by decide +kernel
theorem dX7_addComponent_41 : decode cX7_addComponent 41 = .ok (.bipush 115, 2) := by decide +kernel
theorem dX7_addComponent_43 : decode cX7_addComponent 43 = .ok (.if_icmp .eq 9, 3) := by decide +kernel
theorem dX7_addComponent_46 : decode cX7_addComponent 46 = .ok (.aload_n 0, 1) := by decide +kernel
theorem dX7_addComponent_47 : decode cX7_addComponent 47 = .ok (.iconst 2, 1) := by decide +kernel
theorem dX7_addComponent_48 : decode cX7_addComponent 48 = .ok (.invokevirtual 86, 3) := by decide +kernel
theorem dX7_addComponent_51 : decode cX7_addComponent 51 = .ok (.ireturn, 1) := by decide +kernel
theorem dX7_addComponent_52 : decode cX7_addComponent 52 = .ok (.iload_n 1, 1) := by decide +kernel
theorem dX7_addComponent_53 : decode cX7_addComponent 53 = .ok (.iconst (-1), 1) := by decide +kernel
theorem dX7_addComponent_54 : decode cX7_addComponent 54 = .ok (.if_icmp .eq 17, 3) := by decide +kernel
theorem dX7_addComponent_57 : decode cX7_addComponent 57 = .ok (.aload_n 0, 1) := by decide +kernel
theorem dX7_addComponent_58 : decode cX7_addComponent 58 = .ok (.iload_n 1, 1) := by decide +kernel
theorem dX7_addComponent_59 : decode cX7_addComponent 59 = .ok (.invokevirtual 90, 3) := by decide +kernel
theorem dX7_addComponent_62 : decode cX7_addComponent 62 = .ok (.ifCond .eq 9, 3) := by decide +kernel
theorem dX7_addComponent_65 : decode cX7_addComponent 65 = .ok (.aload_n 0, 1) := by decide +kernel
theorem dX7_addComponent_66 : decode cX7_addComponent 66 = .ok (.iconst 3, 1) := by decide +kernel
theorem dX7_addComponent_67 : decode cX7_addComponent 67 = .ok (.invokevirtual 86, 3) := by decide +kernel
theorem dX7_addComponent_70 : decode cX7_addComponent 70 = .ok (.ireturn, 1) := by decide +kernel
theorem dX7_addComponent_71 : decode cX7_addComponent 71 = .ok (.aload_n 0, 1) := by decide +kernel
theorem dX7_addComponent_72 : decode cX7_addComponent 72 = .ok (.getfield 72, 3) := by decide +kernel
theorem dX7_addComponent_75 : decode cX7_addComponent 75 = .ok (.bipush 12, 2) := by decide +kernel
theorem dX7_addComponent_77 : decode cX7_addComponent 77 = .ok (.if_icmp .ne 9, 3) := by decide +kernel
theorem dX7_addComponent_80 : decode cX7_addComponent 80 = .ok (.aload_n 0, 1) := by decide +kernel
theorem dX7_addComponent_81 : decode cX7_addComponent 81 = .ok (.iconst 4, 1) := by decide +kernel
theorem dX7_addComponent_82 : decode cX7_addComponent 82 = .ok (.invokevirtual 86, 3) := by decide +kernel
theorem dX7_addComponent_85 : decode cX7_addComponent 85 = .ok (.ireturn, 1) := by decide +kernel
theorem dX7_addComponent_86 : decode cX7_addComponent 86 = .ok (.aload_n 0, 1) := by decide +kernel
theorem dX7_addComponent_87 : decode cX7_addComponent 87 = .ok (.getfield 9, 3) := by decide +kernel
theorem dX7_addComponent_90 : decode cX7_addComponent 90 = .ok (.aload_n 0, 1) := by decide +kernel
theorem dX7_addComponent_91 : decode cX7_addComponent 91 = .ok (.getfield 72, 3) := by decide +kernel
theorem dX7_addComponent_94 : decode cX7_addComponent 94 = .ok (.iload_n 1, 1) := by decide +kernel
theorem dX7_addComponent_95 : decode cX7_addComponent 95 = .ok (.iastore, 1) := by decide +kernel
theorem dX7_addComponent_96 : decode cX7_addComponent 96 = .ok (.aload_n 0, 1) := by decide +kernel
theorem dX7_addComponent_97 : decode cX7_addComponent 97 = .ok (.getfield 13, 3) := by decide +kernel
theorem dX7_addComponent_100 : decode cX7_addComponent 100 = .ok (.aload_n 0, 1) := by decide +kernel
theorem dX7_addComponent_101 : decode cX7_addComponent 101 = .ok (.getfield 72, 3) := by decide +kernel
theorem dX7_addComponent_104 : decode cX7_addComponent 104 = .ok (.iload_n 2, 1) := by decide +kernel
theorem dX7_addComponent_105 : decode cX7_addComponent 105 = .ok (.iastore, 1) := by decide +kernel
theorem dX7_addComponent_106 : decode cX7_addComponent 106 = .ok (.aload_n 0, 1) := by decide +kernel
theorem dX7_addComponent_107 : decode cX7_addComponent 107 = .ok (.getfield 40, 3) := by decide +kernel
theorem dX7_addComponent_110 : decode cX7_addComponent 110 = .ok (.aload_n 0, 1) := by decide +kernel
theorem dX7_addComponent_111 : decode cX7_addComponent 111 = .ok (.getfield 72, 3) := by decide +kernel
theorem dX7_addComponent_114 : decode cX7_addComponent 114 = .ok (.iload_n 3, 1) := by decide +kernel
theorem dX7_addComponent_115 : decode cX7_addComponent 115 = .ok (.castore, 1) := by decide +kernel
theorem dX7_addComponent_116 : decode cX7_addComponent 116 = .ok (.aload_n 0, 1) := by decide +kernel
theorem dX7_addComponent_117 : decode cX7_addComponent 117 = .ok (.dup, 1) := by decide +kernel
theorem dX7_addComponent_118 : decode cX7_addComponent 118 = .ok (.getfield 72, 3) := by decide +kernel
theorem dX7_addComponent_121 : decode cX7_addComponent 121 = .ok (.iconst 1, 1) := by decide +kernel
theorem dX7_addComponent_122 : decode cX7_addComponent 122 = .ok (.iadd, 1) := by decide +kernel
theorem dX7_addComponent_123 : decode cX7_addComponent 123 = .ok (.putfield 72, 3) := by decide +kernel
theorem dX7_addComponent_126 : decode cX7_addComponent 126 = .ok (.aload_n 0, 1) := by decide +kernel
theorem dX7_addComponent_127 : decode cX7_addComponent 127 = .ok (.getfield 72, 3) := by decide +kernel
theorem dX7_addComponent_130 : decode cX7_addComponent 130 = .ok (.iconst 1, 1) := by decide +kernel
theorem dX7_addComponent_131 : decode cX7_addComponent 131 = .ok (.isub, 1) := by decide +kernel
theorem dX7_addComponent_132 : decode cX7_addComponent 132 = .ok (.ireturn, 1) := by decide +kernel
theorem dX7_setWeight_0 : decode cX7_setWeight 0 = .ok (.aload_n 0, 1) := by decide +kernel
theorem dX7_setWeight_1 : decode cX7_setWeight 1 = .ok (.iconst 0, 1) := by decide +kernel
theorem dX7_setWeight_2 : decode cX7_setWeight 2 = .ok (.putfield 68, 3) := by decide +kernel
theorem dX7_setWeight_5 : decode cX7_setWeight 5 = .ok (.aload_n 0, 1) := by decide +kernel
theorem dX7_setWeight_6 : decode cX7_setWeight 6 = .ok (.iload_n 1, 1) := by decide +kernel
theorem dX7_setWeight_7 : decode cX7_setWeight 7 = .ok (.invokevirtual 82, 3) := by decide +kernel
theorem dX7_setWeight_10 : decode cX7_setWeight 10 = .ok (.ifCond .ne 9, 3) := by decide +kernel
theorem dX7_setWeight_13 : decode cX7_setWeight 13 = .ok (.aload_n 0, 1) := by decide +kernel
theorem dX7_setWeight_14 : decode cX7_setWeight 14 = .ok (.iconst 1, 1) := by decide +kernel
theorem dX7_setWeight_15 : decode cX7_setWeight 15 = .ok (.invokevirtual 86, 3) := by decide +kernel
theorem dX7_setWeight_18 : decode cX7_setWeight 18 = .ok (.ireturn, 1) := by decide +kernel
theorem dX7_setWeight_19 : decode cX7_setWeight 19 = .ok (.iload_n 2, 1) := by decide +kernel
theorem dX7_setWeight_20 : decode cX7_setWeight 20 = .ok (.iconst 1, 1) := by decide +kernel
theorem dX7_setWeight_21 : decode cX7_setWeight 21 = .ok (.bipush 9, 2) := by decide +kernel
theorem dX7_setWeight_23 : decode cX7_setWeight 23 = .ok (.invokestatic 75, 3) := by decide +kernel
theorem dX7_setWeight_26 : decode cX7_setWeight 26 = .ok (.ifCond .ne 9, 3) := by decide +kernel
theorem dX7_setWeight_29 : decode cX7_setWeight 29 = .ok (.aload_n 0, 1) := by decide +kernel
theorem dX7_setWeight_30 : decode cX7_setWeight 30 = .ok (.iconst 2, 1) := by decide +kernel
theorem dX7_setWeight_31 : decode cX7_setWeight 31 = .ok (.invokevirtual 86, 3) := by decide +kernel
theorem dX7_setWeight_34 : decode cX7_setWeight 34 = .ok (.ireturn, 1) := by decide +kernel
theorem dX7_setWeight_35 : decode cX7_setWeight 35 = .ok (.aload_n 0, 1) := by decide +kernel
theorem dX7_setWeight_36 : decode cX7_setWeight 36 = .ok (.getfield 13, 3) := by decide +kernel
theorem dX7_setWeight_39 : decode cX7_setWeight 39 = .ok (.iload_n 1, 1) := by decide +kernel
theorem dX7_setWeight_40 : decode cX7_setWeight 40 = .ok (.iaload, 1) := by decide +kernel
theorem dX7_setWeight_41 : decode cX7_setWeight 41 = .ok (.istore_n 3, 1) := by decide +kernel
theorem dX7_setWeight_42 : decode cX7_setWeight 42 = .ok (.aload_n 0, 1) := by decide +kernel
theorem dX7_setWeight_43 : decode cX7_setWeight 43 = .ok (.getfield 13, 3) := by decide +kernel
theorem dX7_setWeight_46 : decode cX7_setWeight 46 = .ok (.iload_n 1, 1) := by decide +kernel
theorem dX7_setWeight_47 : decode cX7_setWeight 47 = .ok (.iload_n 2, 1) := by decide +kernel
theorem dX7_setWeight_48 : decode cX7_setWeight 48 = .ok (.iastore, 1) := by decide +kernel
theorem dX7_setWeight_49 : decode cX7_setWeight 49 = .ok (.iload_n 3, 1) := by decide +kernel
theorem dX7_setWeight_50 : decode cX7_setWeight 50 = .ok (.ireturn, 1) := by decide +kernel
theorem dX7_loss_0 : decode cX7_loss 0 = .ok (.iload_n 0, 1) := by decide +kernel
theorem dX7_loss_1 : decode cX7_loss 1 = .ok (.iconst 3, 1) := by decide +kernel
theorem dX7_loss_2 : decode cX7_loss 2 = .ok (.if_icmp .ne 8, 3) := by decide +kernel
theorem dX7_loss_5 : decode cX7_loss 5 = .ok (.bipush 100, 2) := by decide +kernel
theorem dX7_loss_7 : decode cX7_loss 7 = .ok (.goto 7, 3) := by decide +kernel
theorem dX7_loss_10 : decode cX7_loss 10 = .ok (.bipush 25, 2) := by decide +kernel
theorem dX7_loss_12 : decode cX7_loss 12 = .ok (.iload_n 0, 1) := by decide +kernel
theorem dX7_loss_13 : decode cX7_loss 13 = .ok (.imul, 1) := by decide +kernel
theorem dX7_loss_14 : decode cX7_loss 14 = .ok (.ireturn, 1) := by decide +kernel
theorem dX7_letter_0 : decode cX7_letter 0 = .ok (.iload_n 0, 1) := by decide +kernel
theorem dX7_letter_1 : decode cX7_letter 1 = .ok (.ifCond .ne 8, 3) := by decide +kernel
theorem dX7_letter_4 : decode cX7_letter 4 = .ok (.bipush 117, 2) := by decide +kernel
theorem dX7_letter_6 : decode cX7_letter 6 = .ok (.goto 25, 3) := by decide +kernel
theorem dX7_letter_9 : decode cX7_letter 9 = .ok (.iload_n 0, 1) := by decide +kernel
theorem dX7_letter_10 : decode cX7_letter 10 = .ok (.iconst 1, 1) := by decide +kernel
theorem dX7_letter_11 : decode cX7_letter 11 = .ok (.if_icmp .ne 8, 3) := by decide +kernel
theorem dX7_letter_14 : decode cX7_letter 14 = .ok (.bipush 100, 2) := by decide +kernel
theorem dX7_letter_16 : decode cX7_letter 16 = .ok (.goto 15, 3) := by decide +kernel
theorem dX7_letter_19 : decode cX7_letter 19 = .ok (.iload_n 0, 1) := by decide +kernel
theorem dX7_letter_20 : decode cX7_letter 20 = .ok (.iconst 2, 1) := by decide +kernel
theorem dX7_letter_21 : decode cX7_letter 21 = .ok (.if_icmp .ne 8, 3) := by decide +kernel
theorem dX7_letter_24 : decode cX7_letter 24 = .ok (.bipush 112, 2) := by decide +kernel
theorem dX7_letter_26 : decode cX7_letter 26 = .ok (.goto 5, 3) := by decide +kernel
theorem dX7_letter_29 : decode cX7_letter 29 = .ok (.bipush 109, 2) := by decide +kernel
theorem dX7_letter_31 : decode cX7_letter 31 = .ok (.ireturn, 1) := by decide +kernel
theorem dX7_covers_0 : decode cX7_covers 0 = .ok (.iload_n 2, 1) := by decide +kernel
theorem dX7_covers_1 : decode cX7_covers 1 = .ok (.aload_n 0, 1) := by decide +kernel
theorem dX7_covers_2 : decode cX7_covers 2 = .ok (.getfield 22, 3) := by decide +kernel
theorem dX7_covers_5 : decode cX7_covers 5 = .ok (.iload_n 1, 1) := by decide +kernel
theorem dX7_covers_6 : decode cX7_covers 6 = .ok (.iaload, 1) := by decide +kernel
theorem dX7_covers_7 : decode cX7_covers 7 = .ok (.if_icmp .lt 27, 3) := by decide +kernel
theorem dX7_covers_10 : decode cX7_covers 10 = .ok (.aload_n 0, 1) := by decide +kernel
theorem dX7_covers_11 : decode cX7_covers 11 = .ok (.getfield 25, 3) := by decide +kernel
theorem dX7_covers_14 : decode cX7_covers 14 = .ok (.iload_n 1, 1) := by decide +kernel
theorem dX7_covers_15 : decode cX7_covers 15 = .ok (.iaload, 1) := by decide +kernel
theorem dX7_covers_16 : decode cX7_covers 16 = .ok (.iconst (-1), 1) := by decide +kernel
theorem dX7_covers_17 : decode cX7_covers 17 = .ok (.if_icmp .eq 13, 3) := by decide +kernel
theorem dX7_covers_20 : decode cX7_covers 20 = .ok (.iload_n 2, 1) := by decide +kernel
theorem dX7_covers_21 : decode cX7_covers 21 = .ok (.aload_n 0, 1) := by decide +kernel
theorem dX7_covers_22 : decode cX7_covers 22 = .ok (.getfield 25, 3) := by decide +kernel
theorem dX7_covers_25 : decode cX7_covers 25 = .ok (.iload_n 1, 1) := by decide +kernel
theorem dX7_covers_26 : decode cX7_covers 26 = .ok (.iaload, 1) := by decide +kernel
theorem dX7_covers_27 : decode cX7_covers 27 = .ok (.if_icmp .ge 7, 3) := by decide +kernel
theorem dX7_covers_30 : decode cX7_covers 30 = .ok (.iconst 1, 1) := by decide +kernel
theorem dX7_covers_31 : decode cX7_covers 31 = .ok (.goto 4, 3) := by decide +kernel
theorem dX7_covers_34 : decode cX7_covers 34 = .ok (.iconst 0, 1) := by decide +kernel
theorem dX7_covers_35 : decode cX7_covers 35 = .ok (.ireturn, 1) := by decide +kernel
theorem dX7_lossBy_0 : decode cX7_lossBy 0 = .ok (.iconst 0, 1) := by decide +kernel
theorem dX7_lossBy_1 : decode cX7_lossBy 1 = .ok (.istore_n 3, 1) := by decide +kernel
theorem dX7_lossBy_2 : decode cX7_lossBy 2 = .ok (.iconst 0, 1) := by decide +kernel
theorem dX7_lossBy_3 : decode cX7_lossBy 3 = .ok (.istore 4, 2) := by decide +kernel
theorem dX7_lossBy_5 : decode cX7_lossBy 5 = .ok (.iload_n 1, 1) := by decide +kernel
theorem dX7_lossBy_6 : decode cX7_lossBy 6 = .ok (.iconst 1, 1) := by decide +kernel
theorem dX7_lossBy_7 : decode cX7_lossBy 7 = .ok (.iadd, 1) := by decide +kernel
theorem dX7_lossBy_8 : decode cX7_lossBy 8 = .ok (.istore 5, 2) := by decide +kernel
theorem dX7_lossBy_10 : decode cX7_lossBy 10 = .ok (.iload 5, 2) := by decide +kernel
theorem dX7_lossBy_12 : decode cX7_lossBy 12 = .ok (.aload_n 0, 1) := by decide +kernel
theorem dX7_lossBy_13 : decode cX7_lossBy 13 = .ok (.getfield 72, 3) := by decide +kernel
theorem dX7_lossBy_16 : decode cX7_lossBy 16 = .ok (.if_icmp .ge 56, 3) := by decide +kernel
theorem dX7_lossBy_19 : decode cX7_lossBy 19 = .ok (.aload_n 0, 1) := by decide +kernel
theorem dX7_lossBy_20 : decode cX7_lossBy 20 = .ok (.getfield 9, 3) := by decide +kernel
theorem dX7_lossBy_23 : decode cX7_lossBy 23 = .ok (.iload 5, 2) := by decide +kernel
theorem dX7_lossBy_25 : decode cX7_lossBy 25 = .ok (.iaload, 1) := by decide +kernel
theorem dX7_lossBy_26 : decode cX7_lossBy 26 = .ok (.iload_n 1, 1) := by decide +kernel
theorem dX7_lossBy_27 : decode cX7_lossBy 27 = .ok (.if_icmp .eq 6, 3) := by decide +kernel
theorem dX7_lossBy_30 : decode cX7_lossBy 30 = .ok (.goto 36, 3) := by decide +kernel
theorem dX7_lossBy_33 : decode cX7_lossBy 33 = .ok (.iload_n 3, 1) := by decide +kernel
theorem dX7_lossBy_34 : decode cX7_lossBy 34 = .ok (.aload_n 0, 1) := by decide +kernel
theorem dX7_lossBy_35 : decode cX7_lossBy 35 = .ok (.getfield 13, 3) := by decide +kernel
theorem dX7_lossBy_38 : decode cX7_lossBy 38 = .ok (.iload 5, 2) := by decide +kernel
theorem dX7_lossBy_40 : decode cX7_lossBy 40 = .ok (.iaload, 1) := by decide +kernel
theorem dX7_lossBy_41 : decode cX7_lossBy 41 = .ok (.aload_n 0, 1) := by decide +kernel
theorem dX7_lossBy_42 : decode cX7_lossBy 42 = .ok (.iload 5, 2) := by decide +kernel
theorem dX7_lossBy_44 : decode cX7_lossBy 44 = .ok (.iload_n 2, 1) := by decide +kernel
theorem dX7_lossBy_45 : decode cX7_lossBy 45 = .ok (.invokevirtual 93, 3) := by decide +kernel
theorem dX7_lossBy_48 : decode cX7_lossBy 48 = .ok (.invokestatic 97, 3) := by decide +kernel
theorem dX7_lossBy_51 : decode cX7_lossBy 51 = .ok (.imul, 1) := by decide +kernel
theorem dX7_lossBy_52 : decode cX7_lossBy 52 = .ok (.iadd, 1) := by decide +kernel
theorem dX7_lossBy_53 : decode cX7_lossBy 53 = .ok (.istore_n 3, 1) := by decide +kernel
theorem dX7_lossBy_54 : decode cX7_lossBy 54 = .ok (.iload 4, 2) := by decide +kernel
theorem dX7_lossBy_56 : decode cX7_lossBy 56 = .ok (.aload_n 0, 1) := by decide +kernel
theorem dX7_lossBy_57 : decode cX7_lossBy 57 = .ok (.getfield 13, 3) := by decide +kernel
theorem dX7_lossBy_60 : decode cX7_lossBy 60 = .ok (.iload 5, 2) := by decide +kernel
theorem dX7_lossBy_62 : decode cX7_lossBy 62 = .ok (.iaload, 1) := by decide +kernel
theorem dX7_lossBy_63 : decode cX7_lossBy 63 = .ok (.iadd, 1) := by decide +kernel
theorem dX7_lossBy_64 : decode cX7_lossBy 64 = .ok (.istore 4, 2) := by decide +kernel
theorem dX7_lossBy_66 : decode cX7_lossBy 66 = .ok (.iinc 5 1, 3) := by decide +kernel
theorem dX7_lossBy_69 : decode cX7_lossBy 69 = .ok (.goto (-59), 3) := by decide +kernel
theorem dX7_lossBy_72 : decode cX7_lossBy 72 = .ok (.iload_n 3, 1) := by decide +kernel
theorem dX7_lossBy_73 : decode cX7_lossBy 73 = .ok (.iload 4, 2) := by decide +kernel
theorem dX7_lossBy_75 : decode cX7_lossBy 75 = .ok (.idiv, 1) := by decide +kernel
theorem dX7_lossBy_76 : decode cX7_lossBy 76 = .ok (.ireturn, 1) := by decide +kernel
theorem dX7_levelAt_0 : decode cX7_levelAt 0 = .ok (.iconst 0, 1) := by decide +kernel
theorem dX7_levelAt_1 : decode cX7_levelAt 1 = .ok (.istore_n 3, 1) := by decide +kernel
theorem dX7_levelAt_2 : decode cX7_levelAt 2 = .ok (.aload_n 0, 1) := by decide +kernel
theorem dX7_levelAt_3 : decode cX7_levelAt 3 = .ok (.iload_n 1, 1) := by decide +kernel
theorem dX7_levelAt_4 : decode cX7_levelAt 4 = .ok (.invokevirtual 100, 3) := by decide +kernel
theorem dX7_levelAt_7 : decode cX7_levelAt 7 = .ok (.ifCond .ne 60, 3) := by decide +kernel
theorem dX7_levelAt_10 : decode cX7_levelAt 10 = .ok (.iconst 0, 1) := by decide +kernel
theorem dX7_levelAt_11 : decode cX7_levelAt 11 = .ok (.istore 4, 2) := by decide +kernel
theorem dX7_levelAt_13 : decode cX7_levelAt 13 = .ok (.iload 4, 2) := by decide +kernel
theorem dX7_levelAt_15 : decode cX7_levelAt 15 = .ok (.aload_n 0, 1) := by decide +kernel
theorem dX7_levelAt_16 : decode cX7_levelAt 16 = .ok (.getfield 79, 3) := by decide +kernel
theorem dX7_levelAt_19 : decode cX7_levelAt 19 = .ok (.if_icmp .ge 46, 3) := by decide +kernel
theorem dX7_levelAt_22 : decode cX7_levelAt 22 = .ok (.aload_n 0, 1) := by decide +kernel
theorem dX7_levelAt_23 : decode cX7_levelAt 23 = .ok (.getfield 16, 3) := by decide +kernel
theorem dX7_levelAt_26 : decode cX7_levelAt 26 = .ok (.iload 4, 2) := by decide +kernel
theorem dX7_levelAt_28 : decode cX7_levelAt 28 = .ok (.iaload, 1) := by decide +kernel
theorem dX7_levelAt_29 : decode cX7_levelAt 29 = .ok (.iload_n 1, 1) := by decide +kernel
theorem dX7_levelAt_30 : decode cX7_levelAt 30 = .ok (.if_icmp .ne 27, 3) := by decide +kernel
theorem dX7_levelAt_33 : decode cX7_levelAt 33 = .ok (.aload_n 0, 1) := by decide +kernel
theorem dX7_levelAt_34 : decode cX7_levelAt 34 = .ok (.iload 4, 2) := by decide +kernel
theorem dX7_levelAt_36 : decode cX7_levelAt 36 = .ok (.iload_n 2, 1) := by decide +kernel
theorem dX7_levelAt_37 : decode cX7_levelAt 37 = .ok (.invokevirtual 103, 3) := by decide +kernel
theorem dX7_levelAt_40 : decode cX7_levelAt 40 = .ok (.ifCond .eq 17, 3) := by decide +kernel
theorem dX7_levelAt_43 : decode cX7_levelAt 43 = .ok (.iload_n 3, 1) := by decide +kernel
theorem dX7_levelAt_44 : decode cX7_levelAt 44 = .ok (.aload_n 0, 1) := by decide +kernel
theorem dX7_levelAt_45 : decode cX7_levelAt 45 = .ok (.getfield 19, 3) := by decide +kernel
theorem dX7_levelAt_48 : decode cX7_levelAt 48 = .ok (.iload 4, 2) := by decide +kernel
theorem dX7_levelAt_50 : decode cX7_levelAt 50 = .ok (.iaload, 1) := by decide +kernel
theorem dX7_levelAt_51 : decode cX7_levelAt 51 = .ok (.invokestatic 107, 3) := by decide +kernel
theorem dX7_levelAt_54 : decode cX7_levelAt 54 = .ok (.goto 4, 3) := by decide +kernel
theorem dX7_levelAt_57 : decode cX7_levelAt 57 = .ok (.iload_n 3, 1) := by decide +kernel
theorem dX7_levelAt_58 : decode cX7_levelAt 58 = .ok (.istore_n 3, 1) := by decide +kernel
theorem dX7_levelAt_59 : decode cX7_levelAt 59 = .ok (.iinc 4 1, 3) := by decide +kernel
theorem dX7_levelAt_62 : decode cX7_levelAt 62 = .ok (.goto (-49), 3) := by decide +kernel
theorem dX7_levelAt_65 : decode cX7_levelAt 65 = .ok (.iload_n 3, 1) := by decide +kernel
theorem dX7_levelAt_66 : decode cX7_levelAt 66 = .ok (.ireturn, 1) := by decide +kernel
theorem dX7_levelAt_67 : decode cX7_levelAt 67 = .ok (.aload_n 0, 1) := by decide +kernel
theorem dX7_levelAt_68 : decode cX7_levelAt 68 = .ok (.getfield 40, 3) := by decide +kernel
theorem dX7_levelAt_71 : decode cX7_levelAt 71 = .ok (.iload_n 1, 1) := by decide +kernel
theorem dX7_levelAt_72 : decode cX7_levelAt 72 = .ok (.caload, 1) := by decide +kernel
theorem dX7_levelAt_73 : decode cX7_levelAt 73 = .ok (.bipush 115, 2) := by decide +kernel
theorem dX7_levelAt_75 : decode cX7_levelAt 75 = .ok (.if_icmp .ne 44, 3) := by decide +kernel
theorem dX7_levelAt_78 : decode cX7_levelAt 78 = .ok (.aload_n 0, 1) := by decide +kernel
theorem dX7_levelAt_79 : decode cX7_levelAt 79 = .ok (.iload_n 1, 1) := by decide +kernel
theorem dX7_levelAt_80 : decode cX7_levelAt 80 = .ok (.iload_n 2, 1) := by decide +kernel
theorem dX7_levelAt_81 : decode cX7_levelAt 81 = .ok (.invokevirtual 112, 3) := by decide +kernel
theorem dX7_levelAt_84 : decode cX7_levelAt 84 = .ok (.istore 4, 2) := by decide +kernel
theorem dX7_levelAt_86 : decode cX7_levelAt 86 = .ok (.iload 4, 2) := by decide +kernel
theorem dX7_levelAt_88 : decode cX7_levelAt 88 = .ok (.ifCond .ne 7, 3) := by decide +kernel
theorem dX7_levelAt_91 : decode cX7_levelAt 91 = .ok (.iconst 0, 1) := by decide +kernel
theorem dX7_levelAt_92 : decode cX7_levelAt 92 = .ok (.goto 26, 3) := by decide +kernel
theorem dX7_levelAt_95 : decode cX7_levelAt 95 = .ok (.iload 4, 2) := by decide +kernel
theorem dX7_levelAt_97 : decode cX7_levelAt 97 = .ok (.bipush 33, 2) := by decide +kernel
theorem dX7_levelAt_99 : decode cX7_levelAt 99 = .ok (.if_icmp .gt 7, 3) := by decide +kernel
theorem dX7_levelAt_102 : decode cX7_levelAt 102 = .ok (.iconst 1, 1) := by decide +kernel
theorem dX7_levelAt_103 : decode cX7_levelAt 103 = .ok (.goto 15, 3) := by decide +kernel
theorem dX7_levelAt_106 : decode cX7_levelAt 106 = .ok (.iload 4, 2) := by decide +kernel
theorem dX7_levelAt_108 : decode cX7_levelAt 108 = .ok (.bipush 66, 2) := by decide +kernel
theorem dX7_levelAt_110 : decode cX7_levelAt 110 = .ok (.if_icmp .gt 7, 3) := by decide +kernel
theorem dX7_levelAt_113 : decode cX7_levelAt 113 = .ok (.iconst 2, 1) := by decide +kernel
theorem dX7_levelAt_114 : decode cX7_levelAt 114 = .ok (.goto 4, 3) := by decide +kernel
theorem dX7_levelAt_117 : decode cX7_levelAt 117 = .ok (.iconst 3, 1) := by decide +kernel
theorem dX7_levelAt_118 : decode cX7_levelAt 118 = .ok (.ireturn, 1) := by decide +kernel
theorem dX7_levelAt_119 : decode cX7_levelAt 119 = .ok (.iload_n 1, 1) := by decide +kernel
theorem dX7_levelAt_120 : decode cX7_levelAt 120 = .ok (.iconst 1, 1) := by decide +kernel
theorem dX7_levelAt_121 : decode cX7_levelAt 121 = .ok (.iadd, 1) := by decide +kernel
theorem dX7_levelAt_122 : decode cX7_levelAt 122 = .ok (.istore 4, 2) := by decide +kernel
theorem dX7_levelAt_124 : decode cX7_levelAt 124 = .ok (.iload 4, 2) := by decide +kernel
theorem dX7_levelAt_126 : decode cX7_levelAt 126 = .ok (.aload_n 0, 1) := by decide +kernel
theorem dX7_levelAt_127 : decode cX7_levelAt 127 = .ok (.getfield 72, 3) := by decide +kernel
theorem dX7_levelAt_130 : decode cX7_levelAt 130 = .ok (.if_icmp .ge 36, 3) := by decide +kernel
theorem dX7_levelAt_133 : decode cX7_levelAt 133 = .ok (.aload_n 0, 1) := by decide +kernel
theorem dX7_levelAt_134 : decode cX7_levelAt 134 = .ok (.getfield 9, 3) := by decide +kernel
theorem dX7_levelAt_137 : decode cX7_levelAt 137 = .ok (.iload 4, 2) := by decide +kernel
theorem dX7_levelAt_139 : decode cX7_levelAt 139 = .ok (.iaload, 1) := by decide +kernel
theorem dX7_levelAt_140 : decode cX7_levelAt 140 = .ok (.iload_n 1, 1) := by decide +kernel
theorem dX7_levelAt_141 : decode cX7_levelAt 141 = .ok (.if_icmp .ne 17, 3) := by decide +kernel
theorem dX7_levelAt_144 : decode cX7_levelAt 144 = .ok (.iload_n 3, 1) := by decide +kernel
theorem dX7_levelAt_145 : decode cX7_levelAt 145 = .ok (.aload_n 0, 1) := by decide +kernel
theorem dX7_levelAt_146 : decode cX7_levelAt 146 = .ok (.iload 4, 2) := by decide +kernel
theorem dX7_levelAt_148 : decode cX7_levelAt 148 = .ok (.iload_n 2, 1) := by decide +kernel
theorem dX7_levelAt_149 : decode cX7_levelAt 149 = .ok (.invokevirtual 93, 3) := by decide +kernel
theorem dX7_levelAt_152 : decode cX7_levelAt 152 = .ok (.invokestatic 107, 3) := by decide +kernel
theorem dX7_levelAt_155 : decode cX7_levelAt 155 = .ok (.goto 4, 3) := by decide +kernel
theorem dX7_levelAt_158 : decode cX7_levelAt 158 = .ok (.iload_n 3, 1) := by decide +kernel
theorem dX7_levelAt_159 : decode cX7_levelAt 159 = .ok (.istore_n 3, 1) := by decide +kernel
theorem dX7_levelAt_160 : decode cX7_levelAt 160 = .ok (.iinc 4 1, 3) := by decide +kernel
theorem dX7_levelAt_163 : decode cX7_levelAt 163 = .ok (.goto (-39), 3) := by decide +kernel
theorem dX7_levelAt_166 : decode cX7_levelAt 166 = .ok (.iload_n 3, 1) := by decide +kernel
theorem dX7_levelAt_167 : decode cX7_levelAt 167 = .ok (.ireturn, 1) := by decide +kernel
theorem dX7_isExcusedAt_0 : decode cX7_isExcusedAt 0 = .ok (.iconst 0, 1) := by decide +kernel
theorem dX7_isExcusedAt_1 : decode cX7_isExcusedAt 1 = .ok (.istore_n 3, 1) := by decide +kernel
theorem dX7_isExcusedAt_2 : decode cX7_isExcusedAt 2 = .ok (.iload_n 3, 1) := by decide +kernel
theorem dX7_isExcusedAt_3 : decode cX7_isExcusedAt 3 = .ok (.aload_n 0, 1) := by decide +kernel
theorem dX7_isExcusedAt_4 : decode cX7_isExcusedAt 4 = .ok (.getfield 115, 3) := by decide +kernel
theorem dX7_isExcusedAt_7 : decode cX7_isExcusedAt 7 = .ok (.if_icmp .ge 70, 3) := by decide +kernel
theorem dX7_isExcusedAt_10 : decode cX7_isExcusedAt 10 = .ok (.iload_n 1, 1) := by decide +kernel
theorem dX7_isExcusedAt_11 : decode cX7_isExcusedAt 11 = .ok (.istore 4, 2) := by decide +kernel
theorem dX7_isExcusedAt_13 : decode cX7_isExcusedAt 13 = .ok (.iload 4, 2) := by decide +kernel
theorem dX7_isExcusedAt_15 : decode cX7_isExcusedAt 15 = .ok (.iconst (-1), 1) := by decide +kernel
theorem dX7_isExcusedAt_16 : decode cX7_isExcusedAt 16 = .ok (.if_icmp .eq 26, 3) := by decide +kernel
theorem dX7_isExcusedAt_19 : decode cX7_isExcusedAt 19 = .ok (.iload 4, 2) := by decide +kernel
theorem dX7_isExcusedAt_21 : decode cX7_isExcusedAt 21 = .ok (.aload_n 0, 1) := by decide +kernel
theorem dX7_isExcusedAt_22 : decode cX7_isExcusedAt 22 = .ok (.getfield 31, 3) := by decide +kernel
theorem dX7_isExcusedAt_25 : decode cX7_isExcusedAt 25 = .ok (.iload_n 3, 1) := by decide +kernel
theorem dX7_isExcusedAt_26 : decode cX7_isExcusedAt 26 = .ok (.iaload, 1) := by decide +kernel
theorem dX7_isExcusedAt_27 : decode cX7_isExcusedAt 27 = .ok (.if_icmp .eq 15, 3) := by decide +kernel
theorem dX7_isExcusedAt_30 : decode cX7_isExcusedAt 30 = .ok (.aload_n 0, 1) := by decide +kernel
theorem dX7_isExcusedAt_31 : decode cX7_isExcusedAt 31 = .ok (.getfield 9, 3) := by decide +kernel
theorem dX7_isExcusedAt_34 : decode cX7_isExcusedAt 34 = .ok (.iload 4, 2) := by decide +kernel
theorem dX7_isExcusedAt_36 : decode cX7_isExcusedAt 36 = .ok (.iaload, 1) := by decide +kernel
theorem dX7_isExcusedAt_37 : decode cX7_isExcusedAt 37 = .ok (.istore 4, 2) := by decide +kernel
theorem dX7_isExcusedAt_39 : decode cX7_isExcusedAt 39 = .ok (.goto (-26), 3) := by decide +kernel
theorem dX7_isExcusedAt_42 : decode cX7_isExcusedAt 42 = .ok (.iload 4, 2) := by decide +kernel
theorem dX7_isExcusedAt_44 : decode cX7_isExcusedAt 44 = .ok (.iconst (-1), 1) := by decide +kernel
theorem dX7_isExcusedAt_45 : decode cX7_isExcusedAt 45 = .ok (.if_icmp .eq 26, 3) := by decide +kernel
theorem dX7_isExcusedAt_48 : decode cX7_isExcusedAt 48 = .ok (.iload_n 2, 1) := by decide +kernel
theorem dX7_isExcusedAt_49 : decode cX7_isExcusedAt 49 = .ok (.aload_n 0, 1) := by decide +kernel
theorem dX7_isExcusedAt_50 : decode cX7_isExcusedAt 50 = .ok (.getfield 34, 3) := by decide +kernel
theorem dX7_isExcusedAt_53 : decode cX7_isExcusedAt 53 = .ok (.iload_n 3, 1) := by decide +kernel
theorem dX7_isExcusedAt_54 : decode cX7_isExcusedAt 54 = .ok (.iaload, 1) := by decide +kernel
theorem dX7_isExcusedAt_55 : decode cX7_isExcusedAt 55 = .ok (.aload_n 0, 1) := by decide +kernel
theorem dX7_isExcusedAt_56 : decode cX7_isExcusedAt 56 = .ok (.getfield 37, 3) := by decide +kernel
theorem dX7_isExcusedAt_59 : decode cX7_isExcusedAt 59 = .ok (.iload_n 3, 1) := by decide +kernel
theorem dX7_isExcusedAt_60 : decode cX7_isExcusedAt 60 = .ok (.iaload, 1) := by decide +kernel
theorem dX7_isExcusedAt_61 : decode cX7_isExcusedAt 61 = .ok (.iconst 1, 1) := by decide +kernel
theorem dX7_isExcusedAt_62 : decode cX7_isExcusedAt 62 = .ok (.isub, 1) := by decide +kernel
theorem dX7_isExcusedAt_63 : decode cX7_isExcusedAt 63 = .ok (.invokestatic 75, 3) := by decide +kernel
theorem dX7_isExcusedAt_66 : decode cX7_isExcusedAt 66 = .ok (.ifCond .eq 5, 3) := by decide +kernel
theorem dX7_isExcusedAt_69 : decode cX7_isExcusedAt 69 = .ok (.iconst 1, 1) := by decide +kernel
theorem dX7_isExcusedAt_70 : decode cX7_isExcusedAt 70 = .ok (.ireturn, 1) := by decide +kernel
theorem dX7_isExcusedAt_71 : decode cX7_isExcusedAt 71 = .ok (.iinc 3 1, 3) := by decide +kernel
theorem dX7_isExcusedAt_74 : decode cX7_isExcusedAt 74 = .ok (.goto (-72), 3) := by decide +kernel
theorem dX7_isExcusedAt_77 : decode cX7_isExcusedAt 77 = .ok (.iconst 0, 1) := by decide +kernel
theorem dX7_isExcusedAt_78 : decode cX7_isExcusedAt 78 = .ok (.ireturn, 1) := by decide +kernel
theorem dX7_isPerson_0 : decode cX7_isPerson 0 = .ok (.iload_n 1, 1) := by decide +kernel
theorem dX7_isPerson_1 : decode cX7_isPerson 1 = .ok (.iconst 0, 1) := by decide +kernel
theorem dX7_isPerson_2 : decode cX7_isPerson 2 = .ok (.aload_n 0, 1) := by decide +kernel
theorem dX7_isPerson_3 : decode cX7_isPerson 3 = .ok (.getfield 118, 3) := by decide +kernel
theorem dX7_isPerson_6 : decode cX7_isPerson 6 = .ok (.iconst 1, 1) := by decide +kernel
theorem dX7_isPerson_7 : decode cX7_isPerson 7 = .ok (.isub, 1) := by decide +kernel
theorem dX7_isPerson_8 : decode cX7_isPerson 8 = .ok (.invokestatic 75, 3) := by decide +kernel
theorem dX7_isPerson_11 : decode cX7_isPerson 11 = .ok (.ireturn, 1) := by decide +kernel
theorem dX7_isWanted_0 : decode cX7_isWanted 0 = .ok (.aload_n 0, 1) := by decide +kernel
theorem dX7_isWanted_1 : decode cX7_isWanted 1 = .ok (.getfield 47, 3) := by decide +kernel
theorem dX7_isWanted_4 : decode cX7_isWanted 4 = .ok (.iload_n 1, 1) := by decide +kernel
theorem dX7_isWanted_5 : decode cX7_isWanted 5 = .ok (.iaload, 1) := by decide +kernel
theorem dX7_isWanted_6 : decode cX7_isWanted 6 = .ok (.iload_n 2, 1) := by decide +kernel
theorem dX7_isWanted_7 : decode cX7_isWanted 7 = .ok (.ishr, 1) := by decide +kernel
theorem dX7_isWanted_8 : decode cX7_isWanted 8 = .ok (.iconst 1, 1) := by decide +kernel
theorem dX7_isWanted_9 : decode cX7_isWanted 9 = .ok (.iand, 1) := by decide +kernel
theorem dX7_isWanted_10 : decode cX7_isWanted 10 = .ok (.iconst 1, 1) := by decide +kernel
theorem dX7_isWanted_11 : decode cX7_isWanted 11 = .ok (.if_icmp .ne 7, 3) := by decide +kernel
theorem dX7_isWanted_14 : decode cX7_isWanted 14 = .ok (.iconst 1, 1) := by decide +kernel
theorem dX7_isWanted_15 : decode cX7_isWanted 15 = .ok (.goto 4, 3) := by decide +kernel
theorem dX7_isWanted_18 : decode cX7_isWanted 18 = .ok (.iconst 0, 1) := by decide +kernel
theorem dX7_isWanted_19 : decode cX7_isWanted 19 = .ok (.ireturn, 1) := by decide +kernel
theorem dX7_size_0 : decode cX7_size 0 = .ok (.iconst 0, 1) := by decide +kernel
theorem dX7_size_1 : decode cX7_size 1 = .ok (.istore_n 1, 1) := by decide +kernel
theorem dX7_size_2 : decode cX7_size 2 = .ok (.iconst 0, 1) := by decide +kernel
theorem dX7_size_3 : decode cX7_size 3 = .ok (.istore_n 2, 1) := by decide +kernel
theorem dX7_size_4 : decode cX7_size 4 = .ok (.iload_n 2, 1) := by decide +kernel
theorem dX7_size_5 : decode cX7_size 5 = .ok (.bipush 12, 2) := by decide +kernel
theorem dX7_size_7 : decode cX7_size 7 = .ok (.if_icmp .ge 17, 3) := by decide +kernel
theorem dX7_size_10 : decode cX7_size 10 = .ok (.iload_n 1, 1) := by decide +kernel
theorem dX7_size_11 : decode cX7_size 11 = .ok (.iload_n 0, 1) := by decide +kernel
theorem dX7_size_12 : decode cX7_size 12 = .ok (.iload_n 2, 1) := by decide +kernel
theorem dX7_size_13 : decode cX7_size 13 = .ok (.ishr, 1) := by decide +kernel
theorem dX7_size_14 : decode cX7_size 14 = .ok (.iconst 1, 1) := by decide +kernel
theorem dX7_size_15 : decode cX7_size 15 = .ok (.iand, 1) := by decide +kernel
theorem dX7_size_16 : decode cX7_size 16 = .ok (.iadd, 1) := by decide +kernel
theorem dX7_size_17 : decode cX7_size 17 = .ok (.istore_n 1, 1) := by decide +kernel
theorem dX7_size_18 : decode cX7_size 18 = .ok (.iinc 2 1, 3) := by decide +kernel
theorem dX7_size_21 : decode cX7_size 21 = .ok (.goto (-17), 3) := by decide +kernel
theorem dX7_size_24 : decode cX7_size 24 = .ok (.iload_n 1, 1) := by decide +kernel
theorem dX7_size_25 : decode cX7_size 25 = .ok (.ireturn, 1) := by decide +kernel
theorem dX7_addPerson_0 : decode cX7_addPerson 0 = .ok (.aload_n 0, 1) := by decide +kernel
theorem dX7_addPerson_1 : decode cX7_addPerson 1 = .ok (.iconst 0, 1) := by decide +kernel
theorem dX7_addPerson_2 : decode cX7_addPerson 2 = .ok (.putfield 68, 3) := by decide +kernel
theorem dX7_addPerson_5 : decode cX7_addPerson 5 = .ok (.iload_n 1, 1) := by decide +kernel
theorem dX7_addPerson_6 : decode cX7_addPerson 6 = .ok (.iconst 1, 1) := by decide +kernel
theorem dX7_addPerson_7 : decode cX7_addPerson 7 = .ok (.iconst 3, 1) := by decide +kernel
theorem dX7_addPerson_8 : decode cX7_addPerson 8 = .ok (.invokestatic 75, 3) := by decide +kernel
theorem dX7_addPerson_11 : decode cX7_addPerson 11 = .ok (.ifCond .ne 9, 3) := by decide +kernel
theorem dX7_addPerson_14 : decode cX7_addPerson 14 = .ok (.aload_n 0, 1) := by decide +kernel
theorem dX7_addPerson_15 : decode cX7_addPerson 15 = .ok (.iconst 1, 1) := by decide +kernel
theorem dX7_addPerson_16 : decode cX7_addPerson 16 = .ok (.invokevirtual 86, 3) := by decide +kernel
theorem dX7_addPerson_19 : decode cX7_addPerson 19 = .ok (.ireturn, 1) := by decide +kernel
theorem dX7_addPerson_20 : decode cX7_addPerson 20 = .ok (.aload_n 0, 1) := by decide +kernel
theorem dX7_addPerson_21 : decode cX7_addPerson 21 = .ok (.getfield 118, 3) := by decide +kernel
theorem dX7_addPerson_24 : decode cX7_addPerson 24 = .ok (.bipush 6, 2) := by decide +kernel
theorem dX7_addPerson_26 : decode cX7_addPerson 26 = .ok (.if_icmp .ne 9, 3) := by decide +kernel
theorem dX7_addPerson_29 : decode cX7_addPerson 29 = .ok (.aload_n 0, 1) := by decide +kernel
theorem dX7_addPerson_30 : decode cX7_addPerson 30 = .ok (.iconst 2, 1) := by decide +kernel
theorem dX7_addPerson_31 : decode cX7_addPerson 31 = .ok (.invokevirtual 86, 3) := by decide +kernel
theorem dX7_addPerson_34 : decode cX7_addPerson 34 = .ok (.ireturn, 1) := by decide +kernel
theorem dX7_addPerson_35 : decode cX7_addPerson 35 = .ok (.aload_n 0, 1) := by decide +kernel
theorem dX7_addPerson_36 : decode cX7_addPerson 36 = .ok (.getfield 44, 3) := by decide +kernel
theorem dX7_addPerson_39 : decode cX7_addPerson 39 = .ok (.aload_n 0, 1) := by decide +kernel
theorem dX7_addPerson_40 : decode cX7_addPerson 40 = .ok (.getfield 118, 3) := by decide +kernel
theorem dX7_addPerson_43 : decode cX7_addPerson 43 = .ok (.iload_n 1, 1) := by decide +kernel
theorem dX7_addPerson_44 : decode cX7_addPerson 44 = .ok (.iastore, 1) := by decide +kernel
theorem dX7_addPerson_45 : decode cX7_addPerson 45 = .ok (.aload_n 0, 1) := by decide +kernel
theorem dX7_addPerson_46 : decode cX7_addPerson 46 = .ok (.dup, 1) := by decide +kernel
theorem dX7_addPerson_47 : decode cX7_addPerson 47 = .ok (.getfield 118, 3) := by decide +kernel
theorem dX7_addPerson_50 : decode cX7_addPerson 50 = .ok (.iconst 1, 1) := by decide +kernel
theorem dX7_addPerson_51 : decode cX7_addPerson 51 = .ok (.iadd, 1) := by decide +kernel
theorem dX7_addPerson_52 : decode cX7_addPerson 52 = .ok (.putfield 118, 3) := by decide +kernel
theorem dX7_addPerson_55 : decode cX7_addPerson 55 = .ok (.aload_n 0, 1) := by decide +kernel
theorem dX7_addPerson_56 : decode cX7_addPerson 56 = .ok (.getfield 118, 3) := by decide +kernel
theorem dX7_addPerson_59 : decode cX7_addPerson 59 = .ok (.iconst 1, 1) := by decide +kernel
theorem dX7_addPerson_60 : decode cX7_addPerson 60 = .ok (.isub, 1) := by decide +kernel
theorem dX7_addPerson_61 : decode cX7_addPerson 61 = .ok (.ireturn, 1) := by decide +kernel
theorem dX7_wants_0 : decode cX7_wants 0 = .ok (.aload_n 0, 1) := by decide +kernel
theorem dX7_wants_1 : decode cX7_wants 1 = .ok (.iconst 0, 1) := by decide +kernel
theorem dX7_wants_2 : decode cX7_wants 2 = .ok (.putfield 68, 3) := by decide +kernel
theorem dX7_wants_5 : decode cX7_wants 5 = .ok (.aload_n 0, 1) := by decide +kernel
theorem dX7_wants_6 : decode cX7_wants 6 = .ok (.iload_n 1, 1) := by decide +kernel
theorem dX7_wants_7 : decode cX7_wants 7 = .ok (.invokevirtual 121, 3) := by decide +kernel
theorem dX7_wants_10 : decode cX7_wants 10 = .ok (.ifCond .eq 11, 3) := by decide +kernel
theorem dX7_wants_13 : decode cX7_wants 13 = .ok (.aload_n 0, 1) := by decide +kernel
theorem dX7_wants_14 : decode cX7_wants 14 = .ok (.iload_n 2, 1) := by decide +kernel
theorem dX7_wants_15 : decode cX7_wants 15 = .ok (.invokevirtual 82, 3) := by decide +kernel
theorem dX7_wants_18 : decode cX7_wants 18 = .ok (.ifCond .ne 9, 3) := by decide +kernel
theorem dX7_wants_21 : decode cX7_wants 21 = .ok (.aload_n 0, 1) := by decide +kernel
theorem dX7_wants_22 : decode cX7_wants 22 = .ok (.iconst 1, 1) := by decide +kernel
theorem dX7_wants_23 : decode cX7_wants 23 = .ok (.invokevirtual 86, 3) := by decide +kernel
theorem dX7_wants_26 : decode cX7_wants 26 = .ok (.ireturn, 1) := by decide +kernel
theorem dX7_wants_27 : decode cX7_wants 27 = .ok (.aload_n 0, 1) := by decide +kernel
theorem dX7_wants_28 : decode cX7_wants 28 = .ok (.iload_n 1, 1) := by decide +kernel
theorem dX7_wants_29 : decode cX7_wants 29 = .ok (.iload_n 2, 1) := by decide +kernel
theorem dX7_wants_30 : decode cX7_wants 30 = .ok (.invokevirtual 124, 3) := by decide +kernel
theorem dX7_wants_33 : decode cX7_wants 33 = .ok (.iload_n 3, 1) := by decide +kernel
theorem dX7_wants_34 : decode cX7_wants 34 = .ok (.if_icmp .ne 9, 3) := by decide +kernel
theorem dX7_wants_37 : decode cX7_wants 37 = .ok (.aload_n 0, 1) := by decide +kernel
theorem dX7_wants_38 : decode cX7_wants 38 = .ok (.iconst 2, 1) := by decide +kernel
theorem dX7_wants_39 : decode cX7_wants 39 = .ok (.invokevirtual 86, 3) := by decide +kernel
theorem dX7_wants_42 : decode cX7_wants 42 = .ok (.ireturn, 1) := by decide +kernel
theorem dX7_wants_43 : decode cX7_wants 43 = .ok (.aload_n 0, 1) := by decide +kernel
theorem dX7_wants_44 : decode cX7_wants 44 = .ok (.getfield 47, 3) := by decide +kernel
theorem dX7_wants_47 : decode cX7_wants 47 = .ok (.iload_n 1, 1) := by decide +kernel
theorem dX7_wants_48 : decode cX7_wants 48 = .ok (.dup2, 1) := by decide +kernel
theorem dX7_wants_49 : decode cX7_wants 49 = .ok (.iaload, 1) := by decide +kernel
theorem dX7_wants_50 : decode cX7_wants 50 = .ok (.iconst 1, 1) := by decide +kernel
theorem dX7_wants_51 : decode cX7_wants 51 = .ok (.iload_n 2, 1) := by decide +kernel
theorem dX7_wants_52 : decode cX7_wants 52 = .ok (.ishl, 1) := by decide +kernel
theorem dX7_wants_53 : decode cX7_wants 53 = .ok (.ixor, 1) := by decide +kernel
theorem dX7_wants_54 : decode cX7_wants 54 = .ok (.iastore, 1) := by decide +kernel
theorem dX7_wants_55 : decode cX7_wants 55 = .ok (.aload_n 0, 1) := by decide +kernel
theorem dX7_wants_56 : decode cX7_wants 56 = .ok (.getfield 47, 3) := by decide +kernel
theorem dX7_wants_59 : decode cX7_wants 59 = .ok (.iload_n 1, 1) := by decide +kernel
theorem dX7_wants_60 : decode cX7_wants 60 = .ok (.iaload, 1) := by decide +kernel
theorem dX7_wants_61 : decode cX7_wants 61 = .ok (.invokestatic 127, 3) := by decide +kernel
theorem dX7_wants_64 : decode cX7_wants 64 = .ok (.ireturn, 1) := by decide +kernel
theorem dX7_subscribe_0 : decode cX7_subscribe 0 = .ok (.aload_n 0, 1) := by decide +kernel
theorem dX7_subscribe_1 : decode cX7_subscribe 1 = .ok (.iload_n 1, 1) := by decide +kernel
theorem dX7_subscribe_2 : decode cX7_subscribe 2 = .ok (.iload_n 2, 1) := by decide +kernel
theorem dX7_subscribe_3 : decode cX7_subscribe 3 = .ok (.iconst 1, 1) := by decide +kernel
theorem dX7_subscribe_4 : decode cX7_subscribe 4 = .ok (.invokevirtual 130, 3) := by decide +kernel
theorem dX7_subscribe_7 : decode cX7_subscribe 7 = .ok (.ireturn, 1) := by decide +kernel
theorem dX7_unsubscribe_0 : decode cX7_unsubscribe 0 = .ok (.aload_n 0, 1) := by decide +kernel
theorem dX7_unsubscribe_1 : decode cX7_unsubscribe 1 = .ok (.iload_n 1, 1) := by decide +kernel
theorem dX7_unsubscribe_2 : decode cX7_unsubscribe 2 = .ok (.iload_n 2, 1) := by decide +kernel
theorem dX7_unsubscribe_3 : decode cX7_unsubscribe 3 = .ok (.iconst 0, 1) := by decide +kernel
theorem dX7_unsubscribe_4 : decode cX7_unsubscribe 4 = .ok (.invokevirtual 130, 3) := by decide +kernel
theorem dX7_unsubscribe_7 : decode cX7_unsubscribe 7 = .ok (.ireturn, 1) := by decide +kernel
theorem dX7_depthOf_0 : decode cX7_depthOf 0 = .ok (.iconst 0, 1) := by decide +kernel
theorem dX7_depthOf_1 : decode cX7_depthOf 1 = .ok (.istore_n 2, 1) := by decide +kernel
theorem dX7_depthOf_2 : decode cX7_depthOf 2 = .ok (.aload_n 0, 1) := by decide +kernel
theorem dX7_depthOf_3 : decode cX7_depthOf 3 = .ok (.getfield 9, 3) := by decide +kernel
theorem dX7_depthOf_6 : decode cX7_depthOf 6 = .ok (.iload_n 1, 1) := by decide +kernel
theorem dX7_depthOf_7 : decode cX7_depthOf 7 = .ok (.iaload, 1) := by decide +kernel
theorem dX7_depthOf_8 : decode cX7_depthOf 8 = .ok (.istore_n 3, 1) := by decide +kernel
theorem dX7_depthOf_9 : decode cX7_depthOf 9 = .ok (.iload_n 3, 1) := by decide +kernel
theorem dX7_depthOf_10 : decode cX7_depthOf 10 = .ok (.iconst (-1), 1) := by decide +kernel
theorem dX7_depthOf_11 : decode cX7_depthOf 11 = .ok (.if_icmp .eq 16, 3) := by decide +kernel
theorem dX7_depthOf_14 : decode cX7_depthOf 14 = .ok (.iinc 2 1, 3) := by decide +kernel
theorem dX7_depthOf_17 : decode cX7_depthOf 17 = .ok (.aload_n 0, 1) := by decide +kernel
theorem dX7_depthOf_18 : decode cX7_depthOf 18 = .ok (.getfield 9, 3) := by decide +kernel
theorem dX7_depthOf_21 : decode cX7_depthOf 21 = .ok (.iload_n 3, 1) := by decide +kernel
theorem dX7_depthOf_22 : decode cX7_depthOf 22 = .ok (.iaload, 1) := by decide +kernel
theorem dX7_depthOf_23 : decode cX7_depthOf 23 = .ok (.istore_n 3, 1) := by decide +kernel
theorem dX7_depthOf_24 : decode cX7_depthOf 24 = .ok (.goto (-15), 3) := by decide +kernel
theorem dX7_depthOf_27 : decode cX7_depthOf 27 = .ok (.iload_n 2, 1) := by decide +kernel
theorem dX7_depthOf_28 : decode cX7_depthOf 28 = .ok (.ireturn, 1) := by decide +kernel
theorem dX7_notes_0 : decode cX7_notes 0 = .ok (.iconst 0, 1) := by decide +kernel
theorem dX7_notes_1 : decode cX7_notes 1 = .ok (.istore_n 1, 1) := by decide +kernel
theorem dX7_notes_2 : decode cX7_notes 2 = .ok (.iload_n 1, 1) := by decide +kernel
theorem dX7_notes_3 : decode cX7_notes 3 = .ok (.aload_n 0, 1) := by decide +kernel
theorem dX7_notes_4 : decode cX7_notes 4 = .ok (.getfield 72, 3) := by decide +kernel
theorem dX7_notes_7 : decode cX7_notes 7 = .ok (.if_icmp .ge 24, 3) := by decide +kernel
theorem dX7_notes_10 : decode cX7_notes 10 = .ok (.aload_n 0, 1) := by decide +kernel
theorem dX7_notes_11 : decode cX7_notes 11 = .ok (.getfield 50, 3) := by decide +kernel
theorem dX7_notes_14 : decode cX7_notes 14 = .ok (.iload_n 1, 1) := by decide +kernel
theorem dX7_notes_15 : decode cX7_notes 15 = .ok (.aload_n 0, 1) := by decide +kernel
theorem dX7_notes_16 : decode cX7_notes 16 = .ok (.iload_n 1, 1) := by decide +kernel
theorem dX7_notes_17 : decode cX7_notes 17 = .ok (.aload_n 0, 1) := by decide +kernel
theorem dX7_notes_18 : decode cX7_notes 18 = .ok (.getfield 134, 3) := by decide +kernel
theorem dX7_notes_21 : decode cX7_notes 21 = .ok (.invokevirtual 93, 3) := by decide +kernel
theorem dX7_notes_24 : decode cX7_notes 24 = .ok (.iastore, 1) := by decide +kernel
theorem dX7_notes_25 : decode cX7_notes 25 = .ok (.iinc 1 1, 3) := by decide +kernel
theorem dX7_notes_28 : decode cX7_notes 28 = .ok (.goto (-26), 3) := by decide +kernel
theorem dX7_notes_31 : decode cX7_notes 31 = .ok (.return_, 1) := by decide +kernel
theorem dX7_isTold_0 : decode cX7_isTold 0 = .ok (.aload_n 0, 1) := by decide +kernel
theorem dX7_isTold_1 : decode cX7_isTold 1 = .ok (.iload_n 2, 1) := by decide +kernel
theorem dX7_isTold_2 : decode cX7_isTold 2 = .ok (.aload_n 0, 1) := by decide +kernel
theorem dX7_isTold_3 : decode cX7_isTold 3 = .ok (.getfield 134, 3) := by decide +kernel
theorem dX7_isTold_6 : decode cX7_isTold 6 = .ok (.invokevirtual 93, 3) := by decide +kernel
theorem dX7_isTold_9 : decode cX7_isTold 9 = .ok (.istore_n 3, 1) := by decide +kernel
theorem dX7_isTold_10 : decode cX7_isTold 10 = .ok (.aload_n 0, 1) := by decide +kernel
theorem dX7_isTold_11 : decode cX7_isTold 11 = .ok (.iload_n 1, 1) := by decide +kernel
theorem dX7_isTold_12 : decode cX7_isTold 12 = .ok (.iload_n 2, 1) := by decide +kernel
theorem dX7_isTold_13 : decode cX7_isTold 13 = .ok (.invokevirtual 124, 3) := by decide +kernel
theorem dX7_isTold_16 : decode cX7_isTold 16 = .ok (.ifCond .eq 48, 3) := by decide +kernel
theorem dX7_isTold_19 : decode cX7_isTold 19 = .ok (.aload_n 0, 1) := by decide +kernel
theorem dX7_isTold_20 : decode cX7_isTold 20 = .ok (.iload_n 2, 1) := by decide +kernel
theorem dX7_isTold_21 : decode cX7_isTold 21 = .ok (.aload_n 0, 1) := by decide +kernel
theorem dX7_isTold_22 : decode cX7_isTold 22 = .ok (.getfield 134, 3) := by decide +kernel
theorem dX7_isTold_25 : decode cX7_isTold 25 = .ok (.invokevirtual 137, 3) := by decide +kernel
theorem dX7_isTold_28 : decode cX7_isTold 28 = .ok (.ifCond .ne 36, 3) := by decide +kernel
theorem dX7_isTold_31 : decode cX7_isTold 31 = .ok (.iload_n 3, 1) := by decide +kernel
theorem dX7_isTold_32 : decode cX7_isTold 32 = .ok (.aload_n 0, 1) := by decide +kernel
theorem dX7_isTold_33 : decode cX7_isTold 33 = .ok (.getfield 50, 3) := by decide +kernel
theorem dX7_isTold_36 : decode cX7_isTold 36 = .ok (.iload_n 2, 1) := by decide +kernel
theorem dX7_isTold_37 : decode cX7_isTold 37 = .ok (.iaload, 1) := by decide +kernel
theorem dX7_isTold_38 : decode cX7_isTold 38 = .ok (.if_icmp .eq 26, 3) := by decide +kernel
theorem dX7_isTold_41 : decode cX7_isTold 41 = .ok (.iload_n 3, 1) := by decide +kernel
theorem dX7_isTold_42 : decode cX7_isTold 42 = .ok (.aload_n 0, 1) := by decide +kernel
theorem dX7_isTold_43 : decode cX7_isTold 43 = .ok (.getfield 50, 3) := by decide +kernel
theorem dX7_isTold_46 : decode cX7_isTold 46 = .ok (.iload_n 2, 1) := by decide +kernel
theorem dX7_isTold_47 : decode cX7_isTold 47 = .ok (.iaload, 1) := by decide +kernel
theorem dX7_isTold_48 : decode cX7_isTold 48 = .ok (.invokestatic 107, 3) := by decide +kernel
theorem dX7_isTold_51 : decode cX7_isTold 51 = .ok (.aload_n 0, 1) := by decide +kernel
theorem dX7_isTold_52 : decode cX7_isTold 52 = .ok (.getfield 44, 3) := by decide +kernel
theorem dX7_isTold_55 : decode cX7_isTold 55 = .ok (.iload_n 1, 1) := by decide +kernel
theorem dX7_isTold_56 : decode cX7_isTold 56 = .ok (.iaload, 1) := by decide +kernel
theorem dX7_isTold_57 : decode cX7_isTold 57 = .ok (.if_icmp .lt 7, 3) := by decide +kernel
theorem dX7_isTold_60 : decode cX7_isTold 60 = .ok (.iconst 1, 1) := by decide +kernel
theorem dX7_isTold_61 : decode cX7_isTold 61 = .ok (.goto 4, 3) := by decide +kernel
theorem dX7_isTold_64 : decode cX7_isTold 64 = .ok (.iconst 0, 1) := by decide +kernel
theorem dX7_isTold_65 : decode cX7_isTold 65 = .ok (.ireturn, 1) := by decide +kernel
theorem dX7_sends_0 : decode cX7_sends 0 = .ok (.iconst 0, 1) := by decide +kernel
theorem dX7_sends_1 : decode cX7_sends 1 = .ok (.istore_n 1, 1) := by decide +kernel
theorem dX7_sends_2 : decode cX7_sends 2 = .ok (.iload_n 1, 1) := by decide +kernel
theorem dX7_sends_3 : decode cX7_sends 3 = .ok (.aload_n 0, 1) := by decide +kernel
theorem dX7_sends_4 : decode cX7_sends 4 = .ok (.getfield 118, 3) := by decide +kernel
theorem dX7_sends_7 : decode cX7_sends 7 = .ok (.if_icmp .ge 123, 3) := by decide +kernel
theorem dX7_sends_10 : decode cX7_sends 10 = .ok (.iconst (-1), 1) := by decide +kernel
theorem dX7_sends_11 : decode cX7_sends 11 = .ok (.istore_n 2, 1) := by decide +kernel
theorem dX7_sends_12 : decode cX7_sends 12 = .ok (.iconst 0, 1) := by decide +kernel
theorem dX7_sends_13 : decode cX7_sends 13 = .ok (.istore_n 3, 1) := by decide +kernel
theorem dX7_sends_14 : decode cX7_sends 14 = .ok (.iload_n 3, 1) := by decide +kernel
theorem dX7_sends_15 : decode cX7_sends 15 = .ok (.aload_n 0, 1) := by decide +kernel
theorem dX7_sends_16 : decode cX7_sends 16 = .ok (.getfield 72, 3) := by decide +kernel
theorem dX7_sends_19 : decode cX7_sends 19 = .ok (.if_icmp .ge 37, 3) := by decide +kernel
theorem dX7_sends_22 : decode cX7_sends 22 = .ok (.aload_n 0, 1) := by decide +kernel
theorem dX7_sends_23 : decode cX7_sends 23 = .ok (.iload_n 1, 1) := by decide +kernel
theorem dX7_sends_24 : decode cX7_sends 24 = .ok (.iload_n 3, 1) := by decide +kernel
theorem dX7_sends_25 : decode cX7_sends 25 = .ok (.invokevirtual 140, 3) := by decide +kernel
theorem dX7_sends_28 : decode cX7_sends 28 = .ok (.ifCond .eq 22, 3) := by decide +kernel
theorem dX7_sends_31 : decode cX7_sends 31 = .ok (.iload_n 2, 1) := by decide +kernel
theorem dX7_sends_32 : decode cX7_sends 32 = .ok (.ifCond .lt 16, 3) := by decide +kernel
theorem dX7_sends_35 : decode cX7_sends 35 = .ok (.aload_n 0, 1) := by decide +kernel
theorem dX7_sends_36 : decode cX7_sends 36 = .ok (.iload_n 3, 1) := by decide +kernel
theorem dX7_sends_37 : decode cX7_sends 37 = .ok (.invokevirtual 143, 3) := by decide +kernel
theorem dX7_sends_40 : decode cX7_sends 40 = .ok (.aload_n 0, 1) := by decide +kernel
theorem dX7_sends_41 : decode cX7_sends 41 = .ok (.iload_n 2, 1) := by decide +kernel
theorem dX7_sends_42 : decode cX7_sends 42 = .ok (.invokevirtual 143, 3) := by decide +kernel
theorem dX7_sends_45 : decode cX7_sends 45 = .ok (.if_icmp .ge 5, 3) := by decide +kernel
theorem dX7_sends_48 : decode cX7_sends 48 = .ok (.iload_n 3, 1) := by decide +kernel
theorem dX7_sends_49 : decode cX7_sends 49 = .ok (.istore_n 2, 1) := by decide +kernel
theorem dX7_sends_50 : decode cX7_sends 50 = .ok (.iinc 3 1, 3) := by decide +kernel
theorem dX7_sends_53 : decode cX7_sends 53 = .ok (.goto (-39), 3) := by decide +kernel
theorem dX7_sends_56 : decode cX7_sends 56 = .ok (.iload_n 2, 1) := by decide +kernel
theorem dX7_sends_57 : decode cX7_sends 57 = .ok (.ifCond .ge 6, 3) := by decide +kernel
theorem dX7_sends_60 : decode cX7_sends 60 = .ok (.goto 64, 3) := by decide +kernel
theorem dX7_sends_63 : decode cX7_sends 63 = .ok (.aload_n 0, 1) := by decide +kernel
theorem dX7_sends_64 : decode cX7_sends 64 = .ok (.getfield 53, 3) := by decide +kernel
theorem dX7_sends_67 : decode cX7_sends 67 = .ok (.aload_n 0, 1) := by decide +kernel
theorem dX7_sends_68 : decode cX7_sends 68 = .ok (.getfield 146, 3) := by decide +kernel
theorem dX7_sends_71 : decode cX7_sends 71 = .ok (.iload_n 1, 1) := by decide +kernel
theorem dX7_sends_72 : decode cX7_sends 72 = .ok (.iastore, 1) := by decide +kernel
theorem dX7_sends_73 : decode cX7_sends 73 = .ok (.aload_n 0, 1) := by decide +kernel
theorem dX7_sends_74 : decode cX7_sends 74 = .ok (.getfield 56, 3) := by decide +kernel
theorem dX7_sends_77 : decode cX7_sends 77 = .ok (.aload_n 0, 1) := by decide +kernel
theorem dX7_sends_78 : decode cX7_sends 78 = .ok (.getfield 146, 3) := by decide +kernel
theorem dX7_sends_81 : decode cX7_sends 81 = .ok (.iload_n 2, 1) := by decide +kernel
theorem dX7_sends_82 : decode cX7_sends 82 = .ok (.iastore, 1) := by decide +kernel
theorem dX7_sends_83 : decode cX7_sends 83 = .ok (.aload_n 0, 1) := by decide +kernel
theorem dX7_sends_84 : decode cX7_sends 84 = .ok (.getfield 59, 3) := by decide +kernel
theorem dX7_sends_87 : decode cX7_sends 87 = .ok (.aload_n 0, 1) := by decide +kernel
theorem dX7_sends_88 : decode cX7_sends 88 = .ok (.getfield 146, 3) := by decide +kernel
theorem dX7_sends_91 : decode cX7_sends 91 = .ok (.aload_n 0, 1) := by decide +kernel
theorem dX7_sends_92 : decode cX7_sends 92 = .ok (.iload_n 2, 1) := by decide +kernel
theorem dX7_sends_93 : decode cX7_sends 93 = .ok (.aload_n 0, 1) := by decide +kernel
theorem dX7_sends_94 : decode cX7_sends 94 = .ok (.getfield 134, 3) := by decide +kernel
theorem dX7_sends_97 : decode cX7_sends 97 = .ok (.invokevirtual 93, 3) := by decide +kernel
theorem dX7_sends_100 : decode cX7_sends 100 = .ok (.iastore, 1) := by decide +kernel
theorem dX7_sends_101 : decode cX7_sends 101 = .ok (.aload_n 0, 1) := by decide +kernel
theorem dX7_sends_102 : decode cX7_sends 102 = .ok (.getfield 62, 3) := by decide +kernel
theorem dX7_sends_105 : decode cX7_sends 105 = .ok (.aload_n 0, 1) := by decide +kernel
theorem dX7_sends_106 : decode cX7_sends 106 = .ok (.getfield 146, 3) := by decide +kernel
theorem dX7_sends_109 : decode cX7_sends 109 = .ok (.aload_n 0, 1) := by decide +kernel
theorem dX7_sends_110 : decode cX7_sends 110 = .ok (.getfield 134, 3) := by decide +kernel
theorem dX7_sends_113 : decode cX7_sends 113 = .ok (.iastore, 1) := by decide +kernel
theorem dX7_sends_114 : decode cX7_sends 114 = .ok (.aload_n 0, 1) := by decide +kernel
theorem dX7_sends_115 : decode cX7_sends 115 = .ok (.dup, 1) := by decide +kernel
theorem dX7_sends_116 : decode cX7_sends 116 = .ok (.getfield 146, 3) := by decide +kernel
theorem dX7_sends_119 : decode cX7_sends 119 = .ok (.iconst 1, 1) := by decide +kernel
theorem dX7_sends_120 : decode cX7_sends 120 = .ok (.iadd, 1) := by decide +kernel
theorem dX7_sends_121 : decode cX7_sends 121 = .ok (.putfield 146, 3) := by decide +kernel
theorem dX7_sends_124 : decode cX7_sends 124 = .ok (.iinc 1 1, 3) := by decide +kernel
theorem dX7_sends_127 : decode cX7_sends 127 = .ok (.goto (-125), 3) := by decide +kernel
theorem dX7_sends_130 : decode cX7_sends 130 = .ok (.return_, 1) := by decide +kernel
theorem dX7_report_0 : decode cX7_report 0 = .ok (.aload_n 0, 1) := by decide +kernel
theorem dX7_report_1 : decode cX7_report 1 = .ok (.iconst 0, 1) := by decide +kernel
theorem dX7_report_2 : decode cX7_report 2 = .ok (.putfield 68, 3) := by decide +kernel
theorem dX7_report_5 : decode cX7_report 5 = .ok (.aload_n 0, 1) := by decide +kernel
theorem dX7_report_6 : decode cX7_report 6 = .ok (.iload_n 1, 1) := by decide +kernel
theorem dX7_report_7 : decode cX7_report 7 = .ok (.invokevirtual 82, 3) := by decide +kernel
theorem dX7_report_10 : decode cX7_report 10 = .ok (.ifCond .ne 9, 3) := by decide +kernel
theorem dX7_report_13 : decode cX7_report 13 = .ok (.aload_n 0, 1) := by decide +kernel
theorem dX7_report_14 : decode cX7_report 14 = .ok (.iconst 1, 1) := by decide +kernel
theorem dX7_report_15 : decode cX7_report 15 = .ok (.invokevirtual 86, 3) := by decide +kernel
theorem dX7_report_18 : decode cX7_report 18 = .ok (.ireturn, 1) := by decide +kernel
theorem dX7_report_19 : decode cX7_report 19 = .ok (.iload_n 2, 1) := by decide +kernel
theorem dX7_report_20 : decode cX7_report 20 = .ok (.iconst 1, 1) := by decide +kernel
theorem dX7_report_21 : decode cX7_report 21 = .ok (.iconst 3, 1) := by decide +kernel
theorem dX7_report_22 : decode cX7_report 22 = .ok (.invokestatic 75, 3) := by decide +kernel
theorem dX7_report_25 : decode cX7_report 25 = .ok (.ifCond .eq 15, 3) := by decide +kernel
theorem dX7_report_28 : decode cX7_report 28 = .ok (.iload_n 3, 1) := by decide +kernel
theorem dX7_report_29 : decode cX7_report 29 = .ok (.iconst 0, 1) := by decide +kernel
theorem dX7_report_30 : decode cX7_report 30 = .ok (.aload_n 0, 1) := by decide +kernel
theorem dX7_report_31 : decode cX7_report 31 = .ok (.getfield 134, 3) := by decide +kernel
theorem dX7_report_34 : decode cX7_report 34 = .ok (.invokestatic 75, 3) := by decide +kernel
theorem dX7_report_37 : decode cX7_report 37 = .ok (.ifCond .ne 9, 3) := by decide +kernel
theorem dX7_report_40 : decode cX7_report 40 = .ok (.aload_n 0, 1) := by decide +kernel
theorem dX7_report_41 : decode cX7_report 41 = .ok (.iconst 2, 1) := by decide +kernel
theorem dX7_report_42 : decode cX7_report 42 = .ok (.invokevirtual 86, 3) := by decide +kernel
theorem dX7_report_45 : decode cX7_report 45 = .ok (.ireturn, 1) := by decide +kernel
theorem dX7_report_46 : decode cX7_report 46 = .ok (.aload_n 0, 1) := by decide +kernel
theorem dX7_report_47 : decode cX7_report 47 = .ok (.iload_n 1, 1) := by decide +kernel
theorem dX7_report_48 : decode cX7_report 48 = .ok (.invokevirtual 100, 3) := by decide +kernel
theorem dX7_report_51 : decode cX7_report 51 = .ok (.ifCond .eq 9, 3) := by decide +kernel
theorem dX7_report_54 : decode cX7_report 54 = .ok (.aload_n 0, 1) := by decide +kernel
theorem dX7_report_55 : decode cX7_report 55 = .ok (.iconst 3, 1) := by decide +kernel
theorem dX7_report_56 : decode cX7_report 56 = .ok (.invokevirtual 86, 3) := by decide +kernel
theorem dX7_report_59 : decode cX7_report 59 = .ok (.ireturn, 1) := by decide +kernel
theorem dX7_report_60 : decode cX7_report 60 = .ok (.aload_n 0, 1) := by decide +kernel
theorem dX7_report_61 : decode cX7_report 61 = .ok (.getfield 79, 3) := by decide +kernel
theorem dX7_report_64 : decode cX7_report 64 = .ok (.bipush 20, 2) := by decide +kernel
theorem dX7_report_66 : decode cX7_report 66 = .ok (.if_icmp .ne 9, 3) := by decide +kernel
theorem dX7_report_69 : decode cX7_report 69 = .ok (.aload_n 0, 1) := by decide +kernel
theorem dX7_report_70 : decode cX7_report 70 = .ok (.iconst 4, 1) := by decide +kernel
theorem dX7_report_71 : decode cX7_report 71 = .ok (.invokevirtual 86, 3) := by decide +kernel
theorem dX7_report_74 : decode cX7_report 74 = .ok (.ireturn, 1) := by decide +kernel
theorem dX7_report_75 : decode cX7_report 75 = .ok (.aload_n 0, 1) := by decide +kernel
theorem dX7_report_76 : decode cX7_report 76 = .ok (.invokevirtual 149, 3) := by decide +kernel
theorem dX7_report_79 : decode cX7_report 79 = .ok (.aload_n 0, 1) := by decide +kernel
theorem dX7_report_80 : decode cX7_report 80 = .ok (.getfield 16, 3) := by decide +kernel
theorem dX7_report_83 : decode cX7_report 83 = .ok (.aload_n 0, 1) := by decide +kernel
theorem dX7_report_84 : decode cX7_report 84 = .ok (.getfield 79, 3) := by decide +kernel
theorem dX7_report_87 : decode cX7_report 87 = .ok (.iload_n 1, 1) := by decide +kernel
theorem dX7_report_88 : decode cX7_report 88 = .ok (.iastore, 1) := by decide +kernel
theorem dX7_report_89 : decode cX7_report 89 = .ok (.aload_n 0, 1) := by decide +kernel
theorem dX7_report_90 : decode cX7_report 90 = .ok (.getfield 19, 3) := by decide +kernel
theorem dX7_report_93 : decode cX7_report 93 = .ok (.aload_n 0, 1) := by decide +kernel
theorem dX7_report_94 : decode cX7_report 94 = .ok (.getfield 79, 3) := by decide +kernel
theorem dX7_report_97 : decode cX7_report 97 = .ok (.iload_n 2, 1) := by decide +kernel
theorem dX7_report_98 : decode cX7_report 98 = .ok (.iastore, 1) := by decide +kernel
theorem dX7_report_99 : decode cX7_report 99 = .ok (.aload_n 0, 1) := by decide +kernel
theorem dX7_report_100 : decode cX7_report 100 = .ok (.getfield 22, 3) := by decide +kernel
theorem dX7_report_103 : decode cX7_report 103 = .ok (.aload_n 0, 1) := by decide +kernel
theorem dX7_report_104 : decode cX7_report 104 = .ok (.getfield 79, 3) := by decide +kernel
theorem dX7_report_107 : decode cX7_report 107 = .ok (.iload_n 3, 1) := by decide +kernel
theorem dX7_report_108 : decode cX7_report 108 = .ok (.iastore, 1) := by decide +kernel
theorem dX7_report_109 : decode cX7_report 109 = .ok (.aload_n 0, 1) := by decide +kernel
theorem dX7_report_110 : decode cX7_report 110 = .ok (.getfield 25, 3) := by decide +kernel
theorem dX7_report_113 : decode cX7_report 113 = .ok (.aload_n 0, 1) := by decide +kernel
theorem dX7_report_114 : decode cX7_report 114 = .ok (.getfield 79, 3) := by decide +kernel
theorem dX7_report_117 : decode cX7_report 117 = .ok (.iconst (-1), 1) := by decide +kernel
theorem dX7_report_118 : decode cX7_report 118 = .ok (.iastore, 1) := by decide +kernel
theorem dX7_report_119 : decode cX7_report 119 = .ok (.aload_n 0, 1) := by decide +kernel
theorem dX7_report_120 : decode cX7_report 120 = .ok (.getfield 28, 3) := by decide +kernel
theorem dX7_report_123 : decode cX7_report 123 = .ok (.aload_n 0, 1) := by decide +kernel
theorem dX7_report_124 : decode cX7_report 124 = .ok (.getfield 79, 3) := by decide +kernel
theorem dX7_report_127 : decode cX7_report 127 = .ok (.aload_n 0, 1) := by decide +kernel
theorem dX7_report_128 : decode cX7_report 128 = .ok (.getfield 79, 3) := by decide +kernel
theorem dX7_report_131 : decode cX7_report 131 = .ok (.iastore, 1) := by decide +kernel
theorem dX7_report_132 : decode cX7_report 132 = .ok (.aload_n 0, 1) := by decide +kernel
theorem dX7_report_133 : decode cX7_report 133 = .ok (.dup, 1) := by decide +kernel
theorem dX7_report_134 : decode cX7_report 134 = .ok (.getfield 79, 3) := by decide +kernel
theorem dX7_report_137 : decode cX7_report 137 = .ok (.iconst 1, 1) := by decide +kernel
theorem dX7_report_138 : decode cX7_report 138 = .ok (.iadd, 1) := by decide +kernel
theorem dX7_report_139 : decode cX7_report 139 = .ok (.putfield 79, 3) := by decide +kernel
theorem dX7_report_142 : decode cX7_report 142 = .ok (.aload_n 0, 1) := by decide +kernel
theorem dX7_report_143 : decode cX7_report 143 = .ok (.invokevirtual 152, 3) := by decide +kernel
theorem dX7_report_146 : decode cX7_report 146 = .ok (.aload_n 0, 1) := by decide +kernel
theorem dX7_report_147 : decode cX7_report 147 = .ok (.getfield 79, 3) := by decide +kernel
theorem dX7_report_150 : decode cX7_report 150 = .ok (.iconst 1, 1) := by decide +kernel
theorem dX7_report_151 : decode cX7_report 151 = .ok (.isub, 1) := by decide +kernel
theorem dX7_report_152 : decode cX7_report 152 = .ok (.ireturn, 1) := by decide +kernel
theorem dX7_resolve_0 : decode cX7_resolve 0 = .ok (.aload_n 0, 1) := by decide +kernel
theorem dX7_resolve_1 : decode cX7_resolve 1 = .ok (.iconst 0, 1) := by decide +kernel
theorem dX7_resolve_2 : decode cX7_resolve 2 = .ok (.putfield 68, 3) := by decide +kernel
theorem dX7_resolve_5 : decode cX7_resolve 5 = .ok (.aload_n 0, 1) := by decide +kernel
theorem dX7_resolve_6 : decode cX7_resolve 6 = .ok (.iload_n 1, 1) := by decide +kernel
theorem dX7_resolve_7 : decode cX7_resolve 7 = .ok (.invokevirtual 155, 3) := by decide +kernel
theorem dX7_resolve_10 : decode cX7_resolve 10 = .ok (.ifCond .ne 9, 3) := by decide +kernel
theorem dX7_resolve_13 : decode cX7_resolve 13 = .ok (.aload_n 0, 1) := by decide +kernel
theorem dX7_resolve_14 : decode cX7_resolve 14 = .ok (.iconst 1, 1) := by decide +kernel
theorem dX7_resolve_15 : decode cX7_resolve 15 = .ok (.invokevirtual 86, 3) := by decide +kernel
theorem dX7_resolve_18 : decode cX7_resolve 18 = .ok (.ireturn, 1) := by decide +kernel
theorem dX7_resolve_19 : decode cX7_resolve 19 = .ok (.aload_n 0, 1) := by decide +kernel
theorem dX7_resolve_20 : decode cX7_resolve 20 = .ok (.getfield 25, 3) := by decide +kernel
theorem dX7_resolve_23 : decode cX7_resolve 23 = .ok (.iload_n 1, 1) := by decide +kernel
theorem dX7_resolve_24 : decode cX7_resolve 24 = .ok (.iaload, 1) := by decide +kernel
theorem dX7_resolve_25 : decode cX7_resolve 25 = .ok (.iconst (-1), 1) := by decide +kernel
theorem dX7_resolve_26 : decode cX7_resolve 26 = .ok (.if_icmp .eq 9, 3) := by decide +kernel
theorem dX7_resolve_29 : decode cX7_resolve 29 = .ok (.aload_n 0, 1) := by decide +kernel
theorem dX7_resolve_30 : decode cX7_resolve 30 = .ok (.iconst 2, 1) := by decide +kernel
theorem dX7_resolve_31 : decode cX7_resolve 31 = .ok (.invokevirtual 86, 3) := by decide +kernel
theorem dX7_resolve_34 : decode cX7_resolve 34 = .ok (.ireturn, 1) := by decide +kernel
theorem dX7_resolve_35 : decode cX7_resolve 35 = .ok (.iload_n 2, 1) := by decide +kernel
theorem dX7_resolve_36 : decode cX7_resolve 36 = .ok (.aload_n 0, 1) := by decide +kernel
theorem dX7_resolve_37 : decode cX7_resolve 37 = .ok (.getfield 22, 3) := by decide +kernel
theorem dX7_resolve_40 : decode cX7_resolve 40 = .ok (.iload_n 1, 1) := by decide +kernel
theorem dX7_resolve_41 : decode cX7_resolve 41 = .ok (.iaload, 1) := by decide +kernel
theorem dX7_resolve_42 : decode cX7_resolve 42 = .ok (.aload_n 0, 1) := by decide +kernel
theorem dX7_resolve_43 : decode cX7_resolve 43 = .ok (.getfield 134, 3) := by decide +kernel
theorem dX7_resolve_46 : decode cX7_resolve 46 = .ok (.invokestatic 75, 3) := by decide +kernel
theorem dX7_resolve_49 : decode cX7_resolve 49 = .ok (.ifCond .ne 9, 3) := by decide +kernel
theorem dX7_resolve_52 : decode cX7_resolve 52 = .ok (.aload_n 0, 1) := by decide +kernel
theorem dX7_resolve_53 : decode cX7_resolve 53 = .ok (.iconst 3, 1) := by decide +kernel
theorem dX7_resolve_54 : decode cX7_resolve 54 = .ok (.invokevirtual 86, 3) := by decide +kernel
theorem dX7_resolve_57 : decode cX7_resolve 57 = .ok (.ireturn, 1) := by decide +kernel
theorem dX7_resolve_58 : decode cX7_resolve 58 = .ok (.aload_n 0, 1) := by decide +kernel
theorem dX7_resolve_59 : decode cX7_resolve 59 = .ok (.invokevirtual 149, 3) := by decide +kernel
theorem dX7_resolve_62 : decode cX7_resolve 62 = .ok (.aload_n 0, 1) := by decide +kernel
theorem dX7_resolve_63 : decode cX7_resolve 63 = .ok (.getfield 25, 3) := by decide +kernel
theorem dX7_resolve_66 : decode cX7_resolve 66 = .ok (.iload_n 1, 1) := by decide +kernel
theorem dX7_resolve_67 : decode cX7_resolve 67 = .ok (.iload_n 2, 1) := by decide +kernel
theorem dX7_resolve_68 : decode cX7_resolve 68 = .ok (.iastore, 1) := by decide +kernel
theorem dX7_resolve_69 : decode cX7_resolve 69 = .ok (.aload_n 0, 1) := by decide +kernel
theorem dX7_resolve_70 : decode cX7_resolve 70 = .ok (.invokevirtual 152, 3) := by decide +kernel
theorem dX7_resolve_73 : decode cX7_resolve 73 = .ok (.iload_n 2, 1) := by decide +kernel
theorem dX7_resolve_74 : decode cX7_resolve 74 = .ok (.aload_n 0, 1) := by decide +kernel
theorem dX7_resolve_75 : decode cX7_resolve 75 = .ok (.getfield 22, 3) := by decide +kernel
theorem dX7_resolve_78 : decode cX7_resolve 78 = .ok (.iload_n 1, 1) := by decide +kernel
theorem dX7_resolve_79 : decode cX7_resolve 79 = .ok (.iaload, 1) := by decide +kernel
theorem dX7_resolve_80 : decode cX7_resolve 80 = .ok (.isub, 1) := by decide +kernel
theorem dX7_resolve_81 : decode cX7_resolve 81 = .ok (.ireturn, 1) := by decide +kernel
theorem dX7_correct_0 : decode cX7_correct 0 = .ok (.aload_n 0, 1) := by decide +kernel
theorem dX7_correct_1 : decode cX7_correct 1 = .ok (.iconst 0, 1) := by decide +kernel
theorem dX7_correct_2 : decode cX7_correct 2 = .ok (.putfield 68, 3) := by decide +kernel
theorem dX7_correct_5 : decode cX7_correct 5 = .ok (.aload_n 0, 1) := by decide +kernel
theorem dX7_correct_6 : decode cX7_correct 6 = .ok (.iload_n 1, 1) := by decide +kernel
theorem dX7_correct_7 : decode cX7_correct 7 = .ok (.invokevirtual 155, 3) := by decide +kernel
theorem dX7_correct_10 : decode cX7_correct 10 = .ok (.ifCond .ne 9, 3) := by decide +kernel
theorem dX7_correct_13 : decode cX7_correct 13 = .ok (.aload_n 0, 1) := by decide +kernel
theorem dX7_correct_14 : decode cX7_correct 14 = .ok (.iconst 1, 1) := by decide +kernel
theorem dX7_correct_15 : decode cX7_correct 15 = .ok (.invokevirtual 86, 3) := by decide +kernel
theorem dX7_correct_18 : decode cX7_correct 18 = .ok (.ireturn, 1) := by decide +kernel
theorem dX7_correct_19 : decode cX7_correct 19 = .ok (.iload_n 2, 1) := by decide +kernel
theorem dX7_correct_20 : decode cX7_correct 20 = .ok (.iconst 1, 1) := by decide +kernel
theorem dX7_correct_21 : decode cX7_correct 21 = .ok (.iconst 3, 1) := by decide +kernel
theorem dX7_correct_22 : decode cX7_correct 22 = .ok (.invokestatic 75, 3) := by decide +kernel
theorem dX7_correct_25 : decode cX7_correct 25 = .ok (.ifCond .eq 34, 3) := by decide +kernel
theorem dX7_correct_28 : decode cX7_correct 28 = .ok (.iload_n 3, 1) := by decide +kernel
theorem dX7_correct_29 : decode cX7_correct 29 = .ok (.iconst 0, 1) := by decide +kernel
theorem dX7_correct_30 : decode cX7_correct 30 = .ok (.aload_n 0, 1) := by decide +kernel
theorem dX7_correct_31 : decode cX7_correct 31 = .ok (.getfield 25, 3) := by decide +kernel
theorem dX7_correct_34 : decode cX7_correct 34 = .ok (.iload_n 1, 1) := by decide +kernel
theorem dX7_correct_35 : decode cX7_correct 35 = .ok (.iaload, 1) := by decide +kernel
theorem dX7_correct_36 : decode cX7_correct 36 = .ok (.iconst (-1), 1) := by decide +kernel
theorem dX7_correct_37 : decode cX7_correct 37 = .ok (.if_icmp .ne 10, 3) := by decide +kernel
theorem dX7_correct_40 : decode cX7_correct 40 = .ok (.aload_n 0, 1) := by decide +kernel
theorem dX7_correct_41 : decode cX7_correct 41 = .ok (.getfield 134, 3) := by decide +kernel
theorem dX7_correct_44 : decode cX7_correct 44 = .ok (.goto 9, 3) := by decide +kernel
theorem dX7_correct_47 : decode cX7_correct 47 = .ok (.aload_n 0, 1) := by decide +kernel
theorem dX7_correct_48 : decode cX7_correct 48 = .ok (.getfield 25, 3) := by decide +kernel
theorem dX7_correct_51 : decode cX7_correct 51 = .ok (.iload_n 1, 1) := by decide +kernel
theorem dX7_correct_52 : decode cX7_correct 52 = .ok (.iaload, 1) := by decide +kernel
theorem dX7_correct_53 : decode cX7_correct 53 = .ok (.invokestatic 75, 3) := by decide +kernel
theorem dX7_correct_56 : decode cX7_correct 56 = .ok (.ifCond .ne 9, 3) := by decide +kernel
theorem dX7_correct_59 : decode cX7_correct 59 = .ok (.aload_n 0, 1) := by decide +kernel
theorem dX7_correct_60 : decode cX7_correct 60 = .ok (.iconst 2, 1) := by decide +kernel
theorem dX7_correct_61 : decode cX7_correct 61 = .ok (.invokevirtual 86, 3) := by decide +kernel
theorem dX7_correct_64 : decode cX7_correct 64 = .ok (.ireturn, 1) := by decide +kernel
theorem dX7_correct_65 : decode cX7_correct 65 = .ok (.aload_n 0, 1) := by decide +kernel
theorem dX7_correct_66 : decode cX7_correct 66 = .ok (.invokevirtual 149, 3) := by decide +kernel
theorem dX7_correct_69 : decode cX7_correct 69 = .ok (.aload_n 0, 1) := by decide +kernel
theorem dX7_correct_70 : decode cX7_correct 70 = .ok (.getfield 19, 3) := by decide +kernel
theorem dX7_correct_73 : decode cX7_correct 73 = .ok (.iload_n 1, 1) := by decide +kernel
theorem dX7_correct_74 : decode cX7_correct 74 = .ok (.iaload, 1) := by decide +kernel
theorem dX7_correct_75 : decode cX7_correct 75 = .ok (.istore 4, 2) := by decide +kernel
theorem dX7_correct_77 : decode cX7_correct 77 = .ok (.aload_n 0, 1) := by decide +kernel
theorem dX7_correct_78 : decode cX7_correct 78 = .ok (.getfield 19, 3) := by decide +kernel
theorem dX7_correct_81 : decode cX7_correct 81 = .ok (.iload_n 1, 1) := by decide +kernel
theorem dX7_correct_82 : decode cX7_correct 82 = .ok (.iload_n 2, 1) := by decide +kernel
theorem dX7_correct_83 : decode cX7_correct 83 = .ok (.iastore, 1) := by decide +kernel
theorem dX7_correct_84 : decode cX7_correct 84 = .ok (.aload_n 0, 1) := by decide +kernel
theorem dX7_correct_85 : decode cX7_correct 85 = .ok (.getfield 22, 3) := by decide +kernel
theorem dX7_correct_88 : decode cX7_correct 88 = .ok (.iload_n 1, 1) := by decide +kernel
theorem dX7_correct_89 : decode cX7_correct 89 = .ok (.iload_n 3, 1) := by decide +kernel
theorem dX7_correct_90 : decode cX7_correct 90 = .ok (.iastore, 1) := by decide +kernel
theorem dX7_correct_91 : decode cX7_correct 91 = .ok (.aload_n 0, 1) := by decide +kernel
theorem dX7_correct_92 : decode cX7_correct 92 = .ok (.invokevirtual 152, 3) := by decide +kernel
theorem dX7_correct_95 : decode cX7_correct 95 = .ok (.iload 4, 2) := by decide +kernel
theorem dX7_correct_97 : decode cX7_correct 97 = .ok (.ireturn, 1) := by decide +kernel
theorem dX7_openMany_0 : decode cX7_openMany 0 = .ok (.iconst 0, 1) := by decide +kernel
theorem dX7_openMany_1 : decode cX7_openMany 1 = .ok (.istore_n 1, 1) := by decide +kernel
theorem dX7_openMany_2 : decode cX7_openMany 2 = .ok (.iconst 0, 1) := by decide +kernel
theorem dX7_openMany_3 : decode cX7_openMany 3 = .ok (.istore_n 2, 1) := by decide +kernel
theorem dX7_openMany_4 : decode cX7_openMany 4 = .ok (.iload_n 2, 1) := by decide +kernel
theorem dX7_openMany_5 : decode cX7_openMany 5 = .ok (.aload_n 0, 1) := by decide +kernel
theorem dX7_openMany_6 : decode cX7_openMany 6 = .ok (.getfield 79, 3) := by decide +kernel
theorem dX7_openMany_9 : decode cX7_openMany 9 = .ok (.if_icmp .ge 27, 3) := by decide +kernel
theorem dX7_openMany_12 : decode cX7_openMany 12 = .ok (.iload_n 1, 1) := by decide +kernel
theorem dX7_openMany_13 : decode cX7_openMany 13 = .ok (.aload_n 0, 1) := by decide +kernel
theorem dX7_openMany_14 : decode cX7_openMany 14 = .ok (.getfield 25, 3) := by decide +kernel
theorem dX7_openMany_17 : decode cX7_openMany 17 = .ok (.iload_n 2, 1) := by decide +kernel
theorem dX7_openMany_18 : decode cX7_openMany 18 = .ok (.iaload, 1) := by decide +kernel
theorem dX7_openMany_19 : decode cX7_openMany 19 = .ok (.iconst (-1), 1) := by decide +kernel
theorem dX7_openMany_20 : decode cX7_openMany 20 = .ok (.if_icmp .ne 7, 3) := by decide +kernel
theorem dX7_openMany_23 : decode cX7_openMany 23 = .ok (.iconst 1, 1) := by decide +kernel
theorem dX7_openMany_24 : decode cX7_openMany 24 = .ok (.goto 4, 3) := by decide +kernel
theorem dX7_openMany_27 : decode cX7_openMany 27 = .ok (.iconst 0, 1) := by decide +kernel
theorem dX7_openMany_28 : decode cX7_openMany 28 = .ok (.iadd, 1) := by decide +kernel
theorem dX7_openMany_29 : decode cX7_openMany 29 = .ok (.istore_n 1, 1) := by decide +kernel
theorem dX7_openMany_30 : decode cX7_openMany 30 = .ok (.iinc 2 1, 3) := by decide +kernel
theorem dX7_openMany_33 : decode cX7_openMany 33 = .ok (.goto (-29), 3) := by decide +kernel
theorem dX7_openMany_36 : decode cX7_openMany 36 = .ok (.iload_n 1, 1) := by decide +kernel
theorem dX7_openMany_37 : decode cX7_openMany 37 = .ok (.ireturn, 1) := by decide +kernel
theorem dX7_withdraw_0 : decode cX7_withdraw 0 = .ok (.aload_n 0, 1) := by decide +kernel
theorem dX7_withdraw_1 : decode cX7_withdraw 1 = .ok (.iconst 0, 1) := by decide +kernel
theorem dX7_withdraw_2 : decode cX7_withdraw 2 = .ok (.putfield 68, 3) := by decide +kernel
theorem dX7_withdraw_5 : decode cX7_withdraw 5 = .ok (.aload_n 0, 1) := by decide +kernel
theorem dX7_withdraw_6 : decode cX7_withdraw 6 = .ok (.iload_n 1, 1) := by decide +kernel
theorem dX7_withdraw_7 : decode cX7_withdraw 7 = .ok (.invokevirtual 155, 3) := by decide +kernel
theorem dX7_withdraw_10 : decode cX7_withdraw 10 = .ok (.ifCond .ne 9, 3) := by decide +kernel
theorem dX7_withdraw_13 : decode cX7_withdraw 13 = .ok (.aload_n 0, 1) := by decide +kernel
theorem dX7_withdraw_14 : decode cX7_withdraw 14 = .ok (.iconst 1, 1) := by decide +kernel
theorem dX7_withdraw_15 : decode cX7_withdraw 15 = .ok (.invokevirtual 86, 3) := by decide +kernel
theorem dX7_withdraw_18 : decode cX7_withdraw 18 = .ok (.ireturn, 1) := by decide +kernel
theorem dX7_withdraw_19 : decode cX7_withdraw 19 = .ok (.aload_n 0, 1) := by decide +kernel
theorem dX7_withdraw_20 : decode cX7_withdraw 20 = .ok (.getfield 25, 3) := by decide +kernel
theorem dX7_withdraw_23 : decode cX7_withdraw 23 = .ok (.iload_n 1, 1) := by decide +kernel
theorem dX7_withdraw_24 : decode cX7_withdraw 24 = .ok (.iaload, 1) := by decide +kernel
theorem dX7_withdraw_25 : decode cX7_withdraw 25 = .ok (.aload_n 0, 1) := by decide +kernel
theorem dX7_withdraw_26 : decode cX7_withdraw 26 = .ok (.getfield 22, 3) := by decide +kernel
theorem dX7_withdraw_29 : decode cX7_withdraw 29 = .ok (.iload_n 1, 1) := by decide +kernel
theorem dX7_withdraw_30 : decode cX7_withdraw 30 = .ok (.iaload, 1) := by decide +kernel
theorem dX7_withdraw_31 : decode cX7_withdraw 31 = .ok (.if_icmp .ne 9, 3) := by decide +kernel
theorem dX7_withdraw_34 : decode cX7_withdraw 34 = .ok (.aload_n 0, 1) := by decide +kernel
theorem dX7_withdraw_35 : decode cX7_withdraw 35 = .ok (.iconst 2, 1) := by decide +kernel
theorem dX7_withdraw_36 : decode cX7_withdraw 36 = .ok (.invokevirtual 86, 3) := by decide +kernel
theorem dX7_withdraw_39 : decode cX7_withdraw 39 = .ok (.ireturn, 1) := by decide +kernel
theorem dX7_withdraw_40 : decode cX7_withdraw 40 = .ok (.aload_n 0, 1) := by decide +kernel
theorem dX7_withdraw_41 : decode cX7_withdraw 41 = .ok (.invokevirtual 149, 3) := by decide +kernel
theorem dX7_withdraw_44 : decode cX7_withdraw 44 = .ok (.aload_n 0, 1) := by decide +kernel
theorem dX7_withdraw_45 : decode cX7_withdraw 45 = .ok (.getfield 25, 3) := by decide +kernel
theorem dX7_withdraw_48 : decode cX7_withdraw 48 = .ok (.iload_n 1, 1) := by decide +kernel
theorem dX7_withdraw_49 : decode cX7_withdraw 49 = .ok (.aload_n 0, 1) := by decide +kernel
theorem dX7_withdraw_50 : decode cX7_withdraw 50 = .ok (.getfield 22, 3) := by decide +kernel
theorem dX7_withdraw_53 : decode cX7_withdraw 53 = .ok (.iload_n 1, 1) := by decide +kernel
theorem dX7_withdraw_54 : decode cX7_withdraw 54 = .ok (.iaload, 1) := by decide +kernel
theorem dX7_withdraw_55 : decode cX7_withdraw 55 = .ok (.iastore, 1) := by decide +kernel
theorem dX7_withdraw_56 : decode cX7_withdraw 56 = .ok (.aload_n 0, 1) := by decide +kernel
theorem dX7_withdraw_57 : decode cX7_withdraw 57 = .ok (.invokevirtual 152, 3) := by decide +kernel
theorem dX7_withdraw_60 : decode cX7_withdraw 60 = .ok (.aload_n 0, 1) := by decide +kernel
theorem dX7_withdraw_61 : decode cX7_withdraw 61 = .ok (.invokevirtual 158, 3) := by decide +kernel
theorem dX7_withdraw_64 : decode cX7_withdraw 64 = .ok (.ireturn, 1) := by decide +kernel
theorem dX7_join_0 : decode cX7_join 0 = .ok (.aload_n 0, 1) := by decide +kernel
theorem dX7_join_1 : decode cX7_join 1 = .ok (.iconst 0, 1) := by decide +kernel
theorem dX7_join_2 : decode cX7_join 2 = .ok (.putfield 68, 3) := by decide +kernel
theorem dX7_join_5 : decode cX7_join 5 = .ok (.aload_n 0, 1) := by decide +kernel
theorem dX7_join_6 : decode cX7_join 6 = .ok (.iload_n 1, 1) := by decide +kernel
theorem dX7_join_7 : decode cX7_join 7 = .ok (.invokevirtual 155, 3) := by decide +kernel
theorem dX7_join_10 : decode cX7_join 10 = .ok (.ifCond .eq 11, 3) := by decide +kernel
theorem dX7_join_13 : decode cX7_join 13 = .ok (.aload_n 0, 1) := by decide +kernel
theorem dX7_join_14 : decode cX7_join 14 = .ok (.iload_n 2, 1) := by decide +kernel
theorem dX7_join_15 : decode cX7_join 15 = .ok (.invokevirtual 155, 3) := by decide +kernel
theorem dX7_join_18 : decode cX7_join 18 = .ok (.ifCond .ne 9, 3) := by decide +kernel
theorem dX7_join_21 : decode cX7_join 21 = .ok (.aload_n 0, 1) := by decide +kernel
theorem dX7_join_22 : decode cX7_join 22 = .ok (.iconst 1, 1) := by decide +kernel
theorem dX7_join_23 : decode cX7_join 23 = .ok (.invokevirtual 86, 3) := by decide +kernel
theorem dX7_join_26 : decode cX7_join 26 = .ok (.ireturn, 1) := by decide +kernel
theorem dX7_join_27 : decode cX7_join 27 = .ok (.aload_n 0, 1) := by decide +kernel
theorem dX7_join_28 : decode cX7_join 28 = .ok (.getfield 28, 3) := by decide +kernel
theorem dX7_join_31 : decode cX7_join 31 = .ok (.iload_n 1, 1) := by decide +kernel
theorem dX7_join_32 : decode cX7_join 32 = .ok (.iaload, 1) := by decide +kernel
theorem dX7_join_33 : decode cX7_join 33 = .ok (.aload_n 0, 1) := by decide +kernel
theorem dX7_join_34 : decode cX7_join 34 = .ok (.getfield 28, 3) := by decide +kernel
theorem dX7_join_37 : decode cX7_join 37 = .ok (.iload_n 2, 1) := by decide +kernel
theorem dX7_join_38 : decode cX7_join 38 = .ok (.iaload, 1) := by decide +kernel
theorem dX7_join_39 : decode cX7_join 39 = .ok (.if_icmp .ne 9, 3) := by decide +kernel
theorem dX7_join_42 : decode cX7_join 42 = .ok (.aload_n 0, 1) := by decide +kernel
theorem dX7_join_43 : decode cX7_join 43 = .ok (.iconst 2, 1) := by decide +kernel
theorem dX7_join_44 : decode cX7_join 44 = .ok (.invokevirtual 86, 3) := by decide +kernel
theorem dX7_join_47 : decode cX7_join 47 = .ok (.ireturn, 1) := by decide +kernel
theorem dX7_join_48 : decode cX7_join 48 = .ok (.aload_n 0, 1) := by decide +kernel
theorem dX7_join_49 : decode cX7_join 49 = .ok (.getfield 28, 3) := by decide +kernel
theorem dX7_join_52 : decode cX7_join 52 = .ok (.iload_n 1, 1) := by decide +kernel
theorem dX7_join_53 : decode cX7_join 53 = .ok (.iaload, 1) := by decide +kernel
theorem dX7_join_54 : decode cX7_join 54 = .ok (.aload_n 0, 1) := by decide +kernel
theorem dX7_join_55 : decode cX7_join 55 = .ok (.getfield 28, 3) := by decide +kernel
theorem dX7_join_58 : decode cX7_join 58 = .ok (.iload_n 2, 1) := by decide +kernel
theorem dX7_join_59 : decode cX7_join 59 = .ok (.iaload, 1) := by decide +kernel
theorem dX7_join_60 : decode cX7_join 60 = .ok (.invokestatic 162, 3) := by decide +kernel
theorem dX7_join_63 : decode cX7_join 63 = .ok (.istore_n 3, 1) := by decide +kernel
theorem dX7_join_64 : decode cX7_join 64 = .ok (.aload_n 0, 1) := by decide +kernel
theorem dX7_join_65 : decode cX7_join 65 = .ok (.getfield 28, 3) := by decide +kernel
theorem dX7_join_68 : decode cX7_join 68 = .ok (.iload_n 1, 1) := by decide +kernel
theorem dX7_join_69 : decode cX7_join 69 = .ok (.iaload, 1) := by decide +kernel
theorem dX7_join_70 : decode cX7_join 70 = .ok (.aload_n 0, 1) := by decide +kernel
theorem dX7_join_71 : decode cX7_join 71 = .ok (.getfield 28, 3) := by decide +kernel
theorem dX7_join_74 : decode cX7_join 74 = .ok (.iload_n 2, 1) := by decide +kernel
theorem dX7_join_75 : decode cX7_join 75 = .ok (.iaload, 1) := by decide +kernel
theorem dX7_join_76 : decode cX7_join 76 = .ok (.invokestatic 107, 3) := by decide +kernel
theorem dX7_join_79 : decode cX7_join 79 = .ok (.istore 4, 2) := by decide +kernel
theorem dX7_join_81 : decode cX7_join 81 = .ok (.iconst 0, 1) := by decide +kernel
theorem dX7_join_82 : decode cX7_join 82 = .ok (.istore 5, 2) := by decide +kernel
theorem dX7_join_84 : decode cX7_join 84 = .ok (.iconst 0, 1) := by decide +kernel
theorem dX7_join_85 : decode cX7_join 85 = .ok (.istore 6, 2) := by decide +kernel
theorem dX7_join_87 : decode cX7_join 87 = .ok (.iload 6, 2) := by decide +kernel
theorem dX7_join_89 : decode cX7_join 89 = .ok (.aload_n 0, 1) := by decide +kernel
theorem dX7_join_90 : decode cX7_join 90 = .ok (.getfield 79, 3) := by decide +kernel
theorem dX7_join_93 : decode cX7_join 93 = .ok (.if_icmp .ge 50, 3) := by decide +kernel
theorem dX7_join_96 : decode cX7_join 96 = .ok (.aload_n 0, 1) := by decide +kernel
theorem dX7_join_97 : decode cX7_join 97 = .ok (.getfield 28, 3) := by decide +kernel
theorem dX7_join_100 : decode cX7_join 100 = .ok (.iload 6, 2) := by decide +kernel
theorem dX7_join_102 : decode cX7_join 102 = .ok (.iaload, 1) := by decide +kernel
theorem dX7_join_103 : decode cX7_join 103 = .ok (.iload 4, 2) := by decide +kernel
theorem dX7_join_105 : decode cX7_join 105 = .ok (.if_icmp .ne 11, 3) := by decide +kernel
theorem dX7_join_108 : decode cX7_join 108 = .ok (.aload_n 0, 1) := by decide +kernel
theorem dX7_join_109 : decode cX7_join 109 = .ok (.getfield 28, 3) := by decide +kernel
theorem dX7_join_112 : decode cX7_join 112 = .ok (.iload 6, 2) := by decide +kernel
theorem dX7_join_114 : decode cX7_join 114 = .ok (.iload_n 3, 1) := by decide +kernel
theorem dX7_join_115 : decode cX7_join 115 = .ok (.iastore, 1) := by decide +kernel
theorem dX7_join_116 : decode cX7_join 116 = .ok (.iload 5, 2) := by decide +kernel
theorem dX7_join_118 : decode cX7_join 118 = .ok (.aload_n 0, 1) := by decide +kernel
theorem dX7_join_119 : decode cX7_join 119 = .ok (.getfield 28, 3) := by decide +kernel
theorem dX7_join_122 : decode cX7_join 122 = .ok (.iload 6, 2) := by decide +kernel
theorem dX7_join_124 : decode cX7_join 124 = .ok (.iaload, 1) := by decide +kernel
theorem dX7_join_125 : decode cX7_join 125 = .ok (.iload_n 3, 1) := by decide +kernel
theorem dX7_join_126 : decode cX7_join 126 = .ok (.if_icmp .ne 7, 3) := by decide +kernel
theorem dX7_join_129 : decode cX7_join 129 = .ok (.iconst 1, 1) := by decide +kernel
theorem dX7_join_130 : decode cX7_join 130 = .ok (.goto 4, 3) := by decide +kernel
theorem dX7_join_133 : decode cX7_join 133 = .ok (.iconst 0, 1) := by decide +kernel
theorem dX7_join_134 : decode cX7_join 134 = .ok (.iadd, 1) := by decide +kernel
theorem dX7_join_135 : decode cX7_join 135 = .ok (.istore 5, 2) := by decide +kernel
theorem dX7_join_137 : decode cX7_join 137 = .ok (.iinc 6 1, 3) := by decide +kernel
theorem dX7_join_140 : decode cX7_join 140 = .ok (.goto (-53), 3) := by decide +kernel
theorem dX7_join_143 : decode cX7_join 143 = .ok (.iload 5, 2) := by decide +kernel
theorem dX7_join_145 : decode cX7_join 145 = .ok (.ireturn, 1) := by decide +kernel
theorem dX7_maintain_0 : decode cX7_maintain 0 = .ok (.aload_n 0, 1) := by decide +kernel
theorem dX7_maintain_1 : decode cX7_maintain 1 = .ok (.iconst 0, 1) := by decide +kernel
theorem dX7_maintain_2 : decode cX7_maintain 2 = .ok (.putfield 68, 3) := by decide +kernel
theorem dX7_maintain_5 : decode cX7_maintain 5 = .ok (.aload_n 0, 1) := by decide +kernel
theorem dX7_maintain_6 : decode cX7_maintain 6 = .ok (.iload_n 1, 1) := by decide +kernel
theorem dX7_maintain_7 : decode cX7_maintain 7 = .ok (.invokevirtual 82, 3) := by decide +kernel
theorem dX7_maintain_10 : decode cX7_maintain 10 = .ok (.ifCond .ne 9, 3) := by decide +kernel
theorem dX7_maintain_13 : decode cX7_maintain 13 = .ok (.aload_n 0, 1) := by decide +kernel
theorem dX7_maintain_14 : decode cX7_maintain 14 = .ok (.iconst 1, 1) := by decide +kernel
theorem dX7_maintain_15 : decode cX7_maintain 15 = .ok (.invokevirtual 86, 3) := by decide +kernel
theorem dX7_maintain_18 : decode cX7_maintain 18 = .ok (.ireturn, 1) := by decide +kernel
theorem dX7_maintain_19 : decode cX7_maintain 19 = .ok (.iload_n 2, 1) := by decide +kernel
theorem dX7_maintain_20 : decode cX7_maintain 20 = .ok (.aload_n 0, 1) := by decide +kernel
theorem dX7_maintain_21 : decode cX7_maintain 21 = .ok (.getfield 134, 3) := by decide +kernel
theorem dX7_maintain_24 : decode cX7_maintain 24 = .ok (.sipush 9999, 3) := by decide +kernel
theorem dX7_maintain_27 : decode cX7_maintain 27 = .ok (.invokestatic 75, 3) := by decide +kernel
theorem dX7_maintain_30 : decode cX7_maintain 30 = .ok (.ifCond .eq 16, 3) := by decide +kernel
theorem dX7_maintain_33 : decode cX7_maintain 33 = .ok (.iload_n 3, 1) := by decide +kernel
theorem dX7_maintain_34 : decode cX7_maintain 34 = .ok (.iload_n 2, 1) := by decide +kernel
theorem dX7_maintain_35 : decode cX7_maintain 35 = .ok (.iconst 1, 1) := by decide +kernel
theorem dX7_maintain_36 : decode cX7_maintain 36 = .ok (.iadd, 1) := by decide +kernel
theorem dX7_maintain_37 : decode cX7_maintain 37 = .ok (.sipush 10000, 3) := by decide +kernel
theorem dX7_maintain_40 : decode cX7_maintain 40 = .ok (.invokestatic 75, 3) := by decide +kernel
theorem dX7_maintain_43 : decode cX7_maintain 43 = .ok (.ifCond .ne 9, 3) := by decide +kernel
theorem dX7_maintain_46 : decode cX7_maintain 46 = .ok (.aload_n 0, 1) := by decide +kernel
theorem dX7_maintain_47 : decode cX7_maintain 47 = .ok (.iconst 2, 1) := by decide +kernel
theorem dX7_maintain_48 : decode cX7_maintain 48 = .ok (.invokevirtual 86, 3) := by decide +kernel
theorem dX7_maintain_51 : decode cX7_maintain 51 = .ok (.ireturn, 1) := by decide +kernel
theorem dX7_maintain_52 : decode cX7_maintain 52 = .ok (.aload_n 0, 1) := by decide +kernel
theorem dX7_maintain_53 : decode cX7_maintain 53 = .ok (.getfield 115, 3) := by decide +kernel
theorem dX7_maintain_56 : decode cX7_maintain 56 = .ok (.bipush 8, 2) := by decide +kernel
theorem dX7_maintain_58 : decode cX7_maintain 58 = .ok (.if_icmp .ne 9, 3) := by decide +kernel
theorem dX7_maintain_61 : decode cX7_maintain 61 = .ok (.aload_n 0, 1) := by decide +kernel
theorem dX7_maintain_62 : decode cX7_maintain 62 = .ok (.iconst 3, 1) := by decide +kernel
theorem dX7_maintain_63 : decode cX7_maintain 63 = .ok (.invokevirtual 86, 3) := by decide +kernel
theorem dX7_maintain_66 : decode cX7_maintain 66 = .ok (.ireturn, 1) := by decide +kernel
theorem dX7_maintain_67 : decode cX7_maintain 67 = .ok (.aload_n 0, 1) := by decide +kernel
theorem dX7_maintain_68 : decode cX7_maintain 68 = .ok (.getfield 31, 3) := by decide +kernel
theorem dX7_maintain_71 : decode cX7_maintain 71 = .ok (.aload_n 0, 1) := by decide +kernel
theorem dX7_maintain_72 : decode cX7_maintain 72 = .ok (.getfield 115, 3) := by decide +kernel
theorem dX7_maintain_75 : decode cX7_maintain 75 = .ok (.iload_n 1, 1) := by decide +kernel
theorem dX7_maintain_76 : decode cX7_maintain 76 = .ok (.iastore, 1) := by decide +kernel
theorem dX7_maintain_77 : decode cX7_maintain 77 = .ok (.aload_n 0, 1) := by decide +kernel
theorem dX7_maintain_78 : decode cX7_maintain 78 = .ok (.getfield 34, 3) := by decide +kernel
theorem dX7_maintain_81 : decode cX7_maintain 81 = .ok (.aload_n 0, 1) := by decide +kernel
theorem dX7_maintain_82 : decode cX7_maintain 82 = .ok (.getfield 115, 3) := by decide +kernel
theorem dX7_maintain_85 : decode cX7_maintain 85 = .ok (.iload_n 2, 1) := by decide +kernel
theorem dX7_maintain_86 : decode cX7_maintain 86 = .ok (.iastore, 1) := by decide +kernel
theorem dX7_maintain_87 : decode cX7_maintain 87 = .ok (.aload_n 0, 1) := by decide +kernel
theorem dX7_maintain_88 : decode cX7_maintain 88 = .ok (.getfield 37, 3) := by decide +kernel
theorem dX7_maintain_91 : decode cX7_maintain 91 = .ok (.aload_n 0, 1) := by decide +kernel
theorem dX7_maintain_92 : decode cX7_maintain 92 = .ok (.getfield 115, 3) := by decide +kernel
theorem dX7_maintain_95 : decode cX7_maintain 95 = .ok (.iload_n 3, 1) := by decide +kernel
theorem dX7_maintain_96 : decode cX7_maintain 96 = .ok (.iastore, 1) := by decide +kernel
theorem dX7_maintain_97 : decode cX7_maintain 97 = .ok (.aload_n 0, 1) := by decide +kernel
theorem dX7_maintain_98 : decode cX7_maintain 98 = .ok (.dup, 1) := by decide +kernel
theorem dX7_maintain_99 : decode cX7_maintain 99 = .ok (.getfield 115, 3) := by decide +kernel
theorem dX7_maintain_102 : decode cX7_maintain 102 = .ok (.iconst 1, 1) := by decide +kernel
theorem dX7_maintain_103 : decode cX7_maintain 103 = .ok (.iadd, 1) := by decide +kernel
theorem dX7_maintain_104 : decode cX7_maintain 104 = .ok (.putfield 115, 3) := by decide +kernel
theorem dX7_maintain_107 : decode cX7_maintain 107 = .ok (.aload_n 0, 1) := by decide +kernel
theorem dX7_maintain_108 : decode cX7_maintain 108 = .ok (.getfield 115, 3) := by decide +kernel
theorem dX7_maintain_111 : decode cX7_maintain 111 = .ok (.iconst 1, 1) := by decide +kernel
theorem dX7_maintain_112 : decode cX7_maintain 112 = .ok (.isub, 1) := by decide +kernel
theorem dX7_maintain_113 : decode cX7_maintain 113 = .ok (.ireturn, 1) := by decide +kernel
theorem dX7_callOff_0 : decode cX7_callOff 0 = .ok (.aload_n 0, 1) := by decide +kernel
theorem dX7_callOff_1 : decode cX7_callOff 1 = .ok (.iconst 0, 1) := by decide +kernel
theorem dX7_callOff_2 : decode cX7_callOff 2 = .ok (.putfield 68, 3) := by decide +kernel
theorem dX7_callOff_5 : decode cX7_callOff 5 = .ok (.iload_n 1, 1) := by decide +kernel
theorem dX7_callOff_6 : decode cX7_callOff 6 = .ok (.iconst 0, 1) := by decide +kernel
theorem dX7_callOff_7 : decode cX7_callOff 7 = .ok (.aload_n 0, 1) := by decide +kernel
theorem dX7_callOff_8 : decode cX7_callOff 8 = .ok (.getfield 115, 3) := by decide +kernel
theorem dX7_callOff_11 : decode cX7_callOff 11 = .ok (.iconst 1, 1) := by decide +kernel
theorem dX7_callOff_12 : decode cX7_callOff 12 = .ok (.isub, 1) := by decide +kernel
theorem dX7_callOff_13 : decode cX7_callOff 13 = .ok (.invokestatic 75, 3) := by decide +kernel
theorem dX7_callOff_16 : decode cX7_callOff 16 = .ok (.ifCond .ne 9, 3) := by decide +kernel
theorem dX7_callOff_19 : decode cX7_callOff 19 = .ok (.aload_n 0, 1) := by decide +kernel
theorem dX7_callOff_20 : decode cX7_callOff 20 = .ok (.iconst 1, 1) := by decide +kernel
theorem dX7_callOff_21 : decode cX7_callOff 21 = .ok (.invokevirtual 86, 3) := by decide +kernel
theorem dX7_callOff_24 : decode cX7_callOff 24 = .ok (.ireturn, 1) := by decide +kernel
theorem dX7_callOff_25 : decode cX7_callOff 25 = .ok (.aload_n 0, 1) := by decide +kernel
theorem dX7_callOff_26 : decode cX7_callOff 26 = .ok (.getfield 34, 3) := by decide +kernel
theorem dX7_callOff_29 : decode cX7_callOff 29 = .ok (.iload_n 1, 1) := by decide +kernel
theorem dX7_callOff_30 : decode cX7_callOff 30 = .ok (.iaload, 1) := by decide +kernel
theorem dX7_callOff_31 : decode cX7_callOff 31 = .ok (.aload_n 0, 1) := by decide +kernel
theorem dX7_callOff_32 : decode cX7_callOff 32 = .ok (.getfield 134, 3) := by decide +kernel
theorem dX7_callOff_35 : decode cX7_callOff 35 = .ok (.if_icmp .lt 18, 3) := by decide +kernel
theorem dX7_callOff_38 : decode cX7_callOff 38 = .ok (.aload_n 0, 1) := by decide +kernel
theorem dX7_callOff_39 : decode cX7_callOff 39 = .ok (.getfield 37, 3) := by decide +kernel
theorem dX7_callOff_42 : decode cX7_callOff 42 = .ok (.iload_n 1, 1) := by decide +kernel
theorem dX7_callOff_43 : decode cX7_callOff 43 = .ok (.iaload, 1) := by decide +kernel
theorem dX7_callOff_44 : decode cX7_callOff 44 = .ok (.aload_n 0, 1) := by decide +kernel
theorem dX7_callOff_45 : decode cX7_callOff 45 = .ok (.getfield 34, 3) := by decide +kernel
theorem dX7_callOff_48 : decode cX7_callOff 48 = .ok (.iload_n 1, 1) := by decide +kernel
theorem dX7_callOff_49 : decode cX7_callOff 49 = .ok (.iaload, 1) := by decide +kernel
theorem dX7_callOff_50 : decode cX7_callOff 50 = .ok (.if_icmp .ne 9, 3) := by decide +kernel
theorem dX7_callOff_53 : decode cX7_callOff 53 = .ok (.aload_n 0, 1) := by decide +kernel
theorem dX7_callOff_54 : decode cX7_callOff 54 = .ok (.iconst 2, 1) := by decide +kernel
theorem dX7_callOff_55 : decode cX7_callOff 55 = .ok (.invokevirtual 86, 3) := by decide +kernel
theorem dX7_callOff_58 : decode cX7_callOff 58 = .ok (.ireturn, 1) := by decide +kernel
theorem dX7_callOff_59 : decode cX7_callOff 59 = .ok (.aload_n 0, 1) := by decide +kernel
theorem dX7_callOff_60 : decode cX7_callOff 60 = .ok (.getfield 37, 3) := by decide +kernel
theorem dX7_callOff_63 : decode cX7_callOff 63 = .ok (.iload_n 1, 1) := by decide +kernel
theorem dX7_callOff_64 : decode cX7_callOff 64 = .ok (.iaload, 1) := by decide +kernel
theorem dX7_callOff_65 : decode cX7_callOff 65 = .ok (.aload_n 0, 1) := by decide +kernel
theorem dX7_callOff_66 : decode cX7_callOff 66 = .ok (.getfield 34, 3) := by decide +kernel
theorem dX7_callOff_69 : decode cX7_callOff 69 = .ok (.iload_n 1, 1) := by decide +kernel
theorem dX7_callOff_70 : decode cX7_callOff 70 = .ok (.iaload, 1) := by decide +kernel
theorem dX7_callOff_71 : decode cX7_callOff 71 = .ok (.isub, 1) := by decide +kernel
theorem dX7_callOff_72 : decode cX7_callOff 72 = .ok (.istore_n 2, 1) := by decide +kernel
theorem dX7_callOff_73 : decode cX7_callOff 73 = .ok (.aload_n 0, 1) := by decide +kernel
theorem dX7_callOff_74 : decode cX7_callOff 74 = .ok (.getfield 37, 3) := by decide +kernel
theorem dX7_callOff_77 : decode cX7_callOff 77 = .ok (.iload_n 1, 1) := by decide +kernel
theorem dX7_callOff_78 : decode cX7_callOff 78 = .ok (.aload_n 0, 1) := by decide +kernel
theorem dX7_callOff_79 : decode cX7_callOff 79 = .ok (.getfield 34, 3) := by decide +kernel
theorem dX7_callOff_82 : decode cX7_callOff 82 = .ok (.iload_n 1, 1) := by decide +kernel
theorem dX7_callOff_83 : decode cX7_callOff 83 = .ok (.iaload, 1) := by decide +kernel
theorem dX7_callOff_84 : decode cX7_callOff 84 = .ok (.iastore, 1) := by decide +kernel
theorem dX7_callOff_85 : decode cX7_callOff 85 = .ok (.iload_n 2, 1) := by decide +kernel
theorem dX7_callOff_86 : decode cX7_callOff 86 = .ok (.ireturn, 1) := by decide +kernel
theorem dX7_pass_0 : decode cX7_pass 0 = .ok (.aload_n 0, 1) := by decide +kernel
theorem dX7_pass_1 : decode cX7_pass 1 = .ok (.iconst 0, 1) := by decide +kernel
theorem dX7_pass_2 : decode cX7_pass 2 = .ok (.putfield 68, 3) := by decide +kernel
theorem dX7_pass_5 : decode cX7_pass 5 = .ok (.iload_n 1, 1) := by decide +kernel
theorem dX7_pass_6 : decode cX7_pass 6 = .ok (.iconst 1, 1) := by decide +kernel
theorem dX7_pass_7 : decode cX7_pass 7 = .ok (.sipush 600, 3) := by decide +kernel
theorem dX7_pass_10 : decode cX7_pass 10 = .ok (.invokestatic 75, 3) := by decide +kernel
theorem dX7_pass_13 : decode cX7_pass 13 = .ok (.ifCond .ne 9, 3) := by decide +kernel
theorem dX7_pass_16 : decode cX7_pass 16 = .ok (.aload_n 0, 1) := by decide +kernel
theorem dX7_pass_17 : decode cX7_pass 17 = .ok (.iconst 1, 1) := by decide +kernel
theorem dX7_pass_18 : decode cX7_pass 18 = .ok (.invokevirtual 86, 3) := by decide +kernel
theorem dX7_pass_21 : decode cX7_pass 21 = .ok (.ireturn, 1) := by decide +kernel
theorem dX7_pass_22 : decode cX7_pass 22 = .ok (.aload_n 0, 1) := by decide +kernel
theorem dX7_pass_23 : decode cX7_pass 23 = .ok (.getfield 134, 3) := by decide +kernel
theorem dX7_pass_26 : decode cX7_pass 26 = .ok (.iload_n 1, 1) := by decide +kernel
theorem dX7_pass_27 : decode cX7_pass 27 = .ok (.iadd, 1) := by decide +kernel
theorem dX7_pass_28 : decode cX7_pass 28 = .ok (.sipush 9999, 3) := by decide +kernel
theorem dX7_pass_31 : decode cX7_pass 31 = .ok (.if_icmp .le 9, 3) := by decide +kernel
theorem dX7_pass_34 : decode cX7_pass 34 = .ok (.aload_n 0, 1) := by decide +kernel
theorem dX7_pass_35 : decode cX7_pass 35 = .ok (.iconst 2, 1) := by decide +kernel
theorem dX7_pass_36 : decode cX7_pass 36 = .ok (.invokevirtual 86, 3) := by decide +kernel
theorem dX7_pass_39 : decode cX7_pass 39 = .ok (.ireturn, 1) := by decide +kernel
theorem dX7_pass_40 : decode cX7_pass 40 = .ok (.aload_n 0, 1) := by decide +kernel
theorem dX7_pass_41 : decode cX7_pass 41 = .ok (.dup, 1) := by decide +kernel
theorem dX7_pass_42 : decode cX7_pass 42 = .ok (.getfield 134, 3) := by decide +kernel
theorem dX7_pass_45 : decode cX7_pass 45 = .ok (.iload_n 1, 1) := by decide +kernel
theorem dX7_pass_46 : decode cX7_pass 46 = .ok (.iadd, 1) := by decide +kernel
theorem dX7_pass_47 : decode cX7_pass 47 = .ok (.putfield 134, 3) := by decide +kernel
theorem dX7_pass_50 : decode cX7_pass 50 = .ok (.aload_n 0, 1) := by decide +kernel
theorem dX7_pass_51 : decode cX7_pass 51 = .ok (.getfield 134, 3) := by decide +kernel
theorem dX7_pass_54 : decode cX7_pass 54 = .ok (.ireturn, 1) := by decide +kernel
theorem dX7_components_0 : decode cX7_components 0 = .ok (.aload_n 0, 1) := by decide +kernel
theorem dX7_components_1 : decode cX7_components 1 = .ok (.iconst 0, 1) := by decide +kernel
theorem dX7_components_2 : decode cX7_components 2 = .ok (.putfield 68, 3) := by decide +kernel
theorem dX7_components_5 : decode cX7_components 5 = .ok (.aload_n 0, 1) := by decide +kernel
theorem dX7_components_6 : decode cX7_components 6 = .ok (.getfield 72, 3) := by decide +kernel
theorem dX7_components_9 : decode cX7_components 9 = .ok (.ireturn, 1) := by decide +kernel
theorem dX7_people_0 : decode cX7_people 0 = .ok (.aload_n 0, 1) := by decide +kernel
theorem dX7_people_1 : decode cX7_people 1 = .ok (.iconst 0, 1) := by decide +kernel
theorem dX7_people_2 : decode cX7_people 2 = .ok (.putfield 68, 3) := by decide +kernel
theorem dX7_people_5 : decode cX7_people 5 = .ok (.aload_n 0, 1) := by decide +kernel
theorem dX7_people_6 : decode cX7_people 6 = .ok (.getfield 118, 3) := by decide +kernel
theorem dX7_people_9 : decode cX7_people 9 = .ok (.ireturn, 1) := by decide +kernel
theorem dX7_incidents_0 : decode cX7_incidents 0 = .ok (.aload_n 0, 1) := by decide +kernel
theorem dX7_incidents_1 : decode cX7_incidents 1 = .ok (.iconst 0, 1) := by decide +kernel
theorem dX7_incidents_2 : decode cX7_incidents 2 = .ok (.putfield 68, 3) := by decide +kernel
theorem dX7_incidents_5 : decode cX7_incidents 5 = .ok (.aload_n 0, 1) := by decide +kernel
theorem dX7_incidents_6 : decode cX7_incidents 6 = .ok (.getfield 79, 3) := by decide +kernel
theorem dX7_incidents_9 : decode cX7_incidents 9 = .ok (.ireturn, 1) := by decide +kernel
theorem dX7_minute_0 : decode cX7_minute 0 = .ok (.aload_n 0, 1) := by decide +kernel
theorem dX7_minute_1 : decode cX7_minute 1 = .ok (.iconst 0, 1) := by decide +kernel
theorem dX7_minute_2 : decode cX7_minute 2 = .ok (.putfield 68, 3) := by decide +kernel
theorem dX7_minute_5 : decode cX7_minute 5 = .ok (.aload_n 0, 1) := by decide +kernel
theorem dX7_minute_6 : decode cX7_minute 6 = .ok (.getfield 134, 3) := by decide +kernel
theorem dX7_minute_9 : decode cX7_minute 9 = .ok (.ireturn, 1) := by decide +kernel
theorem dX7_isGroup_0 : decode cX7_isGroup 0 = .ok (.aload_n 0, 1) := by decide +kernel
theorem dX7_isGroup_1 : decode cX7_isGroup 1 = .ok (.iconst 0, 1) := by decide +kernel
theorem dX7_isGroup_2 : decode cX7_isGroup 2 = .ok (.putfield 68, 3) := by decide +kernel
theorem dX7_isGroup_5 : decode cX7_isGroup 5 = .ok (.aload_n 0, 1) := by decide +kernel
theorem dX7_isGroup_6 : decode cX7_isGroup 6 = .ok (.iload_n 1, 1) := by decide +kernel
theorem dX7_isGroup_7 : decode cX7_isGroup 7 = .ok (.invokevirtual 82, 3) := by decide +kernel
theorem dX7_isGroup_10 : decode cX7_isGroup 10 = .ok (.ifCond .eq 11, 3) := by decide +kernel
theorem dX7_isGroup_13 : decode cX7_isGroup 13 = .ok (.aload_n 0, 1) := by decide +kernel
theorem dX7_isGroup_14 : decode cX7_isGroup 14 = .ok (.iload_n 1, 1) := by decide +kernel
theorem dX7_isGroup_15 : decode cX7_isGroup 15 = .ok (.invokevirtual 100, 3) := by decide +kernel
theorem dX7_isGroup_18 : decode cX7_isGroup 18 = .ok (.goto 8, 3) := by decide +kernel
theorem dX7_isGroup_21 : decode cX7_isGroup 21 = .ok (.aload_n 0, 1) := by decide +kernel
theorem dX7_isGroup_22 : decode cX7_isGroup 22 = .ok (.iconst 1, 1) := by decide +kernel
theorem dX7_isGroup_23 : decode cX7_isGroup 23 = .ok (.invokevirtual 165, 3) := by decide +kernel
theorem dX7_isGroup_26 : decode cX7_isGroup 26 = .ok (.ireturn, 1) := by decide +kernel
theorem dX7_depth_0 : decode cX7_depth 0 = .ok (.aload_n 0, 1) := by decide +kernel
theorem dX7_depth_1 : decode cX7_depth 1 = .ok (.iconst 0, 1) := by decide +kernel
theorem dX7_depth_2 : decode cX7_depth 2 = .ok (.putfield 68, 3) := by decide +kernel
theorem dX7_depth_5 : decode cX7_depth 5 = .ok (.aload_n 0, 1) := by decide +kernel
theorem dX7_depth_6 : decode cX7_depth 6 = .ok (.iload_n 1, 1) := by decide +kernel
theorem dX7_depth_7 : decode cX7_depth 7 = .ok (.invokevirtual 82, 3) := by decide +kernel
theorem dX7_depth_10 : decode cX7_depth 10 = .ok (.ifCond .eq 11, 3) := by decide +kernel
theorem dX7_depth_13 : decode cX7_depth 13 = .ok (.aload_n 0, 1) := by decide +kernel
theorem dX7_depth_14 : decode cX7_depth 14 = .ok (.iload_n 1, 1) := by decide +kernel
theorem dX7_depth_15 : decode cX7_depth 15 = .ok (.invokevirtual 143, 3) := by decide +kernel
theorem dX7_depth_18 : decode cX7_depth 18 = .ok (.goto 8, 3) := by decide +kernel
theorem dX7_depth_21 : decode cX7_depth 21 = .ok (.aload_n 0, 1) := by decide +kernel
theorem dX7_depth_22 : decode cX7_depth 22 = .ok (.iconst 1, 1) := by decide +kernel
theorem dX7_depth_23 : decode cX7_depth 23 = .ok (.invokevirtual 86, 3) := by decide +kernel
theorem dX7_depth_26 : decode cX7_depth 26 = .ok (.ireturn, 1) := by decide +kernel
theorem dX7_leavesOf_0 : decode cX7_leavesOf 0 = .ok (.iconst 0, 1) := by decide +kernel
theorem dX7_leavesOf_1 : decode cX7_leavesOf 1 = .ok (.istore_n 2, 1) := by decide +kernel
theorem dX7_leavesOf_2 : decode cX7_leavesOf 2 = .ok (.iload_n 1, 1) := by decide +kernel
theorem dX7_leavesOf_3 : decode cX7_leavesOf 3 = .ok (.iconst 1, 1) := by decide +kernel
theorem dX7_leavesOf_4 : decode cX7_leavesOf 4 = .ok (.iadd, 1) := by decide +kernel
theorem dX7_leavesOf_5 : decode cX7_leavesOf 5 = .ok (.istore_n 3, 1) := by decide +kernel
theorem dX7_leavesOf_6 : decode cX7_leavesOf 6 = .ok (.iload_n 3, 1) := by decide +kernel
theorem dX7_leavesOf_7 : decode cX7_leavesOf 7 = .ok (.aload_n 0, 1) := by decide +kernel
theorem dX7_leavesOf_8 : decode cX7_leavesOf 8 = .ok (.getfield 72, 3) := by decide +kernel
theorem dX7_leavesOf_11 : decode cX7_leavesOf 11 = .ok (.if_icmp .ge 31, 3) := by decide +kernel
theorem dX7_leavesOf_14 : decode cX7_leavesOf 14 = .ok (.iload_n 2, 1) := by decide +kernel
theorem dX7_leavesOf_15 : decode cX7_leavesOf 15 = .ok (.aload_n 0, 1) := by decide +kernel
theorem dX7_leavesOf_16 : decode cX7_leavesOf 16 = .ok (.getfield 9, 3) := by decide +kernel
theorem dX7_leavesOf_19 : decode cX7_leavesOf 19 = .ok (.iload_n 3, 1) := by decide +kernel
theorem dX7_leavesOf_20 : decode cX7_leavesOf 20 = .ok (.iaload, 1) := by decide +kernel
theorem dX7_leavesOf_21 : decode cX7_leavesOf 21 = .ok (.iload_n 1, 1) := by decide +kernel
theorem dX7_leavesOf_22 : decode cX7_leavesOf 22 = .ok (.if_icmp .ne 11, 3) := by decide +kernel
theorem dX7_leavesOf_25 : decode cX7_leavesOf 25 = .ok (.aload_n 0, 1) := by decide +kernel
theorem dX7_leavesOf_26 : decode cX7_leavesOf 26 = .ok (.iload_n 3, 1) := by decide +kernel
theorem dX7_leavesOf_27 : decode cX7_leavesOf 27 = .ok (.invokevirtual 168, 3) := by decide +kernel
theorem dX7_leavesOf_30 : decode cX7_leavesOf 30 = .ok (.goto 4, 3) := by decide +kernel
theorem dX7_leavesOf_33 : decode cX7_leavesOf 33 = .ok (.iconst 0, 1) := by decide +kernel
theorem dX7_leavesOf_34 : decode cX7_leavesOf 34 = .ok (.iadd, 1) := by decide +kernel
theorem dX7_leavesOf_35 : decode cX7_leavesOf 35 = .ok (.istore_n 2, 1) := by decide +kernel
theorem dX7_leavesOf_36 : decode cX7_leavesOf 36 = .ok (.iinc 3 1, 3) := by decide +kernel
theorem dX7_leavesOf_39 : decode cX7_leavesOf 39 = .ok (.goto (-33), 3) := by decide +kernel
theorem dX7_leavesOf_42 : decode cX7_leavesOf 42 = .ok (.iload_n 2, 1) := by decide +kernel
theorem dX7_leavesOf_43 : decode cX7_leavesOf 43 = .ok (.ifCond .ne 7, 3) := by decide +kernel
theorem dX7_leavesOf_46 : decode cX7_leavesOf 46 = .ok (.iconst 1, 1) := by decide +kernel
theorem dX7_leavesOf_47 : decode cX7_leavesOf 47 = .ok (.goto 4, 3) := by decide +kernel
theorem dX7_leavesOf_50 : decode cX7_leavesOf 50 = .ok (.iload_n 2, 1) := by decide +kernel
theorem dX7_leavesOf_51 : decode cX7_leavesOf 51 = .ok (.ireturn, 1) := by decide +kernel
theorem dX7_leaves_0 : decode cX7_leaves 0 = .ok (.aload_n 0, 1) := by decide +kernel
theorem dX7_leaves_1 : decode cX7_leaves 1 = .ok (.iconst 0, 1) := by decide +kernel
theorem dX7_leaves_2 : decode cX7_leaves 2 = .ok (.putfield 68, 3) := by decide +kernel
theorem dX7_leaves_5 : decode cX7_leaves 5 = .ok (.aload_n 0, 1) := by decide +kernel
theorem dX7_leaves_6 : decode cX7_leaves 6 = .ok (.iload_n 1, 1) := by decide +kernel
theorem dX7_leaves_7 : decode cX7_leaves 7 = .ok (.invokevirtual 82, 3) := by decide +kernel
theorem dX7_leaves_10 : decode cX7_leaves 10 = .ok (.ifCond .eq 11, 3) := by decide +kernel
theorem dX7_leaves_13 : decode cX7_leaves 13 = .ok (.aload_n 0, 1) := by decide +kernel
theorem dX7_leaves_14 : decode cX7_leaves 14 = .ok (.iload_n 1, 1) := by decide +kernel
theorem dX7_leaves_15 : decode cX7_leaves 15 = .ok (.invokevirtual 168, 3) := by decide +kernel
theorem dX7_leaves_18 : decode cX7_leaves 18 = .ok (.goto 8, 3) := by decide +kernel
theorem dX7_leaves_21 : decode cX7_leaves 21 = .ok (.aload_n 0, 1) := by decide +kernel
theorem dX7_leaves_22 : decode cX7_leaves 22 = .ok (.iconst 1, 1) := by decide +kernel
theorem dX7_leaves_23 : decode cX7_leaves 23 = .ok (.invokevirtual 86, 3) := by decide +kernel
theorem dX7_leaves_26 : decode cX7_leaves 26 = .ok (.ireturn, 1) := by decide +kernel
theorem dX7_goesDown_0 : decode cX7_goesDown 0 = .ok (.aload_n 0, 1) := by decide +kernel
theorem dX7_goesDown_1 : decode cX7_goesDown 1 = .ok (.getfield 65, 3) := by decide +kernel
theorem dX7_goesDown_4 : decode cX7_goesDown 4 = .ok (.aload_n 0, 1) := by decide +kernel
theorem dX7_goesDown_5 : decode cX7_goesDown 5 = .ok (.getfield 171, 3) := by decide +kernel
theorem dX7_goesDown_8 : decode cX7_goesDown 8 = .ok (.iload_n 1, 1) := by decide +kernel
theorem dX7_goesDown_9 : decode cX7_goesDown 9 = .ok (.iastore, 1) := by decide +kernel
theorem dX7_goesDown_10 : decode cX7_goesDown 10 = .ok (.aload_n 0, 1) := by decide +kernel
theorem dX7_goesDown_11 : decode cX7_goesDown 11 = .ok (.dup, 1) := by decide +kernel
theorem dX7_goesDown_12 : decode cX7_goesDown 12 = .ok (.getfield 171, 3) := by decide +kernel
theorem dX7_goesDown_15 : decode cX7_goesDown 15 = .ok (.iconst 1, 1) := by decide +kernel
theorem dX7_goesDown_16 : decode cX7_goesDown 16 = .ok (.iadd, 1) := by decide +kernel
theorem dX7_goesDown_17 : decode cX7_goesDown 17 = .ok (.putfield 171, 3) := by decide +kernel
theorem dX7_goesDown_20 : decode cX7_goesDown 20 = .ok (.iload_n 1, 1) := by decide +kernel
theorem dX7_goesDown_21 : decode cX7_goesDown 21 = .ok (.iconst 1, 1) := by decide +kernel
theorem dX7_goesDown_22 : decode cX7_goesDown 22 = .ok (.iadd, 1) := by decide +kernel
theorem dX7_goesDown_23 : decode cX7_goesDown 23 = .ok (.istore_n 2, 1) := by decide +kernel
theorem dX7_goesDown_24 : decode cX7_goesDown 24 = .ok (.iload_n 2, 1) := by decide +kernel
theorem dX7_goesDown_25 : decode cX7_goesDown 25 = .ok (.aload_n 0, 1) := by decide +kernel
theorem dX7_goesDown_26 : decode cX7_goesDown 26 = .ok (.getfield 72, 3) := by decide +kernel
theorem dX7_goesDown_29 : decode cX7_goesDown 29 = .ok (.if_icmp .ge 24, 3) := by decide +kernel
theorem dX7_goesDown_32 : decode cX7_goesDown 32 = .ok (.aload_n 0, 1) := by decide +kernel
theorem dX7_goesDown_33 : decode cX7_goesDown 33 = .ok (.getfield 9, 3) := by decide +kernel
theorem dX7_goesDown_36 : decode cX7_goesDown 36 = .ok (.iload_n 2, 1) := by decide +kernel
theorem dX7_goesDown_37 : decode cX7_goesDown 37 = .ok (.iaload, 1) := by decide +kernel
theorem dX7_goesDown_38 : decode cX7_goesDown 38 = .ok (.iload_n 1, 1) := by decide +kernel
theorem dX7_goesDown_39 : decode cX7_goesDown 39 = .ok (.if_icmp .ne 8, 3) := by decide +kernel
theorem dX7_goesDown_42 : decode cX7_goesDown 42 = .ok (.aload_n 0, 1) := by decide +kernel
theorem dX7_goesDown_43 : decode cX7_goesDown 43 = .ok (.iload_n 2, 1) := by decide +kernel
theorem dX7_goesDown_44 : decode cX7_goesDown 44 = .ok (.invokevirtual 174, 3) := by decide +kernel
theorem dX7_goesDown_47 : decode cX7_goesDown 47 = .ok (.iinc 2 1, 3) := by decide +kernel
theorem dX7_goesDown_50 : decode cX7_goesDown 50 = .ok (.goto (-26), 3) := by decide +kernel
theorem dX7_goesDown_53 : decode cX7_goesDown 53 = .ok (.return_, 1) := by decide +kernel
theorem dX7_belowAt_0 : decode cX7_belowAt 0 = .ok (.aload_n 0, 1) := by decide +kernel
theorem dX7_belowAt_1 : decode cX7_belowAt 1 = .ok (.iconst 0, 1) := by decide +kernel
theorem dX7_belowAt_2 : decode cX7_belowAt 2 = .ok (.putfield 68, 3) := by decide +kernel
theorem dX7_belowAt_5 : decode cX7_belowAt 5 = .ok (.aload_n 0, 1) := by decide +kernel
theorem dX7_belowAt_6 : decode cX7_belowAt 6 = .ok (.iload_n 1, 1) := by decide +kernel
theorem dX7_belowAt_7 : decode cX7_belowAt 7 = .ok (.invokevirtual 82, 3) := by decide +kernel
theorem dX7_belowAt_10 : decode cX7_belowAt 10 = .ok (.ifCond .ne 9, 3) := by decide +kernel
theorem dX7_belowAt_13 : decode cX7_belowAt 13 = .ok (.aload_n 0, 1) := by decide +kernel
theorem dX7_belowAt_14 : decode cX7_belowAt 14 = .ok (.iconst 1, 1) := by decide +kernel
theorem dX7_belowAt_15 : decode cX7_belowAt 15 = .ok (.invokevirtual 86, 3) := by decide +kernel
theorem dX7_belowAt_18 : decode cX7_belowAt 18 = .ok (.ireturn, 1) := by decide +kernel
theorem dX7_belowAt_19 : decode cX7_belowAt 19 = .ok (.aload_n 0, 1) := by decide +kernel
theorem dX7_belowAt_20 : decode cX7_belowAt 20 = .ok (.iconst 0, 1) := by decide +kernel
theorem dX7_belowAt_21 : decode cX7_belowAt 21 = .ok (.putfield 171, 3) := by decide +kernel
theorem dX7_belowAt_24 : decode cX7_belowAt 24 = .ok (.aload_n 0, 1) := by decide +kernel
theorem dX7_belowAt_25 : decode cX7_belowAt 25 = .ok (.iload_n 1, 1) := by decide +kernel
theorem dX7_belowAt_26 : decode cX7_belowAt 26 = .ok (.invokevirtual 174, 3) := by decide +kernel
theorem dX7_belowAt_29 : decode cX7_belowAt 29 = .ok (.iload_n 2, 1) := by decide +kernel
theorem dX7_belowAt_30 : decode cX7_belowAt 30 = .ok (.iconst 0, 1) := by decide +kernel
theorem dX7_belowAt_31 : decode cX7_belowAt 31 = .ok (.aload_n 0, 1) := by decide +kernel
theorem dX7_belowAt_32 : decode cX7_belowAt 32 = .ok (.getfield 171, 3) := by decide +kernel
theorem dX7_belowAt_35 : decode cX7_belowAt 35 = .ok (.iconst 1, 1) := by decide +kernel
theorem dX7_belowAt_36 : decode cX7_belowAt 36 = .ok (.isub, 1) := by decide +kernel
theorem dX7_belowAt_37 : decode cX7_belowAt 37 = .ok (.invokestatic 75, 3) := by decide +kernel
theorem dX7_belowAt_40 : decode cX7_belowAt 40 = .ok (.ifCond .eq 12, 3) := by decide +kernel
theorem dX7_belowAt_43 : decode cX7_belowAt 43 = .ok (.aload_n 0, 1) := by decide +kernel
theorem dX7_belowAt_44 : decode cX7_belowAt 44 = .ok (.getfield 65, 3) := by decide +kernel
theorem dX7_belowAt_47 : decode cX7_belowAt 47 = .ok (.iload_n 2, 1) := by decide +kernel
theorem dX7_belowAt_48 : decode cX7_belowAt 48 = .ok (.iaload, 1) := by decide +kernel
theorem dX7_belowAt_49 : decode cX7_belowAt 49 = .ok (.goto 8, 3) := by decide +kernel
theorem dX7_belowAt_52 : decode cX7_belowAt 52 = .ok (.aload_n 0, 1) := by decide +kernel
theorem dX7_belowAt_53 : decode cX7_belowAt 53 = .ok (.iconst 2, 1) := by decide +kernel
theorem dX7_belowAt_54 : decode cX7_belowAt 54 = .ok (.invokevirtual 86, 3) := by decide +kernel
theorem dX7_belowAt_57 : decode cX7_belowAt 57 = .ok (.ireturn, 1) := by decide +kernel
theorem dX7_pathAt_0 : decode cX7_pathAt 0 = .ok (.aload_n 0, 1) := by decide +kernel
theorem dX7_pathAt_1 : decode cX7_pathAt 1 = .ok (.iconst 0, 1) := by decide +kernel
theorem dX7_pathAt_2 : decode cX7_pathAt 2 = .ok (.putfield 68, 3) := by decide +kernel
theorem dX7_pathAt_5 : decode cX7_pathAt 5 = .ok (.aload_n 0, 1) := by decide +kernel
theorem dX7_pathAt_6 : decode cX7_pathAt 6 = .ok (.iload_n 1, 1) := by decide +kernel
theorem dX7_pathAt_7 : decode cX7_pathAt 7 = .ok (.invokevirtual 82, 3) := by decide +kernel
theorem dX7_pathAt_10 : decode cX7_pathAt 10 = .ok (.ifCond .ne 9, 3) := by decide +kernel
theorem dX7_pathAt_13 : decode cX7_pathAt 13 = .ok (.aload_n 0, 1) := by decide +kernel
theorem dX7_pathAt_14 : decode cX7_pathAt 14 = .ok (.iconst 1, 1) := by decide +kernel
theorem dX7_pathAt_15 : decode cX7_pathAt 15 = .ok (.invokevirtual 86, 3) := by decide +kernel
theorem dX7_pathAt_18 : decode cX7_pathAt 18 = .ok (.ireturn, 1) := by decide +kernel
theorem dX7_pathAt_19 : decode cX7_pathAt 19 = .ok (.iload_n 2, 1) := by decide +kernel
theorem dX7_pathAt_20 : decode cX7_pathAt 20 = .ok (.iconst 0, 1) := by decide +kernel
theorem dX7_pathAt_21 : decode cX7_pathAt 21 = .ok (.aload_n 0, 1) := by decide +kernel
theorem dX7_pathAt_22 : decode cX7_pathAt 22 = .ok (.iload_n 1, 1) := by decide +kernel
theorem dX7_pathAt_23 : decode cX7_pathAt 23 = .ok (.invokevirtual 143, 3) := by decide +kernel
theorem dX7_pathAt_26 : decode cX7_pathAt 26 = .ok (.invokestatic 75, 3) := by decide +kernel
theorem dX7_pathAt_29 : decode cX7_pathAt 29 = .ok (.ifCond .ne 9, 3) := by decide +kernel
theorem dX7_pathAt_32 : decode cX7_pathAt 32 = .ok (.aload_n 0, 1) := by decide +kernel
theorem dX7_pathAt_33 : decode cX7_pathAt 33 = .ok (.iconst 2, 1) := by decide +kernel
theorem dX7_pathAt_34 : decode cX7_pathAt 34 = .ok (.invokevirtual 86, 3) := by decide +kernel
theorem dX7_pathAt_37 : decode cX7_pathAt 37 = .ok (.ireturn, 1) := by decide +kernel
theorem dX7_pathAt_38 : decode cX7_pathAt 38 = .ok (.iload_n 1, 1) := by decide +kernel
theorem dX7_pathAt_39 : decode cX7_pathAt 39 = .ok (.istore_n 3, 1) := by decide +kernel
theorem dX7_pathAt_40 : decode cX7_pathAt 40 = .ok (.aload_n 0, 1) := by decide +kernel
theorem dX7_pathAt_41 : decode cX7_pathAt 41 = .ok (.iload_n 3, 1) := by decide +kernel
theorem dX7_pathAt_42 : decode cX7_pathAt 42 = .ok (.invokevirtual 143, 3) := by decide +kernel
theorem dX7_pathAt_45 : decode cX7_pathAt 45 = .ok (.iload_n 2, 1) := by decide +kernel
theorem dX7_pathAt_46 : decode cX7_pathAt 46 = .ok (.if_icmp .le 13, 3) := by decide +kernel
theorem dX7_pathAt_49 : decode cX7_pathAt 49 = .ok (.aload_n 0, 1) := by decide +kernel
theorem dX7_pathAt_50 : decode cX7_pathAt 50 = .ok (.getfield 9, 3) := by decide +kernel
theorem dX7_pathAt_53 : decode cX7_pathAt 53 = .ok (.iload_n 3, 1) := by decide +kernel
theorem dX7_pathAt_54 : decode cX7_pathAt 54 = .ok (.iaload, 1) := by decide +kernel
theorem dX7_pathAt_55 : decode cX7_pathAt 55 = .ok (.istore_n 3, 1) := by decide +kernel
theorem dX7_pathAt_56 : decode cX7_pathAt 56 = .ok (.goto (-16), 3) := by decide +kernel
theorem dX7_pathAt_59 : decode cX7_pathAt 59 = .ok (.iload_n 3, 1) := by decide +kernel
theorem dX7_pathAt_60 : decode cX7_pathAt 60 = .ok (.ireturn, 1) := by decide +kernel
theorem dX7_state_0 : decode cX7_state 0 = .ok (.aload_n 0, 1) := by decide +kernel
theorem dX7_state_1 : decode cX7_state 1 = .ok (.iload_n 1, 1) := by decide +kernel
theorem dX7_state_2 : decode cX7_state 2 = .ok (.aload_n 0, 1) := by decide +kernel
theorem dX7_state_3 : decode cX7_state 3 = .ok (.getfield 134, 3) := by decide +kernel
theorem dX7_state_6 : decode cX7_state 6 = .ok (.invokevirtual 178, 3) := by decide +kernel
theorem dX7_state_9 : decode cX7_state 9 = .ok (.ireturn, 1) := by decide +kernel
theorem dX7_stateAt_0 : decode cX7_stateAt 0 = .ok (.aload_n 0, 1) := by decide +kernel
theorem dX7_stateAt_1 : decode cX7_stateAt 1 = .ok (.iconst 0, 1) := by decide +kernel
theorem dX7_stateAt_2 : decode cX7_stateAt 2 = .ok (.putfield 68, 3) := by decide +kernel
theorem dX7_stateAt_5 : decode cX7_stateAt 5 = .ok (.aload_n 0, 1) := by decide +kernel
theorem dX7_stateAt_6 : decode cX7_stateAt 6 = .ok (.iload_n 1, 1) := by decide +kernel
theorem dX7_stateAt_7 : decode cX7_stateAt 7 = .ok (.invokevirtual 82, 3) := by decide +kernel
theorem dX7_stateAt_10 : decode cX7_stateAt 10 = .ok (.ifCond .ne 10, 3) := by decide +kernel
theorem dX7_stateAt_13 : decode cX7_stateAt 13 = .ok (.aload_n 0, 1) := by decide +kernel
theorem dX7_stateAt_14 : decode cX7_stateAt 14 = .ok (.iconst 1, 1) := by decide +kernel
theorem dX7_stateAt_15 : decode cX7_stateAt 15 = .ok (.invokevirtual 86, 3) := by decide +kernel
theorem dX7_stateAt_18 : decode cX7_stateAt 18 = .ok (.i2c, 1) := by decide +kernel
theorem dX7_stateAt_19 : decode cX7_stateAt 19 = .ok (.ireturn, 1) := by decide +kernel
theorem dX7_stateAt_20 : decode cX7_stateAt 20 = .ok (.iload_n 2, 1) := by decide +kernel
theorem dX7_stateAt_21 : decode cX7_stateAt 21 = .ok (.iconst 0, 1) := by decide +kernel
theorem dX7_stateAt_22 : decode cX7_stateAt 22 = .ok (.aload_n 0, 1) := by decide +kernel
theorem dX7_stateAt_23 : decode cX7_stateAt 23 = .ok (.getfield 134, 3) := by decide +kernel
theorem dX7_stateAt_26 : decode cX7_stateAt 26 = .ok (.invokestatic 75, 3) := by decide +kernel
theorem dX7_stateAt_29 : decode cX7_stateAt 29 = .ok (.ifCond .eq 15, 3) := by decide +kernel
theorem dX7_stateAt_32 : decode cX7_stateAt 32 = .ok (.aload_n 0, 1) := by decide +kernel
theorem dX7_stateAt_33 : decode cX7_stateAt 33 = .ok (.iload_n 1, 1) := by decide +kernel
theorem dX7_stateAt_34 : decode cX7_stateAt 34 = .ok (.iload_n 2, 1) := by decide +kernel
theorem dX7_stateAt_35 : decode cX7_stateAt 35 = .ok (.invokevirtual 93, 3) := by decide +kernel
theorem dX7_stateAt_38 : decode cX7_stateAt 38 = .ok (.invokestatic 182, 3) := by decide +kernel
theorem dX7_stateAt_41 : decode cX7_stateAt 41 = .ok (.goto 9, 3) := by decide +kernel
theorem dX7_stateAt_44 : decode cX7_stateAt 44 = .ok (.aload_n 0, 1) := by decide +kernel
theorem dX7_stateAt_45 : decode cX7_stateAt 45 = .ok (.iconst 2, 1) := by decide +kernel
theorem dX7_stateAt_46 : decode cX7_stateAt 46 = .ok (.invokevirtual 86, 3) := by decide +kernel
theorem dX7_stateAt_49 : decode cX7_stateAt 49 = .ok (.i2c, 1) := by decide +kernel
theorem dX7_stateAt_50 : decode cX7_stateAt 50 = .ok (.ireturn, 1) := by decide +kernel
theorem dX7_isExcused_0 : decode cX7_isExcused 0 = .ok (.aload_n 0, 1) := by decide +kernel
theorem dX7_isExcused_1 : decode cX7_isExcused 1 = .ok (.iconst 0, 1) := by decide +kernel
theorem dX7_isExcused_2 : decode cX7_isExcused 2 = .ok (.putfield 68, 3) := by decide +kernel
theorem dX7_isExcused_5 : decode cX7_isExcused 5 = .ok (.aload_n 0, 1) := by decide +kernel
theorem dX7_isExcused_6 : decode cX7_isExcused 6 = .ok (.iload_n 1, 1) := by decide +kernel
theorem dX7_isExcused_7 : decode cX7_isExcused 7 = .ok (.invokevirtual 82, 3) := by decide +kernel
theorem dX7_isExcused_10 : decode cX7_isExcused 10 = .ok (.ifCond .ne 9, 3) := by decide +kernel
theorem dX7_isExcused_13 : decode cX7_isExcused 13 = .ok (.aload_n 0, 1) := by decide +kernel
theorem dX7_isExcused_14 : decode cX7_isExcused 14 = .ok (.iconst 1, 1) := by decide +kernel
theorem dX7_isExcused_15 : decode cX7_isExcused 15 = .ok (.invokevirtual 165, 3) := by decide +kernel
theorem dX7_isExcused_18 : decode cX7_isExcused 18 = .ok (.ireturn, 1) := by decide +kernel
theorem dX7_isExcused_19 : decode cX7_isExcused 19 = .ok (.iload_n 2, 1) := by decide +kernel
theorem dX7_isExcused_20 : decode cX7_isExcused 20 = .ok (.iconst 0, 1) := by decide +kernel
theorem dX7_isExcused_21 : decode cX7_isExcused 21 = .ok (.sipush 9999, 3) := by decide +kernel
theorem dX7_isExcused_24 : decode cX7_isExcused 24 = .ok (.invokestatic 75, 3) := by decide +kernel
theorem dX7_isExcused_27 : decode cX7_isExcused 27 = .ok (.ifCond .eq 12, 3) := by decide +kernel
theorem dX7_isExcused_30 : decode cX7_isExcused 30 = .ok (.aload_n 0, 1) := by decide +kernel
theorem dX7_isExcused_31 : decode cX7_isExcused 31 = .ok (.iload_n 1, 1) := by decide +kernel
theorem dX7_isExcused_32 : decode cX7_isExcused 32 = .ok (.iload_n 2, 1) := by decide +kernel
theorem dX7_isExcused_33 : decode cX7_isExcused 33 = .ok (.invokevirtual 137, 3) := by decide +kernel
theorem dX7_isExcused_36 : decode cX7_isExcused 36 = .ok (.goto 8, 3) := by decide +kernel
theorem dX7_isExcused_39 : decode cX7_isExcused 39 = .ok (.aload_n 0, 1) := by decide +kernel
theorem dX7_isExcused_40 : decode cX7_isExcused 40 = .ok (.iconst 2, 1) := by decide +kernel
theorem dX7_isExcused_41 : decode cX7_isExcused 41 = .ok (.invokevirtual 165, 3) := by decide +kernel
theorem dX7_isExcused_44 : decode cX7_isExcused 44 = .ok (.ireturn, 1) := by decide +kernel
theorem dX7_weightedLoss_0 : decode cX7_weightedLoss 0 = .ok (.aload_n 0, 1) := by decide +kernel
theorem dX7_weightedLoss_1 : decode cX7_weightedLoss 1 = .ok (.iconst 0, 1) := by decide +kernel
theorem dX7_weightedLoss_2 : decode cX7_weightedLoss 2 = .ok (.putfield 68, 3) := by decide +kernel
theorem dX7_weightedLoss_5 : decode cX7_weightedLoss 5 = .ok (.aload_n 0, 1) := by decide +kernel
theorem dX7_weightedLoss_6 : decode cX7_weightedLoss 6 = .ok (.iload_n 1, 1) := by decide +kernel
theorem dX7_weightedLoss_7 : decode cX7_weightedLoss 7 = .ok (.invokevirtual 82, 3) := by decide +kernel
theorem dX7_weightedLoss_10 : decode cX7_weightedLoss 10 = .ok (.ifCond .ne 9, 3) := by decide +kernel
theorem dX7_weightedLoss_13 : decode cX7_weightedLoss 13 = .ok (.aload_n 0, 1) := by decide +kernel
theorem dX7_weightedLoss_14 : decode cX7_weightedLoss 14 = .ok (.iconst 1, 1) := by decide +kernel
theorem dX7_weightedLoss_15 : decode cX7_weightedLoss 15 = .ok (.invokevirtual 86, 3) := by decide +kernel
theorem dX7_weightedLoss_18 : decode cX7_weightedLoss 18 = .ok (.ireturn, 1) := by decide +kernel
theorem dX7_weightedLoss_19 : decode cX7_weightedLoss 19 = .ok (.aload_n 0, 1) := by decide +kernel
theorem dX7_weightedLoss_20 : decode cX7_weightedLoss 20 = .ok (.iload_n 1, 1) := by decide +kernel
theorem dX7_weightedLoss_21 : decode cX7_weightedLoss 21 = .ok (.invokevirtual 100, 3) := by decide +kernel
theorem dX7_weightedLoss_24 : decode cX7_weightedLoss 24 = .ok (.ifCond .eq 15, 3) := by decide +kernel
theorem dX7_weightedLoss_27 : decode cX7_weightedLoss 27 = .ok (.aload_n 0, 1) := by decide +kernel
theorem dX7_weightedLoss_28 : decode cX7_weightedLoss 28 = .ok (.iload_n 1, 1) := by decide +kernel
theorem dX7_weightedLoss_29 : decode cX7_weightedLoss 29 = .ok (.aload_n 0, 1) := by decide +kernel
theorem dX7_weightedLoss_30 : decode cX7_weightedLoss 30 = .ok (.getfield 134, 3) := by decide +kernel
theorem dX7_weightedLoss_33 : decode cX7_weightedLoss 33 = .ok (.invokevirtual 112, 3) := by decide +kernel
theorem dX7_weightedLoss_36 : decode cX7_weightedLoss 36 = .ok (.goto 8, 3) := by decide +kernel
theorem dX7_weightedLoss_39 : decode cX7_weightedLoss 39 = .ok (.aload_n 0, 1) := by decide +kernel
theorem dX7_weightedLoss_40 : decode cX7_weightedLoss 40 = .ok (.iconst 2, 1) := by decide +kernel
theorem dX7_weightedLoss_41 : decode cX7_weightedLoss 41 = .ok (.invokevirtual 86, 3) := by decide +kernel
theorem dX7_weightedLoss_44 : decode cX7_weightedLoss 44 = .ok (.ireturn, 1) := by decide +kernel
theorem dX7_countedIn_0 : decode cX7_countedIn 0 = .ok (.iconst 0, 1) := by decide +kernel
theorem dX7_countedIn_1 : decode cX7_countedIn 1 = .ok (.istore_n 3, 1) := by decide +kernel
theorem dX7_countedIn_2 : decode cX7_countedIn 2 = .ok (.sipush 600, 3) := by decide +kernel
theorem dX7_countedIn_5 : decode cX7_countedIn 5 = .ok (.iload_n 2, 1) := by decide +kernel
theorem dX7_countedIn_6 : decode cX7_countedIn 6 = .ok (.imul, 1) := by decide +kernel
theorem dX7_countedIn_7 : decode cX7_countedIn 7 = .ok (.istore 4, 2) := by decide +kernel
theorem dX7_countedIn_9 : decode cX7_countedIn 9 = .ok (.iload 4, 2) := by decide +kernel
theorem dX7_countedIn_11 : decode cX7_countedIn 11 = .ok (.aload_n 0, 1) := by decide +kernel
theorem dX7_countedIn_12 : decode cX7_countedIn 12 = .ok (.getfield 134, 3) := by decide +kernel
theorem dX7_countedIn_15 : decode cX7_countedIn 15 = .ok (.sipush 600, 3) := by decide +kernel
theorem dX7_countedIn_18 : decode cX7_countedIn 18 = .ok (.iload_n 2, 1) := by decide +kernel
theorem dX7_countedIn_19 : decode cX7_countedIn 19 = .ok (.iconst 1, 1) := by decide +kernel
theorem dX7_countedIn_20 : decode cX7_countedIn 20 = .ok (.iadd, 1) := by decide +kernel
theorem dX7_countedIn_21 : decode cX7_countedIn 21 = .ok (.imul, 1) := by decide +kernel
theorem dX7_countedIn_22 : decode cX7_countedIn 22 = .ok (.invokestatic 162, 3) := by decide +kernel
theorem dX7_countedIn_25 : decode cX7_countedIn 25 = .ok (.if_icmp .ge 27, 3) := by decide +kernel
theorem dX7_countedIn_28 : decode cX7_countedIn 28 = .ok (.iload_n 3, 1) := by decide +kernel
theorem dX7_countedIn_29 : decode cX7_countedIn 29 = .ok (.aload_n 0, 1) := by decide +kernel
theorem dX7_countedIn_30 : decode cX7_countedIn 30 = .ok (.iload_n 1, 1) := by decide +kernel
theorem dX7_countedIn_31 : decode cX7_countedIn 31 = .ok (.iload 4, 2) := by decide +kernel
theorem dX7_countedIn_33 : decode cX7_countedIn 33 = .ok (.invokevirtual 137, 3) := by decide +kernel
theorem dX7_countedIn_36 : decode cX7_countedIn 36 = .ok (.ifCond .eq 7, 3) := by decide +kernel
theorem dX7_countedIn_39 : decode cX7_countedIn 39 = .ok (.iconst 0, 1) := by decide +kernel
theorem dX7_countedIn_40 : decode cX7_countedIn 40 = .ok (.goto 4, 3) := by decide +kernel
theorem dX7_countedIn_43 : decode cX7_countedIn 43 = .ok (.iconst 1, 1) := by decide +kernel
theorem dX7_countedIn_44 : decode cX7_countedIn 44 = .ok (.iadd, 1) := by decide +kernel
theorem dX7_countedIn_45 : decode cX7_countedIn 45 = .ok (.istore_n 3, 1) := by decide +kernel
theorem dX7_countedIn_46 : decode cX7_countedIn 46 = .ok (.iinc 4 1, 3) := by decide +kernel
theorem dX7_countedIn_49 : decode cX7_countedIn 49 = .ok (.goto (-40), 3) := by decide +kernel
theorem dX7_countedIn_52 : decode cX7_countedIn 52 = .ok (.iload_n 3, 1) := by decide +kernel
theorem dX7_countedIn_53 : decode cX7_countedIn 53 = .ok (.ireturn, 1) := by decide +kernel
theorem dX7_uptimeIn_0 : decode cX7_uptimeIn 0 = .ok (.iconst 0, 1) := by decide +kernel
theorem dX7_uptimeIn_1 : decode cX7_uptimeIn 1 = .ok (.istore_n 3, 1) := by decide +kernel
theorem dX7_uptimeIn_2 : decode cX7_uptimeIn 2 = .ok (.sipush 600, 3) := by decide +kernel
theorem dX7_uptimeIn_5 : decode cX7_uptimeIn 5 = .ok (.iload_n 2, 1) := by decide +kernel
theorem dX7_uptimeIn_6 : decode cX7_uptimeIn 6 = .ok (.imul, 1) := by decide +kernel
theorem dX7_uptimeIn_7 : decode cX7_uptimeIn 7 = .ok (.istore 4, 2) := by decide +kernel
theorem dX7_uptimeIn_9 : decode cX7_uptimeIn 9 = .ok (.iload 4, 2) := by decide +kernel
theorem dX7_uptimeIn_11 : decode cX7_uptimeIn 11 = .ok (.aload_n 0, 1) := by decide +kernel
theorem dX7_uptimeIn_12 : decode cX7_uptimeIn 12 = .ok (.getfield 134, 3) := by decide +kernel
theorem dX7_uptimeIn_15 : decode cX7_uptimeIn 15 = .ok (.sipush 600, 3) := by decide +kernel
theorem dX7_uptimeIn_18 : decode cX7_uptimeIn 18 = .ok (.iload_n 2, 1) := by decide +kernel
theorem dX7_uptimeIn_19 : decode cX7_uptimeIn 19 = .ok (.iconst 1, 1) := by decide +kernel
theorem dX7_uptimeIn_20 : decode cX7_uptimeIn 20 = .ok (.iadd, 1) := by decide +kernel
theorem dX7_uptimeIn_21 : decode cX7_uptimeIn 21 = .ok (.imul, 1) := by decide +kernel
theorem dX7_uptimeIn_22 : decode cX7_uptimeIn 22 = .ok (.invokestatic 162, 3) := by decide +kernel
theorem dX7_uptimeIn_25 : decode cX7_uptimeIn 25 = .ok (.if_icmp .ge 39, 3) := by decide +kernel
theorem dX7_uptimeIn_28 : decode cX7_uptimeIn 28 = .ok (.iload_n 3, 1) := by decide +kernel
theorem dX7_uptimeIn_29 : decode cX7_uptimeIn 29 = .ok (.aload_n 0, 1) := by decide +kernel
theorem dX7_uptimeIn_30 : decode cX7_uptimeIn 30 = .ok (.iload_n 1, 1) := by decide +kernel
theorem dX7_uptimeIn_31 : decode cX7_uptimeIn 31 = .ok (.iload 4, 2) := by decide +kernel
theorem dX7_uptimeIn_33 : decode cX7_uptimeIn 33 = .ok (.invokevirtual 137, 3) := by decide +kernel
theorem dX7_uptimeIn_36 : decode cX7_uptimeIn 36 = .ok (.ifCond .eq 7, 3) := by decide +kernel
theorem dX7_uptimeIn_39 : decode cX7_uptimeIn 39 = .ok (.iconst 0, 1) := by decide +kernel
theorem dX7_uptimeIn_40 : decode cX7_uptimeIn 40 = .ok (.goto 16, 3) := by decide +kernel
theorem dX7_uptimeIn_43 : decode cX7_uptimeIn 43 = .ok (.bipush 100, 2) := by decide +kernel
theorem dX7_uptimeIn_45 : decode cX7_uptimeIn 45 = .ok (.aload_n 0, 1) := by decide +kernel
theorem dX7_uptimeIn_46 : decode cX7_uptimeIn 46 = .ok (.iload_n 1, 1) := by decide +kernel
theorem dX7_uptimeIn_47 : decode cX7_uptimeIn 47 = .ok (.iload 4, 2) := by decide +kernel
theorem dX7_uptimeIn_49 : decode cX7_uptimeIn 49 = .ok (.invokevirtual 93, 3) := by decide +kernel
theorem dX7_uptimeIn_52 : decode cX7_uptimeIn 52 = .ok (.invokestatic 97, 3) := by decide +kernel
theorem dX7_uptimeIn_55 : decode cX7_uptimeIn 55 = .ok (.isub, 1) := by decide +kernel
theorem dX7_uptimeIn_56 : decode cX7_uptimeIn 56 = .ok (.iadd, 1) := by decide +kernel
theorem dX7_uptimeIn_57 : decode cX7_uptimeIn 57 = .ok (.istore_n 3, 1) := by decide +kernel
theorem dX7_uptimeIn_58 : decode cX7_uptimeIn 58 = .ok (.iinc 4 1, 3) := by decide +kernel
theorem dX7_uptimeIn_61 : decode cX7_uptimeIn 61 = .ok (.goto (-52), 3) := by decide +kernel
theorem dX7_uptimeIn_64 : decode cX7_uptimeIn 64 = .ok (.bipush 100, 2) := by decide +kernel
theorem dX7_uptimeIn_66 : decode cX7_uptimeIn 66 = .ok (.iload_n 3, 1) := by decide +kernel
theorem dX7_uptimeIn_67 : decode cX7_uptimeIn 67 = .ok (.imul, 1) := by decide +kernel
theorem dX7_uptimeIn_68 : decode cX7_uptimeIn 68 = .ok (.aload_n 0, 1) := by decide +kernel
theorem dX7_uptimeIn_69 : decode cX7_uptimeIn 69 = .ok (.iload_n 1, 1) := by decide +kernel
theorem dX7_uptimeIn_70 : decode cX7_uptimeIn 70 = .ok (.iload_n 2, 1) := by decide +kernel
theorem dX7_uptimeIn_71 : decode cX7_uptimeIn 71 = .ok (.invokevirtual 186, 3) := by decide +kernel
theorem dX7_uptimeIn_74 : decode cX7_uptimeIn 74 = .ok (.idiv, 1) := by decide +kernel
theorem dX7_uptimeIn_75 : decode cX7_uptimeIn 75 = .ok (.ireturn, 1) := by decide +kernel
theorem dX7_isUnfit_0 : decode cX7_isUnfit 0 = .ok (.aload_n 0, 1) := by decide +kernel
theorem dX7_isUnfit_1 : decode cX7_isUnfit 1 = .ok (.aload_n 0, 1) := by decide +kernel
theorem dX7_isUnfit_2 : decode cX7_isUnfit 2 = .ok (.iload_n 1, 1) := by decide +kernel
theorem dX7_isUnfit_3 : decode cX7_isUnfit 3 = .ok (.invokevirtual 82, 3) := by decide +kernel
theorem dX7_isUnfit_6 : decode cX7_isUnfit 6 = .ok (.ifCond .eq 21, 3) := by decide +kernel
theorem dX7_isUnfit_9 : decode cX7_isUnfit 9 = .ok (.iload_n 2, 1) := by decide +kernel
theorem dX7_isUnfit_10 : decode cX7_isUnfit 10 = .ok (.iconst 0, 1) := by decide +kernel
theorem dX7_isUnfit_11 : decode cX7_isUnfit 11 = .ok (.bipush 16, 2) := by decide +kernel
theorem dX7_isUnfit_13 : decode cX7_isUnfit 13 = .ok (.invokestatic 75, 3) := by decide +kernel
theorem dX7_isUnfit_16 : decode cX7_isUnfit 16 = .ok (.ifCond .eq 7, 3) := by decide +kernel
theorem dX7_isUnfit_19 : decode cX7_isUnfit 19 = .ok (.iconst 0, 1) := by decide +kernel
theorem dX7_isUnfit_20 : decode cX7_isUnfit 20 = .ok (.goto 8, 3) := by decide +kernel
theorem dX7_isUnfit_23 : decode cX7_isUnfit 23 = .ok (.iconst 2, 1) := by decide +kernel
theorem dX7_isUnfit_24 : decode cX7_isUnfit 24 = .ok (.goto 4, 3) := by decide +kernel
theorem dX7_isUnfit_27 : decode cX7_isUnfit 27 = .ok (.iconst 1, 1) := by decide +kernel
theorem dX7_isUnfit_28 : decode cX7_isUnfit 28 = .ok (.putfield 68, 3) := by decide +kernel
theorem dX7_isUnfit_31 : decode cX7_isUnfit 31 = .ok (.aload_n 0, 1) := by decide +kernel
theorem dX7_isUnfit_32 : decode cX7_isUnfit 32 = .ok (.getfield 68, 3) := by decide +kernel
theorem dX7_isUnfit_35 : decode cX7_isUnfit 35 = .ok (.ifCond .le 7, 3) := by decide +kernel
theorem dX7_isUnfit_38 : decode cX7_isUnfit 38 = .ok (.iconst 1, 1) := by decide +kernel
theorem dX7_isUnfit_39 : decode cX7_isUnfit 39 = .ok (.goto 4, 3) := by decide +kernel
theorem dX7_isUnfit_42 : decode cX7_isUnfit 42 = .ok (.iconst 0, 1) := by decide +kernel
theorem dX7_isUnfit_43 : decode cX7_isUnfit 43 = .ok (.ireturn, 1) := by decide +kernel
theorem dX7_counted_0 : decode cX7_counted 0 = .ok (.aload_n 0, 1) := by decide +kernel
theorem dX7_counted_1 : decode cX7_counted 1 = .ok (.iload_n 1, 1) := by decide +kernel
theorem dX7_counted_2 : decode cX7_counted 2 = .ok (.iload_n 2, 1) := by decide +kernel
theorem dX7_counted_3 : decode cX7_counted 3 = .ok (.invokevirtual 189, 3) := by decide +kernel
theorem dX7_counted_6 : decode cX7_counted 6 = .ok (.ifCond .eq 7, 3) := by decide +kernel
theorem dX7_counted_9 : decode cX7_counted 9 = .ok (.iconst 0, 1) := by decide +kernel
theorem dX7_counted_10 : decode cX7_counted 10 = .ok (.goto 9, 3) := by decide +kernel
theorem dX7_counted_13 : decode cX7_counted 13 = .ok (.aload_n 0, 1) := by decide +kernel
theorem dX7_counted_14 : decode cX7_counted 14 = .ok (.iload_n 1, 1) := by decide +kernel
theorem dX7_counted_15 : decode cX7_counted 15 = .ok (.iload_n 2, 1) := by decide +kernel
theorem dX7_counted_16 : decode cX7_counted 16 = .ok (.invokevirtual 186, 3) := by decide +kernel
theorem dX7_counted_19 : decode cX7_counted 19 = .ok (.ireturn, 1) := by decide +kernel
theorem dX7_uptime_0 : decode cX7_uptime 0 = .ok (.aload_n 0, 1) := by decide +kernel
theorem dX7_uptime_1 : decode cX7_uptime 1 = .ok (.iload_n 1, 1) := by decide +kernel
theorem dX7_uptime_2 : decode cX7_uptime 2 = .ok (.iload_n 2, 1) := by decide +kernel
theorem dX7_uptime_3 : decode cX7_uptime 3 = .ok (.invokevirtual 189, 3) := by decide +kernel
theorem dX7_uptime_6 : decode cX7_uptime 6 = .ok (.ifCond .eq 5, 3) := by decide +kernel
theorem dX7_uptime_9 : decode cX7_uptime 9 = .ok (.iconst 0, 1) := by decide +kernel
theorem dX7_uptime_10 : decode cX7_uptime 10 = .ok (.ireturn, 1) := by decide +kernel
theorem dX7_uptime_11 : decode cX7_uptime 11 = .ok (.aload_n 0, 1) := by decide +kernel
theorem dX7_uptime_12 : decode cX7_uptime 12 = .ok (.iload_n 1, 1) := by decide +kernel
theorem dX7_uptime_13 : decode cX7_uptime 13 = .ok (.iload_n 2, 1) := by decide +kernel
theorem dX7_uptime_14 : decode cX7_uptime 14 = .ok (.invokevirtual 186, 3) := by decide +kernel
theorem dX7_uptime_17 : decode cX7_uptime 17 = .ok (.ifCond .ne 11, 3) := by decide +kernel
theorem dX7_uptime_20 : decode cX7_uptime 20 = .ok (.aload_n 0, 1) := by decide +kernel
theorem dX7_uptime_21 : decode cX7_uptime 21 = .ok (.iconst 3, 1) := by decide +kernel
theorem dX7_uptime_22 : decode cX7_uptime 22 = .ok (.invokevirtual 86, 3) := by decide +kernel
theorem dX7_uptime_25 : decode cX7_uptime 25 = .ok (.goto 9, 3) := by decide +kernel
theorem dX7_uptime_28 : decode cX7_uptime 28 = .ok (.aload_n 0, 1) := by decide +kernel
theorem dX7_uptime_29 : decode cX7_uptime 29 = .ok (.iload_n 1, 1) := by decide +kernel
theorem dX7_uptime_30 : decode cX7_uptime 30 = .ok (.iload_n 2, 1) := by decide +kernel
theorem dX7_uptime_31 : decode cX7_uptime 31 = .ok (.invokevirtual 192, 3) := by decide +kernel
theorem dX7_uptime_34 : decode cX7_uptime 34 = .ok (.ireturn, 1) := by decide +kernel
theorem dX7_uptimeByMinutes_0 : decode cX7_uptimeByMinutes 0 = .ok (.aload_n 0, 1) := by decide +kernel
theorem dX7_uptimeByMinutes_1 : decode cX7_uptimeByMinutes 1 = .ok (.iload_n 1, 1) := by decide +kernel
theorem dX7_uptimeByMinutes_2 : decode cX7_uptimeByMinutes 2 = .ok (.iload_n 2, 1) := by decide +kernel
theorem dX7_uptimeByMinutes_3 : decode cX7_uptimeByMinutes 3 = .ok (.invokevirtual 195, 3) := by decide +kernel
theorem dX7_uptimeByMinutes_6 : decode cX7_uptimeByMinutes 6 = .ok (.ireturn, 1) := by decide +kernel
theorem dX7_worst_0 : decode cX7_worst 0 = .ok (.aload_n 0, 1) := by decide +kernel
theorem dX7_worst_1 : decode cX7_worst 1 = .ok (.iconst 0, 1) := by decide +kernel
theorem dX7_worst_2 : decode cX7_worst 2 = .ok (.putfield 68, 3) := by decide +kernel
theorem dX7_worst_5 : decode cX7_worst 5 = .ok (.iconst (-1), 1) := by decide +kernel
theorem dX7_worst_6 : decode cX7_worst 6 = .ok (.istore_n 1, 1) := by decide +kernel
theorem dX7_worst_7 : decode cX7_worst 7 = .ok (.iconst 0, 1) := by decide +kernel
theorem dX7_worst_8 : decode cX7_worst 8 = .ok (.istore_n 2, 1) := by decide +kernel
theorem dX7_worst_9 : decode cX7_worst 9 = .ok (.iconst 0, 1) := by decide +kernel
theorem dX7_worst_10 : decode cX7_worst 10 = .ok (.istore_n 3, 1) := by decide +kernel
theorem dX7_worst_11 : decode cX7_worst 11 = .ok (.iload_n 3, 1) := by decide +kernel
theorem dX7_worst_12 : decode cX7_worst 12 = .ok (.aload_n 0, 1) := by decide +kernel
theorem dX7_worst_13 : decode cX7_worst 13 = .ok (.getfield 72, 3) := by decide +kernel
theorem dX7_worst_16 : decode cX7_worst 16 = .ok (.if_icmp .ge 56, 3) := by decide +kernel
theorem dX7_worst_19 : decode cX7_worst 19 = .ok (.aload_n 0, 1) := by decide +kernel
theorem dX7_worst_20 : decode cX7_worst 20 = .ok (.iload_n 3, 1) := by decide +kernel
theorem dX7_worst_21 : decode cX7_worst 21 = .ok (.invokevirtual 100, 3) := by decide +kernel
theorem dX7_worst_24 : decode cX7_worst 24 = .ok (.ifCond .eq 7, 3) := by decide +kernel
theorem dX7_worst_27 : decode cX7_worst 27 = .ok (.iconst 0, 1) := by decide +kernel
theorem dX7_worst_28 : decode cX7_worst 28 = .ok (.goto 22, 3) := by decide +kernel
theorem dX7_worst_31 : decode cX7_worst 31 = .ok (.aload_n 0, 1) := by decide +kernel
theorem dX7_worst_32 : decode cX7_worst 32 = .ok (.getfield 13, 3) := by decide +kernel
theorem dX7_worst_35 : decode cX7_worst 35 = .ok (.iload_n 3, 1) := by decide +kernel
theorem dX7_worst_36 : decode cX7_worst 36 = .ok (.iaload, 1) := by decide +kernel
theorem dX7_worst_37 : decode cX7_worst 37 = .ok (.aload_n 0, 1) := by decide +kernel
theorem dX7_worst_38 : decode cX7_worst 38 = .ok (.iload_n 3, 1) := by decide +kernel
theorem dX7_worst_39 : decode cX7_worst 39 = .ok (.aload_n 0, 1) := by decide +kernel
theorem dX7_worst_40 : decode cX7_worst 40 = .ok (.getfield 134, 3) := by decide +kernel
theorem dX7_worst_43 : decode cX7_worst 43 = .ok (.invokevirtual 93, 3) := by decide +kernel
theorem dX7_worst_46 : decode cX7_worst 46 = .ok (.invokestatic 97, 3) := by decide +kernel
theorem dX7_worst_49 : decode cX7_worst 49 = .ok (.imul, 1) := by decide +kernel
theorem dX7_worst_50 : decode cX7_worst 50 = .ok (.istore 4, 2) := by decide +kernel
theorem dX7_worst_52 : decode cX7_worst 52 = .ok (.iload 4, 2) := by decide +kernel
theorem dX7_worst_54 : decode cX7_worst 54 = .ok (.iload_n 2, 1) := by decide +kernel
theorem dX7_worst_55 : decode cX7_worst 55 = .ok (.if_icmp .gt 6, 3) := by decide +kernel
theorem dX7_worst_58 : decode cX7_worst 58 = .ok (.goto 8, 3) := by decide +kernel
theorem dX7_worst_61 : decode cX7_worst 61 = .ok (.iload 4, 2) := by decide +kernel
theorem dX7_worst_63 : decode cX7_worst 63 = .ok (.istore_n 2, 1) := by decide +kernel
theorem dX7_worst_64 : decode cX7_worst 64 = .ok (.iload_n 3, 1) := by decide +kernel
theorem dX7_worst_65 : decode cX7_worst 65 = .ok (.istore_n 1, 1) := by decide +kernel
theorem dX7_worst_66 : decode cX7_worst 66 = .ok (.iinc 3 1, 3) := by decide +kernel
theorem dX7_worst_69 : decode cX7_worst 69 = .ok (.goto (-58), 3) := by decide +kernel
theorem dX7_worst_72 : decode cX7_worst 72 = .ok (.iload_n 1, 1) := by decide +kernel
theorem dX7_worst_73 : decode cX7_worst 73 = .ok (.ifCond .ge 11, 3) := by decide +kernel
theorem dX7_worst_76 : decode cX7_worst 76 = .ok (.aload_n 0, 1) := by decide +kernel
theorem dX7_worst_77 : decode cX7_worst 77 = .ok (.iconst 1, 1) := by decide +kernel
theorem dX7_worst_78 : decode cX7_worst 78 = .ok (.invokevirtual 86, 3) := by decide +kernel
theorem dX7_worst_81 : decode cX7_worst 81 = .ok (.goto 4, 3) := by decide +kernel
theorem dX7_worst_84 : decode cX7_worst 84 = .ok (.iload_n 1, 1) := by decide +kernel
theorem dX7_worst_85 : decode cX7_worst 85 = .ok (.ireturn, 1) := by decide +kernel
theorem dX7_open_0 : decode cX7_open 0 = .ok (.aload_n 0, 1) := by decide +kernel
theorem dX7_open_1 : decode cX7_open 1 = .ok (.iconst 0, 1) := by decide +kernel
theorem dX7_open_2 : decode cX7_open 2 = .ok (.putfield 68, 3) := by decide +kernel
theorem dX7_open_5 : decode cX7_open 5 = .ok (.aload_n 0, 1) := by decide +kernel
theorem dX7_open_6 : decode cX7_open 6 = .ok (.invokevirtual 158, 3) := by decide +kernel
theorem dX7_open_9 : decode cX7_open 9 = .ok (.ireturn, 1) := by decide +kernel
theorem dX7_nextIncident_0 : decode cX7_nextIncident 0 = .ok (.aload_n 0, 1) := by decide +kernel
theorem dX7_nextIncident_1 : decode cX7_nextIncident 1 = .ok (.iconst 0, 1) := by decide +kernel
theorem dX7_nextIncident_2 : decode cX7_nextIncident 2 = .ok (.putfield 68, 3) := by decide +kernel
theorem dX7_nextIncident_5 : decode cX7_nextIncident 5 = .ok (.iconst (-1), 1) := by decide +kernel
theorem dX7_nextIncident_6 : decode cX7_nextIncident 6 = .ok (.istore_n 1, 1) := by decide +kernel
theorem dX7_nextIncident_7 : decode cX7_nextIncident 7 = .ok (.iconst 0, 1) := by decide +kernel
theorem dX7_nextIncident_8 : decode cX7_nextIncident 8 = .ok (.istore_n 2, 1) := by decide +kernel
theorem dX7_nextIncident_9 : decode cX7_nextIncident 9 = .ok (.iload_n 2, 1) := by decide +kernel
theorem dX7_nextIncident_10 : decode cX7_nextIncident 10 = .ok (.aload_n 0, 1) := by decide +kernel
theorem dX7_nextIncident_11 : decode cX7_nextIncident 11 = .ok (.getfield 79, 3) := by decide +kernel
theorem dX7_nextIncident_14 : decode cX7_nextIncident 14 = .ok (.if_icmp .ge 73, 3) := by decide +kernel
theorem dX7_nextIncident_17 : decode cX7_nextIncident 17 = .ok (.aload_n 0, 1) := by decide +kernel
theorem dX7_nextIncident_18 : decode cX7_nextIncident 18 = .ok (.getfield 25, 3) := by decide +kernel
theorem dX7_nextIncident_21 : decode cX7_nextIncident 21 = .ok (.iload_n 2, 1) := by decide +kernel
theorem dX7_nextIncident_22 : decode cX7_nextIncident 22 = .ok (.iaload, 1) := by decide +kernel
theorem dX7_nextIncident_23 : decode cX7_nextIncident 23 = .ok (.iconst (-1), 1) := by decide +kernel
theorem dX7_nextIncident_24 : decode cX7_nextIncident 24 = .ok (.if_icmp .eq 6, 3) := by decide +kernel
theorem dX7_nextIncident_27 : decode cX7_nextIncident 27 = .ok (.goto 54, 3) := by decide +kernel
theorem dX7_nextIncident_30 : decode cX7_nextIncident 30 = .ok (.iload_n 1, 1) := by decide +kernel
theorem dX7_nextIncident_31 : decode cX7_nextIncident 31 = .ok (.ifCond .lt 48, 3) := by decide +kernel
theorem dX7_nextIncident_34 : decode cX7_nextIncident 34 = .ok (.aload_n 0, 1) := by decide +kernel
theorem dX7_nextIncident_35 : decode cX7_nextIncident 35 = .ok (.getfield 19, 3) := by decide +kernel
theorem dX7_nextIncident_38 : decode cX7_nextIncident 38 = .ok (.iload_n 2, 1) := by decide +kernel
theorem dX7_nextIncident_39 : decode cX7_nextIncident 39 = .ok (.iaload, 1) := by decide +kernel
theorem dX7_nextIncident_40 : decode cX7_nextIncident 40 = .ok (.aload_n 0, 1) := by decide +kernel
theorem dX7_nextIncident_41 : decode cX7_nextIncident 41 = .ok (.getfield 19, 3) := by decide +kernel
theorem dX7_nextIncident_44 : decode cX7_nextIncident 44 = .ok (.iload_n 1, 1) := by decide +kernel
theorem dX7_nextIncident_45 : decode cX7_nextIncident 45 = .ok (.iaload, 1) := by decide +kernel
theorem dX7_nextIncident_46 : decode cX7_nextIncident 46 = .ok (.if_icmp .gt 33, 3) := by decide +kernel
theorem dX7_nextIncident_49 : decode cX7_nextIncident 49 = .ok (.aload_n 0, 1) := by decide +kernel
theorem dX7_nextIncident_50 : decode cX7_nextIncident 50 = .ok (.getfield 19, 3) := by decide +kernel
theorem dX7_nextIncident_53 : decode cX7_nextIncident 53 = .ok (.iload_n 2, 1) := by decide +kernel
theorem dX7_nextIncident_54 : decode cX7_nextIncident 54 = .ok (.iaload, 1) := by decide +kernel
theorem dX7_nextIncident_55 : decode cX7_nextIncident 55 = .ok (.aload_n 0, 1) := by decide +kernel
theorem dX7_nextIncident_56 : decode cX7_nextIncident 56 = .ok (.getfield 19, 3) := by decide +kernel
theorem dX7_nextIncident_59 : decode cX7_nextIncident 59 = .ok (.iload_n 1, 1) := by decide +kernel
theorem dX7_nextIncident_60 : decode cX7_nextIncident 60 = .ok (.iaload, 1) := by decide +kernel
theorem dX7_nextIncident_61 : decode cX7_nextIncident 61 = .ok (.if_icmp .ne 20, 3) := by decide +kernel
theorem dX7_nextIncident_64 : decode cX7_nextIncident 64 = .ok (.aload_n 0, 1) := by decide +kernel
theorem dX7_nextIncident_65 : decode cX7_nextIncident 65 = .ok (.getfield 22, 3) := by decide +kernel
theorem dX7_nextIncident_68 : decode cX7_nextIncident 68 = .ok (.iload_n 2, 1) := by decide +kernel
theorem dX7_nextIncident_69 : decode cX7_nextIncident 69 = .ok (.iaload, 1) := by decide +kernel
theorem dX7_nextIncident_70 : decode cX7_nextIncident 70 = .ok (.aload_n 0, 1) := by decide +kernel
theorem dX7_nextIncident_71 : decode cX7_nextIncident 71 = .ok (.getfield 22, 3) := by decide +kernel
theorem dX7_nextIncident_74 : decode cX7_nextIncident 74 = .ok (.iload_n 1, 1) := by decide +kernel
theorem dX7_nextIncident_75 : decode cX7_nextIncident 75 = .ok (.iaload, 1) := by decide +kernel
theorem dX7_nextIncident_76 : decode cX7_nextIncident 76 = .ok (.if_icmp .ge 5, 3) := by decide +kernel
theorem dX7_nextIncident_79 : decode cX7_nextIncident 79 = .ok (.iload_n 2, 1) := by decide +kernel
theorem dX7_nextIncident_80 : decode cX7_nextIncident 80 = .ok (.istore_n 1, 1) := by decide +kernel
theorem dX7_nextIncident_81 : decode cX7_nextIncident 81 = .ok (.iinc 2 1, 3) := by decide +kernel
theorem dX7_nextIncident_84 : decode cX7_nextIncident 84 = .ok (.goto (-75), 3) := by decide +kernel
theorem dX7_nextIncident_87 : decode cX7_nextIncident 87 = .ok (.iload_n 1, 1) := by decide +kernel
theorem dX7_nextIncident_88 : decode cX7_nextIncident 88 = .ok (.ifCond .ge 11, 3) := by decide +kernel
theorem dX7_nextIncident_91 : decode cX7_nextIncident 91 = .ok (.aload_n 0, 1) := by decide +kernel
theorem dX7_nextIncident_92 : decode cX7_nextIncident 92 = .ok (.iconst 1, 1) := by decide +kernel
theorem dX7_nextIncident_93 : decode cX7_nextIncident 93 = .ok (.invokevirtual 86, 3) := by decide +kernel
theorem dX7_nextIncident_96 : decode cX7_nextIncident 96 = .ok (.goto 4, 3) := by decide +kernel
theorem dX7_nextIncident_99 : decode cX7_nextIncident 99 = .ok (.iload_n 1, 1) := by decide +kernel
theorem dX7_nextIncident_100 : decode cX7_nextIncident 100 = .ok (.ireturn, 1) := by decide +kernel
theorem dX7_levelOf_0 : decode cX7_levelOf 0 = .ok (.aload_n 0, 1) := by decide +kernel
theorem dX7_levelOf_1 : decode cX7_levelOf 1 = .ok (.iconst 0, 1) := by decide +kernel
theorem dX7_levelOf_2 : decode cX7_levelOf 2 = .ok (.putfield 68, 3) := by decide +kernel
theorem dX7_levelOf_5 : decode cX7_levelOf 5 = .ok (.aload_n 0, 1) := by decide +kernel
theorem dX7_levelOf_6 : decode cX7_levelOf 6 = .ok (.iload_n 1, 1) := by decide +kernel
theorem dX7_levelOf_7 : decode cX7_levelOf 7 = .ok (.invokevirtual 155, 3) := by decide +kernel
theorem dX7_levelOf_10 : decode cX7_levelOf 10 = .ok (.ifCond .eq 12, 3) := by decide +kernel
theorem dX7_levelOf_13 : decode cX7_levelOf 13 = .ok (.aload_n 0, 1) := by decide +kernel
theorem dX7_levelOf_14 : decode cX7_levelOf 14 = .ok (.getfield 19, 3) := by decide +kernel
theorem dX7_levelOf_17 : decode cX7_levelOf 17 = .ok (.iload_n 1, 1) := by decide +kernel
theorem dX7_levelOf_18 : decode cX7_levelOf 18 = .ok (.iaload, 1) := by decide +kernel
theorem dX7_levelOf_19 : decode cX7_levelOf 19 = .ok (.goto 8, 3) := by decide +kernel
theorem dX7_levelOf_22 : decode cX7_levelOf 22 = .ok (.aload_n 0, 1) := by decide +kernel
theorem dX7_levelOf_23 : decode cX7_levelOf 23 = .ok (.iconst 1, 1) := by decide +kernel
theorem dX7_levelOf_24 : decode cX7_levelOf 24 = .ok (.invokevirtual 86, 3) := by decide +kernel
theorem dX7_levelOf_27 : decode cX7_levelOf 27 = .ok (.ireturn, 1) := by decide +kernel
theorem dX7_startOf_0 : decode cX7_startOf 0 = .ok (.aload_n 0, 1) := by decide +kernel
theorem dX7_startOf_1 : decode cX7_startOf 1 = .ok (.iconst 0, 1) := by decide +kernel
theorem dX7_startOf_2 : decode cX7_startOf 2 = .ok (.putfield 68, 3) := by decide +kernel
theorem dX7_startOf_5 : decode cX7_startOf 5 = .ok (.aload_n 0, 1) := by decide +kernel
theorem dX7_startOf_6 : decode cX7_startOf 6 = .ok (.iload_n 1, 1) := by decide +kernel
theorem dX7_startOf_7 : decode cX7_startOf 7 = .ok (.invokevirtual 155, 3) := by decide +kernel
theorem dX7_startOf_10 : decode cX7_startOf 10 = .ok (.ifCond .eq 12, 3) := by decide +kernel
theorem dX7_startOf_13 : decode cX7_startOf 13 = .ok (.aload_n 0, 1) := by decide +kernel
theorem dX7_startOf_14 : decode cX7_startOf 14 = .ok (.getfield 22, 3) := by decide +kernel
theorem dX7_startOf_17 : decode cX7_startOf 17 = .ok (.iload_n 1, 1) := by decide +kernel
theorem dX7_startOf_18 : decode cX7_startOf 18 = .ok (.iaload, 1) := by decide +kernel
theorem dX7_startOf_19 : decode cX7_startOf 19 = .ok (.goto 8, 3) := by decide +kernel
theorem dX7_startOf_22 : decode cX7_startOf 22 = .ok (.aload_n 0, 1) := by decide +kernel
theorem dX7_startOf_23 : decode cX7_startOf 23 = .ok (.iconst 1, 1) := by decide +kernel
theorem dX7_startOf_24 : decode cX7_startOf 24 = .ok (.invokevirtual 86, 3) := by decide +kernel
theorem dX7_startOf_27 : decode cX7_startOf 27 = .ok (.ireturn, 1) := by decide +kernel
theorem dX7_endOf_0 : decode cX7_endOf 0 = .ok (.aload_n 0, 1) := by decide +kernel
theorem dX7_endOf_1 : decode cX7_endOf 1 = .ok (.iconst 0, 1) := by decide +kernel
theorem dX7_endOf_2 : decode cX7_endOf 2 = .ok (.putfield 68, 3) := by decide +kernel
theorem dX7_endOf_5 : decode cX7_endOf 5 = .ok (.aload_n 0, 1) := by decide +kernel
theorem dX7_endOf_6 : decode cX7_endOf 6 = .ok (.iload_n 1, 1) := by decide +kernel
theorem dX7_endOf_7 : decode cX7_endOf 7 = .ok (.invokevirtual 155, 3) := by decide +kernel
theorem dX7_endOf_10 : decode cX7_endOf 10 = .ok (.ifCond .eq 12, 3) := by decide +kernel
theorem dX7_endOf_13 : decode cX7_endOf 13 = .ok (.aload_n 0, 1) := by decide +kernel
theorem dX7_endOf_14 : decode cX7_endOf 14 = .ok (.getfield 25, 3) := by decide +kernel
theorem dX7_endOf_17 : decode cX7_endOf 17 = .ok (.iload_n 1, 1) := by decide +kernel
theorem dX7_endOf_18 : decode cX7_endOf 18 = .ok (.iaload, 1) := by decide +kernel
theorem dX7_endOf_19 : decode cX7_endOf 19 = .ok (.goto 8, 3) := by decide +kernel
theorem dX7_endOf_22 : decode cX7_endOf 22 = .ok (.aload_n 0, 1) := by decide +kernel
theorem dX7_endOf_23 : decode cX7_endOf 23 = .ok (.iconst 1, 1) := by decide +kernel
theorem dX7_endOf_24 : decode cX7_endOf 24 = .ok (.invokevirtual 86, 3) := by decide +kernel
theorem dX7_endOf_27 : decode cX7_endOf 27 = .ok (.ireturn, 1) := by decide +kernel
theorem dX7_caseOf_0 : decode cX7_caseOf 0 = .ok (.aload_n 0, 1) := by decide +kernel
theorem dX7_caseOf_1 : decode cX7_caseOf 1 = .ok (.iconst 0, 1) := by decide +kernel
theorem dX7_caseOf_2 : decode cX7_caseOf 2 = .ok (.putfield 68, 3) := by decide +kernel
theorem dX7_caseOf_5 : decode cX7_caseOf 5 = .ok (.aload_n 0, 1) := by decide +kernel
theorem dX7_caseOf_6 : decode cX7_caseOf 6 = .ok (.iload_n 1, 1) := by decide +kernel
theorem dX7_caseOf_7 : decode cX7_caseOf 7 = .ok (.invokevirtual 155, 3) := by decide +kernel
theorem dX7_caseOf_10 : decode cX7_caseOf 10 = .ok (.ifCond .eq 12, 3) := by decide +kernel
theorem dX7_caseOf_13 : decode cX7_caseOf 13 = .ok (.aload_n 0, 1) := by decide +kernel
theorem dX7_caseOf_14 : decode cX7_caseOf 14 = .ok (.getfield 28, 3) := by decide +kernel
theorem dX7_caseOf_17 : decode cX7_caseOf 17 = .ok (.iload_n 1, 1) := by decide +kernel
theorem dX7_caseOf_18 : decode cX7_caseOf 18 = .ok (.iaload, 1) := by decide +kernel
theorem dX7_caseOf_19 : decode cX7_caseOf 19 = .ok (.goto 8, 3) := by decide +kernel
theorem dX7_caseOf_22 : decode cX7_caseOf 22 = .ok (.aload_n 0, 1) := by decide +kernel
theorem dX7_caseOf_23 : decode cX7_caseOf 23 = .ok (.iconst 1, 1) := by decide +kernel
theorem dX7_caseOf_24 : decode cX7_caseOf 24 = .ok (.invokevirtual 86, 3) := by decide +kernel
theorem dX7_caseOf_27 : decode cX7_caseOf 27 = .ok (.ireturn, 1) := by decide +kernel
theorem dX7_cases_0 : decode cX7_cases 0 = .ok (.aload_n 0, 1) := by decide +kernel
theorem dX7_cases_1 : decode cX7_cases 1 = .ok (.iconst 0, 1) := by decide +kernel
theorem dX7_cases_2 : decode cX7_cases 2 = .ok (.putfield 68, 3) := by decide +kernel
theorem dX7_cases_5 : decode cX7_cases 5 = .ok (.iconst 0, 1) := by decide +kernel
theorem dX7_cases_6 : decode cX7_cases 6 = .ok (.istore_n 1, 1) := by decide +kernel
theorem dX7_cases_7 : decode cX7_cases 7 = .ok (.iconst 0, 1) := by decide +kernel
theorem dX7_cases_8 : decode cX7_cases 8 = .ok (.istore_n 2, 1) := by decide +kernel
theorem dX7_cases_9 : decode cX7_cases 9 = .ok (.iload_n 2, 1) := by decide +kernel
theorem dX7_cases_10 : decode cX7_cases 10 = .ok (.aload_n 0, 1) := by decide +kernel
theorem dX7_cases_11 : decode cX7_cases 11 = .ok (.getfield 79, 3) := by decide +kernel
theorem dX7_cases_14 : decode cX7_cases 14 = .ok (.if_icmp .ge 27, 3) := by decide +kernel
theorem dX7_cases_17 : decode cX7_cases 17 = .ok (.iload_n 1, 1) := by decide +kernel
theorem dX7_cases_18 : decode cX7_cases 18 = .ok (.aload_n 0, 1) := by decide +kernel
theorem dX7_cases_19 : decode cX7_cases 19 = .ok (.getfield 28, 3) := by decide +kernel
theorem dX7_cases_22 : decode cX7_cases 22 = .ok (.iload_n 2, 1) := by decide +kernel
theorem dX7_cases_23 : decode cX7_cases 23 = .ok (.iaload, 1) := by decide +kernel
theorem dX7_cases_24 : decode cX7_cases 24 = .ok (.iload_n 2, 1) := by decide +kernel
theorem dX7_cases_25 : decode cX7_cases 25 = .ok (.if_icmp .ne 7, 3) := by decide +kernel
theorem dX7_cases_28 : decode cX7_cases 28 = .ok (.iconst 1, 1) := by decide +kernel
theorem dX7_cases_29 : decode cX7_cases 29 = .ok (.goto 4, 3) := by decide +kernel
theorem dX7_cases_32 : decode cX7_cases 32 = .ok (.iconst 0, 1) := by decide +kernel
theorem dX7_cases_33 : decode cX7_cases 33 = .ok (.iadd, 1) := by decide +kernel
theorem dX7_cases_34 : decode cX7_cases 34 = .ok (.istore_n 1, 1) := by decide +kernel
theorem dX7_cases_35 : decode cX7_cases 35 = .ok (.iinc 2 1, 3) := by decide +kernel
theorem dX7_cases_38 : decode cX7_cases 38 = .ok (.goto (-29), 3) := by decide +kernel
theorem dX7_cases_41 : decode cX7_cases 41 = .ok (.iload_n 1, 1) := by decide +kernel
theorem dX7_cases_42 : decode cX7_cases 42 = .ok (.ireturn, 1) := by decide +kernel
theorem dX7_isCovered_0 : decode cX7_isCovered 0 = .ok (.iconst 0, 1) := by decide +kernel
theorem dX7_isCovered_1 : decode cX7_isCovered 1 = .ok (.istore_n 3, 1) := by decide +kernel
theorem dX7_isCovered_2 : decode cX7_isCovered 2 = .ok (.iload_n 3, 1) := by decide +kernel
theorem dX7_isCovered_3 : decode cX7_isCovered 3 = .ok (.aload_n 0, 1) := by decide +kernel
theorem dX7_isCovered_4 : decode cX7_isCovered 4 = .ok (.getfield 79, 3) := by decide +kernel
theorem dX7_isCovered_7 : decode cX7_isCovered 7 = .ok (.if_icmp .ge 30, 3) := by decide +kernel
theorem dX7_isCovered_10 : decode cX7_isCovered 10 = .ok (.aload_n 0, 1) := by decide +kernel
theorem dX7_isCovered_11 : decode cX7_isCovered 11 = .ok (.getfield 28, 3) := by decide +kernel
theorem dX7_isCovered_14 : decode cX7_isCovered 14 = .ok (.iload_n 3, 1) := by decide +kernel
theorem dX7_isCovered_15 : decode cX7_isCovered 15 = .ok (.iaload, 1) := by decide +kernel
theorem dX7_isCovered_16 : decode cX7_isCovered 16 = .ok (.iload_n 1, 1) := by decide +kernel
theorem dX7_isCovered_17 : decode cX7_isCovered 17 = .ok (.if_icmp .ne 14, 3) := by decide +kernel
theorem dX7_isCovered_20 : decode cX7_isCovered 20 = .ok (.aload_n 0, 1) := by decide +kernel
theorem dX7_isCovered_21 : decode cX7_isCovered 21 = .ok (.iload_n 3, 1) := by decide +kernel
theorem dX7_isCovered_22 : decode cX7_isCovered 22 = .ok (.iload_n 2, 1) := by decide +kernel
theorem dX7_isCovered_23 : decode cX7_isCovered 23 = .ok (.invokevirtual 103, 3) := by decide +kernel
theorem dX7_isCovered_26 : decode cX7_isCovered 26 = .ok (.ifCond .eq 5, 3) := by decide +kernel
theorem dX7_isCovered_29 : decode cX7_isCovered 29 = .ok (.iconst 1, 1) := by decide +kernel
theorem dX7_isCovered_30 : decode cX7_isCovered 30 = .ok (.ireturn, 1) := by decide +kernel
theorem dX7_isCovered_31 : decode cX7_isCovered 31 = .ok (.iinc 3 1, 3) := by decide +kernel
theorem dX7_isCovered_34 : decode cX7_isCovered 34 = .ok (.goto (-32), 3) := by decide +kernel
theorem dX7_isCovered_37 : decode cX7_isCovered 37 = .ok (.iconst 0, 1) := by decide +kernel
theorem dX7_isCovered_38 : decode cX7_isCovered 38 = .ok (.ireturn, 1) := by decide +kernel
theorem dX7_caseMinutes_0 : decode cX7_caseMinutes 0 = .ok (.aload_n 0, 1) := by decide +kernel
theorem dX7_caseMinutes_1 : decode cX7_caseMinutes 1 = .ok (.iconst 0, 1) := by decide +kernel
theorem dX7_caseMinutes_2 : decode cX7_caseMinutes 2 = .ok (.putfield 68, 3) := by decide +kernel
theorem dX7_caseMinutes_5 : decode cX7_caseMinutes 5 = .ok (.aload_n 0, 1) := by decide +kernel
theorem dX7_caseMinutes_6 : decode cX7_caseMinutes 6 = .ok (.iload_n 1, 1) := by decide +kernel
theorem dX7_caseMinutes_7 : decode cX7_caseMinutes 7 = .ok (.invokevirtual 155, 3) := by decide +kernel
theorem dX7_caseMinutes_10 : decode cX7_caseMinutes 10 = .ok (.ifCond .ne 9, 3) := by decide +kernel
theorem dX7_caseMinutes_13 : decode cX7_caseMinutes 13 = .ok (.aload_n 0, 1) := by decide +kernel
theorem dX7_caseMinutes_14 : decode cX7_caseMinutes 14 = .ok (.iconst 1, 1) := by decide +kernel
theorem dX7_caseMinutes_15 : decode cX7_caseMinutes 15 = .ok (.invokevirtual 86, 3) := by decide +kernel
theorem dX7_caseMinutes_18 : decode cX7_caseMinutes 18 = .ok (.ireturn, 1) := by decide +kernel
theorem dX7_caseMinutes_19 : decode cX7_caseMinutes 19 = .ok (.iconst 0, 1) := by decide +kernel
theorem dX7_caseMinutes_20 : decode cX7_caseMinutes 20 = .ok (.istore_n 2, 1) := by decide +kernel
theorem dX7_caseMinutes_21 : decode cX7_caseMinutes 21 = .ok (.iconst 0, 1) := by decide +kernel
theorem dX7_caseMinutes_22 : decode cX7_caseMinutes 22 = .ok (.istore_n 3, 1) := by decide +kernel
theorem dX7_caseMinutes_23 : decode cX7_caseMinutes 23 = .ok (.iload_n 3, 1) := by decide +kernel
theorem dX7_caseMinutes_24 : decode cX7_caseMinutes 24 = .ok (.aload_n 0, 1) := by decide +kernel
theorem dX7_caseMinutes_25 : decode cX7_caseMinutes 25 = .ok (.getfield 134, 3) := by decide +kernel
theorem dX7_caseMinutes_28 : decode cX7_caseMinutes 28 = .ok (.if_icmp .ge 31, 3) := by decide +kernel
theorem dX7_caseMinutes_31 : decode cX7_caseMinutes 31 = .ok (.iload_n 2, 1) := by decide +kernel
theorem dX7_caseMinutes_32 : decode cX7_caseMinutes 32 = .ok (.aload_n 0, 1) := by decide +kernel
theorem dX7_caseMinutes_33 : decode cX7_caseMinutes 33 = .ok (.aload_n 0, 1) := by decide +kernel
theorem dX7_caseMinutes_34 : decode cX7_caseMinutes 34 = .ok (.getfield 28, 3) := by decide +kernel
theorem dX7_caseMinutes_37 : decode cX7_caseMinutes 37 = .ok (.iload_n 1, 1) := by decide +kernel
theorem dX7_caseMinutes_38 : decode cX7_caseMinutes 38 = .ok (.iaload, 1) := by decide +kernel
theorem dX7_caseMinutes_39 : decode cX7_caseMinutes 39 = .ok (.iload_n 3, 1) := by decide +kernel
theorem dX7_caseMinutes_40 : decode cX7_caseMinutes 40 = .ok (.invokevirtual 198, 3) := by decide +kernel
theorem dX7_caseMinutes_43 : decode cX7_caseMinutes 43 = .ok (.ifCond .eq 7, 3) := by decide +kernel
theorem dX7_caseMinutes_46 : decode cX7_caseMinutes 46 = .ok (.iconst 1, 1) := by decide +kernel
theorem dX7_caseMinutes_47 : decode cX7_caseMinutes 47 = .ok (.goto 4, 3) := by decide +kernel
theorem dX7_caseMinutes_50 : decode cX7_caseMinutes 50 = .ok (.iconst 0, 1) := by decide +kernel
theorem dX7_caseMinutes_51 : decode cX7_caseMinutes 51 = .ok (.iadd, 1) := by decide +kernel
theorem dX7_caseMinutes_52 : decode cX7_caseMinutes 52 = .ok (.istore_n 2, 1) := by decide +kernel
theorem dX7_caseMinutes_53 : decode cX7_caseMinutes 53 = .ok (.iinc 3 1, 3) := by decide +kernel
theorem dX7_caseMinutes_56 : decode cX7_caseMinutes 56 = .ok (.goto (-33), 3) := by decide +kernel
theorem dX7_caseMinutes_59 : decode cX7_caseMinutes 59 = .ok (.iload_n 2, 1) := by decide +kernel
theorem dX7_caseMinutes_60 : decode cX7_caseMinutes 60 = .ok (.ireturn, 1) := by decide +kernel
theorem dX7_subscriptions_0 : decode cX7_subscriptions 0 = .ok (.aload_n 0, 1) := by decide +kernel
theorem dX7_subscriptions_1 : decode cX7_subscriptions 1 = .ok (.iconst 0, 1) := by decide +kernel
theorem dX7_subscriptions_2 : decode cX7_subscriptions 2 = .ok (.putfield 68, 3) := by decide +kernel
theorem dX7_subscriptions_5 : decode cX7_subscriptions 5 = .ok (.aload_n 0, 1) := by decide +kernel
theorem dX7_subscriptions_6 : decode cX7_subscriptions 6 = .ok (.iload_n 1, 1) := by decide +kernel
theorem dX7_subscriptions_7 : decode cX7_subscriptions 7 = .ok (.invokevirtual 121, 3) := by decide +kernel
theorem dX7_subscriptions_10 : decode cX7_subscriptions 10 = .ok (.ifCond .eq 15, 3) := by decide +kernel
theorem dX7_subscriptions_13 : decode cX7_subscriptions 13 = .ok (.aload_n 0, 1) := by decide +kernel
theorem dX7_subscriptions_14 : decode cX7_subscriptions 14 = .ok (.getfield 47, 3) := by decide +kernel
theorem dX7_subscriptions_17 : decode cX7_subscriptions 17 = .ok (.iload_n 1, 1) := by decide +kernel
theorem dX7_subscriptions_18 : decode cX7_subscriptions 18 = .ok (.iaload, 1) := by decide +kernel
theorem dX7_subscriptions_19 : decode cX7_subscriptions 19 = .ok (.invokestatic 127, 3) := by decide +kernel
theorem dX7_subscriptions_22 : decode cX7_subscriptions 22 = .ok (.goto 8, 3) := by decide +kernel
theorem dX7_subscriptions_25 : decode cX7_subscriptions 25 = .ok (.aload_n 0, 1) := by decide +kernel
theorem dX7_subscriptions_26 : decode cX7_subscriptions 26 = .ok (.iconst 1, 1) := by decide +kernel
theorem dX7_subscriptions_27 : decode cX7_subscriptions 27 = .ok (.invokevirtual 86, 3) := by decide +kernel
theorem dX7_subscriptions_30 : decode cX7_subscriptions 30 = .ok (.ireturn, 1) := by decide +kernel
theorem dX7_mails_0 : decode cX7_mails 0 = .ok (.aload_n 0, 1) := by decide +kernel
theorem dX7_mails_1 : decode cX7_mails 1 = .ok (.iconst 0, 1) := by decide +kernel
theorem dX7_mails_2 : decode cX7_mails 2 = .ok (.putfield 68, 3) := by decide +kernel
theorem dX7_mails_5 : decode cX7_mails 5 = .ok (.aload_n 0, 1) := by decide +kernel
theorem dX7_mails_6 : decode cX7_mails 6 = .ok (.getfield 146, 3) := by decide +kernel
theorem dX7_mails_9 : decode cX7_mails 9 = .ok (.ireturn, 1) := by decide +kernel
theorem dX7_mailsTo_0 : decode cX7_mailsTo 0 = .ok (.aload_n 0, 1) := by decide +kernel
theorem dX7_mailsTo_1 : decode cX7_mailsTo 1 = .ok (.iconst 0, 1) := by decide +kernel
theorem dX7_mailsTo_2 : decode cX7_mailsTo 2 = .ok (.putfield 68, 3) := by decide +kernel
theorem dX7_mailsTo_5 : decode cX7_mailsTo 5 = .ok (.aload_n 0, 1) := by decide +kernel
theorem dX7_mailsTo_6 : decode cX7_mailsTo 6 = .ok (.iload_n 1, 1) := by decide +kernel
theorem dX7_mailsTo_7 : decode cX7_mailsTo 7 = .ok (.invokevirtual 121, 3) := by decide +kernel
theorem dX7_mailsTo_10 : decode cX7_mailsTo 10 = .ok (.ifCond .ne 9, 3) := by decide +kernel
theorem dX7_mailsTo_13 : decode cX7_mailsTo 13 = .ok (.aload_n 0, 1) := by decide +kernel
theorem dX7_mailsTo_14 : decode cX7_mailsTo 14 = .ok (.iconst 1, 1) := by decide +kernel
theorem dX7_mailsTo_15 : decode cX7_mailsTo 15 = .ok (.invokevirtual 86, 3) := by decide +kernel
theorem dX7_mailsTo_18 : decode cX7_mailsTo 18 = .ok (.ireturn, 1) := by decide +kernel
theorem dX7_mailsTo_19 : decode cX7_mailsTo 19 = .ok (.iconst 0, 1) := by decide +kernel
theorem dX7_mailsTo_20 : decode cX7_mailsTo 20 = .ok (.istore_n 2, 1) := by decide +kernel
theorem dX7_mailsTo_21 : decode cX7_mailsTo 21 = .ok (.iconst 0, 1) := by decide +kernel
theorem dX7_mailsTo_22 : decode cX7_mailsTo 22 = .ok (.istore_n 3, 1) := by decide +kernel
theorem dX7_mailsTo_23 : decode cX7_mailsTo 23 = .ok (.iload_n 3, 1) := by decide +kernel
theorem dX7_mailsTo_24 : decode cX7_mailsTo 24 = .ok (.aload_n 0, 1) := by decide +kernel
theorem dX7_mailsTo_25 : decode cX7_mailsTo 25 = .ok (.getfield 146, 3) := by decide +kernel
theorem dX7_mailsTo_28 : decode cX7_mailsTo 28 = .ok (.if_icmp .ge 27, 3) := by decide +kernel
theorem dX7_mailsTo_31 : decode cX7_mailsTo 31 = .ok (.iload_n 2, 1) := by decide +kernel
theorem dX7_mailsTo_32 : decode cX7_mailsTo 32 = .ok (.aload_n 0, 1) := by decide +kernel
theorem dX7_mailsTo_33 : decode cX7_mailsTo 33 = .ok (.getfield 53, 3) := by decide +kernel
theorem dX7_mailsTo_36 : decode cX7_mailsTo 36 = .ok (.iload_n 3, 1) := by decide +kernel
theorem dX7_mailsTo_37 : decode cX7_mailsTo 37 = .ok (.iaload, 1) := by decide +kernel
theorem dX7_mailsTo_38 : decode cX7_mailsTo 38 = .ok (.iload_n 1, 1) := by decide +kernel
theorem dX7_mailsTo_39 : decode cX7_mailsTo 39 = .ok (.if_icmp .ne 7, 3) := by decide +kernel
theorem dX7_mailsTo_42 : decode cX7_mailsTo 42 = .ok (.iconst 1, 1) := by decide +kernel
theorem dX7_mailsTo_43 : decode cX7_mailsTo 43 = .ok (.goto 4, 3) := by decide +kernel
theorem dX7_mailsTo_46 : decode cX7_mailsTo 46 = .ok (.iconst 0, 1) := by decide +kernel
theorem dX7_mailsTo_47 : decode cX7_mailsTo 47 = .ok (.iadd, 1) := by decide +kernel
theorem dX7_mailsTo_48 : decode cX7_mailsTo 48 = .ok (.istore_n 2, 1) := by decide +kernel
theorem dX7_mailsTo_49 : decode cX7_mailsTo 49 = .ok (.iinc 3 1, 3) := by decide +kernel
theorem dX7_mailsTo_52 : decode cX7_mailsTo 52 = .ok (.goto (-29), 3) := by decide +kernel
theorem dX7_mailsTo_55 : decode cX7_mailsTo 55 = .ok (.iload_n 2, 1) := by decide +kernel
theorem dX7_mailsTo_56 : decode cX7_mailsTo 56 = .ok (.ireturn, 1) := by decide +kernel
theorem dX7_isMail_0 : decode cX7_isMail 0 = .ok (.iload_n 1, 1) := by decide +kernel
theorem dX7_isMail_1 : decode cX7_isMail 1 = .ok (.iconst 0, 1) := by decide +kernel
theorem dX7_isMail_2 : decode cX7_isMail 2 = .ok (.aload_n 0, 1) := by decide +kernel
theorem dX7_isMail_3 : decode cX7_isMail 3 = .ok (.getfield 146, 3) := by decide +kernel
theorem dX7_isMail_6 : decode cX7_isMail 6 = .ok (.iconst 1, 1) := by decide +kernel
theorem dX7_isMail_7 : decode cX7_isMail 7 = .ok (.isub, 1) := by decide +kernel
theorem dX7_isMail_8 : decode cX7_isMail 8 = .ok (.invokestatic 75, 3) := by decide +kernel
theorem dX7_isMail_11 : decode cX7_isMail 11 = .ok (.ireturn, 1) := by decide +kernel
theorem dX7_mailPerson_0 : decode cX7_mailPerson 0 = .ok (.aload_n 0, 1) := by decide +kernel
theorem dX7_mailPerson_1 : decode cX7_mailPerson 1 = .ok (.iconst 0, 1) := by decide +kernel
theorem dX7_mailPerson_2 : decode cX7_mailPerson 2 = .ok (.putfield 68, 3) := by decide +kernel
theorem dX7_mailPerson_5 : decode cX7_mailPerson 5 = .ok (.aload_n 0, 1) := by decide +kernel
theorem dX7_mailPerson_6 : decode cX7_mailPerson 6 = .ok (.iload_n 1, 1) := by decide +kernel
theorem dX7_mailPerson_7 : decode cX7_mailPerson 7 = .ok (.invokevirtual 201, 3) := by decide +kernel
theorem dX7_mailPerson_10 : decode cX7_mailPerson 10 = .ok (.ifCond .eq 12, 3) := by decide +kernel
theorem dX7_mailPerson_13 : decode cX7_mailPerson 13 = .ok (.aload_n 0, 1) := by decide +kernel
theorem dX7_mailPerson_14 : decode cX7_mailPerson 14 = .ok (.getfield 53, 3) := by decide +kernel
theorem dX7_mailPerson_17 : decode cX7_mailPerson 17 = .ok (.iload_n 1, 1) := by decide +kernel
theorem dX7_mailPerson_18 : decode cX7_mailPerson 18 = .ok (.iaload, 1) := by decide +kernel
theorem dX7_mailPerson_19 : decode cX7_mailPerson 19 = .ok (.goto 8, 3) := by decide +kernel
theorem dX7_mailPerson_22 : decode cX7_mailPerson 22 = .ok (.aload_n 0, 1) := by decide +kernel
theorem dX7_mailPerson_23 : decode cX7_mailPerson 23 = .ok (.iconst 1, 1) := by decide +kernel
theorem dX7_mailPerson_24 : decode cX7_mailPerson 24 = .ok (.invokevirtual 86, 3) := by decide +kernel
theorem dX7_mailPerson_27 : decode cX7_mailPerson 27 = .ok (.ireturn, 1) := by decide +kernel
theorem dX7_mailComponent_0 : decode cX7_mailComponent 0 = .ok (.aload_n 0, 1) := by decide +kernel
theorem dX7_mailComponent_1 : decode cX7_mailComponent 1 = .ok (.iconst 0, 1) := by decide +kernel
theorem dX7_mailComponent_2 : decode cX7_mailComponent 2 = .ok (.putfield 68, 3) := by decide +kernel
theorem dX7_mailComponent_5 : decode cX7_mailComponent 5 = .ok (.aload_n 0, 1) := by decide +kernel
theorem dX7_mailComponent_6 : decode cX7_mailComponent 6 = .ok (.iload_n 1, 1) := by decide +kernel
theorem dX7_mailComponent_7 : decode cX7_mailComponent 7 = .ok (.invokevirtual 201, 3) := by decide +kernel
theorem dX7_mailComponent_10 : decode cX7_mailComponent 10 = .ok (.ifCond .eq 12, 3) := by decide +kernel
theorem dX7_mailComponent_13 : decode cX7_mailComponent 13 = .ok (.aload_n 0, 1) := by decide +kernel
theorem dX7_mailComponent_14 : decode cX7_mailComponent 14 = .ok (.getfield 56, 3) := by decide +kernel
theorem dX7_mailComponent_17 : decode cX7_mailComponent 17 = .ok (.iload_n 1, 1) := by decide +kernel
theorem dX7_mailComponent_18 : decode cX7_mailComponent 18 = .ok (.iaload, 1) := by decide +kernel
theorem dX7_mailComponent_19 : decode cX7_mailComponent 19 = .ok (.goto 8, 3) := by decide +kernel
theorem dX7_mailComponent_22 : decode cX7_mailComponent 22 = .ok (.aload_n 0, 1) := by decide +kernel
theorem dX7_mailComponent_23 : decode cX7_mailComponent 23 = .ok (.iconst 1, 1) := by decide +kernel
theorem dX7_mailComponent_24 : decode cX7_mailComponent 24 = .ok (.invokevirtual 86, 3) := by decide +kernel
theorem dX7_mailComponent_27 : decode cX7_mailComponent 27 = .ok (.ireturn, 1) := by decide +kernel
theorem dX7_mailState_0 : decode cX7_mailState 0 = .ok (.aload_n 0, 1) := by decide +kernel
theorem dX7_mailState_1 : decode cX7_mailState 1 = .ok (.iconst 0, 1) := by decide +kernel
theorem dX7_mailState_2 : decode cX7_mailState 2 = .ok (.putfield 68, 3) := by decide +kernel
theorem dX7_mailState_5 : decode cX7_mailState 5 = .ok (.aload_n 0, 1) := by decide +kernel
theorem dX7_mailState_6 : decode cX7_mailState 6 = .ok (.iload_n 1, 1) := by decide +kernel
theorem dX7_mailState_7 : decode cX7_mailState 7 = .ok (.invokevirtual 201, 3) := by decide +kernel
theorem dX7_mailState_10 : decode cX7_mailState 10 = .ok (.ifCond .eq 15, 3) := by decide +kernel
theorem dX7_mailState_13 : decode cX7_mailState 13 = .ok (.aload_n 0, 1) := by decide +kernel
theorem dX7_mailState_14 : decode cX7_mailState 14 = .ok (.getfield 59, 3) := by decide +kernel
theorem dX7_mailState_17 : decode cX7_mailState 17 = .ok (.iload_n 1, 1) := by decide +kernel
theorem dX7_mailState_18 : decode cX7_mailState 18 = .ok (.iaload, 1) := by decide +kernel
theorem dX7_mailState_19 : decode cX7_mailState 19 = .ok (.invokestatic 182, 3) := by decide +kernel
theorem dX7_mailState_22 : decode cX7_mailState 22 = .ok (.goto 9, 3) := by decide +kernel
theorem dX7_mailState_25 : decode cX7_mailState 25 = .ok (.aload_n 0, 1) := by decide +kernel
theorem dX7_mailState_26 : decode cX7_mailState 26 = .ok (.iconst 1, 1) := by decide +kernel
theorem dX7_mailState_27 : decode cX7_mailState 27 = .ok (.invokevirtual 86, 3) := by decide +kernel
theorem dX7_mailState_30 : decode cX7_mailState 30 = .ok (.i2c, 1) := by decide +kernel
theorem dX7_mailState_31 : decode cX7_mailState 31 = .ok (.ireturn, 1) := by decide +kernel
theorem dX7_mailMinute_0 : decode cX7_mailMinute 0 = .ok (.aload_n 0, 1) := by decide +kernel
theorem dX7_mailMinute_1 : decode cX7_mailMinute 1 = .ok (.iconst 0, 1) := by decide +kernel
theorem dX7_mailMinute_2 : decode cX7_mailMinute 2 = .ok (.putfield 68, 3) := by decide +kernel
theorem dX7_mailMinute_5 : decode cX7_mailMinute 5 = .ok (.aload_n 0, 1) := by decide +kernel
theorem dX7_mailMinute_6 : decode cX7_mailMinute 6 = .ok (.iload_n 1, 1) := by decide +kernel
theorem dX7_mailMinute_7 : decode cX7_mailMinute 7 = .ok (.invokevirtual 201, 3) := by decide +kernel
theorem dX7_mailMinute_10 : decode cX7_mailMinute 10 = .ok (.ifCond .eq 12, 3) := by decide +kernel
theorem dX7_mailMinute_13 : decode cX7_mailMinute 13 = .ok (.aload_n 0, 1) := by decide +kernel
theorem dX7_mailMinute_14 : decode cX7_mailMinute 14 = .ok (.getfield 62, 3) := by decide +kernel
theorem dX7_mailMinute_17 : decode cX7_mailMinute 17 = .ok (.iload_n 1, 1) := by decide +kernel
theorem dX7_mailMinute_18 : decode cX7_mailMinute 18 = .ok (.iaload, 1) := by decide +kernel
theorem dX7_mailMinute_19 : decode cX7_mailMinute 19 = .ok (.goto 8, 3) := by decide +kernel
theorem dX7_mailMinute_22 : decode cX7_mailMinute 22 = .ok (.aload_n 0, 1) := by decide +kernel
theorem dX7_mailMinute_23 : decode cX7_mailMinute 23 = .ok (.iconst 1, 1) := by decide +kernel
theorem dX7_mailMinute_24 : decode cX7_mailMinute 24 = .ok (.invokevirtual 86, 3) := by decide +kernel
theorem dX7_mailMinute_27 : decode cX7_mailMinute 27 = .ok (.ireturn, 1) := by decide +kernel
theorem dX7_excusedShare_0 : decode cX7_excusedShare 0 = .ok (.aload_n 0, 1) := by decide +kernel
theorem dX7_excusedShare_1 : decode cX7_excusedShare 1 = .ok (.iconst 0, 1) := by decide +kernel
theorem dX7_excusedShare_2 : decode cX7_excusedShare 2 = .ok (.putfield 68, 3) := by decide +kernel
theorem dX7_excusedShare_5 : decode cX7_excusedShare 5 = .ok (.aload_n 0, 1) := by decide +kernel
theorem dX7_excusedShare_6 : decode cX7_excusedShare 6 = .ok (.iload_n 1, 1) := by decide +kernel
theorem dX7_excusedShare_7 : decode cX7_excusedShare 7 = .ok (.invokevirtual 82, 3) := by decide +kernel
theorem dX7_excusedShare_10 : decode cX7_excusedShare 10 = .ok (.ifCond .ne 10, 3) := by decide +kernel
theorem dX7_excusedShare_13 : decode cX7_excusedShare 13 = .ok (.aload_n 0, 1) := by decide +kernel
theorem dX7_excusedShare_14 : decode cX7_excusedShare 14 = .ok (.iconst 1, 1) := by decide +kernel
theorem dX7_excusedShare_15 : decode cX7_excusedShare 15 = .ok (.invokevirtual 86, 3) := by decide +kernel
theorem dX7_excusedShare_18 : decode cX7_excusedShare 18 = .ok (.i2f, 1) := by decide +kernel
theorem dX7_excusedShare_19 : decode cX7_excusedShare 19 = .ok (.freturn, 1) := by decide +kernel
theorem dX7_excusedShare_20 : decode cX7_excusedShare 20 = .ok (.aload_n 0, 1) := by decide +kernel
theorem dX7_excusedShare_21 : decode cX7_excusedShare 21 = .ok (.getfield 134, 3) := by decide +kernel
theorem dX7_excusedShare_24 : decode cX7_excusedShare 24 = .ok (.ifCond .ne 10, 3) := by decide +kernel
theorem dX7_excusedShare_27 : decode cX7_excusedShare 27 = .ok (.aload_n 0, 1) := by decide +kernel
theorem dX7_excusedShare_28 : decode cX7_excusedShare 28 = .ok (.iconst 2, 1) := by decide +kernel
theorem dX7_excusedShare_29 : decode cX7_excusedShare 29 = .ok (.invokevirtual 86, 3) := by decide +kernel
theorem dX7_excusedShare_32 : decode cX7_excusedShare 32 = .ok (.i2f, 1) := by decide +kernel
theorem dX7_excusedShare_33 : decode cX7_excusedShare 33 = .ok (.freturn, 1) := by decide +kernel
theorem dX7_excusedShare_34 : decode cX7_excusedShare 34 = .ok (.iconst 0, 1) := by decide +kernel
theorem dX7_excusedShare_35 : decode cX7_excusedShare 35 = .ok (.istore_n 2, 1) := by decide +kernel
theorem dX7_excusedShare_36 : decode cX7_excusedShare 36 = .ok (.iconst 0, 1) := by decide +kernel
theorem dX7_excusedShare_37 : decode cX7_excusedShare 37 = .ok (.istore_n 3, 1) := by decide +kernel
theorem dX7_excusedShare_38 : decode cX7_excusedShare 38 = .ok (.iload_n 3, 1) := by decide +kernel
theorem dX7_excusedShare_39 : decode cX7_excusedShare 39 = .ok (.aload_n 0, 1) := by decide +kernel
theorem dX7_excusedShare_40 : decode cX7_excusedShare 40 = .ok (.getfield 134, 3) := by decide +kernel
theorem dX7_excusedShare_43 : decode cX7_excusedShare 43 = .ok (.if_icmp .ge 26, 3) := by decide +kernel
theorem dX7_excusedShare_46 : decode cX7_excusedShare 46 = .ok (.iload_n 2, 1) := by decide +kernel
theorem dX7_excusedShare_47 : decode cX7_excusedShare 47 = .ok (.aload_n 0, 1) := by decide +kernel
theorem dX7_excusedShare_48 : decode cX7_excusedShare 48 = .ok (.iload_n 1, 1) := by decide +kernel
theorem dX7_excusedShare_49 : decode cX7_excusedShare 49 = .ok (.iload_n 3, 1) := by decide +kernel
theorem dX7_excusedShare_50 : decode cX7_excusedShare 50 = .ok (.invokevirtual 137, 3) := by decide +kernel
theorem dX7_excusedShare_53 : decode cX7_excusedShare 53 = .ok (.ifCond .eq 7, 3) := by decide +kernel
theorem dX7_excusedShare_56 : decode cX7_excusedShare 56 = .ok (.iconst 1, 1) := by decide +kernel
theorem dX7_excusedShare_57 : decode cX7_excusedShare 57 = .ok (.goto 4, 3) := by decide +kernel
theorem dX7_excusedShare_60 : decode cX7_excusedShare 60 = .ok (.iconst 0, 1) := by decide +kernel
theorem dX7_excusedShare_61 : decode cX7_excusedShare 61 = .ok (.iadd, 1) := by decide +kernel
theorem dX7_excusedShare_62 : decode cX7_excusedShare 62 = .ok (.istore_n 2, 1) := by decide +kernel
theorem dX7_excusedShare_63 : decode cX7_excusedShare 63 = .ok (.iinc 3 1, 3) := by decide +kernel
theorem dX7_excusedShare_66 : decode cX7_excusedShare 66 = .ok (.goto (-28), 3) := by decide +kernel
theorem dX7_excusedShare_69 : decode cX7_excusedShare 69 = .ok (.iload_n 2, 1) := by decide +kernel
theorem dX7_excusedShare_70 : decode cX7_excusedShare 70 = .ok (.i2f, 1) := by decide +kernel
theorem dX7_excusedShare_71 : decode cX7_excusedShare 71 = .ok (.aload_n 0, 1) := by decide +kernel
theorem dX7_excusedShare_72 : decode cX7_excusedShare 72 = .ok (.getfield 134, 3) := by decide +kernel
theorem dX7_excusedShare_75 : decode cX7_excusedShare 75 = .ok (.i2f, 1) := by decide +kernel
theorem dX7_excusedShare_76 : decode cX7_excusedShare 76 = .ok (.fdiv, 1) := by decide +kernel
theorem dX7_excusedShare_77 : decode cX7_excusedShare 77 = .ok (.freturn, 1) := by decide +kernel
theorem dX7_meanUptime_0 : decode cX7_meanUptime 0 = .ok (.aload_n 0, 1) := by decide +kernel
theorem dX7_meanUptime_1 : decode cX7_meanUptime 1 = .ok (.iconst 0, 1) := by decide +kernel
theorem dX7_meanUptime_2 : decode cX7_meanUptime 2 = .ok (.putfield 68, 3) := by decide +kernel
theorem dX7_meanUptime_5 : decode cX7_meanUptime 5 = .ok (.iload_n 1, 1) := by decide +kernel
theorem dX7_meanUptime_6 : decode cX7_meanUptime 6 = .ok (.iconst 0, 1) := by decide +kernel
theorem dX7_meanUptime_7 : decode cX7_meanUptime 7 = .ok (.bipush 16, 2) := by decide +kernel
theorem dX7_meanUptime_9 : decode cX7_meanUptime 9 = .ok (.invokestatic 75, 3) := by decide +kernel
theorem dX7_meanUptime_12 : decode cX7_meanUptime 12 = .ok (.ifCond .ne 10, 3) := by decide +kernel
theorem dX7_meanUptime_15 : decode cX7_meanUptime 15 = .ok (.aload_n 0, 1) := by decide +kernel
theorem dX7_meanUptime_16 : decode cX7_meanUptime 16 = .ok (.iconst 1, 1) := by decide +kernel
theorem dX7_meanUptime_17 : decode cX7_meanUptime 17 = .ok (.invokevirtual 86, 3) := by decide +kernel
theorem dX7_meanUptime_20 : decode cX7_meanUptime 20 = .ok (.i2d, 1) := by decide +kernel
theorem dX7_meanUptime_21 : decode cX7_meanUptime 21 = .ok (.dreturn, 1) := by decide +kernel
theorem dX7_meanUptime_22 : decode cX7_meanUptime 22 = .ok (.iconst 0, 1) := by decide +kernel
theorem dX7_meanUptime_23 : decode cX7_meanUptime 23 = .ok (.istore_n 2, 1) := by decide +kernel
theorem dX7_meanUptime_24 : decode cX7_meanUptime 24 = .ok (.iconst 0, 1) := by decide +kernel
theorem dX7_meanUptime_25 : decode cX7_meanUptime 25 = .ok (.istore_n 3, 1) := by decide +kernel
theorem dX7_meanUptime_26 : decode cX7_meanUptime 26 = .ok (.iconst 0, 1) := by decide +kernel
theorem dX7_meanUptime_27 : decode cX7_meanUptime 27 = .ok (.istore 4, 2) := by decide +kernel
theorem dX7_meanUptime_29 : decode cX7_meanUptime 29 = .ok (.iload 4, 2) := by decide +kernel
theorem dX7_meanUptime_31 : decode cX7_meanUptime 31 = .ok (.aload_n 0, 1) := by decide +kernel
theorem dX7_meanUptime_32 : decode cX7_meanUptime 32 = .ok (.getfield 72, 3) := by decide +kernel
theorem dX7_meanUptime_35 : decode cX7_meanUptime 35 = .ok (.if_icmp .ge 35, 3) := by decide +kernel
theorem dX7_meanUptime_38 : decode cX7_meanUptime 38 = .ok (.aload_n 0, 1) := by decide +kernel
theorem dX7_meanUptime_39 : decode cX7_meanUptime 39 = .ok (.iload 4, 2) := by decide +kernel
theorem dX7_meanUptime_41 : decode cX7_meanUptime 41 = .ok (.iload_n 1, 1) := by decide +kernel
theorem dX7_meanUptime_42 : decode cX7_meanUptime 42 = .ok (.invokevirtual 186, 3) := by decide +kernel
theorem dX7_meanUptime_45 : decode cX7_meanUptime 45 = .ok (.ifCond .ne 6, 3) := by decide +kernel
theorem dX7_meanUptime_48 : decode cX7_meanUptime 48 = .ok (.goto 16, 3) := by decide +kernel
theorem dX7_meanUptime_51 : decode cX7_meanUptime 51 = .ok (.iinc 2 1, 3) := by decide +kernel
theorem dX7_meanUptime_54 : decode cX7_meanUptime 54 = .ok (.iload_n 3, 1) := by decide +kernel
theorem dX7_meanUptime_55 : decode cX7_meanUptime 55 = .ok (.aload_n 0, 1) := by decide +kernel
theorem dX7_meanUptime_56 : decode cX7_meanUptime 56 = .ok (.iload 4, 2) := by decide +kernel
theorem dX7_meanUptime_58 : decode cX7_meanUptime 58 = .ok (.iload_n 1, 1) := by decide +kernel
theorem dX7_meanUptime_59 : decode cX7_meanUptime 59 = .ok (.invokevirtual 192, 3) := by decide +kernel
theorem dX7_meanUptime_62 : decode cX7_meanUptime 62 = .ok (.iadd, 1) := by decide +kernel
theorem dX7_meanUptime_63 : decode cX7_meanUptime 63 = .ok (.istore_n 3, 1) := by decide +kernel
theorem dX7_meanUptime_64 : decode cX7_meanUptime 64 = .ok (.iinc 4 1, 3) := by decide +kernel
theorem dX7_meanUptime_67 : decode cX7_meanUptime 67 = .ok (.goto (-38), 3) := by decide +kernel
theorem dX7_meanUptime_70 : decode cX7_meanUptime 70 = .ok (.iload_n 2, 1) := by decide +kernel
theorem dX7_meanUptime_71 : decode cX7_meanUptime 71 = .ok (.ifCond .ne 12, 3) := by decide +kernel
theorem dX7_meanUptime_74 : decode cX7_meanUptime 74 = .ok (.aload_n 0, 1) := by decide +kernel
theorem dX7_meanUptime_75 : decode cX7_meanUptime 75 = .ok (.iconst 2, 1) := by decide +kernel
theorem dX7_meanUptime_76 : decode cX7_meanUptime 76 = .ok (.invokevirtual 86, 3) := by decide +kernel
theorem dX7_meanUptime_79 : decode cX7_meanUptime 79 = .ok (.i2d, 1) := by decide +kernel
theorem dX7_meanUptime_80 : decode cX7_meanUptime 80 = .ok (.goto 8, 3) := by decide +kernel
theorem dX7_meanUptime_83 : decode cX7_meanUptime 83 = .ok (.iload_n 3, 1) := by decide +kernel
theorem dX7_meanUptime_84 : decode cX7_meanUptime 84 = .ok (.i2d, 1) := by decide +kernel
theorem dX7_meanUptime_85 : decode cX7_meanUptime 85 = .ok (.iload_n 2, 1) := by decide +kernel
theorem dX7_meanUptime_86 : decode cX7_meanUptime 86 = .ok (.i2d, 1) := by decide +kernel
theorem dX7_meanUptime_87 : decode cX7_meanUptime 87 = .ok (.ddiv, 1) := by decide +kernel
theorem dX7_meanUptime_88 : decode cX7_meanUptime 88 = .ok (.dreturn, 1) := by decide +kernel
theorem dJx00060_init_a7421_0 : decode cJx00060_init_a7421 0 = .ok (.aload_n 0, 1) := by decide +kernel
theorem dJx00060_init_a7421_1 : decode cJx00060_init_a7421 1 = .ok (.aload_n 1, 1) := by decide +kernel
theorem dJx00060_init_a7421_2 : decode cJx00060_init_a7421 2 = .ok (.invokespecial 7, 3) := by decide +kernel
theorem dJx00060_init_a7421_5 : decode cJx00060_init_a7421 5 = .ok (.return_, 1) := by decide +kernel
theorem dJ6_bitCount_0f7a4_0 : decode cJ6_bitCount_0f7a4 0 = .ok (.iload_n 0, 1) := by decide +kernel
theorem dJ6_bitCount_0f7a4_1 : decode cJ6_bitCount_0f7a4 1 = .ok (.iload_n 0, 1) := by decide +kernel
theorem dJ6_bitCount_0f7a4_2 : decode cJ6_bitCount_0f7a4 2 = .ok (.iconst 1, 1) := by decide +kernel
theorem dJ6_bitCount_0f7a4_3 : decode cJ6_bitCount_0f7a4 3 = .ok (.iushr, 1) := by decide +kernel
theorem dJ6_bitCount_0f7a4_4 : decode cJ6_bitCount_0f7a4 4 = .ok (.ldc_w 265, 3) := by decide +kernel
theorem dJ6_bitCount_0f7a4_7 : decode cJ6_bitCount_0f7a4 7 = .ok (.iand, 1) := by decide +kernel
theorem dJ6_bitCount_0f7a4_8 : decode cJ6_bitCount_0f7a4 8 = .ok (.isub, 1) := by decide +kernel
theorem dJ6_bitCount_0f7a4_9 : decode cJ6_bitCount_0f7a4 9 = .ok (.istore_n 0, 1) := by decide +kernel
theorem dJ6_bitCount_0f7a4_10 : decode cJ6_bitCount_0f7a4 10 = .ok (.iload_n 0, 1) := by decide +kernel
theorem dJ6_bitCount_0f7a4_11 : decode cJ6_bitCount_0f7a4 11 = .ok (.ldc_w 266, 3) := by decide +kernel
theorem dJ6_bitCount_0f7a4_14 : decode cJ6_bitCount_0f7a4 14 = .ok (.iand, 1) := by decide +kernel
theorem dJ6_bitCount_0f7a4_15 : decode cJ6_bitCount_0f7a4 15 = .ok (.iload_n 0, 1) := by decide +kernel
theorem dJ6_bitCount_0f7a4_16 : decode cJ6_bitCount_0f7a4 16 = .ok (.iconst 2, 1) := by decide +kernel
theorem dJ6_bitCount_0f7a4_17 : decode cJ6_bitCount_0f7a4 17 = .ok (.iushr, 1) := by decide +kernel
theorem dJ6_bitCount_0f7a4_18 : decode cJ6_bitCount_0f7a4 18 = .ok (.ldc_w 266, 3) := by decide +kernel
theorem dJ6_bitCount_0f7a4_21 : decode cJ6_bitCount_0f7a4 21 = .ok (.iand, 1) := by decide +kernel
theorem dJ6_bitCount_0f7a4_22 : decode cJ6_bitCount_0f7a4 22 = .ok (.iadd, 1) := by decide +kernel
theorem dJ6_bitCount_0f7a4_23 : decode cJ6_bitCount_0f7a4 23 = .ok (.istore_n 0, 1) := by decide +kernel
theorem dJ6_bitCount_0f7a4_24 : decode cJ6_bitCount_0f7a4 24 = .ok (.iload_n 0, 1) := by decide +kernel
theorem dJ6_bitCount_0f7a4_25 : decode cJ6_bitCount_0f7a4 25 = .ok (.iload_n 0, 1) := by decide +kernel
theorem dJ6_bitCount_0f7a4_26 : decode cJ6_bitCount_0f7a4 26 = .ok (.iconst 4, 1) := by decide +kernel
theorem dJ6_bitCount_0f7a4_27 : decode cJ6_bitCount_0f7a4 27 = .ok (.iushr, 1) := by decide +kernel
theorem dJ6_bitCount_0f7a4_28 : decode cJ6_bitCount_0f7a4 28 = .ok (.iadd, 1) := by decide +kernel
theorem dJ6_bitCount_0f7a4_29 : decode cJ6_bitCount_0f7a4 29 = .ok (.ldc_w 267, 3) := by decide +kernel
theorem dJ6_bitCount_0f7a4_32 : decode cJ6_bitCount_0f7a4 32 = .ok (.iand, 1) := by decide +kernel
theorem dJ6_bitCount_0f7a4_33 : decode cJ6_bitCount_0f7a4 33 = .ok (.istore_n 0, 1) := by decide +kernel
theorem dJ6_bitCount_0f7a4_34 : decode cJ6_bitCount_0f7a4 34 = .ok (.iload_n 0, 1) := by decide +kernel
theorem dJ6_bitCount_0f7a4_35 : decode cJ6_bitCount_0f7a4 35 = .ok (.iload_n 0, 1) := by decide +kernel
theorem dJ6_bitCount_0f7a4_36 : decode cJ6_bitCount_0f7a4 36 = .ok (.bipush 8, 2) := by decide +kernel
theorem dJ6_bitCount_0f7a4_38 : decode cJ6_bitCount_0f7a4 38 = .ok (.iushr, 1) := by decide +kernel
theorem dJ6_bitCount_0f7a4_39 : decode cJ6_bitCount_0f7a4 39 = .ok (.iadd, 1) := by decide +kernel
theorem dJ6_bitCount_0f7a4_40 : decode cJ6_bitCount_0f7a4 40 = .ok (.istore_n 0, 1) := by decide +kernel
theorem dJ6_bitCount_0f7a4_41 : decode cJ6_bitCount_0f7a4 41 = .ok (.iload_n 0, 1) := by decide +kernel
theorem dJ6_bitCount_0f7a4_42 : decode cJ6_bitCount_0f7a4 42 = .ok (.iload_n 0, 1) := by decide +kernel
theorem dJ6_bitCount_0f7a4_43 : decode cJ6_bitCount_0f7a4 43 = .ok (.bipush 16, 2) := by decide +kernel
theorem dJ6_bitCount_0f7a4_45 : decode cJ6_bitCount_0f7a4 45 = .ok (.iushr, 1) := by decide +kernel
theorem dJ6_bitCount_0f7a4_46 : decode cJ6_bitCount_0f7a4 46 = .ok (.iadd, 1) := by decide +kernel
theorem dJ6_bitCount_0f7a4_47 : decode cJ6_bitCount_0f7a4 47 = .ok (.istore_n 0, 1) := by decide +kernel
theorem dJ6_bitCount_0f7a4_48 : decode cJ6_bitCount_0f7a4 48 = .ok (.iload_n 0, 1) := by decide +kernel
theorem dJ6_bitCount_0f7a4_49 : decode cJ6_bitCount_0f7a4 49 = .ok (.bipush 63, 2) := by decide +kernel
theorem dJ6_bitCount_0f7a4_51 : decode cJ6_bitCount_0f7a4 51 = .ok (.iand, 1) := by decide +kernel
theorem dJ6_bitCount_0f7a4_52 : decode cJ6_bitCount_0f7a4 52 = .ok (.ireturn, 1) := by decide +kernel
theorem dJ9_max_7cf53_0 : decode cJ9_max_7cf53 0 = .ok (.iload_n 0, 1) := by decide +kernel
theorem dJ9_max_7cf53_1 : decode cJ9_max_7cf53 1 = .ok (.iload_n 1, 1) := by decide +kernel
theorem dJ9_max_7cf53_2 : decode cJ9_max_7cf53 2 = .ok (.if_icmp .lt 7, 3) := by decide +kernel
theorem dJ9_max_7cf53_5 : decode cJ9_max_7cf53 5 = .ok (.iload_n 0, 1) := by decide +kernel
theorem dJ9_max_7cf53_6 : decode cJ9_max_7cf53 6 = .ok (.goto 4, 3) := by decide +kernel
theorem dJ9_max_7cf53_9 : decode cJ9_max_7cf53 9 = .ok (.iload_n 1, 1) := by decide +kernel
theorem dJ9_max_7cf53_10 : decode cJ9_max_7cf53 10 = .ok (.ireturn, 1) := by decide +kernel
theorem dJ9_min_7cf53_0 : decode cJ9_min_7cf53 0 = .ok (.iload_n 0, 1) := by decide +kernel
theorem dJ9_min_7cf53_1 : decode cJ9_min_7cf53 1 = .ok (.iload_n 1, 1) := by decide +kernel
theorem dJ9_min_7cf53_2 : decode cJ9_min_7cf53 2 = .ok (.if_icmp .gt 7, 3) := by decide +kernel
theorem dJ9_min_7cf53_5 : decode cJ9_min_7cf53 5 = .ok (.iload_n 0, 1) := by decide +kernel
theorem dJ9_min_7cf53_6 : decode cJ9_min_7cf53 6 = .ok (.goto 4, 3) := by decide +kernel
theorem dJ9_min_7cf53_9 : decode cJ9_min_7cf53 9 = .ok (.iload_n 1, 1) := by decide +kernel
theorem dJ9_min_7cf53_10 : decode cJ9_min_7cf53 10 = .ok (.ireturn, 1) := by decide +kernel
theorem dJ7_fill_53178_0 : decode cJ7_fill_53178 0 = .ok (.iconst 0, 1) := by decide +kernel
theorem dJ7_fill_53178_1 : decode cJ7_fill_53178 1 = .ok (.istore_n 2, 1) := by decide +kernel
theorem dJ7_fill_53178_2 : decode cJ7_fill_53178 2 = .ok (.aload_n 0, 1) := by decide +kernel
theorem dJ7_fill_53178_3 : decode cJ7_fill_53178 3 = .ok (.arraylength, 1) := by decide +kernel
theorem dJ7_fill_53178_4 : decode cJ7_fill_53178 4 = .ok (.istore_n 3, 1) := by decide +kernel
theorem dJ7_fill_53178_5 : decode cJ7_fill_53178 5 = .ok (.iload_n 2, 1) := by decide +kernel
theorem dJ7_fill_53178_6 : decode cJ7_fill_53178 6 = .ok (.iload_n 3, 1) := by decide +kernel
theorem dJ7_fill_53178_7 : decode cJ7_fill_53178 7 = .ok (.if_icmp .ge 13, 3) := by decide +kernel
theorem dJ7_fill_53178_10 : decode cJ7_fill_53178 10 = .ok (.aload_n 0, 1) := by decide +kernel
theorem dJ7_fill_53178_11 : decode cJ7_fill_53178 11 = .ok (.iload_n 2, 1) := by decide +kernel
theorem dJ7_fill_53178_12 : decode cJ7_fill_53178 12 = .ok (.iload_n 1, 1) := by decide +kernel
theorem dJ7_fill_53178_13 : decode cJ7_fill_53178 13 = .ok (.iastore, 1) := by decide +kernel
theorem dJ7_fill_53178_14 : decode cJ7_fill_53178 14 = .ok (.iinc 2 1, 3) := by decide +kernel
theorem dJ7_fill_53178_17 : decode cJ7_fill_53178 17 = .ok (.goto (-12), 3) := by decide +kernel
theorem dJ7_fill_53178_20 : decode cJ7_fill_53178 20 = .ok (.return_, 1) := by decide +kernel
theorem dJ7_copyOf_59c91_0 : decode cJ7_copyOf_59c91 0 = .ok (.iload_n 1, 1) := by decide +kernel
theorem dJ7_copyOf_59c91_1 : decode cJ7_copyOf_59c91 1 = .ok (.aload_n 0, 1) := by decide +kernel
theorem dJ7_copyOf_59c91_2 : decode cJ7_copyOf_59c91 2 = .ok (.arraylength, 1) := by decide +kernel
theorem dJ7_copyOf_59c91_3 : decode cJ7_copyOf_59c91 3 = .ok (.if_icmp .ne 11, 3) := by decide +kernel
theorem dJ7_copyOf_59c91_6 : decode cJ7_copyOf_59c91 6 = .ok (.aload_n 0, 1) := by decide +kernel
theorem dJ7_copyOf_59c91_7 : decode cJ7_copyOf_59c91 7 = .ok (.invokevirtual 316, 3) := by decide +kernel
theorem dJ7_copyOf_59c91_10 : decode cJ7_copyOf_59c91 10 = .ok (.checkcast 317, 3) := by decide +kernel
theorem dJ7_copyOf_59c91_13 : decode cJ7_copyOf_59c91 13 = .ok (.areturn, 1) := by decide +kernel
theorem dJ7_copyOf_59c91_14 : decode cJ7_copyOf_59c91 14 = .ok (.iload_n 1, 1) := by decide +kernel
theorem dJ7_copyOf_59c91_15 : decode cJ7_copyOf_59c91 15 = .ok (.newarray .int, 2) := by decide +kernel
theorem dJ7_copyOf_59c91_17 : decode cJ7_copyOf_59c91 17 = .ok (.astore_n 2, 1) := by decide +kernel
theorem dJ7_copyOf_59c91_18 : decode cJ7_copyOf_59c91 18 = .ok (.aload_n 0, 1) := by decide +kernel
theorem dJ7_copyOf_59c91_19 : decode cJ7_copyOf_59c91 19 = .ok (.iconst 0, 1) := by decide +kernel
theorem dJ7_copyOf_59c91_20 : decode cJ7_copyOf_59c91 20 = .ok (.aload_n 2, 1) := by decide +kernel
theorem dJ7_copyOf_59c91_21 : decode cJ7_copyOf_59c91 21 = .ok (.iconst 0, 1) := by decide +kernel
theorem dJ7_copyOf_59c91_22 : decode cJ7_copyOf_59c91 22 = .ok (.aload_n 0, 1) := by decide +kernel
theorem dJ7_copyOf_59c91_23 : decode cJ7_copyOf_59c91 23 = .ok (.arraylength, 1) := by decide +kernel
theorem dJ7_copyOf_59c91_24 : decode cJ7_copyOf_59c91 24 = .ok (.iload_n 1, 1) := by decide +kernel
theorem dJ7_copyOf_59c91_25 : decode cJ7_copyOf_59c91 25 = .ok (.invokestatic 304, 3) := by decide +kernel
theorem dJ7_copyOf_59c91_28 : decode cJ7_copyOf_59c91 28 = .ok (.invokestatic 150, 3) := by decide +kernel
theorem dJ7_copyOf_59c91_31 : decode cJ7_copyOf_59c91 31 = .ok (.aload_n 2, 1) := by decide +kernel
theorem dJ7_copyOf_59c91_32 : decode cJ7_copyOf_59c91 32 = .ok (.areturn, 1) := by decide +kernel
theorem dL_addComponent_0 : decode cL_addComponent 0 = .ok (.aload 4, 2) := by decide +kernel
theorem dL_addComponent_2 : decode cL_addComponent 2 = .ok (.iconst 0, 1) := by decide +kernel
theorem dL_addComponent_3 : decode cL_addComponent 3 = .ok (.aload_n 0, 1) := by decide +kernel
theorem dL_addComponent_4 : decode cL_addComponent 4 = .ok (.iload_n 1, 1) := by decide +kernel
theorem dL_addComponent_5 : decode cL_addComponent 5 = .ok (.iload_n 2, 1) := by decide +kernel
theorem dL_addComponent_6 : decode cL_addComponent 6 = .ok (.iload_n 3, 1) := by decide +kernel
theorem dL_addComponent_7 : decode cL_addComponent 7 = .ok (.invokevirtual 7, 3) := by decide +kernel
theorem dL_addComponent_10 : decode cL_addComponent 10 = .ok (.i2l, 1) := by decide +kernel
theorem dL_addComponent_11 : decode cL_addComponent 11 = .ok (.lastore, 1) := by decide +kernel
theorem dL_addComponent_12 : decode cL_addComponent 12 = .ok (.goto 19, 3) := by decide +kernel
theorem dL_addComponent_15 : decode cL_addComponent 15 = .ok (.astore 5, 2) := by decide +kernel
theorem dL_addComponent_17 : decode cL_addComponent 17 = .ok (.iconst 1, 1) := by decide +kernel
theorem dL_addComponent_18 : decode cL_addComponent 18 = .ok (.ireturn, 1) := by decide +kernel
theorem dL_addComponent_19 : decode cL_addComponent 19 = .ok (.astore 5, 2) := by decide +kernel
theorem dL_addComponent_21 : decode cL_addComponent 21 = .ok (.iconst 2, 1) := by decide +kernel
theorem dL_addComponent_22 : decode cL_addComponent 22 = .ok (.ireturn, 1) := by decide +kernel
theorem dL_addComponent_23 : decode cL_addComponent 23 = .ok (.astore 5, 2) := by decide +kernel
theorem dL_addComponent_25 : decode cL_addComponent 25 = .ok (.iconst 3, 1) := by decide +kernel
theorem dL_addComponent_26 : decode cL_addComponent 26 = .ok (.ireturn, 1) := by decide +kernel
theorem dL_addComponent_27 : decode cL_addComponent 27 = .ok (.astore 5, 2) := by decide +kernel
theorem dL_addComponent_29 : decode cL_addComponent 29 = .ok (.iconst 4, 1) := by decide +kernel
theorem dL_addComponent_30 : decode cL_addComponent 30 = .ok (.ireturn, 1) := by decide +kernel
theorem dL_addComponent_31 : decode cL_addComponent 31 = .ok (.iconst 0, 1) := by decide +kernel
theorem dL_addComponent_32 : decode cL_addComponent 32 = .ok (.ireturn, 1) := by decide +kernel
theorem dL_setWeight_0 : decode cL_setWeight 0 = .ok (.aload_n 3, 1) := by decide +kernel
theorem dL_setWeight_1 : decode cL_setWeight 1 = .ok (.iconst 0, 1) := by decide +kernel
theorem dL_setWeight_2 : decode cL_setWeight 2 = .ok (.aload_n 0, 1) := by decide +kernel
theorem dL_setWeight_3 : decode cL_setWeight 3 = .ok (.iload_n 1, 1) := by decide +kernel
theorem dL_setWeight_4 : decode cL_setWeight 4 = .ok (.iload_n 2, 1) := by decide +kernel
theorem dL_setWeight_5 : decode cL_setWeight 5 = .ok (.invokevirtual 21, 3) := by decide +kernel
theorem dL_setWeight_8 : decode cL_setWeight 8 = .ok (.i2l, 1) := by decide +kernel
theorem dL_setWeight_9 : decode cL_setWeight 9 = .ok (.lastore, 1) := by decide +kernel
theorem dL_setWeight_10 : decode cL_setWeight 10 = .ok (.goto 11, 3) := by decide +kernel
theorem dL_setWeight_13 : decode cL_setWeight 13 = .ok (.astore 4, 2) := by decide +kernel
theorem dL_setWeight_15 : decode cL_setWeight 15 = .ok (.iconst 1, 1) := by decide +kernel
theorem dL_setWeight_16 : decode cL_setWeight 16 = .ok (.ireturn, 1) := by decide +kernel
theorem dL_setWeight_17 : decode cL_setWeight 17 = .ok (.astore 4, 2) := by decide +kernel
theorem dL_setWeight_19 : decode cL_setWeight 19 = .ok (.iconst 2, 1) := by decide +kernel
theorem dL_setWeight_20 : decode cL_setWeight 20 = .ok (.ireturn, 1) := by decide +kernel
theorem dL_setWeight_21 : decode cL_setWeight 21 = .ok (.iconst 0, 1) := by decide +kernel
theorem dL_setWeight_22 : decode cL_setWeight 22 = .ok (.ireturn, 1) := by decide +kernel
theorem dL_addPerson_0 : decode cL_addPerson 0 = .ok (.aload_n 2, 1) := by decide +kernel
theorem dL_addPerson_1 : decode cL_addPerson 1 = .ok (.iconst 0, 1) := by decide +kernel
theorem dL_addPerson_2 : decode cL_addPerson 2 = .ok (.aload_n 0, 1) := by decide +kernel
theorem dL_addPerson_3 : decode cL_addPerson 3 = .ok (.iload_n 1, 1) := by decide +kernel
theorem dL_addPerson_4 : decode cL_addPerson 4 = .ok (.invokevirtual 25, 3) := by decide +kernel
theorem dL_addPerson_7 : decode cL_addPerson 7 = .ok (.i2l, 1) := by decide +kernel
theorem dL_addPerson_8 : decode cL_addPerson 8 = .ok (.lastore, 1) := by decide +kernel
theorem dL_addPerson_9 : decode cL_addPerson 9 = .ok (.goto 9, 3) := by decide +kernel
theorem dL_addPerson_12 : decode cL_addPerson 12 = .ok (.astore_n 3, 1) := by decide +kernel
theorem dL_addPerson_13 : decode cL_addPerson 13 = .ok (.iconst 1, 1) := by decide +kernel
theorem dL_addPerson_14 : decode cL_addPerson 14 = .ok (.ireturn, 1) := by decide +kernel
theorem dL_addPerson_15 : decode cL_addPerson 15 = .ok (.astore_n 3, 1) := by decide +kernel
theorem dL_addPerson_16 : decode cL_addPerson 16 = .ok (.iconst 2, 1) := by decide +kernel
theorem dL_addPerson_17 : decode cL_addPerson 17 = .ok (.ireturn, 1) := by decide +kernel
theorem dL_addPerson_18 : decode cL_addPerson 18 = .ok (.iconst 0, 1) := by decide +kernel
theorem dL_addPerson_19 : decode cL_addPerson 19 = .ok (.ireturn, 1) := by decide +kernel
theorem dL_subscribe_0 : decode cL_subscribe 0 = .ok (.aload_n 3, 1) := by decide +kernel
theorem dL_subscribe_1 : decode cL_subscribe 1 = .ok (.iconst 0, 1) := by decide +kernel
theorem dL_subscribe_2 : decode cL_subscribe 2 = .ok (.aload_n 0, 1) := by decide +kernel
theorem dL_subscribe_3 : decode cL_subscribe 3 = .ok (.iload_n 1, 1) := by decide +kernel
theorem dL_subscribe_4 : decode cL_subscribe 4 = .ok (.iload_n 2, 1) := by decide +kernel
theorem dL_subscribe_5 : decode cL_subscribe 5 = .ok (.invokevirtual 29, 3) := by decide +kernel
theorem dL_subscribe_8 : decode cL_subscribe 8 = .ok (.i2l, 1) := by decide +kernel
theorem dL_subscribe_9 : decode cL_subscribe 9 = .ok (.lastore, 1) := by decide +kernel
theorem dL_subscribe_10 : decode cL_subscribe 10 = .ok (.goto 11, 3) := by decide +kernel
theorem dL_subscribe_13 : decode cL_subscribe 13 = .ok (.astore 4, 2) := by decide +kernel
theorem dL_subscribe_15 : decode cL_subscribe 15 = .ok (.iconst 1, 1) := by decide +kernel
theorem dL_subscribe_16 : decode cL_subscribe 16 = .ok (.ireturn, 1) := by decide +kernel
theorem dL_subscribe_17 : decode cL_subscribe 17 = .ok (.astore 4, 2) := by decide +kernel
theorem dL_subscribe_19 : decode cL_subscribe 19 = .ok (.iconst 2, 1) := by decide +kernel
theorem dL_subscribe_20 : decode cL_subscribe 20 = .ok (.ireturn, 1) := by decide +kernel
theorem dL_subscribe_21 : decode cL_subscribe 21 = .ok (.iconst 0, 1) := by decide +kernel
theorem dL_subscribe_22 : decode cL_subscribe 22 = .ok (.ireturn, 1) := by decide +kernel
theorem dL_unsubscribe_0 : decode cL_unsubscribe 0 = .ok (.aload_n 3, 1) := by decide +kernel
theorem dL_unsubscribe_1 : decode cL_unsubscribe 1 = .ok (.iconst 0, 1) := by decide +kernel
theorem dL_unsubscribe_2 : decode cL_unsubscribe 2 = .ok (.aload_n 0, 1) := by decide +kernel
theorem dL_unsubscribe_3 : decode cL_unsubscribe 3 = .ok (.iload_n 1, 1) := by decide +kernel
theorem dL_unsubscribe_4 : decode cL_unsubscribe 4 = .ok (.iload_n 2, 1) := by decide +kernel
theorem dL_unsubscribe_5 : decode cL_unsubscribe 5 = .ok (.invokevirtual 32, 3) := by decide +kernel
theorem dL_unsubscribe_8 : decode cL_unsubscribe 8 = .ok (.i2l, 1) := by decide +kernel
theorem dL_unsubscribe_9 : decode cL_unsubscribe 9 = .ok (.lastore, 1) := by decide +kernel
theorem dL_unsubscribe_10 : decode cL_unsubscribe 10 = .ok (.goto 11, 3) := by decide +kernel
theorem dL_unsubscribe_13 : decode cL_unsubscribe 13 = .ok (.astore 4, 2) := by decide +kernel
theorem dL_unsubscribe_15 : decode cL_unsubscribe 15 = .ok (.iconst 1, 1) := by decide +kernel
theorem dL_unsubscribe_16 : decode cL_unsubscribe 16 = .ok (.ireturn, 1) := by decide +kernel
theorem dL_unsubscribe_17 : decode cL_unsubscribe 17 = .ok (.astore 4, 2) := by decide +kernel
theorem dL_unsubscribe_19 : decode cL_unsubscribe 19 = .ok (.iconst 2, 1) := by decide +kernel
theorem dL_unsubscribe_20 : decode cL_unsubscribe 20 = .ok (.ireturn, 1) := by decide +kernel
theorem dL_unsubscribe_21 : decode cL_unsubscribe 21 = .ok (.iconst 0, 1) := by decide +kernel
theorem dL_unsubscribe_22 : decode cL_unsubscribe 22 = .ok (.ireturn, 1) := by decide +kernel
theorem dL_report_0 : decode cL_report 0 = .ok (.aload 4, 2) := by decide +kernel
theorem dL_report_2 : decode cL_report 2 = .ok (.iconst 0, 1) := by decide +kernel
theorem dL_report_3 : decode cL_report 3 = .ok (.aload_n 0, 1) := by decide +kernel
theorem dL_report_4 : decode cL_report 4 = .ok (.iload_n 1, 1) := by decide +kernel
theorem dL_report_5 : decode cL_report 5 = .ok (.iload_n 2, 1) := by decide +kernel
theorem dL_report_6 : decode cL_report 6 = .ok (.iload_n 3, 1) := by decide +kernel
theorem dL_report_7 : decode cL_report 7 = .ok (.invokevirtual 35, 3) := by decide +kernel
theorem dL_report_10 : decode cL_report 10 = .ok (.i2l, 1) := by decide +kernel
theorem dL_report_11 : decode cL_report 11 = .ok (.lastore, 1) := by decide +kernel
theorem dL_report_12 : decode cL_report 12 = .ok (.goto 19, 3) := by decide +kernel
theorem dL_report_15 : decode cL_report 15 = .ok (.astore 5, 2) := by decide +kernel
theorem dL_report_17 : decode cL_report 17 = .ok (.iconst 1, 1) := by decide +kernel
theorem dL_report_18 : decode cL_report 18 = .ok (.ireturn, 1) := by decide +kernel
theorem dL_report_19 : decode cL_report 19 = .ok (.astore 5, 2) := by decide +kernel
theorem dL_report_21 : decode cL_report 21 = .ok (.iconst 2, 1) := by decide +kernel
theorem dL_report_22 : decode cL_report 22 = .ok (.ireturn, 1) := by decide +kernel
theorem dL_report_23 : decode cL_report 23 = .ok (.astore 5, 2) := by decide +kernel
theorem dL_report_25 : decode cL_report 25 = .ok (.iconst 3, 1) := by decide +kernel
theorem dL_report_26 : decode cL_report 26 = .ok (.ireturn, 1) := by decide +kernel
theorem dL_report_27 : decode cL_report 27 = .ok (.astore 5, 2) := by decide +kernel
theorem dL_report_29 : decode cL_report 29 = .ok (.iconst 4, 1) := by decide +kernel
theorem dL_report_30 : decode cL_report 30 = .ok (.ireturn, 1) := by decide +kernel
theorem dL_report_31 : decode cL_report 31 = .ok (.iconst 0, 1) := by decide +kernel
theorem dL_report_32 : decode cL_report 32 = .ok (.ireturn, 1) := by decide +kernel
theorem dL_resolve_0 : decode cL_resolve 0 = .ok (.aload_n 3, 1) := by decide +kernel
theorem dL_resolve_1 : decode cL_resolve 1 = .ok (.iconst 0, 1) := by decide +kernel
theorem dL_resolve_2 : decode cL_resolve 2 = .ok (.aload_n 0, 1) := by decide +kernel
theorem dL_resolve_3 : decode cL_resolve 3 = .ok (.iload_n 1, 1) := by decide +kernel
theorem dL_resolve_4 : decode cL_resolve 4 = .ok (.iload_n 2, 1) := by decide +kernel
theorem dL_resolve_5 : decode cL_resolve 5 = .ok (.invokevirtual 39, 3) := by decide +kernel
theorem dL_resolve_8 : decode cL_resolve 8 = .ok (.i2l, 1) := by decide +kernel
theorem dL_resolve_9 : decode cL_resolve 9 = .ok (.lastore, 1) := by decide +kernel
theorem dL_resolve_10 : decode cL_resolve 10 = .ok (.goto 15, 3) := by decide +kernel
theorem dL_resolve_13 : decode cL_resolve 13 = .ok (.astore 4, 2) := by decide +kernel
theorem dL_resolve_15 : decode cL_resolve 15 = .ok (.iconst 1, 1) := by decide +kernel
theorem dL_resolve_16 : decode cL_resolve 16 = .ok (.ireturn, 1) := by decide +kernel
theorem dL_resolve_17 : decode cL_resolve 17 = .ok (.astore 4, 2) := by decide +kernel
theorem dL_resolve_19 : decode cL_resolve 19 = .ok (.iconst 2, 1) := by decide +kernel
theorem dL_resolve_20 : decode cL_resolve 20 = .ok (.ireturn, 1) := by decide +kernel
theorem dL_resolve_21 : decode cL_resolve 21 = .ok (.astore 4, 2) := by decide +kernel
theorem dL_resolve_23 : decode cL_resolve 23 = .ok (.iconst 3, 1) := by decide +kernel
theorem dL_resolve_24 : decode cL_resolve 24 = .ok (.ireturn, 1) := by decide +kernel
theorem dL_resolve_25 : decode cL_resolve 25 = .ok (.iconst 0, 1) := by decide +kernel
theorem dL_resolve_26 : decode cL_resolve 26 = .ok (.ireturn, 1) := by decide +kernel
theorem dL_correct_0 : decode cL_correct 0 = .ok (.aload 4, 2) := by decide +kernel
theorem dL_correct_2 : decode cL_correct 2 = .ok (.iconst 0, 1) := by decide +kernel
theorem dL_correct_3 : decode cL_correct 3 = .ok (.aload_n 0, 1) := by decide +kernel
theorem dL_correct_4 : decode cL_correct 4 = .ok (.iload_n 1, 1) := by decide +kernel
theorem dL_correct_5 : decode cL_correct 5 = .ok (.iload_n 2, 1) := by decide +kernel
theorem dL_correct_6 : decode cL_correct 6 = .ok (.iload_n 3, 1) := by decide +kernel
theorem dL_correct_7 : decode cL_correct 7 = .ok (.invokevirtual 42, 3) := by decide +kernel
theorem dL_correct_10 : decode cL_correct 10 = .ok (.i2l, 1) := by decide +kernel
theorem dL_correct_11 : decode cL_correct 11 = .ok (.lastore, 1) := by decide +kernel
theorem dL_correct_12 : decode cL_correct 12 = .ok (.goto 11, 3) := by decide +kernel
theorem dL_correct_15 : decode cL_correct 15 = .ok (.astore 5, 2) := by decide +kernel
theorem dL_correct_17 : decode cL_correct 17 = .ok (.iconst 1, 1) := by decide +kernel
theorem dL_correct_18 : decode cL_correct 18 = .ok (.ireturn, 1) := by decide +kernel
theorem dL_correct_19 : decode cL_correct 19 = .ok (.astore 5, 2) := by decide +kernel
theorem dL_correct_21 : decode cL_correct 21 = .ok (.iconst 2, 1) := by decide +kernel
theorem dL_correct_22 : decode cL_correct 22 = .ok (.ireturn, 1) := by decide +kernel
theorem dL_correct_23 : decode cL_correct 23 = .ok (.iconst 0, 1) := by decide +kernel
theorem dL_correct_24 : decode cL_correct 24 = .ok (.ireturn, 1) := by decide +kernel
theorem dL_withdraw_0 : decode cL_withdraw 0 = .ok (.aload_n 2, 1) := by decide +kernel
theorem dL_withdraw_1 : decode cL_withdraw 1 = .ok (.iconst 0, 1) := by decide +kernel
theorem dL_withdraw_2 : decode cL_withdraw 2 = .ok (.aload_n 0, 1) := by decide +kernel
theorem dL_withdraw_3 : decode cL_withdraw 3 = .ok (.iload_n 1, 1) := by decide +kernel
theorem dL_withdraw_4 : decode cL_withdraw 4 = .ok (.invokevirtual 45, 3) := by decide +kernel
theorem dL_withdraw_7 : decode cL_withdraw 7 = .ok (.i2l, 1) := by decide +kernel
theorem dL_withdraw_8 : decode cL_withdraw 8 = .ok (.lastore, 1) := by decide +kernel
theorem dL_withdraw_9 : decode cL_withdraw 9 = .ok (.goto 9, 3) := by decide +kernel
theorem dL_withdraw_12 : decode cL_withdraw 12 = .ok (.astore_n 3, 1) := by decide +kernel
theorem dL_withdraw_13 : decode cL_withdraw 13 = .ok (.iconst 1, 1) := by decide +kernel
theorem dL_withdraw_14 : decode cL_withdraw 14 = .ok (.ireturn, 1) := by decide +kernel
theorem dL_withdraw_15 : decode cL_withdraw 15 = .ok (.astore_n 3, 1) := by decide +kernel
theorem dL_withdraw_16 : decode cL_withdraw 16 = .ok (.iconst 2, 1) := by decide +kernel
theorem dL_withdraw_17 : decode cL_withdraw 17 = .ok (.ireturn, 1) := by decide +kernel
theorem dL_withdraw_18 : decode cL_withdraw 18 = .ok (.iconst 0, 1) := by decide +kernel
theorem dL_withdraw_19 : decode cL_withdraw 19 = .ok (.ireturn, 1) := by decide +kernel
theorem dL_join_0 : decode cL_join 0 = .ok (.aload_n 3, 1) := by decide +kernel
theorem dL_join_1 : decode cL_join 1 = .ok (.iconst 0, 1) := by decide +kernel
theorem dL_join_2 : decode cL_join 2 = .ok (.aload_n 0, 1) := by decide +kernel
theorem dL_join_3 : decode cL_join 3 = .ok (.iload_n 1, 1) := by decide +kernel
theorem dL_join_4 : decode cL_join 4 = .ok (.iload_n 2, 1) := by decide +kernel
theorem dL_join_5 : decode cL_join 5 = .ok (.invokevirtual 48, 3) := by decide +kernel
theorem dL_join_8 : decode cL_join 8 = .ok (.i2l, 1) := by decide +kernel
theorem dL_join_9 : decode cL_join 9 = .ok (.lastore, 1) := by decide +kernel
theorem dL_join_10 : decode cL_join 10 = .ok (.goto 11, 3) := by decide +kernel
theorem dL_join_13 : decode cL_join 13 = .ok (.astore 4, 2) := by decide +kernel
theorem dL_join_15 : decode cL_join 15 = .ok (.iconst 1, 1) := by decide +kernel
theorem dL_join_16 : decode cL_join 16 = .ok (.ireturn, 1) := by decide +kernel
theorem dL_join_17 : decode cL_join 17 = .ok (.astore 4, 2) := by decide +kernel
theorem dL_join_19 : decode cL_join 19 = .ok (.iconst 2, 1) := by decide +kernel
theorem dL_join_20 : decode cL_join 20 = .ok (.ireturn, 1) := by decide +kernel
theorem dL_join_21 : decode cL_join 21 = .ok (.iconst 0, 1) := by decide +kernel
theorem dL_join_22 : decode cL_join 22 = .ok (.ireturn, 1) := by decide +kernel
theorem dL_maintain_0 : decode cL_maintain 0 = .ok (.aload 4, 2) := by decide +kernel
theorem dL_maintain_2 : decode cL_maintain 2 = .ok (.iconst 0, 1) := by decide +kernel
theorem dL_maintain_3 : decode cL_maintain 3 = .ok (.aload_n 0, 1) := by decide +kernel
theorem dL_maintain_4 : decode cL_maintain 4 = .ok (.iload_n 1, 1) := by decide +kernel
theorem dL_maintain_5 : decode cL_maintain 5 = .ok (.iload_n 2, 1) := by decide +kernel
theorem dL_maintain_6 : decode cL_maintain 6 = .ok (.iload_n 3, 1) := by decide +kernel
theorem dL_maintain_7 : decode cL_maintain 7 = .ok (.invokevirtual 51, 3) := by decide +kernel
theorem dL_maintain_10 : decode cL_maintain 10 = .ok (.i2l, 1) := by decide +kernel
theorem dL_maintain_11 : decode cL_maintain 11 = .ok (.lastore, 1) := by decide +kernel
theorem dL_maintain_12 : decode cL_maintain 12 = .ok (.goto 15, 3) := by decide +kernel
theorem dL_maintain_15 : decode cL_maintain 15 = .ok (.astore 5, 2) := by decide +kernel
theorem dL_maintain_17 : decode cL_maintain 17 = .ok (.iconst 1, 1) := by decide +kernel
theorem dL_maintain_18 : decode cL_maintain 18 = .ok (.ireturn, 1) := by decide +kernel
theorem dL_maintain_19 : decode cL_maintain 19 = .ok (.astore 5, 2) := by decide +kernel
theorem dL_maintain_21 : decode cL_maintain 21 = .ok (.iconst 2, 1) := by decide +kernel
theorem dL_maintain_22 : decode cL_maintain 22 = .ok (.ireturn, 1) := by decide +kernel
theorem dL_maintain_23 : decode cL_maintain 23 = .ok (.astore 5, 2) := by decide +kernel
theorem dL_maintain_25 : decode cL_maintain 25 = .ok (.iconst 3, 1) := by decide +kernel
theorem dL_maintain_26 : decode cL_maintain 26 = .ok (.ireturn, 1) := by decide +kernel
theorem dL_maintain_27 : decode cL_maintain 27 = .ok (.iconst 0, 1) := by decide +kernel
theorem dL_maintain_28 : decode cL_maintain 28 = .ok (.ireturn, 1) := by decide +kernel
theorem dL_callOff_0 : decode cL_callOff 0 = .ok (.aload_n 2, 1) := by decide +kernel
theorem dL_callOff_1 : decode cL_callOff 1 = .ok (.iconst 0, 1) := by decide +kernel
theorem dL_callOff_2 : decode cL_callOff 2 = .ok (.aload_n 0, 1) := by decide +kernel
theorem dL_callOff_3 : decode cL_callOff 3 = .ok (.iload_n 1, 1) := by decide +kernel
theorem dL_callOff_4 : decode cL_callOff 4 = .ok (.invokevirtual 54, 3) := by decide +kernel
theorem dL_callOff_7 : decode cL_callOff 7 = .ok (.i2l, 1) := by decide +kernel
theorem dL_callOff_8 : decode cL_callOff 8 = .ok (.lastore, 1) := by decide +kernel
theorem dL_callOff_9 : decode cL_callOff 9 = .ok (.goto 9, 3) := by decide +kernel
theorem dL_callOff_12 : decode cL_callOff 12 = .ok (.astore_n 3, 1) := by decide +kernel
theorem dL_callOff_13 : decode cL_callOff 13 = .ok (.iconst 1, 1) := by decide +kernel
theorem dL_callOff_14 : decode cL_callOff 14 = .ok (.ireturn, 1) := by decide +kernel
theorem dL_callOff_15 : decode cL_callOff 15 = .ok (.astore_n 3, 1) := by decide +kernel
theorem dL_callOff_16 : decode cL_callOff 16 = .ok (.iconst 2, 1) := by decide +kernel
theorem dL_callOff_17 : decode cL_callOff 17 = .ok (.ireturn, 1) := by decide +kernel
theorem dL_callOff_18 : decode cL_callOff 18 = .ok (.iconst 0, 1) := by decide +kernel
theorem dL_callOff_19 : decode cL_callOff 19 = .ok (.ireturn, 1) := by decide +kernel
theorem dL_pass_0 : decode cL_pass 0 = .ok (.aload_n 2, 1) := by decide +kernel
theorem dL_pass_1 : decode cL_pass 1 = .ok (.iconst 0, 1) := by decide +kernel
theorem dL_pass_2 : decode cL_pass 2 = .ok (.aload_n 0, 1) := by decide +kernel
theorem dL_pass_3 : decode cL_pass 3 = .ok (.iload_n 1, 1) := by decide +kernel
theorem dL_pass_4 : decode cL_pass 4 = .ok (.invokevirtual 57, 3) := by decide +kernel
theorem dL_pass_7 : decode cL_pass 7 = .ok (.i2l, 1) := by decide +kernel
theorem dL_pass_8 : decode cL_pass 8 = .ok (.lastore, 1) := by decide +kernel
theorem dL_pass_9 : decode cL_pass 9 = .ok (.goto 9, 3) := by decide +kernel
theorem dL_pass_12 : decode cL_pass 12 = .ok (.astore_n 3, 1) := by decide +kernel
theorem dL_pass_13 : decode cL_pass 13 = .ok (.iconst 1, 1) := by decide +kernel
theorem dL_pass_14 : decode cL_pass 14 = .ok (.ireturn, 1) := by decide +kernel
theorem dL_pass_15 : decode cL_pass 15 = .ok (.astore_n 3, 1) := by decide +kernel
theorem dL_pass_16 : decode cL_pass 16 = .ok (.iconst 2, 1) := by decide +kernel
theorem dL_pass_17 : decode cL_pass 17 = .ok (.ireturn, 1) := by decide +kernel
theorem dL_pass_18 : decode cL_pass 18 = .ok (.iconst 0, 1) := by decide +kernel
theorem dL_pass_19 : decode cL_pass 19 = .ok (.ireturn, 1) := by decide +kernel
theorem dL_isGroup_0 : decode cL_isGroup 0 = .ok (.aload_n 2, 1) := by decide +kernel
theorem dL_isGroup_1 : decode cL_isGroup 1 = .ok (.iconst 0, 1) := by decide +kernel
theorem dL_isGroup_2 : decode cL_isGroup 2 = .ok (.aload_n 0, 1) := by decide +kernel
theorem dL_isGroup_3 : decode cL_isGroup 3 = .ok (.iload_n 1, 1) := by decide +kernel
theorem dL_isGroup_4 : decode cL_isGroup 4 = .ok (.invokevirtual 60, 3) := by decide +kernel
theorem dL_isGroup_7 : decode cL_isGroup 7 = .ok (.ifCond .eq 7, 3) := by decide +kernel
theorem dL_isGroup_10 : decode cL_isGroup 10 = .ok (.lconst 1, 1) := by decide +kernel
theorem dL_isGroup_11 : decode cL_isGroup 11 = .ok (.goto 4, 3) := by decide +kernel
theorem dL_isGroup_14 : decode cL_isGroup 14 = .ok (.lconst 0, 1) := by decide +kernel
theorem dL_isGroup_15 : decode cL_isGroup 15 = .ok (.lastore, 1) := by decide +kernel
theorem dL_isGroup_16 : decode cL_isGroup 16 = .ok (.goto 6, 3) := by decide +kernel
theorem dL_isGroup_19 : decode cL_isGroup 19 = .ok (.astore_n 3, 1) := by decide +kernel
theorem dL_isGroup_20 : decode cL_isGroup 20 = .ok (.iconst 1, 1) := by decide +kernel
theorem dL_isGroup_21 : decode cL_isGroup 21 = .ok (.ireturn, 1) := by decide +kernel
theorem dL_isGroup_22 : decode cL_isGroup 22 = .ok (.iconst 0, 1) := by decide +kernel
theorem dL_isGroup_23 : decode cL_isGroup 23 = .ok (.ireturn, 1) := by decide +kernel
theorem dL_depth_0 : decode cL_depth 0 = .ok (.aload_n 2, 1) := by decide +kernel
theorem dL_depth_1 : decode cL_depth 1 = .ok (.iconst 0, 1) := by decide +kernel
theorem dL_depth_2 : decode cL_depth 2 = .ok (.aload_n 0, 1) := by decide +kernel
theorem dL_depth_3 : decode cL_depth 3 = .ok (.iload_n 1, 1) := by decide +kernel
theorem dL_depth_4 : decode cL_depth 4 = .ok (.invokevirtual 64, 3) := by decide +kernel
theorem dL_depth_7 : decode cL_depth 7 = .ok (.i2l, 1) := by decide +kernel
theorem dL_depth_8 : decode cL_depth 8 = .ok (.lastore, 1) := by decide +kernel
theorem dL_depth_9 : decode cL_depth 9 = .ok (.goto 6, 3) := by decide +kernel
theorem dL_depth_12 : decode cL_depth 12 = .ok (.astore_n 3, 1) := by decide +kernel
theorem dL_depth_13 : decode cL_depth 13 = .ok (.iconst 1, 1) := by decide +kernel
theorem dL_depth_14 : decode cL_depth 14 = .ok (.ireturn, 1) := by decide +kernel
theorem dL_depth_15 : decode cL_depth 15 = .ok (.iconst 0, 1) := by decide +kernel
theorem dL_depth_16 : decode cL_depth 16 = .ok (.ireturn, 1) := by decide +kernel
theorem dL_leaves_0 : decode cL_leaves 0 = .ok (.aload_n 2, 1) := by decide +kernel
theorem dL_leaves_1 : decode cL_leaves 1 = .ok (.iconst 0, 1) := by decide +kernel
theorem dL_leaves_2 : decode cL_leaves 2 = .ok (.aload_n 0, 1) := by decide +kernel
theorem dL_leaves_3 : decode cL_leaves 3 = .ok (.iload_n 1, 1) := by decide +kernel
theorem dL_leaves_4 : decode cL_leaves 4 = .ok (.invokevirtual 67, 3) := by decide +kernel
theorem dL_leaves_7 : decode cL_leaves 7 = .ok (.i2l, 1) := by decide +kernel
theorem dL_leaves_8 : decode cL_leaves 8 = .ok (.lastore, 1) := by decide +kernel
theorem dL_leaves_9 : decode cL_leaves 9 = .ok (.goto 6, 3) := by decide +kernel
theorem dL_leaves_12 : decode cL_leaves 12 = .ok (.astore_n 3, 1) := by decide +kernel
theorem dL_leaves_13 : decode cL_leaves 13 = .ok (.iconst 1, 1) := by decide +kernel
theorem dL_leaves_14 : decode cL_leaves 14 = .ok (.ireturn, 1) := by decide +kernel
theorem dL_leaves_15 : decode cL_leaves 15 = .ok (.iconst 0, 1) := by decide +kernel
theorem dL_leaves_16 : decode cL_leaves 16 = .ok (.ireturn, 1) := by decide +kernel
theorem dL_belowAt_0 : decode cL_belowAt 0 = .ok (.aload_n 3, 1) := by decide +kernel
theorem dL_belowAt_1 : decode cL_belowAt 1 = .ok (.iconst 0, 1) := by decide +kernel
theorem dL_belowAt_2 : decode cL_belowAt 2 = .ok (.aload_n 0, 1) := by decide +kernel
theorem dL_belowAt_3 : decode cL_belowAt 3 = .ok (.iload_n 1, 1) := by decide +kernel
theorem dL_belowAt_4 : decode cL_belowAt 4 = .ok (.iload_n 2, 1) := by decide +kernel
theorem dL_belowAt_5 : decode cL_belowAt 5 = .ok (.invokevirtual 70, 3) := by decide +kernel
theorem dL_belowAt_8 : decode cL_belowAt 8 = .ok (.i2l, 1) := by decide +kernel
theorem dL_belowAt_9 : decode cL_belowAt 9 = .ok (.lastore, 1) := by decide +kernel
theorem dL_belowAt_10 : decode cL_belowAt 10 = .ok (.goto 11, 3) := by decide +kernel
theorem dL_belowAt_13 : decode cL_belowAt 13 = .ok (.astore 4, 2) := by decide +kernel
theorem dL_belowAt_15 : decode cL_belowAt 15 = .ok (.iconst 1, 1) := by decide +kernel
theorem dL_belowAt_16 : decode cL_belowAt 16 = .ok (.ireturn, 1) := by decide +kernel
theorem dL_belowAt_17 : decode cL_belowAt 17 = .ok (.astore 4, 2) := by decide +kernel
theorem dL_belowAt_19 : decode cL_belowAt 19 = .ok (.iconst 2, 1) := by decide +kernel
theorem dL_belowAt_20 : decode cL_belowAt 20 = .ok (.ireturn, 1) := by decide +kernel
theorem dL_belowAt_21 : decode cL_belowAt 21 = .ok (.iconst 0, 1) := by decide +kernel
theorem dL_belowAt_22 : decode cL_belowAt 22 = .ok (.ireturn, 1) := by decide +kernel
theorem dL_pathAt_0 : decode cL_pathAt 0 = .ok (.aload_n 3, 1) := by decide +kernel
theorem dL_pathAt_1 : decode cL_pathAt 1 = .ok (.iconst 0, 1) := by decide +kernel
theorem dL_pathAt_2 : decode cL_pathAt 2 = .ok (.aload_n 0, 1) := by decide +kernel
theorem dL_pathAt_3 : decode cL_pathAt 3 = .ok (.iload_n 1, 1) := by decide +kernel
theorem dL_pathAt_4 : decode cL_pathAt 4 = .ok (.iload_n 2, 1) := by decide +kernel
theorem dL_pathAt_5 : decode cL_pathAt 5 = .ok (.invokevirtual 75, 3) := by decide +kernel
theorem dL_pathAt_8 : decode cL_pathAt 8 = .ok (.i2l, 1) := by decide +kernel
theorem dL_pathAt_9 : decode cL_pathAt 9 = .ok (.lastore, 1) := by decide +kernel
theorem dL_pathAt_10 : decode cL_pathAt 10 = .ok (.goto 11, 3) := by decide +kernel
theorem dL_pathAt_13 : decode cL_pathAt 13 = .ok (.astore 4, 2) := by decide +kernel
theorem dL_pathAt_15 : decode cL_pathAt 15 = .ok (.iconst 1, 1) := by decide +kernel
theorem dL_pathAt_16 : decode cL_pathAt 16 = .ok (.ireturn, 1) := by decide +kernel
theorem dL_pathAt_17 : decode cL_pathAt 17 = .ok (.astore 4, 2) := by decide +kernel
theorem dL_pathAt_19 : decode cL_pathAt 19 = .ok (.iconst 2, 1) := by decide +kernel
theorem dL_pathAt_20 : decode cL_pathAt 20 = .ok (.ireturn, 1) := by decide +kernel
theorem dL_pathAt_21 : decode cL_pathAt 21 = .ok (.iconst 0, 1) := by decide +kernel
theorem dL_pathAt_22 : decode cL_pathAt 22 = .ok (.ireturn, 1) := by decide +kernel
theorem dL_state_0 : decode cL_state 0 = .ok (.aload_n 2, 1) := by decide +kernel
theorem dL_state_1 : decode cL_state 1 = .ok (.iconst 0, 1) := by decide +kernel
theorem dL_state_2 : decode cL_state 2 = .ok (.aload_n 0, 1) := by decide +kernel
theorem dL_state_3 : decode cL_state 3 = .ok (.iload_n 1, 1) := by decide +kernel
theorem dL_state_4 : decode cL_state 4 = .ok (.invokevirtual 78, 3) := by decide +kernel
theorem dL_state_7 : decode cL_state 7 = .ok (.i2l, 1) := by decide +kernel
theorem dL_state_8 : decode cL_state 8 = .ok (.lastore, 1) := by decide +kernel
theorem dL_state_9 : decode cL_state 9 = .ok (.goto 6, 3) := by decide +kernel
theorem dL_state_12 : decode cL_state 12 = .ok (.astore_n 3, 1) := by decide +kernel
theorem dL_state_13 : decode cL_state 13 = .ok (.iconst 1, 1) := by decide +kernel
theorem dL_state_14 : decode cL_state 14 = .ok (.ireturn, 1) := by decide +kernel
theorem dL_state_15 : decode cL_state 15 = .ok (.iconst 0, 1) := by decide +kernel
theorem dL_state_16 : decode cL_state 16 = .ok (.ireturn, 1) := by decide +kernel
theorem dL_stateAt_0 : decode cL_stateAt 0 = .ok (.aload_n 3, 1) := by decide +kernel
theorem dL_stateAt_1 : decode cL_stateAt 1 = .ok (.iconst 0, 1) := by decide +kernel
theorem dL_stateAt_2 : decode cL_stateAt 2 = .ok (.aload_n 0, 1) := by decide +kernel
theorem dL_stateAt_3 : decode cL_stateAt 3 = .ok (.iload_n 1, 1) := by decide +kernel
theorem dL_stateAt_4 : decode cL_stateAt 4 = .ok (.iload_n 2, 1) := by decide +kernel
theorem dL_stateAt_5 : decode cL_stateAt 5 = .ok (.invokevirtual 82, 3) := by decide +kernel
theorem dL_stateAt_8 : decode cL_stateAt 8 = .ok (.i2l, 1) := by decide +kernel
theorem dL_stateAt_9 : decode cL_stateAt 9 = .ok (.lastore, 1) := by decide +kernel
theorem dL_stateAt_10 : decode cL_stateAt 10 = .ok (.goto 11, 3) := by decide +kernel
theorem dL_stateAt_13 : decode cL_stateAt 13 = .ok (.astore 4, 2) := by decide +kernel
theorem dL_stateAt_15 : decode cL_stateAt 15 = .ok (.iconst 1, 1) := by decide +kernel
theorem dL_stateAt_16 : decode cL_stateAt 16 = .ok (.ireturn, 1) := by decide +kernel
theorem dL_stateAt_17 : decode cL_stateAt 17 = .ok (.astore 4, 2) := by decide +kernel
theorem dL_stateAt_19 : decode cL_stateAt 19 = .ok (.iconst 2, 1) := by decide +kernel
theorem dL_stateAt_20 : decode cL_stateAt 20 = .ok (.ireturn, 1) := by decide +kernel
theorem dL_stateAt_21 : decode cL_stateAt 21 = .ok (.iconst 0, 1) := by decide +kernel
theorem dL_stateAt_22 : decode cL_stateAt 22 = .ok (.ireturn, 1) := by decide +kernel
theorem dL_isExcused_0 : decode cL_isExcused 0 = .ok (.aload_n 3, 1) := by decide +kernel
theorem dL_isExcused_1 : decode cL_isExcused 1 = .ok (.iconst 0, 1) := by decide +kernel
theorem dL_isExcused_2 : decode cL_isExcused 2 = .ok (.aload_n 0, 1) := by decide +kernel
theorem dL_isExcused_3 : decode cL_isExcused 3 = .ok (.iload_n 1, 1) := by decide +kernel
theorem dL_isExcused_4 : decode cL_isExcused 4 = .ok (.iload_n 2, 1) := by decide +kernel
theorem dL_isExcused_5 : decode cL_isExcused 5 = .ok (.invokevirtual 86, 3) := by decide +kernel
theorem dL_isExcused_8 : decode cL_isExcused 8 = .ok (.ifCond .eq 7, 3) := by decide +kernel
theorem dL_isExcused_11 : decode cL_isExcused 11 = .ok (.lconst 1, 1) := by decide +kernel
theorem dL_isExcused_12 : decode cL_isExcused 12 = .ok (.goto 4, 3) := by decide +kernel
theorem dL_isExcused_15 : decode cL_isExcused 15 = .ok (.lconst 0, 1) := by decide +kernel
theorem dL_isExcused_16 : decode cL_isExcused 16 = .ok (.lastore, 1) := by decide +kernel
theorem dL_isExcused_17 : decode cL_isExcused 17 = .ok (.goto 11, 3) := by decide +kernel
theorem dL_isExcused_20 : decode cL_isExcused 20 = .ok (.astore 4, 2) := by decide +kernel
theorem dL_isExcused_22 : decode cL_isExcused 22 = .ok (.iconst 1, 1) := by decide +kernel
theorem dL_isExcused_23 : decode cL_isExcused 23 = .ok (.ireturn, 1) := by decide +kernel
theorem dL_isExcused_24 : decode cL_isExcused 24 = .ok (.astore 4, 2) := by decide +kernel
theorem dL_isExcused_26 : decode cL_isExcused 26 = .ok (.iconst 2, 1) := by decide +kernel
theorem dL_isExcused_27 : decode cL_isExcused 27 = .ok (.ireturn, 1) := by decide +kernel
theorem dL_isExcused_28 : decode cL_isExcused 28 = .ok (.iconst 0, 1) := by decide +kernel
theorem dL_isExcused_29 : decode cL_isExcused 29 = .ok (.ireturn, 1) := by decide +kernel
theorem dL_weightedLoss_0 : decode cL_weightedLoss 0 = .ok (.aload_n 2, 1) := by decide +kernel
theorem dL_weightedLoss_1 : decode cL_weightedLoss 1 = .ok (.iconst 0, 1) := by decide +kernel
theorem dL_weightedLoss_2 : decode cL_weightedLoss 2 = .ok (.aload_n 0, 1) := by decide +kernel
theorem dL_weightedLoss_3 : decode cL_weightedLoss 3 = .ok (.iload_n 1, 1) := by decide +kernel
theorem dL_weightedLoss_4 : decode cL_weightedLoss 4 = .ok (.invokevirtual 90, 3) := by decide +kernel
theorem dL_weightedLoss_7 : decode cL_weightedLoss 7 = .ok (.i2l, 1) := by decide +kernel
theorem dL_weightedLoss_8 : decode cL_weightedLoss 8 = .ok (.lastore, 1) := by decide +kernel
theorem dL_weightedLoss_9 : decode cL_weightedLoss 9 = .ok (.goto 9, 3) := by decide +kernel
theorem dL_weightedLoss_12 : decode cL_weightedLoss 12 = .ok (.astore_n 3, 1) := by decide +kernel
theorem dL_weightedLoss_13 : decode cL_weightedLoss 13 = .ok (.iconst 1, 1) := by decide +kernel
theorem dL_weightedLoss_14 : decode cL_weightedLoss 14 = .ok (.ireturn, 1) := by decide +kernel
theorem dL_weightedLoss_15 : decode cL_weightedLoss 15 = .ok (.astore_n 3, 1) := by decide +kernel
theorem dL_weightedLoss_16 : decode cL_weightedLoss 16 = .ok (.iconst 2, 1) := by decide +kernel
theorem dL_weightedLoss_17 : decode cL_weightedLoss 17 = .ok (.ireturn, 1) := by decide +kernel
theorem dL_weightedLoss_18 : decode cL_weightedLoss 18 = .ok (.iconst 0, 1) := by decide +kernel
theorem dL_weightedLoss_19 : decode cL_weightedLoss 19 = .ok (.ireturn, 1) := by decide +kernel
theorem dL_counted_0 : decode cL_counted 0 = .ok (.aload_n 3, 1) := by decide +kernel
theorem dL_counted_1 : decode cL_counted 1 = .ok (.iconst 0, 1) := by decide +kernel
theorem dL_counted_2 : decode cL_counted 2 = .ok (.aload_n 0, 1) := by decide +kernel
theorem dL_counted_3 : decode cL_counted 3 = .ok (.iload_n 1, 1) := by decide +kernel
theorem dL_counted_4 : decode cL_counted 4 = .ok (.iload_n 2, 1) := by decide +kernel
theorem dL_counted_5 : decode cL_counted 5 = .ok (.invokevirtual 93, 3) := by decide +kernel
theorem dL_counted_8 : decode cL_counted 8 = .ok (.i2l, 1) := by decide +kernel
theorem dL_counted_9 : decode cL_counted 9 = .ok (.lastore, 1) := by decide +kernel
theorem dL_counted_10 : decode cL_counted 10 = .ok (.goto 11, 3) := by decide +kernel
theorem dL_counted_13 : decode cL_counted 13 = .ok (.astore 4, 2) := by decide +kernel
theorem dL_counted_15 : decode cL_counted 15 = .ok (.iconst 1, 1) := by decide +kernel
theorem dL_counted_16 : decode cL_counted 16 = .ok (.ireturn, 1) := by decide +kernel
theorem dL_counted_17 : decode cL_counted 17 = .ok (.astore 4, 2) := by decide +kernel
theorem dL_counted_19 : decode cL_counted 19 = .ok (.iconst 2, 1) := by decide +kernel
theorem dL_counted_20 : decode cL_counted 20 = .ok (.ireturn, 1) := by decide +kernel
theorem dL_counted_21 : decode cL_counted 21 = .ok (.iconst 0, 1) := by decide +kernel
theorem dL_counted_22 : decode cL_counted 22 = .ok (.ireturn, 1) := by decide +kernel
theorem dL_uptime_0 : decode cL_uptime 0 = .ok (.aload_n 3, 1) := by decide +kernel
theorem dL_uptime_1 : decode cL_uptime 1 = .ok (.iconst 0, 1) := by decide +kernel
theorem dL_uptime_2 : decode cL_uptime 2 = .ok (.aload_n 0, 1) := by decide +kernel
theorem dL_uptime_3 : decode cL_uptime 3 = .ok (.iload_n 1, 1) := by decide +kernel
theorem dL_uptime_4 : decode cL_uptime 4 = .ok (.iload_n 2, 1) := by decide +kernel
theorem dL_uptime_5 : decode cL_uptime 5 = .ok (.invokevirtual 96, 3) := by decide +kernel
theorem dL_uptime_8 : decode cL_uptime 8 = .ok (.i2l, 1) := by decide +kernel
theorem dL_uptime_9 : decode cL_uptime 9 = .ok (.lastore, 1) := by decide +kernel
theorem dL_uptime_10 : decode cL_uptime 10 = .ok (.goto 15, 3) := by decide +kernel
theorem dL_uptime_13 : decode cL_uptime 13 = .ok (.astore 4, 2) := by decide +kernel
theorem dL_uptime_15 : decode cL_uptime 15 = .ok (.iconst 1, 1) := by decide +kernel
theorem dL_uptime_16 : decode cL_uptime 16 = .ok (.ireturn, 1) := by decide +kernel
theorem dL_uptime_17 : decode cL_uptime 17 = .ok (.astore 4, 2) := by decide +kernel
theorem dL_uptime_19 : decode cL_uptime 19 = .ok (.iconst 2, 1) := by decide +kernel
theorem dL_uptime_20 : decode cL_uptime 20 = .ok (.ireturn, 1) := by decide +kernel
theorem dL_uptime_21 : decode cL_uptime 21 = .ok (.astore 4, 2) := by decide +kernel
theorem dL_uptime_23 : decode cL_uptime 23 = .ok (.iconst 3, 1) := by decide +kernel
theorem dL_uptime_24 : decode cL_uptime 24 = .ok (.ireturn, 1) := by decide +kernel
theorem dL_uptime_25 : decode cL_uptime 25 = .ok (.iconst 0, 1) := by decide +kernel
theorem dL_uptime_26 : decode cL_uptime 26 = .ok (.ireturn, 1) := by decide +kernel
theorem dL_uptimeByMinutes_0 : decode cL_uptimeByMinutes 0 = .ok (.aload_n 3, 1) := by decide +kernel
theorem dL_uptimeByMinutes_1 : decode cL_uptimeByMinutes 1 = .ok (.iconst 0, 1) := by decide +kernel
theorem dL_uptimeByMinutes_2 : decode cL_uptimeByMinutes 2 = .ok (.aload_n 0, 1) := by decide +kernel
theorem dL_uptimeByMinutes_3 : decode cL_uptimeByMinutes 3 = .ok (.iload_n 1, 1) := by decide +kernel
theorem dL_uptimeByMinutes_4 : decode cL_uptimeByMinutes 4 = .ok (.iload_n 2, 1) := by decide +kernel
theorem dL_uptimeByMinutes_5 : decode cL_uptimeByMinutes 5 = .ok (.invokevirtual 99, 3) := by decide +kernel
theorem dL_uptimeByMinutes_8 : decode cL_uptimeByMinutes 8 = .ok (.i2l, 1) := by decide +kernel
theorem dL_uptimeByMinutes_9 : decode cL_uptimeByMinutes 9 = .ok (.lastore, 1) := by decide +kernel
theorem dL_uptimeByMinutes_10 : decode cL_uptimeByMinutes 10 = .ok (.goto 15, 3) := by decide +kernel
theorem dL_uptimeByMinutes_13 : decode cL_uptimeByMinutes 13 = .ok (.astore 4, 2) := by decide +kernel
theorem dL_uptimeByMinutes_15 : decode cL_uptimeByMinutes 15 = .ok (.iconst 1, 1) := by decide +kernel
theorem dL_uptimeByMinutes_16 : decode cL_uptimeByMinutes 16 = .ok (.ireturn, 1) := by decide +kernel
theorem dL_uptimeByMinutes_17 : decode cL_uptimeByMinutes 17 = .ok (.astore 4, 2) := by decide +kernel
theorem dL_uptimeByMinutes_19 : decode cL_uptimeByMinutes 19 = .ok (.iconst 2, 1) := by decide +kernel
theorem dL_uptimeByMinutes_20 : decode cL_uptimeByMinutes 20 = .ok (.ireturn, 1) := by decide +kernel
theorem dL_uptimeByMinutes_21 : decode cL_uptimeByMinutes 21 = .ok (.astore 4, 2) := by decide +kernel
theorem dL_uptimeByMinutes_23 : decode cL_uptimeByMinutes 23 = .ok (.iconst 3, 1) := by decide +kernel
theorem dL_uptimeByMinutes_24 : decode cL_uptimeByMinutes 24 = .ok (.ireturn, 1) := by decide +kernel
theorem dL_uptimeByMinutes_25 : decode cL_uptimeByMinutes 25 = .ok (.iconst 0, 1) := by decide +kernel
theorem dL_uptimeByMinutes_26 : decode cL_uptimeByMinutes 26 = .ok (.ireturn, 1) := by decide +kernel
theorem dL_worst_0 : decode cL_worst 0 = .ok (.aload_n 1, 1) := by decide +kernel
theorem dL_worst_1 : decode cL_worst 1 = .ok (.iconst 0, 1) := by decide +kernel
theorem dL_worst_2 : decode cL_worst 2 = .ok (.aload_n 0, 1) := by decide +kernel
theorem dL_worst_3 : decode cL_worst 3 = .ok (.invokevirtual 102, 3) := by decide +kernel
theorem dL_worst_6 : decode cL_worst 6 = .ok (.i2l, 1) := by decide +kernel
theorem dL_worst_7 : decode cL_worst 7 = .ok (.lastore, 1) := by decide +kernel
theorem dL_worst_8 : decode cL_worst 8 = .ok (.goto 6, 3) := by decide +kernel
theorem dL_worst_11 : decode cL_worst 11 = .ok (.astore_n 2, 1) := by decide +kernel
theorem dL_worst_12 : decode cL_worst 12 = .ok (.iconst 1, 1) := by decide +kernel
theorem dL_worst_13 : decode cL_worst 13 = .ok (.ireturn, 1) := by decide +kernel
theorem dL_worst_14 : decode cL_worst 14 = .ok (.iconst 0, 1) := by decide +kernel
theorem dL_worst_15 : decode cL_worst 15 = .ok (.ireturn, 1) := by decide +kernel
theorem dL_nextIncident_0 : decode cL_nextIncident 0 = .ok (.aload_n 1, 1) := by decide +kernel
theorem dL_nextIncident_1 : decode cL_nextIncident 1 = .ok (.iconst 0, 1) := by decide +kernel
theorem dL_nextIncident_2 : decode cL_nextIncident 2 = .ok (.aload_n 0, 1) := by decide +kernel
theorem dL_nextIncident_3 : decode cL_nextIncident 3 = .ok (.invokevirtual 106, 3) := by decide +kernel
theorem dL_nextIncident_6 : decode cL_nextIncident 6 = .ok (.i2l, 1) := by decide +kernel
theorem dL_nextIncident_7 : decode cL_nextIncident 7 = .ok (.lastore, 1) := by decide +kernel
theorem dL_nextIncident_8 : decode cL_nextIncident 8 = .ok (.goto 6, 3) := by decide +kernel
theorem dL_nextIncident_11 : decode cL_nextIncident 11 = .ok (.astore_n 2, 1) := by decide +kernel
theorem dL_nextIncident_12 : decode cL_nextIncident 12 = .ok (.iconst 1, 1) := by decide +kernel
theorem dL_nextIncident_13 : decode cL_nextIncident 13 = .ok (.ireturn, 1) := by decide +kernel
theorem dL_nextIncident_14 : decode cL_nextIncident 14 = .ok (.iconst 0, 1) := by decide +kernel
theorem dL_nextIncident_15 : decode cL_nextIncident 15 = .ok (.ireturn, 1) := by decide +kernel
theorem dL_levelOf_0 : decode cL_levelOf 0 = .ok (.aload_n 2, 1) := by decide +kernel
theorem dL_levelOf_1 : decode cL_levelOf 1 = .ok (.iconst 0, 1) := by decide +kernel
theorem dL_levelOf_2 : decode cL_levelOf 2 = .ok (.aload_n 0, 1) := by decide +kernel
theorem dL_levelOf_3 : decode cL_levelOf 3 = .ok (.iload_n 1, 1) := by decide +kernel
theorem dL_levelOf_4 : decode cL_levelOf 4 = .ok (.invokevirtual 109, 3) := by decide +kernel
theorem dL_levelOf_7 : decode cL_levelOf 7 = .ok (.i2l, 1) := by decide +kernel
theorem dL_levelOf_8 : decode cL_levelOf 8 = .ok (.lastore, 1) := by decide +kernel
theorem dL_levelOf_9 : decode cL_levelOf 9 = .ok (.goto 6, 3) := by decide +kernel
theorem dL_levelOf_12 : decode cL_levelOf 12 = .ok (.astore_n 3, 1) := by decide +kernel
theorem dL_levelOf_13 : decode cL_levelOf 13 = .ok (.iconst 1, 1) := by decide +kernel
theorem dL_levelOf_14 : decode cL_levelOf 14 = .ok (.ireturn, 1) := by decide +kernel
theorem dL_levelOf_15 : decode cL_levelOf 15 = .ok (.iconst 0, 1) := by decide +kernel
theorem dL_levelOf_16 : decode cL_levelOf 16 = .ok (.ireturn, 1) := by decide +kernel
theorem dL_startOf_0 : decode cL_startOf 0 = .ok (.aload_n 2, 1) := by decide +kernel
theorem dL_startOf_1 : decode cL_startOf 1 = .ok (.iconst 0, 1) := by decide +kernel
theorem dL_startOf_2 : decode cL_startOf 2 = .ok (.aload_n 0, 1) := by decide +kernel
theorem dL_startOf_3 : decode cL_startOf 3 = .ok (.iload_n 1, 1) := by decide +kernel
theorem dL_startOf_4 : decode cL_startOf 4 = .ok (.invokevirtual 112, 3) := by decide +kernel
theorem dL_startOf_7 : decode cL_startOf 7 = .ok (.i2l, 1) := by decide +kernel
theorem dL_startOf_8 : decode cL_startOf 8 = .ok (.lastore, 1) := by decide +kernel
theorem dL_startOf_9 : decode cL_startOf 9 = .ok (.goto 6, 3) := by decide +kernel
theorem dL_startOf_12 : decode cL_startOf 12 = .ok (.astore_n 3, 1) := by decide +kernel
theorem dL_startOf_13 : decode cL_startOf 13 = .ok (.iconst 1, 1) := by decide +kernel
theorem dL_startOf_14 : decode cL_startOf 14 = .ok (.ireturn, 1) := by decide +kernel
theorem dL_startOf_15 : decode cL_startOf 15 = .ok (.iconst 0, 1) := by decide +kernel
theorem dL_startOf_16 : decode cL_startOf 16 = .ok (.ireturn, 1) := by decide +kernel
theorem dL_endOf_0 : decode cL_endOf 0 = .ok (.aload_n 2, 1) := by decide +kernel
theorem dL_endOf_1 : decode cL_endOf 1 = .ok (.iconst 0, 1) := by decide +kernel
theorem dL_endOf_2 : decode cL_endOf 2 = .ok (.aload_n 0, 1) := by decide +kernel
theorem dL_endOf_3 : decode cL_endOf 3 = .ok (.iload_n 1, 1) := by decide +kernel
theorem dL_endOf_4 : decode cL_endOf 4 = .ok (.invokevirtual 115, 3) := by decide +kernel
theorem dL_endOf_7 : decode cL_endOf 7 = .ok (.i2l, 1) := by decide +kernel
theorem dL_endOf_8 : decode cL_endOf 8 = .ok (.lastore, 1) := by decide +kernel
theorem dL_endOf_9 : decode cL_endOf 9 = .ok (.goto 6, 3) := by decide +kernel
theorem dL_endOf_12 : decode cL_endOf 12 = .ok (.astore_n 3, 1) := by decide +kernel
theorem dL_endOf_13 : decode cL_endOf 13 = .ok (.iconst 1, 1) := by decide +kernel
theorem dL_endOf_14 : decode cL_endOf 14 = .ok (.ireturn, 1) := by decide +kernel
theorem dL_endOf_15 : decode cL_endOf 15 = .ok (.iconst 0, 1) := by decide +kernel
theorem dL_endOf_16 : decode cL_endOf 16 = .ok (.ireturn, 1) := by decide +kernel
theorem dL_caseOf_0 : decode cL_caseOf 0 = .ok (.aload_n 2, 1) := by decide +kernel
theorem dL_caseOf_1 : decode cL_caseOf 1 = .ok (.iconst 0, 1) := by decide +kernel
theorem dL_caseOf_2 : decode cL_caseOf 2 = .ok (.aload_n 0, 1) := by decide +kernel
theorem dL_caseOf_3 : decode cL_caseOf 3 = .ok (.iload_n 1, 1) := by decide +kernel
theorem dL_caseOf_4 : decode cL_caseOf 4 = .ok (.invokevirtual 118, 3) := by decide +kernel
theorem dL_caseOf_7 : decode cL_caseOf 7 = .ok (.i2l, 1) := by decide +kernel
theorem dL_caseOf_8 : decode cL_caseOf 8 = .ok (.lastore, 1) := by decide +kernel
theorem dL_caseOf_9 : decode cL_caseOf 9 = .ok (.goto 6, 3) := by decide +kernel
theorem dL_caseOf_12 : decode cL_caseOf 12 = .ok (.astore_n 3, 1) := by decide +kernel
theorem dL_caseOf_13 : decode cL_caseOf 13 = .ok (.iconst 1, 1) := by decide +kernel
theorem dL_caseOf_14 : decode cL_caseOf 14 = .ok (.ireturn, 1) := by decide +kernel
theorem dL_caseOf_15 : decode cL_caseOf 15 = .ok (.iconst 0, 1) := by decide +kernel
theorem dL_caseOf_16 : decode cL_caseOf 16 = .ok (.ireturn, 1) := by decide +kernel
theorem dL_caseMinutes_0 : decode cL_caseMinutes 0 = .ok (.aload_n 2, 1) := by decide +kernel
theorem dL_caseMinutes_1 : decode cL_caseMinutes 1 = .ok (.iconst 0, 1) := by decide +kernel
theorem dL_caseMinutes_2 : decode cL_caseMinutes 2 = .ok (.aload_n 0, 1) := by decide +kernel
theorem dL_caseMinutes_3 : decode cL_caseMinutes 3 = .ok (.iload_n 1, 1) := by decide +kernel
theorem dL_caseMinutes_4 : decode cL_caseMinutes 4 = .ok (.invokevirtual 121, 3) := by decide +kernel
theorem dL_caseMinutes_7 : decode cL_caseMinutes 7 = .ok (.i2l, 1) := by decide +kernel
theorem dL_caseMinutes_8 : decode cL_caseMinutes 8 = .ok (.lastore, 1) := by decide +kernel
theorem dL_caseMinutes_9 : decode cL_caseMinutes 9 = .ok (.goto 6, 3) := by decide +kernel
theorem dL_caseMinutes_12 : decode cL_caseMinutes 12 = .ok (.astore_n 3, 1) := by decide +kernel
theorem dL_caseMinutes_13 : decode cL_caseMinutes 13 = .ok (.iconst 1, 1) := by decide +kernel
theorem dL_caseMinutes_14 : decode cL_caseMinutes 14 = .ok (.ireturn, 1) := by decide +kernel
theorem dL_caseMinutes_15 : decode cL_caseMinutes 15 = .ok (.iconst 0, 1) := by decide +kernel
theorem dL_caseMinutes_16 : decode cL_caseMinutes 16 = .ok (.ireturn, 1) := by decide +kernel
theorem dL_subscriptions_0 : decode cL_subscriptions 0 = .ok (.aload_n 2, 1) := by decide +kernel
theorem dL_subscriptions_1 : decode cL_subscriptions 1 = .ok (.iconst 0, 1) := by decide +kernel
theorem dL_subscriptions_2 : decode cL_subscriptions 2 = .ok (.aload_n 0, 1) := by decide +kernel
theorem dL_subscriptions_3 : decode cL_subscriptions 3 = .ok (.iload_n 1, 1) := by decide +kernel
theorem dL_subscriptions_4 : decode cL_subscriptions 4 = .ok (.invokevirtual 124, 3) := by decide +kernel
theorem dL_subscriptions_7 : decode cL_subscriptions 7 = .ok (.i2l, 1) := by decide +kernel
theorem dL_subscriptions_8 : decode cL_subscriptions 8 = .ok (.lastore, 1) := by decide +kernel
theorem dL_subscriptions_9 : decode cL_subscriptions 9 = .ok (.goto 6, 3) := by decide +kernel
theorem dL_subscriptions_12 : decode cL_subscriptions 12 = .ok (.astore_n 3, 1) := by decide +kernel
theorem dL_subscriptions_13 : decode cL_subscriptions 13 = .ok (.iconst 1, 1) := by decide +kernel
theorem dL_subscriptions_14 : decode cL_subscriptions 14 = .ok (.ireturn, 1) := by decide +kernel
theorem dL_subscriptions_15 : decode cL_subscriptions 15 = .ok (.iconst 0, 1) := by decide +kernel
theorem dL_subscriptions_16 : decode cL_subscriptions 16 = .ok (.ireturn, 1) := by decide +kernel
theorem dL_mailsTo_0 : decode cL_mailsTo 0 = .ok (.aload_n 2, 1) := by decide +kernel
theorem dL_mailsTo_1 : decode cL_mailsTo 1 = .ok (.iconst 0, 1) := by decide +kernel
theorem dL_mailsTo_2 : decode cL_mailsTo 2 = .ok (.aload_n 0, 1) := by decide +kernel
theorem dL_mailsTo_3 : decode cL_mailsTo 3 = .ok (.iload_n 1, 1) := by decide +kernel
theorem dL_mailsTo_4 : decode cL_mailsTo 4 = .ok (.invokevirtual 127, 3) := by decide +kernel
theorem dL_mailsTo_7 : decode cL_mailsTo 7 = .ok (.i2l, 1) := by decide +kernel
theorem dL_mailsTo_8 : decode cL_mailsTo 8 = .ok (.lastore, 1) := by decide +kernel
theorem dL_mailsTo_9 : decode cL_mailsTo 9 = .ok (.goto 6, 3) := by decide +kernel
theorem dL_mailsTo_12 : decode cL_mailsTo 12 = .ok (.astore_n 3, 1) := by decide +kernel
theorem dL_mailsTo_13 : decode cL_mailsTo 13 = .ok (.iconst 1, 1) := by decide +kernel
theorem dL_mailsTo_14 : decode cL_mailsTo 14 = .ok (.ireturn, 1) := by decide +kernel
theorem dL_mailsTo_15 : decode cL_mailsTo 15 = .ok (.iconst 0, 1) := by decide +kernel
theorem dL_mailsTo_16 : decode cL_mailsTo 16 = .ok (.ireturn, 1) := by decide +kernel
theorem dL_mailPerson_0 : decode cL_mailPerson 0 = .ok (.aload_n 2, 1) := by decide +kernel
theorem dL_mailPerson_1 : decode cL_mailPerson 1 = .ok (.iconst 0, 1) := by decide +kernel
theorem dL_mailPerson_2 : decode cL_mailPerson 2 = .ok (.aload_n 0, 1) := by decide +kernel
theorem dL_mailPerson_3 : decode cL_mailPerson 3 = .ok (.iload_n 1, 1) := by decide +kernel
theorem dL_mailPerson_4 : decode cL_mailPerson 4 = .ok (.invokevirtual 130, 3) := by decide +kernel
theorem dL_mailPerson_7 : decode cL_mailPerson 7 = .ok (.i2l, 1) := by decide +kernel
theorem dL_mailPerson_8 : decode cL_mailPerson 8 = .ok (.lastore, 1) := by decide +kernel
theorem dL_mailPerson_9 : decode cL_mailPerson 9 = .ok (.goto 6, 3) := by decide +kernel
theorem dL_mailPerson_12 : decode cL_mailPerson 12 = .ok (.astore_n 3, 1) := by decide +kernel
theorem dL_mailPerson_13 : decode cL_mailPerson 13 = .ok (.iconst 1, 1) := by decide +kernel
theorem dL_mailPerson_14 : decode cL_mailPerson 14 = .ok (.ireturn, 1) := by decide +kernel
theorem dL_mailPerson_15 : decode cL_mailPerson 15 = .ok (.iconst 0, 1) := by decide +kernel
theorem dL_mailPerson_16 : decode cL_mailPerson 16 = .ok (.ireturn, 1) := by decide +kernel
theorem dL_mailComponent_0 : decode cL_mailComponent 0 = .ok (.aload_n 2, 1) := by decide +kernel
theorem dL_mailComponent_1 : decode cL_mailComponent 1 = .ok (.iconst 0, 1) := by decide +kernel
theorem dL_mailComponent_2 : decode cL_mailComponent 2 = .ok (.aload_n 0, 1) := by decide +kernel
theorem dL_mailComponent_3 : decode cL_mailComponent 3 = .ok (.iload_n 1, 1) := by decide +kernel
theorem dL_mailComponent_4 : decode cL_mailComponent 4 = .ok (.invokevirtual 133, 3) := by decide +kernel
theorem dL_mailComponent_7 : decode cL_mailComponent 7 = .ok (.i2l, 1) := by decide +kernel
theorem dL_mailComponent_8 : decode cL_mailComponent 8 = .ok (.lastore, 1) := by decide +kernel
theorem dL_mailComponent_9 : decode cL_mailComponent 9 = .ok (.goto 6, 3) := by decide +kernel
theorem dL_mailComponent_12 : decode cL_mailComponent 12 = .ok (.astore_n 3, 1) := by decide +kernel
theorem dL_mailComponent_13 : decode cL_mailComponent 13 = .ok (.iconst 1, 1) := by decide +kernel
theorem dL_mailComponent_14 : decode cL_mailComponent 14 = .ok (.ireturn, 1) := by decide +kernel
theorem dL_mailComponent_15 : decode cL_mailComponent 15 = .ok (.iconst 0, 1) := by decide +kernel
theorem dL_mailComponent_16 : decode cL_mailComponent 16 = .ok (.ireturn, 1) := by decide +kernel
theorem dL_mailState_0 : decode cL_mailState 0 = .ok (.aload_n 2, 1) := by decide +kernel
theorem dL_mailState_1 : decode cL_mailState 1 = .ok (.iconst 0, 1) := by decide +kernel
theorem dL_mailState_2 : decode cL_mailState 2 = .ok (.aload_n 0, 1) := by decide +kernel
theorem dL_mailState_3 : decode cL_mailState 3 = .ok (.iload_n 1, 1) := by decide +kernel
theorem dL_mailState_4 : decode cL_mailState 4 = .ok (.invokevirtual 136, 3) := by decide +kernel
theorem dL_mailState_7 : decode cL_mailState 7 = .ok (.i2l, 1) := by decide +kernel
theorem dL_mailState_8 : decode cL_mailState 8 = .ok (.lastore, 1) := by decide +kernel
theorem dL_mailState_9 : decode cL_mailState 9 = .ok (.goto 6, 3) := by decide +kernel
theorem dL_mailState_12 : decode cL_mailState 12 = .ok (.astore_n 3, 1) := by decide +kernel
theorem dL_mailState_13 : decode cL_mailState 13 = .ok (.iconst 1, 1) := by decide +kernel
theorem dL_mailState_14 : decode cL_mailState 14 = .ok (.ireturn, 1) := by decide +kernel
theorem dL_mailState_15 : decode cL_mailState 15 = .ok (.iconst 0, 1) := by decide +kernel
theorem dL_mailState_16 : decode cL_mailState 16 = .ok (.ireturn, 1) := by decide +kernel
theorem dL_mailMinute_0 : decode cL_mailMinute 0 = .ok (.aload_n 2, 1) := by decide +kernel
theorem dL_mailMinute_1 : decode cL_mailMinute 1 = .ok (.iconst 0, 1) := by decide +kernel
theorem dL_mailMinute_2 : decode cL_mailMinute 2 = .ok (.aload_n 0, 1) := by decide +kernel
theorem dL_mailMinute_3 : decode cL_mailMinute 3 = .ok (.iload_n 1, 1) := by decide +kernel
theorem dL_mailMinute_4 : decode cL_mailMinute 4 = .ok (.invokevirtual 139, 3) := by decide +kernel
theorem dL_mailMinute_7 : decode cL_mailMinute 7 = .ok (.i2l, 1) := by decide +kernel
theorem dL_mailMinute_8 : decode cL_mailMinute 8 = .ok (.lastore, 1) := by decide +kernel
theorem dL_mailMinute_9 : decode cL_mailMinute 9 = .ok (.goto 6, 3) := by decide +kernel
theorem dL_mailMinute_12 : decode cL_mailMinute 12 = .ok (.astore_n 3, 1) := by decide +kernel
theorem dL_mailMinute_13 : decode cL_mailMinute 13 = .ok (.iconst 1, 1) := by decide +kernel
theorem dL_mailMinute_14 : decode cL_mailMinute 14 = .ok (.ireturn, 1) := by decide +kernel
theorem dL_mailMinute_15 : decode cL_mailMinute 15 = .ok (.iconst 0, 1) := by decide +kernel
theorem dL_mailMinute_16 : decode cL_mailMinute 16 = .ok (.ireturn, 1) := by decide +kernel
theorem dL_excusedShare_0 : decode cL_excusedShare 0 = .ok (.aload_n 2, 1) := by decide +kernel
theorem dL_excusedShare_1 : decode cL_excusedShare 1 = .ok (.iconst 0, 1) := by decide +kernel
theorem dL_excusedShare_2 : decode cL_excusedShare 2 = .ok (.aload_n 0, 1) := by decide +kernel
theorem dL_excusedShare_3 : decode cL_excusedShare 3 = .ok (.iload_n 1, 1) := by decide +kernel
theorem dL_excusedShare_4 : decode cL_excusedShare 4 = .ok (.invokevirtual 142, 3) := by decide +kernel
theorem dL_excusedShare_7 : decode cL_excusedShare 7 = .ok (.f2d, 1) := by decide +kernel
theorem dL_excusedShare_8 : decode cL_excusedShare 8 = .ok (.dastore, 1) := by decide +kernel
theorem dL_excusedShare_9 : decode cL_excusedShare 9 = .ok (.goto 9, 3) := by decide +kernel
theorem dL_excusedShare_12 : decode cL_excusedShare 12 = .ok (.astore_n 3, 1) := by decide +kernel
theorem dL_excusedShare_13 : decode cL_excusedShare 13 = .ok (.iconst 1, 1) := by decide +kernel
theorem dL_excusedShare_14 : decode cL_excusedShare 14 = .ok (.ireturn, 1) := by decide +kernel
theorem dL_excusedShare_15 : decode cL_excusedShare 15 = .ok (.astore_n 3, 1) := by decide +kernel
theorem dL_excusedShare_16 : decode cL_excusedShare 16 = .ok (.iconst 2, 1) := by decide +kernel
theorem dL_excusedShare_17 : decode cL_excusedShare 17 = .ok (.ireturn, 1) := by decide +kernel
theorem dL_excusedShare_18 : decode cL_excusedShare 18 = .ok (.iconst 0, 1) := by decide +kernel
theorem dL_excusedShare_19 : decode cL_excusedShare 19 = .ok (.ireturn, 1) := by decide +kernel
theorem dL_meanUptime_0 : decode cL_meanUptime 0 = .ok (.aload_n 2, 1) := by decide +kernel
theorem dL_meanUptime_1 : decode cL_meanUptime 1 = .ok (.iconst 0, 1) := by decide +kernel
theorem dL_meanUptime_2 : decode cL_meanUptime 2 = .ok (.aload_n 0, 1) := by decide +kernel
theorem dL_meanUptime_3 : decode cL_meanUptime 3 = .ok (.iload_n 1, 1) := by decide +kernel
theorem dL_meanUptime_4 : decode cL_meanUptime 4 = .ok (.invokevirtual 148, 3) := by decide +kernel
theorem dL_meanUptime_7 : decode cL_meanUptime 7 = .ok (.dastore, 1) := by decide +kernel
theorem dL_meanUptime_8 : decode cL_meanUptime 8 = .ok (.goto 9, 3) := by decide +kernel
theorem dL_meanUptime_11 : decode cL_meanUptime 11 = .ok (.astore_n 3, 1) := by decide +kernel
theorem dL_meanUptime_12 : decode cL_meanUptime 12 = .ok (.iconst 1, 1) := by decide +kernel
theorem dL_meanUptime_13 : decode cL_meanUptime 13 = .ok (.ireturn, 1) := by decide +kernel
theorem dL_meanUptime_14 : decode cL_meanUptime 14 = .ok (.astore_n 3, 1) := by decide +kernel
theorem dL_meanUptime_15 : decode cL_meanUptime 15 = .ok (.iconst 2, 1) := by decide +kernel
theorem dL_meanUptime_16 : decode cL_meanUptime 16 = .ok (.ireturn, 1) := by decide +kernel
theorem dL_meanUptime_17 : decode cL_meanUptime 17 = .ok (.iconst 0, 1) := by decide +kernel
theorem dL_meanUptime_18 : decode cL_meanUptime 18 = .ok (.ireturn, 1) := by decide +kernel
theorem dL_law_0 : decode cL_law 0 = .ok (.new 8, 3) := by decide +kernel
theorem dL_law_3 : decode cL_law 3 = .ok (.dup, 1) := by decide +kernel
theorem dL_law_4 : decode cL_law 4 = .ok (.invokespecial 152, 3) := by decide +kernel
theorem dL_law_7 : decode cL_law 7 = .ok (.astore_n 1, 1) := by decide +kernel
theorem dL_law_8 : decode cL_law 8 = .ok (.new 153, 3) := by decide +kernel
theorem dL_law_11 : decode cL_law 11 = .ok (.dup, 1) := by decide +kernel
theorem dL_law_12 : decode cL_law 12 = .ok (.invokespecial 155, 3) := by decide +kernel
theorem dL_law_15 : decode cL_law 15 = .ok (.astore_n 2, 1) := by decide +kernel
theorem dL_law_16 : decode cL_law 16 = .ok (.iconst 1, 1) := by decide +kernel
theorem dL_law_17 : decode cL_law 17 = .ok (.newarray .long, 2) := by decide +kernel
theorem dL_law_19 : decode cL_law 19 = .ok (.astore_n 3, 1) := by decide +kernel
theorem dL_law_20 : decode cL_law 20 = .ok (.iconst 1, 1) := by decide +kernel
theorem dL_law_21 : decode cL_law 21 = .ok (.newarray .double, 2) := by decide +kernel
theorem dL_law_23 : decode cL_law 23 = .ok (.astore 4, 2) := by decide +kernel
theorem dL_law_25 : decode cL_law 25 = .ok (.iconst 0, 1) := by decide +kernel
theorem dL_law_26 : decode cL_law 26 = .ok (.istore 5, 2) := by decide +kernel
theorem dL_law_28 : decode cL_law 28 = .ok (.iload 5, 2) := by decide +kernel
theorem dL_law_30 : decode cL_law 30 = .ok (.aload_n 0, 1) := by decide +kernel
theorem dL_law_31 : decode cL_law 31 = .ok (.arraylength, 1) := by decide +kernel
theorem dL_law_32 : decode cL_law 32 = .ok (.iconst 4, 1) := by decide +kernel
theorem dL_law_33 : decode cL_law 33 = .ok (.isub, 1) := by decide +kernel
theorem dL_law_34 : decode cL_law 34 = .ok (.if_icmp .gt 2826, 3) := by decide +kernel
theorem dL_law_37 : decode cL_law 37 = .ok (.aload_n 0, 1) := by decide +kernel
theorem dL_law_38 : decode cL_law 38 = .ok (.iload 5, 2) := by decide +kernel
theorem dL_law_40 : decode cL_law 40 = .ok (.iaload, 1) := by decide +kernel
theorem dL_law_41 : decode cL_law 41 = .ok (.bipush 63, 2) := by decide +kernel
theorem dL_law_43 : decode cL_law 43 = .ok (.iand, 1) := by decide +kernel
theorem dL_law_44 : decode cL_law 44 = .ok (.tableswitch 2810 0 46 #[204, 286, 354, 410, 478, 546, 626, 694, 774, 830, 898, 978, 1034, 1090, 1103, 1116, 1129, 1142, 1205, 1261, 1317, 1385, 1453, 1509, 1577, 1652, 1708, 1776, 1844, 1912, 1956, 1969, 2013, 2069, 2125, 2181, 2237, 2250, 2306, 2362, 2375, 2431, 2487, 2543, 2599, 2655, 2733], 204) := by decide +kernel
theorem dL_law_248 : decode cL_law 248 = .ok (.aload_n 1, 1) := by decide +kernel
theorem dL_law_249 : decode cL_law 249 = .ok (.aload_n 0, 1) := by decide +kernel
theorem dL_law_250 : decode cL_law 250 = .ok (.iload 5, 2) := by decide +kernel
theorem dL_law_252 : decode cL_law 252 = .ok (.iconst 1, 1) := by decide +kernel
theorem dL_law_253 : decode cL_law 253 = .ok (.iadd, 1) := by decide +kernel
theorem dL_law_254 : decode cL_law 254 = .ok (.iaload, 1) := by decide +kernel
theorem dL_law_255 : decode cL_law 255 = .ok (.aload_n 0, 1) := by decide +kernel
theorem dL_law_256 : decode cL_law 256 = .ok (.iload 5, 2) := by decide +kernel
theorem dL_law_258 : decode cL_law 258 = .ok (.iconst 2, 1) := by decide +kernel
theorem dL_law_259 : decode cL_law 259 = .ok (.iadd, 1) := by decide +kernel
theorem dL_law_260 : decode cL_law 260 = .ok (.iaload, 1) := by decide +kernel
theorem dL_law_261 : decode cL_law 261 = .ok (.aload_n 0, 1) := by decide +kernel
theorem dL_law_262 : decode cL_law 262 = .ok (.iload 5, 2) := by decide +kernel
theorem dL_law_264 : decode cL_law 264 = .ok (.iconst 3, 1) := by decide +kernel
theorem dL_law_265 : decode cL_law 265 = .ok (.iadd, 1) := by decide +kernel
theorem dL_law_266 : decode cL_law 266 = .ok (.iaload, 1) := by decide +kernel
theorem dL_law_267 : decode cL_law 267 = .ok (.i2c, 1) := by decide +kernel
theorem dL_law_268 : decode cL_law 268 = .ok (.aload_n 3, 1) := by decide +kernel
theorem dL_law_269 : decode cL_law 269 = .ok (.invokestatic 156, 3) := by decide +kernel
theorem dL_law_272 : decode cL_law 272 = .ok (.istore 6, 2) := by decide +kernel
theorem dL_law_274 : decode cL_law 274 = .ok (.aload_n 2, 1) := by decide +kernel
theorem dL_law_275 : decode cL_law 275 = .ok (.aload_n 0, 1) := by decide +kernel
theorem dL_law_276 : decode cL_law 276 = .ok (.iload 5, 2) := by decide +kernel
theorem dL_law_278 : decode cL_law 278 = .ok (.iconst 1, 1) := by decide +kernel
theorem dL_law_279 : decode cL_law 279 = .ok (.iadd, 1) := by decide +kernel
theorem dL_law_280 : decode cL_law 280 = .ok (.iaload, 1) := by decide +kernel
theorem dL_law_281 : decode cL_law 281 = .ok (.aload_n 0, 1) := by decide +kernel
theorem dL_law_282 : decode cL_law 282 = .ok (.iload 5, 2) := by decide +kernel
theorem dL_law_284 : decode cL_law 284 = .ok (.iconst 2, 1) := by decide +kernel
theorem dL_law_285 : decode cL_law 285 = .ok (.iadd, 1) := by decide +kernel
theorem dL_law_286 : decode cL_law 286 = .ok (.iaload, 1) := by decide +kernel
theorem dL_law_287 : decode cL_law 287 = .ok (.aload_n 0, 1) := by decide +kernel
theorem dL_law_288 : decode cL_law 288 = .ok (.iload 5, 2) := by decide +kernel
theorem dL_law_290 : decode cL_law 290 = .ok (.iconst 3, 1) := by decide +kernel
theorem dL_law_291 : decode cL_law 291 = .ok (.iadd, 1) := by decide +kernel
theorem dL_law_292 : decode cL_law 292 = .ok (.iaload, 1) := by decide +kernel
theorem dL_law_293 : decode cL_law 293 = .ok (.i2c, 1) := by decide +kernel
theorem dL_law_294 : decode cL_law 294 = .ok (.invokevirtual 161, 3) := by decide +kernel
theorem dL_law_297 : decode cL_law 297 = .ok (.istore 7, 2) := by decide +kernel
theorem dL_law_299 : decode cL_law 299 = .ok (.aload_n 2, 1) := by decide +kernel
theorem dL_law_300 : decode cL_law 300 = .ok (.invokevirtual 162, 3) := by decide +kernel
theorem dL_law_303 : decode cL_law 303 = .ok (.iload 6, 2) := by decide +kernel
theorem dL_law_305 : decode cL_law 305 = .ok (.if_icmp .eq 5, 3) := by decide +kernel
theorem dL_law_308 : decode cL_law 308 = .ok (.iconst 0, 1) := by decide +kernel
theorem dL_law_309 : decode cL_law 309 = .ok (.ireturn, 1) := by decide +kernel
theorem dL_law_310 : decode cL_law 310 = .ok (.iload 6, 2) := by decide +kernel
theorem dL_law_312 : decode cL_law 312 = .ok (.ifCond .ne 15, 3) := by decide +kernel
theorem dL_law_315 : decode cL_law 315 = .ok (.aload_n 3, 1) := by decide +kernel
theorem dL_law_316 : decode cL_law 316 = .ok (.iconst 0, 1) := by decide +kernel
theorem dL_law_317 : decode cL_law 317 = .ok (.laload, 1) := by decide +kernel
theorem dL_law_318 : decode cL_law 318 = .ok (.iload 7, 2) := by decide +kernel
theorem dL_law_320 : decode cL_law 320 = .ok (.i2l, 1) := by decide +kernel
theorem dL_law_321 : decode cL_law 321 = .ok (.lcmp, 1) := by decide +kernel
theorem dL_law_322 : decode cL_law 322 = .ok (.ifCond .eq 5, 3) := by decide +kernel
theorem dL_law_325 : decode cL_law 325 = .ok (.iconst 0, 1) := by decide +kernel
theorem dL_law_326 : decode cL_law 326 = .ok (.ireturn, 1) := by decide +kernel
theorem dL_law_327 : decode cL_law 327 = .ok (.goto 2527, 3) := by decide +kernel
theorem dL_law_330 : decode cL_law 330 = .ok (.aload_n 1, 1) := by decide +kernel
theorem dL_law_331 : decode cL_law 331 = .ok (.aload_n 0, 1) := by decide +kernel
theorem dL_law_332 : decode cL_law 332 = .ok (.iload 5, 2) := by decide +kernel
theorem dL_law_334 : decode cL_law 334 = .ok (.iconst 1, 1) := by decide +kernel
theorem dL_law_335 : decode cL_law 335 = .ok (.iadd, 1) := by decide +kernel
theorem dL_law_336 : decode cL_law 336 = .ok (.iaload, 1) := by decide +kernel
theorem dL_law_337 : decode cL_law 337 = .ok (.aload_n 0, 1) := by decide +kernel
theorem dL_law_338 : decode cL_law 338 = .ok (.iload 5, 2) := by decide +kernel
theorem dL_law_340 : decode cL_law 340 = .ok (.iconst 2, 1) := by decide +kernel
theorem dL_law_341 : decode cL_law 341 = .ok (.iadd, 1) := by decide +kernel
theorem dL_law_342 : decode cL_law 342 = .ok (.iaload, 1) := by decide +kernel
theorem dL_law_343 : decode cL_law 343 = .ok (.aload_n 3, 1) := by decide +kernel
theorem dL_law_344 : decode cL_law 344 = .ok (.invokestatic 165, 3) := by decide +kernel
theorem dL_law_347 : decode cL_law 347 = .ok (.istore 6, 2) := by decide +kernel
theorem dL_law_349 : decode cL_law 349 = .ok (.aload_n 2, 1) := by decide +kernel
theorem dL_law_350 : decode cL_law 350 = .ok (.aload_n 0, 1) := by decide +kernel
theorem dL_law_351 : decode cL_law 351 = .ok (.iload 5, 2) := by decide +kernel
theorem dL_law_353 : decode cL_law 353 = .ok (.iconst 1, 1) := by decide +kernel
theorem dL_law_354 : decode cL_law 354 = .ok (.iadd, 1) := by decide +kernel
theorem dL_law_355 : decode cL_law 355 = .ok (.iaload, 1) := by decide +kernel
theorem dL_law_356 : decode cL_law 356 = .ok (.aload_n 0, 1) := by decide +kernel
theorem dL_law_357 : decode cL_law 357 = .ok (.iload 5, 2) := by decide +kernel
theorem dL_law_359 : decode cL_law 359 = .ok (.iconst 2, 1) := by decide +kernel
theorem dL_law_360 : decode cL_law 360 = .ok (.iadd, 1) := by decide +kernel
theorem dL_law_361 : decode cL_law 361 = .ok (.iaload, 1) := by decide +kernel
theorem dL_law_362 : decode cL_law 362 = .ok (.invokevirtual 168, 3) := by decide +kernel
theorem dL_law_365 : decode cL_law 365 = .ok (.istore 7, 2) := by decide +kernel
theorem dL_law_367 : decode cL_law 367 = .ok (.aload_n 2, 1) := by decide +kernel
theorem dL_law_368 : decode cL_law 368 = .ok (.invokevirtual 162, 3) := by decide +kernel
theorem dL_law_371 : decode cL_law 371 = .ok (.iload 6, 2) := by decide +kernel
theorem dL_law_373 : decode cL_law 373 = .ok (.if_icmp .eq 5, 3) := by decide +kernel
theorem dL_law_376 : decode cL_law 376 = .ok (.iconst 0, 1) := by decide +kernel
theorem dL_law_377 : decode cL_law 377 = .ok (.ireturn, 1) := by decide +kernel
theorem dL_law_378 : decode cL_law 378 = .ok (.iload 6, 2) := by decide +kernel
theorem dL_law_380 : decode cL_law 380 = .ok (.ifCond .ne 15, 3) := by decide +kernel
theorem dL_law_383 : decode cL_law 383 = .ok (.aload_n 3, 1) := by decide +kernel
theorem dL_law_384 : decode cL_law 384 = .ok (.iconst 0, 1) := by decide +kernel
theorem dL_law_385 : decode cL_law 385 = .ok (.laload, 1) := by decide +kernel
theorem dL_law_386 : decode cL_law 386 = .ok (.iload 7, 2) := by decide +kernel
theorem dL_law_388 : decode cL_law 388 = .ok (.i2l, 1) := by decide +kernel
theorem dL_law_389 : decode cL_law 389 = .ok (.lcmp, 1) := by decide +kernel
theorem dL_law_390 : decode cL_law 390 = .ok (.ifCond .eq 5, 3) := by decide +kernel
theorem dL_law_393 : decode cL_law 393 = .ok (.iconst 0, 1) := by decide +kernel
theorem dL_law_394 : decode cL_law 394 = .ok (.ireturn, 1) := by decide +kernel
theorem dL_law_395 : decode cL_law 395 = .ok (.goto 2459, 3) := by decide +kernel
theorem dL_law_398 : decode cL_law 398 = .ok (.aload_n 1, 1) := by decide +kernel
theorem dL_law_399 : decode cL_law 399 = .ok (.aload_n 0, 1) := by decide +kernel
theorem dL_law_400 : decode cL_law 400 = .ok (.iload 5, 2) := by decide +kernel
theorem dL_law_402 : decode cL_law 402 = .ok (.iconst 1, 1) := by decide +kernel
theorem dL_law_403 : decode cL_law 403 = .ok (.iadd, 1) := by decide +kernel
theorem dL_law_404 : decode cL_law 404 = .ok (.iaload, 1) := by decide +kernel
theorem dL_law_405 : decode cL_law 405 = .ok (.aload_n 3, 1) := by decide +kernel
theorem dL_law_406 : decode cL_law 406 = .ok (.invokestatic 169, 3) := by decide +kernel
theorem dL_law_409 : decode cL_law 409 = .ok (.istore 6, 2) := by decide +kernel
theorem dL_law_411 : decode cL_law 411 = .ok (.aload_n 2, 1) := by decide +kernel
theorem dL_law_412 : decode cL_law 412 = .ok (.aload_n 0, 1) := by decide +kernel
theorem dL_law_413 : decode cL_law 413 = .ok (.iload 5, 2) := by decide +kernel
theorem dL_law_415 : decode cL_law 415 = .ok (.iconst 1, 1) := by decide +kernel
theorem dL_law_416 : decode cL_law 416 = .ok (.iadd, 1) := by decide +kernel
theorem dL_law_417 : decode cL_law 417 = .ok (.iaload, 1) := by decide +kernel
theorem dL_law_418 : decode cL_law 418 = .ok (.invokevirtual 172, 3) := by decide +kernel
theorem dL_law_421 : decode cL_law 421 = .ok (.istore 7, 2) := by decide +kernel
theorem dL_law_423 : decode cL_law 423 = .ok (.aload_n 2, 1) := by decide +kernel
theorem dL_law_424 : decode cL_law 424 = .ok (.invokevirtual 162, 3) := by decide +kernel
theorem dL_law_427 : decode cL_law 427 = .ok (.iload 6, 2) := by decide +kernel
theorem dL_law_429 : decode cL_law 429 = .ok (.if_icmp .eq 5, 3) := by decide +kernel
theorem dL_law_432 : decode cL_law 432 = .ok (.iconst 0, 1) := by decide +kernel
theorem dL_law_433 : decode cL_law 433 = .ok (.ireturn, 1) := by decide +kernel
theorem dL_law_434 : decode cL_law 434 = .ok (.iload 6, 2) := by decide +kernel
theorem dL_law_436 : decode cL_law 436 = .ok (.ifCond .ne 15, 3) := by decide +kernel
theorem dL_law_439 : decode cL_law 439 = .ok (.aload_n 3, 1) := by decide +kernel
theorem dL_law_440 : decode cL_law 440 = .ok (.iconst 0, 1) := by decide +kernel
theorem dL_law_441 : decode cL_law 441 = .ok (.laload, 1) := by decide +kernel
theorem dL_law_442 : decode cL_law 442 = .ok (.iload 7, 2) := by decide +kernel
theorem dL_law_444 : decode cL_law 444 = .ok (.i2l, 1) := by decide +kernel
theorem dL_law_445 : decode cL_law 445 = .ok (.lcmp, 1) := by decide +kernel
theorem dL_law_446 : decode cL_law 446 = .ok (.ifCond .eq 5, 3) := by decide +kernel
theorem dL_law_449 : decode cL_law 449 = .ok (.iconst 0, 1) := by decide +kernel
theorem dL_law_450 : decode cL_law 450 = .ok (.ireturn, 1) := by decide +kernel
theorem dL_law_451 : decode cL_law 451 = .ok (.goto 2403, 3) := by decide +kernel
theorem dL_law_454 : decode cL_law 454 = .ok (.aload_n 1, 1) := by decide +kernel
theorem dL_law_455 : decode cL_law 455 = .ok (.aload_n 0, 1) := by decide +kernel
theorem dL_law_456 : decode cL_law 456 = .ok (.iload 5, 2) := by decide +kernel
theorem dL_law_458 : decode cL_law 458 = .ok (.iconst 1, 1) := by decide +kernel
theorem dL_law_459 : decode cL_law 459 = .ok (.iadd, 1) := by decide +kernel
theorem dL_law_460 : decode cL_law 460 = .ok (.iaload, 1) := by decide +kernel
theorem dL_law_461 : decode cL_law 461 = .ok (.aload_n 0, 1) := by decide +kernel
theorem dL_law_462 : decode cL_law 462 = .ok (.iload 5, 2) := by decide +kernel
theorem dL_law_464 : decode cL_law 464 = .ok (.iconst 2, 1) := by decide +kernel
theorem dL_law_465 : decode cL_law 465 = .ok (.iadd, 1) := by decide +kernel
theorem dL_law_466 : decode cL_law 466 = .ok (.iaload, 1) := by decide +kernel
theorem dL_law_467 : decode cL_law 467 = .ok (.aload_n 3, 1) := by decide +kernel
theorem dL_law_468 : decode cL_law 468 = .ok (.invokestatic 173, 3) := by decide +kernel
theorem dL_law_471 : decode cL_law 471 = .ok (.istore 6, 2) := by decide +kernel
theorem dL_law_473 : decode cL_law 473 = .ok (.aload_n 2, 1) := by decide +kernel
theorem dL_law_474 : decode cL_law 474 = .ok (.aload_n 0, 1) := by decide +kernel
theorem dL_law_475 : decode cL_law 475 = .ok (.iload 5, 2) := by decide +kernel
theorem dL_law_477 : decode cL_law 477 = .ok (.iconst 1, 1) := by decide +kernel
theorem dL_law_478 : decode cL_law 478 = .ok (.iadd, 1) := by decide +kernel
theorem dL_law_479 : decode cL_law 479 = .ok (.iaload, 1) := by decide +kernel
theorem dL_law_480 : decode cL_law 480 = .ok (.aload_n 0, 1) := by decide +kernel
theorem dL_law_481 : decode cL_law 481 = .ok (.iload 5, 2) := by decide +kernel
theorem dL_law_483 : decode cL_law 483 = .ok (.iconst 2, 1) := by decide +kernel
theorem dL_law_484 : decode cL_law 484 = .ok (.iadd, 1) := by decide +kernel
theorem dL_law_485 : decode cL_law 485 = .ok (.iaload, 1) := by decide +kernel
theorem dL_law_486 : decode cL_law 486 = .ok (.invokevirtual 175, 3) := by decide +kernel
theorem dL_law_489 : decode cL_law 489 = .ok (.istore 7, 2) := by decide +kernel
theorem dL_law_491 : decode cL_law 491 = .ok (.aload_n 2, 1) := by decide +kernel
theorem dL_law_492 : decode cL_law 492 = .ok (.invokevirtual 162, 3) := by decide +kernel
theorem dL_law_495 : decode cL_law 495 = .ok (.iload 6, 2) := by decide +kernel
theorem dL_law_497 : decode cL_law 497 = .ok (.if_icmp .eq 5, 3) := by decide +kernel
theorem dL_law_500 : decode cL_law 500 = .ok (.iconst 0, 1) := by decide +kernel
theorem dL_law_501 : decode cL_law 501 = .ok (.ireturn, 1) := by decide +kernel
theorem dL_law_502 : decode cL_law 502 = .ok (.iload 6, 2) := by decide +kernel
theorem dL_law_504 : decode cL_law 504 = .ok (.ifCond .ne 15, 3) := by decide +kernel
theorem dL_law_507 : decode cL_law 507 = .ok (.aload_n 3, 1) := by decide +kernel
theorem dL_law_508 : decode cL_law 508 = .ok (.iconst 0, 1) := by decide +kernel
theorem dL_law_509 : decode cL_law 509 = .ok (.laload, 1) := by decide +kernel
theorem dL_law_510 : decode cL_law 510 = .ok (.iload 7, 2) := by decide +kernel
theorem dL_law_512 : decode cL_law 512 = .ok (.i2l, 1) := by decide +kernel
theorem dL_law_513 : decode cL_law 513 = .ok (.lcmp, 1) := by decide +kernel
theorem dL_law_514 : decode cL_law 514 = .ok (.ifCond .eq 5, 3) := by decide +kernel
theorem dL_law_517 : decode cL_law 517 = .ok (.iconst 0, 1) := by decide +kernel
theorem dL_law_518 : decode cL_law 518 = .ok (.ireturn, 1) := by decide +kernel
theorem dL_law_519 : decode cL_law 519 = .ok (.goto 2335, 3) := by decide +kernel
theorem dL_law_522 : decode cL_law 522 = .ok (.aload_n 1, 1) := by decide +kernel
theorem dL_law_523 : decode cL_law 523 = .ok (.aload_n 0, 1) := by decide +kernel
theorem dL_law_524 : decode cL_law 524 = .ok (.iload 5, 2) := by decide +kernel
theorem dL_law_526 : decode cL_law 526 = .ok (.iconst 1, 1) := by decide +kernel
theorem dL_law_527 : decode cL_law 527 = .ok (.iadd, 1) := by decide +kernel
theorem dL_law_528 : decode cL_law 528 = .ok (.iaload, 1) := by decide +kernel
theorem dL_law_529 : decode cL_law 529 = .ok (.aload_n 0, 1) := by decide +kernel
theorem dL_law_530 : decode cL_law 530 = .ok (.iload 5, 2) := by decide +kernel
theorem dL_law_532 : decode cL_law 532 = .ok (.iconst 2, 1) := by decide +kernel
theorem dL_law_533 : decode cL_law 533 = .ok (.iadd, 1) := by decide +kernel
theorem dL_law_534 : decode cL_law 534 = .ok (.iaload, 1) := by decide +kernel
theorem dL_law_535 : decode cL_law 535 = .ok (.aload_n 3, 1) := by decide +kernel
theorem dL_law_536 : decode cL_law 536 = .ok (.invokestatic 176, 3) := by decide +kernel
theorem dL_law_539 : decode cL_law 539 = .ok (.istore 6, 2) := by decide +kernel
theorem dL_law_541 : decode cL_law 541 = .ok (.aload_n 2, 1) := by decide +kernel
theorem dL_law_542 : decode cL_law 542 = .ok (.aload_n 0, 1) := by decide +kernel
theorem dL_law_543 : decode cL_law 543 = .ok (.iload 5, 2) := by decide +kernel
theorem dL_law_545 : decode cL_law 545 = .ok (.iconst 1, 1) := by decide +kernel
theorem dL_law_546 : decode cL_law 546 = .ok (.iadd, 1) := by decide +kernel
theorem dL_law_547 : decode cL_law 547 = .ok (.iaload, 1) := by decide +kernel
theorem dL_law_548 : decode cL_law 548 = .ok (.aload_n 0, 1) := by decide +kernel
theorem dL_law_549 : decode cL_law 549 = .ok (.iload 5, 2) := by decide +kernel
theorem dL_law_551 : decode cL_law 551 = .ok (.iconst 2, 1) := by decide +kernel
theorem dL_law_552 : decode cL_law 552 = .ok (.iadd, 1) := by decide +kernel
theorem dL_law_553 : decode cL_law 553 = .ok (.iaload, 1) := by decide +kernel
theorem dL_law_554 : decode cL_law 554 = .ok (.invokevirtual 178, 3) := by decide +kernel
theorem dL_law_557 : decode cL_law 557 = .ok (.istore 7, 2) := by decide +kernel
theorem dL_law_559 : decode cL_law 559 = .ok (.aload_n 2, 1) := by decide +kernel
theorem dL_law_560 : decode cL_law 560 = .ok (.invokevirtual 162, 3) := by decide +kernel
theorem dL_law_563 : decode cL_law 563 = .ok (.iload 6, 2) := by decide +kernel
theorem dL_law_565 : decode cL_law 565 = .ok (.if_icmp .eq 5, 3) := by decide +kernel
theorem dL_law_568 : decode cL_law 568 = .ok (.iconst 0, 1) := by decide +kernel
theorem dL_law_569 : decode cL_law 569 = .ok (.ireturn, 1) := by decide +kernel
theorem dL_law_570 : decode cL_law 570 = .ok (.iload 6, 2) := by decide +kernel
theorem dL_law_572 : decode cL_law 572 = .ok (.ifCond .ne 15, 3) := by decide +kernel
theorem dL_law_575 : decode cL_law 575 = .ok (.aload_n 3, 1) := by decide +kernel
theorem dL_law_576 : decode cL_law 576 = .ok (.iconst 0, 1) := by decide +kernel
theorem dL_law_577 : decode cL_law 577 = .ok (.laload, 1) := by decide +kernel
theorem dL_law_578 : decode cL_law 578 = .ok (.iload 7, 2) := by decide +kernel
theorem dL_law_580 : decode cL_law 580 = .ok (.i2l, 1) := by decide +kernel
theorem dL_law_581 : decode cL_law 581 = .ok (.lcmp, 1) := by decide +kernel
theorem dL_law_582 : decode cL_law 582 = .ok (.ifCond .eq 5, 3) := by decide +kernel
theorem dL_law_585 : decode cL_law 585 = .ok (.iconst 0, 1) := by decide +kernel
theorem dL_law_586 : decode cL_law 586 = .ok (.ireturn, 1) := by decide +kernel
theorem dL_law_587 : decode cL_law 587 = .ok (.goto 2267, 3) := by decide +kernel
theorem dL_law_590 : decode cL_law 590 = .ok (.aload_n 1, 1) := by decide +kernel
theorem dL_law_591 : decode cL_law 591 = .ok (.aload_n 0, 1) := by decide +kernel
theorem dL_law_592 : decode cL_law 592 = .ok (.iload 5, 2) := by decide +kernel
theorem dL_law_594 : decode cL_law 594 = .ok (.iconst 1, 1) := by decide +kernel
theorem dL_law_595 : decode cL_law 595 = .ok (.iadd, 1) := by decide +kernel
theorem dL_law_596 : decode cL_law 596 = .ok (.iaload, 1) := by decide +kernel
theorem dL_law_597 : decode cL_law 597 = .ok (.aload_n 0, 1) := by decide +kernel
theorem dL_law_598 : decode cL_law 598 = .ok (.iload 5, 2) := by decide +kernel
theorem dL_law_600 : decode cL_law 600 = .ok (.iconst 2, 1) := by decide +kernel
theorem dL_law_601 : decode cL_law 601 = .ok (.iadd, 1) := by decide +kernel
theorem dL_law_602 : decode cL_law 602 = .ok (.iaload, 1) := by decide +kernel
theorem dL_law_603 : decode cL_law 603 = .ok (.aload_n 0, 1) := by decide +kernel
theorem dL_law_604 : decode cL_law 604 = .ok (.iload 5, 2) := by decide +kernel
theorem dL_law_606 : decode cL_law 606 = .ok (.iconst 3, 1) := by decide +kernel
theorem dL_law_607 : decode cL_law 607 = .ok (.iadd, 1) := by decide +kernel
theorem dL_law_608 : decode cL_law 608 = .ok (.iaload, 1) := by decide +kernel
theorem dL_law_609 : decode cL_law 609 = .ok (.aload_n 3, 1) := by decide +kernel
theorem dL_law_610 : decode cL_law 610 = .ok (.invokestatic 179, 3) := by decide +kernel
theorem dL_law_613 : decode cL_law 613 = .ok (.istore 6, 2) := by decide +kernel
theorem dL_law_615 : decode cL_law 615 = .ok (.aload_n 2, 1) := by decide +kernel
theorem dL_law_616 : decode cL_law 616 = .ok (.aload_n 0, 1) := by decide +kernel
theorem dL_law_617 : decode cL_law 617 = .ok (.iload 5, 2) := by decide +kernel
theorem dL_law_619 : decode cL_law 619 = .ok (.iconst 1, 1) := by decide +kernel
theorem dL_law_620 : decode cL_law 620 = .ok (.iadd, 1) := by decide +kernel
theorem dL_law_621 : decode cL_law 621 = .ok (.iaload, 1) := by decide +kernel
theorem dL_law_622 : decode cL_law 622 = .ok (.aload_n 0, 1) := by decide +kernel
theorem dL_law_623 : decode cL_law 623 = .ok (.iload 5, 2) := by decide +kernel
theorem dL_law_625 : decode cL_law 625 = .ok (.iconst 2, 1) := by decide +kernel
theorem dL_law_626 : decode cL_law 626 = .ok (.iadd, 1) := by decide +kernel
theorem dL_law_627 : decode cL_law 627 = .ok (.iaload, 1) := by decide +kernel
theorem dL_law_628 : decode cL_law 628 = .ok (.aload_n 0, 1) := by decide +kernel
theorem dL_law_629 : decode cL_law 629 = .ok (.iload 5, 2) := by decide +kernel
theorem dL_law_631 : decode cL_law 631 = .ok (.iconst 3, 1) := by decide +kernel
theorem dL_law_632 : decode cL_law 632 = .ok (.iadd, 1) := by decide +kernel
theorem dL_law_633 : decode cL_law 633 = .ok (.iaload, 1) := by decide +kernel
theorem dL_law_634 : decode cL_law 634 = .ok (.invokevirtual 182, 3) := by decide +kernel
theorem dL_law_637 : decode cL_law 637 = .ok (.istore 7, 2) := by decide +kernel
theorem dL_law_639 : decode cL_law 639 = .ok (.aload_n 2, 1) := by decide +kernel
theorem dL_law_640 : decode cL_law 640 = .ok (.invokevirtual 162, 3) := by decide +kernel
theorem dL_law_643 : decode cL_law 643 = .ok (.iload 6, 2) := by decide +kernel
theorem dL_law_645 : decode cL_law 645 = .ok (.if_icmp .eq 5, 3) := by decide +kernel
theorem dL_law_648 : decode cL_law 648 = .ok (.iconst 0, 1) := by decide +kernel
theorem dL_law_649 : decode cL_law 649 = .ok (.ireturn, 1) := by decide +kernel
theorem dL_law_650 : decode cL_law 650 = .ok (.iload 6, 2) := by decide +kernel
theorem dL_law_652 : decode cL_law 652 = .ok (.ifCond .ne 15, 3) := by decide +kernel
theorem dL_law_655 : decode cL_law 655 = .ok (.aload_n 3, 1) := by decide +kernel
theorem dL_law_656 : decode cL_law 656 = .ok (.iconst 0, 1) := by decide +kernel
theorem dL_law_657 : decode cL_law 657 = .ok (.laload, 1) := by decide +kernel
theorem dL_law_658 : decode cL_law 658 = .ok (.iload 7, 2) := by decide +kernel
theorem dL_law_660 : decode cL_law 660 = .ok (.i2l, 1) := by decide +kernel
theorem dL_law_661 : decode cL_law 661 = .ok (.lcmp, 1) := by decide +kernel
theorem dL_law_662 : decode cL_law 662 = .ok (.ifCond .eq 5, 3) := by decide +kernel
theorem dL_law_665 : decode cL_law 665 = .ok (.iconst 0, 1) := by decide +kernel
theorem dL_law_666 : decode cL_law 666 = .ok (.ireturn, 1) := by decide +kernel
theorem dL_law_667 : decode cL_law 667 = .ok (.goto 2187, 3) := by decide +kernel
theorem dL_law_670 : decode cL_law 670 = .ok (.aload_n 1, 1) := by decide +kernel
theorem dL_law_671 : decode cL_law 671 = .ok (.aload_n 0, 1) := by decide +kernel
theorem dL_law_672 : decode cL_law 672 = .ok (.iload 5, 2) := by decide +kernel
theorem dL_law_674 : decode cL_law 674 = .ok (.iconst 1, 1) := by decide +kernel
theorem dL_law_675 : decode cL_law 675 = .ok (.iadd, 1) := by decide +kernel
theorem dL_law_676 : decode cL_law 676 = .ok (.iaload, 1) := by decide +kernel
theorem dL_law_677 : decode cL_law 677 = .ok (.aload_n 0, 1) := by decide +kernel
theorem dL_law_678 : decode cL_law 678 = .ok (.iload 5, 2) := by decide +kernel
theorem dL_law_680 : decode cL_law 680 = .ok (.iconst 2, 1) := by decide +kernel
theorem dL_law_681 : decode cL_law 681 = .ok (.iadd, 1) := by decide +kernel
theorem dL_law_682 : decode cL_law 682 = .ok (.iaload, 1) := by decide +kernel
theorem dL_law_683 : decode cL_law 683 = .ok (.aload_n 3, 1) := by decide +kernel
theorem dL_law_684 : decode cL_law 684 = .ok (.invokestatic 183, 3) := by decide +kernel
theorem dL_law_687 : decode cL_law 687 = .ok (.istore 6, 2) := by decide +kernel
theorem dL_law_689 : decode cL_law 689 = .ok (.aload_n 2, 1) := by decide +kernel
theorem dL_law_690 : decode cL_law 690 = .ok (.aload_n 0, 1) := by decide +kernel
theorem dL_law_691 : decode cL_law 691 = .ok (.iload 5, 2) := by decide +kernel
theorem dL_law_693 : decode cL_law 693 = .ok (.iconst 1, 1) := by decide +kernel
theorem dL_law_694 : decode cL_law 694 = .ok (.iadd, 1) := by decide +kernel
theorem dL_law_695 : decode cL_law 695 = .ok (.iaload, 1) := by decide +kernel
theorem dL_law_696 : decode cL_law 696 = .ok (.aload_n 0, 1) := by decide +kernel
theorem dL_law_697 : decode cL_law 697 = .ok (.iload 5, 2) := by decide +kernel
theorem dL_law_699 : decode cL_law 699 = .ok (.iconst 2, 1) := by decide +kernel
theorem dL_law_700 : decode cL_law 700 = .ok (.iadd, 1) := by decide +kernel
theorem dL_law_701 : decode cL_law 701 = .ok (.iaload, 1) := by decide +kernel
theorem dL_law_702 : decode cL_law 702 = .ok (.invokevirtual 185, 3) := by decide +kernel
theorem dL_law_705 : decode cL_law 705 = .ok (.istore 7, 2) := by decide +kernel
theorem dL_law_707 : decode cL_law 707 = .ok (.aload_n 2, 1) := by decide +kernel
theorem dL_law_708 : decode cL_law 708 = .ok (.invokevirtual 162, 3) := by decide +kernel
theorem dL_law_711 : decode cL_law 711 = .ok (.iload 6, 2) := by decide +kernel
theorem dL_law_713 : decode cL_law 713 = .ok (.if_icmp .eq 5, 3) := by decide +kernel
theorem dL_law_716 : decode cL_law 716 = .ok (.iconst 0, 1) := by decide +kernel
theorem dL_law_717 : decode cL_law 717 = .ok (.ireturn, 1) := by decide +kernel
theorem dL_law_718 : decode cL_law 718 = .ok (.iload 6, 2) := by decide +kernel
theorem dL_law_720 : decode cL_law 720 = .ok (.ifCond .ne 15, 3) := by decide +kernel
theorem dL_law_723 : decode cL_law 723 = .ok (.aload_n 3, 1) := by decide +kernel
theorem dL_law_724 : decode cL_law 724 = .ok (.iconst 0, 1) := by decide +kernel
theorem dL_law_725 : decode cL_law 725 = .ok (.laload, 1) := by decide +kernel
theorem dL_law_726 : decode cL_law 726 = .ok (.iload 7, 2) := by decide +kernel
theorem dL_law_728 : decode cL_law 728 = .ok (.i2l, 1) := by decide +kernel
theorem dL_law_729 : decode cL_law 729 = .ok (.lcmp, 1) := by decide +kernel
theorem dL_law_730 : decode cL_law 730 = .ok (.ifCond .eq 5, 3) := by decide +kernel
theorem dL_law_733 : decode cL_law 733 = .ok (.iconst 0, 1) := by decide +kernel
theorem dL_law_734 : decode cL_law 734 = .ok (.ireturn, 1) := by decide +kernel
theorem dL_law_735 : decode cL_law 735 = .ok (.goto 2119, 3) := by decide +kernel
theorem dL_law_738 : decode cL_law 738 = .ok (.aload_n 1, 1) := by decide +kernel
theorem dL_law_739 : decode cL_law 739 = .ok (.aload_n 0, 1) := by decide +kernel
theorem dL_law_740 : decode cL_law 740 = .ok (.iload 5, 2) := by decide +kernel
theorem dL_law_742 : decode cL_law 742 = .ok (.iconst 1, 1) := by decide +kernel
theorem dL_law_743 : decode cL_law 743 = .ok (.iadd, 1) := by decide +kernel
theorem dL_law_744 : decode cL_law 744 = .ok (.iaload, 1) := by decide +kernel
theorem dL_law_745 : decode cL_law 745 = .ok (.aload_n 0, 1) := by decide +kernel
theorem dL_law_746 : decode cL_law 746 = .ok (.iload 5, 2) := by decide +kernel
theorem dL_law_748 : decode cL_law 748 = .ok (.iconst 2, 1) := by decide +kernel
theorem dL_law_749 : decode cL_law 749 = .ok (.iadd, 1) := by decide +kernel
theorem dL_law_750 : decode cL_law 750 = .ok (.iaload, 1) := by decide +kernel
theorem dL_law_751 : decode cL_law 751 = .ok (.aload_n 0, 1) := by decide +kernel
theorem dL_law_752 : decode cL_law 752 = .ok (.iload 5, 2) := by decide +kernel
theorem dL_law_754 : decode cL_law 754 = .ok (.iconst 3, 1) := by decide +kernel
theorem dL_law_755 : decode cL_law 755 = .ok (.iadd, 1) := by decide +kernel
theorem dL_law_756 : decode cL_law 756 = .ok (.iaload, 1) := by decide +kernel
theorem dL_law_757 : decode cL_law 757 = .ok (.aload_n 3, 1) := by decide +kernel
theorem dL_law_758 : decode cL_law 758 = .ok (.invokestatic 186, 3) := by decide +kernel
theorem dL_law_761 : decode cL_law 761 = .ok (.istore 6, 2) := by decide +kernel
theorem dL_law_763 : decode cL_law 763 = .ok (.aload_n 2, 1) := by decide +kernel
theorem dL_law_764 : decode cL_law 764 = .ok (.aload_n 0, 1) := by decide +kernel
theorem dL_law_765 : decode cL_law 765 = .ok (.iload 5, 2) := by decide +kernel
theorem dL_law_767 : decode cL_law 767 = .ok (.iconst 1, 1) := by decide +kernel
theorem dL_law_768 : decode cL_law 768 = .ok (.iadd, 1) := by decide +kernel
theorem dL_law_769 : decode cL_law 769 = .ok (.iaload, 1) := by decide +kernel
theorem dL_law_770 : decode cL_law 770 = .ok (.aload_n 0, 1) := by decide +kernel
theorem dL_law_771 : decode cL_law 771 = .ok (.iload 5, 2) := by decide +kernel
theorem dL_law_773 : decode cL_law 773 = .ok (.iconst 2, 1) := by decide +kernel
theorem dL_law_774 : decode cL_law 774 = .ok (.iadd, 1) := by decide +kernel
theorem dL_law_775 : decode cL_law 775 = .ok (.iaload, 1) := by decide +kernel
theorem dL_law_776 : decode cL_law 776 = .ok (.aload_n 0, 1) := by decide +kernel
theorem dL_law_777 : decode cL_law 777 = .ok (.iload 5, 2) := by decide +kernel
theorem dL_law_779 : decode cL_law 779 = .ok (.iconst 3, 1) := by decide +kernel
theorem dL_law_780 : decode cL_law 780 = .ok (.iadd, 1) := by decide +kernel
theorem dL_law_781 : decode cL_law 781 = .ok (.iaload, 1) := by decide +kernel
theorem dL_law_782 : decode cL_law 782 = .ok (.invokevirtual 188, 3) := by decide +kernel
theorem dL_law_785 : decode cL_law 785 = .ok (.istore 7, 2) := by decide +kernel
theorem dL_law_787 : decode cL_law 787 = .ok (.aload_n 2, 1) := by decide +kernel
theorem dL_law_788 : decode cL_law 788 = .ok (.invokevirtual 162, 3) := by decide +kernel
theorem dL_law_791 : decode cL_law 791 = .ok (.iload 6, 2) := by decide +kernel
theorem dL_law_793 : decode cL_law 793 = .ok (.if_icmp .eq 5, 3) := by decide +kernel
theorem dL_law_796 : decode cL_law 796 = .ok (.iconst 0, 1) := by decide +kernel
theorem dL_law_797 : decode cL_law 797 = .ok (.ireturn, 1) := by decide +kernel
theorem dL_law_798 : decode cL_law 798 = .ok (.iload 6, 2) := by decide +kernel
theorem dL_law_800 : decode cL_law 800 = .ok (.ifCond .ne 15, 3) := by decide +kernel
theorem dL_law_803 : decode cL_law 803 = .ok (.aload_n 3, 1) := by decide +kernel
theorem dL_law_804 : decode cL_law 804 = .ok (.iconst 0, 1) := by decide +kernel
theorem dL_law_805 : decode cL_law 805 = .ok (.laload, 1) := by decide +kernel
theorem dL_law_806 : decode cL_law 806 = .ok (.iload 7, 2) := by decide +kernel
theorem dL_law_808 : decode cL_law 808 = .ok (.i2l, 1) := by decide +kernel
theorem dL_law_809 : decode cL_law 809 = .ok (.lcmp, 1) := by decide +kernel
theorem dL_law_810 : decode cL_law 810 = .ok (.ifCond .eq 5, 3) := by decide +kernel
theorem dL_law_813 : decode cL_law 813 = .ok (.iconst 0, 1) := by decide +kernel
theorem dL_law_814 : decode cL_law 814 = .ok (.ireturn, 1) := by decide +kernel
theorem dL_law_815 : decode cL_law 815 = .ok (.goto 2039, 3) := by decide +kernel
theorem dL_law_818 : decode cL_law 818 = .ok (.aload_n 1, 1) := by decide +kernel
theorem dL_law_819 : decode cL_law 819 = .ok (.aload_n 0, 1) := by decide +kernel
theorem dL_law_820 : decode cL_law 820 = .ok (.iload 5, 2) := by decide +kernel
theorem dL_law_822 : decode cL_law 822 = .ok (.iconst 1, 1) := by decide +kernel
theorem dL_law_823 : decode cL_law 823 = .ok (.iadd, 1) := by decide +kernel
theorem dL_law_824 : decode cL_law 824 = .ok (.iaload, 1) := by decide +kernel
theorem dL_law_825 : decode cL_law 825 = .ok (.aload_n 3, 1) := by decide +kernel
theorem dL_law_826 : decode cL_law 826 = .ok (.invokestatic 189, 3) := by decide +kernel
theorem dL_law_829 : decode cL_law 829 = .ok (.istore 6, 2) := by decide +kernel
theorem dL_law_831 : decode cL_law 831 = .ok (.aload_n 2, 1) := by decide +kernel
theorem dL_law_832 : decode cL_law 832 = .ok (.aload_n 0, 1) := by decide +kernel
theorem dL_law_833 : decode cL_law 833 = .ok (.iload 5, 2) := by decide +kernel
theorem dL_law_835 : decode cL_law 835 = .ok (.iconst 1, 1) := by decide +kernel
theorem dL_law_836 : decode cL_law 836 = .ok (.iadd, 1) := by decide +kernel
theorem dL_law_837 : decode cL_law 837 = .ok (.iaload, 1) := by decide +kernel
theorem dL_law_838 : decode cL_law 838 = .ok (.invokevirtual 191, 3) := by decide +kernel
theorem dL_law_841 : decode cL_law 841 = .ok (.istore 7, 2) := by decide +kernel
theorem dL_law_843 : decode cL_law 843 = .ok (.aload_n 2, 1) := by decide +kernel
theorem dL_law_844 : decode cL_law 844 = .ok (.invokevirtual 162, 3) := by decide +kernel
theorem dL_law_847 : decode cL_law 847 = .ok (.iload 6, 2) := by decide +kernel
theorem dL_law_849 : decode cL_law 849 = .ok (.if_icmp .eq 5, 3) := by decide +kernel
theorem dL_law_852 : decode cL_law 852 = .ok (.iconst 0, 1) := by decide +kernel
theorem dL_law_853 : decode cL_law 853 = .ok (.ireturn, 1) := by decide +kernel
theorem dL_law_854 : decode cL_law 854 = .ok (.iload 6, 2) := by decide +kernel
theorem dL_law_856 : decode cL_law 856 = .ok (.ifCond .ne 15, 3) := by decide +kernel
theorem dL_law_859 : decode cL_law 859 = .ok (.aload_n 3, 1) := by decide +kernel
theorem dL_law_860 : decode cL_law 860 = .ok (.iconst 0, 1) := by decide +kernel
theorem dL_law_861 : decode cL_law 861 = .ok (.laload, 1) := by decide +kernel
theorem dL_law_862 : decode cL_law 862 = .ok (.iload 7, 2) := by decide +kernel
theorem dL_law_864 : decode cL_law 864 = .ok (.i2l, 1) := by decide +kernel
theorem dL_law_865 : decode cL_law 865 = .ok (.lcmp, 1) := by decide +kernel
theorem dL_law_866 : decode cL_law 866 = .ok (.ifCond .eq 5, 3) := by decide +kernel
theorem dL_law_869 : decode cL_law 869 = .ok (.iconst 0, 1) := by decide +kernel
theorem dL_law_870 : decode cL_law 870 = .ok (.ireturn, 1) := by decide +kernel
theorem dL_law_871 : decode cL_law 871 = .ok (.goto 1983, 3) := by decide +kernel
theorem dL_law_874 : decode cL_law 874 = .ok (.aload_n 1, 1) := by decide +kernel
theorem dL_law_875 : decode cL_law 875 = .ok (.aload_n 0, 1) := by decide +kernel
theorem dL_law_876 : decode cL_law 876 = .ok (.iload 5, 2) := by decide +kernel
theorem dL_law_878 : decode cL_law 878 = .ok (.iconst 1, 1) := by decide +kernel
theorem dL_law_879 : decode cL_law 879 = .ok (.iadd, 1) := by decide +kernel
theorem dL_law_880 : decode cL_law 880 = .ok (.iaload, 1) := by decide +kernel
theorem dL_law_881 : decode cL_law 881 = .ok (.aload_n 0, 1) := by decide +kernel
theorem dL_law_882 : decode cL_law 882 = .ok (.iload 5, 2) := by decide +kernel
theorem dL_law_884 : decode cL_law 884 = .ok (.iconst 2, 1) := by decide +kernel
theorem dL_law_885 : decode cL_law 885 = .ok (.iadd, 1) := by decide +kernel
theorem dL_law_886 : decode cL_law 886 = .ok (.iaload, 1) := by decide +kernel
theorem dL_law_887 : decode cL_law 887 = .ok (.aload_n 3, 1) := by decide +kernel
theorem dL_law_888 : decode cL_law 888 = .ok (.invokestatic 192, 3) := by decide +kernel
theorem dL_law_891 : decode cL_law 891 = .ok (.istore 6, 2) := by decide +kernel
theorem dL_law_893 : decode cL_law 893 = .ok (.aload_n 2, 1) := by decide +kernel
theorem dL_law_894 : decode cL_law 894 = .ok (.aload_n 0, 1) := by decide +kernel
theorem dL_law_895 : decode cL_law 895 = .ok (.iload 5, 2) := by decide +kernel
theorem dL_law_897 : decode cL_law 897 = .ok (.iconst 1, 1) := by decide +kernel
theorem dL_law_898 : decode cL_law 898 = .ok (.iadd, 1) := by decide +kernel
theorem dL_law_899 : decode cL_law 899 = .ok (.iaload, 1) := by decide +kernel
theorem dL_law_900 : decode cL_law 900 = .ok (.aload_n 0, 1) := by decide +kernel
theorem dL_law_901 : decode cL_law 901 = .ok (.iload 5, 2) := by decide +kernel
theorem dL_law_903 : decode cL_law 903 = .ok (.iconst 2, 1) := by decide +kernel
theorem dL_law_904 : decode cL_law 904 = .ok (.iadd, 1) := by decide +kernel
theorem dL_law_905 : decode cL_law 905 = .ok (.iaload, 1) := by decide +kernel
theorem dL_law_906 : decode cL_law 906 = .ok (.invokevirtual 194, 3) := by decide +kernel
theorem dL_law_909 : decode cL_law 909 = .ok (.istore 7, 2) := by decide +kernel
theorem dL_law_911 : decode cL_law 911 = .ok (.aload_n 2, 1) := by decide +kernel
theorem dL_law_912 : decode cL_law 912 = .ok (.invokevirtual 162, 3) := by decide +kernel
theorem dL_law_915 : decode cL_law 915 = .ok (.iload 6, 2) := by decide +kernel
theorem dL_law_917 : decode cL_law 917 = .ok (.if_icmp .eq 5, 3) := by decide +kernel
theorem dL_law_920 : decode cL_law 920 = .ok (.iconst 0, 1) := by decide +kernel
theorem dL_law_921 : decode cL_law 921 = .ok (.ireturn, 1) := by decide +kernel
theorem dL_law_922 : decode cL_law 922 = .ok (.iload 6, 2) := by decide +kernel
theorem dL_law_924 : decode cL_law 924 = .ok (.ifCond .ne 15, 3) := by decide +kernel
theorem dL_law_927 : decode cL_law 927 = .ok (.aload_n 3, 1) := by decide +kernel
theorem dL_law_928 : decode cL_law 928 = .ok (.iconst 0, 1) := by decide +kernel
theorem dL_law_929 : decode cL_law 929 = .ok (.laload, 1) := by decide +kernel
theorem dL_law_930 : decode cL_law 930 = .ok (.iload 7, 2) := by decide +kernel
theorem dL_law_932 : decode cL_law 932 = .ok (.i2l, 1) := by decide +kernel
theorem dL_law_933 : decode cL_law 933 = .ok (.lcmp, 1) := by decide +kernel
theorem dL_law_934 : decode cL_law 934 = .ok (.ifCond .eq 5, 3) := by decide +kernel
theorem dL_law_937 : decode cL_law 937 = .ok (.iconst 0, 1) := by decide +kernel
theorem dL_law_938 : decode cL_law 938 = .ok (.ireturn, 1) := by decide +kernel
theorem dL_law_939 : decode cL_law 939 = .ok (.goto 1915, 3) := by decide +kernel
theorem dL_law_942 : decode cL_law 942 = .ok (.aload_n 1, 1) := by decide +kernel
theorem dL_law_943 : decode cL_law 943 = .ok (.aload_n 0, 1) := by decide +kernel
theorem dL_law_944 : decode cL_law 944 = .ok (.iload 5, 2) := by decide +kernel
theorem dL_law_946 : decode cL_law 946 = .ok (.iconst 1, 1) := by decide +kernel
theorem dL_law_947 : decode cL_law 947 = .ok (.iadd, 1) := by decide +kernel
theorem dL_law_948 : decode cL_law 948 = .ok (.iaload, 1) := by decide +kernel
theorem dL_law_949 : decode cL_law 949 = .ok (.aload_n 0, 1) := by decide +kernel
theorem dL_law_950 : decode cL_law 950 = .ok (.iload 5, 2) := by decide +kernel
theorem dL_law_952 : decode cL_law 952 = .ok (.iconst 2, 1) := by decide +kernel
theorem dL_law_953 : decode cL_law 953 = .ok (.iadd, 1) := by decide +kernel
theorem dL_law_954 : decode cL_law 954 = .ok (.iaload, 1) := by decide +kernel
theorem dL_law_955 : decode cL_law 955 = .ok (.aload_n 0, 1) := by decide +kernel
theorem dL_law_956 : decode cL_law 956 = .ok (.iload 5, 2) := by decide +kernel
theorem dL_law_958 : decode cL_law 958 = .ok (.iconst 3, 1) := by decide +kernel
theorem dL_law_959 : decode cL_law 959 = .ok (.iadd, 1) := by decide +kernel
theorem dL_law_960 : decode cL_law 960 = .ok (.iaload, 1) := by decide +kernel
theorem dL_law_961 : decode cL_law 961 = .ok (.aload_n 3, 1) := by decide +kernel
theorem dL_law_962 : decode cL_law 962 = .ok (.invokestatic 195, 3) := by decide +kernel
theorem dL_law_965 : decode cL_law 965 = .ok (.istore 6, 2) := by decide +kernel
theorem dL_law_967 : decode cL_law 967 = .ok (.aload_n 2, 1) := by decide +kernel
theorem dL_law_968 : decode cL_law 968 = .ok (.aload_n 0, 1) := by decide +kernel
theorem dL_law_969 : decode cL_law 969 = .ok (.iload 5, 2) := by decide +kernel
theorem dL_law_971 : decode cL_law 971 = .ok (.iconst 1, 1) := by decide +kernel
theorem dL_law_972 : decode cL_law 972 = .ok (.iadd, 1) := by decide +kernel
theorem dL_law_973 : decode cL_law 973 = .ok (.iaload, 1) := by decide +kernel
theorem dL_law_974 : decode cL_law 974 = .ok (.aload_n 0, 1) := by decide +kernel
theorem dL_law_975 : decode cL_law 975 = .ok (.iload 5, 2) := by decide +kernel
theorem dL_law_977 : decode cL_law 977 = .ok (.iconst 2, 1) := by decide +kernel
theorem dL_law_978 : decode cL_law 978 = .ok (.iadd, 1) := by decide +kernel
theorem dL_law_979 : decode cL_law 979 = .ok (.iaload, 1) := by decide +kernel
theorem dL_law_980 : decode cL_law 980 = .ok (.aload_n 0, 1) := by decide +kernel
theorem dL_law_981 : decode cL_law 981 = .ok (.iload 5, 2) := by decide +kernel
theorem dL_law_983 : decode cL_law 983 = .ok (.iconst 3, 1) := by decide +kernel
theorem dL_law_984 : decode cL_law 984 = .ok (.iadd, 1) := by decide +kernel
theorem dL_law_985 : decode cL_law 985 = .ok (.iaload, 1) := by decide +kernel
theorem dL_law_986 : decode cL_law 986 = .ok (.invokevirtual 197, 3) := by decide +kernel
theorem dL_law_989 : decode cL_law 989 = .ok (.istore 7, 2) := by decide +kernel
theorem dL_law_991 : decode cL_law 991 = .ok (.aload_n 2, 1) := by decide +kernel
theorem dL_law_992 : decode cL_law 992 = .ok (.invokevirtual 162, 3) := by decide +kernel
theorem dL_law_995 : decode cL_law 995 = .ok (.iload 6, 2) := by decide +kernel
theorem dL_law_997 : decode cL_law 997 = .ok (.if_icmp .eq 5, 3) := by decide +kernel
theorem dL_law_1000 : decode cL_law 1000 = .ok (.iconst 0, 1) := by decide +kernel
theorem dL_law_1001 : decode cL_law 1001 = .ok (.ireturn, 1) := by decide +kernel
theorem dL_law_1002 : decode cL_law 1002 = .ok (.iload 6, 2) := by decide +kernel
theorem dL_law_1004 : decode cL_law 1004 = .ok (.ifCond .ne 15, 3) := by decide +kernel
theorem dL_law_1007 : decode cL_law 1007 = .ok (.aload_n 3, 1) := by decide +kernel
theorem dL_law_1008 : decode cL_law 1008 = .ok (.iconst 0, 1) := by decide +kernel
theorem dL_law_1009 : decode cL_law 1009 = .ok (.laload, 1) := by decide +kernel
theorem dL_law_1010 : decode cL_law 1010 = .ok (.iload 7, 2) := by decide +kernel
theorem dL_law_1012 : decode cL_law 1012 = .ok (.i2l, 1) := by decide +kernel
theorem dL_law_1013 : decode cL_law 1013 = .ok (.lcmp, 1) := by decide +kernel
theorem dL_law_1014 : decode cL_law 1014 = .ok (.ifCond .eq 5, 3) := by decide +kernel
theorem dL_law_1017 : decode cL_law 1017 = .ok (.iconst 0, 1) := by decide +kernel
theorem dL_law_1018 : decode cL_law 1018 = .ok (.ireturn, 1) := by decide +kernel
theorem dL_law_1019 : decode cL_law 1019 = .ok (.goto 1835, 3) := by decide +kernel
theorem dL_law_1022 : decode cL_law 1022 = .ok (.aload_n 1, 1) := by decide +kernel
theorem dL_law_1023 : decode cL_law 1023 = .ok (.aload_n 0, 1) := by decide +kernel
theorem dL_law_1024 : decode cL_law 1024 = .ok (.iload 5, 2) := by decide +kernel
theorem dL_law_1026 : decode cL_law 1026 = .ok (.iconst 1, 1) := by decide +kernel
theorem dL_law_1027 : decode cL_law 1027 = .ok (.iadd, 1) := by decide +kernel
theorem dL_law_1028 : decode cL_law 1028 = .ok (.iaload, 1) := by decide +kernel
theorem dL_law_1029 : decode cL_law 1029 = .ok (.aload_n 3, 1) := by decide +kernel
theorem dL_law_1030 : decode cL_law 1030 = .ok (.invokestatic 198, 3) := by decide +kernel
theorem dL_law_1033 : decode cL_law 1033 = .ok (.istore 6, 2) := by decide +kernel
theorem dL_law_1035 : decode cL_law 1035 = .ok (.aload_n 2, 1) := by decide +kernel
theorem dL_law_1036 : decode cL_law 1036 = .ok (.aload_n 0, 1) := by decide +kernel
theorem dL_law_1037 : decode cL_law 1037 = .ok (.iload 5, 2) := by decide +kernel
theorem dL_law_1039 : decode cL_law 1039 = .ok (.iconst 1, 1) := by decide +kernel
theorem dL_law_1040 : decode cL_law 1040 = .ok (.iadd, 1) := by decide +kernel
theorem dL_law_1041 : decode cL_law 1041 = .ok (.iaload, 1) := by decide +kernel
theorem dL_law_1042 : decode cL_law 1042 = .ok (.invokevirtual 200, 3) := by decide +kernel
theorem dL_law_1045 : decode cL_law 1045 = .ok (.istore 7, 2) := by decide +kernel
theorem dL_law_1047 : decode cL_law 1047 = .ok (.aload_n 2, 1) := by decide +kernel
theorem dL_law_1048 : decode cL_law 1048 = .ok (.invokevirtual 162, 3) := by decide +kernel
theorem dL_law_1051 : decode cL_law 1051 = .ok (.iload 6, 2) := by decide +kernel
theorem dL_law_1053 : decode cL_law 1053 = .ok (.if_icmp .eq 5, 3) := by decide +kernel
theorem dL_law_1056 : decode cL_law 1056 = .ok (.iconst 0, 1) := by decide +kernel
theorem dL_law_1057 : decode cL_law 1057 = .ok (.ireturn, 1) := by decide +kernel
theorem dL_law_1058 : decode cL_law 1058 = .ok (.iload 6, 2) := by decide +kernel
theorem dL_law_1060 : decode cL_law 1060 = .ok (.ifCond .ne 15, 3) := by decide +kernel
theorem dL_law_1063 : decode cL_law 1063 = .ok (.aload_n 3, 1) := by decide +kernel
theorem dL_law_1064 : decode cL_law 1064 = .ok (.iconst 0, 1) := by decide +kernel
theorem dL_law_1065 : decode cL_law 1065 = .ok (.laload, 1) := by decide +kernel
theorem dL_law_1066 : decode cL_law 1066 = .ok (.iload 7, 2) := by decide +kernel
theorem dL_law_1068 : decode cL_law 1068 = .ok (.i2l, 1) := by decide +kernel
theorem dL_law_1069 : decode cL_law 1069 = .ok (.lcmp, 1) := by decide +kernel
theorem dL_law_1070 : decode cL_law 1070 = .ok (.ifCond .eq 5, 3) := by decide +kernel
theorem dL_law_1073 : decode cL_law 1073 = .ok (.iconst 0, 1) := by decide +kernel
theorem dL_law_1074 : decode cL_law 1074 = .ok (.ireturn, 1) := by decide +kernel
theorem dL_law_1075 : decode cL_law 1075 = .ok (.goto 1779, 3) := by decide +kernel
theorem dL_law_1078 : decode cL_law 1078 = .ok (.aload_n 1, 1) := by decide +kernel
theorem dL_law_1079 : decode cL_law 1079 = .ok (.aload_n 0, 1) := by decide +kernel
theorem dL_law_1080 : decode cL_law 1080 = .ok (.iload 5, 2) := by decide +kernel
theorem dL_law_1082 : decode cL_law 1082 = .ok (.iconst 1, 1) := by decide +kernel
theorem dL_law_1083 : decode cL_law 1083 = .ok (.iadd, 1) := by decide +kernel
theorem dL_law_1084 : decode cL_law 1084 = .ok (.iaload, 1) := by decide +kernel
theorem dL_law_1085 : decode cL_law 1085 = .ok (.aload_n 3, 1) := by decide +kernel
theorem dL_law_1086 : decode cL_law 1086 = .ok (.invokestatic 201, 3) := by decide +kernel
theorem dL_law_1089 : decode cL_law 1089 = .ok (.istore 6, 2) := by decide +kernel
theorem dL_law_1091 : decode cL_law 1091 = .ok (.aload_n 2, 1) := by decide +kernel
theorem dL_law_1092 : decode cL_law 1092 = .ok (.aload_n 0, 1) := by decide +kernel
theorem dL_law_1093 : decode cL_law 1093 = .ok (.iload 5, 2) := by decide +kernel
theorem dL_law_1095 : decode cL_law 1095 = .ok (.iconst 1, 1) := by decide +kernel
theorem dL_law_1096 : decode cL_law 1096 = .ok (.iadd, 1) := by decide +kernel
theorem dL_law_1097 : decode cL_law 1097 = .ok (.iaload, 1) := by decide +kernel
theorem dL_law_1098 : decode cL_law 1098 = .ok (.invokevirtual 203, 3) := by decide +kernel
theorem dL_law_1101 : decode cL_law 1101 = .ok (.istore 7, 2) := by decide +kernel
theorem dL_law_1103 : decode cL_law 1103 = .ok (.aload_n 2, 1) := by decide +kernel
theorem dL_law_1104 : decode cL_law 1104 = .ok (.invokevirtual 162, 3) := by decide +kernel
theorem dL_law_1107 : decode cL_law 1107 = .ok (.iload 6, 2) := by decide +kernel
theorem dL_law_1109 : decode cL_law 1109 = .ok (.if_icmp .eq 5, 3) := by decide +kernel
theorem dL_law_1112 : decode cL_law 1112 = .ok (.iconst 0, 1) := by decide +kernel
theorem dL_law_1113 : decode cL_law 1113 = .ok (.ireturn, 1) := by decide +kernel
theorem dL_law_1114 : decode cL_law 1114 = .ok (.iload 6, 2) := by decide +kernel
theorem dL_law_1116 : decode cL_law 1116 = .ok (.ifCond .ne 15, 3) := by decide +kernel
theorem dL_law_1119 : decode cL_law 1119 = .ok (.aload_n 3, 1) := by decide +kernel
theorem dL_law_1120 : decode cL_law 1120 = .ok (.iconst 0, 1) := by decide +kernel
theorem dL_law_1121 : decode cL_law 1121 = .ok (.laload, 1) := by decide +kernel
theorem dL_law_1122 : decode cL_law 1122 = .ok (.iload 7, 2) := by decide +kernel
theorem dL_law_1124 : decode cL_law 1124 = .ok (.i2l, 1) := by decide +kernel
theorem dL_law_1125 : decode cL_law 1125 = .ok (.lcmp, 1) := by decide +kernel
theorem dL_law_1126 : decode cL_law 1126 = .ok (.ifCond .eq 5, 3) := by decide +kernel
theorem dL_law_1129 : decode cL_law 1129 = .ok (.iconst 0, 1) := by decide +kernel
theorem dL_law_1130 : decode cL_law 1130 = .ok (.ireturn, 1) := by decide +kernel
theorem dL_law_1131 : decode cL_law 1131 = .ok (.goto 1723, 3) := by decide +kernel
theorem dL_law_1134 : decode cL_law 1134 = .ok (.aload_n 1, 1) := by decide +kernel
theorem dL_law_1135 : decode cL_law 1135 = .ok (.invokevirtual 204, 3) := by decide +kernel
theorem dL_law_1138 : decode cL_law 1138 = .ok (.aload_n 2, 1) := by decide +kernel
theorem dL_law_1139 : decode cL_law 1139 = .ok (.invokevirtual 207, 3) := by decide +kernel
theorem dL_law_1142 : decode cL_law 1142 = .ok (.if_icmp .eq 1712, 3) := by decide +kernel
theorem dL_law_1145 : decode cL_law 1145 = .ok (.iconst 0, 1) := by decide +kernel
theorem dL_law_1146 : decode cL_law 1146 = .ok (.ireturn, 1) := by decide +kernel
theorem dL_law_1147 : decode cL_law 1147 = .ok (.aload_n 1, 1) := by decide +kernel
theorem dL_law_1148 : decode cL_law 1148 = .ok (.invokevirtual 208, 3) := by decide +kernel
theorem dL_law_1151 : decode cL_law 1151 = .ok (.aload_n 2, 1) := by decide +kernel
theorem dL_law_1152 : decode cL_law 1152 = .ok (.invokevirtual 211, 3) := by decide +kernel
theorem dL_law_1155 : decode cL_law 1155 = .ok (.if_icmp .eq 1699, 3) := by decide +kernel
theorem dL_law_1158 : decode cL_law 1158 = .ok (.iconst 0, 1) := by decide +kernel
theorem dL_law_1159 : decode cL_law 1159 = .ok (.ireturn, 1) := by decide +kernel
theorem dL_law_1160 : decode cL_law 1160 = .ok (.aload_n 1, 1) := by decide +kernel
theorem dL_law_1161 : decode cL_law 1161 = .ok (.invokevirtual 212, 3) := by decide +kernel
theorem dL_law_1164 : decode cL_law 1164 = .ok (.aload_n 2, 1) := by decide +kernel
theorem dL_law_1165 : decode cL_law 1165 = .ok (.invokevirtual 215, 3) := by decide +kernel
theorem dL_law_1168 : decode cL_law 1168 = .ok (.if_icmp .eq 1686, 3) := by decide +kernel
theorem dL_law_1171 : decode cL_law 1171 = .ok (.iconst 0, 1) := by decide +kernel
theorem dL_law_1172 : decode cL_law 1172 = .ok (.ireturn, 1) := by decide +kernel
theorem dL_law_1173 : decode cL_law 1173 = .ok (.aload_n 1, 1) := by decide +kernel
theorem dL_law_1174 : decode cL_law 1174 = .ok (.invokevirtual 216, 3) := by decide +kernel
theorem dL_law_1177 : decode cL_law 1177 = .ok (.aload_n 2, 1) := by decide +kernel
theorem dL_law_1178 : decode cL_law 1178 = .ok (.invokevirtual 219, 3) := by decide +kernel
theorem dL_law_1181 : decode cL_law 1181 = .ok (.if_icmp .eq 1673, 3) := by decide +kernel
theorem dL_law_1184 : decode cL_law 1184 = .ok (.iconst 0, 1) := by decide +kernel
theorem dL_law_1185 : decode cL_law 1185 = .ok (.ireturn, 1) := by decide +kernel
theorem dL_law_1186 : decode cL_law 1186 = .ok (.aload_n 1, 1) := by decide +kernel
theorem dL_law_1187 : decode cL_law 1187 = .ok (.aload_n 0, 1) := by decide +kernel
theorem dL_law_1188 : decode cL_law 1188 = .ok (.iload 5, 2) := by decide +kernel
theorem dL_law_1190 : decode cL_law 1190 = .ok (.iconst 1, 1) := by decide +kernel
theorem dL_law_1191 : decode cL_law 1191 = .ok (.iadd, 1) := by decide +kernel
theorem dL_law_1192 : decode cL_law 1192 = .ok (.iaload, 1) := by decide +kernel
theorem dL_law_1193 : decode cL_law 1193 = .ok (.aload_n 3, 1) := by decide +kernel
theorem dL_law_1194 : decode cL_law 1194 = .ok (.invokestatic 220, 3) := by decide +kernel
theorem dL_law_1197 : decode cL_law 1197 = .ok (.istore 6, 2) := by decide +kernel
theorem dL_law_1199 : decode cL_law 1199 = .ok (.aload_n 2, 1) := by decide +kernel
theorem dL_law_1200 : decode cL_law 1200 = .ok (.aload_n 0, 1) := by decide +kernel
theorem dL_law_1201 : decode cL_law 1201 = .ok (.iload 5, 2) := by decide +kernel
theorem dL_law_1203 : decode cL_law 1203 = .ok (.iconst 1, 1) := by decide +kernel
theorem dL_law_1204 : decode cL_law 1204 = .ok (.iadd, 1) := by decide +kernel
theorem dL_law_1205 : decode cL_law 1205 = .ok (.iaload, 1) := by decide +kernel
theorem dL_law_1206 : decode cL_law 1206 = .ok (.invokevirtual 222, 3) := by decide +kernel
theorem dL_law_1209 : decode cL_law 1209 = .ok (.istore 7, 2) := by decide +kernel
theorem dL_law_1211 : decode cL_law 1211 = .ok (.aload_n 2, 1) := by decide +kernel
theorem dL_law_1212 : decode cL_law 1212 = .ok (.invokevirtual 162, 3) := by decide +kernel
theorem dL_law_1215 : decode cL_law 1215 = .ok (.iload 6, 2) := by decide +kernel
theorem dL_law_1217 : decode cL_law 1217 = .ok (.if_icmp .eq 5, 3) := by decide +kernel
theorem dL_law_1220 : decode cL_law 1220 = .ok (.iconst 0, 1) := by decide +kernel
theorem dL_law_1221 : decode cL_law 1221 = .ok (.ireturn, 1) := by decide +kernel
theorem dL_law_1222 : decode cL_law 1222 = .ok (.iload 6, 2) := by decide +kernel
theorem dL_law_1224 : decode cL_law 1224 = .ok (.ifCond .ne 22, 3) := by decide +kernel
theorem dL_law_1227 : decode cL_law 1227 = .ok (.aload_n 3, 1) := by decide +kernel
theorem dL_law_1228 : decode cL_law 1228 = .ok (.iconst 0, 1) := by decide +kernel
theorem dL_law_1229 : decode cL_law 1229 = .ok (.laload, 1) := by decide +kernel
theorem dL_law_1230 : decode cL_law 1230 = .ok (.iload 7, 2) := by decide +kernel
theorem dL_law_1232 : decode cL_law 1232 = .ok (.ifCond .eq 7, 3) := by decide +kernel
theorem dL_law_1235 : decode cL_law 1235 = .ok (.lconst 1, 1) := by decide +kernel
theorem dL_law_1236 : decode cL_law 1236 = .ok (.goto 4, 3) := by decide +kernel
theorem dL_law_1239 : decode cL_law 1239 = .ok (.lconst 0, 1) := by decide +kernel
theorem dL_law_1240 : decode cL_law 1240 = .ok (.lcmp, 1) := by decide +kernel
theorem dL_law_1241 : decode cL_law 1241 = .ok (.ifCond .eq 5, 3) := by decide +kernel
theorem dL_law_1244 : decode cL_law 1244 = .ok (.iconst 0, 1) := by decide +kernel
theorem dL_law_1245 : decode cL_law 1245 = .ok (.ireturn, 1) := by decide +kernel
theorem dL_law_1246 : decode cL_law 1246 = .ok (.goto 1608, 3) := by decide +kernel
theorem dL_law_1249 : decode cL_law 1249 = .ok (.aload_n 1, 1) := by decide +kernel
theorem dL_law_1250 : decode cL_law 1250 = .ok (.aload_n 0, 1) := by decide +kernel
theorem dL_law_1251 : decode cL_law 1251 = .ok (.iload 5, 2) := by decide +kernel
theorem dL_law_1253 : decode cL_law 1253 = .ok (.iconst 1, 1) := by decide +kernel
theorem dL_law_1254 : decode cL_law 1254 = .ok (.iadd, 1) := by decide +kernel
theorem dL_law_1255 : decode cL_law 1255 = .ok (.iaload, 1) := by decide +kernel
theorem dL_law_1256 : decode cL_law 1256 = .ok (.aload_n 3, 1) := by decide +kernel
theorem dL_law_1257 : decode cL_law 1257 = .ok (.invokestatic 223, 3) := by decide +kernel
theorem dL_law_1260 : decode cL_law 1260 = .ok (.istore 6, 2) := by decide +kernel
theorem dL_law_1262 : decode cL_law 1262 = .ok (.aload_n 2, 1) := by decide +kernel
theorem dL_law_1263 : decode cL_law 1263 = .ok (.aload_n 0, 1) := by decide +kernel
theorem dL_law_1264 : decode cL_law 1264 = .ok (.iload 5, 2) := by decide +kernel
theorem dL_law_1266 : decode cL_law 1266 = .ok (.iconst 1, 1) := by decide +kernel
theorem dL_law_1267 : decode cL_law 1267 = .ok (.iadd, 1) := by decide +kernel
theorem dL_law_1268 : decode cL_law 1268 = .ok (.iaload, 1) := by decide +kernel
theorem dL_law_1269 : decode cL_law 1269 = .ok (.invokevirtual 225, 3) := by decide +kernel
theorem dL_law_1272 : decode cL_law 1272 = .ok (.istore 7, 2) := by decide +kernel
theorem dL_law_1274 : decode cL_law 1274 = .ok (.aload_n 2, 1) := by decide +kernel
theorem dL_law_1275 : decode cL_law 1275 = .ok (.invokevirtual 162, 3) := by decide +kernel
theorem dL_law_1278 : decode cL_law 1278 = .ok (.iload 6, 2) := by decide +kernel
theorem dL_law_1280 : decode cL_law 1280 = .ok (.if_icmp .eq 5, 3) := by decide +kernel
theorem dL_law_1283 : decode cL_law 1283 = .ok (.iconst 0, 1) := by decide +kernel
theorem dL_law_1284 : decode cL_law 1284 = .ok (.ireturn, 1) := by decide +kernel
theorem dL_law_1285 : decode cL_law 1285 = .ok (.iload 6, 2) := by decide +kernel
theorem dL_law_1287 : decode cL_law 1287 = .ok (.ifCond .ne 15, 3) := by decide +kernel
theorem dL_law_1290 : decode cL_law 1290 = .ok (.aload_n 3, 1) := by decide +kernel
theorem dL_law_1291 : decode cL_law 1291 = .ok (.iconst 0, 1) := by decide +kernel
theorem dL_law_1292 : decode cL_law 1292 = .ok (.laload, 1) := by decide +kernel
theorem dL_law_1293 : decode cL_law 1293 = .ok (.iload 7, 2) := by decide +kernel
theorem dL_law_1295 : decode cL_law 1295 = .ok (.i2l, 1) := by decide +kernel
theorem dL_law_1296 : decode cL_law 1296 = .ok (.lcmp, 1) := by decide +kernel
theorem dL_law_1297 : decode cL_law 1297 = .ok (.ifCond .eq 5, 3) := by decide +kernel
theorem dL_law_1300 : decode cL_law 1300 = .ok (.iconst 0, 1) := by decide +kernel
theorem dL_law_1301 : decode cL_law 1301 = .ok (.ireturn, 1) := by decide +kernel
theorem dL_law_1302 : decode cL_law 1302 = .ok (.goto 1552, 3) := by decide +kernel
theorem dL_law_1305 : decode cL_law 1305 = .ok (.aload_n 1, 1) := by decide +kernel
theorem dL_law_1306 : decode cL_law 1306 = .ok (.aload_n 0, 1) := by decide +kernel
theorem dL_law_1307 : decode cL_law 1307 = .ok (.iload 5, 2) := by decide +kernel
theorem dL_law_1309 : decode cL_law 1309 = .ok (.iconst 1, 1) := by decide +kernel
theorem dL_law_1310 : decode cL_law 1310 = .ok (.iadd, 1) := by decide +kernel
theorem dL_law_1311 : decode cL_law 1311 = .ok (.iaload, 1) := by decide +kernel
theorem dL_law_1312 : decode cL_law 1312 = .ok (.aload_n 3, 1) := by decide +kernel
theorem dL_law_1313 : decode cL_law 1313 = .ok (.invokestatic 226, 3) := by decide +kernel
theorem dL_law_1316 : decode cL_law 1316 = .ok (.istore 6, 2) := by decide +kernel
theorem dL_law_1318 : decode cL_law 1318 = .ok (.aload_n 2, 1) := by decide +kernel
theorem dL_law_1319 : decode cL_law 1319 = .ok (.aload_n 0, 1) := by decide +kernel
theorem dL_law_1320 : decode cL_law 1320 = .ok (.iload 5, 2) := by decide +kernel
theorem dL_law_1322 : decode cL_law 1322 = .ok (.iconst 1, 1) := by decide +kernel
theorem dL_law_1323 : decode cL_law 1323 = .ok (.iadd, 1) := by decide +kernel
theorem dL_law_1324 : decode cL_law 1324 = .ok (.iaload, 1) := by decide +kernel
theorem dL_law_1325 : decode cL_law 1325 = .ok (.invokevirtual 228, 3) := by decide +kernel
theorem dL_law_1328 : decode cL_law 1328 = .ok (.istore 7, 2) := by decide +kernel
theorem dL_law_1330 : decode cL_law 1330 = .ok (.aload_n 2, 1) := by decide +kernel
theorem dL_law_1331 : decode cL_law 1331 = .ok (.invokevirtual 162, 3) := by decide +kernel
theorem dL_law_1334 : decode cL_law 1334 = .ok (.iload 6, 2) := by decide +kernel
theorem dL_law_1336 : decode cL_law 1336 = .ok (.if_icmp .eq 5, 3) := by decide +kernel
theorem dL_law_1339 : decode cL_law 1339 = .ok (.iconst 0, 1) := by decide +kernel
theorem dL_law_1340 : decode cL_law 1340 = .ok (.ireturn, 1) := by decide +kernel
theorem dL_law_1341 : decode cL_law 1341 = .ok (.iload 6, 2) := by decide +kernel
theorem dL_law_1343 : decode cL_law 1343 = .ok (.ifCond .ne 15, 3) := by decide +kernel
theorem dL_law_1346 : decode cL_law 1346 = .ok (.aload_n 3, 1) := by decide +kernel
theorem dL_law_1347 : decode cL_law 1347 = .ok (.iconst 0, 1) := by decide +kernel
theorem dL_law_1348 : decode cL_law 1348 = .ok (.laload, 1) := by decide +kernel
theorem dL_law_1349 : decode cL_law 1349 = .ok (.iload 7, 2) := by decide +kernel
theorem dL_law_1351 : decode cL_law 1351 = .ok (.i2l, 1) := by decide +kernel
theorem dL_law_1352 : decode cL_law 1352 = .ok (.lcmp, 1) := by decide +kernel
theorem dL_law_1353 : decode cL_law 1353 = .ok (.ifCond .eq 5, 3) := by decide +kernel
theorem dL_law_1356 : decode cL_law 1356 = .ok (.iconst 0, 1) := by decide +kernel
theorem dL_law_1357 : decode cL_law 1357 = .ok (.ireturn, 1) := by decide +kernel
theorem dL_law_1358 : decode cL_law 1358 = .ok (.goto 1496, 3) := by decide +kernel
theorem dL_law_1361 : decode cL_law 1361 = .ok (.aload_n 1, 1) := by decide +kernel
theorem dL_law_1362 : decode cL_law 1362 = .ok (.aload_n 0, 1) := by decide +kernel
theorem dL_law_1363 : decode cL_law 1363 = .ok (.iload 5, 2) := by decide +kernel
theorem dL_law_1365 : decode cL_law 1365 = .ok (.iconst 1, 1) := by decide +kernel
theorem dL_law_1366 : decode cL_law 1366 = .ok (.iadd, 1) := by decide +kernel
theorem dL_law_1367 : decode cL_law 1367 = .ok (.iaload, 1) := by decide +kernel
theorem dL_law_1368 : decode cL_law 1368 = .ok (.aload_n 0, 1) := by decide +kernel
theorem dL_law_1369 : decode cL_law 1369 = .ok (.iload 5, 2) := by decide +kernel
theorem dL_law_1371 : decode cL_law 1371 = .ok (.iconst 2, 1) := by decide +kernel
theorem dL_law_1372 : decode cL_law 1372 = .ok (.iadd, 1) := by decide +kernel
theorem dL_law_1373 : decode cL_law 1373 = .ok (.iaload, 1) := by decide +kernel
theorem dL_law_1374 : decode cL_law 1374 = .ok (.aload_n 3, 1) := by decide +kernel
theorem dL_law_1375 : decode cL_law 1375 = .ok (.invokestatic 229, 3) := by decide +kernel
theorem dL_law_1378 : decode cL_law 1378 = .ok (.istore 6, 2) := by decide +kernel
theorem dL_law_1380 : decode cL_law 1380 = .ok (.aload_n 2, 1) := by decide +kernel
theorem dL_law_1381 : decode cL_law 1381 = .ok (.aload_n 0, 1) := by decide +kernel
theorem dL_law_1382 : decode cL_law 1382 = .ok (.iload 5, 2) := by decide +kernel
theorem dL_law_1384 : decode cL_law 1384 = .ok (.iconst 1, 1) := by decide +kernel
theorem dL_law_1385 : decode cL_law 1385 = .ok (.iadd, 1) := by decide +kernel
theorem dL_law_1386 : decode cL_law 1386 = .ok (.iaload, 1) := by decide +kernel
theorem dL_law_1387 : decode cL_law 1387 = .ok (.aload_n 0, 1) := by decide +kernel
theorem dL_law_1388 : decode cL_law 1388 = .ok (.iload 5, 2) := by decide +kernel
theorem dL_law_1390 : decode cL_law 1390 = .ok (.iconst 2, 1) := by decide +kernel
theorem dL_law_1391 : decode cL_law 1391 = .ok (.iadd, 1) := by decide +kernel
theorem dL_law_1392 : decode cL_law 1392 = .ok (.iaload, 1) := by decide +kernel
theorem dL_law_1393 : decode cL_law 1393 = .ok (.invokevirtual 231, 3) := by decide +kernel
theorem dL_law_1396 : decode cL_law 1396 = .ok (.istore 7, 2) := by decide +kernel
theorem dL_law_1398 : decode cL_law 1398 = .ok (.aload_n 2, 1) := by decide +kernel
theorem dL_law_1399 : decode cL_law 1399 = .ok (.invokevirtual 162, 3) := by decide +kernel
theorem dL_law_1402 : decode cL_law 1402 = .ok (.iload 6, 2) := by decide +kernel
theorem dL_law_1404 : decode cL_law 1404 = .ok (.if_icmp .eq 5, 3) := by decide +kernel
theorem dL_law_1407 : decode cL_law 1407 = .ok (.iconst 0, 1) := by decide +kernel
theorem dL_law_1408 : decode cL_law 1408 = .ok (.ireturn, 1) := by decide +kernel
theorem dL_law_1409 : decode cL_law 1409 = .ok (.iload 6, 2) := by decide +kernel
theorem dL_law_1411 : decode cL_law 1411 = .ok (.ifCond .ne 15, 3) := by decide +kernel
theorem dL_law_1414 : decode cL_law 1414 = .ok (.aload_n 3, 1) := by decide +kernel
theorem dL_law_1415 : decode cL_law 1415 = .ok (.iconst 0, 1) := by decide +kernel
theorem dL_law_1416 : decode cL_law 1416 = .ok (.laload, 1) := by decide +kernel
theorem dL_law_1417 : decode cL_law 1417 = .ok (.iload 7, 2) := by decide +kernel
theorem dL_law_1419 : decode cL_law 1419 = .ok (.i2l, 1) := by decide +kernel
theorem dL_law_1420 : decode cL_law 1420 = .ok (.lcmp, 1) := by decide +kernel
theorem dL_law_1421 : decode cL_law 1421 = .ok (.ifCond .eq 5, 3) := by decide +kernel
theorem dL_law_1424 : decode cL_law 1424 = .ok (.iconst 0, 1) := by decide +kernel
theorem dL_law_1425 : decode cL_law 1425 = .ok (.ireturn, 1) := by decide +kernel
theorem dL_law_1426 : decode cL_law 1426 = .ok (.goto 1428, 3) := by decide +kernel
theorem dL_law_1429 : decode cL_law 1429 = .ok (.aload_n 1, 1) := by decide +kernel
theorem dL_law_1430 : decode cL_law 1430 = .ok (.aload_n 0, 1) := by decide +kernel
theorem dL_law_1431 : decode cL_law 1431 = .ok (.iload 5, 2) := by decide +kernel
theorem dL_law_1433 : decode cL_law 1433 = .ok (.iconst 1, 1) := by decide +kernel
theorem dL_law_1434 : decode cL_law 1434 = .ok (.iadd, 1) := by decide +kernel
theorem dL_law_1435 : decode cL_law 1435 = .ok (.iaload, 1) := by decide +kernel
theorem dL_law_1436 : decode cL_law 1436 = .ok (.aload_n 0, 1) := by decide +kernel
theorem dL_law_1437 : decode cL_law 1437 = .ok (.iload 5, 2) := by decide +kernel
theorem dL_law_1439 : decode cL_law 1439 = .ok (.iconst 2, 1) := by decide +kernel
theorem dL_law_1440 : decode cL_law 1440 = .ok (.iadd, 1) := by decide +kernel
theorem dL_law_1441 : decode cL_law 1441 = .ok (.iaload, 1) := by decide +kernel
theorem dL_law_1442 : decode cL_law 1442 = .ok (.aload_n 3, 1) := by decide +kernel
theorem dL_law_1443 : decode cL_law 1443 = .ok (.invokestatic 232, 3) := by decide +kernel
theorem dL_law_1446 : decode cL_law 1446 = .ok (.istore 6, 2) := by decide +kernel
theorem dL_law_1448 : decode cL_law 1448 = .ok (.aload_n 2, 1) := by decide +kernel
theorem dL_law_1449 : decode cL_law 1449 = .ok (.aload_n 0, 1) := by decide +kernel
theorem dL_law_1450 : decode cL_law 1450 = .ok (.iload 5, 2) := by decide +kernel
theorem dL_law_1452 : decode cL_law 1452 = .ok (.iconst 1, 1) := by decide +kernel
theorem dL_law_1453 : decode cL_law 1453 = .ok (.iadd, 1) := by decide +kernel
theorem dL_law_1454 : decode cL_law 1454 = .ok (.iaload, 1) := by decide +kernel
theorem dL_law_1455 : decode cL_law 1455 = .ok (.aload_n 0, 1) := by decide +kernel
theorem dL_law_1456 : decode cL_law 1456 = .ok (.iload 5, 2) := by decide +kernel
theorem dL_law_1458 : decode cL_law 1458 = .ok (.iconst 2, 1) := by decide +kernel
theorem dL_law_1459 : decode cL_law 1459 = .ok (.iadd, 1) := by decide +kernel
theorem dL_law_1460 : decode cL_law 1460 = .ok (.iaload, 1) := by decide +kernel
theorem dL_law_1461 : decode cL_law 1461 = .ok (.invokevirtual 234, 3) := by decide +kernel
theorem dL_law_1464 : decode cL_law 1464 = .ok (.istore 7, 2) := by decide +kernel
theorem dL_law_1466 : decode cL_law 1466 = .ok (.aload_n 2, 1) := by decide +kernel
theorem dL_law_1467 : decode cL_law 1467 = .ok (.invokevirtual 162, 3) := by decide +kernel
theorem dL_law_1470 : decode cL_law 1470 = .ok (.iload 6, 2) := by decide +kernel
theorem dL_law_1472 : decode cL_law 1472 = .ok (.if_icmp .eq 5, 3) := by decide +kernel
theorem dL_law_1475 : decode cL_law 1475 = .ok (.iconst 0, 1) := by decide +kernel
theorem dL_law_1476 : decode cL_law 1476 = .ok (.ireturn, 1) := by decide +kernel
theorem dL_law_1477 : decode cL_law 1477 = .ok (.iload 6, 2) := by decide +kernel
theorem dL_law_1479 : decode cL_law 1479 = .ok (.ifCond .ne 15, 3) := by decide +kernel
theorem dL_law_1482 : decode cL_law 1482 = .ok (.aload_n 3, 1) := by decide +kernel
theorem dL_law_1483 : decode cL_law 1483 = .ok (.iconst 0, 1) := by decide +kernel
theorem dL_law_1484 : decode cL_law 1484 = .ok (.laload, 1) := by decide +kernel
theorem dL_law_1485 : decode cL_law 1485 = .ok (.iload 7, 2) := by decide +kernel
theorem dL_law_1487 : decode cL_law 1487 = .ok (.i2l, 1) := by decide +kernel
theorem dL_law_1488 : decode cL_law 1488 = .ok (.lcmp, 1) := by decide +kernel
theorem dL_law_1489 : decode cL_law 1489 = .ok (.ifCond .eq 5, 3) := by decide +kernel
theorem dL_law_1492 : decode cL_law 1492 = .ok (.iconst 0, 1) := by decide +kernel
theorem dL_law_1493 : decode cL_law 1493 = .ok (.ireturn, 1) := by decide +kernel
theorem dL_law_1494 : decode cL_law 1494 = .ok (.goto 1360, 3) := by decide +kernel
theorem dL_law_1497 : decode cL_law 1497 = .ok (.aload_n 1, 1) := by decide +kernel
theorem dL_law_1498 : decode cL_law 1498 = .ok (.aload_n 0, 1) := by decide +kernel
theorem dL_law_1499 : decode cL_law 1499 = .ok (.iload 5, 2) := by decide +kernel
theorem dL_law_1501 : decode cL_law 1501 = .ok (.iconst 1, 1) := by decide +kernel
theorem dL_law_1502 : decode cL_law 1502 = .ok (.iadd, 1) := by decide +kernel
theorem dL_law_1503 : decode cL_law 1503 = .ok (.iaload, 1) := by decide +kernel
theorem dL_law_1504 : decode cL_law 1504 = .ok (.aload_n 3, 1) := by decide +kernel
theorem dL_law_1505 : decode cL_law 1505 = .ok (.invokestatic 235, 3) := by decide +kernel
theorem dL_law_1508 : decode cL_law 1508 = .ok (.istore 6, 2) := by decide +kernel
theorem dL_law_1510 : decode cL_law 1510 = .ok (.aload_n 2, 1) := by decide +kernel
theorem dL_law_1511 : decode cL_law 1511 = .ok (.aload_n 0, 1) := by decide +kernel
theorem dL_law_1512 : decode cL_law 1512 = .ok (.iload 5, 2) := by decide +kernel
theorem dL_law_1514 : decode cL_law 1514 = .ok (.iconst 1, 1) := by decide +kernel
theorem dL_law_1515 : decode cL_law 1515 = .ok (.iadd, 1) := by decide +kernel
theorem dL_law_1516 : decode cL_law 1516 = .ok (.iaload, 1) := by decide +kernel
theorem dL_law_1517 : decode cL_law 1517 = .ok (.invokevirtual 237, 3) := by decide +kernel
theorem dL_law_1520 : decode cL_law 1520 = .ok (.istore 7, 2) := by decide +kernel
theorem dL_law_1522 : decode cL_law 1522 = .ok (.aload_n 2, 1) := by decide +kernel
theorem dL_law_1523 : decode cL_law 1523 = .ok (.invokevirtual 162, 3) := by decide +kernel
theorem dL_law_1526 : decode cL_law 1526 = .ok (.iload 6, 2) := by decide +kernel
theorem dL_law_1528 : decode cL_law 1528 = .ok (.if_icmp .eq 5, 3) := by decide +kernel
theorem dL_law_1531 : decode cL_law 1531 = .ok (.iconst 0, 1) := by decide +kernel
theorem dL_law_1532 : decode cL_law 1532 = .ok (.ireturn, 1) := by decide +kernel
theorem dL_law_1533 : decode cL_law 1533 = .ok (.iload 6, 2) := by decide +kernel
theorem dL_law_1535 : decode cL_law 1535 = .ok (.ifCond .ne 15, 3) := by decide +kernel
theorem dL_law_1538 : decode cL_law 1538 = .ok (.aload_n 3, 1) := by decide +kernel
theorem dL_law_1539 : decode cL_law 1539 = .ok (.iconst 0, 1) := by decide +kernel
theorem dL_law_1540 : decode cL_law 1540 = .ok (.laload, 1) := by decide +kernel
theorem dL_law_1541 : decode cL_law 1541 = .ok (.iload 7, 2) := by decide +kernel
theorem dL_law_1543 : decode cL_law 1543 = .ok (.i2l, 1) := by decide +kernel
theorem dL_law_1544 : decode cL_law 1544 = .ok (.lcmp, 1) := by decide +kernel
theorem dL_law_1545 : decode cL_law 1545 = .ok (.ifCond .eq 5, 3) := by decide +kernel
theorem dL_law_1548 : decode cL_law 1548 = .ok (.iconst 0, 1) := by decide +kernel
theorem dL_law_1549 : decode cL_law 1549 = .ok (.ireturn, 1) := by decide +kernel
theorem dL_law_1550 : decode cL_law 1550 = .ok (.goto 1304, 3) := by decide +kernel
theorem dL_law_1553 : decode cL_law 1553 = .ok (.aload_n 1, 1) := by decide +kernel
theorem dL_law_1554 : decode cL_law 1554 = .ok (.aload_n 0, 1) := by decide +kernel
theorem dL_law_1555 : decode cL_law 1555 = .ok (.iload 5, 2) := by decide +kernel
theorem dL_law_1557 : decode cL_law 1557 = .ok (.iconst 1, 1) := by decide +kernel
theorem dL_law_1558 : decode cL_law 1558 = .ok (.iadd, 1) := by decide +kernel
theorem dL_law_1559 : decode cL_law 1559 = .ok (.iaload, 1) := by decide +kernel
theorem dL_law_1560 : decode cL_law 1560 = .ok (.aload_n 0, 1) := by decide +kernel
theorem dL_law_1561 : decode cL_law 1561 = .ok (.iload 5, 2) := by decide +kernel
theorem dL_law_1563 : decode cL_law 1563 = .ok (.iconst 2, 1) := by decide +kernel
theorem dL_law_1564 : decode cL_law 1564 = .ok (.iadd, 1) := by decide +kernel
theorem dL_law_1565 : decode cL_law 1565 = .ok (.iaload, 1) := by decide +kernel
theorem dL_law_1566 : decode cL_law 1566 = .ok (.aload_n 3, 1) := by decide +kernel
theorem dL_law_1567 : decode cL_law 1567 = .ok (.invokestatic 238, 3) := by decide +kernel
theorem dL_law_1570 : decode cL_law 1570 = .ok (.istore 6, 2) := by decide +kernel
theorem dL_law_1572 : decode cL_law 1572 = .ok (.aload_n 2, 1) := by decide +kernel
theorem dL_law_1573 : decode cL_law 1573 = .ok (.aload_n 0, 1) := by decide +kernel
theorem dL_law_1574 : decode cL_law 1574 = .ok (.iload 5, 2) := by decide +kernel
theorem dL_law_1576 : decode cL_law 1576 = .ok (.iconst 1, 1) := by decide +kernel
theorem dL_law_1577 : decode cL_law 1577 = .ok (.iadd, 1) := by decide +kernel
theorem dL_law_1578 : decode cL_law 1578 = .ok (.iaload, 1) := by decide +kernel
theorem dL_law_1579 : decode cL_law 1579 = .ok (.aload_n 0, 1) := by decide +kernel
theorem dL_law_1580 : decode cL_law 1580 = .ok (.iload 5, 2) := by decide +kernel
theorem dL_law_1582 : decode cL_law 1582 = .ok (.iconst 2, 1) := by decide +kernel
theorem dL_law_1583 : decode cL_law 1583 = .ok (.iadd, 1) := by decide +kernel
theorem dL_law_1584 : decode cL_law 1584 = .ok (.iaload, 1) := by decide +kernel
theorem dL_law_1585 : decode cL_law 1585 = .ok (.invokevirtual 240, 3) := by decide +kernel
theorem dL_law_1588 : decode cL_law 1588 = .ok (.istore 7, 2) := by decide +kernel
theorem dL_law_1590 : decode cL_law 1590 = .ok (.aload_n 2, 1) := by decide +kernel
theorem dL_law_1591 : decode cL_law 1591 = .ok (.invokevirtual 162, 3) := by decide +kernel
theorem dL_law_1594 : decode cL_law 1594 = .ok (.iload 6, 2) := by decide +kernel
theorem dL_law_1596 : decode cL_law 1596 = .ok (.if_icmp .eq 5, 3) := by decide +kernel
theorem dL_law_1599 : decode cL_law 1599 = .ok (.iconst 0, 1) := by decide +kernel
theorem dL_law_1600 : decode cL_law 1600 = .ok (.ireturn, 1) := by decide +kernel
theorem dL_law_1601 : decode cL_law 1601 = .ok (.iload 6, 2) := by decide +kernel
theorem dL_law_1603 : decode cL_law 1603 = .ok (.ifCond .ne 15, 3) := by decide +kernel
theorem dL_law_1606 : decode cL_law 1606 = .ok (.aload_n 3, 1) := by decide +kernel
theorem dL_law_1607 : decode cL_law 1607 = .ok (.iconst 0, 1) := by decide +kernel
theorem dL_law_1608 : decode cL_law 1608 = .ok (.laload, 1) := by decide +kernel
theorem dL_law_1609 : decode cL_law 1609 = .ok (.iload 7, 2) := by decide +kernel
theorem dL_law_1611 : decode cL_law 1611 = .ok (.i2l, 1) := by decide +kernel
theorem dL_law_1612 : decode cL_law 1612 = .ok (.lcmp, 1) := by decide +kernel
theorem dL_law_1613 : decode cL_law 1613 = .ok (.ifCond .eq 5, 3) := by decide +kernel
theorem dL_law_1616 : decode cL_law 1616 = .ok (.iconst 0, 1) := by decide +kernel
theorem dL_law_1617 : decode cL_law 1617 = .ok (.ireturn, 1) := by decide +kernel
theorem dL_law_1618 : decode cL_law 1618 = .ok (.goto 1236, 3) := by decide +kernel
theorem dL_law_1621 : decode cL_law 1621 = .ok (.aload_n 1, 1) := by decide +kernel
theorem dL_law_1622 : decode cL_law 1622 = .ok (.aload_n 0, 1) := by decide +kernel
theorem dL_law_1623 : decode cL_law 1623 = .ok (.iload 5, 2) := by decide +kernel
theorem dL_law_1625 : decode cL_law 1625 = .ok (.iconst 1, 1) := by decide +kernel
theorem dL_law_1626 : decode cL_law 1626 = .ok (.iadd, 1) := by decide +kernel
theorem dL_law_1627 : decode cL_law 1627 = .ok (.iaload, 1) := by decide +kernel
theorem dL_law_1628 : decode cL_law 1628 = .ok (.aload_n 0, 1) := by decide +kernel
theorem dL_law_1629 : decode cL_law 1629 = .ok (.iload 5, 2) := by decide +kernel
theorem dL_law_1631 : decode cL_law 1631 = .ok (.iconst 2, 1) := by decide +kernel
theorem dL_law_1632 : decode cL_law 1632 = .ok (.iadd, 1) := by decide +kernel
theorem dL_law_1633 : decode cL_law 1633 = .ok (.iaload, 1) := by decide +kernel
theorem dL_law_1634 : decode cL_law 1634 = .ok (.aload_n 3, 1) := by decide +kernel
theorem dL_law_1635 : decode cL_law 1635 = .ok (.invokestatic 241, 3) := by decide +kernel
theorem dL_law_1638 : decode cL_law 1638 = .ok (.istore 6, 2) := by decide +kernel
theorem dL_law_1640 : decode cL_law 1640 = .ok (.aload_n 2, 1) := by decide +kernel
theorem dL_law_1641 : decode cL_law 1641 = .ok (.aload_n 0, 1) := by decide +kernel
theorem dL_law_1642 : decode cL_law 1642 = .ok (.iload 5, 2) := by decide +kernel
theorem dL_law_1644 : decode cL_law 1644 = .ok (.iconst 1, 1) := by decide +kernel
theorem dL_law_1645 : decode cL_law 1645 = .ok (.iadd, 1) := by decide +kernel
theorem dL_law_1646 : decode cL_law 1646 = .ok (.iaload, 1) := by decide +kernel
theorem dL_law_1647 : decode cL_law 1647 = .ok (.aload_n 0, 1) := by decide +kernel
theorem dL_law_1648 : decode cL_law 1648 = .ok (.iload 5, 2) := by decide +kernel
theorem dL_law_1650 : decode cL_law 1650 = .ok (.iconst 2, 1) := by decide +kernel
theorem dL_law_1651 : decode cL_law 1651 = .ok (.iadd, 1) := by decide +kernel
theorem dL_law_1652 : decode cL_law 1652 = .ok (.iaload, 1) := by decide +kernel
theorem dL_law_1653 : decode cL_law 1653 = .ok (.invokevirtual 243, 3) := by decide +kernel
theorem dL_law_1656 : decode cL_law 1656 = .ok (.istore 7, 2) := by decide +kernel
theorem dL_law_1658 : decode cL_law 1658 = .ok (.aload_n 2, 1) := by decide +kernel
theorem dL_law_1659 : decode cL_law 1659 = .ok (.invokevirtual 162, 3) := by decide +kernel
theorem dL_law_1662 : decode cL_law 1662 = .ok (.iload 6, 2) := by decide +kernel
theorem dL_law_1664 : decode cL_law 1664 = .ok (.if_icmp .eq 5, 3) := by decide +kernel
theorem dL_law_1667 : decode cL_law 1667 = .ok (.iconst 0, 1) := by decide +kernel
theorem dL_law_1668 : decode cL_law 1668 = .ok (.ireturn, 1) := by decide +kernel
theorem dL_law_1669 : decode cL_law 1669 = .ok (.iload 6, 2) := by decide +kernel
theorem dL_law_1671 : decode cL_law 1671 = .ok (.ifCond .ne 22, 3) := by decide +kernel
theorem dL_law_1674 : decode cL_law 1674 = .ok (.aload_n 3, 1) := by decide +kernel
theorem dL_law_1675 : decode cL_law 1675 = .ok (.iconst 0, 1) := by decide +kernel
theorem dL_law_1676 : decode cL_law 1676 = .ok (.laload, 1) := by decide +kernel
theorem dL_law_1677 : decode cL_law 1677 = .ok (.iload 7, 2) := by decide +kernel
theorem dL_law_1679 : decode cL_law 1679 = .ok (.ifCond .eq 7, 3) := by decide +kernel
theorem dL_law_1682 : decode cL_law 1682 = .ok (.lconst 1, 1) := by decide +kernel
theorem dL_law_1683 : decode cL_law 1683 = .ok (.goto 4, 3) := by decide +kernel
theorem dL_law_1686 : decode cL_law 1686 = .ok (.lconst 0, 1) := by decide +kernel
theorem dL_law_1687 : decode cL_law 1687 = .ok (.lcmp, 1) := by decide +kernel
theorem dL_law_1688 : decode cL_law 1688 = .ok (.ifCond .eq 5, 3) := by decide +kernel
theorem dL_law_1691 : decode cL_law 1691 = .ok (.iconst 0, 1) := by decide +kernel
theorem dL_law_1692 : decode cL_law 1692 = .ok (.ireturn, 1) := by decide +kernel
theorem dL_law_1693 : decode cL_law 1693 = .ok (.goto 1161, 3) := by decide +kernel
theorem dL_law_1696 : decode cL_law 1696 = .ok (.aload_n 1, 1) := by decide +kernel
theorem dL_law_1697 : decode cL_law 1697 = .ok (.aload_n 0, 1) := by decide +kernel
theorem dL_law_1698 : decode cL_law 1698 = .ok (.iload 5, 2) := by decide +kernel
theorem dL_law_1700 : decode cL_law 1700 = .ok (.iconst 1, 1) := by decide +kernel
theorem dL_law_1701 : decode cL_law 1701 = .ok (.iadd, 1) := by decide +kernel
theorem dL_law_1702 : decode cL_law 1702 = .ok (.iaload, 1) := by decide +kernel
theorem dL_law_1703 : decode cL_law 1703 = .ok (.aload_n 3, 1) := by decide +kernel
theorem dL_law_1704 : decode cL_law 1704 = .ok (.invokestatic 244, 3) := by decide +kernel
theorem dL_law_1707 : decode cL_law 1707 = .ok (.istore 6, 2) := by decide +kernel
theorem dL_law_1709 : decode cL_law 1709 = .ok (.aload_n 2, 1) := by decide +kernel
theorem dL_law_1710 : decode cL_law 1710 = .ok (.aload_n 0, 1) := by decide +kernel
theorem dL_law_1711 : decode cL_law 1711 = .ok (.iload 5, 2) := by decide +kernel
theorem dL_law_1713 : decode cL_law 1713 = .ok (.iconst 1, 1) := by decide +kernel
theorem dL_law_1714 : decode cL_law 1714 = .ok (.iadd, 1) := by decide +kernel
theorem dL_law_1715 : decode cL_law 1715 = .ok (.iaload, 1) := by decide +kernel
theorem dL_law_1716 : decode cL_law 1716 = .ok (.invokevirtual 246, 3) := by decide +kernel
theorem dL_law_1719 : decode cL_law 1719 = .ok (.istore 7, 2) := by decide +kernel
theorem dL_law_1721 : decode cL_law 1721 = .ok (.aload_n 2, 1) := by decide +kernel
theorem dL_law_1722 : decode cL_law 1722 = .ok (.invokevirtual 162, 3) := by decide +kernel
theorem dL_law_1725 : decode cL_law 1725 = .ok (.iload 6, 2) := by decide +kernel
theorem dL_law_1727 : decode cL_law 1727 = .ok (.if_icmp .eq 5, 3) := by decide +kernel
theorem dL_law_1730 : decode cL_law 1730 = .ok (.iconst 0, 1) := by decide +kernel
theorem dL_law_1731 : decode cL_law 1731 = .ok (.ireturn, 1) := by decide +kernel
theorem dL_law_1732 : decode cL_law 1732 = .ok (.iload 6, 2) := by decide +kernel
theorem dL_law_1734 : decode cL_law 1734 = .ok (.ifCond .ne 15, 3) := by decide +kernel
theorem dL_law_1737 : decode cL_law 1737 = .ok (.aload_n 3, 1) := by decide +kernel
theorem dL_law_1738 : decode cL_law 1738 = .ok (.iconst 0, 1) := by decide +kernel
theorem dL_law_1739 : decode cL_law 1739 = .ok (.laload, 1) := by decide +kernel
theorem dL_law_1740 : decode cL_law 1740 = .ok (.iload 7, 2) := by decide +kernel
theorem dL_law_1742 : decode cL_law 1742 = .ok (.i2l, 1) := by decide +kernel
theorem dL_law_1743 : decode cL_law 1743 = .ok (.lcmp, 1) := by decide +kernel
theorem dL_law_1744 : decode cL_law 1744 = .ok (.ifCond .eq 5, 3) := by decide +kernel
theorem dL_law_1747 : decode cL_law 1747 = .ok (.iconst 0, 1) := by decide +kernel
theorem dL_law_1748 : decode cL_law 1748 = .ok (.ireturn, 1) := by decide +kernel
theorem dL_law_1749 : decode cL_law 1749 = .ok (.goto 1105, 3) := by decide +kernel
theorem dL_law_1752 : decode cL_law 1752 = .ok (.aload_n 1, 1) := by decide +kernel
theorem dL_law_1753 : decode cL_law 1753 = .ok (.aload_n 0, 1) := by decide +kernel
theorem dL_law_1754 : decode cL_law 1754 = .ok (.iload 5, 2) := by decide +kernel
theorem dL_law_1756 : decode cL_law 1756 = .ok (.iconst 1, 1) := by decide +kernel
theorem dL_law_1757 : decode cL_law 1757 = .ok (.iadd, 1) := by decide +kernel
theorem dL_law_1758 : decode cL_law 1758 = .ok (.iaload, 1) := by decide +kernel
theorem dL_law_1759 : decode cL_law 1759 = .ok (.aload_n 0, 1) := by decide +kernel
theorem dL_law_1760 : decode cL_law 1760 = .ok (.iload 5, 2) := by decide +kernel
theorem dL_law_1762 : decode cL_law 1762 = .ok (.iconst 2, 1) := by decide +kernel
theorem dL_law_1763 : decode cL_law 1763 = .ok (.iadd, 1) := by decide +kernel
theorem dL_law_1764 : decode cL_law 1764 = .ok (.iaload, 1) := by decide +kernel
theorem dL_law_1765 : decode cL_law 1765 = .ok (.aload_n 3, 1) := by decide +kernel
theorem dL_law_1766 : decode cL_law 1766 = .ok (.invokestatic 247, 3) := by decide +kernel
theorem dL_law_1769 : decode cL_law 1769 = .ok (.istore 6, 2) := by decide +kernel
theorem dL_law_1771 : decode cL_law 1771 = .ok (.aload_n 2, 1) := by decide +kernel
theorem dL_law_1772 : decode cL_law 1772 = .ok (.aload_n 0, 1) := by decide +kernel
theorem dL_law_1773 : decode cL_law 1773 = .ok (.iload 5, 2) := by decide +kernel
theorem dL_law_1775 : decode cL_law 1775 = .ok (.iconst 1, 1) := by decide +kernel
theorem dL_law_1776 : decode cL_law 1776 = .ok (.iadd, 1) := by decide +kernel
theorem dL_law_1777 : decode cL_law 1777 = .ok (.iaload, 1) := by decide +kernel
theorem dL_law_1778 : decode cL_law 1778 = .ok (.aload_n 0, 1) := by decide +kernel
theorem dL_law_1779 : decode cL_law 1779 = .ok (.iload 5, 2) := by decide +kernel
theorem dL_law_1781 : decode cL_law 1781 = .ok (.iconst 2, 1) := by decide +kernel
theorem dL_law_1782 : decode cL_law 1782 = .ok (.iadd, 1) := by decide +kernel
theorem dL_law_1783 : decode cL_law 1783 = .ok (.iaload, 1) := by decide +kernel
theorem dL_law_1784 : decode cL_law 1784 = .ok (.invokevirtual 249, 3) := by decide +kernel
theorem dL_law_1787 : decode cL_law 1787 = .ok (.istore 7, 2) := by decide +kernel
theorem dL_law_1789 : decode cL_law 1789 = .ok (.aload_n 2, 1) := by decide +kernel
theorem dL_law_1790 : decode cL_law 1790 = .ok (.invokevirtual 162, 3) := by decide +kernel
theorem dL_law_1793 : decode cL_law 1793 = .ok (.iload 6, 2) := by decide +kernel
theorem dL_law_1795 : decode cL_law 1795 = .ok (.if_icmp .eq 5, 3) := by decide +kernel
theorem dL_law_1798 : decode cL_law 1798 = .ok (.iconst 0, 1) := by decide +kernel
theorem dL_law_1799 : decode cL_law 1799 = .ok (.ireturn, 1) := by decide +kernel
theorem dL_law_1800 : decode cL_law 1800 = .ok (.iload 6, 2) := by decide +kernel
theorem dL_law_1802 : decode cL_law 1802 = .ok (.ifCond .ne 15, 3) := by decide +kernel
theorem dL_law_1805 : decode cL_law 1805 = .ok (.aload_n 3, 1) := by decide +kernel
theorem dL_law_1806 : decode cL_law 1806 = .ok (.iconst 0, 1) := by decide +kernel
theorem dL_law_1807 : decode cL_law 1807 = .ok (.laload, 1) := by decide +kernel
theorem dL_law_1808 : decode cL_law 1808 = .ok (.iload 7, 2) := by decide +kernel
theorem dL_law_1810 : decode cL_law 1810 = .ok (.i2l, 1) := by decide +kernel
theorem dL_law_1811 : decode cL_law 1811 = .ok (.lcmp, 1) := by decide +kernel
theorem dL_law_1812 : decode cL_law 1812 = .ok (.ifCond .eq 5, 3) := by decide +kernel
theorem dL_law_1815 : decode cL_law 1815 = .ok (.iconst 0, 1) := by decide +kernel
theorem dL_law_1816 : decode cL_law 1816 = .ok (.ireturn, 1) := by decide +kernel
theorem dL_law_1817 : decode cL_law 1817 = .ok (.goto 1037, 3) := by decide +kernel
theorem dL_law_1820 : decode cL_law 1820 = .ok (.aload_n 1, 1) := by decide +kernel
theorem dL_law_1821 : decode cL_law 1821 = .ok (.aload_n 0, 1) := by decide +kernel
theorem dL_law_1822 : decode cL_law 1822 = .ok (.iload 5, 2) := by decide +kernel
theorem dL_law_1824 : decode cL_law 1824 = .ok (.iconst 1, 1) := by decide +kernel
theorem dL_law_1825 : decode cL_law 1825 = .ok (.iadd, 1) := by decide +kernel
theorem dL_law_1826 : decode cL_law 1826 = .ok (.iaload, 1) := by decide +kernel
theorem dL_law_1827 : decode cL_law 1827 = .ok (.aload_n 0, 1) := by decide +kernel
theorem dL_law_1828 : decode cL_law 1828 = .ok (.iload 5, 2) := by decide +kernel
theorem dL_law_1830 : decode cL_law 1830 = .ok (.iconst 2, 1) := by decide +kernel
theorem dL_law_1831 : decode cL_law 1831 = .ok (.iadd, 1) := by decide +kernel
theorem dL_law_1832 : decode cL_law 1832 = .ok (.iaload, 1) := by decide +kernel
theorem dL_law_1833 : decode cL_law 1833 = .ok (.aload_n 3, 1) := by decide +kernel
theorem dL_law_1834 : decode cL_law 1834 = .ok (.invokestatic 250, 3) := by decide +kernel
theorem dL_law_1837 : decode cL_law 1837 = .ok (.istore 6, 2) := by decide +kernel
theorem dL_law_1839 : decode cL_law 1839 = .ok (.aload_n 2, 1) := by decide +kernel
theorem dL_law_1840 : decode cL_law 1840 = .ok (.aload_n 0, 1) := by decide +kernel
theorem dL_law_1841 : decode cL_law 1841 = .ok (.iload 5, 2) := by decide +kernel
theorem dL_law_1843 : decode cL_law 1843 = .ok (.iconst 1, 1) := by decide +kernel
theorem dL_law_1844 : decode cL_law 1844 = .ok (.iadd, 1) := by decide +kernel
theorem dL_law_1845 : decode cL_law 1845 = .ok (.iaload, 1) := by decide +kernel
theorem dL_law_1846 : decode cL_law 1846 = .ok (.aload_n 0, 1) := by decide +kernel
theorem dL_law_1847 : decode cL_law 1847 = .ok (.iload 5, 2) := by decide +kernel
theorem dL_law_1849 : decode cL_law 1849 = .ok (.iconst 2, 1) := by decide +kernel
theorem dL_law_1850 : decode cL_law 1850 = .ok (.iadd, 1) := by decide +kernel
theorem dL_law_1851 : decode cL_law 1851 = .ok (.iaload, 1) := by decide +kernel
theorem dL_law_1852 : decode cL_law 1852 = .ok (.invokevirtual 252, 3) := by decide +kernel
theorem dL_law_1855 : decode cL_law 1855 = .ok (.istore 7, 2) := by decide +kernel
theorem dL_law_1857 : decode cL_law 1857 = .ok (.aload_n 2, 1) := by decide +kernel
theorem dL_law_1858 : decode cL_law 1858 = .ok (.invokevirtual 162, 3) := by decide +kernel
theorem dL_law_1861 : decode cL_law 1861 = .ok (.iload 6, 2) := by decide +kernel
theorem dL_law_1863 : decode cL_law 1863 = .ok (.if_icmp .eq 5, 3) := by decide +kernel
theorem dL_law_1866 : decode cL_law 1866 = .ok (.iconst 0, 1) := by decide +kernel
theorem dL_law_1867 : decode cL_law 1867 = .ok (.ireturn, 1) := by decide +kernel
theorem dL_law_1868 : decode cL_law 1868 = .ok (.iload 6, 2) := by decide +kernel
theorem dL_law_1870 : decode cL_law 1870 = .ok (.ifCond .ne 15, 3) := by decide +kernel
theorem dL_law_1873 : decode cL_law 1873 = .ok (.aload_n 3, 1) := by decide +kernel
theorem dL_law_1874 : decode cL_law 1874 = .ok (.iconst 0, 1) := by decide +kernel
theorem dL_law_1875 : decode cL_law 1875 = .ok (.laload, 1) := by decide +kernel
theorem dL_law_1876 : decode cL_law 1876 = .ok (.iload 7, 2) := by decide +kernel
theorem dL_law_1878 : decode cL_law 1878 = .ok (.i2l, 1) := by decide +kernel
theorem dL_law_1879 : decode cL_law 1879 = .ok (.lcmp, 1) := by decide +kernel
theorem dL_law_1880 : decode cL_law 1880 = .ok (.ifCond .eq 5, 3) := by decide +kernel
theorem dL_law_1883 : decode cL_law 1883 = .ok (.iconst 0, 1) := by decide +kernel
theorem dL_law_1884 : decode cL_law 1884 = .ok (.ireturn, 1) := by decide +kernel
theorem dL_law_1885 : decode cL_law 1885 = .ok (.goto 969, 3) := by decide +kernel
theorem dL_law_1888 : decode cL_law 1888 = .ok (.aload_n 1, 1) := by decide +kernel
theorem dL_law_1889 : decode cL_law 1889 = .ok (.aload_n 0, 1) := by decide +kernel
theorem dL_law_1890 : decode cL_law 1890 = .ok (.iload 5, 2) := by decide +kernel
theorem dL_law_1892 : decode cL_law 1892 = .ok (.iconst 1, 1) := by decide +kernel
theorem dL_law_1893 : decode cL_law 1893 = .ok (.iadd, 1) := by decide +kernel
theorem dL_law_1894 : decode cL_law 1894 = .ok (.iaload, 1) := by decide +kernel
theorem dL_law_1895 : decode cL_law 1895 = .ok (.aload_n 0, 1) := by decide +kernel
theorem dL_law_1896 : decode cL_law 1896 = .ok (.iload 5, 2) := by decide +kernel
theorem dL_law_1898 : decode cL_law 1898 = .ok (.iconst 2, 1) := by decide +kernel
theorem dL_law_1899 : decode cL_law 1899 = .ok (.iadd, 1) := by decide +kernel
theorem dL_law_1900 : decode cL_law 1900 = .ok (.iaload, 1) := by decide +kernel
theorem dL_law_1901 : decode cL_law 1901 = .ok (.aload_n 3, 1) := by decide +kernel
theorem dL_law_1902 : decode cL_law 1902 = .ok (.invokestatic 253, 3) := by decide +kernel
theorem dL_law_1905 : decode cL_law 1905 = .ok (.istore 6, 2) := by decide +kernel
theorem dL_law_1907 : decode cL_law 1907 = .ok (.aload_n 2, 1) := by decide +kernel
theorem dL_law_1908 : decode cL_law 1908 = .ok (.aload_n 0, 1) := by decide +kernel
theorem dL_law_1909 : decode cL_law 1909 = .ok (.iload 5, 2) := by decide +kernel
theorem dL_law_1911 : decode cL_law 1911 = .ok (.iconst 1, 1) := by decide +kernel
theorem dL_law_1912 : decode cL_law 1912 = .ok (.iadd, 1) := by decide +kernel
theorem dL_law_1913 : decode cL_law 1913 = .ok (.iaload, 1) := by decide +kernel
theorem dL_law_1914 : decode cL_law 1914 = .ok (.aload_n 0, 1) := by decide +kernel
theorem dL_law_1915 : decode cL_law 1915 = .ok (.iload 5, 2) := by decide +kernel
theorem dL_law_1917 : decode cL_law 1917 = .ok (.iconst 2, 1) := by decide +kernel
theorem dL_law_1918 : decode cL_law 1918 = .ok (.iadd, 1) := by decide +kernel
theorem dL_law_1919 : decode cL_law 1919 = .ok (.iaload, 1) := by decide +kernel
theorem dL_law_1920 : decode cL_law 1920 = .ok (.invokevirtual 255, 3) := by decide +kernel
theorem dL_law_1923 : decode cL_law 1923 = .ok (.istore 7, 2) := by decide +kernel
theorem dL_law_1925 : decode cL_law 1925 = .ok (.aload_n 2, 1) := by decide +kernel
theorem dL_law_1926 : decode cL_law 1926 = .ok (.invokevirtual 162, 3) := by decide +kernel
theorem dL_law_1929 : decode cL_law 1929 = .ok (.iload 6, 2) := by decide +kernel
theorem dL_law_1931 : decode cL_law 1931 = .ok (.if_icmp .eq 5, 3) := by decide +kernel
theorem dL_law_1934 : decode cL_law 1934 = .ok (.iconst 0, 1) := by decide +kernel
theorem dL_law_1935 : decode cL_law 1935 = .ok (.ireturn, 1) := by decide +kernel
theorem dL_law_1936 : decode cL_law 1936 = .ok (.iload 6, 2) := by decide +kernel
theorem dL_law_1938 : decode cL_law 1938 = .ok (.ifCond .ne 15, 3) := by decide +kernel
theorem dL_law_1941 : decode cL_law 1941 = .ok (.aload_n 3, 1) := by decide +kernel
theorem dL_law_1942 : decode cL_law 1942 = .ok (.iconst 0, 1) := by decide +kernel
theorem dL_law_1943 : decode cL_law 1943 = .ok (.laload, 1) := by decide +kernel
theorem dL_law_1944 : decode cL_law 1944 = .ok (.iload 7, 2) := by decide +kernel
theorem dL_law_1946 : decode cL_law 1946 = .ok (.i2l, 1) := by decide +kernel
theorem dL_law_1947 : decode cL_law 1947 = .ok (.lcmp, 1) := by decide +kernel
theorem dL_law_1948 : decode cL_law 1948 = .ok (.ifCond .eq 5, 3) := by decide +kernel
theorem dL_law_1951 : decode cL_law 1951 = .ok (.iconst 0, 1) := by decide +kernel
theorem dL_law_1952 : decode cL_law 1952 = .ok (.ireturn, 1) := by decide +kernel
theorem dL_law_1953 : decode cL_law 1953 = .ok (.goto 901, 3) := by decide +kernel
theorem dL_law_1956 : decode cL_law 1956 = .ok (.aload_n 1, 1) := by decide +kernel
theorem dL_law_1957 : decode cL_law 1957 = .ok (.aload_n 3, 1) := by decide +kernel
theorem dL_law_1958 : decode cL_law 1958 = .ok (.invokestatic 256, 3) := by decide +kernel
theorem dL_law_1961 : decode cL_law 1961 = .ok (.istore 6, 2) := by decide +kernel
theorem dL_law_1963 : decode cL_law 1963 = .ok (.aload_n 2, 1) := by decide +kernel
theorem dL_law_1964 : decode cL_law 1964 = .ok (.invokevirtual 259, 3) := by decide +kernel
theorem dL_law_1967 : decode cL_law 1967 = .ok (.istore 7, 2) := by decide +kernel
theorem dL_law_1969 : decode cL_law 1969 = .ok (.aload_n 2, 1) := by decide +kernel
theorem dL_law_1970 : decode cL_law 1970 = .ok (.invokevirtual 162, 3) := by decide +kernel
theorem dL_law_1973 : decode cL_law 1973 = .ok (.iload 6, 2) := by decide +kernel
theorem dL_law_1975 : decode cL_law 1975 = .ok (.if_icmp .eq 5, 3) := by decide +kernel
theorem dL_law_1978 : decode cL_law 1978 = .ok (.iconst 0, 1) := by decide +kernel
theorem dL_law_1979 : decode cL_law 1979 = .ok (.ireturn, 1) := by decide +kernel
theorem dL_law_1980 : decode cL_law 1980 = .ok (.iload 6, 2) := by decide +kernel
theorem dL_law_1982 : decode cL_law 1982 = .ok (.ifCond .ne 15, 3) := by decide +kernel
theorem dL_law_1985 : decode cL_law 1985 = .ok (.aload_n 3, 1) := by decide +kernel
theorem dL_law_1986 : decode cL_law 1986 = .ok (.iconst 0, 1) := by decide +kernel
theorem dL_law_1987 : decode cL_law 1987 = .ok (.laload, 1) := by decide +kernel
theorem dL_law_1988 : decode cL_law 1988 = .ok (.iload 7, 2) := by decide +kernel
theorem dL_law_1990 : decode cL_law 1990 = .ok (.i2l, 1) := by decide +kernel
theorem dL_law_1991 : decode cL_law 1991 = .ok (.lcmp, 1) := by decide +kernel
theorem dL_law_1992 : decode cL_law 1992 = .ok (.ifCond .eq 5, 3) := by decide +kernel
theorem dL_law_1995 : decode cL_law 1995 = .ok (.iconst 0, 1) := by decide +kernel
theorem dL_law_1996 : decode cL_law 1996 = .ok (.ireturn, 1) := by decide +kernel
theorem dL_law_1997 : decode cL_law 1997 = .ok (.goto 857, 3) := by decide +kernel
theorem dL_law_2000 : decode cL_law 2000 = .ok (.aload_n 1, 1) := by decide +kernel
theorem dL_law_2001 : decode cL_law 2001 = .ok (.invokevirtual 260, 3) := by decide +kernel
theorem dL_law_2004 : decode cL_law 2004 = .ok (.aload_n 2, 1) := by decide +kernel
theorem dL_law_2005 : decode cL_law 2005 = .ok (.invokevirtual 263, 3) := by decide +kernel
theorem dL_law_2008 : decode cL_law 2008 = .ok (.if_icmp .eq 846, 3) := by decide +kernel
theorem dL_law_2011 : decode cL_law 2011 = .ok (.iconst 0, 1) := by decide +kernel
theorem dL_law_2012 : decode cL_law 2012 = .ok (.ireturn, 1) := by decide +kernel
theorem dL_law_2013 : decode cL_law 2013 = .ok (.aload_n 1, 1) := by decide +kernel
theorem dL_law_2014 : decode cL_law 2014 = .ok (.aload_n 3, 1) := by decide +kernel
theorem dL_law_2015 : decode cL_law 2015 = .ok (.invokestatic 264, 3) := by decide +kernel
theorem dL_law_2018 : decode cL_law 2018 = .ok (.istore 6, 2) := by decide +kernel
theorem dL_law_2020 : decode cL_law 2020 = .ok (.aload_n 2, 1) := by decide +kernel
theorem dL_law_2021 : decode cL_law 2021 = .ok (.invokevirtual 266, 3) := by decide +kernel
theorem dL_law_2024 : decode cL_law 2024 = .ok (.istore 7, 2) := by decide +kernel
theorem dL_law_2026 : decode cL_law 2026 = .ok (.aload_n 2, 1) := by decide +kernel
theorem dL_law_2027 : decode cL_law 2027 = .ok (.invokevirtual 162, 3) := by decide +kernel
theorem dL_law_2030 : decode cL_law 2030 = .ok (.iload 6, 2) := by decide +kernel
theorem dL_law_2032 : decode cL_law 2032 = .ok (.if_icmp .eq 5, 3) := by decide +kernel
theorem dL_law_2035 : decode cL_law 2035 = .ok (.iconst 0, 1) := by decide +kernel
theorem dL_law_2036 : decode cL_law 2036 = .ok (.ireturn, 1) := by decide +kernel
theorem dL_law_2037 : decode cL_law 2037 = .ok (.iload 6, 2) := by decide +kernel
theorem dL_law_2039 : decode cL_law 2039 = .ok (.ifCond .ne 15, 3) := by decide +kernel
theorem dL_law_2042 : decode cL_law 2042 = .ok (.aload_n 3, 1) := by decide +kernel
theorem dL_law_2043 : decode cL_law 2043 = .ok (.iconst 0, 1) := by decide +kernel
theorem dL_law_2044 : decode cL_law 2044 = .ok (.laload, 1) := by decide +kernel
theorem dL_law_2045 : decode cL_law 2045 = .ok (.iload 7, 2) := by decide +kernel
theorem dL_law_2047 : decode cL_law 2047 = .ok (.i2l, 1) := by decide +kernel
theorem dL_law_2048 : decode cL_law 2048 = .ok (.lcmp, 1) := by decide +kernel
theorem dL_law_2049 : decode cL_law 2049 = .ok (.ifCond .eq 5, 3) := by decide +kernel
theorem dL_law_2052 : decode cL_law 2052 = .ok (.iconst 0, 1) := by decide +kernel
theorem dL_law_2053 : decode cL_law 2053 = .ok (.ireturn, 1) := by decide +kernel
theorem dL_law_2054 : decode cL_law 2054 = .ok (.goto 800, 3) := by decide +kernel
theorem dL_law_2057 : decode cL_law 2057 = .ok (.aload_n 1, 1) := by decide +kernel
theorem dL_law_2058 : decode cL_law 2058 = .ok (.aload_n 0, 1) := by decide +kernel
theorem dL_law_2059 : decode cL_law 2059 = .ok (.iload 5, 2) := by decide +kernel
theorem dL_law_2061 : decode cL_law 2061 = .ok (.iconst 1, 1) := by decide +kernel
theorem dL_law_2062 : decode cL_law 2062 = .ok (.iadd, 1) := by decide +kernel
theorem dL_law_2063 : decode cL_law 2063 = .ok (.iaload, 1) := by decide +kernel
theorem dL_law_2064 : decode cL_law 2064 = .ok (.aload_n 3, 1) := by decide +kernel
theorem dL_law_2065 : decode cL_law 2065 = .ok (.invokestatic 267, 3) := by decide +kernel
theorem dL_law_2068 : decode cL_law 2068 = .ok (.istore 6, 2) := by decide +kernel
theorem dL_law_2070 : decode cL_law 2070 = .ok (.aload_n 2, 1) := by decide +kernel
theorem dL_law_2071 : decode cL_law 2071 = .ok (.aload_n 0, 1) := by decide +kernel
theorem dL_law_2072 : decode cL_law 2072 = .ok (.iload 5, 2) := by decide +kernel
theorem dL_law_2074 : decode cL_law 2074 = .ok (.iconst 1, 1) := by decide +kernel
theorem dL_law_2075 : decode cL_law 2075 = .ok (.iadd, 1) := by decide +kernel
theorem dL_law_2076 : decode cL_law 2076 = .ok (.iaload, 1) := by decide +kernel
theorem dL_law_2077 : decode cL_law 2077 = .ok (.invokevirtual 269, 3) := by decide +kernel
theorem dL_law_2080 : decode cL_law 2080 = .ok (.istore 7, 2) := by decide +kernel
theorem dL_law_2082 : decode cL_law 2082 = .ok (.aload_n 2, 1) := by decide +kernel
theorem dL_law_2083 : decode cL_law 2083 = .ok (.invokevirtual 162, 3) := by decide +kernel
theorem dL_law_2086 : decode cL_law 2086 = .ok (.iload 6, 2) := by decide +kernel
theorem dL_law_2088 : decode cL_law 2088 = .ok (.if_icmp .eq 5, 3) := by decide +kernel
theorem dL_law_2091 : decode cL_law 2091 = .ok (.iconst 0, 1) := by decide +kernel
theorem dL_law_2092 : decode cL_law 2092 = .ok (.ireturn, 1) := by decide +kernel
theorem dL_law_2093 : decode cL_law 2093 = .ok (.iload 6, 2) := by decide +kernel
theorem dL_law_2095 : decode cL_law 2095 = .ok (.ifCond .ne 15, 3) := by decide +kernel
theorem dL_law_2098 : decode cL_law 2098 = .ok (.aload_n 3, 1) := by decide +kernel
theorem dL_law_2099 : decode cL_law 2099 = .ok (.iconst 0, 1) := by decide +kernel
theorem dL_law_2100 : decode cL_law 2100 = .ok (.laload, 1) := by decide +kernel
theorem dL_law_2101 : decode cL_law 2101 = .ok (.iload 7, 2) := by decide +kernel
theorem dL_law_2103 : decode cL_law 2103 = .ok (.i2l, 1) := by decide +kernel
theorem dL_law_2104 : decode cL_law 2104 = .ok (.lcmp, 1) := by decide +kernel
theorem dL_law_2105 : decode cL_law 2105 = .ok (.ifCond .eq 5, 3) := by decide +kernel
theorem dL_law_2108 : decode cL_law 2108 = .ok (.iconst 0, 1) := by decide +kernel
theorem dL_law_2109 : decode cL_law 2109 = .ok (.ireturn, 1) := by decide +kernel
theorem dL_law_2110 : decode cL_law 2110 = .ok (.goto 744, 3) := by decide +kernel
theorem dL_law_2113 : decode cL_law 2113 = .ok (.aload_n 1, 1) := by decide +kernel
theorem dL_law_2114 : decode cL_law 2114 = .ok (.aload_n 0, 1) := by decide +kernel
theorem dL_law_2115 : decode cL_law 2115 = .ok (.iload 5, 2) := by decide +kernel
theorem dL_law_2117 : decode cL_law 2117 = .ok (.iconst 1, 1) := by decide +kernel
theorem dL_law_2118 : decode cL_law 2118 = .ok (.iadd, 1) := by decide +kernel
theorem dL_law_2119 : decode cL_law 2119 = .ok (.iaload, 1) := by decide +kernel
theorem dL_law_2120 : decode cL_law 2120 = .ok (.aload_n 3, 1) := by decide +kernel
theorem dL_law_2121 : decode cL_law 2121 = .ok (.invokestatic 270, 3) := by decide +kernel
theorem dL_law_2124 : decode cL_law 2124 = .ok (.istore 6, 2) := by decide +kernel
theorem dL_law_2126 : decode cL_law 2126 = .ok (.aload_n 2, 1) := by decide +kernel
theorem dL_law_2127 : decode cL_law 2127 = .ok (.aload_n 0, 1) := by decide +kernel
theorem dL_law_2128 : decode cL_law 2128 = .ok (.iload 5, 2) := by decide +kernel
theorem dL_law_2130 : decode cL_law 2130 = .ok (.iconst 1, 1) := by decide +kernel
theorem dL_law_2131 : decode cL_law 2131 = .ok (.iadd, 1) := by decide +kernel
theorem dL_law_2132 : decode cL_law 2132 = .ok (.iaload, 1) := by decide +kernel
theorem dL_law_2133 : decode cL_law 2133 = .ok (.invokevirtual 272, 3) := by decide +kernel
theorem dL_law_2136 : decode cL_law 2136 = .ok (.istore 7, 2) := by decide +kernel
theorem dL_law_2138 : decode cL_law 2138 = .ok (.aload_n 2, 1) := by decide +kernel
theorem dL_law_2139 : decode cL_law 2139 = .ok (.invokevirtual 162, 3) := by decide +kernel
theorem dL_law_2142 : decode cL_law 2142 = .ok (.iload 6, 2) := by decide +kernel
theorem dL_law_2144 : decode cL_law 2144 = .ok (.if_icmp .eq 5, 3) := by decide +kernel
theorem dL_law_2147 : decode cL_law 2147 = .ok (.iconst 0, 1) := by decide +kernel
theorem dL_law_2148 : decode cL_law 2148 = .ok (.ireturn, 1) := by decide +kernel
theorem dL_law_2149 : decode cL_law 2149 = .ok (.iload 6, 2) := by decide +kernel
theorem dL_law_2151 : decode cL_law 2151 = .ok (.ifCond .ne 15, 3) := by decide +kernel
theorem dL_law_2154 : decode cL_law 2154 = .ok (.aload_n 3, 1) := by decide +kernel
theorem dL_law_2155 : decode cL_law 2155 = .ok (.iconst 0, 1) := by decide +kernel
theorem dL_law_2156 : decode cL_law 2156 = .ok (.laload, 1) := by decide +kernel
theorem dL_law_2157 : decode cL_law 2157 = .ok (.iload 7, 2) := by decide +kernel
theorem dL_law_2159 : decode cL_law 2159 = .ok (.i2l, 1) := by decide +kernel
theorem dL_law_2160 : decode cL_law 2160 = .ok (.lcmp, 1) := by decide +kernel
theorem dL_law_2161 : decode cL_law 2161 = .ok (.ifCond .eq 5, 3) := by decide +kernel
theorem dL_law_2164 : decode cL_law 2164 = .ok (.iconst 0, 1) := by decide +kernel
theorem dL_law_2165 : decode cL_law 2165 = .ok (.ireturn, 1) := by decide +kernel
theorem dL_law_2166 : decode cL_law 2166 = .ok (.goto 688, 3) := by decide +kernel
theorem dL_law_2169 : decode cL_law 2169 = .ok (.aload_n 1, 1) := by decide +kernel
theorem dL_law_2170 : decode cL_law 2170 = .ok (.aload_n 0, 1) := by decide +kernel
theorem dL_law_2171 : decode cL_law 2171 = .ok (.iload 5, 2) := by decide +kernel
theorem dL_law_2173 : decode cL_law 2173 = .ok (.iconst 1, 1) := by decide +kernel
theorem dL_law_2174 : decode cL_law 2174 = .ok (.iadd, 1) := by decide +kernel
theorem dL_law_2175 : decode cL_law 2175 = .ok (.iaload, 1) := by decide +kernel
theorem dL_law_2176 : decode cL_law 2176 = .ok (.aload_n 3, 1) := by decide +kernel
theorem dL_law_2177 : decode cL_law 2177 = .ok (.invokestatic 273, 3) := by decide +kernel
theorem dL_law_2180 : decode cL_law 2180 = .ok (.istore 6, 2) := by decide +kernel
theorem dL_law_2182 : decode cL_law 2182 = .ok (.aload_n 2, 1) := by decide +kernel
theorem dL_law_2183 : decode cL_law 2183 = .ok (.aload_n 0, 1) := by decide +kernel
theorem dL_law_2184 : decode cL_law 2184 = .ok (.iload 5, 2) := by decide +kernel
theorem dL_law_2186 : decode cL_law 2186 = .ok (.iconst 1, 1) := by decide +kernel
theorem dL_law_2187 : decode cL_law 2187 = .ok (.iadd, 1) := by decide +kernel
theorem dL_law_2188 : decode cL_law 2188 = .ok (.iaload, 1) := by decide +kernel
theorem dL_law_2189 : decode cL_law 2189 = .ok (.invokevirtual 275, 3) := by decide +kernel
theorem dL_law_2192 : decode cL_law 2192 = .ok (.istore 7, 2) := by decide +kernel
theorem dL_law_2194 : decode cL_law 2194 = .ok (.aload_n 2, 1) := by decide +kernel
theorem dL_law_2195 : decode cL_law 2195 = .ok (.invokevirtual 162, 3) := by decide +kernel
theorem dL_law_2198 : decode cL_law 2198 = .ok (.iload 6, 2) := by decide +kernel
theorem dL_law_2200 : decode cL_law 2200 = .ok (.if_icmp .eq 5, 3) := by decide +kernel
theorem dL_law_2203 : decode cL_law 2203 = .ok (.iconst 0, 1) := by decide +kernel
theorem dL_law_2204 : decode cL_law 2204 = .ok (.ireturn, 1) := by decide +kernel
theorem dL_law_2205 : decode cL_law 2205 = .ok (.iload 6, 2) := by decide +kernel
theorem dL_law_2207 : decode cL_law 2207 = .ok (.ifCond .ne 15, 3) := by decide +kernel
theorem dL_law_2210 : decode cL_law 2210 = .ok (.aload_n 3, 1) := by decide +kernel
theorem dL_law_2211 : decode cL_law 2211 = .ok (.iconst 0, 1) := by decide +kernel
theorem dL_law_2212 : decode cL_law 2212 = .ok (.laload, 1) := by decide +kernel
theorem dL_law_2213 : decode cL_law 2213 = .ok (.iload 7, 2) := by decide +kernel
theorem dL_law_2215 : decode cL_law 2215 = .ok (.i2l, 1) := by decide +kernel
theorem dL_law_2216 : decode cL_law 2216 = .ok (.lcmp, 1) := by decide +kernel
theorem dL_law_2217 : decode cL_law 2217 = .ok (.ifCond .eq 5, 3) := by decide +kernel
theorem dL_law_2220 : decode cL_law 2220 = .ok (.iconst 0, 1) := by decide +kernel
theorem dL_law_2221 : decode cL_law 2221 = .ok (.ireturn, 1) := by decide +kernel
theorem dL_law_2222 : decode cL_law 2222 = .ok (.goto 632, 3) := by decide +kernel
theorem dL_law_2225 : decode cL_law 2225 = .ok (.aload_n 1, 1) := by decide +kernel
theorem dL_law_2226 : decode cL_law 2226 = .ok (.aload_n 0, 1) := by decide +kernel
theorem dL_law_2227 : decode cL_law 2227 = .ok (.iload 5, 2) := by decide +kernel
theorem dL_law_2229 : decode cL_law 2229 = .ok (.iconst 1, 1) := by decide +kernel
theorem dL_law_2230 : decode cL_law 2230 = .ok (.iadd, 1) := by decide +kernel
theorem dL_law_2231 : decode cL_law 2231 = .ok (.iaload, 1) := by decide +kernel
theorem dL_law_2232 : decode cL_law 2232 = .ok (.aload_n 3, 1) := by decide +kernel
theorem dL_law_2233 : decode cL_law 2233 = .ok (.invokestatic 276, 3) := by decide +kernel
theorem dL_law_2236 : decode cL_law 2236 = .ok (.istore 6, 2) := by decide +kernel
theorem dL_law_2238 : decode cL_law 2238 = .ok (.aload_n 2, 1) := by decide +kernel
theorem dL_law_2239 : decode cL_law 2239 = .ok (.aload_n 0, 1) := by decide +kernel
theorem dL_law_2240 : decode cL_law 2240 = .ok (.iload 5, 2) := by decide +kernel
theorem dL_law_2242 : decode cL_law 2242 = .ok (.iconst 1, 1) := by decide +kernel
theorem dL_law_2243 : decode cL_law 2243 = .ok (.iadd, 1) := by decide +kernel
theorem dL_law_2244 : decode cL_law 2244 = .ok (.iaload, 1) := by decide +kernel
theorem dL_law_2245 : decode cL_law 2245 = .ok (.invokevirtual 278, 3) := by decide +kernel
theorem dL_law_2248 : decode cL_law 2248 = .ok (.istore 7, 2) := by decide +kernel
theorem dL_law_2250 : decode cL_law 2250 = .ok (.aload_n 2, 1) := by decide +kernel
theorem dL_law_2251 : decode cL_law 2251 = .ok (.invokevirtual 162, 3) := by decide +kernel
theorem dL_law_2254 : decode cL_law 2254 = .ok (.iload 6, 2) := by decide +kernel
theorem dL_law_2256 : decode cL_law 2256 = .ok (.if_icmp .eq 5, 3) := by decide +kernel
theorem dL_law_2259 : decode cL_law 2259 = .ok (.iconst 0, 1) := by decide +kernel
theorem dL_law_2260 : decode cL_law 2260 = .ok (.ireturn, 1) := by decide +kernel
theorem dL_law_2261 : decode cL_law 2261 = .ok (.iload 6, 2) := by decide +kernel
theorem dL_law_2263 : decode cL_law 2263 = .ok (.ifCond .ne 15, 3) := by decide +kernel
theorem dL_law_2266 : decode cL_law 2266 = .ok (.aload_n 3, 1) := by decide +kernel
theorem dL_law_2267 : decode cL_law 2267 = .ok (.iconst 0, 1) := by decide +kernel
theorem dL_law_2268 : decode cL_law 2268 = .ok (.laload, 1) := by decide +kernel
theorem dL_law_2269 : decode cL_law 2269 = .ok (.iload 7, 2) := by decide +kernel
theorem dL_law_2271 : decode cL_law 2271 = .ok (.i2l, 1) := by decide +kernel
theorem dL_law_2272 : decode cL_law 2272 = .ok (.lcmp, 1) := by decide +kernel
theorem dL_law_2273 : decode cL_law 2273 = .ok (.ifCond .eq 5, 3) := by decide +kernel
theorem dL_law_2276 : decode cL_law 2276 = .ok (.iconst 0, 1) := by decide +kernel
theorem dL_law_2277 : decode cL_law 2277 = .ok (.ireturn, 1) := by decide +kernel
theorem dL_law_2278 : decode cL_law 2278 = .ok (.goto 576, 3) := by decide +kernel
theorem dL_law_2281 : decode cL_law 2281 = .ok (.aload_n 1, 1) := by decide +kernel
theorem dL_law_2282 : decode cL_law 2282 = .ok (.invokevirtual 279, 3) := by decide +kernel
theorem dL_law_2285 : decode cL_law 2285 = .ok (.aload_n 2, 1) := by decide +kernel
theorem dL_law_2286 : decode cL_law 2286 = .ok (.invokevirtual 282, 3) := by decide +kernel
theorem dL_law_2289 : decode cL_law 2289 = .ok (.if_icmp .eq 565, 3) := by decide +kernel
theorem dL_law_2292 : decode cL_law 2292 = .ok (.iconst 0, 1) := by decide +kernel
theorem dL_law_2293 : decode cL_law 2293 = .ok (.ireturn, 1) := by decide +kernel
theorem dL_law_2294 : decode cL_law 2294 = .ok (.aload_n 1, 1) := by decide +kernel
theorem dL_law_2295 : decode cL_law 2295 = .ok (.aload_n 0, 1) := by decide +kernel
theorem dL_law_2296 : decode cL_law 2296 = .ok (.iload 5, 2) := by decide +kernel
theorem dL_law_2298 : decode cL_law 2298 = .ok (.iconst 1, 1) := by decide +kernel
theorem dL_law_2299 : decode cL_law 2299 = .ok (.iadd, 1) := by decide +kernel
theorem dL_law_2300 : decode cL_law 2300 = .ok (.iaload, 1) := by decide +kernel
theorem dL_law_2301 : decode cL_law 2301 = .ok (.aload_n 3, 1) := by decide +kernel
theorem dL_law_2302 : decode cL_law 2302 = .ok (.invokestatic 283, 3) := by decide +kernel
theorem dL_law_2305 : decode cL_law 2305 = .ok (.istore 6, 2) := by decide +kernel
theorem dL_law_2307 : decode cL_law 2307 = .ok (.aload_n 2, 1) := by decide +kernel
theorem dL_law_2308 : decode cL_law 2308 = .ok (.aload_n 0, 1) := by decide +kernel
theorem dL_law_2309 : decode cL_law 2309 = .ok (.iload 5, 2) := by decide +kernel
theorem dL_law_2311 : decode cL_law 2311 = .ok (.iconst 1, 1) := by decide +kernel
theorem dL_law_2312 : decode cL_law 2312 = .ok (.iadd, 1) := by decide +kernel
theorem dL_law_2313 : decode cL_law 2313 = .ok (.iaload, 1) := by decide +kernel
theorem dL_law_2314 : decode cL_law 2314 = .ok (.invokevirtual 285, 3) := by decide +kernel
theorem dL_law_2317 : decode cL_law 2317 = .ok (.istore 7, 2) := by decide +kernel
theorem dL_law_2319 : decode cL_law 2319 = .ok (.aload_n 2, 1) := by decide +kernel
theorem dL_law_2320 : decode cL_law 2320 = .ok (.invokevirtual 162, 3) := by decide +kernel
theorem dL_law_2323 : decode cL_law 2323 = .ok (.iload 6, 2) := by decide +kernel
theorem dL_law_2325 : decode cL_law 2325 = .ok (.if_icmp .eq 5, 3) := by decide +kernel
theorem dL_law_2328 : decode cL_law 2328 = .ok (.iconst 0, 1) := by decide +kernel
theorem dL_law_2329 : decode cL_law 2329 = .ok (.ireturn, 1) := by decide +kernel
theorem dL_law_2330 : decode cL_law 2330 = .ok (.iload 6, 2) := by decide +kernel
theorem dL_law_2332 : decode cL_law 2332 = .ok (.ifCond .ne 15, 3) := by decide +kernel
theorem dL_law_2335 : decode cL_law 2335 = .ok (.aload_n 3, 1) := by decide +kernel
theorem dL_law_2336 : decode cL_law 2336 = .ok (.iconst 0, 1) := by decide +kernel
theorem dL_law_2337 : decode cL_law 2337 = .ok (.laload, 1) := by decide +kernel
theorem dL_law_2338 : decode cL_law 2338 = .ok (.iload 7, 2) := by decide +kernel
theorem dL_law_2340 : decode cL_law 2340 = .ok (.i2l, 1) := by decide +kernel
theorem dL_law_2341 : decode cL_law 2341 = .ok (.lcmp, 1) := by decide +kernel
theorem dL_law_2342 : decode cL_law 2342 = .ok (.ifCond .eq 5, 3) := by decide +kernel
theorem dL_law_2345 : decode cL_law 2345 = .ok (.iconst 0, 1) := by decide +kernel
theorem dL_law_2346 : decode cL_law 2346 = .ok (.ireturn, 1) := by decide +kernel
theorem dL_law_2347 : decode cL_law 2347 = .ok (.goto 507, 3) := by decide +kernel
theorem dL_law_2350 : decode cL_law 2350 = .ok (.aload_n 1, 1) := by decide +kernel
theorem dL_law_2351 : decode cL_law 2351 = .ok (.aload_n 0, 1) := by decide +kernel
theorem dL_law_2352 : decode cL_law 2352 = .ok (.iload 5, 2) := by decide +kernel
theorem dL_law_2354 : decode cL_law 2354 = .ok (.iconst 1, 1) := by decide +kernel
theorem dL_law_2355 : decode cL_law 2355 = .ok (.iadd, 1) := by decide +kernel
theorem dL_law_2356 : decode cL_law 2356 = .ok (.iaload, 1) := by decide +kernel
theorem dL_law_2357 : decode cL_law 2357 = .ok (.aload_n 3, 1) := by decide +kernel
theorem dL_law_2358 : decode cL_law 2358 = .ok (.invokestatic 286, 3) := by decide +kernel
theorem dL_law_2361 : decode cL_law 2361 = .ok (.istore 6, 2) := by decide +kernel
theorem dL_law_2363 : decode cL_law 2363 = .ok (.aload_n 2, 1) := by decide +kernel
theorem dL_law_2364 : decode cL_law 2364 = .ok (.aload_n 0, 1) := by decide +kernel
theorem dL_law_2365 : decode cL_law 2365 = .ok (.iload 5, 2) := by decide +kernel
theorem dL_law_2367 : decode cL_law 2367 = .ok (.iconst 1, 1) := by decide +kernel
theorem dL_law_2368 : decode cL_law 2368 = .ok (.iadd, 1) := by decide +kernel
theorem dL_law_2369 : decode cL_law 2369 = .ok (.iaload, 1) := by decide +kernel
theorem dL_law_2370 : decode cL_law 2370 = .ok (.invokevirtual 288, 3) := by decide +kernel
theorem dL_law_2373 : decode cL_law 2373 = .ok (.istore 7, 2) := by decide +kernel
theorem dL_law_2375 : decode cL_law 2375 = .ok (.aload_n 2, 1) := by decide +kernel
theorem dL_law_2376 : decode cL_law 2376 = .ok (.invokevirtual 162, 3) := by decide +kernel
theorem dL_law_2379 : decode cL_law 2379 = .ok (.iload 6, 2) := by decide +kernel
theorem dL_law_2381 : decode cL_law 2381 = .ok (.if_icmp .eq 5, 3) := by decide +kernel
theorem dL_law_2384 : decode cL_law 2384 = .ok (.iconst 0, 1) := by decide +kernel
theorem dL_law_2385 : decode cL_law 2385 = .ok (.ireturn, 1) := by decide +kernel
theorem dL_law_2386 : decode cL_law 2386 = .ok (.iload 6, 2) := by decide +kernel
theorem dL_law_2388 : decode cL_law 2388 = .ok (.ifCond .ne 15, 3) := by decide +kernel
theorem dL_law_2391 : decode cL_law 2391 = .ok (.aload_n 3, 1) := by decide +kernel
theorem dL_law_2392 : decode cL_law 2392 = .ok (.iconst 0, 1) := by decide +kernel
theorem dL_law_2393 : decode cL_law 2393 = .ok (.laload, 1) := by decide +kernel
theorem dL_law_2394 : decode cL_law 2394 = .ok (.iload 7, 2) := by decide +kernel
theorem dL_law_2396 : decode cL_law 2396 = .ok (.i2l, 1) := by decide +kernel
theorem dL_law_2397 : decode cL_law 2397 = .ok (.lcmp, 1) := by decide +kernel
theorem dL_law_2398 : decode cL_law 2398 = .ok (.ifCond .eq 5, 3) := by decide +kernel
theorem dL_law_2401 : decode cL_law 2401 = .ok (.iconst 0, 1) := by decide +kernel
theorem dL_law_2402 : decode cL_law 2402 = .ok (.ireturn, 1) := by decide +kernel
theorem dL_law_2403 : decode cL_law 2403 = .ok (.goto 451, 3) := by decide +kernel
theorem dL_law_2406 : decode cL_law 2406 = .ok (.aload_n 1, 1) := by decide +kernel
theorem dL_law_2407 : decode cL_law 2407 = .ok (.invokevirtual 289, 3) := by decide +kernel
theorem dL_law_2410 : decode cL_law 2410 = .ok (.aload_n 2, 1) := by decide +kernel
theorem dL_law_2411 : decode cL_law 2411 = .ok (.invokevirtual 292, 3) := by decide +kernel
theorem dL_law_2414 : decode cL_law 2414 = .ok (.if_icmp .eq 440, 3) := by decide +kernel
theorem dL_law_2417 : decode cL_law 2417 = .ok (.iconst 0, 1) := by decide +kernel
theorem dL_law_2418 : decode cL_law 2418 = .ok (.ireturn, 1) := by decide +kernel
theorem dL_law_2419 : decode cL_law 2419 = .ok (.aload_n 1, 1) := by decide +kernel
theorem dL_law_2420 : decode cL_law 2420 = .ok (.aload_n 0, 1) := by decide +kernel
theorem dL_law_2421 : decode cL_law 2421 = .ok (.iload 5, 2) := by decide +kernel
theorem dL_law_2423 : decode cL_law 2423 = .ok (.iconst 1, 1) := by decide +kernel
theorem dL_law_2424 : decode cL_law 2424 = .ok (.iadd, 1) := by decide +kernel
theorem dL_law_2425 : decode cL_law 2425 = .ok (.iaload, 1) := by decide +kernel
theorem dL_law_2426 : decode cL_law 2426 = .ok (.aload_n 3, 1) := by decide +kernel
theorem dL_law_2427 : decode cL_law 2427 = .ok (.invokestatic 293, 3) := by decide +kernel
theorem dL_law_2430 : decode cL_law 2430 = .ok (.istore 6, 2) := by decide +kernel
theorem dL_law_2432 : decode cL_law 2432 = .ok (.aload_n 2, 1) := by decide +kernel
theorem dL_law_2433 : decode cL_law 2433 = .ok (.aload_n 0, 1) := by decide +kernel
theorem dL_law_2434 : decode cL_law 2434 = .ok (.iload 5, 2) := by decide +kernel
theorem dL_law_2436 : decode cL_law 2436 = .ok (.iconst 1, 1) := by decide +kernel
theorem dL_law_2437 : decode cL_law 2437 = .ok (.iadd, 1) := by decide +kernel
theorem dL_law_2438 : decode cL_law 2438 = .ok (.iaload, 1) := by decide +kernel
theorem dL_law_2439 : decode cL_law 2439 = .ok (.invokevirtual 295, 3) := by decide +kernel
theorem dL_law_2442 : decode cL_law 2442 = .ok (.istore 7, 2) := by decide +kernel
theorem dL_law_2444 : decode cL_law 2444 = .ok (.aload_n 2, 1) := by decide +kernel
theorem dL_law_2445 : decode cL_law 2445 = .ok (.invokevirtual 162, 3) := by decide +kernel
theorem dL_law_2448 : decode cL_law 2448 = .ok (.iload 6, 2) := by decide +kernel
theorem dL_law_2450 : decode cL_law 2450 = .ok (.if_icmp .eq 5, 3) := by decide +kernel
theorem dL_law_2453 : decode cL_law 2453 = .ok (.iconst 0, 1) := by decide +kernel
theorem dL_law_2454 : decode cL_law 2454 = .ok (.ireturn, 1) := by decide +kernel
theorem dL_law_2455 : decode cL_law 2455 = .ok (.iload 6, 2) := by decide +kernel
theorem dL_law_2457 : decode cL_law 2457 = .ok (.ifCond .ne 15, 3) := by decide +kernel
theorem dL_law_2460 : decode cL_law 2460 = .ok (.aload_n 3, 1) := by decide +kernel
theorem dL_law_2461 : decode cL_law 2461 = .ok (.iconst 0, 1) := by decide +kernel
theorem dL_law_2462 : decode cL_law 2462 = .ok (.laload, 1) := by decide +kernel
theorem dL_law_2463 : decode cL_law 2463 = .ok (.iload 7, 2) := by decide +kernel
theorem dL_law_2465 : decode cL_law 2465 = .ok (.i2l, 1) := by decide +kernel
theorem dL_law_2466 : decode cL_law 2466 = .ok (.lcmp, 1) := by decide +kernel
theorem dL_law_2467 : decode cL_law 2467 = .ok (.ifCond .eq 5, 3) := by decide +kernel
theorem dL_law_2470 : decode cL_law 2470 = .ok (.iconst 0, 1) := by decide +kernel
theorem dL_law_2471 : decode cL_law 2471 = .ok (.ireturn, 1) := by decide +kernel
theorem dL_law_2472 : decode cL_law 2472 = .ok (.goto 382, 3) := by decide +kernel
theorem dL_law_2475 : decode cL_law 2475 = .ok (.aload_n 1, 1) := by decide +kernel
theorem dL_law_2476 : decode cL_law 2476 = .ok (.aload_n 0, 1) := by decide +kernel
theorem dL_law_2477 : decode cL_law 2477 = .ok (.iload 5, 2) := by decide +kernel
theorem dL_law_2479 : decode cL_law 2479 = .ok (.iconst 1, 1) := by decide +kernel
theorem dL_law_2480 : decode cL_law 2480 = .ok (.iadd, 1) := by decide +kernel
theorem dL_law_2481 : decode cL_law 2481 = .ok (.iaload, 1) := by decide +kernel
theorem dL_law_2482 : decode cL_law 2482 = .ok (.aload_n 3, 1) := by decide +kernel
theorem dL_law_2483 : decode cL_law 2483 = .ok (.invokestatic 296, 3) := by decide +kernel
theorem dL_law_2486 : decode cL_law 2486 = .ok (.istore 6, 2) := by decide +kernel
theorem dL_law_2488 : decode cL_law 2488 = .ok (.aload_n 2, 1) := by decide +kernel
theorem dL_law_2489 : decode cL_law 2489 = .ok (.aload_n 0, 1) := by decide +kernel
theorem dL_law_2490 : decode cL_law 2490 = .ok (.iload 5, 2) := by decide +kernel
theorem dL_law_2492 : decode cL_law 2492 = .ok (.iconst 1, 1) := by decide +kernel
theorem dL_law_2493 : decode cL_law 2493 = .ok (.iadd, 1) := by decide +kernel
theorem dL_law_2494 : decode cL_law 2494 = .ok (.iaload, 1) := by decide +kernel
theorem dL_law_2495 : decode cL_law 2495 = .ok (.invokevirtual 298, 3) := by decide +kernel
theorem dL_law_2498 : decode cL_law 2498 = .ok (.istore 7, 2) := by decide +kernel
theorem dL_law_2500 : decode cL_law 2500 = .ok (.aload_n 2, 1) := by decide +kernel
theorem dL_law_2501 : decode cL_law 2501 = .ok (.invokevirtual 162, 3) := by decide +kernel
theorem dL_law_2504 : decode cL_law 2504 = .ok (.iload 6, 2) := by decide +kernel
theorem dL_law_2506 : decode cL_law 2506 = .ok (.if_icmp .eq 5, 3) := by decide +kernel
theorem dL_law_2509 : decode cL_law 2509 = .ok (.iconst 0, 1) := by decide +kernel
theorem dL_law_2510 : decode cL_law 2510 = .ok (.ireturn, 1) := by decide +kernel
theorem dL_law_2511 : decode cL_law 2511 = .ok (.iload 6, 2) := by decide +kernel
theorem dL_law_2513 : decode cL_law 2513 = .ok (.ifCond .ne 15, 3) := by decide +kernel
theorem dL_law_2516 : decode cL_law 2516 = .ok (.aload_n 3, 1) := by decide +kernel
theorem dL_law_2517 : decode cL_law 2517 = .ok (.iconst 0, 1) := by decide +kernel
theorem dL_law_2518 : decode cL_law 2518 = .ok (.laload, 1) := by decide +kernel
theorem dL_law_2519 : decode cL_law 2519 = .ok (.iload 7, 2) := by decide +kernel
theorem dL_law_2521 : decode cL_law 2521 = .ok (.i2l, 1) := by decide +kernel
theorem dL_law_2522 : decode cL_law 2522 = .ok (.lcmp, 1) := by decide +kernel
theorem dL_law_2523 : decode cL_law 2523 = .ok (.ifCond .eq 5, 3) := by decide +kernel
theorem dL_law_2526 : decode cL_law 2526 = .ok (.iconst 0, 1) := by decide +kernel
theorem dL_law_2527 : decode cL_law 2527 = .ok (.ireturn, 1) := by decide +kernel
theorem dL_law_2528 : decode cL_law 2528 = .ok (.goto 326, 3) := by decide +kernel
theorem dL_law_2531 : decode cL_law 2531 = .ok (.aload_n 1, 1) := by decide +kernel
theorem dL_law_2532 : decode cL_law 2532 = .ok (.aload_n 0, 1) := by decide +kernel
theorem dL_law_2533 : decode cL_law 2533 = .ok (.iload 5, 2) := by decide +kernel
theorem dL_law_2535 : decode cL_law 2535 = .ok (.iconst 1, 1) := by decide +kernel
theorem dL_law_2536 : decode cL_law 2536 = .ok (.iadd, 1) := by decide +kernel
theorem dL_law_2537 : decode cL_law 2537 = .ok (.iaload, 1) := by decide +kernel
theorem dL_law_2538 : decode cL_law 2538 = .ok (.aload_n 3, 1) := by decide +kernel
theorem dL_law_2539 : decode cL_law 2539 = .ok (.invokestatic 299, 3) := by decide +kernel
theorem dL_law_2542 : decode cL_law 2542 = .ok (.istore 6, 2) := by decide +kernel
theorem dL_law_2544 : decode cL_law 2544 = .ok (.aload_n 2, 1) := by decide +kernel
theorem dL_law_2545 : decode cL_law 2545 = .ok (.aload_n 0, 1) := by decide +kernel
theorem dL_law_2546 : decode cL_law 2546 = .ok (.iload 5, 2) := by decide +kernel
theorem dL_law_2548 : decode cL_law 2548 = .ok (.iconst 1, 1) := by decide +kernel
theorem dL_law_2549 : decode cL_law 2549 = .ok (.iadd, 1) := by decide +kernel
theorem dL_law_2550 : decode cL_law 2550 = .ok (.iaload, 1) := by decide +kernel
theorem dL_law_2551 : decode cL_law 2551 = .ok (.invokevirtual 301, 3) := by decide +kernel
theorem dL_law_2554 : decode cL_law 2554 = .ok (.istore 7, 2) := by decide +kernel
theorem dL_law_2556 : decode cL_law 2556 = .ok (.aload_n 2, 1) := by decide +kernel
theorem dL_law_2557 : decode cL_law 2557 = .ok (.invokevirtual 162, 3) := by decide +kernel
theorem dL_law_2560 : decode cL_law 2560 = .ok (.iload 6, 2) := by decide +kernel
theorem dL_law_2562 : decode cL_law 2562 = .ok (.if_icmp .eq 5, 3) := by decide +kernel
theorem dL_law_2565 : decode cL_law 2565 = .ok (.iconst 0, 1) := by decide +kernel
theorem dL_law_2566 : decode cL_law 2566 = .ok (.ireturn, 1) := by decide +kernel
theorem dL_law_2567 : decode cL_law 2567 = .ok (.iload 6, 2) := by decide +kernel
theorem dL_law_2569 : decode cL_law 2569 = .ok (.ifCond .ne 15, 3) := by decide +kernel
theorem dL_law_2572 : decode cL_law 2572 = .ok (.aload_n 3, 1) := by decide +kernel
theorem dL_law_2573 : decode cL_law 2573 = .ok (.iconst 0, 1) := by decide +kernel
theorem dL_law_2574 : decode cL_law 2574 = .ok (.laload, 1) := by decide +kernel
theorem dL_law_2575 : decode cL_law 2575 = .ok (.iload 7, 2) := by decide +kernel
theorem dL_law_2577 : decode cL_law 2577 = .ok (.i2l, 1) := by decide +kernel
theorem dL_law_2578 : decode cL_law 2578 = .ok (.lcmp, 1) := by decide +kernel
theorem dL_law_2579 : decode cL_law 2579 = .ok (.ifCond .eq 5, 3) := by decide +kernel
theorem dL_law_2582 : decode cL_law 2582 = .ok (.iconst 0, 1) := by decide +kernel
theorem dL_law_2583 : decode cL_law 2583 = .ok (.ireturn, 1) := by decide +kernel
theorem dL_law_2584 : decode cL_law 2584 = .ok (.goto 270, 3) := by decide +kernel
theorem dL_law_2587 : decode cL_law 2587 = .ok (.aload_n 1, 1) := by decide +kernel
theorem dL_law_2588 : decode cL_law 2588 = .ok (.aload_n 0, 1) := by decide +kernel
theorem dL_law_2589 : decode cL_law 2589 = .ok (.iload 5, 2) := by decide +kernel
theorem dL_law_2591 : decode cL_law 2591 = .ok (.iconst 1, 1) := by decide +kernel
theorem dL_law_2592 : decode cL_law 2592 = .ok (.iadd, 1) := by decide +kernel
theorem dL_law_2593 : decode cL_law 2593 = .ok (.iaload, 1) := by decide +kernel
theorem dL_law_2594 : decode cL_law 2594 = .ok (.aload_n 3, 1) := by decide +kernel
theorem dL_law_2595 : decode cL_law 2595 = .ok (.invokestatic 302, 3) := by decide +kernel
theorem dL_law_2598 : decode cL_law 2598 = .ok (.istore 6, 2) := by decide +kernel
theorem dL_law_2600 : decode cL_law 2600 = .ok (.aload_n 2, 1) := by decide +kernel
theorem dL_law_2601 : decode cL_law 2601 = .ok (.aload_n 0, 1) := by decide +kernel
theorem dL_law_2602 : decode cL_law 2602 = .ok (.iload 5, 2) := by decide +kernel
theorem dL_law_2604 : decode cL_law 2604 = .ok (.iconst 1, 1) := by decide +kernel
theorem dL_law_2605 : decode cL_law 2605 = .ok (.iadd, 1) := by decide +kernel
theorem dL_law_2606 : decode cL_law 2606 = .ok (.iaload, 1) := by decide +kernel
theorem dL_law_2607 : decode cL_law 2607 = .ok (.invokevirtual 304, 3) := by decide +kernel
theorem dL_law_2610 : decode cL_law 2610 = .ok (.istore 7, 2) := by decide +kernel
theorem dL_law_2612 : decode cL_law 2612 = .ok (.aload_n 2, 1) := by decide +kernel
theorem dL_law_2613 : decode cL_law 2613 = .ok (.invokevirtual 162, 3) := by decide +kernel
theorem dL_law_2616 : decode cL_law 2616 = .ok (.iload 6, 2) := by decide +kernel
theorem dL_law_2618 : decode cL_law 2618 = .ok (.if_icmp .eq 5, 3) := by decide +kernel
theorem dL_law_2621 : decode cL_law 2621 = .ok (.iconst 0, 1) := by decide +kernel
theorem dL_law_2622 : decode cL_law 2622 = .ok (.ireturn, 1) := by decide +kernel
theorem dL_law_2623 : decode cL_law 2623 = .ok (.iload 6, 2) := by decide +kernel
theorem dL_law_2625 : decode cL_law 2625 = .ok (.ifCond .ne 15, 3) := by decide +kernel
theorem dL_law_2628 : decode cL_law 2628 = .ok (.aload_n 3, 1) := by decide +kernel
theorem dL_law_2629 : decode cL_law 2629 = .ok (.iconst 0, 1) := by decide +kernel
theorem dL_law_2630 : decode cL_law 2630 = .ok (.laload, 1) := by decide +kernel
theorem dL_law_2631 : decode cL_law 2631 = .ok (.iload 7, 2) := by decide +kernel
theorem dL_law_2633 : decode cL_law 2633 = .ok (.i2l, 1) := by decide +kernel
theorem dL_law_2634 : decode cL_law 2634 = .ok (.lcmp, 1) := by decide +kernel
theorem dL_law_2635 : decode cL_law 2635 = .ok (.ifCond .eq 5, 3) := by decide +kernel
theorem dL_law_2638 : decode cL_law 2638 = .ok (.iconst 0, 1) := by decide +kernel
theorem dL_law_2639 : decode cL_law 2639 = .ok (.ireturn, 1) := by decide +kernel
theorem dL_law_2640 : decode cL_law 2640 = .ok (.goto 214, 3) := by decide +kernel
theorem dL_law_2643 : decode cL_law 2643 = .ok (.aload_n 1, 1) := by decide +kernel
theorem dL_law_2644 : decode cL_law 2644 = .ok (.aload_n 0, 1) := by decide +kernel
theorem dL_law_2645 : decode cL_law 2645 = .ok (.iload 5, 2) := by decide +kernel
theorem dL_law_2647 : decode cL_law 2647 = .ok (.iconst 1, 1) := by decide +kernel
theorem dL_law_2648 : decode cL_law 2648 = .ok (.iadd, 1) := by decide +kernel
theorem dL_law_2649 : decode cL_law 2649 = .ok (.iaload, 1) := by decide +kernel
theorem dL_law_2650 : decode cL_law 2650 = .ok (.aload_n 3, 1) := by decide +kernel
theorem dL_law_2651 : decode cL_law 2651 = .ok (.invokestatic 305, 3) := by decide +kernel
theorem dL_law_2654 : decode cL_law 2654 = .ok (.istore 6, 2) := by decide +kernel
theorem dL_law_2656 : decode cL_law 2656 = .ok (.aload_n 2, 1) := by decide +kernel
theorem dL_law_2657 : decode cL_law 2657 = .ok (.aload_n 0, 1) := by decide +kernel
theorem dL_law_2658 : decode cL_law 2658 = .ok (.iload 5, 2) := by decide +kernel
theorem dL_law_2660 : decode cL_law 2660 = .ok (.iconst 1, 1) := by decide +kernel
theorem dL_law_2661 : decode cL_law 2661 = .ok (.iadd, 1) := by decide +kernel
theorem dL_law_2662 : decode cL_law 2662 = .ok (.iaload, 1) := by decide +kernel
theorem dL_law_2663 : decode cL_law 2663 = .ok (.invokevirtual 307, 3) := by decide +kernel
theorem dL_law_2666 : decode cL_law 2666 = .ok (.istore 7, 2) := by decide +kernel
theorem dL_law_2668 : decode cL_law 2668 = .ok (.aload_n 2, 1) := by decide +kernel
theorem dL_law_2669 : decode cL_law 2669 = .ok (.invokevirtual 162, 3) := by decide +kernel
theorem dL_law_2672 : decode cL_law 2672 = .ok (.iload 6, 2) := by decide +kernel
theorem dL_law_2674 : decode cL_law 2674 = .ok (.if_icmp .eq 5, 3) := by decide +kernel
theorem dL_law_2677 : decode cL_law 2677 = .ok (.iconst 0, 1) := by decide +kernel
theorem dL_law_2678 : decode cL_law 2678 = .ok (.ireturn, 1) := by decide +kernel
theorem dL_law_2679 : decode cL_law 2679 = .ok (.iload 6, 2) := by decide +kernel
theorem dL_law_2681 : decode cL_law 2681 = .ok (.ifCond .ne 15, 3) := by decide +kernel
theorem dL_law_2684 : decode cL_law 2684 = .ok (.aload_n 3, 1) := by decide +kernel
theorem dL_law_2685 : decode cL_law 2685 = .ok (.iconst 0, 1) := by decide +kernel
theorem dL_law_2686 : decode cL_law 2686 = .ok (.laload, 1) := by decide +kernel
theorem dL_law_2687 : decode cL_law 2687 = .ok (.iload 7, 2) := by decide +kernel
theorem dL_law_2689 : decode cL_law 2689 = .ok (.i2l, 1) := by decide +kernel
theorem dL_law_2690 : decode cL_law 2690 = .ok (.lcmp, 1) := by decide +kernel
theorem dL_law_2691 : decode cL_law 2691 = .ok (.ifCond .eq 5, 3) := by decide +kernel
theorem dL_law_2694 : decode cL_law 2694 = .ok (.iconst 0, 1) := by decide +kernel
theorem dL_law_2695 : decode cL_law 2695 = .ok (.ireturn, 1) := by decide +kernel
theorem dL_law_2696 : decode cL_law 2696 = .ok (.goto 158, 3) := by decide +kernel
theorem dL_law_2699 : decode cL_law 2699 = .ok (.aload_n 1, 1) := by decide +kernel
theorem dL_law_2700 : decode cL_law 2700 = .ok (.aload_n 0, 1) := by decide +kernel
theorem dL_law_2701 : decode cL_law 2701 = .ok (.iload 5, 2) := by decide +kernel
theorem dL_law_2703 : decode cL_law 2703 = .ok (.iconst 1, 1) := by decide +kernel
theorem dL_law_2704 : decode cL_law 2704 = .ok (.iadd, 1) := by decide +kernel
theorem dL_law_2705 : decode cL_law 2705 = .ok (.iaload, 1) := by decide +kernel
theorem dL_law_2706 : decode cL_law 2706 = .ok (.aload 4, 2) := by decide +kernel
theorem dL_law_2708 : decode cL_law 2708 = .ok (.invokestatic 308, 3) := by decide +kernel
theorem dL_law_2711 : decode cL_law 2711 = .ok (.istore 6, 2) := by decide +kernel
theorem dL_law_2713 : decode cL_law 2713 = .ok (.aload_n 2, 1) := by decide +kernel
theorem dL_law_2714 : decode cL_law 2714 = .ok (.aload_n 0, 1) := by decide +kernel
theorem dL_law_2715 : decode cL_law 2715 = .ok (.iload 5, 2) := by decide +kernel
theorem dL_law_2717 : decode cL_law 2717 = .ok (.iconst 1, 1) := by decide +kernel
theorem dL_law_2718 : decode cL_law 2718 = .ok (.iadd, 1) := by decide +kernel
theorem dL_law_2719 : decode cL_law 2719 = .ok (.iaload, 1) := by decide +kernel
theorem dL_law_2720 : decode cL_law 2720 = .ok (.invokevirtual 311, 3) := by decide +kernel
theorem dL_law_2723 : decode cL_law 2723 = .ok (.fstore 7, 2) := by decide +kernel
theorem dL_law_2725 : decode cL_law 2725 = .ok (.aload_n 2, 1) := by decide +kernel
theorem dL_law_2726 : decode cL_law 2726 = .ok (.invokevirtual 162, 3) := by decide +kernel
theorem dL_law_2729 : decode cL_law 2729 = .ok (.iload 6, 2) := by decide +kernel
theorem dL_law_2731 : decode cL_law 2731 = .ok (.if_icmp .eq 5, 3) := by decide +kernel
theorem dL_law_2734 : decode cL_law 2734 = .ok (.iconst 0, 1) := by decide +kernel
theorem dL_law_2735 : decode cL_law 2735 = .ok (.ireturn, 1) := by decide +kernel
theorem dL_law_2736 : decode cL_law 2736 = .ok (.iload 6, 2) := by decide +kernel
theorem dL_law_2738 : decode cL_law 2738 = .ok (.ifCond .ne 36, 3) := by decide +kernel
theorem dL_law_2741 : decode cL_law 2741 = .ok (.aload 4, 2) := by decide +kernel
theorem dL_law_2743 : decode cL_law 2743 = .ok (.iconst 0, 1) := by decide +kernel
theorem dL_law_2744 : decode cL_law 2744 = .ok (.daload, 1) := by decide +kernel
theorem dL_law_2745 : decode cL_law 2745 = .ok (.fload 7, 2) := by decide +kernel
theorem dL_law_2747 : decode cL_law 2747 = .ok (.f2d, 1) := by decide +kernel
theorem dL_law_2748 : decode cL_law 2748 = .ok (.dcmp .l, 1) := by decide +kernel
theorem dL_law_2749 : decode cL_law 2749 = .ok (.ifCond .eq 25, 3) := by decide +kernel
theorem dL_law_2752 : decode cL_law 2752 = .ok (.aload 4, 2) := by decide +kernel
theorem dL_law_2754 : decode cL_law 2754 = .ok (.iconst 0, 1) := by decide +kernel
theorem dL_law_2755 : decode cL_law 2755 = .ok (.daload, 1) := by decide +kernel
theorem dL_law_2756 : decode cL_law 2756 = .ok (.aload 4, 2) := by decide +kernel
theorem dL_law_2758 : decode cL_law 2758 = .ok (.iconst 0, 1) := by decide +kernel
theorem dL_law_2759 : decode cL_law 2759 = .ok (.daload, 1) := by decide +kernel
theorem dL_law_2760 : decode cL_law 2760 = .ok (.dcmp .l, 1) := by decide +kernel
theorem dL_law_2761 : decode cL_law 2761 = .ok (.ifCond .eq 11, 3) := by decide +kernel
theorem dL_law_2764 : decode cL_law 2764 = .ok (.fload 7, 2) := by decide +kernel
theorem dL_law_2766 : decode cL_law 2766 = .ok (.fload 7, 2) := by decide +kernel
theorem dL_law_2768 : decode cL_law 2768 = .ok (.fcmp .l, 1) := by decide +kernel
theorem dL_law_2769 : decode cL_law 2769 = .ok (.ifCond .ne 5, 3) := by decide +kernel
theorem dL_law_2772 : decode cL_law 2772 = .ok (.iconst 0, 1) := by decide +kernel
theorem dL_law_2773 : decode cL_law 2773 = .ok (.ireturn, 1) := by decide +kernel
theorem dL_law_2774 : decode cL_law 2774 = .ok (.goto 80, 3) := by decide +kernel
theorem dL_law_2777 : decode cL_law 2777 = .ok (.aload_n 1, 1) := by decide +kernel
theorem dL_law_2778 : decode cL_law 2778 = .ok (.aload_n 0, 1) := by decide +kernel
theorem dL_law_2779 : decode cL_law 2779 = .ok (.iload 5, 2) := by decide +kernel
theorem dL_law_2781 : decode cL_law 2781 = .ok (.iconst 1, 1) := by decide +kernel
theorem dL_law_2782 : decode cL_law 2782 = .ok (.iadd, 1) := by decide +kernel
theorem dL_law_2783 : decode cL_law 2783 = .ok (.iaload, 1) := by decide +kernel
theorem dL_law_2784 : decode cL_law 2784 = .ok (.aload 4, 2) := by decide +kernel
theorem dL_law_2786 : decode cL_law 2786 = .ok (.invokestatic 312, 3) := by decide +kernel
theorem dL_law_2789 : decode cL_law 2789 = .ok (.istore 6, 2) := by decide +kernel
theorem dL_law_2791 : decode cL_law 2791 = .ok (.aload_n 2, 1) := by decide +kernel
theorem dL_law_2792 : decode cL_law 2792 = .ok (.aload_n 0, 1) := by decide +kernel
theorem dL_law_2793 : decode cL_law 2793 = .ok (.iload 5, 2) := by decide +kernel
theorem dL_law_2795 : decode cL_law 2795 = .ok (.iconst 1, 1) := by decide +kernel
theorem dL_law_2796 : decode cL_law 2796 = .ok (.iadd, 1) := by decide +kernel
theorem dL_law_2797 : decode cL_law 2797 = .ok (.iaload, 1) := by decide +kernel
theorem dL_law_2798 : decode cL_law 2798 = .ok (.invokevirtual 314, 3) := by decide +kernel
theorem dL_law_2801 : decode cL_law 2801 = .ok (.dstore 7, 2) := by decide +kernel
theorem dL_law_2803 : decode cL_law 2803 = .ok (.aload_n 2, 1) := by decide +kernel
theorem dL_law_2804 : decode cL_law 2804 = .ok (.invokevirtual 162, 3) := by decide +kernel
theorem dL_law_2807 : decode cL_law 2807 = .ok (.iload 6, 2) := by decide +kernel
theorem dL_law_2809 : decode cL_law 2809 = .ok (.if_icmp .eq 5, 3) := by decide +kernel
theorem dL_law_2812 : decode cL_law 2812 = .ok (.iconst 0, 1) := by decide +kernel
theorem dL_law_2813 : decode cL_law 2813 = .ok (.ireturn, 1) := by decide +kernel
theorem dL_law_2814 : decode cL_law 2814 = .ok (.iload 6, 2) := by decide +kernel
theorem dL_law_2816 : decode cL_law 2816 = .ok (.ifCond .ne 35, 3) := by decide +kernel
theorem dL_law_2819 : decode cL_law 2819 = .ok (.aload 4, 2) := by decide +kernel
theorem dL_law_2821 : decode cL_law 2821 = .ok (.iconst 0, 1) := by decide +kernel
theorem dL_law_2822 : decode cL_law 2822 = .ok (.daload, 1) := by decide +kernel
theorem dL_law_2823 : decode cL_law 2823 = .ok (.dload 7, 2) := by decide +kernel
theorem dL_law_2825 : decode cL_law 2825 = .ok (.dcmp .l, 1) := by decide +kernel
theorem dL_law_2826 : decode cL_law 2826 = .ok (.ifCond .eq 25, 3) := by decide +kernel
theorem dL_law_2829 : decode cL_law 2829 = .ok (.aload 4, 2) := by decide +kernel
theorem dL_law_2831 : decode cL_law 2831 = .ok (.iconst 0, 1) := by decide +kernel
theorem dL_law_2832 : decode cL_law 2832 = .ok (.daload, 1) := by decide +kernel
theorem dL_law_2833 : decode cL_law 2833 = .ok (.aload 4, 2) := by decide +kernel
theorem dL_law_2835 : decode cL_law 2835 = .ok (.iconst 0, 1) := by decide +kernel
theorem dL_law_2836 : decode cL_law 2836 = .ok (.daload, 1) := by decide +kernel
theorem dL_law_2837 : decode cL_law 2837 = .ok (.dcmp .l, 1) := by decide +kernel
theorem dL_law_2838 : decode cL_law 2838 = .ok (.ifCond .eq 11, 3) := by decide +kernel
theorem dL_law_2841 : decode cL_law 2841 = .ok (.dload 7, 2) := by decide +kernel
theorem dL_law_2843 : decode cL_law 2843 = .ok (.dload 7, 2) := by decide +kernel
theorem dL_law_2845 : decode cL_law 2845 = .ok (.dcmp .l, 1) := by decide +kernel
theorem dL_law_2846 : decode cL_law 2846 = .ok (.ifCond .ne 5, 3) := by decide +kernel
theorem dL_law_2849 : decode cL_law 2849 = .ok (.iconst 0, 1) := by decide +kernel
theorem dL_law_2850 : decode cL_law 2850 = .ok (.ireturn, 1) := by decide +kernel
theorem dL_law_2851 : decode cL_law 2851 = .ok (.goto 3, 3) := by decide +kernel
theorem dL_law_2854 : decode cL_law 2854 = .ok (.iinc 5 4, 3) := by decide +kernel
theorem dL_law_2857 : decode cL_law 2857 = .ok (.goto (-2829), 3) := by decide +kernel
theorem dL_law_2860 : decode cL_law 2860 = .ok (.iconst 1, 1) := by decide +kernel
theorem dL_law_2861 : decode cL_law 2861 = .ok (.ireturn, 1) := by decide +kernel
abbrev vwCl : List vw_C := [(RJ0, TJ0, 2), (RJx00060, TJx00060, 6), (RX0, TX0, 6), (RX1, TX1, 4), (RX2, TX2, 2), (RX3, TX3, 4), (RX4, TX4, 3), (RX5, TX5, 6), (RX6, TX6, 8), (RX7, TX7, 27)]
