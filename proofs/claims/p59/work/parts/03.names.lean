def RX0 : String := "TaskLeveller$1"
def TX0 : u_T := fun k => match k with
  | _ => ("", "", "", false)
def tyX0 : Nat → FieldType := fun k => match k with
  | _ => .int
theorem nmX0 : ∀ a, a < 0 → ∀ b, b < 0 → a ≠ b → (TX0 a).2.1 ≠ (TX0 b).2.1 := by decide +kernel
theorem tyX0_ok : ∀ k, k < 0 → parseFieldDescriptor (TX0 k).2.2.1 = some (tyX0 k) := by decide +kernel
def RX1 : String := "TaskLeveller$Command"
def TX1 : u_T := fun k => match k with
  | _ => ("", "", "", false)
def tyX1 : Nat → FieldType := fun k => match k with
  | _ => .int
theorem nmX1 : ∀ a, a < 0 → ∀ b, b < 0 → a ≠ b → (TX1 a).2.1 ≠ (TX1 b).2.1 := by decide +kernel
theorem tyX1_ok : ∀ k, k < 0 → parseFieldDescriptor (TX1 k).2.2.1 = some (tyX1 k) := by decide +kernel
def RX2 : String := "TaskLeveller$History"
def TX2 : u_T := fun k => match k with
  | 0 => ("TaskLeveller$History", "states", "[LTaskLeveller$Project;", true)
  | 1 => ("TaskLeveller$History", "count", "I", false)
  | _ => ("TaskLeveller$History", "next", "I", false)
def tyX2 : Nat → FieldType := fun k => match k with
  | 0 => .array (.object "TaskLeveller$Project")
  | 1 => .int
  | _ => .int
theorem nmX2 : ∀ a, a < 3 → ∀ b, b < 3 → a ≠ b → (TX2 a).2.1 ≠ (TX2 b).2.1 := by decide +kernel
theorem tyX2_ok : ∀ k, k < 3 → parseFieldDescriptor (TX2 k).2.2.1 = some (tyX2 k) := by decide +kernel
abbrev cX2_init : ByteArray := prog_4_method_1_code
def yX2_init : MethodName := ⟨RX2, "<init>", "()V"⟩
abbrev cX2_keep : ByteArray := prog_4_method_2_code
def yX2_keep : MethodName := ⟨RX2, "keep", "(LTaskLeveller$Project;)V"⟩
abbrev cX2_stateAt : ByteArray := prog_4_method_5_code
def yX2_stateAt : MethodName := ⟨RX2, "stateAt", "(I)LTaskLeveller$Project;"⟩
def RX3 : String := "TaskLeveller$Output"
def TX3 : u_T := fun k => match k with
  | 0 => ("TaskLeveller$Output", "signs", "[C", true)
  | _ => ("TaskLeveller$Output", "length", "I", false)
def tyX3 : Nat → FieldType := fun k => match k with
  | 0 => .array .char
  | _ => .int
theorem nmX3 : ∀ a, a < 2 → ∀ b, b < 2 → a ≠ b → (TX3 a).2.1 ≠ (TX3 b).2.1 := by decide +kernel
theorem tyX3_ok : ∀ k, k < 2 → parseFieldDescriptor (TX3 k).2.2.1 = some (tyX3 k) := by decide +kernel
abbrev cX3_init : ByteArray := prog_5_method_1_code
def yX3_init : MethodName := ⟨RX3, "<init>", "()V"⟩
abbrev cX3_clear : ByteArray := prog_5_method_2_code
def yX3_clear : MethodName := ⟨RX3, "clear", "()V"⟩
abbrev cX3_write : ByteArray := prog_5_method_3_code
def yX3_write : MethodName := ⟨RX3, "write", "(C)V"⟩
abbrev cX3_writeNumber : ByteArray := prog_5_method_4_code
def yX3_writeNumber : MethodName := ⟨RX3, "writeNumber", "(I)V"⟩
def RX4 : String := "TaskLeveller$Plan"
def TX4 : u_T := fun k => match k with
  | 0 => ("TaskLeveller$Plan", "order", "[I", true)
  | 1 => ("TaskLeveller$Plan", "closure", "[I", true)
  | 2 => ("TaskLeveller$Plan", "earliest", "[I", true)
  | 3 => ("TaskLeveller$Plan", "improved", "[I", true)
  | 4 => ("TaskLeveller$Plan", "latest", "[I", true)
  | 5 => ("TaskLeveller$Plan", "levelled", "[I", true)
  | 6 => ("TaskLeveller$Plan", "used", "[I", true)
  | 7 => ("TaskLeveller$Plan", "end", "I", false)
  | _ => ("TaskLeveller$Plan", "levelledEnd", "I", false)
def tyX4 : Nat → FieldType := fun k => match k with
  | 0 => .array .int
  | 1 => .array .int
  | 2 => .array .int
  | 3 => .array .int
  | 4 => .array .int
  | 5 => .array .int
  | 6 => .array .int
  | 7 => .int
  | _ => .int
theorem nmX4 : ∀ a, a < 9 → ∀ b, b < 9 → a ≠ b → (TX4 a).2.1 ≠ (TX4 b).2.1 := by decide +kernel
theorem tyX4_ok : ∀ k, k < 9 → parseFieldDescriptor (TX4 k).2.2.1 = some (tyX4 k) := by decide +kernel
abbrev cX4_init : ByteArray := prog_6_method_1_code
def yX4_init : MethodName := ⟨RX4, "<init>", "()V"⟩
abbrev cX4_make : ByteArray := prog_6_method_2_code
def yX4_make : MethodName := ⟨RX4, "make", "(LTaskLeveller$Project;)V"⟩
abbrev cX4_slackOf : ByteArray := prog_6_method_3_code
def yX4_slackOf : MethodName := ⟨RX4, "slackOf", "(I)I"⟩
abbrev cX4_usedOn : ByteArray := prog_6_method_4_code
def yX4_usedOn : MethodName := ⟨RX4, "usedOn", "(II)I"⟩
abbrev cX4_workOnAllDays : ByteArray := prog_6_method_5_code
def yX4_workOnAllDays : MethodName := ⟨RX4, "workOnAllDays", "(I)I"⟩
abbrev cX4_findOrder : ByteArray := prog_6_method_6_code
def yX4_findOrder : MethodName := ⟨RX4, "findOrder", "(LTaskLeveller$Project;)V"⟩
abbrev cX4_findClosure : ByteArray := prog_6_method_7_code
def yX4_findClosure : MethodName := ⟨RX4, "findClosure", "(LTaskLeveller$Project;)V"⟩
abbrev cX4_findEarliest : ByteArray := prog_6_method_8_code
def yX4_findEarliest : MethodName := ⟨RX4, "findEarliest", "(LTaskLeveller$Project;)V"⟩
abbrev cX4_earliestOf : ByteArray := prog_6_method_9_code
def yX4_earliestOf : MethodName := ⟨RX4, "earliestOf", "(LTaskLeveller$Project;[III)I"⟩
abbrev cX4_findImproved : ByteArray := prog_6_method_10_code
def yX4_findImproved : MethodName := ⟨RX4, "findImproved", "(LTaskLeveller$Project;)V"⟩
abbrev cX4_improve : ByteArray := prog_6_method_11_code
def yX4_improve : MethodName := ⟨RX4, "improve", "(LTaskLeveller$Project;)Z"⟩
abbrev cX4_soonestStart : ByteArray := prog_6_method_12_code
def yX4_soonestStart : MethodName := ⟨RX4, "soonestStart", "(LTaskLeveller$Project;I[I)I"⟩
abbrev cX4_findLatest : ByteArray := prog_6_method_13_code
def yX4_findLatest : MethodName := ⟨RX4, "findLatest", "(LTaskLeveller$Project;)V"⟩
abbrev cX4_findLevelled : ByteArray := prog_6_method_14_code
def yX4_findLevelled : MethodName := ⟨RX4, "findLevelled", "(LTaskLeveller$Project;)V"⟩
abbrev cX4_mostUrgent : ByteArray := prog_6_method_15_code
def yX4_mostUrgent : MethodName := ⟨RX4, "mostUrgent", "(LTaskLeveller$Project;I)I"⟩
abbrev cX4_lowestFit : ByteArray := prog_6_method_16_code
def yX4_lowestFit : MethodName := ⟨RX4, "lowestFit", "(LTaskLeveller$Project;I)I"⟩
abbrev cX4_fits : ByteArray := prog_6_method_17_code
def yX4_fits : MethodName := ⟨RX4, "fits", "(LTaskLeveller$Project;II)Z"⟩
abbrev cX4_place : ByteArray := prog_6_method_18_code
def yX4_place : MethodName := ⟨RX4, "place", "(LTaskLeveller$Project;II)V"⟩
def RX5 : String := "TaskLeveller$Project"
def TX5 : u_T := fun k => match k with
  | 0 => ("TaskLeveller$Project", "durations", "[I", true)
  | 1 => ("TaskLeveller$Project", "resources", "[I", true)
  | 2 => ("TaskLeveller$Project", "demands", "[I", true)
  | 3 => ("TaskLeveller$Project", "releases", "[I", true)
  | 4 => ("TaskLeveller$Project", "needs", "[I", true)
  | 5 => ("TaskLeveller$Project", "starts", "[I", true)
  | 6 => ("TaskLeveller$Project", "limits", "[I", true)
  | 7 => ("TaskLeveller$Project", "count", "I", false)
  | _ => ("TaskLeveller$Project", "hasStarts", "Z", false)
def tyX5 : Nat → FieldType := fun k => match k with
  | 0 => .array .int
  | 1 => .array .int
  | 2 => .array .int
  | 3 => .array .int
  | 4 => .array .int
  | 5 => .array .int
  | 6 => .array .int
  | 7 => .int
  | _ => .boolean
theorem nmX5 : ∀ a, a < 9 → ∀ b, b < 9 → a ≠ b → (TX5 a).2.1 ≠ (TX5 b).2.1 := by decide +kernel
theorem tyX5_ok : ∀ k, k < 9 → parseFieldDescriptor (TX5 k).2.2.1 = some (tyX5 k) := by decide +kernel
abbrev cX5_init : ByteArray := prog_7_method_1_code
def yX5_init : MethodName := ⟨RX5, "<init>", "()V"⟩
abbrev cX5_copyFrom : ByteArray := prog_7_method_2_code
def yX5_copyFrom : MethodName := ⟨RX5, "copyFrom", "(LTaskLeveller$Project;)V"⟩
abbrev cX5_faultOfTask : ByteArray := prog_7_method_3_code
def yX5_faultOfTask : MethodName := ⟨RX5, "faultOfTask", "(I)C"⟩
abbrev cX5_faultOfPair : ByteArray := prog_7_method_4_code
def yX5_faultOfPair : MethodName := ⟨RX5, "faultOfPair", "(II)C"⟩
abbrev cX5_faultOfAdding : ByteArray := prog_7_method_5_code
def yX5_faultOfAdding : MethodName := ⟨RX5, "faultOfAdding", "(IIII)C"⟩
abbrev cX5_faultOfLinking : ByteArray := prog_7_method_6_code
def yX5_faultOfLinking : MethodName := ⟨RX5, "faultOfLinking", "(II)C"⟩
abbrev cX5_faultOfDuration : ByteArray := prog_7_method_7_code
def yX5_faultOfDuration : MethodName := ⟨RX5, "faultOfDuration", "(II)C"⟩
abbrev cX5_faultOfRelease : ByteArray := prog_7_method_8_code
def yX5_faultOfRelease : MethodName := ⟨RX5, "faultOfRelease", "(II)C"⟩
abbrev cX5_faultOfLimit : ByteArray := prog_7_method_9_code
def yX5_faultOfLimit : MethodName := ⟨RX5, "faultOfLimit", "(II)C"⟩
abbrev cX5_append : ByteArray := prog_7_method_10_code
def yX5_append : MethodName := ⟨RX5, "append", "(IIII)I"⟩
abbrev cX5_drop : ByteArray := prog_7_method_11_code
def yX5_drop : MethodName := ⟨RX5, "drop", "(I)V"⟩
abbrev cX5_link : ByteArray := prog_7_method_12_code
def yX5_link : MethodName := ⟨RX5, "link", "(II)V"⟩
abbrev cX5_unlink : ByteArray := prog_7_method_13_code
def yX5_unlink : MethodName := ⟨RX5, "unlink", "(II)V"⟩
abbrev cX5_isLinked : ByteArray := prog_7_method_14_code
def yX5_isLinked : MethodName := ⟨RX5, "isLinked", "(II)Z"⟩
abbrev cX5_reaches : ByteArray := prog_7_method_15_code
def yX5_reaches : MethodName := ⟨RX5, "reaches", "(II)Z"⟩
abbrev cX5_search : ByteArray := prog_7_method_16_code
def yX5_search : MethodName := ⟨RX5, "search", "([IIII)I"⟩
abbrev cX5_isReady : ByteArray := prog_7_method_17_code
def yX5_isReady : MethodName := ⟨RX5, "isReady", "(II)Z"⟩
abbrev cX5_takeStarts : ByteArray := prog_7_method_18_code
def yX5_takeStarts : MethodName := ⟨RX5, "takeStarts", "([I)V"⟩
abbrev cX5_hasStart : ByteArray := prog_7_method_19_code
def yX5_hasStart : MethodName := ⟨RX5, "hasStart", "(I)Z"⟩
abbrev cX5_workOf : ByteArray := prog_7_method_20_code
def yX5_workOf : MethodName := ⟨RX5, "workOf", "(I)I"⟩
def RX6 : String := "TaskLeveller$Script"
def TX6 : u_T := fun k => match k with
  | 0 => ("TaskLeveller$Script", "signs", "[C", true)
  | 1 => ("TaskLeveller$Script", "commands", "[LTaskLeveller$Command;", true)
  | 2 => ("TaskLeveller$Script", "numbers", "[I", true)
  | 3 => ("TaskLeveller$Script", "length", "I", false)
  | 4 => ("TaskLeveller$Script", "commandCount", "I", false)
  | _ => ("TaskLeveller$Script", "position", "I", false)
def tyX6 : Nat → FieldType := fun k => match k with
  | 0 => .array .char
  | 1 => .array (.object "TaskLeveller$Command")
  | 2 => .array .int
  | 3 => .int
  | 4 => .int
  | _ => .int
theorem nmX6 : ∀ a, a < 6 → ∀ b, b < 6 → a ≠ b → (TX6 a).2.1 ≠ (TX6 b).2.1 := by decide +kernel
theorem tyX6_ok : ∀ k, k < 6 → parseFieldDescriptor (TX6 k).2.2.1 = some (tyX6 k) := by decide +kernel
abbrev cX6_init : ByteArray := prog_8_method_1_code
def yX6_init : MethodName := ⟨RX6, "<init>", "()V"⟩
abbrev cX6_clear : ByteArray := prog_8_method_3_code
def yX6_clear : MethodName := ⟨RX6, "clear", "()V"⟩
abbrev cX6_commandAt : ByteArray := prog_8_method_4_code
def yX6_commandAt : MethodName := ⟨RX6, "commandAt", "(I)LTaskLeveller$Command;"⟩
abbrev cX6_numberAt : ByteArray := prog_8_method_5_code
def yX6_numberAt : MethodName := ⟨RX6, "numberAt", "(II)I"⟩
abbrev cX6_read : ByteArray := prog_8_method_6_code
def yX6_read : MethodName := ⟨RX6, "read", "()Z"⟩
abbrev cX6_readCommand : ByteArray := prog_8_method_7_code
def yX6_readCommand : MethodName := ⟨RX6, "readCommand", "()Z"⟩
abbrev cX6_follows : ByteArray := prog_8_method_8_code
def yX6_follows : MethodName := ⟨RX6, "follows", "(Ljava/lang/String;)Z"⟩
abbrev cX6_readNumber : ByteArray := prog_8_method_9_code
def yX6_readNumber : MethodName := ⟨RX6, "readNumber", "(II)Z"⟩
abbrev cX6_isDigitAt : ByteArray := prog_8_method_10_code
def yX6_isDigitAt : MethodName := ⟨RX6, "isDigitAt", "(I)Z"⟩
def RX7 : String := "TaskLeveller"
def TX7 : u_T := fun k => match k with
  | 0 => ("TaskLeveller", "project", "LTaskLeveller$Project;", true)
  | 1 => ("TaskLeveller", "trial", "LTaskLeveller$Project;", true)
  | 2 => ("TaskLeveller", "snapshot", "LTaskLeveller$Project;", true)
  | 3 => ("TaskLeveller", "history", "LTaskLeveller$History;", true)
  | 4 => ("TaskLeveller", "plan", "LTaskLeveller$Plan;", true)
  | 5 => ("TaskLeveller", "script", "LTaskLeveller$Script;", true)
  | 6 => ("TaskLeveller", "output", "LTaskLeveller$Output;", true)
  | 7 => ("TaskLeveller", "keys", "[I", true)
  | 8 => ("TaskLeveller", "planFits", "Z", false)
  | 9 => ("TaskLeveller", "hasSnapshot", "Z", false)
  | 10 => ("TaskLeveller", "scriptError", "I", false)
  | 11 => ("TaskLeveller", "failedIndex", "I", false)
  | _ => ("TaskLeveller", "failedReason", "C", false)
def tyX7 : Nat → FieldType := fun k => match k with
  | 0 => .object "TaskLeveller$Project"
  | 1 => .object "TaskLeveller$Project"
  | 2 => .object "TaskLeveller$Project"
  | 3 => .object "TaskLeveller$History"
  | 4 => .object "TaskLeveller$Plan"
  | 5 => .object "TaskLeveller$Script"
  | 6 => .object "TaskLeveller$Output"
  | 7 => .array .int
  | 8 => .boolean
  | 9 => .boolean
  | 10 => .int
  | 11 => .int
  | _ => .char
theorem nmX7 : ∀ a, a < 13 → ∀ b, b < 13 → a ≠ b → (TX7 a).2.1 ≠ (TX7 b).2.1 := by decide +kernel
theorem tyX7_ok : ∀ k, k < 13 → parseFieldDescriptor (TX7 k).2.2.1 = some (tyX7 k) := by decide +kernel
abbrev cX7_init : ByteArray := prog_1_method_1_code
def yX7_init : MethodName := ⟨RX7, "<init>", "()V"⟩
abbrev cX7_addTask : ByteArray := prog_1_method_2_code
def yX7_addTask : MethodName := ⟨RX7, "addTask", "(IIII)I"⟩
abbrev cX7_removeTask : ByteArray := prog_1_method_3_code
def yX7_removeTask : MethodName := ⟨RX7, "removeTask", "(I)I"⟩
abbrev cX7_addDependency : ByteArray := prog_1_method_4_code
def yX7_addDependency : MethodName := ⟨RX7, "addDependency", "(II)Z"⟩
abbrev cX7_removeDependency : ByteArray := prog_1_method_5_code
def yX7_removeDependency : MethodName := ⟨RX7, "removeDependency", "(II)Z"⟩
abbrev cX7_setDuration : ByteArray := prog_1_method_6_code
def yX7_setDuration : MethodName := ⟨RX7, "setDuration", "(II)I"⟩
abbrev cX7_setRelease : ByteArray := prog_1_method_7_code
def yX7_setRelease : MethodName := ⟨RX7, "setRelease", "(II)I"⟩
abbrev cX7_setLimit : ByteArray := prog_1_method_8_code
def yX7_setLimit : MethodName := ⟨RX7, "setLimit", "(II)I"⟩
abbrev cX7_takeBaseline : ByteArray := prog_1_method_9_code
def yX7_takeBaseline : MethodName := ⟨RX7, "takeBaseline", "()I"⟩
abbrev cX7_taskCount : ByteArray := prog_1_method_10_code
def yX7_taskCount : MethodName := ⟨RX7, "taskCount", "()I"⟩
abbrev cX7_duration : ByteArray := prog_1_method_11_code
def yX7_duration : MethodName := ⟨RX7, "duration", "(I)I"⟩
abbrev cX7_resource : ByteArray := prog_1_method_12_code
def yX7_resource : MethodName := ⟨RX7, "resource", "(I)I"⟩
abbrev cX7_demand : ByteArray := prog_1_method_13_code
def yX7_demand : MethodName := ⟨RX7, "demand", "(I)I"⟩
abbrev cX7_release : ByteArray := prog_1_method_14_code
def yX7_release : MethodName := ⟨RX7, "release", "(I)I"⟩
abbrev cX7_limit : ByteArray := prog_1_method_15_code
def yX7_limit : MethodName := ⟨RX7, "limit", "(I)I"⟩
abbrev cX7_dependsDirectly : ByteArray := prog_1_method_16_code
def yX7_dependsDirectly : MethodName := ⟨RX7, "dependsDirectly", "(II)Z"⟩
abbrev cX7_depends : ByteArray := prog_1_method_17_code
def yX7_depends : MethodName := ⟨RX7, "depends", "(II)Z"⟩
abbrev cX7_dependsByClosure : ByteArray := prog_1_method_18_code
def yX7_dependsByClosure : MethodName := ⟨RX7, "dependsByClosure", "(II)Z"⟩
abbrev cX7_neededCount : ByteArray := prog_1_method_19_code
def yX7_neededCount : MethodName := ⟨RX7, "neededCount", "(I)I"⟩
abbrev cX7_dependentCount : ByteArray := prog_1_method_20_code
def yX7_dependentCount : MethodName := ⟨RX7, "dependentCount", "(I)I"⟩
abbrev cX7_taskInOrder : ByteArray := prog_1_method_21_code
def yX7_taskInOrder : MethodName := ⟨RX7, "taskInOrder", "(I)I"⟩
abbrev cX7_earliestStart : ByteArray := prog_1_method_22_code
def yX7_earliestStart : MethodName := ⟨RX7, "earliestStart", "(I)I"⟩
abbrev cX7_earliestStartByRounds : ByteArray := prog_1_method_23_code
def yX7_earliestStartByRounds : MethodName := ⟨RX7, "earliestStartByRounds", "(I)I"⟩
abbrev cX7_latestStart : ByteArray := prog_1_method_24_code
def yX7_latestStart : MethodName := ⟨RX7, "latestStart", "(I)I"⟩
abbrev cX7_slack : ByteArray := prog_1_method_25_code
def yX7_slack : MethodName := ⟨RX7, "slack", "(I)I"⟩
abbrev cX7_isCritical : ByteArray := prog_1_method_26_code
def yX7_isCritical : MethodName := ⟨RX7, "isCritical", "(I)Z"⟩
abbrev cX7_projectLength : ByteArray := prog_1_method_27_code
def yX7_projectLength : MethodName := ⟨RX7, "projectLength", "()I"⟩
abbrev cX7_criticalCount : ByteArray := prog_1_method_28_code
def yX7_criticalCount : MethodName := ⟨RX7, "criticalCount", "()I"⟩
abbrev cX7_lastTask : ByteArray := prog_1_method_29_code
def yX7_lastTask : MethodName := ⟨RX7, "lastTask", "()I"⟩
abbrev cX7_levelledStart : ByteArray := prog_1_method_30_code
def yX7_levelledStart : MethodName := ⟨RX7, "levelledStart", "(I)I"⟩
abbrev cX7_levelledLength : ByteArray := prog_1_method_31_code
def yX7_levelledLength : MethodName := ⟨RX7, "levelledLength", "()I"⟩
abbrev cX7_usage : ByteArray := prog_1_method_32_code
def yX7_usage : MethodName := ⟨RX7, "usage", "(II)I"⟩
abbrev cX7_usageByTasks : ByteArray := prog_1_method_33_code
def yX7_usageByTasks : MethodName := ⟨RX7, "usageByTasks", "(II)I"⟩
abbrev cX7_peakUsage : ByteArray := prog_1_method_34_code
def yX7_peakUsage : MethodName := ⟨RX7, "peakUsage", "(I)I"⟩
abbrev cX7_tasksOn : ByteArray := prog_1_method_35_code
def yX7_tasksOn : MethodName := ⟨RX7, "tasksOn", "(I)I"⟩
abbrev cX7_workload : ByteArray := prog_1_method_36_code
def yX7_workload : MethodName := ⟨RX7, "workload", "(I)I"⟩
abbrev cX7_workloadByDays : ByteArray := prog_1_method_37_code
def yX7_workloadByDays : MethodName := ⟨RX7, "workloadByDays", "(I)I"⟩
abbrev cX7_hasBaseline : ByteArray := prog_1_method_38_code
def yX7_hasBaseline : MethodName := ⟨RX7, "hasBaseline", "()Z"⟩
abbrev cX7_baselineStart : ByteArray := prog_1_method_39_code
def yX7_baselineStart : MethodName := ⟨RX7, "baselineStart", "(I)I"⟩
abbrev cX7_drift : ByteArray := prog_1_method_40_code
def yX7_drift : MethodName := ⟨RX7, "drift", "(I)I"⟩
abbrev cX7_totalDrift : ByteArray := prog_1_method_41_code
def yX7_totalDrift : MethodName := ⟨RX7, "totalDrift", "()I"⟩
abbrev cX7_taskBySlack : ByteArray := prog_1_method_42_code
def yX7_taskBySlack : MethodName := ⟨RX7, "taskBySlack", "(I)I"⟩
abbrev cX7_taskByStart : ByteArray := prog_1_method_43_code
def yX7_taskByStart : MethodName := ⟨RX7, "taskByStart", "(I)I"⟩
abbrev cX7_meanSlack : ByteArray := prog_1_method_44_code
def yX7_meanSlack : MethodName := ⟨RX7, "meanSlack", "()D"⟩
abbrev cX7_utilization : ByteArray := prog_1_method_45_code
def yX7_utilization : MethodName := ⟨RX7, "utilization", "(I)F"⟩
abbrev cX7_isConsistent : ByteArray := prog_1_method_46_code
def yX7_isConsistent : MethodName := ⟨RX7, "isConsistent", "()Z"⟩
abbrev cX7_renderTask : ByteArray := prog_1_method_47_code
def yX7_renderTask : MethodName := ⟨RX7, "renderTask", "(I)I"⟩
abbrev cX7_renderUsage : ByteArray := prog_1_method_48_code
def yX7_renderUsage : MethodName := ⟨RX7, "renderUsage", "(I)I"⟩
abbrev cX7_outputAt : ByteArray := prog_1_method_49_code
def yX7_outputAt : MethodName := ⟨RX7, "outputAt", "(I)C"⟩
abbrev cX7_runScript : ByteArray := prog_1_method_51_code
def yX7_runScript : MethodName := ⟨RX7, "runScript", "()I"⟩
abbrev cX7_errorPosition : ByteArray := prog_1_method_52_code
def yX7_errorPosition : MethodName := ⟨RX7, "errorPosition", "()I"⟩
abbrev cX7_failedCommand : ByteArray := prog_1_method_53_code
def yX7_failedCommand : MethodName := ⟨RX7, "failedCommand", "()I"⟩
abbrev cX7_failureReason : ByteArray := prog_1_method_54_code
def yX7_failureReason : MethodName := ⟨RX7, "failureReason", "()C"⟩
abbrev cX7_beginChange : ByteArray := prog_1_method_58_code
def yX7_beginChange : MethodName := ⟨RX7, "beginChange", "()V"⟩
abbrev cX7_currentPlan : ByteArray := prog_1_method_59_code
def yX7_currentPlan : MethodName := ⟨RX7, "currentPlan", "()LTaskLeveller$Plan;"⟩
abbrev cX7_runCommand : ByteArray := prog_1_method_60_code
def yX7_runCommand : MethodName := ⟨RX7, "runCommand", "(I)C"⟩
abbrev cX7_runAdding : ByteArray := prog_1_method_61_code
def yX7_runAdding : MethodName := ⟨RX7, "runAdding", "(IIII)C"⟩
abbrev cX7_runSetting : ByteArray := prog_1_method_62_code
def yX7_runSetting : MethodName := ⟨RX7, "runSetting", "(C[III)C"⟩
abbrev cX7_markTrial : ByteArray := prog_1_method_63_code
def yX7_markTrial : MethodName := ⟨RX7, "markTrial", "()V"⟩
abbrev cX7_isWorkedOn : ByteArray := prog_1_method_64_code
def yX7_isWorkedOn : MethodName := ⟨RX7, "isWorkedOn", "(II)Z"⟩
abbrev cX7_driftOf : ByteArray := prog_1_method_65_code
def yX7_driftOf : MethodName := ⟨RX7, "driftOf", "(I)I"⟩
abbrev cX7_sortingKey : ByteArray := prog_1_method_66_code
def yX7_sortingKey : MethodName := ⟨RX7, "sortingKey", "(II)I"⟩
abbrev cX7_taskAtRank : ByteArray := prog_1_method_67_code
def yX7_taskAtRank : MethodName := ⟨RX7, "taskAtRank", "(I)I"⟩
abbrev cX7_countBefore : ByteArray := prog_1_method_68_code
def yX7_countBefore : MethodName := ⟨RX7, "countBefore", "(I)I"⟩
abbrev cX7_startsAgree : ByteArray := prog_1_method_69_code
def yX7_startsAgree : MethodName := ⟨RX7, "startsAgree", "()Z"⟩
abbrev cX7_dependenciesAgree : ByteArray := prog_1_method_70_code
def yX7_dependenciesAgree : MethodName := ⟨RX7, "dependenciesAgree", "()Z"⟩
abbrev cX7_workloadsAgree : ByteArray := prog_1_method_71_code
def yX7_workloadsAgree : MethodName := ⟨RX7, "workloadsAgree", "()Z"⟩
abbrev cX7_requireTask : ByteArray := prog_1_method_72_code
def yX7_requireTask : MethodName := ⟨RX7, "requireTask", "(I)V"⟩
abbrev cX7_requireResource : ByteArray := prog_1_method_73_code
def yX7_requireResource : MethodName := ⟨RX7, "requireResource", "(I)V"⟩
abbrev cX7_requireDay : ByteArray := prog_1_method_74_code
def yX7_requireDay : MethodName := ⟨RX7, "requireDay", "(I)V"⟩
abbrev cX7_requireBaselineStart : ByteArray := prog_1_method_75_code
def yX7_requireBaselineStart : MethodName := ⟨RX7, "requireBaselineStart", "(I)V"⟩
abbrev cX7_requireFailure : ByteArray := prog_1_method_76_code
def yX7_requireFailure : MethodName := ⟨RX7, "requireFailure", "()V"⟩
abbrev cX7_refuse : ByteArray := prog_1_method_77_code
def yX7_refuse : MethodName := ⟨RX7, "refuse", "(C)V"⟩
abbrev cX7_isWithin : ByteArray := prog_1_method_78_code
def yX7_isWithin : MethodName := ⟨RX7, "isWithin", "(III)Z"⟩
abbrev cX7_hasBit : ByteArray := prog_1_method_79_code
def yX7_hasBit : MethodName := ⟨RX7, "hasBit", "(II)Z"⟩
abbrev cX7_at : ByteArray := prog_1_method_80_code
def yX7_at : MethodName := ⟨RX7, "at", "([II)I"⟩
abbrev cX7_put : ByteArray := prog_1_method_81_code
def yX7_put : MethodName := ⟨RX7, "put", "([III)V"⟩
abbrev cX7_charAt : ByteArray := prog_1_method_82_code
def yX7_charAt : MethodName := ⟨RX7, "charAt", "([CI)C"⟩
abbrev cX7_copyRow : ByteArray := prog_1_method_83_code
def yX7_copyRow : MethodName := ⟨RX7, "copyRow", "([I[I)V"⟩
abbrev cX7_fillRow : ByteArray := prog_1_method_84_code
def yX7_fillRow : MethodName := ⟨RX7, "fillRow", "([II)V"⟩
abbrev cX7_closeGap : ByteArray := prog_1_method_85_code
def yX7_closeGap : MethodName := ⟨RX7, "closeGap", "([II)V"⟩
def RX8 : String := "TaskLevellerModel"
def TX8 : u_T := fun k => match k with
  | _ => ("", "", "", false)
def tyX8 : Nat → FieldType := fun k => match k with
  | _ => .int
theorem nmX8 : ∀ a, a < 0 → ∀ b, b < 0 → a ≠ b → (TX8 a).2.1 ≠ (TX8 b).2.1 := by decide +kernel
theorem tyX8_ok : ∀ k, k < 0 → parseFieldDescriptor (TX8 k).2.2.1 = some (tyX8 k) := by decide +kernel
def RJx145de : String := "java/io/Serializable"
def TJx145de : u_T := fun k => match k with
  | _ => ("", "", "", false)
def RJ5 : String := "java/lang/AbstractStringBuilder"
def TJ5 : u_T := fun k => match k with
  | _ => ("", "", "", false)
def tyJ5 : Nat → FieldType := fun k => match k with
  | _ => .int
theorem nmJ5 : ∀ a, a < 0 → ∀ b, b < 0 → a ≠ b → (TJ5 a).2.1 ≠ (TJ5 b).2.1 := by decide +kernel
theorem tyJ5_ok : ∀ k, k < 0 → parseFieldDescriptor (TJ5 k).2.2.1 = some (tyJ5 k) := by decide +kernel
abbrev cJ5_init_d00df : ByteArray := prog_12_method_2_code
def yJ5_init_d00df : MethodName := ⟨RJ5, "<init>", "(I)V"⟩
abbrev cJ5_length_8abf5 : ByteArray := prog_12_method_6_code
def yJ5_length_8abf5 : MethodName := ⟨RJ5, "length", "()I"⟩
abbrev cJ5_ensureCapacityInternal_d00df : ByteArray := prog_12_method_9_code
def yJ5_ensureCapacityInternal_d00df : MethodName := ⟨RJ5, "ensureCapacityInternal", "(I)V"⟩
abbrev cJ5_newCapacity_0f7a4 : ByteArray := prog_12_method_10_code
def yJ5_newCapacity_0f7a4 : MethodName := ⟨RJ5, "newCapacity", "(I)I"⟩
abbrev cJ5_inflate_da8c8 : ByteArray := prog_12_method_11_code
def yJ5_inflate_da8c8 : MethodName := ⟨RJ5, "inflate", "()V"⟩
abbrev cJ5_append_cf1ce : ByteArray := prog_12_method_22_code
def yJ5_append_cf1ce : MethodName := ⟨RJ5, "append", "(Ljava/lang/String;)Ljava/lang/AbstractStringBuilder;"⟩
abbrev cJ5_appendNull_278bc : ByteArray := prog_12_method_26_code
def yJ5_appendNull_278bc : MethodName := ⟨RJ5, "appendNull", "()Ljava/lang/AbstractStringBuilder;"⟩
abbrev cJ5_append_c97b9 : ByteArray := prog_12_method_32_code
def yJ5_append_c97b9 : MethodName := ⟨RJ5, "append", "(I)Ljava/lang/AbstractStringBuilder;"⟩
abbrev cJ5_getValue_6d5f1 : ByteArray := prog_12_method_64_code
def yJ5_getValue_6d5f1 : MethodName := ⟨RJ5, "getValue", "()[B"⟩
abbrev cJ5_isLatin1_aae02 : ByteArray := prog_12_method_68_code
def yJ5_isLatin1_aae02 : MethodName := ⟨RJ5, "isLatin1", "()Z"⟩
abbrev cJ5_inflateIfNeededFor_a7421 : ByteArray := prog_12_method_71_code
def yJ5_inflateIfNeededFor_a7421 : MethodName := ⟨RJ5, "inflateIfNeededFor", "(Ljava/lang/String;)V"⟩
abbrev cJ5_putStringAt_47b60 : ByteArray := prog_12_method_73_code
def yJ5_putStringAt_47b60 : MethodName := ⟨RJ5, "putStringAt", "(ILjava/lang/String;)V"⟩
def RJx2cfe8 : String := "java/lang/Appendable"
def TJx2cfe8 : u_T := fun k => match k with
  | _ => ("", "", "", false)
def RJx00060 : String := "java/lang/ArrayIndexOutOfBoundsException"
def TJx00060 : u_T := fun k => match k with
  | 0 => ("java/lang/Throwable", "backtrace", "Ljava/lang/Object;", false)
  | 1 => ("java/lang/Throwable", "detailMessage", "Ljava/lang/String;", false)
  | 2 => ("java/lang/Throwable", "cause", "Ljava/lang/Throwable;", false)
  | 3 => ("java/lang/Throwable", "stackTrace", "[Ljava/lang/StackTraceElement;", false)
  | 4 => ("java/lang/Throwable", "depth", "I", false)
  | _ => ("java/lang/Throwable", "suppressedExceptions", "Ljava/util/List;", false)
def RJx9f9b0 : String := "java/lang/CharSequence"
def TJx9f9b0 : u_T := fun k => match k with
  | _ => ("", "", "", false)
def RJx8e188 : String := "java/lang/Cloneable"
def TJx8e188 : u_T := fun k => match k with
  | _ => ("", "", "", false)
def RJxb160c : String := "java/lang/Comparable"
def TJxb160c : u_T := fun k => match k with
  | _ => ("", "", "", false)
def RJx29ce0 : String := "java/lang/Enum"
def TJx29ce0 : u_T := fun k => match k with
  | _ => ("", "", "", false)
def RJ6 : String := "java/lang/Integer"
def TJ6 : u_T := fun k => match k with
  | _ => ("", "", "", false)
def tyJ6 : Nat → FieldType := fun k => match k with
  | _ => .int
theorem nmJ6 : ∀ a, a < 0 → ∀ b, b < 0 → a ≠ b → (TJ6 a).2.1 ≠ (TJ6 b).2.1 := by decide +kernel
theorem tyJ6_ok : ∀ k, k < 0 → parseFieldDescriptor (TJ6 k).2.2.1 = some (tyJ6 k) := by decide +kernel
abbrev cJ6_getChars_ba4f3 : ByteArray := prog_24_method_12_code
def yJ6_getChars_ba4f3 : MethodName := ⟨RJ6, "getChars", "(II[B)I"⟩
abbrev cJ6_stringSize_0f7a4 : ByteArray := prog_24_method_13_code
def yJ6_stringSize_0f7a4 : MethodName := ⟨RJ6, "stringSize", "(I)I"⟩
abbrev cJ6_bitCount_0f7a4 : ByteArray := prog_24_method_49_code
def yJ6_bitCount_0f7a4 : MethodName := ⟨RJ6, "bitCount", "(I)I"⟩
def RJ9 : String := "java/lang/Math"
def TJ9 : u_T := fun k => match k with
  | _ => ("", "", "", false)
def tyJ9 : Nat → FieldType := fun k => match k with
  | _ => .int
theorem nmJ9 : ∀ a, a < 0 → ∀ b, b < 0 → a ≠ b → (TJ9 a).2.1 ≠ (TJ9 b).2.1 := by decide +kernel
theorem tyJ9_ok : ∀ k, k < 0 → parseFieldDescriptor (TJ9 k).2.2.1 = some (tyJ9 k) := by decide +kernel
abbrev cJ9_abs_0f7a4 : ByteArray := prog_25_method_59_code
def yJ9_abs_0f7a4 : MethodName := ⟨RJ9, "abs", "(I)I"⟩
abbrev cJ9_max_7cf53 : ByteArray := prog_25_method_65_code
def yJ9_max_7cf53 : MethodName := ⟨RJ9, "max", "(II)I"⟩
abbrev cJ9_min_7cf53 : ByteArray := prog_25_method_69_code
def yJ9_min_7cf53 : MethodName := ⟨RJ9, "min", "(II)I"⟩
def RJxd2413 : String := "java/lang/Number"
def TJxd2413 : u_T := fun k => match k with
  | _ => ("", "", "", false)
def RJ0 : String := "java/lang/String"
def TJ0 : u_T := fun k => match k with
  | 0 => ("java/lang/String", "value", "[B", true)
  | 1 => ("java/lang/String", "coder", "B", true)
  | 2 => ("java/lang/String", "hash", "I", false)
  | _ => ("java/lang/String", "hashIsZero", "Z", false)
def tyJ0 : Nat → FieldType := fun k => match k with
  | 0 => .array .byte
  | 1 => .byte
  | 2 => .int
  | _ => .boolean
theorem nmJ0 : ∀ a, a < 4 → ∀ b, b < 4 → a ≠ b → (TJ0 a).2.1 ≠ (TJ0 b).2.1 := by decide +kernel
theorem tyJ0_ok : ∀ k, k < 4 → parseFieldDescriptor (TJ0 k).2.2.1 = some (tyJ0 k) := by decide +kernel
abbrev cJ0_init_81219 : ByteArray := prog_28_method_53_code
def yJ0_init_81219 : MethodName := ⟨RJ0, "<init>", "(Ljava/lang/StringBuilder;)V"⟩
abbrev cJ0_length_8abf5 : ByteArray := prog_28_method_54_code
def yJ0_length_8abf5 : MethodName := ⟨RJ0, "length", "()I"⟩
abbrev cJ0_charAt_5068e : ByteArray := prog_28_method_56_code
def yJ0_charAt_5068e : MethodName := ⟨RJ0, "charAt", "(I)C"⟩
abbrev cJ0_getBytes_840e7 : ByteArray := prog_28_method_147_code
def yJ0_getBytes_840e7 : MethodName := ⟨RJ0, "getBytes", "([BIB)V"⟩
abbrev cJ0_init_db425 : ByteArray := prog_28_method_150_code
def yJ0_init_db425 : MethodName := ⟨RJ0, "<init>", "(Ljava/lang/AbstractStringBuilder;Ljava/lang/Void;)V"⟩
abbrev cJ0_coder_7d493 : ByteArray := prog_28_method_152_code
def yJ0_coder_7d493 : MethodName := ⟨RJ0, "coder", "()B"⟩
abbrev cJ0_isLatin1_aae02 : ByteArray := prog_28_method_154_code
def yJ0_isLatin1_aae02 : MethodName := ⟨RJ0, "isLatin1", "()Z"⟩
abbrev cJ0_checkIndex_df160 : ByteArray := prog_28_method_155_code
def yJ0_checkIndex_df160 : MethodName := ⟨RJ0, "checkIndex", "(II)V"⟩
abbrev cJ0_checkBoundsOffCount_cabcc : ByteArray := prog_28_method_157_code
def yJ0_checkBoundsOffCount_cabcc : MethodName := ⟨RJ0, "checkBoundsOffCount", "(III)I"⟩
abbrev cJ0_checkBoundsBeginEnd_23922 : ByteArray := prog_28_method_158_code
def yJ0_checkBoundsBeginEnd_23922 : MethodName := ⟨RJ0, "checkBoundsBeginEnd", "(III)V"⟩
def RJ4 : String := "java/lang/StringBuilder"
def TJ4 : u_T := fun k => match k with
  | 0 => ("java/lang/AbstractStringBuilder", "value", "[B", false)
  | 1 => ("java/lang/AbstractStringBuilder", "coder", "B", false)
  | 2 => ("java/lang/AbstractStringBuilder", "maybeLatin1", "Z", false)
  | _ => ("java/lang/AbstractStringBuilder", "count", "I", false)
def tyJ4 : Nat → FieldType := fun k => match k with
  | 0 => .array .byte
  | 1 => .byte
  | 2 => .boolean
  | _ => .int
theorem nmJ4 : ∀ a, a < 4 → ∀ b, b < 4 → a ≠ b → (TJ4 a).2.1 ≠ (TJ4 b).2.1 := by decide +kernel
theorem tyJ4_ok : ∀ k, k < 4 → parseFieldDescriptor (TJ4 k).2.2.1 = some (tyJ4 k) := by decide +kernel
abbrev cJ4_init_da8c8 : ByteArray := prog_29_method_1_code
def yJ4_init_da8c8 : MethodName := ⟨RJ4, "<init>", "()V"⟩
abbrev cJ4_append_15ec4 : ByteArray := prog_29_method_7_code
def yJ4_append_15ec4 : MethodName := ⟨RJ4, "append", "(Ljava/lang/String;)Ljava/lang/StringBuilder;"⟩
abbrev cJ4_append_bf812 : ByteArray := prog_29_method_15_code
def yJ4_append_bf812 : MethodName := ⟨RJ4, "append", "(I)Ljava/lang/StringBuilder;"⟩
abbrev cJ4_toString_0e30d : ByteArray := prog_29_method_42_code
def yJ4_toString_0e30d : MethodName := ⟨RJ4, "toString", "()Ljava/lang/String;"⟩
abbrev cJ4_length_8abf5 : ByteArray := prog_29_method_93_code
def yJ4_length_8abf5 : MethodName := ⟨RJ4, "length", "()I"⟩
def RJ1 : String := "java/lang/StringLatin1"
def TJ1 : u_T := fun k => match k with
  | _ => ("", "", "", false)
def tyJ1 : Nat → FieldType := fun k => match k with
  | _ => .int
theorem nmJ1 : ∀ a, a < 0 → ∀ b, b < 0 → a ≠ b → (TJ1 a).2.1 ≠ (TJ1 b).2.1 := by decide +kernel
theorem tyJ1_ok : ∀ k, k < 0 → parseFieldDescriptor (TJ1 k).2.2.1 = some (tyJ1 k) := by decide +kernel
abbrev cJ1_charAt_3b067 : ByteArray := prog_30_method_2_code
def yJ1_charAt_3b067 : MethodName := ⟨RJ1, "charAt", "([BI)C"⟩
abbrev cJ1_inflate_0e8fd : ByteArray := prog_30_method_50_code
def yJ1_inflate_0e8fd : MethodName := ⟨RJ1, "inflate", "([BI[BII)V"⟩
def RJ2 : String := "java/lang/StringUTF16"
def TJ2 : u_T := fun k => match k with
  | _ => ("", "", "", false)
def tyJ2 : Nat → FieldType := fun k => match k with
  | _ => .int
theorem nmJ2 : ∀ a, a < 0 → ∀ b, b < 0 → a ≠ b → (TJ2 a).2.1 ≠ (TJ2 b).2.1 := by decide +kernel
theorem tyJ2_ok : ∀ k, k < 0 → parseFieldDescriptor (TJ2 k).2.2.1 = some (tyJ2 k) := by decide +kernel
abbrev cJ2_newBytesFor_77867 : ByteArray := prog_31_method_2_code
def yJ2_newBytesFor_77867 : MethodName := ⟨RJ2, "newBytesFor", "(I)[B"⟩
abbrev cJ2_newBytesLength_0f7a4 : ByteArray := prog_31_method_3_code
def yJ2_newBytesLength_0f7a4 : MethodName := ⟨RJ2, "newBytesLength", "(I)I"⟩
abbrev cJ2_putChar_b72d1 : ByteArray := prog_31_method_4_code
def yJ2_putChar_b72d1 : MethodName := ⟨RJ2, "putChar", "([BII)V"⟩
abbrev cJ2_getChar_3b067 : ByteArray := prog_31_method_5_code
def yJ2_getChar_3b067 : MethodName := ⟨RJ2, "getChar", "([BI)C"⟩
abbrev cJ2_length_9d52b : ByteArray := prog_31_method_6_code
def yJ2_length_9d52b : MethodName := ⟨RJ2, "length", "([B)I"⟩
abbrev cJ2_coderFromArrayLen_85cad : ByteArray := prog_31_method_15_code
def yJ2_coderFromArrayLen_85cad : MethodName := ⟨RJ2, "coderFromArrayLen", "([BI)B"⟩
abbrev cJ2_compress_39247 : ByteArray := prog_31_method_17_code
def yJ2_compress_39247 : MethodName := ⟨RJ2, "compress", "([BII)[B"⟩
abbrev cJ2_compress_5af95 : ByteArray := prog_31_method_22_code
def yJ2_compress_5af95 : MethodName := ⟨RJ2, "compress", "([BI[BII)I"⟩
abbrev cJ2_getChars_46870 : ByteArray := prog_31_method_77_code
def yJ2_getChars_46870 : MethodName := ⟨RJ2, "getChars", "(III[B)I"⟩
abbrev cJ2_putCharsAt_cd4e5 : ByteArray := prog_31_method_81_code
def yJ2_putCharsAt_cd4e5 : MethodName := ⟨RJ2, "putCharsAt", "([BICCCC)I"⟩
abbrev cJ2_charAt_3b067 : ByteArray := prog_31_method_83_code
def yJ2_charAt_3b067 : MethodName := ⟨RJ2, "charAt", "([BI)C"⟩
abbrev cJ2_inflate_0e8fd : ByteArray := prog_31_method_86_code
def yJ2_inflate_0e8fd : MethodName := ⟨RJ2, "inflate", "([BI[BII)V"⟩
abbrev cJ2_getChars_ba4f3 : ByteArray := prog_31_method_89_code
def yJ2_getChars_ba4f3 : MethodName := ⟨RJ2, "getChars", "(II[B)I"⟩
abbrev cJ2_checkIndex_2214a : ByteArray := prog_31_method_91_code
def yJ2_checkIndex_2214a : MethodName := ⟨RJ2, "checkIndex", "(I[B)V"⟩
abbrev cJ2_checkBoundsBeginEnd_d044e : ByteArray := prog_31_method_93_code
def yJ2_checkBoundsBeginEnd_d044e : MethodName := ⟨RJ2, "checkBoundsBeginEnd", "(II[B)V"⟩
abbrev cJ2_checkBoundsOffCount_d044e : ByteArray := prog_31_method_94_code
def yJ2_checkBoundsOffCount_d044e : MethodName := ⟨RJ2, "checkBoundsOffCount", "(II[B)V"⟩
def RJ10 : String := "java/lang/System"
def TJ10 : u_T := fun k => match k with
  | _ => ("", "", "", false)
def tyJ10 : Nat → FieldType := fun k => match k with
  | _ => .int
def RJxfd54e : String := "java/lang/constant/Constable"
def TJxfd54e : u_T := fun k => match k with
  | _ => ("", "", "", false)
def RJx3cf43 : String := "java/lang/constant/ConstantDesc"
def TJx3cf43 : u_T := fun k => match k with
  | _ => ("", "", "", false)
def RJ7 : String := "java/util/Arrays"
def TJ7 : u_T := fun k => match k with
  | _ => ("", "", "", false)
def tyJ7 : Nat → FieldType := fun k => match k with
  | _ => .int
theorem nmJ7 : ∀ a, a < 0 → ∀ b, b < 0 → a ≠ b → (TJ7 a).2.1 ≠ (TJ7 b).2.1 := by decide +kernel
theorem tyJ7_ok : ∀ k, k < 0 → parseFieldDescriptor (TJ7 k).2.2.1 = some (tyJ7 k) := by decide +kernel
abbrev cJ7_copyOf_9075b : ByteArray := prog_37_method_121_code
def yJ7_copyOf_9075b : MethodName := ⟨RJ7, "copyOf", "([BI)[B"⟩
abbrev cJ7_checkLength_df160 : ByteArray := prog_37_method_131_code
def yJ7_checkLength_df160 : MethodName := ⟨RJ7, "checkLength", "(II)V"⟩
abbrev cJ7_copyOfRange_39247 : ByteArray := prog_37_method_132_code
def yJ7_copyOfRange_39247 : MethodName := ⟨RJ7, "copyOfRange", "([BII)[B"⟩
abbrev cJ7_copyOfRangeByte_39247 : ByteArray := prog_37_method_133_code
def yJ7_copyOfRangeByte_39247 : MethodName := ⟨RJ7, "copyOfRangeByte", "([BII)[B"⟩
def RJ8 : String := "jdk/internal/util/ArraysSupport"
def TJ8 : u_T := fun k => match k with
  | _ => ("", "", "", false)
def tyJ8 : Nat → FieldType := fun k => match k with
  | _ => .int
theorem nmJ8 : ∀ a, a < 0 → ∀ b, b < 0 → a ≠ b → (TJ8 a).2.1 ≠ (TJ8 b).2.1 := by decide +kernel
theorem tyJ8_ok : ∀ k, k < 0 → parseFieldDescriptor (TJ8 k).2.2.1 = some (tyJ8 k) := by decide +kernel
abbrev cJ8_newLength_cabcc : ByteArray := prog_39_method_27_code
def yJ8_newLength_cabcc : MethodName := ⟨RJ8, "newLength", "(III)I"⟩
abbrev cJ8_hugeLength_7cf53 : ByteArray := prog_39_method_28_code
def yJ8_hugeLength_7cf53 : MethodName := ⟨RJ8, "hugeLength", "(II)I"⟩
def RJ3 : String := "jdk/internal/util/Preconditions"
def TJ3 : u_T := fun k => match k with
  | _ => ("", "", "", false)
def tyJ3 : Nat → FieldType := fun k => match k with
  | _ => .int
theorem nmJ3 : ∀ a, a < 0 → ∀ b, b < 0 → a ≠ b → (TJ3 a).2.1 ≠ (TJ3 b).2.1 := by decide +kernel
theorem tyJ3_ok : ∀ k, k < 0 → parseFieldDescriptor (TJ3 k).2.2.1 = some (tyJ3 k) := by decide +kernel
abbrev cJ3_checkIndex_8e157 : ByteArray := prog_40_method_11_code
def yJ3_checkIndex_8e157 : MethodName := ⟨RJ3, "checkIndex", "(IILjava/util/function/BiFunction;)I"⟩
abbrev cJ3_checkFromToIndex_8c36e : ByteArray := prog_40_method_12_code
def yJ3_checkFromToIndex_8c36e : MethodName := ⟨RJ3, "checkFromToIndex", "(IIILjava/util/function/BiFunction;)I"⟩
abbrev cJ3_checkFromIndexSize_8c36e : ByteArray := prog_40_method_13_code
def yJ3_checkFromIndexSize_8c36e : MethodName := ⟨RJ3, "checkFromIndexSize", "(IIILjava/util/function/BiFunction;)I"⟩
def RL : String := "TaskLevellerLaw"
abbrev cL_cell : ByteArray := method_2_code
def yL_cell : MethodName := ⟨RL, "cell", "([II)I"⟩
abbrev cL_pick : ByteArray := method_3_code
def yL_pick : MethodName := ⟨RL, "pick", "([III)I"⟩
abbrev cL_told : ByteArray := method_4_code
def yL_told : MethodName := ⟨RL, "told", "(Z)I"⟩
abbrev cL_plain : ByteArray := method_5_code
def yL_plain : MethodName := ⟨RL, "plain", "(LTaskLeveller;IIIII)I"⟩
abbrev cL_deed : ByteArray := method_6_code
def yL_deed : MethodName := ⟨RL, "deed", "(LTaskLeveller;IIIII)I"⟩
abbrev cL_asked : ByteArray := method_7_code
def yL_asked : MethodName := ⟨RL, "asked", "(LTaskLeveller;III)I"⟩
abbrev cL_ask : ByteArray := method_8_code
def yL_ask : MethodName := ⟨RL, "ask", "(LTaskLeveller;III)I"⟩
abbrev cL_lay : ByteArray := method_9_code
def yL_lay : MethodName := ⟨RL, "lay", "(LTaskLeveller;[I)V"⟩
abbrev cL_any : ByteArray := method_10_code
def yL_any : MethodName := ⟨RL, "any", "(LTaskLeveller;[II)I"⟩
abbrev cL_isBehind : ByteArray := method_12_code
def yL_isBehind : MethodName := ⟨RL, "isBehind", "(LTaskLeveller;II)Z"⟩
abbrev cL_soonest : ByteArray := method_13_code
def yL_soonest : MethodName := ⟨RL, "soonest", "(LTaskLeveller;I[I)I"⟩
abbrev cL_ordered : ByteArray := method_14_code
def yL_ordered : MethodName := ⟨RL, "ordered", "(LTaskLeveller;)[I"⟩
abbrev cL_isFree : ByteArray := method_15_code
def yL_isFree : MethodName := ⟨RL, "isFree", "(LTaskLeveller;I[Z)Z"⟩
abbrev cL_last : ByteArray := method_16_code
def yL_last : MethodName := ⟨RL, "last", "(LTaskLeveller;[I)I"⟩
abbrev cL_areDependenciesRight : ByteArray := method_17_code
def yL_areDependenciesRight : MethodName := ⟨RL, "areDependenciesRight", "(LTaskLeveller;)Z"⟩
abbrev cL_earliest : ByteArray := method_18_code
def yL_earliest : MethodName := ⟨RL, "earliest", "(LTaskLeveller;)[I"⟩
abbrev cL_latest : ByteArray := method_19_code
def yL_latest : MethodName := ⟨RL, "latest", "(LTaskLeveller;I)[I"⟩
abbrev cL_areStartsRight : ByteArray := method_20_code
def yL_areStartsRight : MethodName := ⟨RL, "areStartsRight", "(LTaskLeveller;[I[I)Z"⟩
abbrev cL_levelled : ByteArray := method_21_code
def yL_levelled : MethodName := ⟨RL, "levelled", "(LTaskLeveller;[I[[I)[I"⟩
abbrev cL_fits : ByteArray := method_22_code
def yL_fits : MethodName := ⟨RL, "fits", "(LTaskLeveller;II[[I)Z"⟩
abbrev cL_areLevelsRight : ByteArray := method_23_code
def yL_areLevelsRight : MethodName := ⟨RL, "areLevelsRight", "(LTaskLeveller;[I[[II)Z"⟩
abbrev cL_isLine : ByteArray := method_24_code
def yL_isLine : MethodName := ⟨RL, "isLine", "(LTaskLeveller;ILjava/lang/String;)Z"⟩
abbrev cL_areTasksTold : ByteArray := method_25_code
def yL_areTasksTold : MethodName := ⟨RL, "areTasksTold", "(LTaskLeveller;[I)Z"⟩
abbrev cL_law : ByteArray := code
def yL_law : MethodName := ⟨RL, "law", "([I)Z"⟩
