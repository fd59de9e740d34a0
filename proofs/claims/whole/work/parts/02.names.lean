/-- the tables' words that every later state keeps -/
def zWT : List Cond := lw_tbl.filter goodWord
theorem z_gw : zWT.all goodWord = true := List.all_eq_true.mpr fun _ h => (List.mem_filter.mp h).2
theorem z_in0 {w : Cond} (h : w ∈ k2_sels lw_privs) (hg : goodWord w = true) : w ∈ zWT := List.mem_filter.mpr ⟨List.mem_append_left _ h, hg⟩
theorem z_in1 {w : Cond} (h : w ∈ tables_1_1) (hg : goodWord w = true) : w ∈ zWT := List.mem_filter.mpr ⟨List.mem_append_right _ (List.mem_append_left _ h), hg⟩
theorem z_in2 {w : Cond} (h : w ∈ tables_1_2) (hg : goodWord w = true) : w ∈ zWT := List.mem_filter.mpr ⟨List.mem_append_right _ (List.mem_append_right _ (List.mem_append_left _ h)), hg⟩
theorem z_in3 {w : Cond} (h : w ∈ tables_1_3) (hg : goodWord w = true) : w ∈ zWT := List.mem_filter.mpr ⟨List.mem_append_right _ (List.mem_append_right _ (List.mem_append_right _ (List.mem_append_left _ h))), hg⟩
theorem z_in4 {w : Cond} (h : w ∈ tables_1_4) (hg : goodWord w = true) : w ∈ zWT := List.mem_filter.mpr ⟨List.mem_append_right _ (List.mem_append_right _ (List.mem_append_right _ (List.mem_append_right _ (h)))), hg⟩
theorem z_good {w : Cond} (h : w ∈ zWT) : w ∈ zWT ∧ ((w.onTables && w.keeps) = true ∨ ∃ ty, w = .arrayClass ty) := ⟨h, good_of_word (List.all_eq_true.mp z_gw w h)⟩
theorem z_gI {y : MethodName} {b : ByteArray} {n : Nat} {r : Option FieldType} (h : Cond.code y b n r ∈ zWT) : GoodIn zWT (Cond.code y b n r :: zWT) := fun w hw => (List.mem_cons.mp hw).elim (fun e => e ▸ z_good h) z_good
theorem z_gV {own C : String} {i : Nat} {y : MethodName} {b : ByteArray} {n : Nat} {r : Option FieldType} (h1 : Cond.methodLink own i y ∈ zWT) (h2 : Cond.instanceMethod y ∈ zWT) (h3 : Cond.selects C y y ∈ zWT) (h4 : Cond.initialized C ∈ zWT) (h : Cond.code y b n r ∈ zWT) : GoodIn zWT (wsV own i C y (Cond.code y b n r :: zWT)) := fun w hw => by
  rcases List.mem_append.mp hw with hw | hw
  · simp only [List.mem_cons, List.not_mem_nil, or_false] at hw
    rcases hw with rfl | rfl | rfl | rfl
    · exact z_good h1
    · exact z_good h2
    · exact z_good h3
    · exact z_good h4
  · exact z_gI h w hw
theorem z_gS {own : String} {i : Nat} {y : MethodName} {b : ByteArray} {n : Nat} {r : Option FieldType} (h1 : Cond.methodLink own i y ∈ zWT) (h2 : Cond.static y ∈ zWT) (h4 : Cond.initialized own ∈ zWT) (h : Cond.code y b n r ∈ zWT) : GoodIn zWT (wsS own i y (Cond.code y b n r :: zWT)) := fun w hw => by
  rcases List.mem_append.mp hw with hw | hw
  · simp only [List.mem_cons, List.not_mem_nil, or_false] at hw
    rcases hw with rfl | rfl | rfl
    · exact z_good h1
    · exact z_good h2
    · exact z_good h4
  · exact z_gI h w hw
def R_Ga : String := "RuleTracer$Gatherer"
def T_Ga : u_T := fun k => match k with
  | 0 => ("RuleTracer$Gatherer", "keys", "[I", true)
  | 1 => ("RuleTracer$Gatherer", "least", "[D", true)
  | 2 => ("RuleTracer$Gatherer", "greatest", "[D", true)
  | 3 => ("RuleTracer$Gatherer", "sums", "[D", true)
  | 4 => ("RuleTracer$Gatherer", "values", "[I", true)
  | 5 => ("RuleTracer$Gatherer", "bins", "[I", true)
  | _ => ("RuleTracer$Gatherer", "size", "I", false)
def ty_Ga : Nat → FieldType := fun k => match k with
  | 0 => .array .int
  | 1 => .array .double
  | 2 => .array .double
  | 3 => .array .double
  | 4 => .array .int
  | 5 => .array .int
  | _ => .int
theorem nm_Ga : ∀ a, a < 7 → ∀ b, b < 7 → a ≠ b → (T_Ga a).2.1 ≠ (T_Ga b).2.1 := by decide +kernel
theorem to_Ga : ∀ k, k < 7 → parseFieldDescriptor (T_Ga k).2.2.1 = some (ty_Ga k) := by decide +kernel
def R_Re : String := "RuleTracer$Records"
def T_Re : u_T := fun k => match k with
  | 0 => ("RuleTracer$Records", "ring", "[D", true)
  | 1 => ("RuleTracer$Records", "oldest", "I", false)
  | 2 => ("RuleTracer$Records", "size", "I", false)
  | _ => ("RuleTracer$Records", "lost", "I", false)
def ty_Re : Nat → FieldType := fun k => match k with
  | 0 => .array .double
  | 1 => .int
  | 2 => .int
  | _ => .int
theorem nm_Re : ∀ a, a < 4 → ∀ b, b < 4 → a ≠ b → (T_Re a).2.1 ≠ (T_Re b).2.1 := by decide +kernel
theorem to_Re : ∀ k, k < 4 → parseFieldDescriptor (T_Re k).2.2.1 = some (ty_Re k) := by decide +kernel
def R_Ru : String := "RuleTracer$Rule"
def T_Ru : u_T := fun k => match k with
  | 0 => ("RuleTracer$Rule", "steps", "[I", true)
  | 1 => ("RuleTracer$Rule", "length", "I", false)
  | 2 => ("RuleTracer$Rule", "actions", "I", false)
  | 3 => ("RuleTracer$Rule", "site", "I", false)
  | 4 => ("RuleTracer$Rule", "exit", "Z", false)
  | 5 => ("RuleTracer$Rule", "conditional", "Z", false)
  | 6 => ("RuleTracer$Rule", "there", "Z", false)
  | 7 => ("RuleTracer$Rule", "on", "Z", false)
  | 8 => ("RuleTracer$Rule", "failures", "I", false)
  | _ => ("RuleTracer$Rule", "meetings", "I", false)
def ty_Ru : Nat → FieldType := fun k => match k with
  | 0 => .array .int
  | 1 => .int
  | 2 => .int
  | 3 => .int
  | 4 => .boolean
  | 5 => .boolean
  | 6 => .boolean
  | 7 => .boolean
  | 8 => .int
  | _ => .int
theorem nm_Ru : ∀ a, a < 10 → ∀ b, b < 10 → a ≠ b → (T_Ru a).2.1 ≠ (T_Ru b).2.1 := by decide +kernel
theorem to_Ru : ∀ k, k < 10 → parseFieldDescriptor (T_Ru k).2.2.1 = some (ty_Ru k) := by decide +kernel
def R_Te : String := "RuleTracer$RuleText"
def T_Te : u_T := fun k => match k with
  | 0 => ("RuleTracer$RuleText", "characters", "[C", true)
  | 1 => ("RuleTracer$RuleText", "draft", "LRuleTracer$Rule;", false)
  | 2 => ("RuleTracer$RuleText", "length", "I", false)
  | _ => ("RuleTracer$RuleText", "at", "I", false)
def ty_Te : Nat → FieldType := fun k => match k with
  | 0 => .array .char
  | 1 => .object "RuleTracer$Rule"
  | 2 => .int
  | _ => .int
theorem nm_Te : ∀ a, a < 4 → ∀ b, b < 4 → a ≠ b → (T_Te a).2.1 ≠ (T_Te b).2.1 := by decide +kernel
theorem to_Te : ∀ k, k < 4 → parseFieldDescriptor (T_Te k).2.2.1 = some (ty_Te k) := by decide +kernel
def R_Rn : String := "RuleTracer$Runner"
def T_Rn : u_T := fun k => match k with
  | 0 => ("RuleTracer$Runner", "stack", "[D", true)
  | 1 => ("RuleTracer$Runner", "variables", "[D", true)
  | 2 => ("RuleTracer$Runner", "gatherers", "[LRuleTracer$Gatherer;", true)
  | 3 => ("RuleTracer$Runner", "records", "LRuleTracer$Records;", true)
  | 4 => ("RuleTracer$Runner", "time", "I", false)
  | 5 => ("RuleTracer$Runner", "dropped", "I", false)
  | 6 => ("RuleTracer$Runner", "thread", "I", false)
  | 7 => ("RuleTracer$Runner", "handedA", "D", false)
  | 8 => ("RuleTracer$Runner", "handedB", "D", false)
  | 9 => ("RuleTracer$Runner", "handedC", "D", false)
  | 10 => ("RuleTracer$Runner", "top", "I", false)
  | 11 => ("RuleTracer$Runner", "over", "Z", false)
  | 12 => ("RuleTracer$Runner", "failed", "Z", false)
  | _ => ("RuleTracer$Runner", "met", "Z", false)
def ty_Rn : Nat → FieldType := fun k => match k with
  | 0 => .array .double
  | 1 => .array .double
  | 2 => .array (.object "RuleTracer$Gatherer")
  | 3 => .object "RuleTracer$Records"
  | 4 => .int
  | 5 => .int
  | 6 => .int
  | 7 => .double
  | 8 => .double
  | 9 => .double
  | 10 => .int
  | 11 => .boolean
  | 12 => .boolean
  | _ => .boolean
theorem nm_Rn : ∀ a, a < 14 → ∀ b, b < 14 → a ≠ b → (T_Rn a).2.1 ≠ (T_Rn b).2.1 := by decide +kernel
theorem to_Rn : ∀ k, k < 14 → parseFieldDescriptor (T_Rn k).2.2.1 = some (ty_Rn k) := by decide +kernel
def R_Tr : String := "RuleTracer"
def T_Tr : u_T := fun k => match k with
  | 0 => ("RuleTracer", "text", "LRuleTracer$RuleText;", true)
  | 1 => ("RuleTracer", "rules", "[LRuleTracer$Rule;", true)
  | 2 => ("RuleTracer", "runner", "LRuleTracer$Runner;", true)
  | 3 => ("RuleTracer", "place", "I", false)
  | _ => ("RuleTracer", "firings", "I", false)
def ty_Tr : Nat → FieldType := fun k => match k with
  | 0 => .object "RuleTracer$RuleText"
  | 1 => .array (.object "RuleTracer$Rule")
  | 2 => .object "RuleTracer$Runner"
  | 3 => .int
  | _ => .int
theorem nm_Tr : ∀ a, a < 5 → ∀ b, b < 5 → a ≠ b → (T_Tr a).2.1 ≠ (T_Tr b).2.1 := by decide +kernel
theorem to_Tr : ∀ k, k < 5 → parseFieldDescriptor (T_Tr k).2.2.1 = some (ty_Tr k) := by decide +kernel
def R_Mo : String := "RuleTracerModel"
def T_Mo : u_T := fun k => match k with
  | 0 => ("RuleTracerModel", "text", "[I", true)
  | 1 => ("RuleTracerModel", "code", "[I", true)
  | 2 => ("RuleTracerModel", "site", "[I", true)
  | 3 => ("RuleTracerModel", "condition", "[I", true)
  | 4 => ("RuleTracerModel", "actions", "[I", true)
  | 5 => ("RuleTracerModel", "kind", "[I", true)
  | 6 => ("RuleTracerModel", "target", "[I", true)
  | 7 => ("RuleTracerModel", "first", "[I", true)
  | 8 => ("RuleTracerModel", "second", "[I", true)
  | 9 => ("RuleTracerModel", "failures", "[I", true)
  | 10 => ("RuleTracerModel", "met", "[I", true)
  | 11 => ("RuleTracerModel", "there", "[Z", true)
  | 12 => ("RuleTracerModel", "on", "[Z", true)
  | 13 => ("RuleTracerModel", "compared", "[Z", true)
  | 14 => ("RuleTracerModel", "globals", "[D", true)
  | 15 => ("RuleTracerModel", "own", "[D", true)
  | 16 => ("RuleTracerModel", "records", "[D", true)
  | 17 => ("RuleTracerModel", "pile", "[D", true)
  | 18 => ("RuleTracerModel", "handed", "[D", true)
  | 19 => ("RuleTracerModel", "keys", "[I", true)
  | 20 => ("RuleTracerModel", "key", "[I", true)
  | 21 => ("RuleTracerModel", "count", "[I", true)
  | 22 => ("RuleTracerModel", "bins", "[I", true)
  | 23 => ("RuleTracerModel", "operator", "[I", true)
  | 24 => ("RuleTracerModel", "starts", "[I", true)
  | 25 => ("RuleTracerModel", "sum", "[D", true)
  | 26 => ("RuleTracerModel", "least", "[D", true)
  | 27 => ("RuleTracerModel", "greatest", "[D", true)
  | 28 => ("RuleTracerModel", "newSite", "I", false)
  | 29 => ("RuleTracerModel", "newCondition", "I", false)
  | 30 => ("RuleTracerModel", "newActions", "I", false)
  | 31 => ("RuleTracerModel", "size", "I", false)
  | 32 => ("RuleTracerModel", "place", "I", false)
  | 33 => ("RuleTracerModel", "pos", "I", false)
  | 34 => ("RuleTracerModel", "at", "I", false)
  | 35 => ("RuleTracerModel", "operators", "I", false)
  | 36 => ("RuleTracerModel", "recorded", "I", false)
  | 37 => ("RuleTracerModel", "lost", "I", false)
  | 38 => ("RuleTracerModel", "dropped", "I", false)
  | 39 => ("RuleTracerModel", "firings", "I", false)
  | 40 => ("RuleTracerModel", "time", "I", false)
  | 41 => ("RuleTracerModel", "thread", "I", false)
  | 42 => ("RuleTracerModel", "thrown", "I", false)
  | _ => ("RuleTracerModel", "failed", "Z", false)
def ty_Mo : Nat → FieldType := fun k => match k with
  | 0 => .array .int
  | 1 => .array .int
  | 2 => .array .int
  | 3 => .array .int
  | 4 => .array .int
  | 5 => .array .int
  | 6 => .array .int
  | 7 => .array .int
  | 8 => .array .int
  | 9 => .array .int
  | 10 => .array .int
  | 11 => .array .boolean
  | 12 => .array .boolean
  | 13 => .array .boolean
  | 14 => .array .double
  | 15 => .array .double
  | 16 => .array .double
  | 17 => .array .double
  | 18 => .array .double
  | 19 => .array .int
  | 20 => .array .int
  | 21 => .array .int
  | 22 => .array .int
  | 23 => .array .int
  | 24 => .array .int
  | 25 => .array .double
  | 26 => .array .double
  | 27 => .array .double
  | 28 => .int
  | 29 => .int
  | 30 => .int
  | 31 => .int
  | 32 => .int
  | 33 => .int
  | 34 => .int
  | 35 => .int
  | 36 => .int
  | 37 => .int
  | 38 => .int
  | 39 => .int
  | 40 => .int
  | 41 => .int
  | 42 => .int
  | _ => .boolean
theorem nm_Mo : ∀ a, a < 44 → ∀ b, b < 44 → a ≠ b → (T_Mo a).2.1 ≠ (T_Mo b).2.1 := by decide +kernel
theorem to_Mo : ∀ k, k < 44 → parseFieldDescriptor (T_Mo k).2.2.1 = some (ty_Mo k) := by decide +kernel
def R_La : String := "RuleTracerLaw"
abbrev zcl : List vw_C := [(R_Ga, T_Ga, 7), (R_Re, T_Re, 4), (R_Ru, T_Ru, 10), (R_Te, T_Te, 4), (R_Rn, T_Rn, 14), (R_Tr, T_Tr, 5), (R_Mo, T_Mo, 44)]
def y_Tr_init : MethodName := ⟨R_Tr, "<init>", "()V"⟩
abbrev b_Tr_init : ByteArray := prog_1_method_1_code
def y_Tr_type : MethodName := ⟨R_Tr, "type", "(J)I"⟩
abbrev b_Tr_type : ByteArray := prog_1_method_2_code
def y_Tr_compile : MethodName := ⟨R_Tr, "compile", "(I)I"⟩
abbrev b_Tr_compile : ByteArray := prog_1_method_3_code
def y_Tr_turn : MethodName := ⟨R_Tr, "turn", "(IZ)I"⟩
abbrev b_Tr_turn : ByteArray := prog_1_method_4_code
def y_Tr_fire : MethodName := ⟨R_Tr, "fire", "(IZIDDD)I"⟩
abbrev b_Tr_fire : ByteArray := prog_1_method_5_code
def y_Tr_tick : MethodName := ⟨R_Tr, "tick", "(I)I"⟩
abbrev b_Tr_tick : ByteArray := prog_1_method_6_code
def y_Tr_variable : MethodName := ⟨R_Tr, "variable", "(II)D"⟩
abbrev b_Tr_variable : ByteArray := prog_1_method_7_code
def y_Tr_gathered : MethodName := ⟨R_Tr, "gathered", "(III)D"⟩
abbrev b_Tr_gathered : ByteArray := prog_1_method_8_code
def y_Tr_many : MethodName := ⟨R_Tr, "many", "(III)I"⟩
abbrev b_Tr_many : ByteArray := prog_1_method_9_code
def y_Tr_record : MethodName := ⟨R_Tr, "record", "()D"⟩
abbrev b_Tr_record : ByteArray := prog_1_method_10_code
def y_Tr_count : MethodName := ⟨R_Tr, "count", "(I)I"⟩
abbrev b_Tr_count : ByteArray := prog_1_method_11_code
def y_Tr_rulesThere : MethodName := ⟨R_Tr, "rulesThere", "()I"⟩
abbrev b_Tr_rulesThere : ByteArray := prog_1_method_12_code
def y_Tr_rulesOn : MethodName := ⟨R_Tr, "rulesOn", "()I"⟩
abbrev b_Tr_rulesOn : ByteArray := prog_1_method_13_code
def y_Tr_isWithin : MethodName := ⟨R_Tr, "isWithin", "(II)Z"⟩
abbrev b_Tr_isWithin : ByteArray := prog_1_method_14_code
def y_Tr_mayBeHanded : MethodName := ⟨R_Tr, "mayBeHanded", "(D)Z"⟩
abbrev b_Tr_mayBeHanded : ByteArray := prog_1_method_15_code
def y_Mo_init : MethodName := ⟨R_Mo, "<init>", "()V"⟩
abbrev b_Mo_init : ByteArray := prog_8_method_1_code
def y_Mo_thrown : MethodName := ⟨R_Mo, "thrown", "()I"⟩
abbrev b_Mo_thrown : ByteArray := prog_8_method_2_code
def y_Mo_in : MethodName := ⟨R_Mo, "in", "(III)Z"⟩
abbrev b_Mo_in : ByteArray := prog_8_method_3_code
def y_Mo_bad : MethodName := ⟨R_Mo, "bad", "(Z)Z"⟩
abbrev b_Mo_bad : ByteArray := prog_8_method_4_code
def y_Mo_fail : MethodName := ⟨R_Mo, "fail", "(I)D"⟩
abbrev b_Mo_fail : ByteArray := prog_8_method_5_code
def y_Mo_type : MethodName := ⟨R_Mo, "type", "(J)I"⟩
abbrev b_Mo_type : ByteArray := prog_8_method_6_code
def y_Mo_look : MethodName := ⟨R_Mo, "look", "()I"⟩
abbrev b_Mo_look : ByteArray := prog_8_method_7_code
def y_Mo_passes : MethodName := ⟨R_Mo, "passes", "(I)Z"⟩
abbrev b_Mo_passes : ByteArray := prog_8_method_8_code
def y_Mo_emit : MethodName := ⟨R_Mo, "emit", "(II)V"⟩
abbrev b_Mo_emit : ByteArray := prog_8_method_9_code
def y_Mo_rank : MethodName := ⟨R_Mo, "rank", "(I)I"⟩
abbrev b_Mo_rank : ByteArray := prog_8_method_10_code
def y_Mo_write : MethodName := ⟨R_Mo, "write", "(II)V"⟩
abbrev b_Mo_write : ByteArray := prog_8_method_11_code
def y_Mo_writeMinus : MethodName := ⟨R_Mo, "writeMinus", "(I)I"⟩
abbrev b_Mo_writeMinus : ByteArray := prog_8_method_12_code
def y_Mo_unit : MethodName := ⟨R_Mo, "unit", "()Z"⟩
abbrev b_Mo_unit : ByteArray := prog_8_method_13_code
def y_Mo_expression : MethodName := ⟨R_Mo, "expression", "()Z"⟩
abbrev b_Mo_expression : ByteArray := prog_8_method_14_code
def y_Mo_action : MethodName := ⟨R_Mo, "action", "(I)Z"⟩
abbrev b_Mo_action : ByteArray := prog_8_method_15_code
def y_Mo_rule : MethodName := ⟨R_Mo, "rule", "()Z"⟩
abbrev b_Mo_rule : ByteArray := prog_8_method_16_code
def y_Mo_compile : MethodName := ⟨R_Mo, "compile", "(I)I"⟩
abbrev b_Mo_compile : ByteArray := prog_8_method_17_code
def y_Mo_load : MethodName := ⟨R_Mo, "load", "(I)D"⟩
abbrev b_Mo_load : ByteArray := prog_8_method_18_code
def y_Mo_reckon : MethodName := ⟨R_Mo, "reckon", "(IDD)D"⟩
abbrev b_Mo_reckon : ByteArray := prog_8_method_19_code
def y_Mo_value : MethodName := ⟨R_Mo, "value", "(I)D"⟩
abbrev b_Mo_value : ByteArray := prog_8_method_20_code
def y_Mo_binOf : MethodName := ⟨R_Mo, "binOf", "(D)I"⟩
abbrev b_Mo_binOf : ByteArray := prog_8_method_21_code
def y_Mo_find : MethodName := ⟨R_Mo, "find", "(II)I"⟩
abbrev b_Mo_find : ByteArray := prog_8_method_22_code
def y_Mo_gather : MethodName := ⟨R_Mo, "gather", "(IID)V"⟩
abbrev b_Mo_gather : ByteArray := prog_8_method_23_code
def y_Mo_put : MethodName := ⟨R_Mo, "put", "(D)V"⟩
abbrev b_Mo_put : ByteArray := prog_8_method_24_code
def y_Mo_perform : MethodName := ⟨R_Mo, "perform", "(I)Z"⟩
abbrev b_Mo_perform : ByteArray := prog_8_method_25_code
def y_Mo_doRule : MethodName := ⟨R_Mo, "doRule", "(I)V"⟩
abbrev b_Mo_doRule : ByteArray := prog_8_method_26_code
def y_Mo_fire : MethodName := ⟨R_Mo, "fire", "(IZIDDD)I"⟩
abbrev b_Mo_fire : ByteArray := prog_8_method_27_code
def y_Mo_fits : MethodName := ⟨R_Mo, "fits", "(D)Z"⟩
abbrev b_Mo_fits : ByteArray := prog_8_method_28_code
def y_Mo_turn : MethodName := ⟨R_Mo, "turn", "(IZ)I"⟩
abbrev b_Mo_turn : ByteArray := prog_8_method_29_code
def y_Mo_rulesOn : MethodName := ⟨R_Mo, "rulesOn", "()I"⟩
abbrev b_Mo_rulesOn : ByteArray := prog_8_method_30_code
def y_Mo_tick : MethodName := ⟨R_Mo, "tick", "(I)I"⟩
abbrev b_Mo_tick : ByteArray := prog_8_method_31_code
def y_Mo_variable : MethodName := ⟨R_Mo, "variable", "(II)D"⟩
abbrev b_Mo_variable : ByteArray := prog_8_method_32_code
def y_Mo_gathered : MethodName := ⟨R_Mo, "gathered", "(III)D"⟩
abbrev b_Mo_gathered : ByteArray := prog_8_method_33_code
def y_Mo_many : MethodName := ⟨R_Mo, "many", "(III)I"⟩
abbrev b_Mo_many : ByteArray := prog_8_method_34_code
def y_Mo_record : MethodName := ⟨R_Mo, "record", "()D"⟩
abbrev b_Mo_record : ByteArray := prog_8_method_35_code
def y_Mo_count : MethodName := ⟨R_Mo, "count", "(I)I"⟩
abbrev b_Mo_count : ByteArray := prog_8_method_36_code
def y_Ga_init : MethodName := ⟨R_Ga, "<init>", "()V"⟩
abbrev b_Ga_init : ByteArray := prog_2_method_1_code
def y_Ga_rowOf : MethodName := ⟨R_Ga, "rowOf", "(I)I"⟩
abbrev b_Ga_rowOf : ByteArray := prog_2_method_2_code
def y_Ga_rowFor : MethodName := ⟨R_Ga, "rowFor", "(I)I"⟩
abbrev b_Ga_rowFor : ByteArray := prog_2_method_3_code
def y_Ga_add : MethodName := ⟨R_Ga, "add", "(ID)V"⟩
abbrev b_Ga_add : ByteArray := prog_2_method_4_code
def y_Ga_figure : MethodName := ⟨R_Ga, "figure", "(II)D"⟩
abbrev b_Ga_figure : ByteArray := prog_2_method_5_code
def y_Ga_binOf : MethodName := ⟨R_Ga, "binOf", "(D)I"⟩
abbrev b_Ga_binOf : ByteArray := prog_2_method_6_code
def y_Re_init : MethodName := ⟨R_Re, "<init>", "()V"⟩
abbrev b_Re_init : ByteArray := prog_3_method_1_code
def y_Re_put : MethodName := ⟨R_Re, "put", "(D)V"⟩
abbrev b_Re_put : ByteArray := prog_3_method_2_code
def y_Re_take : MethodName := ⟨R_Re, "take", "()D"⟩
abbrev b_Re_take : ByteArray := prog_3_method_3_code
def y_Ru_init : MethodName := ⟨R_Ru, "<init>", "()V"⟩
abbrev b_Ru_init : ByteArray := prog_4_method_1_code
def y_Ru_clear : MethodName := ⟨R_Ru, "clear", "()V"⟩
abbrev b_Ru_clear : ByteArray := prog_4_method_2_code
def y_Ru_add : MethodName := ⟨R_Ru, "add", "(I)V"⟩
abbrev b_Ru_add : ByteArray := prog_4_method_3_code
def y_Ru_isDoneAt : MethodName := ⟨R_Ru, "isDoneAt", "(IZ)Z"⟩
abbrev b_Ru_isDoneAt : ByteArray := prog_4_method_4_code
def y_Te_init : MethodName := ⟨R_Te, "<init>", "()V"⟩
abbrev b_Te_init : ByteArray := prog_5_method_1_code
def y_Te_mayHold : MethodName := ⟨R_Te, "mayHold", "(J)Z"⟩
abbrev b_Te_mayHold : ByteArray := prog_5_method_2_code
def y_Te_hasRoomFor : MethodName := ⟨R_Te, "hasRoomFor", "(J)Z"⟩
abbrev b_Te_hasRoomFor : ByteArray := prog_5_method_3_code
def y_Te_add : MethodName := ⟨R_Te, "add", "(J)V"⟩
abbrev b_Te_add : ByteArray := prog_5_method_4_code
def y_Te_empty : MethodName := ⟨R_Te, "empty", "()V"⟩
abbrev b_Te_empty : ByteArray := prog_5_method_5_code
def y_Te_read : MethodName := ⟨R_Te, "read", "()Z"⟩
abbrev b_Te_read : ByteArray := prog_5_method_6_code
def y_Te_readHead : MethodName := ⟨R_Te, "readHead", "()Z"⟩
abbrev b_Te_readHead : ByteArray := prog_5_method_7_code
def y_Te_readAction : MethodName := ⟨R_Te, "readAction", "()Z"⟩
abbrev b_Te_readAction : ByteArray := prog_5_method_8_code
def y_Te_readGathering : MethodName := ⟨R_Te, "readGathering", "()Z"⟩
abbrev b_Te_readGathering : ByteArray := prog_5_method_9_code
def y_Te_readLevel : MethodName := ⟨R_Te, "readLevel", "(II)Z"⟩
abbrev b_Te_readLevel : ByteArray := prog_5_method_10_code
def y_Te_readUnit : MethodName := ⟨R_Te, "readUnit", "(I)Z"⟩
abbrev b_Te_readUnit : ByteArray := prog_5_method_11_code
def y_Te_readNumber : MethodName := ⟨R_Te, "readNumber", "()V"⟩
abbrev b_Te_readNumber : ByteArray := prog_5_method_12_code
def y_Te_next : MethodName := ⟨R_Te, "next", "()C"⟩
abbrev b_Te_next : ByteArray := prog_5_method_13_code
def y_Te_pass : MethodName := ⟨R_Te, "pass", "(C)Z"⟩
abbrev b_Te_pass : ByteArray := prog_5_method_14_code
def y_Te_byteAt : MethodName := ⟨R_Te, "byteAt", "(JI)I"⟩
abbrev b_Te_byteAt : ByteArray := prog_5_method_15_code
def y_Te_levelOf : MethodName := ⟨R_Te, "levelOf", "(C)I"⟩
abbrev b_Te_levelOf : ByteArray := prog_5_method_16_code
def y_Te_isDigit : MethodName := ⟨R_Te, "isDigit", "(C)Z"⟩
abbrev b_Te_isDigit : ByteArray := prog_5_method_17_code
def y_Te_isName : MethodName := ⟨R_Te, "isName", "(C)Z"⟩
abbrev b_Te_isName : ByteArray := prog_5_method_18_code
def y_Rn_init : MethodName := ⟨R_Rn, "<init>", "()V"⟩
abbrev b_Rn_init : ByteArray := prog_6_method_1_code
def y_Rn_hand : MethodName := ⟨R_Rn, "hand", "(IDDD)V"⟩
abbrev b_Rn_hand : ByteArray := prog_6_method_2_code
def y_Rn_run : MethodName := ⟨R_Rn, "run", "(LRuleTracer$Rule;)Z"⟩
abbrev b_Rn_run : ByteArray := prog_6_method_3_code
def y_Rn_get : MethodName := ⟨R_Rn, "get", "(II)D"⟩
abbrev b_Rn_get : ByteArray := prog_6_method_4_code
def y_Rn_doStep : MethodName := ⟨R_Rn, "doStep", "(I)V"⟩
abbrev b_Rn_doStep : ByteArray := prog_6_method_5_code
def y_Rn_doCharacter : MethodName := ⟨R_Rn, "doCharacter", "(I)V"⟩
abbrev b_Rn_doCharacter : ByteArray := prog_6_method_6_code
def y_Rn_operate : MethodName := ⟨R_Rn, "operate", "(I)V"⟩
abbrev b_Rn_operate : ByteArray := prog_6_method_7_code
def y_Rn_pushOutcome : MethodName := ⟨R_Rn, "pushOutcome", "(D)V"⟩
abbrev b_Rn_pushOutcome : ByteArray := prog_6_method_8_code
def y_Rn_set : MethodName := ⟨R_Rn, "set", "(ID)V"⟩
abbrev b_Rn_set : ByteArray := prog_6_method_9_code
def y_Rn_gather : MethodName := ⟨R_Rn, "gather", "(LRuleTracer$Gatherer;)V"⟩
abbrev b_Rn_gather : ByteArray := prog_6_method_10_code
def y_Rn_fail : MethodName := ⟨R_Rn, "fail", "()V"⟩
abbrev b_Rn_fail : ByteArray := prog_6_method_11_code
def y_Rn_push : MethodName := ⟨R_Rn, "push", "(D)V"⟩
abbrev b_Rn_push : ByteArray := prog_6_method_12_code
def y_Rn_pop : MethodName := ⟨R_Rn, "pop", "()D"⟩
abbrev b_Rn_pop : ByteArray := prog_6_method_13_code
def y_Rn_slotOf : MethodName := ⟨R_Rn, "slotOf", "(II)I"⟩
abbrev b_Rn_slotOf : ByteArray := prog_6_method_14_code
def y_Rn_isOutOfBounds : MethodName := ⟨R_Rn, "isOutOfBounds", "(D)Z"⟩
abbrev b_Rn_isOutOfBounds : ByteArray := prog_6_method_15_code
def y_La_type : MethodName := ⟨R_La, "type", "(LRuleTracer;J[J)I"⟩
abbrev b_La_type : ByteArray := method_3_code
def y_La_compile : MethodName := ⟨R_La, "compile", "(LRuleTracer;I[J)I"⟩
abbrev b_La_compile : ByteArray := method_4_code
def y_La_turn : MethodName := ⟨R_La, "turn", "(LRuleTracer;IZ[J)I"⟩
abbrev b_La_turn : ByteArray := method_5_code
def y_La_fire : MethodName := ⟨R_La, "fire", "(LRuleTracer;IZIDDD[J)I"⟩
abbrev b_La_fire : ByteArray := method_6_code
def y_La_tick : MethodName := ⟨R_La, "tick", "(LRuleTracer;I[J)I"⟩
abbrev b_La_tick : ByteArray := method_7_code
def y_La_variable : MethodName := ⟨R_La, "variable", "(LRuleTracer;II[D)I"⟩
abbrev b_La_variable : ByteArray := method_8_code
def y_La_gathered : MethodName := ⟨R_La, "gathered", "(LRuleTracer;III[D)I"⟩
abbrev b_La_gathered : ByteArray := method_9_code
def y_La_many : MethodName := ⟨R_La, "many", "(LRuleTracer;III[J)I"⟩
abbrev b_La_many : ByteArray := method_10_code
def y_La_record : MethodName := ⟨R_La, "record", "(LRuleTracer;[D)I"⟩
abbrev b_La_record : ByteArray := method_11_code
def y_La_law : MethodName := ⟨R_La, "law", "([I)Z"⟩
abbrev b_La_law : ByteArray := code
-- the words, by their places
theorem wz_La : Cond.initialized R_La ∈ zWT := z_in1 (List.mem_of_getElem? (i := 0) rfl) rfl
theorem wz_Tr : Cond.initialized R_Tr ∈ zWT := z_in1 (List.mem_of_getElem? (i := 1) rfl) rfl
theorem wz_Te : Cond.initialized R_Te ∈ zWT := z_in1 (List.mem_of_getElem? (i := 2) rfl) rfl
theorem wz_Ru : Cond.initialized R_Ru ∈ zWT := z_in1 (List.mem_of_getElem? (i := 3) rfl) rfl
theorem wz_Rn : Cond.initialized R_Rn ∈ zWT := z_in1 (List.mem_of_getElem? (i := 4) rfl) rfl
theorem wz_Re : Cond.initialized R_Re ∈ zWT := z_in1 (List.mem_of_getElem? (i := 5) rfl) rfl
theorem wz_Ga : Cond.initialized R_Ga ∈ zWT := z_in1 (List.mem_of_getElem? (i := 6) rfl) rfl
theorem wz_Mo : Cond.initialized R_Mo ∈ zWT := z_in1 (List.mem_of_getElem? (i := 7) rfl) rfl
theorem wc_La_8 : Cond.classLink R_La 8 R_Tr ∈ zWT := z_in1 (List.mem_of_getElem? (i := 14) rfl) rfl
theorem wn_Tr : Cond.instantiable R_Tr 5 ∈ zWT := z_in1 (List.mem_of_getElem? (i := 15) rfl) rfl
theorem wl_La_50 : Cond.methodLink R_La 50 y_Tr_init ∈ zWT := z_in1 (List.mem_of_getElem? (i := 16) rfl) rfl
theorem wi_Tr_init : Cond.instanceMethod y_Tr_init ∈ zWT := z_in1 (List.mem_of_getElem? (i := 17) rfl) rfl
theorem wk_Tr_init : Cond.code y_Tr_init prog_1_method_1_code 2 none ∈ zWT := z_in1 (List.mem_of_getElem? (i := 18) rfl) rfl
theorem wl_Tr_1 : Cond.methodLink R_Tr 1 Lib.objectInit ∈ zWT := z_in1 (List.mem_of_getElem? (i := 19) rfl) rfl
theorem wi_obj : Cond.instanceMethod Lib.objectInit ∈ zWT := z_in1 (List.mem_of_getElem? (i := 20) rfl) rfl
theorem wk_obj : Cond.code Lib.objectInit ⟨#[0xb1]⟩ 1 none ∈ zWT := z_in1 (List.mem_of_getElem? (i := 21) rfl) rfl
theorem wc_Tr_7 : Cond.classLink R_Tr 7 R_Te ∈ zWT := z_in1 (List.mem_of_getElem? (i := 22) rfl) rfl
theorem wn_Te : Cond.instantiable R_Te 4 ∈ zWT := z_in1 (List.mem_of_getElem? (i := 23) rfl) rfl
theorem wi_Te_init : Cond.instanceMethod y_Te_init ∈ zWT := z_in1 (List.mem_of_getElem? (i := 25) rfl) rfl
theorem wk_Te_init : Cond.code y_Te_init prog_5_method_1_code 1 none ∈ zWT := z_in1 (List.mem_of_getElem? (i := 26) rfl) rfl
theorem wl_Te_3 : Cond.methodLink R_Te 3 Lib.objectInit ∈ zWT := z_in1 (List.mem_of_getElem? (i := 27) rfl) rfl
theorem wc_Te_15 : Cond.classLink R_Te 15 R_Ru ∈ zWT := z_in1 (List.mem_of_getElem? (i := 28) rfl) rfl
theorem wn_Ru : Cond.instantiable R_Ru 10 ∈ zWT := z_in1 (List.mem_of_getElem? (i := 29) rfl) rfl
theorem wi_Ru_init : Cond.instanceMethod y_Ru_init ∈ zWT := z_in1 (List.mem_of_getElem? (i := 31) rfl) rfl
theorem wk_Ru_init : Cond.code y_Ru_init prog_4_method_1_code 1 none ∈ zWT := z_in1 (List.mem_of_getElem? (i := 32) rfl) rfl
theorem wl_Ru_3 : Cond.methodLink R_Ru 3 Lib.objectInit ∈ zWT := z_in1 (List.mem_of_getElem? (i := 33) rfl) rfl
theorem wf_Ru_9 : Cond.fieldLink R_Ru 9 "RuleTracer$Rule" "steps" "[I" ∈ zWT := z_in1 (List.mem_of_getElem? (i := 34) rfl) rfl
theorem wf_Rn_73 : Cond.fieldLink R_Rn 73 "RuleTracer$Rule" "steps" "[I" ∈ zWT := z_in1 (List.mem_of_getElem? (i := 35) rfl) rfl
theorem wf_Ru_15 : Cond.fieldLink R_Ru 15 "RuleTracer$Rule" "length" "I" ∈ zWT := z_in1 (List.mem_of_getElem? (i := 36) rfl) rfl
theorem wf_Rn_70 : Cond.fieldLink R_Rn 70 "RuleTracer$Rule" "length" "I" ∈ zWT := z_in1 (List.mem_of_getElem? (i := 37) rfl) rfl
theorem wf_Ru_19 : Cond.fieldLink R_Ru 19 "RuleTracer$Rule" "actions" "I" ∈ zWT := z_in1 (List.mem_of_getElem? (i := 38) rfl) rfl
theorem wf_Tr_86 : Cond.fieldLink R_Tr 86 "RuleTracer$Rule" "actions" "I" ∈ zWT := z_in1 (List.mem_of_getElem? (i := 39) rfl) rfl
theorem wf_Te_43 : Cond.fieldLink R_Te 43 "RuleTracer$Rule" "actions" "I" ∈ zWT := z_in1 (List.mem_of_getElem? (i := 40) rfl) rfl
theorem wf_Ru_22 : Cond.fieldLink R_Ru 22 "RuleTracer$Rule" "site" "I" ∈ zWT := z_in1 (List.mem_of_getElem? (i := 41) rfl) rfl
theorem wf_Te_58 : Cond.fieldLink R_Te 58 "RuleTracer$Rule" "site" "I" ∈ zWT := z_in1 (List.mem_of_getElem? (i := 42) rfl) rfl
theorem wf_Ru_25 : Cond.fieldLink R_Ru 25 "RuleTracer$Rule" "exit" "Z" ∈ zWT := z_in1 (List.mem_of_getElem? (i := 43) rfl) rfl
theorem wf_Te_54 : Cond.fieldLink R_Te 54 "RuleTracer$Rule" "exit" "Z" ∈ zWT := z_in1 (List.mem_of_getElem? (i := 44) rfl) rfl
theorem wf_Ru_29 : Cond.fieldLink R_Ru 29 "RuleTracer$Rule" "conditional" "Z" ∈ zWT := z_in1 (List.mem_of_getElem? (i := 45) rfl) rfl
theorem wf_Rn_65 : Cond.fieldLink R_Rn 65 "RuleTracer$Rule" "conditional" "Z" ∈ zWT := z_in1 (List.mem_of_getElem? (i := 46) rfl) rfl
theorem wf_Te_68 : Cond.fieldLink R_Te 68 "RuleTracer$Rule" "conditional" "Z" ∈ zWT := z_in1 (List.mem_of_getElem? (i := 47) rfl) rfl
theorem wf_Ru_32 : Cond.fieldLink R_Ru 32 "RuleTracer$Rule" "there" "Z" ∈ zWT := z_in1 (List.mem_of_getElem? (i := 48) rfl) rfl
theorem wf_Tr_82 : Cond.fieldLink R_Tr 82 "RuleTracer$Rule" "there" "Z" ∈ zWT := z_in1 (List.mem_of_getElem? (i := 49) rfl) rfl
theorem wf_Ru_35 : Cond.fieldLink R_Ru 35 "RuleTracer$Rule" "on" "Z" ∈ zWT := z_in1 (List.mem_of_getElem? (i := 50) rfl) rfl
theorem wf_Tr_94 : Cond.fieldLink R_Tr 94 "RuleTracer$Rule" "on" "Z" ∈ zWT := z_in1 (List.mem_of_getElem? (i := 51) rfl) rfl
theorem wf_Ru_38 : Cond.fieldLink R_Ru 38 "RuleTracer$Rule" "failures" "I" ∈ zWT := z_in1 (List.mem_of_getElem? (i := 52) rfl) rfl
theorem wf_Rn_81 : Cond.fieldLink R_Rn 81 "RuleTracer$Rule" "failures" "I" ∈ zWT := z_in1 (List.mem_of_getElem? (i := 53) rfl) rfl
theorem wf_Tr_178 : Cond.fieldLink R_Tr 178 "RuleTracer$Rule" "failures" "I" ∈ zWT := z_in1 (List.mem_of_getElem? (i := 54) rfl) rfl
theorem wf_Ru_41 : Cond.fieldLink R_Ru 41 "RuleTracer$Rule" "meetings" "I" ∈ zWT := z_in1 (List.mem_of_getElem? (i := 55) rfl) rfl
theorem wf_Rn_84 : Cond.fieldLink R_Rn 84 "RuleTracer$Rule" "meetings" "I" ∈ zWT := z_in1 (List.mem_of_getElem? (i := 56) rfl) rfl
theorem wf_Tr_181 : Cond.fieldLink R_Tr 181 "RuleTracer$Rule" "meetings" "I" ∈ zWT := z_in1 (List.mem_of_getElem? (i := 57) rfl) rfl
theorem wa_char : Cond.arrayClass .char ∈ zWT := z_in1 (List.mem_of_getElem? (i := 79) rfl) rfl
theorem wa_int : Cond.arrayClass .int ∈ zWT := z_in1 (List.mem_of_getElem? (i := 80) rfl) rfl
theorem wf_Te_9 : Cond.fieldLink R_Te 9 "RuleTracer$RuleText" "characters" "[C" ∈ zWT := z_in1 (List.mem_of_getElem? (i := 81) rfl) rfl
theorem wf_Te_18 : Cond.fieldLink R_Te 18 "RuleTracer$RuleText" "draft" "LRuleTracer$Rule;" ∈ zWT := z_in1 (List.mem_of_getElem? (i := 82) rfl) rfl
theorem wf_Tr_78 : Cond.fieldLink R_Tr 78 "RuleTracer$RuleText" "draft" "LRuleTracer$Rule;" ∈ zWT := z_in1 (List.mem_of_getElem? (i := 83) rfl) rfl
theorem wf_Te_22 : Cond.fieldLink R_Te 22 "RuleTracer$RuleText" "length" "I" ∈ zWT := z_in1 (List.mem_of_getElem? (i := 84) rfl) rfl
theorem wf_Tr_57 : Cond.fieldLink R_Tr 57 "RuleTracer$RuleText" "length" "I" ∈ zWT := z_in1 (List.mem_of_getElem? (i := 85) rfl) rfl
theorem wf_Te_26 : Cond.fieldLink R_Te 26 "RuleTracer$RuleText" "at" "I" ∈ zWT := z_in1 (List.mem_of_getElem? (i := 86) rfl) rfl
theorem wf_Tr_73 : Cond.fieldLink R_Tr 73 "RuleTracer$RuleText" "at" "I" ∈ zWT := z_in1 (List.mem_of_getElem? (i := 87) rfl) rfl
theorem wc_Tr_16 : Cond.classLink R_Tr 16 R_Ru ∈ zWT := z_in1 (List.mem_of_getElem? (i := 97) rfl) rfl
theorem wc_Tr_23 : Cond.classLink R_Tr 23 R_Rn ∈ zWT := z_in1 (List.mem_of_getElem? (i := 100) rfl) rfl
theorem wn_Rn : Cond.instantiable R_Rn 14 ∈ zWT := z_in1 (List.mem_of_getElem? (i := 101) rfl) rfl
theorem wl_Tr_25 : Cond.methodLink R_Tr 25 y_Rn_init ∈ zWT := z_in1 (List.mem_of_getElem? (i := 102) rfl) rfl
theorem wi_Rn_init : Cond.instanceMethod y_Rn_init ∈ zWT := z_in1 (List.mem_of_getElem? (i := 103) rfl) rfl
theorem wk_Rn_init : Cond.code y_Rn_init prog_6_method_1_code 2 none ∈ zWT := z_in1 (List.mem_of_getElem? (i := 104) rfl) rfl
theorem wl_Rn_3 : Cond.methodLink R_Rn 3 Lib.objectInit ∈ zWT := z_in1 (List.mem_of_getElem? (i := 105) rfl) rfl
theorem wc_Rn_18 : Cond.classLink R_Rn 18 R_Ga ∈ zWT := z_in1 (List.mem_of_getElem? (i := 106) rfl) rfl
theorem wc_Rn_24 : Cond.classLink R_Rn 24 R_Re ∈ zWT := z_in1 (List.mem_of_getElem? (i := 108) rfl) rfl
theorem wn_Re : Cond.instantiable R_Re 4 ∈ zWT := z_in1 (List.mem_of_getElem? (i := 109) rfl) rfl
theorem wi_Re_init : Cond.instanceMethod y_Re_init ∈ zWT := z_in1 (List.mem_of_getElem? (i := 111) rfl) rfl
theorem wk_Re_init : Cond.code y_Re_init prog_3_method_1_code 1 none ∈ zWT := z_in1 (List.mem_of_getElem? (i := 112) rfl) rfl
theorem wl_Re_3 : Cond.methodLink R_Re 3 Lib.objectInit ∈ zWT := z_in1 (List.mem_of_getElem? (i := 113) rfl) rfl
theorem wf_Re_9 : Cond.fieldLink R_Re 9 "RuleTracer$Records" "ring" "[D" ∈ zWT := z_in1 (List.mem_of_getElem? (i := 114) rfl) rfl
theorem wf_Re_15 : Cond.fieldLink R_Re 15 "RuleTracer$Records" "oldest" "I" ∈ zWT := z_in1 (List.mem_of_getElem? (i := 115) rfl) rfl
theorem wf_Re_19 : Cond.fieldLink R_Re 19 "RuleTracer$Records" "size" "I" ∈ zWT := z_in1 (List.mem_of_getElem? (i := 116) rfl) rfl
theorem wf_Tr_167 : Cond.fieldLink R_Tr 167 "RuleTracer$Records" "size" "I" ∈ zWT := z_in1 (List.mem_of_getElem? (i := 117) rfl) rfl
theorem wf_Re_22 : Cond.fieldLink R_Re 22 "RuleTracer$Records" "lost" "I" ∈ zWT := z_in1 (List.mem_of_getElem? (i := 118) rfl) rfl
theorem wf_Tr_188 : Cond.fieldLink R_Tr 188 "RuleTracer$Records" "lost" "I" ∈ zWT := z_in1 (List.mem_of_getElem? (i := 119) rfl) rfl
theorem wa_double : Cond.arrayClass .double ∈ zWT := z_in1 (List.mem_of_getElem? (i := 129) rfl) rfl
theorem wn_Ga : Cond.instantiable R_Ga 7 ∈ zWT := z_in1 (List.mem_of_getElem? (i := 130) rfl) rfl
theorem wi_Ga_init : Cond.instanceMethod y_Ga_init ∈ zWT := z_in1 (List.mem_of_getElem? (i := 132) rfl) rfl
theorem wk_Ga_init : Cond.code y_Ga_init prog_2_method_1_code 1 none ∈ zWT := z_in1 (List.mem_of_getElem? (i := 133) rfl) rfl
theorem wl_Ga_3 : Cond.methodLink R_Ga 3 Lib.objectInit ∈ zWT := z_in1 (List.mem_of_getElem? (i := 134) rfl) rfl
theorem wf_Ga_9 : Cond.fieldLink R_Ga 9 "RuleTracer$Gatherer" "keys" "[I" ∈ zWT := z_in1 (List.mem_of_getElem? (i := 135) rfl) rfl
theorem wf_Ga_15 : Cond.fieldLink R_Ga 15 "RuleTracer$Gatherer" "least" "[D" ∈ zWT := z_in1 (List.mem_of_getElem? (i := 136) rfl) rfl
theorem wf_Ga_19 : Cond.fieldLink R_Ga 19 "RuleTracer$Gatherer" "greatest" "[D" ∈ zWT := z_in1 (List.mem_of_getElem? (i := 137) rfl) rfl
theorem wf_Ga_22 : Cond.fieldLink R_Ga 22 "RuleTracer$Gatherer" "sums" "[D" ∈ zWT := z_in1 (List.mem_of_getElem? (i := 138) rfl) rfl
theorem wf_Rn_138 : Cond.fieldLink R_Rn 138 "RuleTracer$Gatherer" "sums" "[D" ∈ zWT := z_in1 (List.mem_of_getElem? (i := 139) rfl) rfl
theorem wf_Ga_25 : Cond.fieldLink R_Ga 25 "RuleTracer$Gatherer" "values" "[I" ∈ zWT := z_in1 (List.mem_of_getElem? (i := 140) rfl) rfl
theorem wf_Tr_156 : Cond.fieldLink R_Tr 156 "RuleTracer$Gatherer" "values" "[I" ∈ zWT := z_in1 (List.mem_of_getElem? (i := 141) rfl) rfl
theorem wf_Ga_28 : Cond.fieldLink R_Ga 28 "RuleTracer$Gatherer" "bins" "[I" ∈ zWT := z_in1 (List.mem_of_getElem? (i := 142) rfl) rfl
theorem wf_Tr_160 : Cond.fieldLink R_Tr 160 "RuleTracer$Gatherer" "bins" "[I" ∈ zWT := z_in1 (List.mem_of_getElem? (i := 143) rfl) rfl
theorem wf_Ga_31 : Cond.fieldLink R_Ga 31 "RuleTracer$Gatherer" "size" "I" ∈ zWT := z_in1 (List.mem_of_getElem? (i := 144) rfl) rfl
theorem wf_Tr_184 : Cond.fieldLink R_Tr 184 "RuleTracer$Gatherer" "size" "I" ∈ zWT := z_in1 (List.mem_of_getElem? (i := 145) rfl) rfl
theorem wf_Rn_9 : Cond.fieldLink R_Rn 9 "RuleTracer$Runner" "stack" "[D" ∈ zWT := z_in1 (List.mem_of_getElem? (i := 161) rfl) rfl
theorem wf_Rn_15 : Cond.fieldLink R_Rn 15 "RuleTracer$Runner" "variables" "[D" ∈ zWT := z_in1 (List.mem_of_getElem? (i := 162) rfl) rfl
theorem wf_Rn_20 : Cond.fieldLink R_Rn 20 "RuleTracer$Runner" "gatherers" "[LRuleTracer$Gatherer;" ∈ zWT := z_in1 (List.mem_of_getElem? (i := 163) rfl) rfl
theorem wf_Tr_139 : Cond.fieldLink R_Tr 139 "RuleTracer$Runner" "gatherers" "[LRuleTracer$Gatherer;" ∈ zWT := z_in1 (List.mem_of_getElem? (i := 164) rfl) rfl
theorem wf_Rn_27 : Cond.fieldLink R_Rn 27 "RuleTracer$Runner" "records" "LRuleTracer$Records;" ∈ zWT := z_in1 (List.mem_of_getElem? (i := 165) rfl) rfl
theorem wf_Tr_163 : Cond.fieldLink R_Tr 163 "RuleTracer$Runner" "records" "LRuleTracer$Records;" ∈ zWT := z_in1 (List.mem_of_getElem? (i := 166) rfl) rfl
theorem wf_Rn_31 : Cond.fieldLink R_Rn 31 "RuleTracer$Runner" "time" "I" ∈ zWT := z_in1 (List.mem_of_getElem? (i := 167) rfl) rfl
theorem wf_Tr_126 : Cond.fieldLink R_Tr 126 "RuleTracer$Runner" "time" "I" ∈ zWT := z_in1 (List.mem_of_getElem? (i := 168) rfl) rfl
theorem wf_Rn_35 : Cond.fieldLink R_Rn 35 "RuleTracer$Runner" "dropped" "I" ∈ zWT := z_in1 (List.mem_of_getElem? (i := 169) rfl) rfl
theorem wf_Tr_191 : Cond.fieldLink R_Tr 191 "RuleTracer$Runner" "dropped" "I" ∈ zWT := z_in1 (List.mem_of_getElem? (i := 170) rfl) rfl
theorem wf_Rn_38 : Cond.fieldLink R_Rn 38 "RuleTracer$Runner" "thread" "I" ∈ zWT := z_in1 (List.mem_of_getElem? (i := 171) rfl) rfl
theorem wf_Rn_41 : Cond.fieldLink R_Rn 41 "RuleTracer$Runner" "handedA" "D" ∈ zWT := z_in1 (List.mem_of_getElem? (i := 172) rfl) rfl
theorem wf_Rn_45 : Cond.fieldLink R_Rn 45 "RuleTracer$Runner" "handedB" "D" ∈ zWT := z_in1 (List.mem_of_getElem? (i := 173) rfl) rfl
theorem wf_Rn_48 : Cond.fieldLink R_Rn 48 "RuleTracer$Runner" "handedC" "D" ∈ zWT := z_in1 (List.mem_of_getElem? (i := 174) rfl) rfl
theorem wf_Rn_51 : Cond.fieldLink R_Rn 51 "RuleTracer$Runner" "top" "I" ∈ zWT := z_in1 (List.mem_of_getElem? (i := 175) rfl) rfl
theorem wf_Rn_54 : Cond.fieldLink R_Rn 54 "RuleTracer$Runner" "over" "Z" ∈ zWT := z_in1 (List.mem_of_getElem? (i := 176) rfl) rfl
theorem wf_Rn_58 : Cond.fieldLink R_Rn 58 "RuleTracer$Runner" "failed" "Z" ∈ zWT := z_in1 (List.mem_of_getElem? (i := 177) rfl) rfl
theorem wf_Rn_61 : Cond.fieldLink R_Rn 61 "RuleTracer$Runner" "met" "Z" ∈ zWT := z_in1 (List.mem_of_getElem? (i := 178) rfl) rfl
theorem wf_Tr_10 : Cond.fieldLink R_Tr 10 "RuleTracer" "text" "LRuleTracer$RuleText;" ∈ zWT := z_in1 (List.mem_of_getElem? (i := 208) rfl) rfl
theorem wf_Tr_18 : Cond.fieldLink R_Tr 18 "RuleTracer" "rules" "[LRuleTracer$Rule;" ∈ zWT := z_in1 (List.mem_of_getElem? (i := 209) rfl) rfl
theorem wf_Tr_26 : Cond.fieldLink R_Tr 26 "RuleTracer" "runner" "LRuleTracer$Runner;" ∈ zWT := z_in1 (List.mem_of_getElem? (i := 210) rfl) rfl
theorem wf_Tr_30 : Cond.fieldLink R_Tr 30 "RuleTracer" "place" "I" ∈ zWT := z_in1 (List.mem_of_getElem? (i := 211) rfl) rfl
theorem wf_Tr_121 : Cond.fieldLink R_Tr 121 "RuleTracer" "firings" "I" ∈ zWT := z_in1 (List.mem_of_getElem? (i := 212) rfl) rfl
theorem wl_La_99 : Cond.methodLink R_La 99 y_Tr_count ∈ zWT := z_in1 (List.mem_of_getElem? (i := 224) rfl) rfl
theorem wi_Tr_count : Cond.instanceMethod y_Tr_count ∈ zWT := z_in1 (List.mem_of_getElem? (i := 225) rfl) rfl
theorem wv_Tr_count : Cond.selects R_Tr y_Tr_count y_Tr_count ∈ zWT := z_in1 (List.mem_of_getElem? (i := 226) rfl) rfl
theorem wk_Tr_count : Cond.code y_Tr_count prog_1_method_11_code 2 (some .int) ∈ zWT := z_in1 (List.mem_of_getElem? (i := 227) rfl) rfl
theorem wl_Tr_185 : Cond.methodLink R_Tr 185 y_Tr_rulesThere ∈ zWT := z_in1 (List.mem_of_getElem? (i := 228) rfl) rfl
theorem wi_Tr_rulesThere : Cond.instanceMethod y_Tr_rulesThere ∈ zWT := z_in1 (List.mem_of_getElem? (i := 230) rfl) rfl
theorem wk_Tr_rulesThere : Cond.code y_Tr_rulesThere prog_1_method_12_code 3 (some .int) ∈ zWT := z_in1 (List.mem_of_getElem? (i := 231) rfl) rfl
theorem wl_Tr_97 : Cond.methodLink R_Tr 97 y_Tr_rulesOn ∈ zWT := z_in1 (List.mem_of_getElem? (i := 232) rfl) rfl
theorem wi_Tr_rulesOn : Cond.instanceMethod y_Tr_rulesOn ∈ zWT := z_in1 (List.mem_of_getElem? (i := 234) rfl) rfl
theorem wk_Tr_rulesOn : Cond.code y_Tr_rulesOn prog_1_method_13_code 3 (some .int) ∈ zWT := z_in1 (List.mem_of_getElem? (i := 235) rfl) rfl
theorem wl_La_56 : Cond.methodLink R_La 56 y_La_type ∈ zWT := z_in1 (List.mem_of_getElem? (i := 236) rfl) rfl
theorem ws_La_type : Cond.static y_La_type ∈ zWT := z_in1 (List.mem_of_getElem? (i := 237) rfl) rfl
theorem wc_La_13 : Cond.classLink R_La 13 "java/lang/IllegalArgumentException" ∈ zWT := z_in1 (List.mem_of_getElem? (i := 239) rfl) rfl
theorem wc_La_15 : Cond.classLink R_La 15 "java/lang/IllegalStateException" ∈ zWT := z_in2 (List.mem_of_getElem? (i := 0) rfl) rfl
theorem wl_La_7 : Cond.methodLink R_La 7 y_Tr_type ∈ zWT := z_in2 (List.mem_of_getElem? (i := 1) rfl) rfl
theorem wi_Tr_type : Cond.instanceMethod y_Tr_type ∈ zWT := z_in2 (List.mem_of_getElem? (i := 2) rfl) rfl
theorem wv_Tr_type : Cond.selects R_Tr y_Tr_type y_Tr_type ∈ zWT := z_in2 (List.mem_of_getElem? (i := 3) rfl) rfl
theorem wk_Tr_type : Cond.code y_Tr_type prog_1_method_2_code 3 (some .int) ∈ zWT := z_in2 (List.mem_of_getElem? (i := 4) rfl) rfl
theorem wl_Tr_34 : Cond.methodLink R_Tr 34 y_Te_mayHold ∈ zWT := z_in2 (List.mem_of_getElem? (i := 5) rfl) rfl
theorem wi_Te_mayHold : Cond.instanceMethod y_Te_mayHold ∈ zWT := z_in2 (List.mem_of_getElem? (i := 6) rfl) rfl
theorem wv_Te_mayHold : Cond.selects R_Te y_Te_mayHold y_Te_mayHold ∈ zWT := z_in2 (List.mem_of_getElem? (i := 7) rfl) rfl
theorem wk_Te_mayHold : Cond.code y_Te_mayHold prog_5_method_2_code 5 (some .boolean) ∈ zWT := z_in2 (List.mem_of_getElem? (i := 8) rfl) rfl
theorem wl_Te_29 : Cond.methodLink R_Te 29 y_Te_byteAt ∈ zWT := z_in2 (List.mem_of_getElem? (i := 9) rfl) rfl
theorem ws_Te_byteAt : Cond.static y_Te_byteAt ∈ zWT := z_in2 (List.mem_of_getElem? (i := 10) rfl) rfl
theorem wk_Te_byteAt : Cond.code y_Te_byteAt prog_5_method_15_code 3 (some .int) ∈ zWT := z_in2 (List.mem_of_getElem? (i := 11) rfl) rfl
theorem wc_Tr_38 : Cond.classLink R_Tr 38 "java/lang/IllegalArgumentException" ∈ zWT := z_in2 (List.mem_of_getElem? (i := 12) rfl) rfl
theorem wl_Tr_42 : Cond.methodLink R_Tr 42 ⟨"java/lang/IllegalArgumentException", "<init>", "(Ljava/lang/String;)V"⟩ ∈ zWT := z_in2 (List.mem_of_getElem? (i := 54) rfl) rfl
theorem wa_byte : Cond.arrayClass .byte ∈ zWT := z_in2 (List.mem_of_getElem? (i := 79) rfl) rfl
theorem wl_Tr_45 : Cond.methodLink R_Tr 45 y_Te_hasRoomFor ∈ zWT := z_in2 (List.mem_of_getElem? (i := 80) rfl) rfl
theorem wi_Te_hasRoomFor : Cond.instanceMethod y_Te_hasRoomFor ∈ zWT := z_in2 (List.mem_of_getElem? (i := 81) rfl) rfl
theorem wv_Te_hasRoomFor : Cond.selects R_Te y_Te_hasRoomFor y_Te_hasRoomFor ∈ zWT := z_in2 (List.mem_of_getElem? (i := 82) rfl) rfl
theorem wk_Te_hasRoomFor : Cond.code y_Te_hasRoomFor prog_5_method_3_code 5 (some .boolean) ∈ zWT := z_in2 (List.mem_of_getElem? (i := 83) rfl) rfl
theorem wc_Tr_48 : Cond.classLink R_Tr 48 "java/lang/IllegalStateException" ∈ zWT := z_in2 (List.mem_of_getElem? (i := 84) rfl) rfl
theorem wl_Tr_52 : Cond.methodLink R_Tr 52 ⟨"java/lang/IllegalStateException", "<init>", "(Ljava/lang/String;)V"⟩ ∈ zWT := z_in2 (List.mem_of_getElem? (i := 94) rfl) rfl
theorem wl_Tr_53 : Cond.methodLink R_Tr 53 y_Te_add ∈ zWT := z_in2 (List.mem_of_getElem? (i := 100) rfl) rfl
theorem wi_Te_add : Cond.instanceMethod y_Te_add ∈ zWT := z_in2 (List.mem_of_getElem? (i := 101) rfl) rfl
theorem wv_Te_add : Cond.selects R_Te y_Te_add y_Te_add ∈ zWT := z_in2 (List.mem_of_getElem? (i := 102) rfl) rfl
theorem wk_Te_add : Cond.code y_Te_add prog_5_method_4_code 5 none ∈ zWT := z_in2 (List.mem_of_getElem? (i := 103) rfl) rfl
theorem wl_La_66 : Cond.methodLink R_La 66 y_La_compile ∈ zWT := z_in2 (List.mem_of_getElem? (i := 104) rfl) rfl
theorem ws_La_compile : Cond.static y_La_compile ∈ zWT := z_in2 (List.mem_of_getElem? (i := 105) rfl) rfl
theorem wl_La_17 : Cond.methodLink R_La 17 y_Tr_compile ∈ zWT := z_in2 (List.mem_of_getElem? (i := 107) rfl) rfl
theorem wi_Tr_compile : Cond.instanceMethod y_Tr_compile ∈ zWT := z_in2 (List.mem_of_getElem? (i := 108) rfl) rfl
theorem wv_Tr_compile : Cond.selects R_Tr y_Tr_compile y_Tr_compile ∈ zWT := z_in2 (List.mem_of_getElem? (i := 109) rfl) rfl
theorem wk_Tr_compile : Cond.code y_Tr_compile prog_1_method_3_code 4 (some .int) ∈ zWT := z_in2 (List.mem_of_getElem? (i := 110) rfl) rfl
theorem wl_Tr_60 : Cond.methodLink R_Tr 60 y_Tr_isWithin ∈ zWT := z_in2 (List.mem_of_getElem? (i := 111) rfl) rfl
theorem ws_Tr_isWithin : Cond.static y_Tr_isWithin ∈ zWT := z_in2 (List.mem_of_getElem? (i := 112) rfl) rfl
theorem wk_Tr_isWithin : Cond.code y_Tr_isWithin prog_1_method_14_code 2 (some .boolean) ∈ zWT := z_in2 (List.mem_of_getElem? (i := 113) rfl) rfl
theorem wl_Tr_66 : Cond.methodLink R_Tr 66 y_Te_read ∈ zWT := z_in2 (List.mem_of_getElem? (i := 115) rfl) rfl
theorem wi_Te_read : Cond.instanceMethod y_Te_read ∈ zWT := z_in2 (List.mem_of_getElem? (i := 116) rfl) rfl
theorem wv_Te_read : Cond.selects R_Te y_Te_read y_Te_read ∈ zWT := z_in2 (List.mem_of_getElem? (i := 117) rfl) rfl
theorem wk_Te_read : Cond.code y_Te_read prog_5_method_6_code 2 (some .boolean) ∈ zWT := z_in2 (List.mem_of_getElem? (i := 118) rfl) rfl
theorem wl_Te_33 : Cond.methodLink R_Te 33 y_Ru_clear ∈ zWT := z_in2 (List.mem_of_getElem? (i := 119) rfl) rfl
theorem wi_Ru_clear : Cond.instanceMethod y_Ru_clear ∈ zWT := z_in2 (List.mem_of_getElem? (i := 120) rfl) rfl
theorem wv_Ru_clear : Cond.selects R_Ru y_Ru_clear y_Ru_clear ∈ zWT := z_in2 (List.mem_of_getElem? (i := 121) rfl) rfl
theorem wk_Ru_clear : Cond.code y_Ru_clear prog_4_method_2_code 1 none ∈ zWT := z_in2 (List.mem_of_getElem? (i := 122) rfl) rfl
theorem wl_Te_36 : Cond.methodLink R_Te 36 y_Te_readHead ∈ zWT := z_in2 (List.mem_of_getElem? (i := 123) rfl) rfl
theorem wi_Te_readHead : Cond.instanceMethod y_Te_readHead ∈ zWT := z_in2 (List.mem_of_getElem? (i := 125) rfl) rfl
theorem wk_Te_readHead : Cond.code y_Te_readHead prog_5_method_7_code 1 (some .boolean) ∈ zWT := z_in2 (List.mem_of_getElem? (i := 126) rfl) rfl
theorem wl_Te_50 : Cond.methodLink R_Te 50 y_Te_next ∈ zWT := z_in2 (List.mem_of_getElem? (i := 127) rfl) rfl
theorem wi_Te_next : Cond.instanceMethod y_Te_next ∈ zWT := z_in2 (List.mem_of_getElem? (i := 129) rfl) rfl
theorem wk_Te_next : Cond.code y_Te_next prog_5_method_13_code 1 (some .char) ∈ zWT := z_in2 (List.mem_of_getElem? (i := 130) rfl) rfl
theorem wl_Te_46 : Cond.methodLink R_Te 46 y_Te_pass ∈ zWT := z_in2 (List.mem_of_getElem? (i := 131) rfl) rfl
theorem wi_Te_pass : Cond.instanceMethod y_Te_pass ∈ zWT := z_in2 (List.mem_of_getElem? (i := 133) rfl) rfl
theorem wk_Te_pass : Cond.code y_Te_pass prog_5_method_14_code 2 (some .boolean) ∈ zWT := z_in2 (List.mem_of_getElem? (i := 134) rfl) rfl
theorem wl_Te_65 : Cond.methodLink R_Te 65 y_Te_readLevel ∈ zWT := z_in2 (List.mem_of_getElem? (i := 136) rfl) rfl
theorem wi_Te_readLevel : Cond.instanceMethod y_Te_readLevel ∈ zWT := z_in2 (List.mem_of_getElem? (i := 138) rfl) rfl
theorem wk_Te_readLevel : Cond.code y_Te_readLevel prog_5_method_10_code 6 (some .boolean) ∈ zWT := z_in2 (List.mem_of_getElem? (i := 139) rfl) rfl
theorem wl_Te_78 : Cond.methodLink R_Te 78 y_Te_readUnit ∈ zWT := z_in2 (List.mem_of_getElem? (i := 140) rfl) rfl
theorem wi_Te_readUnit : Cond.instanceMethod y_Te_readUnit ∈ zWT := z_in2 (List.mem_of_getElem? (i := 142) rfl) rfl
theorem wk_Te_readUnit : Cond.code y_Te_readUnit prog_5_method_11_code 3 (some .boolean) ∈ zWT := z_in2 (List.mem_of_getElem? (i := 143) rfl) rfl
theorem wl_Te_86 : Cond.methodLink R_Te 86 y_Te_isDigit ∈ zWT := z_in2 (List.mem_of_getElem? (i := 144) rfl) rfl
theorem ws_Te_isDigit : Cond.static y_Te_isDigit ∈ zWT := z_in2 (List.mem_of_getElem? (i := 145) rfl) rfl
theorem wk_Te_isDigit : Cond.code y_Te_isDigit prog_5_method_17_code 1 (some .boolean) ∈ zWT := z_in2 (List.mem_of_getElem? (i := 146) rfl) rfl
theorem wl_Te_89 : Cond.methodLink R_Te 89 y_Te_readNumber ∈ zWT := z_in2 (List.mem_of_getElem? (i := 147) rfl) rfl
theorem wi_Te_readNumber : Cond.instanceMethod y_Te_readNumber ∈ zWT := z_in2 (List.mem_of_getElem? (i := 149) rfl) rfl
theorem wk_Te_readNumber : Cond.code y_Te_readNumber prog_5_method_12_code 3 none ∈ zWT := z_in2 (List.mem_of_getElem? (i := 150) rfl) rfl
theorem wl_Te_71 : Cond.methodLink R_Te 71 y_Ru_add ∈ zWT := z_in2 (List.mem_of_getElem? (i := 151) rfl) rfl
theorem wi_Ru_add : Cond.instanceMethod y_Ru_add ∈ zWT := z_in2 (List.mem_of_getElem? (i := 152) rfl) rfl
theorem wv_Ru_add : Cond.selects R_Ru y_Ru_add y_Ru_add ∈ zWT := z_in2 (List.mem_of_getElem? (i := 153) rfl) rfl
theorem wk_Ru_add : Cond.code y_Ru_add prog_4_method_3_code 2 none ∈ zWT := z_in2 (List.mem_of_getElem? (i := 154) rfl) rfl
theorem wl_Te_92 : Cond.methodLink R_Te 92 y_Te_isName ∈ zWT := z_in2 (List.mem_of_getElem? (i := 155) rfl) rfl
theorem ws_Te_isName : Cond.static y_Te_isName ∈ zWT := z_in2 (List.mem_of_getElem? (i := 156) rfl) rfl
theorem wk_Te_isName : Cond.code y_Te_isName prog_5_method_18_code 1 (some .boolean) ∈ zWT := z_in2 (List.mem_of_getElem? (i := 157) rfl) rfl
theorem wl_Te_82 : Cond.methodLink R_Te 82 y_Te_levelOf ∈ zWT := z_in2 (List.mem_of_getElem? (i := 158) rfl) rfl
theorem ws_Te_levelOf : Cond.static y_Te_levelOf ∈ zWT := z_in2 (List.mem_of_getElem? (i := 159) rfl) rfl
theorem wk_Te_levelOf : Cond.code y_Te_levelOf prog_5_method_16_code 1 (some .int) ∈ zWT := z_in2 (List.mem_of_getElem? (i := 160) rfl) rfl
theorem wl_Te_40 : Cond.methodLink R_Te 40 y_Te_readAction ∈ zWT := z_in2 (List.mem_of_getElem? (i := 161) rfl) rfl
theorem wi_Te_readAction : Cond.instanceMethod y_Te_readAction ∈ zWT := z_in2 (List.mem_of_getElem? (i := 163) rfl) rfl
theorem wk_Te_readAction : Cond.code y_Te_readAction prog_5_method_8_code 3 (some .boolean) ∈ zWT := z_in2 (List.mem_of_getElem? (i := 164) rfl) rfl
theorem wl_Te_75 : Cond.methodLink R_Te 75 y_Te_readGathering ∈ zWT := z_in2 (List.mem_of_getElem? (i := 165) rfl) rfl
theorem wi_Te_readGathering : Cond.instanceMethod y_Te_readGathering ∈ zWT := z_in2 (List.mem_of_getElem? (i := 167) rfl) rfl
theorem wk_Te_readGathering : Cond.code y_Te_readGathering prog_5_method_9_code 2 (some .boolean) ∈ zWT := z_in2 (List.mem_of_getElem? (i := 168) rfl) rfl
theorem wl_Tr_70 : Cond.methodLink R_Tr 70 y_Te_empty ∈ zWT := z_in2 (List.mem_of_getElem? (i := 169) rfl) rfl
theorem wi_Te_empty : Cond.instanceMethod y_Te_empty ∈ zWT := z_in2 (List.mem_of_getElem? (i := 170) rfl) rfl
theorem wv_Te_empty : Cond.selects R_Te y_Te_empty y_Te_empty ∈ zWT := z_in2 (List.mem_of_getElem? (i := 171) rfl) rfl
theorem wk_Te_empty : Cond.code y_Te_empty prog_5_method_5_code 1 none ∈ zWT := z_in2 (List.mem_of_getElem? (i := 172) rfl) rfl
theorem wl_La_70 : Cond.methodLink R_La 70 y_La_turn ∈ zWT := z_in2 (List.mem_of_getElem? (i := 174) rfl) rfl
theorem ws_La_turn : Cond.static y_La_turn ∈ zWT := z_in2 (List.mem_of_getElem? (i := 175) rfl) rfl
theorem wc_La_25 : Cond.classLink R_La 25 "java/util/NoSuchElementException" ∈ zWT := z_in2 (List.mem_of_getElem? (i := 177) rfl) rfl
theorem wl_La_21 : Cond.methodLink R_La 21 y_Tr_turn ∈ zWT := z_in2 (List.mem_of_getElem? (i := 178) rfl) rfl
theorem wi_Tr_turn : Cond.instanceMethod y_Tr_turn ∈ zWT := z_in2 (List.mem_of_getElem? (i := 179) rfl) rfl
theorem wv_Tr_turn : Cond.selects R_Tr y_Tr_turn y_Tr_turn ∈ zWT := z_in2 (List.mem_of_getElem? (i := 180) rfl) rfl
theorem wk_Tr_turn : Cond.code y_Tr_turn prog_1_method_4_code 3 (some .int) ∈ zWT := z_in2 (List.mem_of_getElem? (i := 181) rfl) rfl
theorem wc_Tr_89 : Cond.classLink R_Tr 89 "java/util/NoSuchElementException" ∈ zWT := z_in2 (List.mem_of_getElem? (i := 182) rfl) rfl
theorem wl_Tr_93 : Cond.methodLink R_Tr 93 ⟨"java/util/NoSuchElementException", "<init>", "(Ljava/lang/String;)V"⟩ ∈ zWT := z_in2 (List.mem_of_getElem? (i := 192) rfl) rfl
theorem wl_La_76 : Cond.methodLink R_La 76 y_La_fire ∈ zWT := z_in2 (List.mem_of_getElem? (i := 198) rfl) rfl
theorem ws_La_fire : Cond.static y_La_fire ∈ zWT := z_in2 (List.mem_of_getElem? (i := 199) rfl) rfl
theorem wl_La_27 : Cond.methodLink R_La 27 y_Tr_fire ∈ zWT := z_in2 (List.mem_of_getElem? (i := 201) rfl) rfl
theorem wi_Tr_fire : Cond.instanceMethod y_Tr_fire ∈ zWT := z_in2 (List.mem_of_getElem? (i := 202) rfl) rfl
theorem wv_Tr_fire : Cond.selects R_Tr y_Tr_fire y_Tr_fire ∈ zWT := z_in2 (List.mem_of_getElem? (i := 203) rfl) rfl
theorem wk_Tr_fire : Cond.code y_Tr_fire prog_1_method_5_code 13 (some .int) ∈ zWT := z_in2 (List.mem_of_getElem? (i := 204) rfl) rfl
theorem wl_Tr_103 : Cond.methodLink R_Tr 103 y_Tr_mayBeHanded ∈ zWT := z_in2 (List.mem_of_getElem? (i := 206) rfl) rfl
theorem ws_Tr_mayBeHanded : Cond.static y_Tr_mayBeHanded ∈ zWT := z_in2 (List.mem_of_getElem? (i := 207) rfl) rfl
theorem wk_Tr_mayBeHanded : Cond.code y_Tr_mayBeHanded prog_1_method_15_code 2 (some .boolean) ∈ zWT := z_in2 (List.mem_of_getElem? (i := 208) rfl) rfl
theorem wd_Tr_194 : Cond.constantDouble R_Tr 194 13875379345695965184 ∈ zWT := z_in2 (List.mem_of_getElem? (i := 209) rfl) rfl
theorem wd_Tr_196 : Cond.constantDouble R_Tr 196 4652007308841189376 ∈ zWT := z_in2 (List.mem_of_getElem? (i := 210) rfl) rfl
theorem wl_Tr_109 : Cond.methodLink R_Tr 109 y_Rn_hand ∈ zWT := z_in2 (List.mem_of_getElem? (i := 212) rfl) rfl
theorem wi_Rn_hand : Cond.instanceMethod y_Rn_hand ∈ zWT := z_in2 (List.mem_of_getElem? (i := 213) rfl) rfl
theorem wv_Rn_hand : Cond.selects R_Rn y_Rn_hand y_Rn_hand ∈ zWT := z_in2 (List.mem_of_getElem? (i := 214) rfl) rfl
theorem wk_Rn_hand : Cond.code y_Rn_hand prog_6_method_2_code 8 none ∈ zWT := z_in2 (List.mem_of_getElem? (i := 215) rfl) rfl
theorem wl_Tr_113 : Cond.methodLink R_Tr 113 y_Ru_isDoneAt ∈ zWT := z_in2 (List.mem_of_getElem? (i := 216) rfl) rfl
theorem wi_Ru_isDoneAt : Cond.instanceMethod y_Ru_isDoneAt ∈ zWT := z_in2 (List.mem_of_getElem? (i := 217) rfl) rfl
theorem wv_Ru_isDoneAt : Cond.selects R_Ru y_Ru_isDoneAt y_Ru_isDoneAt ∈ zWT := z_in2 (List.mem_of_getElem? (i := 218) rfl) rfl
theorem wk_Ru_isDoneAt : Cond.code y_Ru_isDoneAt prog_4_method_4_code 3 (some .boolean) ∈ zWT := z_in2 (List.mem_of_getElem? (i := 219) rfl) rfl
theorem wl_Tr_117 : Cond.methodLink R_Tr 117 y_Rn_run ∈ zWT := z_in2 (List.mem_of_getElem? (i := 220) rfl) rfl
theorem wi_Rn_run : Cond.instanceMethod y_Rn_run ∈ zWT := z_in2 (List.mem_of_getElem? (i := 221) rfl) rfl
theorem wv_Rn_run : Cond.selects R_Rn y_Rn_run y_Rn_run ∈ zWT := z_in2 (List.mem_of_getElem? (i := 222) rfl) rfl
theorem wk_Rn_run : Cond.code y_Rn_run prog_6_method_3_code 3 (some .boolean) ∈ zWT := z_in2 (List.mem_of_getElem? (i := 223) rfl) rfl
theorem wl_Rn_77 : Cond.methodLink R_Rn 77 y_Rn_doStep ∈ zWT := z_in2 (List.mem_of_getElem? (i := 224) rfl) rfl
theorem wi_Rn_doStep : Cond.instanceMethod y_Rn_doStep ∈ zWT := z_in2 (List.mem_of_getElem? (i := 226) rfl) rfl
theorem wk_Rn_doStep : Cond.code y_Rn_doStep prog_6_method_5_code 2 none ∈ zWT := z_in2 (List.mem_of_getElem? (i := 227) rfl) rfl
theorem wl_Rn_95 : Cond.methodLink R_Rn 95 y_Rn_push ∈ zWT := z_in2 (List.mem_of_getElem? (i := 228) rfl) rfl
theorem wi_Rn_push : Cond.instanceMethod y_Rn_push ∈ zWT := z_in2 (List.mem_of_getElem? (i := 230) rfl) rfl
theorem wk_Rn_push : Cond.code y_Rn_push prog_6_method_12_code 3 none ∈ zWT := z_in2 (List.mem_of_getElem? (i := 231) rfl) rfl
theorem wl_Rn_99 : Cond.methodLink R_Rn 99 y_Rn_get ∈ zWT := z_in2 (List.mem_of_getElem? (i := 232) rfl) rfl
theorem wi_Rn_get : Cond.instanceMethod y_Rn_get ∈ zWT := z_in2 (List.mem_of_getElem? (i := 233) rfl) rfl
theorem wv_Rn_get : Cond.selects R_Rn y_Rn_get y_Rn_get ∈ zWT := z_in2 (List.mem_of_getElem? (i := 234) rfl) rfl
theorem wk_Rn_get : Cond.code y_Rn_get prog_6_method_4_code 4 (some .double) ∈ zWT := z_in2 (List.mem_of_getElem? (i := 235) rfl) rfl
theorem wl_Rn_87 : Cond.methodLink R_Rn 87 y_Rn_slotOf ∈ zWT := z_in2 (List.mem_of_getElem? (i := 236) rfl) rfl
theorem ws_Rn_slotOf : Cond.static y_Rn_slotOf ∈ zWT := z_in2 (List.mem_of_getElem? (i := 237) rfl) rfl
theorem wk_Rn_slotOf : Cond.code y_Rn_slotOf prog_6_method_14_code 2 (some .int) ∈ zWT := z_in2 (List.mem_of_getElem? (i := 238) rfl) rfl
theorem wl_Rn_103 : Cond.methodLink R_Rn 103 y_Rn_pop ∈ zWT := z_in3 (List.mem_of_getElem? (i := 0) rfl) rfl
theorem wi_Rn_pop : Cond.instanceMethod y_Rn_pop ∈ zWT := z_in3 (List.mem_of_getElem? (i := 2) rfl) rfl
theorem wk_Rn_pop : Cond.code y_Rn_pop prog_6_method_13_code 1 (some .double) ∈ zWT := z_in3 (List.mem_of_getElem? (i := 3) rfl) rfl
theorem wl_Rn_107 : Cond.methodLink R_Rn 107 y_Rn_set ∈ zWT := z_in3 (List.mem_of_getElem? (i := 4) rfl) rfl
theorem wi_Rn_set : Cond.instanceMethod y_Rn_set ∈ zWT := z_in3 (List.mem_of_getElem? (i := 6) rfl) rfl
theorem wk_Rn_set : Cond.code y_Rn_set prog_6_method_9_code 5 none ∈ zWT := z_in3 (List.mem_of_getElem? (i := 7) rfl) rfl
theorem wl_Rn_111 : Cond.methodLink R_Rn 111 y_Rn_gather ∈ zWT := z_in3 (List.mem_of_getElem? (i := 8) rfl) rfl
theorem wi_Rn_gather : Cond.instanceMethod y_Rn_gather ∈ zWT := z_in3 (List.mem_of_getElem? (i := 10) rfl) rfl
theorem wk_Rn_gather : Cond.code y_Rn_gather prog_6_method_10_code 6 none ∈ zWT := z_in3 (List.mem_of_getElem? (i := 11) rfl) rfl
theorem wl_Rn_134 : Cond.methodLink R_Rn 134 y_Ga_rowFor ∈ zWT := z_in3 (List.mem_of_getElem? (i := 12) rfl) rfl
theorem wi_Ga_rowFor : Cond.instanceMethod y_Ga_rowFor ∈ zWT := z_in3 (List.mem_of_getElem? (i := 13) rfl) rfl
theorem wv_Ga_rowFor : Cond.selects R_Ga y_Ga_rowFor y_Ga_rowFor ∈ zWT := z_in3 (List.mem_of_getElem? (i := 14) rfl) rfl
theorem wk_Ga_rowFor : Cond.code y_Ga_rowFor prog_2_method_3_code 3 (some .int) ∈ zWT := z_in3 (List.mem_of_getElem? (i := 15) rfl) rfl
theorem wl_Ga_35 : Cond.methodLink R_Ga 35 y_Ga_rowOf ∈ zWT := z_in3 (List.mem_of_getElem? (i := 16) rfl) rfl
theorem wi_Ga_rowOf : Cond.instanceMethod y_Ga_rowOf ∈ zWT := z_in3 (List.mem_of_getElem? (i := 17) rfl) rfl
theorem wv_Ga_rowOf : Cond.selects R_Ga y_Ga_rowOf y_Ga_rowOf ∈ zWT := z_in3 (List.mem_of_getElem? (i := 18) rfl) rfl
theorem wk_Ga_rowOf : Cond.code y_Ga_rowOf prog_2_method_2_code 3 (some .int) ∈ zWT := z_in3 (List.mem_of_getElem? (i := 19) rfl) rfl
theorem wl_Rn_130 : Cond.methodLink R_Rn 130 y_Rn_isOutOfBounds ∈ zWT := z_in3 (List.mem_of_getElem? (i := 20) rfl) rfl
theorem ws_Rn_isOutOfBounds : Cond.static y_Rn_isOutOfBounds ∈ zWT := z_in3 (List.mem_of_getElem? (i := 21) rfl) rfl
theorem wk_Rn_isOutOfBounds : Cond.code y_Rn_isOutOfBounds prog_6_method_15_code 2 (some .boolean) ∈ zWT := z_in3 (List.mem_of_getElem? (i := 22) rfl) rfl
theorem wd_Rn_144 : Cond.constantDouble R_Rn 144 4741671816366391296 ∈ zWT := z_in3 (List.mem_of_getElem? (i := 23) rfl) rfl
theorem wd_Rn_146 : Cond.constantDouble R_Rn 146 13965043853221167104 ∈ zWT := z_in3 (List.mem_of_getElem? (i := 24) rfl) rfl
theorem wl_Rn_127 : Cond.methodLink R_Rn 127 y_Rn_fail ∈ zWT := z_in3 (List.mem_of_getElem? (i := 25) rfl) rfl
theorem wi_Rn_fail : Cond.instanceMethod y_Rn_fail ∈ zWT := z_in3 (List.mem_of_getElem? (i := 27) rfl) rfl
theorem wk_Rn_fail : Cond.code y_Rn_fail prog_6_method_11_code 1 none ∈ zWT := z_in3 (List.mem_of_getElem? (i := 28) rfl) rfl
theorem wl_Rn_141 : Cond.methodLink R_Rn 141 y_Ga_add ∈ zWT := z_in3 (List.mem_of_getElem? (i := 29) rfl) rfl
theorem wi_Ga_add : Cond.instanceMethod y_Ga_add ∈ zWT := z_in3 (List.mem_of_getElem? (i := 30) rfl) rfl
theorem wv_Ga_add : Cond.selects R_Ga y_Ga_add y_Ga_add ∈ zWT := z_in3 (List.mem_of_getElem? (i := 31) rfl) rfl
theorem wk_Ga_add : Cond.code y_Ga_add prog_2_method_4_code 5 none ∈ zWT := z_in3 (List.mem_of_getElem? (i := 32) rfl) rfl
theorem wl_Ga_39 : Cond.methodLink R_Ga 39 y_Ga_binOf ∈ zWT := z_in3 (List.mem_of_getElem? (i := 33) rfl) rfl
theorem ws_Ga_binOf : Cond.static y_Ga_binOf ∈ zWT := z_in3 (List.mem_of_getElem? (i := 34) rfl) rfl
theorem wk_Ga_binOf : Cond.code y_Ga_binOf prog_2_method_6_code 5 (some .int) ∈ zWT := z_in3 (List.mem_of_getElem? (i := 35) rfl) rfl
theorem wd_Ga_43 : Cond.constantDouble R_Ga 43 4611686018427387904 ∈ zWT := z_in3 (List.mem_of_getElem? (i := 36) rfl) rfl
theorem wl_Rn_115 : Cond.methodLink R_Rn 115 y_Rn_doCharacter ∈ zWT := z_in3 (List.mem_of_getElem? (i := 37) rfl) rfl
theorem wi_Rn_doCharacter : Cond.instanceMethod y_Rn_doCharacter ∈ zWT := z_in3 (List.mem_of_getElem? (i := 39) rfl) rfl
theorem wk_Rn_doCharacter : Cond.code y_Rn_doCharacter prog_6_method_6_code 2 none ∈ zWT := z_in3 (List.mem_of_getElem? (i := 40) rfl) rfl
theorem wl_Rn_118 : Cond.methodLink R_Rn 118 y_Re_put ∈ zWT := z_in3 (List.mem_of_getElem? (i := 41) rfl) rfl
theorem wi_Re_put : Cond.instanceMethod y_Re_put ∈ zWT := z_in3 (List.mem_of_getElem? (i := 42) rfl) rfl
theorem wv_Re_put : Cond.selects R_Re y_Re_put y_Re_put ∈ zWT := z_in3 (List.mem_of_getElem? (i := 43) rfl) rfl
theorem wk_Re_put : Cond.code y_Re_put prog_3_method_2_code 3 none ∈ zWT := z_in3 (List.mem_of_getElem? (i := 44) rfl) rfl
theorem wl_Re_25 : Cond.methodLink R_Re 25 y_Re_take ∈ zWT := z_in3 (List.mem_of_getElem? (i := 45) rfl) rfl
theorem wi_Re_take : Cond.instanceMethod y_Re_take ∈ zWT := z_in3 (List.mem_of_getElem? (i := 46) rfl) rfl
theorem wv_Re_take : Cond.selects R_Re y_Re_take y_Re_take ∈ zWT := z_in3 (List.mem_of_getElem? (i := 47) rfl) rfl
theorem wk_Re_take : Cond.code y_Re_take prog_3_method_3_code 3 (some .double) ∈ zWT := z_in3 (List.mem_of_getElem? (i := 48) rfl) rfl
theorem wl_Rn_121 : Cond.methodLink R_Rn 121 y_Rn_operate ∈ zWT := z_in3 (List.mem_of_getElem? (i := 49) rfl) rfl
theorem wi_Rn_operate : Cond.instanceMethod y_Rn_operate ∈ zWT := z_in3 (List.mem_of_getElem? (i := 51) rfl) rfl
theorem wk_Rn_operate : Cond.code y_Rn_operate prog_6_method_7_code 6 none ∈ zWT := z_in3 (List.mem_of_getElem? (i := 52) rfl) rfl
theorem wl_Rn_124 : Cond.methodLink R_Rn 124 y_Rn_pushOutcome ∈ zWT := z_in3 (List.mem_of_getElem? (i := 53) rfl) rfl
theorem wi_Rn_pushOutcome : Cond.instanceMethod y_Rn_pushOutcome ∈ zWT := z_in3 (List.mem_of_getElem? (i := 55) rfl) rfl
theorem wk_Rn_pushOutcome : Cond.code y_Rn_pushOutcome prog_6_method_8_code 3 none ∈ zWT := z_in3 (List.mem_of_getElem? (i := 56) rfl) rfl
theorem wl_La_80 : Cond.methodLink R_La 80 y_La_tick ∈ zWT := z_in3 (List.mem_of_getElem? (i := 57) rfl) rfl
theorem ws_La_tick : Cond.static y_La_tick ∈ zWT := z_in3 (List.mem_of_getElem? (i := 58) rfl) rfl
theorem wl_La_31 : Cond.methodLink R_La 31 y_Tr_tick ∈ zWT := z_in3 (List.mem_of_getElem? (i := 60) rfl) rfl
theorem wi_Tr_tick : Cond.instanceMethod y_Tr_tick ∈ zWT := z_in3 (List.mem_of_getElem? (i := 61) rfl) rfl
theorem wv_Tr_tick : Cond.selects R_Tr y_Tr_tick y_Tr_tick ∈ zWT := z_in3 (List.mem_of_getElem? (i := 62) rfl) rfl
theorem wk_Tr_tick : Cond.code y_Tr_tick prog_1_method_6_code 2 (some .int) ∈ zWT := z_in3 (List.mem_of_getElem? (i := 63) rfl) rfl
theorem wl_La_83 : Cond.methodLink R_La 83 y_La_variable ∈ zWT := z_in3 (List.mem_of_getElem? (i := 65) rfl) rfl
theorem ws_La_variable : Cond.static y_La_variable ∈ zWT := z_in3 (List.mem_of_getElem? (i := 66) rfl) rfl
theorem wl_La_34 : Cond.methodLink R_La 34 y_Tr_variable ∈ zWT := z_in3 (List.mem_of_getElem? (i := 68) rfl) rfl
theorem wi_Tr_variable : Cond.instanceMethod y_Tr_variable ∈ zWT := z_in3 (List.mem_of_getElem? (i := 69) rfl) rfl
theorem wv_Tr_variable : Cond.selects R_Tr y_Tr_variable y_Tr_variable ∈ zWT := z_in3 (List.mem_of_getElem? (i := 70) rfl) rfl
theorem wk_Tr_variable : Cond.code y_Tr_variable prog_1_method_7_code 3 (some .double) ∈ zWT := z_in3 (List.mem_of_getElem? (i := 71) rfl) rfl
theorem wl_Tr_133 : Cond.methodLink R_Tr 133 y_Rn_get ∈ zWT := z_in3 (List.mem_of_getElem? (i := 74) rfl) rfl
theorem wl_La_87 : Cond.methodLink R_La 87 y_La_gathered ∈ zWT := z_in3 (List.mem_of_getElem? (i := 75) rfl) rfl
theorem ws_La_gathered : Cond.static y_La_gathered ∈ zWT := z_in3 (List.mem_of_getElem? (i := 76) rfl) rfl
theorem wl_La_38 : Cond.methodLink R_La 38 y_Tr_gathered ∈ zWT := z_in3 (List.mem_of_getElem? (i := 78) rfl) rfl
theorem wi_Tr_gathered : Cond.instanceMethod y_Tr_gathered ∈ zWT := z_in3 (List.mem_of_getElem? (i := 79) rfl) rfl
theorem wv_Tr_gathered : Cond.selects R_Tr y_Tr_gathered y_Tr_gathered ∈ zWT := z_in3 (List.mem_of_getElem? (i := 80) rfl) rfl
theorem wk_Tr_gathered : Cond.code y_Tr_gathered prog_1_method_8_code 6 (some .double) ∈ zWT := z_in3 (List.mem_of_getElem? (i := 81) rfl) rfl
theorem wl_Tr_143 : Cond.methodLink R_Tr 143 y_Ga_rowOf ∈ zWT := z_in3 (List.mem_of_getElem? (i := 83) rfl) rfl
theorem wl_Tr_151 : Cond.methodLink R_Tr 151 y_Ga_figure ∈ zWT := z_in3 (List.mem_of_getElem? (i := 85) rfl) rfl
theorem wi_Ga_figure : Cond.instanceMethod y_Ga_figure ∈ zWT := z_in3 (List.mem_of_getElem? (i := 86) rfl) rfl
theorem wv_Ga_figure : Cond.selects R_Ga y_Ga_figure y_Ga_figure ∈ zWT := z_in3 (List.mem_of_getElem? (i := 87) rfl) rfl
theorem wk_Ga_figure : Cond.code y_Ga_figure prog_2_method_5_code 3 (some .double) ∈ zWT := z_in3 (List.mem_of_getElem? (i := 88) rfl) rfl
theorem wl_La_91 : Cond.methodLink R_La 91 y_La_many ∈ zWT := z_in3 (List.mem_of_getElem? (i := 89) rfl) rfl
theorem ws_La_many : Cond.static y_La_many ∈ zWT := z_in3 (List.mem_of_getElem? (i := 90) rfl) rfl
theorem wl_La_42 : Cond.methodLink R_La 42 y_Tr_many ∈ zWT := z_in3 (List.mem_of_getElem? (i := 92) rfl) rfl
theorem wi_Tr_many : Cond.instanceMethod y_Tr_many ∈ zWT := z_in3 (List.mem_of_getElem? (i := 93) rfl) rfl
theorem wv_Tr_many : Cond.selects R_Tr y_Tr_many y_Tr_many ∈ zWT := z_in3 (List.mem_of_getElem? (i := 94) rfl) rfl
theorem wk_Tr_many : Cond.code y_Tr_many prog_1_method_9_code 6 (some .int) ∈ zWT := z_in3 (List.mem_of_getElem? (i := 95) rfl) rfl
theorem wl_La_95 : Cond.methodLink R_La 95 y_La_record ∈ zWT := z_in3 (List.mem_of_getElem? (i := 97) rfl) rfl
theorem ws_La_record : Cond.static y_La_record ∈ zWT := z_in3 (List.mem_of_getElem? (i := 98) rfl) rfl
theorem wl_La_46 : Cond.methodLink R_La 46 y_Tr_record ∈ zWT := z_in3 (List.mem_of_getElem? (i := 100) rfl) rfl
theorem wi_Tr_record : Cond.instanceMethod y_Tr_record ∈ zWT := z_in3 (List.mem_of_getElem? (i := 101) rfl) rfl
theorem wv_Tr_record : Cond.selects R_Tr y_Tr_record y_Tr_record ∈ zWT := z_in3 (List.mem_of_getElem? (i := 102) rfl) rfl
theorem wk_Tr_record : Cond.code y_Tr_record prog_1_method_10_code 1 (some .double) ∈ zWT := z_in3 (List.mem_of_getElem? (i := 103) rfl) rfl
theorem wl_Tr_174 : Cond.methodLink R_Tr 174 y_Re_take ∈ zWT := z_in3 (List.mem_of_getElem? (i := 105) rfl) rfl
theorem wc_La_51 : Cond.classLink R_La 51 R_Mo ∈ zWT := z_in3 (List.mem_of_getElem? (i := 106) rfl) rfl
theorem wn_Mo : Cond.instantiable R_Mo 44 ∈ zWT := z_in3 (List.mem_of_getElem? (i := 107) rfl) rfl
theorem wl_La_53 : Cond.methodLink R_La 53 y_Mo_init ∈ zWT := z_in3 (List.mem_of_getElem? (i := 108) rfl) rfl
theorem wi_Mo_init : Cond.instanceMethod y_Mo_init ∈ zWT := z_in3 (List.mem_of_getElem? (i := 109) rfl) rfl
theorem wk_Mo_init : Cond.code y_Mo_init prog_8_method_1_code 1 none ∈ zWT := z_in3 (List.mem_of_getElem? (i := 110) rfl) rfl
theorem wl_Mo_1 : Cond.methodLink R_Mo 1 Lib.objectInit ∈ zWT := z_in3 (List.mem_of_getElem? (i := 111) rfl) rfl
theorem wf_Mo_7 : Cond.fieldLink R_Mo 7 "RuleTracerModel" "text" "[I" ∈ zWT := z_in3 (List.mem_of_getElem? (i := 112) rfl) rfl
theorem wf_Mo_13 : Cond.fieldLink R_Mo 13 "RuleTracerModel" "code" "[I" ∈ zWT := z_in3 (List.mem_of_getElem? (i := 113) rfl) rfl
theorem wf_Mo_16 : Cond.fieldLink R_Mo 16 "RuleTracerModel" "site" "[I" ∈ zWT := z_in3 (List.mem_of_getElem? (i := 114) rfl) rfl
theorem wf_Mo_19 : Cond.fieldLink R_Mo 19 "RuleTracerModel" "condition" "[I" ∈ zWT := z_in3 (List.mem_of_getElem? (i := 115) rfl) rfl
theorem wf_Mo_22 : Cond.fieldLink R_Mo 22 "RuleTracerModel" "actions" "[I" ∈ zWT := z_in3 (List.mem_of_getElem? (i := 116) rfl) rfl
theorem wf_Mo_25 : Cond.fieldLink R_Mo 25 "RuleTracerModel" "kind" "[I" ∈ zWT := z_in3 (List.mem_of_getElem? (i := 117) rfl) rfl
theorem wf_Mo_28 : Cond.fieldLink R_Mo 28 "RuleTracerModel" "target" "[I" ∈ zWT := z_in3 (List.mem_of_getElem? (i := 118) rfl) rfl
theorem wf_Mo_31 : Cond.fieldLink R_Mo 31 "RuleTracerModel" "first" "[I" ∈ zWT := z_in3 (List.mem_of_getElem? (i := 119) rfl) rfl
theorem wf_Mo_34 : Cond.fieldLink R_Mo 34 "RuleTracerModel" "second" "[I" ∈ zWT := z_in3 (List.mem_of_getElem? (i := 120) rfl) rfl
theorem wf_Mo_37 : Cond.fieldLink R_Mo 37 "RuleTracerModel" "failures" "[I" ∈ zWT := z_in3 (List.mem_of_getElem? (i := 121) rfl) rfl
theorem wf_Mo_40 : Cond.fieldLink R_Mo 40 "RuleTracerModel" "met" "[I" ∈ zWT := z_in3 (List.mem_of_getElem? (i := 122) rfl) rfl
theorem wf_Mo_43 : Cond.fieldLink R_Mo 43 "RuleTracerModel" "there" "[Z" ∈ zWT := z_in3 (List.mem_of_getElem? (i := 123) rfl) rfl
theorem wf_Mo_47 : Cond.fieldLink R_Mo 47 "RuleTracerModel" "on" "[Z" ∈ zWT := z_in3 (List.mem_of_getElem? (i := 124) rfl) rfl
theorem wf_Mo_50 : Cond.fieldLink R_Mo 50 "RuleTracerModel" "compared" "[Z" ∈ zWT := z_in3 (List.mem_of_getElem? (i := 125) rfl) rfl
theorem wf_Mo_53 : Cond.fieldLink R_Mo 53 "RuleTracerModel" "globals" "[D" ∈ zWT := z_in3 (List.mem_of_getElem? (i := 126) rfl) rfl
theorem wf_Mo_57 : Cond.fieldLink R_Mo 57 "RuleTracerModel" "own" "[D" ∈ zWT := z_in3 (List.mem_of_getElem? (i := 127) rfl) rfl
theorem wf_Mo_60 : Cond.fieldLink R_Mo 60 "RuleTracerModel" "records" "[D" ∈ zWT := z_in3 (List.mem_of_getElem? (i := 128) rfl) rfl
theorem wf_Mo_63 : Cond.fieldLink R_Mo 63 "RuleTracerModel" "pile" "[D" ∈ zWT := z_in3 (List.mem_of_getElem? (i := 129) rfl) rfl
theorem wf_Mo_66 : Cond.fieldLink R_Mo 66 "RuleTracerModel" "handed" "[D" ∈ zWT := z_in3 (List.mem_of_getElem? (i := 130) rfl) rfl
theorem wf_Mo_69 : Cond.fieldLink R_Mo 69 "RuleTracerModel" "keys" "[I" ∈ zWT := z_in3 (List.mem_of_getElem? (i := 131) rfl) rfl
theorem wf_Mo_72 : Cond.fieldLink R_Mo 72 "RuleTracerModel" "key" "[I" ∈ zWT := z_in3 (List.mem_of_getElem? (i := 132) rfl) rfl
theorem wf_Mo_75 : Cond.fieldLink R_Mo 75 "RuleTracerModel" "count" "[I" ∈ zWT := z_in3 (List.mem_of_getElem? (i := 133) rfl) rfl
theorem wf_Mo_78 : Cond.fieldLink R_Mo 78 "RuleTracerModel" "bins" "[I" ∈ zWT := z_in3 (List.mem_of_getElem? (i := 134) rfl) rfl
theorem wf_Mo_81 : Cond.fieldLink R_Mo 81 "RuleTracerModel" "operator" "[I" ∈ zWT := z_in3 (List.mem_of_getElem? (i := 135) rfl) rfl
theorem wf_Mo_84 : Cond.fieldLink R_Mo 84 "RuleTracerModel" "starts" "[I" ∈ zWT := z_in3 (List.mem_of_getElem? (i := 136) rfl) rfl
theorem wf_Mo_87 : Cond.fieldLink R_Mo 87 "RuleTracerModel" "sum" "[D" ∈ zWT := z_in3 (List.mem_of_getElem? (i := 137) rfl) rfl
theorem wf_Mo_90 : Cond.fieldLink R_Mo 90 "RuleTracerModel" "least" "[D" ∈ zWT := z_in3 (List.mem_of_getElem? (i := 138) rfl) rfl
theorem wf_Mo_93 : Cond.fieldLink R_Mo 93 "RuleTracerModel" "greatest" "[D" ∈ zWT := z_in3 (List.mem_of_getElem? (i := 139) rfl) rfl
theorem wf_Mo_152 : Cond.fieldLink R_Mo 152 "RuleTracerModel" "newSite" "I" ∈ zWT := z_in3 (List.mem_of_getElem? (i := 140) rfl) rfl
theorem wf_Mo_155 : Cond.fieldLink R_Mo 155 "RuleTracerModel" "newCondition" "I" ∈ zWT := z_in3 (List.mem_of_getElem? (i := 141) rfl) rfl
theorem wf_Mo_158 : Cond.fieldLink R_Mo 158 "RuleTracerModel" "newActions" "I" ∈ zWT := z_in3 (List.mem_of_getElem? (i := 142) rfl) rfl
theorem wf_Mo_111 : Cond.fieldLink R_Mo 111 "RuleTracerModel" "size" "I" ∈ zWT := z_in3 (List.mem_of_getElem? (i := 143) rfl) rfl
theorem wf_Mo_96 : Cond.fieldLink R_Mo 96 "RuleTracerModel" "place" "I" ∈ zWT := z_in3 (List.mem_of_getElem? (i := 144) rfl) rfl
theorem wf_Mo_114 : Cond.fieldLink R_Mo 114 "RuleTracerModel" "pos" "I" ∈ zWT := z_in3 (List.mem_of_getElem? (i := 145) rfl) rfl
theorem wf_Mo_121 : Cond.fieldLink R_Mo 121 "RuleTracerModel" "at" "I" ∈ zWT := z_in3 (List.mem_of_getElem? (i := 146) rfl) rfl
theorem wf_Mo_124 : Cond.fieldLink R_Mo 124 "RuleTracerModel" "operators" "I" ∈ zWT := z_in3 (List.mem_of_getElem? (i := 147) rfl) rfl
theorem wf_Mo_202 : Cond.fieldLink R_Mo 202 "RuleTracerModel" "recorded" "I" ∈ zWT := z_in3 (List.mem_of_getElem? (i := 148) rfl) rfl
theorem wf_Mo_205 : Cond.fieldLink R_Mo 205 "RuleTracerModel" "lost" "I" ∈ zWT := z_in3 (List.mem_of_getElem? (i := 149) rfl) rfl
theorem wf_Mo_195 : Cond.fieldLink R_Mo 195 "RuleTracerModel" "dropped" "I" ∈ zWT := z_in3 (List.mem_of_getElem? (i := 150) rfl) rfl
theorem wf_Mo_230 : Cond.fieldLink R_Mo 230 "RuleTracerModel" "firings" "I" ∈ zWT := z_in3 (List.mem_of_getElem? (i := 151) rfl) rfl
theorem wf_Mo_167 : Cond.fieldLink R_Mo 167 "RuleTracerModel" "time" "I" ∈ zWT := z_in3 (List.mem_of_getElem? (i := 152) rfl) rfl
theorem wf_Mo_170 : Cond.fieldLink R_Mo 170 "RuleTracerModel" "thread" "I" ∈ zWT := z_in3 (List.mem_of_getElem? (i := 153) rfl) rfl
theorem wf_Mo_100 : Cond.fieldLink R_Mo 100 "RuleTracerModel" "thrown" "I" ∈ zWT := z_in3 (List.mem_of_getElem? (i := 154) rfl) rfl
theorem wf_Mo_173 : Cond.fieldLink R_Mo 173 "RuleTracerModel" "failed" "Z" ∈ zWT := z_in3 (List.mem_of_getElem? (i := 155) rfl) rfl
theorem wa_boolean : Cond.arrayClass .boolean ∈ zWT := z_in4 (List.mem_of_getElem? (i := 5) rfl) rfl
theorem wl_La_62 : Cond.methodLink R_La 62 y_Mo_thrown ∈ zWT := z_in4 (List.mem_of_getElem? (i := 6) rfl) rfl
theorem wi_Mo_thrown : Cond.instanceMethod y_Mo_thrown ∈ zWT := z_in4 (List.mem_of_getElem? (i := 7) rfl) rfl
theorem wv_Mo_thrown : Cond.selects R_Mo y_Mo_thrown y_Mo_thrown ∈ zWT := z_in4 (List.mem_of_getElem? (i := 8) rfl) rfl
theorem wk_Mo_thrown : Cond.code y_Mo_thrown prog_8_method_2_code 1 (some .int) ∈ zWT := z_in4 (List.mem_of_getElem? (i := 9) rfl) rfl
theorem wl_La_61 : Cond.methodLink R_La 61 y_Mo_type ∈ zWT := z_in4 (List.mem_of_getElem? (i := 10) rfl) rfl
theorem wi_Mo_type : Cond.instanceMethod y_Mo_type ∈ zWT := z_in4 (List.mem_of_getElem? (i := 11) rfl) rfl
theorem wv_Mo_type : Cond.selects R_Mo y_Mo_type y_Mo_type ∈ zWT := z_in4 (List.mem_of_getElem? (i := 12) rfl) rfl
theorem wk_Mo_type : Cond.code y_Mo_type prog_8_method_6_code 7 (some .int) ∈ zWT := z_in4 (List.mem_of_getElem? (i := 13) rfl) rfl
theorem wl_Mo_103 : Cond.methodLink R_Mo 103 y_Mo_in ∈ zWT := z_in4 (List.mem_of_getElem? (i := 14) rfl) rfl
theorem ws_Mo_in : Cond.static y_Mo_in ∈ zWT := z_in4 (List.mem_of_getElem? (i := 15) rfl) rfl
theorem wk_Mo_in : Cond.code y_Mo_in prog_8_method_3_code 3 (some .boolean) ∈ zWT := z_in4 (List.mem_of_getElem? (i := 16) rfl) rfl
theorem wl_Mo_107 : Cond.methodLink R_Mo 107 y_Mo_bad ∈ zWT := z_in4 (List.mem_of_getElem? (i := 17) rfl) rfl
theorem wi_Mo_bad : Cond.instanceMethod y_Mo_bad ∈ zWT := z_in4 (List.mem_of_getElem? (i := 19) rfl) rfl
theorem wk_Mo_bad : Cond.code y_Mo_bad prog_8_method_4_code 2 (some .boolean) ∈ zWT := z_in4 (List.mem_of_getElem? (i := 20) rfl) rfl
theorem wl_La_69 : Cond.methodLink R_La 69 y_Mo_compile ∈ zWT := z_in4 (List.mem_of_getElem? (i := 21) rfl) rfl
theorem wi_Mo_compile : Cond.instanceMethod y_Mo_compile ∈ zWT := z_in4 (List.mem_of_getElem? (i := 22) rfl) rfl
theorem wv_Mo_compile : Cond.selects R_Mo y_Mo_compile y_Mo_compile ∈ zWT := z_in4 (List.mem_of_getElem? (i := 23) rfl) rfl
theorem wk_Mo_compile : Cond.code y_Mo_compile prog_8_method_17_code 5 (some .int) ∈ zWT := z_in4 (List.mem_of_getElem? (i := 24) rfl) rfl
theorem wl_Mo_164 : Cond.methodLink R_Mo 164 y_Mo_rule ∈ zWT := z_in4 (List.mem_of_getElem? (i := 25) rfl) rfl
theorem wi_Mo_rule : Cond.instanceMethod y_Mo_rule ∈ zWT := z_in4 (List.mem_of_getElem? (i := 27) rfl) rfl
theorem wk_Mo_rule : Cond.code y_Mo_rule prog_8_method_16_code 2 (some .boolean) ∈ zWT := z_in4 (List.mem_of_getElem? (i := 28) rfl) rfl
theorem wl_Mo_117 : Cond.methodLink R_Mo 117 y_Mo_look ∈ zWT := z_in4 (List.mem_of_getElem? (i := 29) rfl) rfl
theorem wi_Mo_look : Cond.instanceMethod y_Mo_look ∈ zWT := z_in4 (List.mem_of_getElem? (i := 31) rfl) rfl
theorem wk_Mo_look : Cond.code y_Mo_look prog_8_method_7_code 1 (some .int) ∈ zWT := z_in4 (List.mem_of_getElem? (i := 32) rfl) rfl
theorem wl_Mo_145 : Cond.methodLink R_Mo 145 y_Mo_passes ∈ zWT := z_in4 (List.mem_of_getElem? (i := 33) rfl) rfl
theorem wi_Mo_passes : Cond.instanceMethod y_Mo_passes ∈ zWT := z_in4 (List.mem_of_getElem? (i := 35) rfl) rfl
theorem wk_Mo_passes : Cond.code y_Mo_passes prog_8_method_8_code 2 (some .boolean) ∈ zWT := z_in4 (List.mem_of_getElem? (i := 36) rfl) rfl
theorem wl_Mo_149 : Cond.methodLink R_Mo 149 y_Mo_expression ∈ zWT := z_in4 (List.mem_of_getElem? (i := 37) rfl) rfl
theorem wi_Mo_expression : Cond.instanceMethod y_Mo_expression ∈ zWT := z_in4 (List.mem_of_getElem? (i := 39) rfl) rfl
theorem wk_Mo_expression : Cond.code y_Mo_expression prog_8_method_14_code 5 (some .boolean) ∈ zWT := z_in4 (List.mem_of_getElem? (i := 40) rfl) rfl
theorem wl_Mo_135 : Cond.methodLink R_Mo 135 y_Mo_unit ∈ zWT := z_in4 (List.mem_of_getElem? (i := 41) rfl) rfl
theorem wi_Mo_unit : Cond.instanceMethod y_Mo_unit ∈ zWT := z_in4 (List.mem_of_getElem? (i := 43) rfl) rfl
theorem wk_Mo_unit : Cond.code y_Mo_unit prog_8_method_13_code 4 (some .boolean) ∈ zWT := z_in4 (List.mem_of_getElem? (i := 44) rfl) rfl
theorem wl_Mo_131 : Cond.methodLink R_Mo 131 y_Mo_emit ∈ zWT := z_in4 (List.mem_of_getElem? (i := 45) rfl) rfl
theorem wi_Mo_emit : Cond.instanceMethod y_Mo_emit ∈ zWT := z_in4 (List.mem_of_getElem? (i := 47) rfl) rfl
theorem wk_Mo_emit : Cond.code y_Mo_emit prog_8_method_9_code 3 none ∈ zWT := z_in4 (List.mem_of_getElem? (i := 48) rfl) rfl
theorem wl_Mo_139 : Cond.methodLink R_Mo 139 y_Mo_writeMinus ∈ zWT := z_in4 (List.mem_of_getElem? (i := 49) rfl) rfl
theorem wi_Mo_writeMinus : Cond.instanceMethod y_Mo_writeMinus ∈ zWT := z_in4 (List.mem_of_getElem? (i := 51) rfl) rfl
theorem wk_Mo_writeMinus : Cond.code y_Mo_writeMinus prog_8_method_12_code 3 (some .int) ∈ zWT := z_in4 (List.mem_of_getElem? (i := 52) rfl) rfl
theorem wl_Mo_127 : Cond.methodLink R_Mo 127 y_Mo_rank ∈ zWT := z_in4 (List.mem_of_getElem? (i := 53) rfl) rfl
theorem ws_Mo_rank : Cond.static y_Mo_rank ∈ zWT := z_in4 (List.mem_of_getElem? (i := 54) rfl) rfl
theorem wk_Mo_rank : Cond.code y_Mo_rank prog_8_method_10_code 1 (some .int) ∈ zWT := z_in4 (List.mem_of_getElem? (i := 55) rfl) rfl
theorem wl_Mo_142 : Cond.methodLink R_Mo 142 y_Mo_write ∈ zWT := z_in4 (List.mem_of_getElem? (i := 56) rfl) rfl
theorem wi_Mo_write : Cond.instanceMethod y_Mo_write ∈ zWT := z_in4 (List.mem_of_getElem? (i := 58) rfl) rfl
theorem wk_Mo_write : Cond.code y_Mo_write prog_8_method_11_code 3 none ∈ zWT := z_in4 (List.mem_of_getElem? (i := 59) rfl) rfl
theorem wl_Mo_161 : Cond.methodLink R_Mo 161 y_Mo_action ∈ zWT := z_in4 (List.mem_of_getElem? (i := 60) rfl) rfl
theorem wi_Mo_action : Cond.instanceMethod y_Mo_action ∈ zWT := z_in4 (List.mem_of_getElem? (i := 62) rfl) rfl
theorem wk_Mo_action : Cond.code y_Mo_action prog_8_method_15_code 3 (some .boolean) ∈ zWT := z_in4 (List.mem_of_getElem? (i := 63) rfl) rfl
theorem wl_La_79 : Cond.methodLink R_La 79 y_Mo_fire ∈ zWT := z_in4 (List.mem_of_getElem? (i := 64) rfl) rfl
theorem wi_Mo_fire : Cond.instanceMethod y_Mo_fire ∈ zWT := z_in4 (List.mem_of_getElem? (i := 65) rfl) rfl
theorem wv_Mo_fire : Cond.selects R_Mo y_Mo_fire y_Mo_fire ∈ zWT := z_in4 (List.mem_of_getElem? (i := 66) rfl) rfl
theorem wk_Mo_fire : Cond.code y_Mo_fire prog_8_method_27_code 14 (some .int) ∈ zWT := z_in4 (List.mem_of_getElem? (i := 67) rfl) rfl
theorem wl_Mo_222 : Cond.methodLink R_Mo 222 y_Mo_fits ∈ zWT := z_in4 (List.mem_of_getElem? (i := 68) rfl) rfl
theorem ws_Mo_fits : Cond.static y_Mo_fits ∈ zWT := z_in4 (List.mem_of_getElem? (i := 69) rfl) rfl
theorem wk_Mo_fits : Cond.code y_Mo_fits prog_8_method_28_code 2 (some .boolean) ∈ zWT := z_in4 (List.mem_of_getElem? (i := 70) rfl) rfl
theorem wd_Mo_233 : Cond.constantDouble R_Mo 233 13875379345695965184 ∈ zWT := z_in4 (List.mem_of_getElem? (i := 71) rfl) rfl
theorem wd_Mo_235 : Cond.constantDouble R_Mo 235 4652007308841189376 ∈ zWT := z_in4 (List.mem_of_getElem? (i := 72) rfl) rfl
theorem wl_Mo_226 : Cond.methodLink R_Mo 226 y_Mo_doRule ∈ zWT := z_in4 (List.mem_of_getElem? (i := 73) rfl) rfl
theorem wi_Mo_doRule : Cond.instanceMethod y_Mo_doRule ∈ zWT := z_in4 (List.mem_of_getElem? (i := 75) rfl) rfl
theorem wk_Mo_doRule : Cond.code y_Mo_doRule prog_8_method_26_code 4 none ∈ zWT := z_in4 (List.mem_of_getElem? (i := 76) rfl) rfl
theorem wl_Mo_208 : Cond.methodLink R_Mo 208 y_Mo_value ∈ zWT := z_in4 (List.mem_of_getElem? (i := 77) rfl) rfl
theorem wi_Mo_value : Cond.instanceMethod y_Mo_value ∈ zWT := z_in4 (List.mem_of_getElem? (i := 79) rfl) rfl
theorem wk_Mo_value : Cond.code y_Mo_value prog_8_method_20_code 6 (some .double) ∈ zWT := z_in4 (List.mem_of_getElem? (i := 80) rfl) rfl
theorem wl_Mo_181 : Cond.methodLink R_Mo 181 y_Mo_load ∈ zWT := z_in4 (List.mem_of_getElem? (i := 81) rfl) rfl
theorem wi_Mo_load : Cond.instanceMethod y_Mo_load ∈ zWT := z_in4 (List.mem_of_getElem? (i := 83) rfl) rfl
theorem wk_Mo_load : Cond.code y_Mo_load prog_8_method_18_code 2 (some .double) ∈ zWT := z_in4 (List.mem_of_getElem? (i := 84) rfl) rfl
theorem wl_Mo_185 : Cond.methodLink R_Mo 185 y_Mo_reckon ∈ zWT := z_in4 (List.mem_of_getElem? (i := 85) rfl) rfl
theorem wi_Mo_reckon : Cond.instanceMethod y_Mo_reckon ∈ zWT := z_in4 (List.mem_of_getElem? (i := 87) rfl) rfl
theorem wk_Mo_reckon : Cond.code y_Mo_reckon prog_8_method_19_code 8 (some .double) ∈ zWT := z_in4 (List.mem_of_getElem? (i := 88) rfl) rfl
theorem wd_Mo_177 : Cond.constantDouble R_Mo 177 4741671816366391296 ∈ zWT := z_in4 (List.mem_of_getElem? (i := 89) rfl) rfl
theorem wd_Mo_179 : Cond.constantDouble R_Mo 179 13965043853221167104 ∈ zWT := z_in4 (List.mem_of_getElem? (i := 90) rfl) rfl
theorem wl_Mo_219 : Cond.methodLink R_Mo 219 y_Mo_perform ∈ zWT := z_in4 (List.mem_of_getElem? (i := 91) rfl) rfl
theorem wi_Mo_perform : Cond.instanceMethod y_Mo_perform ∈ zWT := z_in4 (List.mem_of_getElem? (i := 93) rfl) rfl
theorem wk_Mo_perform : Cond.code y_Mo_perform prog_8_method_25_code 5 (some .boolean) ∈ zWT := z_in4 (List.mem_of_getElem? (i := 94) rfl) rfl
theorem wl_Mo_211 : Cond.methodLink R_Mo 211 y_Mo_put ∈ zWT := z_in4 (List.mem_of_getElem? (i := 95) rfl) rfl
theorem wi_Mo_put : Cond.instanceMethod y_Mo_put ∈ zWT := z_in4 (List.mem_of_getElem? (i := 97) rfl) rfl
theorem wk_Mo_put : Cond.code y_Mo_put prog_8_method_24_code 4 none ∈ zWT := z_in4 (List.mem_of_getElem? (i := 98) rfl) rfl
theorem wl_Mo_215 : Cond.methodLink R_Mo 215 y_Mo_gather ∈ zWT := z_in4 (List.mem_of_getElem? (i := 99) rfl) rfl
theorem wi_Mo_gather : Cond.instanceMethod y_Mo_gather ∈ zWT := z_in4 (List.mem_of_getElem? (i := 101) rfl) rfl
theorem wk_Mo_gather : Cond.code y_Mo_gather prog_8_method_23_code 9 none ∈ zWT := z_in4 (List.mem_of_getElem? (i := 102) rfl) rfl
theorem wl_Mo_191 : Cond.methodLink R_Mo 191 y_Mo_find ∈ zWT := z_in4 (List.mem_of_getElem? (i := 103) rfl) rfl
theorem wi_Mo_find : Cond.instanceMethod y_Mo_find ∈ zWT := z_in4 (List.mem_of_getElem? (i := 105) rfl) rfl
theorem wk_Mo_find : Cond.code y_Mo_find prog_8_method_22_code 4 (some .int) ∈ zWT := z_in4 (List.mem_of_getElem? (i := 106) rfl) rfl
theorem wl_Mo_198 : Cond.methodLink R_Mo 198 y_Mo_binOf ∈ zWT := z_in4 (List.mem_of_getElem? (i := 107) rfl) rfl
theorem ws_Mo_binOf : Cond.static y_Mo_binOf ∈ zWT := z_in4 (List.mem_of_getElem? (i := 108) rfl) rfl
theorem wk_Mo_binOf : Cond.code y_Mo_binOf prog_8_method_21_code 5 (some .int) ∈ zWT := z_in4 (List.mem_of_getElem? (i := 109) rfl) rfl
theorem wd_Mo_189 : Cond.constantDouble R_Mo 189 4611686018427387904 ∈ zWT := z_in4 (List.mem_of_getElem? (i := 110) rfl) rfl
theorem wl_La_73 : Cond.methodLink R_La 73 y_Mo_turn ∈ zWT := z_in4 (List.mem_of_getElem? (i := 111) rfl) rfl
theorem wi_Mo_turn : Cond.instanceMethod y_Mo_turn ∈ zWT := z_in4 (List.mem_of_getElem? (i := 112) rfl) rfl
theorem wv_Mo_turn : Cond.selects R_Mo y_Mo_turn y_Mo_turn ∈ zWT := z_in4 (List.mem_of_getElem? (i := 113) rfl) rfl
theorem wk_Mo_turn : Cond.code y_Mo_turn prog_8_method_29_code 3 (some .int) ∈ zWT := z_in4 (List.mem_of_getElem? (i := 114) rfl) rfl
theorem wl_Mo_237 : Cond.methodLink R_Mo 237 y_Mo_rulesOn ∈ zWT := z_in4 (List.mem_of_getElem? (i := 115) rfl) rfl
theorem wi_Mo_rulesOn : Cond.instanceMethod y_Mo_rulesOn ∈ zWT := z_in4 (List.mem_of_getElem? (i := 117) rfl) rfl
theorem wk_Mo_rulesOn : Cond.code y_Mo_rulesOn prog_8_method_30_code 3 (some .int) ∈ zWT := z_in4 (List.mem_of_getElem? (i := 118) rfl) rfl
theorem wl_La_82 : Cond.methodLink R_La 82 y_Mo_tick ∈ zWT := z_in4 (List.mem_of_getElem? (i := 119) rfl) rfl
theorem wi_Mo_tick : Cond.instanceMethod y_Mo_tick ∈ zWT := z_in4 (List.mem_of_getElem? (i := 120) rfl) rfl
theorem wv_Mo_tick : Cond.selects R_Mo y_Mo_tick y_Mo_tick ∈ zWT := z_in4 (List.mem_of_getElem? (i := 121) rfl) rfl
theorem wk_Mo_tick : Cond.code y_Mo_tick prog_8_method_31_code 2 (some .int) ∈ zWT := z_in4 (List.mem_of_getElem? (i := 122) rfl) rfl
theorem wl_La_86 : Cond.methodLink R_La 86 y_Mo_variable ∈ zWT := z_in4 (List.mem_of_getElem? (i := 123) rfl) rfl
theorem wi_Mo_variable : Cond.instanceMethod y_Mo_variable ∈ zWT := z_in4 (List.mem_of_getElem? (i := 124) rfl) rfl
theorem wv_Mo_variable : Cond.selects R_Mo y_Mo_variable y_Mo_variable ∈ zWT := z_in4 (List.mem_of_getElem? (i := 125) rfl) rfl
theorem wk_Mo_variable : Cond.code y_Mo_variable prog_8_method_32_code 3 (some .double) ∈ zWT := z_in4 (List.mem_of_getElem? (i := 126) rfl) rfl
theorem wl_La_90 : Cond.methodLink R_La 90 y_Mo_gathered ∈ zWT := z_in4 (List.mem_of_getElem? (i := 127) rfl) rfl
theorem wi_Mo_gathered : Cond.instanceMethod y_Mo_gathered ∈ zWT := z_in4 (List.mem_of_getElem? (i := 128) rfl) rfl
theorem wv_Mo_gathered : Cond.selects R_Mo y_Mo_gathered y_Mo_gathered ∈ zWT := z_in4 (List.mem_of_getElem? (i := 129) rfl) rfl
theorem wk_Mo_gathered : Cond.code y_Mo_gathered prog_8_method_33_code 5 (some .double) ∈ zWT := z_in4 (List.mem_of_getElem? (i := 130) rfl) rfl
theorem wl_Mo_240 : Cond.methodLink R_Mo 240 y_Mo_fail ∈ zWT := z_in4 (List.mem_of_getElem? (i := 131) rfl) rfl
theorem wi_Mo_fail : Cond.instanceMethod y_Mo_fail ∈ zWT := z_in4 (List.mem_of_getElem? (i := 133) rfl) rfl
theorem wk_Mo_fail : Cond.code y_Mo_fail prog_8_method_5_code 2 (some .double) ∈ zWT := z_in4 (List.mem_of_getElem? (i := 134) rfl) rfl
theorem wl_La_94 : Cond.methodLink R_La 94 y_Mo_many ∈ zWT := z_in4 (List.mem_of_getElem? (i := 135) rfl) rfl
theorem wi_Mo_many : Cond.instanceMethod y_Mo_many ∈ zWT := z_in4 (List.mem_of_getElem? (i := 136) rfl) rfl
theorem wv_Mo_many : Cond.selects R_Mo y_Mo_many y_Mo_many ∈ zWT := z_in4 (List.mem_of_getElem? (i := 137) rfl) rfl
theorem wk_Mo_many : Cond.code y_Mo_many prog_8_method_34_code 5 (some .int) ∈ zWT := z_in4 (List.mem_of_getElem? (i := 138) rfl) rfl
theorem wl_La_98 : Cond.methodLink R_La 98 y_Mo_record ∈ zWT := z_in4 (List.mem_of_getElem? (i := 139) rfl) rfl
theorem wi_Mo_record : Cond.instanceMethod y_Mo_record ∈ zWT := z_in4 (List.mem_of_getElem? (i := 140) rfl) rfl
theorem wv_Mo_record : Cond.selects R_Mo y_Mo_record y_Mo_record ∈ zWT := z_in4 (List.mem_of_getElem? (i := 141) rfl) rfl
theorem wk_Mo_record : Cond.code y_Mo_record prog_8_method_35_code 4 (some .double) ∈ zWT := z_in4 (List.mem_of_getElem? (i := 142) rfl) rfl
theorem wl_La_102 : Cond.methodLink R_La 102 y_Mo_count ∈ zWT := z_in4 (List.mem_of_getElem? (i := 143) rfl) rfl
theorem wi_Mo_count : Cond.instanceMethod y_Mo_count ∈ zWT := z_in4 (List.mem_of_getElem? (i := 144) rfl) rfl
theorem wv_Mo_count : Cond.selects R_Mo y_Mo_count y_Mo_count ∈ zWT := z_in4 (List.mem_of_getElem? (i := 145) rfl) rfl
theorem wk_Mo_count : Cond.code y_Mo_count prog_8_method_36_code 4 (some .int) ∈ zWT := z_in4 (List.mem_of_getElem? (i := 146) rfl) rfl
theorem wd_La_54 : Cond.constantLong R_La 54 4294967295 ∈ zWT := z_in4 (List.mem_of_getElem? (i := 147) rfl) rfl
theorem wd_La_74 : Cond.constantDouble R_La 74 4593671619917905920 ∈ zWT := z_in4 (List.mem_of_getElem? (i := 148) rfl) rfl
theorem wa_long : Cond.arrayClass .long ∈ zWT := z_in4 (List.mem_of_getElem? (i := 149) rfl) rfl
theorem wv_Tr_rulesThere : Cond.selects R_Tr y_Tr_rulesThere y_Tr_rulesThere ∈ zWT := z_in0 (List.mem_of_getElem? (i := 0) rfl) rfl
theorem wv_Tr_rulesOn : Cond.selects R_Tr y_Tr_rulesOn y_Tr_rulesOn ∈ zWT := z_in0 (List.mem_of_getElem? (i := 1) rfl) rfl
theorem wv_Te_readHead : Cond.selects R_Te y_Te_readHead y_Te_readHead ∈ zWT := z_in0 (List.mem_of_getElem? (i := 3) rfl) rfl
theorem wv_Te_next : Cond.selects R_Te y_Te_next y_Te_next ∈ zWT := z_in0 (List.mem_of_getElem? (i := 4) rfl) rfl
theorem wv_Te_pass : Cond.selects R_Te y_Te_pass y_Te_pass ∈ zWT := z_in0 (List.mem_of_getElem? (i := 5) rfl) rfl
theorem wv_Te_readLevel : Cond.selects R_Te y_Te_readLevel y_Te_readLevel ∈ zWT := z_in0 (List.mem_of_getElem? (i := 6) rfl) rfl
theorem wv_Te_readUnit : Cond.selects R_Te y_Te_readUnit y_Te_readUnit ∈ zWT := z_in0 (List.mem_of_getElem? (i := 7) rfl) rfl
theorem wv_Te_readNumber : Cond.selects R_Te y_Te_readNumber y_Te_readNumber ∈ zWT := z_in0 (List.mem_of_getElem? (i := 8) rfl) rfl
theorem wv_Te_readAction : Cond.selects R_Te y_Te_readAction y_Te_readAction ∈ zWT := z_in0 (List.mem_of_getElem? (i := 9) rfl) rfl
theorem wv_Te_readGathering : Cond.selects R_Te y_Te_readGathering y_Te_readGathering ∈ zWT := z_in0 (List.mem_of_getElem? (i := 10) rfl) rfl
theorem wv_Rn_doStep : Cond.selects R_Rn y_Rn_doStep y_Rn_doStep ∈ zWT := z_in0 (List.mem_of_getElem? (i := 11) rfl) rfl
theorem wv_Rn_push : Cond.selects R_Rn y_Rn_push y_Rn_push ∈ zWT := z_in0 (List.mem_of_getElem? (i := 12) rfl) rfl
theorem wv_Rn_pop : Cond.selects R_Rn y_Rn_pop y_Rn_pop ∈ zWT := z_in0 (List.mem_of_getElem? (i := 13) rfl) rfl
theorem wv_Rn_set : Cond.selects R_Rn y_Rn_set y_Rn_set ∈ zWT := z_in0 (List.mem_of_getElem? (i := 14) rfl) rfl
theorem wv_Rn_gather : Cond.selects R_Rn y_Rn_gather y_Rn_gather ∈ zWT := z_in0 (List.mem_of_getElem? (i := 15) rfl) rfl
theorem wv_Rn_fail : Cond.selects R_Rn y_Rn_fail y_Rn_fail ∈ zWT := z_in0 (List.mem_of_getElem? (i := 16) rfl) rfl
theorem wv_Rn_doCharacter : Cond.selects R_Rn y_Rn_doCharacter y_Rn_doCharacter ∈ zWT := z_in0 (List.mem_of_getElem? (i := 17) rfl) rfl
theorem wv_Rn_operate : Cond.selects R_Rn y_Rn_operate y_Rn_operate ∈ zWT := z_in0 (List.mem_of_getElem? (i := 18) rfl) rfl
theorem wv_Rn_pushOutcome : Cond.selects R_Rn y_Rn_pushOutcome y_Rn_pushOutcome ∈ zWT := z_in0 (List.mem_of_getElem? (i := 19) rfl) rfl
theorem wv_Mo_bad : Cond.selects R_Mo y_Mo_bad y_Mo_bad ∈ zWT := z_in0 (List.mem_of_getElem? (i := 20) rfl) rfl
theorem wv_Mo_rule : Cond.selects R_Mo y_Mo_rule y_Mo_rule ∈ zWT := z_in0 (List.mem_of_getElem? (i := 21) rfl) rfl
theorem wv_Mo_look : Cond.selects R_Mo y_Mo_look y_Mo_look ∈ zWT := z_in0 (List.mem_of_getElem? (i := 22) rfl) rfl
theorem wv_Mo_passes : Cond.selects R_Mo y_Mo_passes y_Mo_passes ∈ zWT := z_in0 (List.mem_of_getElem? (i := 23) rfl) rfl
theorem wv_Mo_expression : Cond.selects R_Mo y_Mo_expression y_Mo_expression ∈ zWT := z_in0 (List.mem_of_getElem? (i := 24) rfl) rfl
theorem wv_Mo_unit : Cond.selects R_Mo y_Mo_unit y_Mo_unit ∈ zWT := z_in0 (List.mem_of_getElem? (i := 25) rfl) rfl
theorem wv_Mo_emit : Cond.selects R_Mo y_Mo_emit y_Mo_emit ∈ zWT := z_in0 (List.mem_of_getElem? (i := 26) rfl) rfl
theorem wv_Mo_writeMinus : Cond.selects R_Mo y_Mo_writeMinus y_Mo_writeMinus ∈ zWT := z_in0 (List.mem_of_getElem? (i := 27) rfl) rfl
theorem wv_Mo_write : Cond.selects R_Mo y_Mo_write y_Mo_write ∈ zWT := z_in0 (List.mem_of_getElem? (i := 28) rfl) rfl
theorem wv_Mo_action : Cond.selects R_Mo y_Mo_action y_Mo_action ∈ zWT := z_in0 (List.mem_of_getElem? (i := 29) rfl) rfl
theorem wv_Mo_doRule : Cond.selects R_Mo y_Mo_doRule y_Mo_doRule ∈ zWT := z_in0 (List.mem_of_getElem? (i := 30) rfl) rfl
theorem wv_Mo_value : Cond.selects R_Mo y_Mo_value y_Mo_value ∈ zWT := z_in0 (List.mem_of_getElem? (i := 31) rfl) rfl
theorem wv_Mo_load : Cond.selects R_Mo y_Mo_load y_Mo_load ∈ zWT := z_in0 (List.mem_of_getElem? (i := 32) rfl) rfl
theorem wv_Mo_reckon : Cond.selects R_Mo y_Mo_reckon y_Mo_reckon ∈ zWT := z_in0 (List.mem_of_getElem? (i := 33) rfl) rfl
theorem wv_Mo_perform : Cond.selects R_Mo y_Mo_perform y_Mo_perform ∈ zWT := z_in0 (List.mem_of_getElem? (i := 34) rfl) rfl
theorem wv_Mo_put : Cond.selects R_Mo y_Mo_put y_Mo_put ∈ zWT := z_in0 (List.mem_of_getElem? (i := 35) rfl) rfl
theorem wv_Mo_gather : Cond.selects R_Mo y_Mo_gather y_Mo_gather ∈ zWT := z_in0 (List.mem_of_getElem? (i := 36) rfl) rfl
theorem wv_Mo_find : Cond.selects R_Mo y_Mo_find y_Mo_find ∈ zWT := z_in0 (List.mem_of_getElem? (i := 37) rfl) rfl
theorem wv_Mo_rulesOn : Cond.selects R_Mo y_Mo_rulesOn y_Mo_rulesOn ∈ zWT := z_in0 (List.mem_of_getElem? (i := 38) rfl) rfl
theorem wv_Mo_fail : Cond.selects R_Mo y_Mo_fail y_Mo_fail ∈ zWT := z_in0 (List.mem_of_getElem? (i := 39) rfl) rfl
theorem in_Ga : ∀ w ∈ u_ws R_Ga T_Ga 7, w ∈ zWT := by decide +kernel
theorem in_Re : ∀ w ∈ u_ws R_Re T_Re 4, w ∈ zWT := by decide +kernel
theorem in_Ru : ∀ w ∈ u_ws R_Ru T_Ru 10, w ∈ zWT := by decide +kernel
theorem in_Te : ∀ w ∈ u_ws R_Te T_Te 4, w ∈ zWT := by decide +kernel
theorem in_Rn : ∀ w ∈ u_ws R_Rn T_Rn 14, w ∈ zWT := by decide +kernel
theorem in_Tr : ∀ w ∈ u_ws R_Tr T_Tr 5, w ∈ zWT := by decide +kernel
theorem in_Mo : ∀ w ∈ u_ws R_Mo T_Mo 44, w ∈ zWT := by decide +kernel
/-- the links across the nest, and the two classes of arrays: what the frame keeps, told apart -/
def zNL : List (String × Nat × MethodName × String) := [(R_Tr, 9, y_Te_init, R_Tr), (R_Te, 17, y_Ru_init, R_Tr), (R_Tr, 22, y_Ru_init, R_Tr), (R_Rn, 26, y_Re_init, R_Tr), (R_Rn, 64, y_Ga_init, R_Tr), (R_Te, 61, y_Tr_isWithin, R_Tr), (R_Rn, 91, y_Tr_isWithin, R_Tr)]
def zNs (U : State) : Prop := (∀ q ∈ zNL, va_Nw (.methodLinkNest q.1 q.2.1 q.2.2.1 q.2.2.2) U) ∧ va_AO R_Ru U ∧ va_AO R_Ga U
theorem zNs.moved {s U : State} (hW : s.WarmedH U.vm) (h : zNs s) : zNs U := ⟨fun q hq => va_Nw.warmM hW (h.1 q hq), va_AO.moved hW.alike h.2.1, va_AO.moved hW.alike h.2.2⟩
theorem zNs.same {s U : State} (hv : s.vm = U.vm) (h : zNs s) : zNs U := ⟨fun q hq => va_tabs rfl hv (h.1 q hq), va_AO.moved (by rw [hv]; exact Vm.Alike.refl U.vm) h.2.1, va_AO.moved (by rw [hv]; exact Vm.Alike.refl U.vm) h.2.2⟩
