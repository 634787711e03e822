/-! Names, fields, the words that all contracts share: by wip/gen/names.py -/
def R_PP : String := "PuzzlePress"
def R_KD : String := "PuzzlePress$Kind"
def R_PI : String := "PuzzlePress$Picture"
def R_SQ : String := "PuzzlePress$Square"
def R_ST : String := "PuzzlePress$Stars"
def R_UN : String := "PuzzlePress$Units"
def R_RE : String := "PuzzlePress$Reasoner"
def R_MO : String := "PuzzlePressModel"
def R_LW : String := "PuzzlePressLaw"
def R_JI : String := "java/lang/Integer"
def R_JL : String := "java/lang/Long"
def R_JM : String := "java/lang/Math"
def F_PP : u_T := fun k => match k with
  | 0 => ("PuzzlePress", "picture", "LPuzzlePress$Picture;", true)
  | 1 => ("PuzzlePress", "square", "LPuzzlePress$Square;", true)
  | 2 => ("PuzzlePress", "stars", "LPuzzlePress$Stars;", true)
  | 3 => ("PuzzlePress", "reasoner", "LPuzzlePress$Reasoner;", true)
  | 4 => ("PuzzlePress", "givens", "[I", true)
  | 5 => ("PuzzlePress", "now", "LPuzzlePress$Kind;", false)
  | 6 => ("PuzzlePress", "kindNumber", "I", false)
  | _ => ("PuzzlePress", "left", "J", false)
def t_PP : Nat → FieldType := fun k => match k with
  | 0 => .object "PuzzlePress$Picture"
  | 1 => .object "PuzzlePress$Square"
  | 2 => .object "PuzzlePress$Stars"
  | 3 => .object "PuzzlePress$Reasoner"
  | 4 => .array .int
  | 5 => .object "PuzzlePress$Kind"
  | 6 => .int
  | _ => .long
theorem n_PP : ∀ a, a < 8 → ∀ b, b < 8 → a ≠ b → (F_PP a).2.1 ≠ (F_PP b).2.1 := by decide +kernel
theorem t_PP_ok : ∀ k, k < 8 → parseFieldDescriptor (F_PP k).2.2.1 = some (t_PP k) := by decide +kernel
def F_PI : u_T := fun k => match k with
  | 0 => ("PuzzlePress$Kind", "side", "I", true)
  | 1 => ("PuzzlePress$Kind", "cells", "I", true)
  | 2 => ("PuzzlePress$Kind", "least", "I", true)
  | 3 => ("PuzzlePress$Kind", "values", "I", true)
  | 4 => ("PuzzlePress$Kind", "groups", "I", true)
  | 5 => ("PuzzlePress$Kind", "groupOf", "[I", true)
  | 6 => ("PuzzlePress$Picture", "clues", "[I", true)
  | _ => ("PuzzlePress$Picture", "clueOf", "[I", true)
def t_PI : Nat → FieldType := fun k => match k with
  | 0 => .int
  | 1 => .int
  | 2 => .int
  | 3 => .int
  | 4 => .int
  | 5 => .array .int
  | 6 => .array .int
  | _ => .array .int
theorem n_PI : ∀ a, a < 8 → ∀ b, b < 8 → a ≠ b → (F_PI a).2.1 ≠ (F_PI b).2.1 := by decide +kernel
theorem t_PI_ok : ∀ k, k < 8 → parseFieldDescriptor (F_PI k).2.2.1 = some (t_PI k) := by decide +kernel
def F_SQ : u_T := fun k => match k with
  | 0 => ("PuzzlePress$Kind", "side", "I", true)
  | 1 => ("PuzzlePress$Kind", "cells", "I", true)
  | 2 => ("PuzzlePress$Kind", "least", "I", true)
  | 3 => ("PuzzlePress$Kind", "values", "I", true)
  | 4 => ("PuzzlePress$Kind", "groups", "I", true)
  | 5 => ("PuzzlePress$Kind", "groupOf", "[I", true)
  | 6 => ("PuzzlePress$Square", "rules", "[I", true)
  | _ => ("PuzzlePress$Square", "numbers", "[I", true)
def t_SQ : Nat → FieldType := fun k => match k with
  | 0 => .int
  | 1 => .int
  | 2 => .int
  | 3 => .int
  | 4 => .int
  | 5 => .array .int
  | 6 => .array .int
  | _ => .array .int
theorem n_SQ : ∀ a, a < 8 → ∀ b, b < 8 → a ≠ b → (F_SQ a).2.1 ≠ (F_SQ b).2.1 := by decide +kernel
theorem t_SQ_ok : ∀ k, k < 8 → parseFieldDescriptor (F_SQ k).2.2.1 = some (t_SQ k) := by decide +kernel
def F_ST : u_T := fun k => match k with
  | 0 => ("PuzzlePress$Kind", "side", "I", true)
  | 1 => ("PuzzlePress$Kind", "cells", "I", true)
  | 2 => ("PuzzlePress$Kind", "least", "I", true)
  | 3 => ("PuzzlePress$Kind", "values", "I", true)
  | 4 => ("PuzzlePress$Kind", "groups", "I", true)
  | _ => ("PuzzlePress$Kind", "groupOf", "[I", true)
def t_ST : Nat → FieldType := fun k => match k with
  | 0 => .int
  | 1 => .int
  | 2 => .int
  | 3 => .int
  | 4 => .int
  | _ => .array .int
theorem n_ST : ∀ a, a < 6 → ∀ b, b < 6 → a ≠ b → (F_ST a).2.1 ≠ (F_ST b).2.1 := by decide +kernel
theorem t_ST_ok : ∀ k, k < 6 → parseFieldDescriptor (F_ST k).2.2.1 = some (t_ST k) := by decide +kernel
def F_RE : u_T := fun k => match k with
  | 0 => ("PuzzlePress$Reasoner", "units", "LPuzzlePress$Units;", true)
  | 1 => ("PuzzlePress$Reasoner", "firstFound", "J", false)
  | _ => ("PuzzlePress$Reasoner", "found", "I", false)
def t_RE : Nat → FieldType := fun k => match k with
  | 0 => .object "PuzzlePress$Units"
  | 1 => .long
  | _ => .int
theorem n_RE : ∀ a, a < 3 → ∀ b, b < 3 → a ≠ b → (F_RE a).2.1 ≠ (F_RE b).2.1 := by decide +kernel
theorem t_RE_ok : ∀ k, k < 3 → parseFieldDescriptor (F_RE k).2.2.1 = some (t_RE k) := by decide +kernel
def F_UN : u_T := fun k => match k with
  | 0 => ("PuzzlePress$Units", "scopes", "[J", true)
  | 1 => ("PuzzlePress$Units", "starts", "[I", true)
  | 2 => ("PuzzlePress$Units", "ways", "[J", true)
  | 3 => ("PuzzlePress$Units", "count", "I", false)
  | _ => ("PuzzlePress$Units", "fixed", "I", false)
def t_UN : Nat → FieldType := fun k => match k with
  | 0 => .array .long
  | 1 => .array .int
  | 2 => .array .long
  | 3 => .int
  | _ => .int
theorem n_UN : ∀ a, a < 5 → ∀ b, b < 5 → a ≠ b → (F_UN a).2.1 ≠ (F_UN b).2.1 := by decide +kernel
theorem t_UN_ok : ∀ k, k < 5 → parseFieldDescriptor (F_UN k).2.2.1 = some (t_UN k) := by decide +kernel
def F_MO : u_T := fun k => match k with
  | 0 => ("PuzzlePressModel", "thrown", "I", false)
  | 1 => ("PuzzlePressModel", "kind", "I", false)
  | 2 => ("PuzzlePressModel", "cells", "I", false)
  | 3 => ("PuzzlePressModel", "wide", "I", false)
  | 4 => ("PuzzlePressModel", "clues", "[I", true)
  | 5 => ("PuzzlePressModel", "groups", "[I", true)
  | 6 => ("PuzzlePressModel", "rules", "[I", true)
  | 7 => ("PuzzlePressModel", "numbers", "[I", true)
  | 8 => ("PuzzlePressModel", "givens", "[I", true)
  | 9 => ("PuzzlePressModel", "candidates", "[I", true)
  | 10 => ("PuzzlePressModel", "now", "[I", true)
  | 11 => ("PuzzlePressModel", "lost", "[I", true)
  | 12 => ("PuzzlePressModel", "kept", "[I", true)
  | 13 => ("PuzzlePressModel", "many", "I", false)
  | 14 => ("PuzzlePressModel", "unit", "[I", true)
  | 15 => ("PuzzlePressModel", "can", "[I", true)
  | 16 => ("PuzzlePressModel", "found", "I", false)
  | 17 => ("PuzzlePressModel", "first", "[I", true)
  | 18 => ("PuzzlePressModel", "fill", "[I", true)
  | 19 => ("PuzzlePressModel", "pattern", "[I", true)
  | 20 => ("PuzzlePressModel", "stretches", "[I", true)
  | 21 => ("PuzzlePressModel", "orders", "[I", true)
  | 22 => ("PuzzlePressModel", "besides", "[I", true)
  | _ => ("PuzzlePressModel", "beside", "[I", true)
def t_MO : Nat → FieldType := fun k => match k with
  | 0 => .int
  | 1 => .int
  | 2 => .int
  | 3 => .int
  | 4 => .array .int
  | 5 => .array .int
  | 6 => .array .int
  | 7 => .array .int
  | 8 => .array .int
  | 9 => .array .int
  | 10 => .array .int
  | 11 => .array .int
  | 12 => .array .int
  | 13 => .int
  | 14 => .array .int
  | 15 => .array .int
  | 16 => .int
  | 17 => .array .int
  | 18 => .array .int
  | 19 => .array .int
  | 20 => .array .int
  | 21 => .array .int
  | 22 => .array .int
  | _ => .array .int
theorem n_MO : ∀ a, a < 24 → ∀ b, b < 24 → a ≠ b → (F_MO a).2.1 ≠ (F_MO b).2.1 := by decide +kernel
theorem t_MO_ok : ∀ k, k < 24 → parseFieldDescriptor (F_MO k).2.2.1 = some (t_MO k) := by decide +kernel
abbrev vwCl : List vw_C := [(R_PP, F_PP, 8), (R_PI, F_PI, 8), (R_SQ, F_SQ, 8), (R_ST, F_ST, 6), (R_RE, F_RE, 3), (R_UN, F_UN, 5), (R_MO, F_MO, 24)]
abbrev b_PP_init : ByteArray := prog_1_method_1_code
def y_PP_init : MethodName := ⟨R_PP, "<init>", "()V"⟩
theorem hd_PP_init : y_PP_init.cls = R_PP ∧ y_PP_init.cls ≠ "java/lang/invoke/MethodHandle" ∧ y_PP_init.cls ≠ "java/lang/invoke/VarHandle" ∧ (parseMethodDescriptor y_PP_init.desc).map (fun d => d.parameters.length) = some 0 := by decide +kernel
abbrev b_PP_open : ByteArray := prog_1_method_2_code
def y_PP_open : MethodName := ⟨R_PP, "open", "(I)I"⟩
theorem hd_PP_open : y_PP_open.cls = R_PP ∧ y_PP_open.cls ≠ "java/lang/invoke/MethodHandle" ∧ y_PP_open.cls ≠ "java/lang/invoke/VarHandle" ∧ (parseMethodDescriptor y_PP_open.desc).map (fun d => d.parameters.length) = some 1 := by decide +kernel
abbrev b_PP_kind : ByteArray := prog_1_method_3_code
def y_PP_kind : MethodName := ⟨R_PP, "kind", "()I"⟩
theorem hd_PP_kind : y_PP_kind.cls = R_PP ∧ y_PP_kind.cls ≠ "java/lang/invoke/MethodHandle" ∧ y_PP_kind.cls ≠ "java/lang/invoke/VarHandle" ∧ (parseMethodDescriptor y_PP_kind.desc).map (fun d => d.parameters.length) = some 0 := by decide +kernel
abbrev b_PP_clue : ByteArray := prog_1_method_4_code
def y_PP_clue : MethodName := ⟨R_PP, "clue", "(II)I"⟩
theorem hd_PP_clue : y_PP_clue.cls = R_PP ∧ y_PP_clue.cls ≠ "java/lang/invoke/MethodHandle" ∧ y_PP_clue.cls ≠ "java/lang/invoke/VarHandle" ∧ (parseMethodDescriptor y_PP_clue.desc).map (fun d => d.parameters.length) = some 2 := by decide +kernel
abbrev b_PP_group : ByteArray := prog_1_method_5_code
def y_PP_group : MethodName := ⟨R_PP, "group", "(II)I"⟩
theorem hd_PP_group : y_PP_group.cls = R_PP ∧ y_PP_group.cls ≠ "java/lang/invoke/MethodHandle" ∧ y_PP_group.cls ≠ "java/lang/invoke/VarHandle" ∧ (parseMethodDescriptor y_PP_group.desc).map (fun d => d.parameters.length) = some 2 := by decide +kernel
abbrev b_PP_rule : ByteArray := prog_1_method_6_code
def y_PP_rule : MethodName := ⟨R_PP, "rule", "(III)I"⟩
theorem hd_PP_rule : y_PP_rule.cls = R_PP ∧ y_PP_rule.cls ≠ "java/lang/invoke/MethodHandle" ∧ y_PP_rule.cls ≠ "java/lang/invoke/VarHandle" ∧ (parseMethodDescriptor y_PP_rule.desc).map (fun d => d.parameters.length) = some 3 := by decide +kernel
abbrev b_PP_give : ByteArray := prog_1_method_7_code
def y_PP_give : MethodName := ⟨R_PP, "give", "(II)I"⟩
theorem hd_PP_give : y_PP_give.cls = R_PP ∧ y_PP_give.cls ≠ "java/lang/invoke/MethodHandle" ∧ y_PP_give.cls ≠ "java/lang/invoke/VarHandle" ∧ (parseMethodDescriptor y_PP_give.desc).map (fun d => d.parameters.length) = some 2 := by decide +kernel
abbrev b_PP_given : ByteArray := prog_1_method_8_code
def y_PP_given : MethodName := ⟨R_PP, "given", "(I)I"⟩
theorem hd_PP_given : y_PP_given.cls = R_PP ∧ y_PP_given.cls ≠ "java/lang/invoke/MethodHandle" ∧ y_PP_given.cls ≠ "java/lang/invoke/VarHandle" ∧ (parseMethodDescriptor y_PP_given.desc).map (fun d => d.parameters.length) = some 1 := by decide +kernel
abbrev b_PP_fillings : ByteArray := prog_1_method_9_code
def y_PP_fillings : MethodName := ⟨R_PP, "fillings", "()I"⟩
theorem hd_PP_fillings : y_PP_fillings.cls = R_PP ∧ y_PP_fillings.cls ≠ "java/lang/invoke/MethodHandle" ∧ y_PP_fillings.cls ≠ "java/lang/invoke/VarHandle" ∧ (parseMethodDescriptor y_PP_fillings.desc).map (fun d => d.parameters.length) = some 0 := by decide +kernel
abbrev b_PP_value : ByteArray := prog_1_method_10_code
def y_PP_value : MethodName := ⟨R_PP, "value", "(I)I"⟩
theorem hd_PP_value : y_PP_value.cls = R_PP ∧ y_PP_value.cls ≠ "java/lang/invoke/MethodHandle" ∧ y_PP_value.cls ≠ "java/lang/invoke/VarHandle" ∧ (parseMethodDescriptor y_PP_value.desc).map (fun d => d.parameters.length) = some 1 := by decide +kernel
abbrev b_PP_fresh : ByteArray := prog_1_method_11_code
def y_PP_fresh : MethodName := ⟨R_PP, "fresh", "()I"⟩
theorem hd_PP_fresh : y_PP_fresh.cls = R_PP ∧ y_PP_fresh.cls ≠ "java/lang/invoke/MethodHandle" ∧ y_PP_fresh.cls ≠ "java/lang/invoke/VarHandle" ∧ (parseMethodDescriptor y_PP_fresh.desc).map (fun d => d.parameters.length) = some 0 := by decide +kernel
abbrev b_PP_reason : ByteArray := prog_1_method_12_code
def y_PP_reason : MethodName := ⟨R_PP, "reason", "(I)I"⟩
theorem hd_PP_reason : y_PP_reason.cls = R_PP ∧ y_PP_reason.cls ≠ "java/lang/invoke/MethodHandle" ∧ y_PP_reason.cls ≠ "java/lang/invoke/VarHandle" ∧ (parseMethodDescriptor y_PP_reason.desc).map (fun d => d.parameters.length) = some 1 := by decide +kernel
abbrev b_PP_candidates : ByteArray := prog_1_method_13_code
def y_PP_candidates : MethodName := ⟨R_PP, "candidates", "(I)I"⟩
theorem hd_PP_candidates : y_PP_candidates.cls = R_PP ∧ y_PP_candidates.cls ≠ "java/lang/invoke/MethodHandle" ∧ y_PP_candidates.cls ≠ "java/lang/invoke/VarHandle" ∧ (parseMethodDescriptor y_PP_candidates.desc).map (fun d => d.parameters.length) = some 1 := by decide +kernel
abbrev b_PP_step : ByteArray := prog_1_method_14_code
def y_PP_step : MethodName := ⟨R_PP, "step", "()I"⟩
theorem hd_PP_step : y_PP_step.cls = R_PP ∧ y_PP_step.cls ≠ "java/lang/invoke/MethodHandle" ∧ y_PP_step.cls ≠ "java/lang/invoke/VarHandle" ∧ (parseMethodDescriptor y_PP_step.desc).map (fun d => d.parameters.length) = some 0 := by decide +kernel
abbrev b_PP_grade : ByteArray := prog_1_method_15_code
def y_PP_grade : MethodName := ⟨R_PP, "grade", "()I"⟩
theorem hd_PP_grade : y_PP_grade.cls = R_PP ∧ y_PP_grade.cls ≠ "java/lang/invoke/MethodHandle" ∧ y_PP_grade.cls ≠ "java/lang/invoke/VarHandle" ∧ (parseMethodDescriptor y_PP_grade.desc).map (fun d => d.parameters.length) = some 0 := by decide +kernel
abbrev b_PP_full : ByteArray := prog_1_method_16_code
def y_PP_full : MethodName := ⟨R_PP, "full", "()I"⟩
theorem hd_PP_full : y_PP_full.cls = R_PP ∧ y_PP_full.cls ≠ "java/lang/invoke/MethodHandle" ∧ y_PP_full.cls ≠ "java/lang/invoke/VarHandle" ∧ (parseMethodDescriptor y_PP_full.desc).map (fun d => d.parameters.length) = some 0 := by decide +kernel
abbrev b_PP_thin : ByteArray := prog_1_method_17_code
def y_PP_thin : MethodName := ⟨R_PP, "thin", "(I)I"⟩
theorem hd_PP_thin : y_PP_thin.cls = R_PP ∧ y_PP_thin.cls ≠ "java/lang/invoke/MethodHandle" ∧ y_PP_thin.cls ≠ "java/lang/invoke/VarHandle" ∧ (parseMethodDescriptor y_PP_thin.desc).map (fun d => d.parameters.length) = some 1 := by decide +kernel
abbrev b_PP_checkCell : ByteArray := prog_1_method_18_code
def y_PP_checkCell : MethodName := ⟨R_PP, "checkCell", "(I)V"⟩
theorem hd_PP_checkCell : y_PP_checkCell.cls = R_PP ∧ y_PP_checkCell.cls ≠ "java/lang/invoke/MethodHandle" ∧ y_PP_checkCell.cls ≠ "java/lang/invoke/VarHandle" ∧ (parseMethodDescriptor y_PP_checkCell.desc).map (fun d => d.parameters.length) = some 1 := by decide +kernel
abbrev b_PP_startNew : ByteArray := prog_1_method_19_code
def y_PP_startNew : MethodName := ⟨R_PP, "startNew", "(I)V"⟩
theorem hd_PP_startNew : y_PP_startNew.cls = R_PP ∧ y_PP_startNew.cls ≠ "java/lang/invoke/MethodHandle" ∧ y_PP_startNew.cls ≠ "java/lang/invoke/VarHandle" ∧ (parseMethodDescriptor y_PP_startNew.desc).map (fun d => d.parameters.length) = some 1 := by decide +kernel
abbrev b_PP_renewUnits : ByteArray := prog_1_method_20_code
def y_PP_renewUnits : MethodName := ⟨R_PP, "renewUnits", "()V"⟩
theorem hd_PP_renewUnits : y_PP_renewUnits.cls = R_PP ∧ y_PP_renewUnits.cls ≠ "java/lang/invoke/MethodHandle" ∧ y_PP_renewUnits.cls ≠ "java/lang/invoke/VarHandle" ∧ (parseMethodDescriptor y_PP_renewUnits.desc).map (fun d => d.parameters.length) = some 0 := by decide +kernel
abbrev b_PP_atFirst : ByteArray := prog_1_method_21_code
def y_PP_atFirst : MethodName := ⟨R_PP, "atFirst", "()J"⟩
theorem hd_PP_atFirst : y_PP_atFirst.cls = R_PP ∧ y_PP_atFirst.cls ≠ "java/lang/invoke/MethodHandle" ∧ y_PP_atFirst.cls ≠ "java/lang/invoke/VarHandle" ∧ (parseMethodDescriptor y_PP_atFirst.desc).map (fun d => d.parameters.length) = some 0 := by decide +kernel
abbrev b_PP_firstFilling : ByteArray := prog_1_method_22_code
def y_PP_firstFilling : MethodName := ⟨R_PP, "firstFilling", "()J"⟩
theorem hd_PP_firstFilling : y_PP_firstFilling.cls = R_PP ∧ y_PP_firstFilling.cls ≠ "java/lang/invoke/MethodHandle" ∧ y_PP_firstFilling.cls ≠ "java/lang/invoke/VarHandle" ∧ (parseMethodDescriptor y_PP_firstFilling.desc).map (fun d => d.parameters.length) = some 0 := by decide +kernel
abbrev b_PP_isEasy : ByteArray := prog_1_method_23_code
def y_PP_isEasy : MethodName := ⟨R_PP, "isEasy", "(II)Z"⟩
theorem hd_PP_isEasy : y_PP_isEasy.cls = R_PP ∧ y_PP_isEasy.cls ≠ "java/lang/invoke/MethodHandle" ∧ y_PP_isEasy.cls ≠ "java/lang/invoke/VarHandle" ∧ (parseMethodDescriptor y_PP_isEasy.desc).map (fun d => d.parameters.length) = some 2 := by decide +kernel
abbrev b_MO_init : ByteArray := prog_9_method_1_code
def y_MO_init : MethodName := ⟨R_MO, "<init>", "()V"⟩
theorem hd_MO_init : y_MO_init.cls = R_MO ∧ y_MO_init.cls ≠ "java/lang/invoke/MethodHandle" ∧ y_MO_init.cls ≠ "java/lang/invoke/VarHandle" ∧ (parseMethodDescriptor y_MO_init.desc).map (fun d => d.parameters.length) = some 0 := by decide +kernel
abbrev b_MO_thrown : ByteArray := prog_9_method_2_code
def y_MO_thrown : MethodName := ⟨R_MO, "thrown", "()I"⟩
theorem hd_MO_thrown : y_MO_thrown.cls = R_MO ∧ y_MO_thrown.cls ≠ "java/lang/invoke/MethodHandle" ∧ y_MO_thrown.cls ≠ "java/lang/invoke/VarHandle" ∧ (parseMethodDescriptor y_MO_thrown.desc).map (fun d => d.parameters.length) = some 0 := by decide +kernel
abbrev b_MO_begin : ByteArray := prog_9_method_3_code
def y_MO_begin : MethodName := ⟨R_MO, "begin", "(I)V"⟩
theorem hd_MO_begin : y_MO_begin.cls = R_MO ∧ y_MO_begin.cls ≠ "java/lang/invoke/MethodHandle" ∧ y_MO_begin.cls ≠ "java/lang/invoke/VarHandle" ∧ (parseMethodDescriptor y_MO_begin.desc).map (fun d => d.parameters.length) = some 1 := by decide +kernel
abbrev b_MO_allValues : ByteArray := prog_9_method_4_code
def y_MO_allValues : MethodName := ⟨R_MO, "allValues", "()I"⟩
theorem hd_MO_allValues : y_MO_allValues.cls = R_MO ∧ y_MO_allValues.cls ≠ "java/lang/invoke/MethodHandle" ∧ y_MO_allValues.cls ≠ "java/lang/invoke/VarHandle" ∧ (parseMethodDescriptor y_MO_allValues.desc).map (fun d => d.parameters.length) = some 0 := by decide +kernel
abbrev b_MO_refresh : ByteArray := prog_9_method_5_code
def y_MO_refresh : MethodName := ⟨R_MO, "refresh", "()V"⟩
theorem hd_MO_refresh : y_MO_refresh.cls = R_MO ∧ y_MO_refresh.cls ≠ "java/lang/invoke/MethodHandle" ∧ y_MO_refresh.cls ≠ "java/lang/invoke/VarHandle" ∧ (parseMethodDescriptor y_MO_refresh.desc).map (fun d => d.parameters.length) = some 0 := by decide +kernel
abbrev b_MO_open : ByteArray := prog_9_method_6_code
def y_MO_open : MethodName := ⟨R_MO, "open", "(I)I"⟩
theorem hd_MO_open : y_MO_open.cls = R_MO ∧ y_MO_open.cls ≠ "java/lang/invoke/MethodHandle" ∧ y_MO_open.cls ≠ "java/lang/invoke/VarHandle" ∧ (parseMethodDescriptor y_MO_open.desc).map (fun d => d.parameters.length) = some 1 := by decide +kernel
abbrev b_MO_kind : ByteArray := prog_9_method_7_code
def y_MO_kind : MethodName := ⟨R_MO, "kind", "()I"⟩
theorem hd_MO_kind : y_MO_kind.cls = R_MO ∧ y_MO_kind.cls ≠ "java/lang/invoke/MethodHandle" ∧ y_MO_kind.cls ≠ "java/lang/invoke/VarHandle" ∧ (parseMethodDescriptor y_MO_kind.desc).map (fun d => d.parameters.length) = some 0 := by decide +kernel
abbrev b_MO_isClue : ByteArray := prog_9_method_8_code
def y_MO_isClue : MethodName := ⟨R_MO, "isClue", "(I)Z"⟩
theorem hd_MO_isClue : y_MO_isClue.cls = R_MO ∧ y_MO_isClue.cls ≠ "java/lang/invoke/MethodHandle" ∧ y_MO_isClue.cls ≠ "java/lang/invoke/VarHandle" ∧ (parseMethodDescriptor y_MO_isClue.desc).map (fun d => d.parameters.length) = some 1 := by decide +kernel
abbrev b_MO_clue : ByteArray := prog_9_method_9_code
def y_MO_clue : MethodName := ⟨R_MO, "clue", "(II)I"⟩
theorem hd_MO_clue : y_MO_clue.cls = R_MO ∧ y_MO_clue.cls ≠ "java/lang/invoke/MethodHandle" ∧ y_MO_clue.cls ≠ "java/lang/invoke/VarHandle" ∧ (parseMethodDescriptor y_MO_clue.desc).map (fun d => d.parameters.length) = some 2 := by decide +kernel
abbrev b_MO_noCell : ByteArray := prog_9_method_10_code
def y_MO_noCell : MethodName := ⟨R_MO, "noCell", "(I)Z"⟩
theorem hd_MO_noCell : y_MO_noCell.cls = R_MO ∧ y_MO_noCell.cls ≠ "java/lang/invoke/MethodHandle" ∧ y_MO_noCell.cls ≠ "java/lang/invoke/VarHandle" ∧ (parseMethodDescriptor y_MO_noCell.desc).map (fun d => d.parameters.length) = some 1 := by decide +kernel
abbrev b_MO_sizeOf : ByteArray := prog_9_method_11_code
def y_MO_sizeOf : MethodName := ⟨R_MO, "sizeOf", "(I)I"⟩
theorem hd_MO_sizeOf : y_MO_sizeOf.cls = R_MO ∧ y_MO_sizeOf.cls ≠ "java/lang/invoke/MethodHandle" ∧ y_MO_sizeOf.cls ≠ "java/lang/invoke/VarHandle" ∧ (parseMethodDescriptor y_MO_sizeOf.desc).map (fun d => d.parameters.length) = some 1 := by decide +kernel
abbrev b_MO_group : ByteArray := prog_9_method_12_code
def y_MO_group : MethodName := ⟨R_MO, "group", "(II)I"⟩
theorem hd_MO_group : y_MO_group.cls = R_MO ∧ y_MO_group.cls ≠ "java/lang/invoke/MethodHandle" ∧ y_MO_group.cls ≠ "java/lang/invoke/VarHandle" ∧ (parseMethodDescriptor y_MO_group.desc).map (fun d => d.parameters.length) = some 2 := by decide +kernel
abbrev b_MO_rule : ByteArray := prog_9_method_13_code
def y_MO_rule : MethodName := ⟨R_MO, "rule", "(III)I"⟩
theorem hd_MO_rule : y_MO_rule.cls = R_MO ∧ y_MO_rule.cls ≠ "java/lang/invoke/MethodHandle" ∧ y_MO_rule.cls ≠ "java/lang/invoke/VarHandle" ∧ (parseMethodDescriptor y_MO_rule.desc).map (fun d => d.parameters.length) = some 3 := by decide +kernel
abbrev b_MO_isValue : ByteArray := prog_9_method_14_code
def y_MO_isValue : MethodName := ⟨R_MO, "isValue", "(I)Z"⟩
theorem hd_MO_isValue : y_MO_isValue.cls = R_MO ∧ y_MO_isValue.cls ≠ "java/lang/invoke/MethodHandle" ∧ y_MO_isValue.cls ≠ "java/lang/invoke/VarHandle" ∧ (parseMethodDescriptor y_MO_isValue.desc).map (fun d => d.parameters.length) = some 1 := by decide +kernel
abbrev b_MO_give : ByteArray := prog_9_method_15_code
def y_MO_give : MethodName := ⟨R_MO, "give", "(II)I"⟩
theorem hd_MO_give : y_MO_give.cls = R_MO ∧ y_MO_give.cls ≠ "java/lang/invoke/MethodHandle" ∧ y_MO_give.cls ≠ "java/lang/invoke/VarHandle" ∧ (parseMethodDescriptor y_MO_give.desc).map (fun d => d.parameters.length) = some 2 := by decide +kernel
abbrev b_MO_given : ByteArray := prog_9_method_16_code
def y_MO_given : MethodName := ⟨R_MO, "given", "(I)I"⟩
theorem hd_MO_given : y_MO_given.cls = R_MO ∧ y_MO_given.cls ≠ "java/lang/invoke/MethodHandle" ∧ y_MO_given.cls ≠ "java/lang/invoke/VarHandle" ∧ (parseMethodDescriptor y_MO_given.desc).map (fun d => d.parameters.length) = some 1 := by decide +kernel
abbrev b_MO_stretchesOf : ByteArray := prog_9_method_17_code
def y_MO_stretchesOf : MethodName := ⟨R_MO, "stretchesOf", "(I)I"⟩
theorem hd_MO_stretchesOf : y_MO_stretchesOf.cls = R_MO ∧ y_MO_stretchesOf.cls ≠ "java/lang/invoke/MethodHandle" ∧ y_MO_stretchesOf.cls ≠ "java/lang/invoke/VarHandle" ∧ (parseMethodDescriptor y_MO_stretchesOf.desc).map (fun d => d.parameters.length) = some 1 := by decide +kernel
abbrev b_MO_valueOf : ByteArray := prog_9_method_18_code
def y_MO_valueOf : MethodName := ⟨R_MO, "valueOf", "(II)I"⟩
theorem hd_MO_valueOf : y_MO_valueOf.cls = R_MO ∧ y_MO_valueOf.cls ≠ "java/lang/invoke/MethodHandle" ∧ y_MO_valueOf.cls ≠ "java/lang/invoke/VarHandle" ∧ (parseMethodDescriptor y_MO_valueOf.desc).map (fun d => d.parameters.length) = some 2 := by decide +kernel
abbrev b_MO_ones : ByteArray := prog_9_method_19_code
def y_MO_ones : MethodName := ⟨R_MO, "ones", "(I)I"⟩
theorem hd_MO_ones : y_MO_ones.cls = R_MO ∧ y_MO_ones.cls ≠ "java/lang/invoke/MethodHandle" ∧ y_MO_ones.cls ≠ "java/lang/invoke/VarHandle" ∧ (parseMethodDescriptor y_MO_ones.desc).map (fun d => d.parameters.length) = some 1 := by decide +kernel
abbrev b_MO_lay : ByteArray := prog_9_method_20_code
def y_MO_lay : MethodName := ⟨R_MO, "lay", "(II)Z"⟩
theorem hd_MO_lay : y_MO_lay.cls = R_MO ∧ y_MO_lay.cls ≠ "java/lang/invoke/MethodHandle" ∧ y_MO_lay.cls ≠ "java/lang/invoke/VarHandle" ∧ (parseMethodDescriptor y_MO_lay.desc).map (fun d => d.parameters.length) = some 2 := by decide +kernel
abbrev b_MO_columnsFit : ByteArray := prog_9_method_21_code
def y_MO_columnsFit : MethodName := ⟨R_MO, "columnsFit", "()Z"⟩
theorem hd_MO_columnsFit : y_MO_columnsFit.cls = R_MO ∧ y_MO_columnsFit.cls ≠ "java/lang/invoke/MethodHandle" ∧ y_MO_columnsFit.cls ≠ "java/lang/invoke/VarHandle" ∧ (parseMethodDescriptor y_MO_columnsFit.desc).map (fun d => d.parameters.length) = some 0 := by decide +kernel
abbrev b_MO_groupsFit : ByteArray := prog_9_method_22_code
def y_MO_groupsFit : MethodName := ⟨R_MO, "groupsFit", "()Z"⟩
theorem hd_MO_groupsFit : y_MO_groupsFit.cls = R_MO ∧ y_MO_groupsFit.cls ≠ "java/lang/invoke/MethodHandle" ∧ y_MO_groupsFit.cls ≠ "java/lang/invoke/VarHandle" ∧ (parseMethodDescriptor y_MO_groupsFit.desc).map (fun d => d.parameters.length) = some 0 := by decide +kernel
abbrev b_MO_apart : ByteArray := prog_9_method_23_code
def y_MO_apart : MethodName := ⟨R_MO, "apart", "(II)I"⟩
theorem hd_MO_apart : y_MO_apart.cls = R_MO ∧ y_MO_apart.cls ≠ "java/lang/invoke/MethodHandle" ∧ y_MO_apart.cls ≠ "java/lang/invoke/VarHandle" ∧ (parseMethodDescriptor y_MO_apart.desc).map (fun d => d.parameters.length) = some 2 := by decide +kernel
abbrev b_MO_touch : ByteArray := prog_9_method_24_code
def y_MO_touch : MethodName := ⟨R_MO, "touch", "(II)Z"⟩
theorem hd_MO_touch : y_MO_touch.cls = R_MO ∧ y_MO_touch.cls ≠ "java/lang/invoke/MethodHandle" ∧ y_MO_touch.cls ≠ "java/lang/invoke/VarHandle" ∧ (parseMethodDescriptor y_MO_touch.desc).map (fun d => d.parameters.length) = some 2 := by decide +kernel
abbrev b_MO_starsFit : ByteArray := prog_9_method_25_code
def y_MO_starsFit : MethodName := ⟨R_MO, "starsFit", "()Z"⟩
theorem hd_MO_starsFit : y_MO_starsFit.cls = R_MO ∧ y_MO_starsFit.cls ≠ "java/lang/invoke/MethodHandle" ∧ y_MO_starsFit.cls ≠ "java/lang/invoke/VarHandle" ∧ (parseMethodDescriptor y_MO_starsFit.desc).map (fun d => d.parameters.length) = some 0 := by decide +kernel
abbrev b_MO_isFilling : ByteArray := prog_9_method_26_code
def y_MO_isFilling : MethodName := ⟨R_MO, "isFilling", "()Z"⟩
theorem hd_MO_isFilling : y_MO_isFilling.cls = R_MO ∧ y_MO_isFilling.cls ≠ "java/lang/invoke/MethodHandle" ∧ y_MO_isFilling.cls ≠ "java/lang/invoke/VarHandle" ∧ (parseMethodDescriptor y_MO_isFilling.desc).map (fun d => d.parameters.length) = some 0 := by decide +kernel
abbrev b_MO_search : ByteArray := prog_9_method_27_code
def y_MO_search : MethodName := ⟨R_MO, "search", "()V"⟩
theorem hd_MO_search : y_MO_search.cls = R_MO ∧ y_MO_search.cls ≠ "java/lang/invoke/MethodHandle" ∧ y_MO_search.cls ≠ "java/lang/invoke/VarHandle" ∧ (parseMethodDescriptor y_MO_search.desc).map (fun d => d.parameters.length) = some 0 := by decide +kernel
abbrev b_MO_fillings : ByteArray := prog_9_method_28_code
def y_MO_fillings : MethodName := ⟨R_MO, "fillings", "()I"⟩
theorem hd_MO_fillings : y_MO_fillings.cls = R_MO ∧ y_MO_fillings.cls ≠ "java/lang/invoke/MethodHandle" ∧ y_MO_fillings.cls ≠ "java/lang/invoke/VarHandle" ∧ (parseMethodDescriptor y_MO_fillings.desc).map (fun d => d.parameters.length) = some 0 := by decide +kernel
abbrev b_MO_value : ByteArray := prog_9_method_29_code
def y_MO_value : MethodName := ⟨R_MO, "value", "(I)I"⟩
theorem hd_MO_value : y_MO_value.cls = R_MO ∧ y_MO_value.cls ≠ "java/lang/invoke/MethodHandle" ∧ y_MO_value.cls ≠ "java/lang/invoke/VarHandle" ∧ (parseMethodDescriptor y_MO_value.desc).map (fun d => d.parameters.length) = some 1 := by decide +kernel
abbrev b_MO_may : ByteArray := prog_9_method_30_code
def y_MO_may : MethodName := ⟨R_MO, "may", "(II)Z"⟩
theorem hd_MO_may : y_MO_may.cls = R_MO ∧ y_MO_may.cls ≠ "java/lang/invoke/MethodHandle" ∧ y_MO_may.cls ≠ "java/lang/invoke/VarHandle" ∧ (parseMethodDescriptor y_MO_may.desc).map (fun d => d.parameters.length) = some 2 := by decide +kernel
abbrev b_MO_lose : ByteArray := prog_9_method_31_code
def y_MO_lose : MethodName := ⟨R_MO, "lose", "()V"⟩
theorem hd_MO_lose : y_MO_lose.cls = R_MO ∧ y_MO_lose.cls ≠ "java/lang/invoke/MethodHandle" ∧ y_MO_lose.cls ≠ "java/lang/invoke/VarHandle" ∧ (parseMethodDescriptor y_MO_lose.desc).map (fun d => d.parameters.length) = some 0 := by decide +kernel
abbrev b_MO_beginUnit : ByteArray := prog_9_method_32_code
def y_MO_beginUnit : MethodName := ⟨R_MO, "beginUnit", "()V"⟩
theorem hd_MO_beginUnit : y_MO_beginUnit.cls = R_MO ∧ y_MO_beginUnit.cls ≠ "java/lang/invoke/MethodHandle" ∧ y_MO_beginUnit.cls ≠ "java/lang/invoke/VarHandle" ∧ (parseMethodDescriptor y_MO_beginUnit.desc).map (fun d => d.parameters.length) = some 0 := by decide +kernel
abbrev b_MO_addCell : ByteArray := prog_9_method_33_code
def y_MO_addCell : MethodName := ⟨R_MO, "addCell", "(I)V"⟩
theorem hd_MO_addCell : y_MO_addCell.cls = R_MO ∧ y_MO_addCell.cls ≠ "java/lang/invoke/MethodHandle" ∧ y_MO_addCell.cls ≠ "java/lang/invoke/VarHandle" ∧ (parseMethodDescriptor y_MO_addCell.desc).map (fun d => d.parameters.length) = some 1 := by decide +kernel
abbrev b_MO_addLine : ByteArray := prog_9_method_34_code
def y_MO_addLine : MethodName := ⟨R_MO, "addLine", "(I)V"⟩
theorem hd_MO_addLine : y_MO_addLine.cls = R_MO ∧ y_MO_addLine.cls ≠ "java/lang/invoke/MethodHandle" ∧ y_MO_addLine.cls ≠ "java/lang/invoke/VarHandle" ∧ (parseMethodDescriptor y_MO_addLine.desc).map (fun d => d.parameters.length) = some 1 := by decide +kernel
abbrev b_MO_tryPicture : ByteArray := prog_9_method_35_code
def y_MO_tryPicture : MethodName := ⟨R_MO, "tryPicture", "(I)V"⟩
theorem hd_MO_tryPicture : y_MO_tryPicture.cls = R_MO ∧ y_MO_tryPicture.cls ≠ "java/lang/invoke/MethodHandle" ∧ y_MO_tryPicture.cls ≠ "java/lang/invoke/VarHandle" ∧ (parseMethodDescriptor y_MO_tryPicture.desc).map (fun d => d.parameters.length) = some 1 := by decide +kernel
abbrev b_MO_goes : ByteArray := prog_9_method_36_code
def y_MO_goes : MethodName := ⟨R_MO, "goes", "(III)Z"⟩
theorem hd_MO_goes : y_MO_goes.cls = R_MO ∧ y_MO_goes.cls ≠ "java/lang/invoke/MethodHandle" ∧ y_MO_goes.cls ≠ "java/lang/invoke/VarHandle" ∧ (parseMethodDescriptor y_MO_goes.desc).map (fun d => d.parameters.length) = some 3 := by decide +kernel
abbrev b_MO_note : ByteArray := prog_9_method_37_code
def y_MO_note : MethodName := ⟨R_MO, "note", "(IIIIII)V"⟩
theorem hd_MO_note : y_MO_note.cls = R_MO ∧ y_MO_note.cls ≠ "java/lang/invoke/MethodHandle" ∧ y_MO_note.cls ≠ "java/lang/invoke/VarHandle" ∧ (parseMethodDescriptor y_MO_note.desc).map (fun d => d.parameters.length) = some 6 := by decide +kernel
abbrev b_MO_trySquare : ByteArray := prog_9_method_38_code
def y_MO_trySquare : MethodName := ⟨R_MO, "trySquare", "(II)V"⟩
theorem hd_MO_trySquare : y_MO_trySquare.cls = R_MO ∧ y_MO_trySquare.cls ≠ "java/lang/invoke/MethodHandle" ∧ y_MO_trySquare.cls ≠ "java/lang/invoke/VarHandle" ∧ (parseMethodDescriptor y_MO_trySquare.desc).map (fun d => d.parameters.length) = some 2 := by decide +kernel
abbrev b_MO_tryStar : ByteArray := prog_9_method_39_code
def y_MO_tryStar : MethodName := ⟨R_MO, "tryStar", "()V"⟩
theorem hd_MO_tryStar : y_MO_tryStar.cls = R_MO ∧ y_MO_tryStar.cls ≠ "java/lang/invoke/MethodHandle" ∧ y_MO_tryStar.cls ≠ "java/lang/invoke/VarHandle" ∧ (parseMethodDescriptor y_MO_tryStar.desc).map (fun d => d.parameters.length) = some 0 := by decide +kernel
abbrev b_MO_tryPairs : ByteArray := prog_9_method_40_code
def y_MO_tryPairs : MethodName := ⟨R_MO, "tryPairs", "()V"⟩
theorem hd_MO_tryPairs : y_MO_tryPairs.cls = R_MO ∧ y_MO_tryPairs.cls ≠ "java/lang/invoke/MethodHandle" ∧ y_MO_tryPairs.cls ≠ "java/lang/invoke/VarHandle" ∧ (parseMethodDescriptor y_MO_tryPairs.desc).map (fun d => d.parameters.length) = some 0 := by decide +kernel
abbrev b_MO_addGroup : ByteArray := prog_9_method_41_code
def y_MO_addGroup : MethodName := ⟨R_MO, "addGroup", "(I)V"⟩
theorem hd_MO_addGroup : y_MO_addGroup.cls = R_MO ∧ y_MO_addGroup.cls ≠ "java/lang/invoke/MethodHandle" ∧ y_MO_addGroup.cls ≠ "java/lang/invoke/VarHandle" ∧ (parseMethodDescriptor y_MO_addGroup.desc).map (fun d => d.parameters.length) = some 1 := by decide +kernel
abbrev b_MO_look : ByteArray := prog_9_method_42_code
def y_MO_look : MethodName := ⟨R_MO, "look", "()Z"⟩
theorem hd_MO_look : y_MO_look.cls = R_MO ∧ y_MO_look.cls ≠ "java/lang/invoke/MethodHandle" ∧ y_MO_look.cls ≠ "java/lang/invoke/VarHandle" ∧ (parseMethodDescriptor y_MO_look.desc).map (fun d => d.parameters.length) = some 0 := by decide +kernel
abbrev b_MO_reasonByOne : ByteArray := prog_9_method_43_code
def y_MO_reasonByOne : MethodName := ⟨R_MO, "reasonByOne", "()V"⟩
theorem hd_MO_reasonByOne : y_MO_reasonByOne.cls = R_MO ∧ y_MO_reasonByOne.cls ≠ "java/lang/invoke/MethodHandle" ∧ y_MO_reasonByOne.cls ≠ "java/lang/invoke/VarHandle" ∧ (parseMethodDescriptor y_MO_reasonByOne.desc).map (fun d => d.parameters.length) = some 0 := by decide +kernel
abbrev b_MO_isEmpty : ByteArray := prog_9_method_44_code
def y_MO_isEmpty : MethodName := ⟨R_MO, "isEmpty", "()Z"⟩
theorem hd_MO_isEmpty : y_MO_isEmpty.cls = R_MO ∧ y_MO_isEmpty.cls ≠ "java/lang/invoke/MethodHandle" ∧ y_MO_isEmpty.cls ≠ "java/lang/invoke/VarHandle" ∧ (parseMethodDescriptor y_MO_isEmpty.desc).map (fun d => d.parameters.length) = some 0 := by decide +kernel
abbrev b_MO_fails : ByteArray := prog_9_method_45_code
def y_MO_fails : MethodName := ⟨R_MO, "fails", "(II)Z"⟩
theorem hd_MO_fails : y_MO_fails.cls = R_MO ∧ y_MO_fails.cls ≠ "java/lang/invoke/MethodHandle" ∧ y_MO_fails.cls ≠ "java/lang/invoke/VarHandle" ∧ (parseMethodDescriptor y_MO_fails.desc).map (fun d => d.parameters.length) = some 2 := by decide +kernel
abbrev b_MO_reasonByBoth : ByteArray := prog_9_method_46_code
def y_MO_reasonByBoth : MethodName := ⟨R_MO, "reasonByBoth", "()V"⟩
theorem hd_MO_reasonByBoth : y_MO_reasonByBoth.cls = R_MO ∧ y_MO_reasonByBoth.cls ≠ "java/lang/invoke/MethodHandle" ∧ y_MO_reasonByBoth.cls ≠ "java/lang/invoke/VarHandle" ∧ (parseMethodDescriptor y_MO_reasonByBoth.desc).map (fun d => d.parameters.length) = some 0 := by decide +kernel
abbrev b_MO_countAll : ByteArray := prog_9_method_47_code
def y_MO_countAll : MethodName := ⟨R_MO, "countAll", "()I"⟩
theorem hd_MO_countAll : y_MO_countAll.cls = R_MO ∧ y_MO_countAll.cls ≠ "java/lang/invoke/MethodHandle" ∧ y_MO_countAll.cls ≠ "java/lang/invoke/VarHandle" ∧ (parseMethodDescriptor y_MO_countAll.desc).map (fun d => d.parameters.length) = some 0 := by decide +kernel
abbrev b_MO_fresh : ByteArray := prog_9_method_48_code
def y_MO_fresh : MethodName := ⟨R_MO, "fresh", "()I"⟩
theorem hd_MO_fresh : y_MO_fresh.cls = R_MO ∧ y_MO_fresh.cls ≠ "java/lang/invoke/MethodHandle" ∧ y_MO_fresh.cls ≠ "java/lang/invoke/VarHandle" ∧ (parseMethodDescriptor y_MO_fresh.desc).map (fun d => d.parameters.length) = some 0 := by decide +kernel
abbrev b_MO_reason : ByteArray := prog_9_method_49_code
def y_MO_reason : MethodName := ⟨R_MO, "reason", "(I)I"⟩
theorem hd_MO_reason : y_MO_reason.cls = R_MO ∧ y_MO_reason.cls ≠ "java/lang/invoke/MethodHandle" ∧ y_MO_reason.cls ≠ "java/lang/invoke/VarHandle" ∧ (parseMethodDescriptor y_MO_reason.desc).map (fun d => d.parameters.length) = some 1 := by decide +kernel
abbrev b_MO_candidates : ByteArray := prog_9_method_50_code
def y_MO_candidates : MethodName := ⟨R_MO, "candidates", "(I)I"⟩
theorem hd_MO_candidates : y_MO_candidates.cls = R_MO ∧ y_MO_candidates.cls ≠ "java/lang/invoke/MethodHandle" ∧ y_MO_candidates.cls ≠ "java/lang/invoke/VarHandle" ∧ (parseMethodDescriptor y_MO_candidates.desc).map (fun d => d.parameters.length) = some 1 := by decide +kernel
abbrev b_MO_firstLost : ByteArray := prog_9_method_51_code
def y_MO_firstLost : MethodName := ⟨R_MO, "firstLost", "()I"⟩
theorem hd_MO_firstLost : y_MO_firstLost.cls = R_MO ∧ y_MO_firstLost.cls ≠ "java/lang/invoke/MethodHandle" ∧ y_MO_firstLost.cls ≠ "java/lang/invoke/VarHandle" ∧ (parseMethodDescriptor y_MO_firstLost.desc).map (fun d => d.parameters.length) = some 0 := by decide +kernel
abbrev b_MO_firstFailing : ByteArray := prog_9_method_52_code
def y_MO_firstFailing : MethodName := ⟨R_MO, "firstFailing", "()I"⟩
theorem hd_MO_firstFailing : y_MO_firstFailing.cls = R_MO ∧ y_MO_firstFailing.cls ≠ "java/lang/invoke/MethodHandle" ∧ y_MO_firstFailing.cls ≠ "java/lang/invoke/VarHandle" ∧ (parseMethodDescriptor y_MO_firstFailing.desc).map (fun d => d.parameters.length) = some 0 := by decide +kernel
abbrev b_MO_step : ByteArray := prog_9_method_53_code
def y_MO_step : MethodName := ⟨R_MO, "step", "()I"⟩
theorem hd_MO_step : y_MO_step.cls = R_MO ∧ y_MO_step.cls ≠ "java/lang/invoke/MethodHandle" ∧ y_MO_step.cls ≠ "java/lang/invoke/VarHandle" ∧ (parseMethodDescriptor y_MO_step.desc).map (fun d => d.parameters.length) = some 0 := by decide +kernel
abbrev b_MO_isDone : ByteArray := prog_9_method_54_code
def y_MO_isDone : MethodName := ⟨R_MO, "isDone", "()Z"⟩
theorem hd_MO_isDone : y_MO_isDone.cls = R_MO ∧ y_MO_isDone.cls ≠ "java/lang/invoke/MethodHandle" ∧ y_MO_isDone.cls ≠ "java/lang/invoke/VarHandle" ∧ (parseMethodDescriptor y_MO_isDone.desc).map (fun d => d.parameters.length) = some 0 := by decide +kernel
abbrev b_MO_gradeNow : ByteArray := prog_9_method_55_code
def y_MO_gradeNow : MethodName := ⟨R_MO, "gradeNow", "()I"⟩
theorem hd_MO_gradeNow : y_MO_gradeNow.cls = R_MO ∧ y_MO_gradeNow.cls ≠ "java/lang/invoke/MethodHandle" ∧ y_MO_gradeNow.cls ≠ "java/lang/invoke/VarHandle" ∧ (parseMethodDescriptor y_MO_gradeNow.desc).map (fun d => d.parameters.length) = some 0 := by decide +kernel
abbrev b_MO_grade : ByteArray := prog_9_method_56_code
def y_MO_grade : MethodName := ⟨R_MO, "grade", "()I"⟩
theorem hd_MO_grade : y_MO_grade.cls = R_MO ∧ y_MO_grade.cls ≠ "java/lang/invoke/MethodHandle" ∧ y_MO_grade.cls ≠ "java/lang/invoke/VarHandle" ∧ (parseMethodDescriptor y_MO_grade.desc).map (fun d => d.parameters.length) = some 0 := by decide +kernel
abbrev b_MO_full : ByteArray := prog_9_method_57_code
def y_MO_full : MethodName := ⟨R_MO, "full", "()I"⟩
theorem hd_MO_full : y_MO_full.cls = R_MO ∧ y_MO_full.cls ≠ "java/lang/invoke/MethodHandle" ∧ y_MO_full.cls ≠ "java/lang/invoke/VarHandle" ∧ (parseMethodDescriptor y_MO_full.desc).map (fun d => d.parameters.length) = some 0 := by decide +kernel
abbrev b_MO_thin : ByteArray := prog_9_method_58_code
def y_MO_thin : MethodName := ⟨R_MO, "thin", "(I)I"⟩
theorem hd_MO_thin : y_MO_thin.cls = R_MO ∧ y_MO_thin.cls ≠ "java/lang/invoke/MethodHandle" ∧ y_MO_thin.cls ≠ "java/lang/invoke/VarHandle" ∧ (parseMethodDescriptor y_MO_thin.desc).map (fun d => d.parameters.length) = some 1 := by decide +kernel
abbrev b_KD_init : ByteArray := prog_2_method_1_code
def y_KD_init : MethodName := ⟨R_KD, "<init>", "(IIII)V"⟩
theorem hd_KD_init : y_KD_init.cls = R_KD ∧ y_KD_init.cls ≠ "java/lang/invoke/MethodHandle" ∧ y_KD_init.cls ≠ "java/lang/invoke/VarHandle" ∧ (parseMethodDescriptor y_KD_init.desc).map (fun d => d.parameters.length) = some 4 := by decide +kernel
abbrev b_KD_hasCell : ByteArray := prog_2_method_5_code
def y_KD_hasCell : MethodName := ⟨R_KD, "hasCell", "(I)Z"⟩
theorem hd_KD_hasCell : y_KD_hasCell.cls = R_KD ∧ y_KD_hasCell.cls ≠ "java/lang/invoke/MethodHandle" ∧ y_KD_hasCell.cls ≠ "java/lang/invoke/VarHandle" ∧ (parseMethodDescriptor y_KD_hasCell.desc).map (fun d => d.parameters.length) = some 1 := by decide +kernel
abbrev b_KD_hasValue : ByteArray := prog_2_method_6_code
def y_KD_hasValue : MethodName := ⟨R_KD, "hasValue", "(I)Z"⟩
theorem hd_KD_hasValue : y_KD_hasValue.cls = R_KD ∧ y_KD_hasValue.cls ≠ "java/lang/invoke/MethodHandle" ∧ y_KD_hasValue.cls ≠ "java/lang/invoke/VarHandle" ∧ (parseMethodDescriptor y_KD_hasValue.desc).map (fun d => d.parameters.length) = some 1 := by decide +kernel
abbrev b_KD_bit : ByteArray := prog_2_method_7_code
def y_KD_bit : MethodName := ⟨R_KD, "bit", "(II)J"⟩
theorem hd_KD_bit : y_KD_bit.cls = R_KD ∧ y_KD_bit.cls ≠ "java/lang/invoke/MethodHandle" ∧ y_KD_bit.cls ≠ "java/lang/invoke/VarHandle" ∧ (parseMethodDescriptor y_KD_bit.desc).map (fun d => d.parameters.length) = some 2 := by decide +kernel
abbrev b_KD_allOf : ByteArray := prog_2_method_8_code
def y_KD_allOf : MethodName := ⟨R_KD, "allOf", "(I)J"⟩
theorem hd_KD_allOf : y_KD_allOf.cls = R_KD ∧ y_KD_allOf.cls ≠ "java/lang/invoke/MethodHandle" ∧ y_KD_allOf.cls ≠ "java/lang/invoke/VarHandle" ∧ (parseMethodDescriptor y_KD_allOf.desc).map (fun d => d.parameters.length) = some 1 := by decide +kernel
abbrev b_KD_cellOf : ByteArray := prog_2_method_9_code
def y_KD_cellOf : MethodName := ⟨R_KD, "cellOf", "(J)I"⟩
theorem hd_KD_cellOf : y_KD_cellOf.cls = R_KD ∧ y_KD_cellOf.cls ≠ "java/lang/invoke/MethodHandle" ∧ y_KD_cellOf.cls ≠ "java/lang/invoke/VarHandle" ∧ (parseMethodDescriptor y_KD_cellOf.desc).map (fun d => d.parameters.length) = some 1 := by decide +kernel
abbrev b_KD_valuesIn : ByteArray := prog_2_method_10_code
def y_KD_valuesIn : MethodName := ⟨R_KD, "valuesIn", "(JI)I"⟩
theorem hd_KD_valuesIn : y_KD_valuesIn.cls = R_KD ∧ y_KD_valuesIn.cls ≠ "java/lang/invoke/MethodHandle" ∧ y_KD_valuesIn.cls ≠ "java/lang/invoke/VarHandle" ∧ (parseMethodDescriptor y_KD_valuesIn.desc).map (fun d => d.parameters.length) = some 2 := by decide +kernel
abbrev b_KD_valueIn : ByteArray := prog_2_method_11_code
def y_KD_valueIn : MethodName := ⟨R_KD, "valueIn", "(JI)I"⟩
theorem hd_KD_valueIn : y_KD_valueIn.cls = R_KD ∧ y_KD_valueIn.cls ≠ "java/lang/invoke/MethodHandle" ∧ y_KD_valueIn.cls ≠ "java/lang/invoke/VarHandle" ∧ (parseMethodDescriptor y_KD_valueIn.desc).map (fun d => d.parameters.length) = some 2 := by decide +kernel
abbrev b_KD_membersOf : ByteArray := prog_2_method_12_code
def y_KD_membersOf : MethodName := ⟨R_KD, "membersOf", "(I)I"⟩
theorem hd_KD_membersOf : y_KD_membersOf.cls = R_KD ∧ y_KD_membersOf.cls ≠ "java/lang/invoke/MethodHandle" ∧ y_KD_membersOf.cls ≠ "java/lang/invoke/VarHandle" ∧ (parseMethodDescriptor y_KD_membersOf.desc).map (fun d => d.parameters.length) = some 1 := by decide +kernel
abbrev b_KD_rowCells : ByteArray := prog_2_method_13_code
def y_KD_rowCells : MethodName := ⟨R_KD, "rowCells", "(I)I"⟩
theorem hd_KD_rowCells : y_KD_rowCells.cls = R_KD ∧ y_KD_rowCells.cls ≠ "java/lang/invoke/MethodHandle" ∧ y_KD_rowCells.cls ≠ "java/lang/invoke/VarHandle" ∧ (parseMethodDescriptor y_KD_rowCells.desc).map (fun d => d.parameters.length) = some 1 := by decide +kernel
abbrev b_KD_columnCells : ByteArray := prog_2_method_14_code
def y_KD_columnCells : MethodName := ⟨R_KD, "columnCells", "(I)I"⟩
theorem hd_KD_columnCells : y_KD_columnCells.cls = R_KD ∧ y_KD_columnCells.cls ≠ "java/lang/invoke/MethodHandle" ∧ y_KD_columnCells.cls ≠ "java/lang/invoke/VarHandle" ∧ (parseMethodDescriptor y_KD_columnCells.desc).map (fun d => d.parameters.length) = some 1 := by decide +kernel
abbrev b_KD_scopeOf : ByteArray := prog_2_method_15_code
def y_KD_scopeOf : MethodName := ⟨R_KD, "scopeOf", "(I)J"⟩
theorem hd_KD_scopeOf : y_KD_scopeOf.cls = R_KD ∧ y_KD_scopeOf.cls ≠ "java/lang/invoke/MethodHandle" ∧ y_KD_scopeOf.cls ≠ "java/lang/invoke/VarHandle" ∧ (parseMethodDescriptor y_KD_scopeOf.desc).map (fun d => d.parameters.length) = some 1 := by decide +kernel
abbrev b_KD_firstOf : ByteArray := prog_2_method_16_code
def y_KD_firstOf : MethodName := ⟨R_KD, "firstOf", "(I)I"⟩
theorem hd_KD_firstOf : y_KD_firstOf.cls = R_KD ∧ y_KD_firstOf.cls ≠ "java/lang/invoke/MethodHandle" ∧ y_KD_firstOf.cls ≠ "java/lang/invoke/VarHandle" ∧ (parseMethodDescriptor y_KD_firstOf.desc).map (fun d => d.parameters.length) = some 1 := by decide +kernel
abbrev b_PI_init : ByteArray := prog_3_method_1_code
def y_PI_init : MethodName := ⟨R_PI, "<init>", "()V"⟩
theorem hd_PI_init : y_PI_init.cls = R_PI ∧ y_PI_init.cls ≠ "java/lang/invoke/MethodHandle" ∧ y_PI_init.cls ≠ "java/lang/invoke/VarHandle" ∧ (parseMethodDescriptor y_PI_init.desc).map (fun d => d.parameters.length) = some 0 := by decide +kernel
abbrev b_PI_makeNew : ByteArray := prog_3_method_2_code
def y_PI_makeNew : MethodName := ⟨R_PI, "makeNew", "()V"⟩
theorem hd_PI_makeNew : y_PI_makeNew.cls = R_PI ∧ y_PI_makeNew.cls ≠ "java/lang/invoke/MethodHandle" ∧ y_PI_makeNew.cls ≠ "java/lang/invoke/VarHandle" ∧ (parseMethodDescriptor y_PI_makeNew.desc).map (fun d => d.parameters.length) = some 0 := by decide +kernel
abbrev b_PI_addFixedUnits : ByteArray := prog_3_method_3_code
def y_PI_addFixedUnits : MethodName := ⟨R_PI, "addFixedUnits", "(LPuzzlePress$Units;)V"⟩
theorem hd_PI_addFixedUnits : y_PI_addFixedUnits.cls = R_PI ∧ y_PI_addFixedUnits.cls ≠ "java/lang/invoke/MethodHandle" ∧ y_PI_addFixedUnits.cls ≠ "java/lang/invoke/VarHandle" ∧ (parseMethodDescriptor y_PI_addFixedUnits.desc).map (fun d => d.parameters.length) = some 1 := by decide +kernel
abbrev b_PI_addOtherUnits : ByteArray := prog_3_method_4_code
def y_PI_addOtherUnits : MethodName := ⟨R_PI, "addOtherUnits", "(LPuzzlePress$Units;)V"⟩
theorem hd_PI_addOtherUnits : y_PI_addOtherUnits.cls = R_PI ∧ y_PI_addOtherUnits.cls ≠ "java/lang/invoke/MethodHandle" ∧ y_PI_addOtherUnits.cls ≠ "java/lang/invoke/VarHandle" ∧ (parseMethodDescriptor y_PI_addOtherUnits.desc).map (fun d => d.parameters.length) = some 1 := by decide +kernel
abbrev b_PI_isClue : ByteArray := prog_3_method_5_code
def y_PI_isClue : MethodName := ⟨R_PI, "isClue", "(I)Z"⟩
theorem hd_PI_isClue : y_PI_isClue.cls = R_PI ∧ y_PI_isClue.cls ≠ "java/lang/invoke/MethodHandle" ∧ y_PI_isClue.cls ≠ "java/lang/invoke/VarHandle" ∧ (parseMethodDescriptor y_PI_isClue.desc).map (fun d => d.parameters.length) = some 1 := by decide +kernel
abbrev b_PI_readClue : ByteArray := prog_3_method_6_code
def y_PI_readClue : MethodName := ⟨R_PI, "readClue", "(I)I"⟩
theorem hd_PI_readClue : y_PI_readClue.cls = R_PI ∧ y_PI_readClue.cls ≠ "java/lang/invoke/MethodHandle" ∧ y_PI_readClue.cls ≠ "java/lang/invoke/VarHandle" ∧ (parseMethodDescriptor y_PI_readClue.desc).map (fun d => d.parameters.length) = some 1 := by decide +kernel
abbrev b_PI_wayOf : ByteArray := prog_3_method_7_code
def y_PI_wayOf : MethodName := ⟨R_PI, "wayOf", "(II)J"⟩
theorem hd_PI_wayOf : y_PI_wayOf.cls = R_PI ∧ y_PI_wayOf.cls ≠ "java/lang/invoke/MethodHandle" ∧ y_PI_wayOf.cls ≠ "java/lang/invoke/VarHandle" ∧ (parseMethodDescriptor y_PI_wayOf.desc).map (fun d => d.parameters.length) = some 2 := by decide +kernel
abbrev b_RE_init : ByteArray := prog_4_method_1_code
def y_RE_init : MethodName := ⟨R_RE, "<init>", "()V"⟩
theorem hd_RE_init : y_RE_init.cls = R_RE ∧ y_RE_init.cls ≠ "java/lang/invoke/MethodHandle" ∧ y_RE_init.cls ≠ "java/lang/invoke/VarHandle" ∧ (parseMethodDescriptor y_RE_init.desc).map (fun d => d.parameters.length) = some 0 := by decide +kernel
abbrev b_RE_byLines : ByteArray := prog_4_method_2_code
def y_RE_byLines : MethodName := ⟨R_RE, "byLines", "(J)J"⟩
theorem hd_RE_byLines : y_RE_byLines.cls = R_RE ∧ y_RE_byLines.cls ≠ "java/lang/invoke/MethodHandle" ∧ y_RE_byLines.cls ≠ "java/lang/invoke/VarHandle" ∧ (parseMethodDescriptor y_RE_byLines.desc).map (fun d => d.parameters.length) = some 1 := by decide +kernel
abbrev b_RE_byBoth : ByteArray := prog_4_method_3_code
def y_RE_byBoth : MethodName := ⟨R_RE, "byBoth", "(LPuzzlePress$Kind;J)J"⟩
theorem hd_RE_byBoth : y_RE_byBoth.cls = R_RE ∧ y_RE_byBoth.cls ≠ "java/lang/invoke/MethodHandle" ∧ y_RE_byBoth.cls ≠ "java/lang/invoke/VarHandle" ∧ (parseMethodDescriptor y_RE_byBoth.desc).map (fun d => d.parameters.length) = some 2 := by decide +kernel
abbrev b_RE_firstByLines : ByteArray := prog_4_method_4_code
def y_RE_firstByLines : MethodName := ⟨R_RE, "firstByLines", "(J)J"⟩
theorem hd_RE_firstByLines : y_RE_firstByLines.cls = R_RE ∧ y_RE_firstByLines.cls ≠ "java/lang/invoke/MethodHandle" ∧ y_RE_firstByLines.cls ≠ "java/lang/invoke/VarHandle" ∧ (parseMethodDescriptor y_RE_firstByLines.desc).map (fun d => d.parameters.length) = some 1 := by decide +kernel
abbrev b_RE_firstBySupposing : ByteArray := prog_4_method_5_code
def y_RE_firstBySupposing : MethodName := ⟨R_RE, "firstBySupposing", "(LPuzzlePress$Kind;J)J"⟩
theorem hd_RE_firstBySupposing : y_RE_firstBySupposing.cls = R_RE ∧ y_RE_firstBySupposing.cls ≠ "java/lang/invoke/MethodHandle" ∧ y_RE_firstBySupposing.cls ≠ "java/lang/invoke/VarHandle" ∧ (parseMethodDescriptor y_RE_firstBySupposing.desc).map (fun d => d.parameters.length) = some 2 := by decide +kernel
abbrev b_RE_countFillings : ByteArray := prog_4_method_6_code
def y_RE_countFillings : MethodName := ⟨R_RE, "countFillings", "(LPuzzlePress$Kind;JI)I"⟩
theorem hd_RE_countFillings : y_RE_countFillings.cls = R_RE ∧ y_RE_countFillings.cls ≠ "java/lang/invoke/MethodHandle" ∧ y_RE_countFillings.cls ≠ "java/lang/invoke/VarHandle" ∧ (parseMethodDescriptor y_RE_countFillings.desc).map (fun d => d.parameters.length) = some 3 := by decide +kernel
abbrev b_RE_supposeEach : ByteArray := prog_4_method_7_code
def y_RE_supposeEach : MethodName := ⟨R_RE, "supposeEach", "(LPuzzlePress$Kind;J)J"⟩
theorem hd_RE_supposeEach : y_RE_supposeEach.cls = R_RE ∧ y_RE_supposeEach.cls ≠ "java/lang/invoke/MethodHandle" ∧ y_RE_supposeEach.cls ≠ "java/lang/invoke/VarHandle" ∧ (parseMethodDescriptor y_RE_supposeEach.desc).map (fun d => d.parameters.length) = some 2 := by decide +kernel
abbrev b_RE_isRefuted : ByteArray := prog_4_method_8_code
def y_RE_isRefuted : MethodName := ⟨R_RE, "isRefuted", "(LPuzzlePress$Kind;JII)Z"⟩
theorem hd_RE_isRefuted : y_RE_isRefuted.cls = R_RE ∧ y_RE_isRefuted.cls ≠ "java/lang/invoke/MethodHandle" ∧ y_RE_isRefuted.cls ≠ "java/lang/invoke/VarHandle" ∧ (parseMethodDescriptor y_RE_isRefuted.desc).map (fun d => d.parameters.length) = some 4 := by decide +kernel
abbrev b_RE_search : ByteArray := prog_4_method_9_code
def y_RE_search : MethodName := ⟨R_RE, "search", "(LPuzzlePress$Kind;JJII)V"⟩
theorem hd_RE_search : y_RE_search.cls = R_RE ∧ y_RE_search.cls ≠ "java/lang/invoke/MethodHandle" ∧ y_RE_search.cls ≠ "java/lang/invoke/VarHandle" ∧ (parseMethodDescriptor y_RE_search.desc).map (fun d => d.parameters.length) = some 5 := by decide +kernel
abbrev b_RE_firstOpenCell : ByteArray := prog_4_method_10_code
def y_RE_firstOpenCell : MethodName := ⟨R_RE, "firstOpenCell", "(LPuzzlePress$Kind;J)I"⟩
theorem hd_RE_firstOpenCell : y_RE_firstOpenCell.cls = R_RE ∧ y_RE_firstOpenCell.cls ≠ "java/lang/invoke/MethodHandle" ∧ y_RE_firstOpenCell.cls ≠ "java/lang/invoke/VarHandle" ∧ (parseMethodDescriptor y_RE_firstOpenCell.desc).map (fun d => d.parameters.length) = some 2 := by decide +kernel
abbrev b_SQ_init : ByteArray := prog_5_method_1_code
def y_SQ_init : MethodName := ⟨R_SQ, "<init>", "()V"⟩
theorem hd_SQ_init : y_SQ_init.cls = R_SQ ∧ y_SQ_init.cls ≠ "java/lang/invoke/MethodHandle" ∧ y_SQ_init.cls ≠ "java/lang/invoke/VarHandle" ∧ (parseMethodDescriptor y_SQ_init.desc).map (fun d => d.parameters.length) = some 0 := by decide +kernel
abbrev b_SQ_isRule : ByteArray := prog_5_method_2_code
def y_SQ_isRule : MethodName := ⟨R_SQ, "isRule", "(I)Z"⟩
theorem hd_SQ_isRule : y_SQ_isRule.cls = R_SQ ∧ y_SQ_isRule.cls ≠ "java/lang/invoke/MethodHandle" ∧ y_SQ_isRule.cls ≠ "java/lang/invoke/VarHandle" ∧ (parseMethodDescriptor y_SQ_isRule.desc).map (fun d => d.parameters.length) = some 1 := by decide +kernel
abbrev b_SQ_makeNew : ByteArray := prog_5_method_3_code
def y_SQ_makeNew : MethodName := ⟨R_SQ, "makeNew", "()V"⟩
theorem hd_SQ_makeNew : y_SQ_makeNew.cls = R_SQ ∧ y_SQ_makeNew.cls ≠ "java/lang/invoke/MethodHandle" ∧ y_SQ_makeNew.cls ≠ "java/lang/invoke/VarHandle" ∧ (parseMethodDescriptor y_SQ_makeNew.desc).map (fun d => d.parameters.length) = some 0 := by decide +kernel
abbrev b_SQ_addFixedUnits : ByteArray := prog_5_method_4_code
def y_SQ_addFixedUnits : MethodName := ⟨R_SQ, "addFixedUnits", "(LPuzzlePress$Units;)V"⟩
theorem hd_SQ_addFixedUnits : y_SQ_addFixedUnits.cls = R_SQ ∧ y_SQ_addFixedUnits.cls ≠ "java/lang/invoke/MethodHandle" ∧ y_SQ_addFixedUnits.cls ≠ "java/lang/invoke/VarHandle" ∧ (parseMethodDescriptor y_SQ_addFixedUnits.desc).map (fun d => d.parameters.length) = some 1 := by decide +kernel
abbrev b_SQ_addOtherUnits : ByteArray := prog_5_method_5_code
def y_SQ_addOtherUnits : MethodName := ⟨R_SQ, "addOtherUnits", "(LPuzzlePress$Units;)V"⟩
theorem hd_SQ_addOtherUnits : y_SQ_addOtherUnits.cls = R_SQ ∧ y_SQ_addOtherUnits.cls ≠ "java/lang/invoke/MethodHandle" ∧ y_SQ_addOtherUnits.cls ≠ "java/lang/invoke/VarHandle" ∧ (parseMethodDescriptor y_SQ_addOtherUnits.desc).map (fun d => d.parameters.length) = some 1 := by decide +kernel
abbrev b_SQ_addUnlike : ByteArray := prog_5_method_6_code
def y_SQ_addUnlike : MethodName := ⟨R_SQ, "addUnlike", "(LPuzzlePress$Units;III)V"⟩
theorem hd_SQ_addUnlike : y_SQ_addUnlike.cls = R_SQ ∧ y_SQ_addUnlike.cls ≠ "java/lang/invoke/MethodHandle" ∧ y_SQ_addUnlike.cls ≠ "java/lang/invoke/VarHandle" ∧ (parseMethodDescriptor y_SQ_addUnlike.desc).map (fun d => d.parameters.length) = some 4 := by decide +kernel
abbrev b_SQ_addWays : ByteArray := prog_5_method_7_code
def y_SQ_addWays : MethodName := ⟨R_SQ, "addWays", "(LPuzzlePress$Units;IJIII)V"⟩
theorem hd_SQ_addWays : y_SQ_addWays.cls = R_SQ ∧ y_SQ_addWays.cls ≠ "java/lang/invoke/MethodHandle" ∧ y_SQ_addWays.cls ≠ "java/lang/invoke/VarHandle" ∧ (parseMethodDescriptor y_SQ_addWays.desc).map (fun d => d.parameters.length) = some 6 := by decide +kernel
abbrev b_SQ_obeys : ByteArray := prog_5_method_8_code
def y_SQ_obeys : MethodName := ⟨R_SQ, "obeys", "(III)Z"⟩
theorem hd_SQ_obeys : y_SQ_obeys.cls = R_SQ ∧ y_SQ_obeys.cls ≠ "java/lang/invoke/MethodHandle" ∧ y_SQ_obeys.cls ≠ "java/lang/invoke/VarHandle" ∧ (parseMethodDescriptor y_SQ_obeys.desc).map (fun d => d.parameters.length) = some 3 := by decide +kernel
abbrev b_ST_init : ByteArray := prog_6_method_1_code
def y_ST_init : MethodName := ⟨R_ST, "<init>", "()V"⟩
theorem hd_ST_init : y_ST_init.cls = R_ST ∧ y_ST_init.cls ≠ "java/lang/invoke/MethodHandle" ∧ y_ST_init.cls ≠ "java/lang/invoke/VarHandle" ∧ (parseMethodDescriptor y_ST_init.desc).map (fun d => d.parameters.length) = some 0 := by decide +kernel
abbrev b_ST_makeNew : ByteArray := prog_6_method_2_code
def y_ST_makeNew : MethodName := ⟨R_ST, "makeNew", "()V"⟩
theorem hd_ST_makeNew : y_ST_makeNew.cls = R_ST ∧ y_ST_makeNew.cls ≠ "java/lang/invoke/MethodHandle" ∧ y_ST_makeNew.cls ≠ "java/lang/invoke/VarHandle" ∧ (parseMethodDescriptor y_ST_makeNew.desc).map (fun d => d.parameters.length) = some 0 := by decide +kernel
abbrev b_ST_addFixedUnits : ByteArray := prog_6_method_3_code
def y_ST_addFixedUnits : MethodName := ⟨R_ST, "addFixedUnits", "(LPuzzlePress$Units;)V"⟩
theorem hd_ST_addFixedUnits : y_ST_addFixedUnits.cls = R_ST ∧ y_ST_addFixedUnits.cls ≠ "java/lang/invoke/MethodHandle" ∧ y_ST_addFixedUnits.cls ≠ "java/lang/invoke/VarHandle" ∧ (parseMethodDescriptor y_ST_addFixedUnits.desc).map (fun d => d.parameters.length) = some 1 := by decide +kernel
abbrev b_ST_addOtherUnits : ByteArray := prog_6_method_4_code
def y_ST_addOtherUnits : MethodName := ⟨R_ST, "addOtherUnits", "(LPuzzlePress$Units;)V"⟩
theorem hd_ST_addOtherUnits : y_ST_addOtherUnits.cls = R_ST ∧ y_ST_addOtherUnits.cls ≠ "java/lang/invoke/MethodHandle" ∧ y_ST_addOtherUnits.cls ≠ "java/lang/invoke/VarHandle" ∧ (parseMethodDescriptor y_ST_addOtherUnits.desc).map (fun d => d.parameters.length) = some 1 := by decide +kernel
abbrev b_ST_touch : ByteArray := prog_6_method_5_code
def y_ST_touch : MethodName := ⟨R_ST, "touch", "(II)Z"⟩
theorem hd_ST_touch : y_ST_touch.cls = R_ST ∧ y_ST_touch.cls ≠ "java/lang/invoke/MethodHandle" ∧ y_ST_touch.cls ≠ "java/lang/invoke/VarHandle" ∧ (parseMethodDescriptor y_ST_touch.desc).map (fun d => d.parameters.length) = some 2 := by decide +kernel
abbrev b_ST_addJustOne : ByteArray := prog_6_method_6_code
def y_ST_addJustOne : MethodName := ⟨R_ST, "addJustOne", "(LPuzzlePress$Units;I)V"⟩
theorem hd_ST_addJustOne : y_ST_addJustOne.cls = R_ST ∧ y_ST_addJustOne.cls ≠ "java/lang/invoke/MethodHandle" ∧ y_ST_addJustOne.cls ≠ "java/lang/invoke/VarHandle" ∧ (parseMethodDescriptor y_ST_addJustOne.desc).map (fun d => d.parameters.length) = some 2 := by decide +kernel
abbrev b_ST_wayWithStar : ByteArray := prog_6_method_7_code
def y_ST_wayWithStar : MethodName := ⟨R_ST, "wayWithStar", "(II)J"⟩
theorem hd_ST_wayWithStar : y_ST_wayWithStar.cls = R_ST ∧ y_ST_wayWithStar.cls ≠ "java/lang/invoke/MethodHandle" ∧ y_ST_wayWithStar.cls ≠ "java/lang/invoke/VarHandle" ∧ (parseMethodDescriptor y_ST_wayWithStar.desc).map (fun d => d.parameters.length) = some 2 := by decide +kernel
abbrev b_ST_addNotBoth : ByteArray := prog_6_method_8_code
def y_ST_addNotBoth : MethodName := ⟨R_ST, "addNotBoth", "(LPuzzlePress$Units;II)V"⟩
theorem hd_ST_addNotBoth : y_ST_addNotBoth.cls = R_ST ∧ y_ST_addNotBoth.cls ≠ "java/lang/invoke/MethodHandle" ∧ y_ST_addNotBoth.cls ≠ "java/lang/invoke/VarHandle" ∧ (parseMethodDescriptor y_ST_addNotBoth.desc).map (fun d => d.parameters.length) = some 3 := by decide +kernel
abbrev b_UN_init : ByteArray := prog_7_method_1_code
def y_UN_init : MethodName := ⟨R_UN, "<init>", "()V"⟩
theorem hd_UN_init : y_UN_init.cls = R_UN ∧ y_UN_init.cls ≠ "java/lang/invoke/MethodHandle" ∧ y_UN_init.cls ≠ "java/lang/invoke/VarHandle" ∧ (parseMethodDescriptor y_UN_init.desc).map (fun d => d.parameters.length) = some 0 := by decide +kernel
abbrev b_UN_dropAll : ByteArray := prog_7_method_2_code
def y_UN_dropAll : MethodName := ⟨R_UN, "dropAll", "()V"⟩
theorem hd_UN_dropAll : y_UN_dropAll.cls = R_UN ∧ y_UN_dropAll.cls ≠ "java/lang/invoke/MethodHandle" ∧ y_UN_dropAll.cls ≠ "java/lang/invoke/VarHandle" ∧ (parseMethodDescriptor y_UN_dropAll.desc).map (fun d => d.parameters.length) = some 0 := by decide +kernel
abbrev b_UN_fixAll : ByteArray := prog_7_method_3_code
def y_UN_fixAll : MethodName := ⟨R_UN, "fixAll", "()V"⟩
theorem hd_UN_fixAll : y_UN_fixAll.cls = R_UN ∧ y_UN_fixAll.cls ≠ "java/lang/invoke/MethodHandle" ∧ y_UN_fixAll.cls ≠ "java/lang/invoke/VarHandle" ∧ (parseMethodDescriptor y_UN_fixAll.desc).map (fun d => d.parameters.length) = some 0 := by decide +kernel
abbrev b_UN_dropUnfixed : ByteArray := prog_7_method_4_code
def y_UN_dropUnfixed : MethodName := ⟨R_UN, "dropUnfixed", "()V"⟩
theorem hd_UN_dropUnfixed : y_UN_dropUnfixed.cls = R_UN ∧ y_UN_dropUnfixed.cls ≠ "java/lang/invoke/MethodHandle" ∧ y_UN_dropUnfixed.cls ≠ "java/lang/invoke/VarHandle" ∧ (parseMethodDescriptor y_UN_dropUnfixed.desc).map (fun d => d.parameters.length) = some 0 := by decide +kernel
abbrev b_UN_begin : ByteArray := prog_7_method_5_code
def y_UN_begin : MethodName := ⟨R_UN, "begin", "(J)V"⟩
theorem hd_UN_begin : y_UN_begin.cls = R_UN ∧ y_UN_begin.cls ≠ "java/lang/invoke/MethodHandle" ∧ y_UN_begin.cls ≠ "java/lang/invoke/VarHandle" ∧ (parseMethodDescriptor y_UN_begin.desc).map (fun d => d.parameters.length) = some 1 := by decide +kernel
abbrev b_UN_addWay : ByteArray := prog_7_method_6_code
def y_UN_addWay : MethodName := ⟨R_UN, "addWay", "(J)V"⟩
theorem hd_UN_addWay : y_UN_addWay.cls = R_UN ∧ y_UN_addWay.cls ≠ "java/lang/invoke/MethodHandle" ∧ y_UN_addWay.cls ≠ "java/lang/invoke/VarHandle" ∧ (parseMethodDescriptor y_UN_addWay.desc).map (fun d => d.parameters.length) = some 1 := by decide +kernel
abbrev b_UN_haveWays : ByteArray := prog_7_method_7_code
def y_UN_haveWays : MethodName := ⟨R_UN, "haveWays", "()Z"⟩
theorem hd_UN_haveWays : y_UN_haveWays.cls = R_UN ∧ y_UN_haveWays.cls ≠ "java/lang/invoke/MethodHandle" ∧ y_UN_haveWays.cls ≠ "java/lang/invoke/VarHandle" ∧ (parseMethodDescriptor y_UN_haveWays.desc).map (fun d => d.parameters.length) = some 0 := by decide +kernel
abbrev b_UN_keptAtOnce : ByteArray := prog_7_method_8_code
def y_UN_keptAtOnce : MethodName := ⟨R_UN, "keptAtOnce", "(J)J"⟩
theorem hd_UN_keptAtOnce : y_UN_keptAtOnce.cls = R_UN ∧ y_UN_keptAtOnce.cls ≠ "java/lang/invoke/MethodHandle" ∧ y_UN_keptAtOnce.cls ≠ "java/lang/invoke/VarHandle" ∧ (parseMethodDescriptor y_UN_keptAtOnce.desc).map (fun d => d.parameters.length) = some 1 := by decide +kernel
abbrev b_UN_narrow : ByteArray := prog_7_method_9_code
def y_UN_narrow : MethodName := ⟨R_UN, "narrow", "(JJ)J"⟩
theorem hd_UN_narrow : y_UN_narrow.cls = R_UN ∧ y_UN_narrow.cls ≠ "java/lang/invoke/MethodHandle" ∧ y_UN_narrow.cls ≠ "java/lang/invoke/VarHandle" ∧ (parseMethodDescriptor y_UN_narrow.desc).map (fun d => d.parameters.length) = some 2 := by decide +kernel
abbrev b_UN_keptBy : ByteArray := prog_7_method_10_code
def y_UN_keptBy : MethodName := ⟨R_UN, "keptBy", "(IJ)J"⟩
theorem hd_UN_keptBy : y_UN_keptBy.cls = R_UN ∧ y_UN_keptBy.cls ≠ "java/lang/invoke/MethodHandle" ∧ y_UN_keptBy.cls ≠ "java/lang/invoke/VarHandle" ∧ (parseMethodDescriptor y_UN_keptBy.desc).map (fun d => d.parameters.length) = some 2 := by decide +kernel
abbrev b_LW_open : ByteArray := method_3_code
def y_LW_open : MethodName := ⟨R_LW, "open", "(LPuzzlePress;I[J)I"⟩
theorem hd_LW_open : y_LW_open.cls = R_LW ∧ y_LW_open.cls ≠ "java/lang/invoke/MethodHandle" ∧ y_LW_open.cls ≠ "java/lang/invoke/VarHandle" ∧ (parseMethodDescriptor y_LW_open.desc).map (fun d => d.parameters.length) = some 3 := by decide +kernel
abbrev b_LW_clue : ByteArray := method_4_code
def y_LW_clue : MethodName := ⟨R_LW, "clue", "(LPuzzlePress;II[J)I"⟩
theorem hd_LW_clue : y_LW_clue.cls = R_LW ∧ y_LW_clue.cls ≠ "java/lang/invoke/MethodHandle" ∧ y_LW_clue.cls ≠ "java/lang/invoke/VarHandle" ∧ (parseMethodDescriptor y_LW_clue.desc).map (fun d => d.parameters.length) = some 4 := by decide +kernel
abbrev b_LW_group : ByteArray := method_5_code
def y_LW_group : MethodName := ⟨R_LW, "group", "(LPuzzlePress;II[J)I"⟩
theorem hd_LW_group : y_LW_group.cls = R_LW ∧ y_LW_group.cls ≠ "java/lang/invoke/MethodHandle" ∧ y_LW_group.cls ≠ "java/lang/invoke/VarHandle" ∧ (parseMethodDescriptor y_LW_group.desc).map (fun d => d.parameters.length) = some 4 := by decide +kernel
abbrev b_LW_rule : ByteArray := method_6_code
def y_LW_rule : MethodName := ⟨R_LW, "rule", "(LPuzzlePress;III[J)I"⟩
theorem hd_LW_rule : y_LW_rule.cls = R_LW ∧ y_LW_rule.cls ≠ "java/lang/invoke/MethodHandle" ∧ y_LW_rule.cls ≠ "java/lang/invoke/VarHandle" ∧ (parseMethodDescriptor y_LW_rule.desc).map (fun d => d.parameters.length) = some 5 := by decide +kernel
abbrev b_LW_give : ByteArray := method_7_code
def y_LW_give : MethodName := ⟨R_LW, "give", "(LPuzzlePress;II[J)I"⟩
theorem hd_LW_give : y_LW_give.cls = R_LW ∧ y_LW_give.cls ≠ "java/lang/invoke/MethodHandle" ∧ y_LW_give.cls ≠ "java/lang/invoke/VarHandle" ∧ (parseMethodDescriptor y_LW_give.desc).map (fun d => d.parameters.length) = some 4 := by decide +kernel
abbrev b_LW_given : ByteArray := method_8_code
def y_LW_given : MethodName := ⟨R_LW, "given", "(LPuzzlePress;I[J)I"⟩
theorem hd_LW_given : y_LW_given.cls = R_LW ∧ y_LW_given.cls ≠ "java/lang/invoke/MethodHandle" ∧ y_LW_given.cls ≠ "java/lang/invoke/VarHandle" ∧ (parseMethodDescriptor y_LW_given.desc).map (fun d => d.parameters.length) = some 3 := by decide +kernel
abbrev b_LW_value : ByteArray := method_9_code
def y_LW_value : MethodName := ⟨R_LW, "value", "(LPuzzlePress;I[J)I"⟩
theorem hd_LW_value : y_LW_value.cls = R_LW ∧ y_LW_value.cls ≠ "java/lang/invoke/MethodHandle" ∧ y_LW_value.cls ≠ "java/lang/invoke/VarHandle" ∧ (parseMethodDescriptor y_LW_value.desc).map (fun d => d.parameters.length) = some 3 := by decide +kernel
abbrev b_LW_reason : ByteArray := method_10_code
def y_LW_reason : MethodName := ⟨R_LW, "reason", "(LPuzzlePress;I[J)I"⟩
theorem hd_LW_reason : y_LW_reason.cls = R_LW ∧ y_LW_reason.cls ≠ "java/lang/invoke/MethodHandle" ∧ y_LW_reason.cls ≠ "java/lang/invoke/VarHandle" ∧ (parseMethodDescriptor y_LW_reason.desc).map (fun d => d.parameters.length) = some 3 := by decide +kernel
abbrev b_LW_candidates : ByteArray := method_11_code
def y_LW_candidates : MethodName := ⟨R_LW, "candidates", "(LPuzzlePress;I[J)I"⟩
theorem hd_LW_candidates : y_LW_candidates.cls = R_LW ∧ y_LW_candidates.cls ≠ "java/lang/invoke/MethodHandle" ∧ y_LW_candidates.cls ≠ "java/lang/invoke/VarHandle" ∧ (parseMethodDescriptor y_LW_candidates.desc).map (fun d => d.parameters.length) = some 3 := by decide +kernel
abbrev b_LW_full : ByteArray := method_12_code
def y_LW_full : MethodName := ⟨R_LW, "full", "(LPuzzlePress;[J)I"⟩
theorem hd_LW_full : y_LW_full.cls = R_LW ∧ y_LW_full.cls ≠ "java/lang/invoke/MethodHandle" ∧ y_LW_full.cls ≠ "java/lang/invoke/VarHandle" ∧ (parseMethodDescriptor y_LW_full.desc).map (fun d => d.parameters.length) = some 2 := by decide +kernel
abbrev b_LW_thin : ByteArray := method_13_code
def y_LW_thin : MethodName := ⟨R_LW, "thin", "(LPuzzlePress;I[J)I"⟩
theorem hd_LW_thin : y_LW_thin.cls = R_LW ∧ y_LW_thin.cls ≠ "java/lang/invoke/MethodHandle" ∧ y_LW_thin.cls ≠ "java/lang/invoke/VarHandle" ∧ (parseMethodDescriptor y_LW_thin.desc).map (fun d => d.parameters.length) = some 3 := by decide +kernel
abbrev b_JI_bitCount : ByteArray := prog_14_method_49_code
def y_JI_bitCount : MethodName := ⟨R_JI, "bitCount", "(I)I"⟩
theorem hd_JI_bitCount : y_JI_bitCount.cls = R_JI ∧ y_JI_bitCount.cls ≠ "java/lang/invoke/MethodHandle" ∧ y_JI_bitCount.cls ≠ "java/lang/invoke/VarHandle" ∧ (parseMethodDescriptor y_JI_bitCount.desc).map (fun d => d.parameters.length) = some 1 := by decide +kernel
abbrev b_JL_bitCount : ByteArray := prog_15_method_50_code
def y_JL_bitCount : MethodName := ⟨R_JL, "bitCount", "(J)I"⟩
theorem hd_JL_bitCount : y_JL_bitCount.cls = R_JL ∧ y_JL_bitCount.cls ≠ "java/lang/invoke/MethodHandle" ∧ y_JL_bitCount.cls ≠ "java/lang/invoke/VarHandle" ∧ (parseMethodDescriptor y_JL_bitCount.desc).map (fun d => d.parameters.length) = some 1 := by decide +kernel
def y_KD_makeNew : MethodName := ⟨R_KD, "makeNew", "()V"⟩
theorem hd_KD_makeNew : y_KD_makeNew.cls = R_KD ∧ y_KD_makeNew.cls ≠ "java/lang/invoke/MethodHandle" ∧ y_KD_makeNew.cls ≠ "java/lang/invoke/VarHandle" ∧ (parseMethodDescriptor y_KD_makeNew.desc).map (fun d => d.parameters.length) = some 0 := by decide +kernel
def y_KD_addFixedUnits : MethodName := ⟨R_KD, "addFixedUnits", "(LPuzzlePress$Units;)V"⟩
theorem hd_KD_addFixedUnits : y_KD_addFixedUnits.cls = R_KD ∧ y_KD_addFixedUnits.cls ≠ "java/lang/invoke/MethodHandle" ∧ y_KD_addFixedUnits.cls ≠ "java/lang/invoke/VarHandle" ∧ (parseMethodDescriptor y_KD_addFixedUnits.desc).map (fun d => d.parameters.length) = some 1 := by decide +kernel
def y_KD_addOtherUnits : MethodName := ⟨R_KD, "addOtherUnits", "(LPuzzlePress$Units;)V"⟩
theorem hd_KD_addOtherUnits : y_KD_addOtherUnits.cls = R_KD ∧ y_KD_addOtherUnits.cls ≠ "java/lang/invoke/MethodHandle" ∧ y_KD_addOtherUnits.cls ≠ "java/lang/invoke/VarHandle" ∧ (parseMethodDescriptor y_KD_addOtherUnits.desc).map (fun d => d.parameters.length) = some 1 := by decide +kernel
/-- the words that every contract asks for: those of the tables that calls carry on -/
def Gw : List Cond := k2_sels lw_privs ++ tables_1.filter goodWord
theorem tg_1 {w : Cond} (h : w ∈ tables_1_1) : w ∈ tables_1 := List.mem_append_left _ h
theorem tg_2 {w : Cond} (h : w ∈ tables_1_2) : w ∈ tables_1 := List.mem_append_right _ (List.mem_append_left _ h)
theorem tg_3 {w : Cond} (h : w ∈ tables_1_3) : w ∈ tables_1 := List.mem_append_right _ (List.mem_append_right _ (List.mem_append_left _ h))
theorem tg_4 {w : Cond} (h : w ∈ tables_1_4) : w ∈ tables_1 := List.mem_append_right _ (List.mem_append_right _ (List.mem_append_right _ (List.mem_append_left _ h)))
theorem tg_5 {w : Cond} (h : w ∈ tables_1_5) : w ∈ tables_1 := List.mem_append_right _ (List.mem_append_right _ (List.mem_append_right _ (List.mem_append_right _ (h))))
theorem gq {w : Cond} (h : w ∈ tables_1) (hg : goodWord w = true) : w ∈ Gw := List.mem_append_right _ (List.mem_filter.mpr ⟨h, hg⟩)
theorem gs {w : Cond} (h : w ∈ k2_sels lw_privs) : w ∈ Gw := List.mem_append_left _ h
theorem Gw_good : ∀ w ∈ Gw, (w.onTables && w.keeps) = true ∨ ∃ ty, w = .arrayClass ty := by
  intro w hw
  rcases List.mem_append.mp hw with h | h
  · obtain ⟨q, -, rfl⟩ := List.mem_map.mp h
    exact good_of_word rfl
  · exact good_of_word (List.mem_filter.mp h).2
/-- words that no reader of steady words carries -/
def Nws : List Cond := [.declares ⟨R_KD, "makeNew", "()V"⟩, .declares ⟨R_KD, "addFixedUnits", "(LPuzzlePress$Units;)V"⟩, .declares ⟨R_KD, "addOtherUnits", "(LPuzzlePress$Units;)V"⟩]
theorem Nws_tab : ∀ w ∈ Nws, w.onTables = true := by
  intro w h
  simp only [Nws, List.mem_cons, List.not_mem_nil, or_false] at h
  rcases h with rfl | rfl | rfl <;> rfl
theorem Nws_warm : ∀ w ∈ Nws, ∀ {s U : State}, s.WarmedH U.vm → va_Nw w s → va_Nw w U := by
  intro w h s U hW hZ
  simp only [Nws, List.mem_cons, List.not_mem_nil, or_false] at h
  rcases h with rfl | rfl | rfl <;> exact va_Nw.warmD hW hZ
theorem dc_makeNew : Cond.declares ⟨R_KD, "makeNew", "()V"⟩ ∈ Nws := List.mem_of_getElem? (i := 0) rfl
theorem dc_addFixedUnits : Cond.declares ⟨R_KD, "addFixedUnits", "(LPuzzlePress$Units;)V"⟩ ∈ Nws := List.mem_of_getElem? (i := 1) rfl
theorem dc_addOtherUnits : Cond.declares ⟨R_KD, "addOtherUnits", "(LPuzzlePress$Units;)V"⟩ ∈ Nws := List.mem_of_getElem? (i := 2) rfl
