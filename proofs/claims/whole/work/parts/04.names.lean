/-! ===== BEGIN words of one list among another's, by their places ===== -/
theorem goodIn_r {big : List Cond} (ws : List Cond) (ps : List Nat) (hp : ws = ps.filterMap (fun i => big[i]?)) (h : ws.all goodWord = true) : GoodIn big ws := by
  intro w hw
  have h1 := List.all_eq_true.mp h w hw
  rw [hp] at hw
  obtain ⟨i, -, hi⟩ := List.mem_filterMap.mp hw
  have hm : w ∈ big := by first | exact List.mem_of_getElem? hi | exact List.getElem?_mem hi
  exact ⟨hm, good_of_word h1⟩
theorem goodIn_app {big a b : List Cond} (ha : GoodIn big a) (hb : GoodIn big b) : GoodIn big (a ++ b) := fun w h => (List.mem_append.mp h).elim (ha w) (hb w)
theorem goodIn_ca {big a b : List Cond} {c : Cond} (ha : GoodIn big (c :: a)) (hb : GoodIn big b) : GoodIn big (c :: (a ++ b)) := fun w h => (List.mem_cons.mp h).elim (fun e => ha w (List.mem_cons.mpr (Or.inl e))) (fun h => (List.mem_append.mp h).elim (fun h => ha w (List.mem_cons.mpr (Or.inr h))) (hb w))
theorem goodIn_sub {big ws : List Cond} (hm : ∀ w ∈ ws, w ∈ big) (h : ws.all goodWord = true) : GoodIn big ws := fun w hw => ⟨hm w hw, good_of_word (List.all_eq_true.mp h w hw)⟩
/-! ===== END ===== -/

/-! ===== BEGIN printed: names, fields, word lists, decode rows ===== -/
def RX0 : String := "CurveDesk"
def TX0 : u_T := fun k => match k with
  | 0 => ("CurveDesk", "prime", "I", false)
  | 1 => ("CurveDesk", "a", "I", false)
  | 2 => ("CurveDesk", "b", "I", false)
  | 3 => ("CurveDesk", "count", "I", false)
  | 4 => ("CurveDesk", "lesserRoot", "[I", true)
  | 5 => ("CurveDesk", "pointsBefore", "[I", true)
  | _ => ("CurveDesk", "divisionValue", "[I", true)
def tyX0 : Nat → FieldType := fun k => match k with
  | 0 => .int
  | 1 => .int
  | 2 => .int
  | 3 => .int
  | 4 => .array .int
  | 5 => .array .int
  | _ => .array .int
abbrev wsX00 : List Cond := u_ws RX0 TX0 7
theorem nmX0 : ∀ a, a < 7 → ∀ b, b < 7 → a ≠ b → (TX0 a).2.1 ≠ (TX0 b).2.1 := by decide +kernel
theorem tyX0_ok : ∀ k, k < 7 → parseFieldDescriptor (TX0 k).2.2.1 = some (tyX0 k) := by decide +kernel
abbrev cX0_init : ByteArray := prog_1_method_1_code
def yX0_init : MethodName := ⟨RX0, "<init>", "()V"⟩
abbrev cX0_curve : ByteArray := prog_1_method_2_code
def yX0_curve : MethodName := ⟨RX0, "curve", "(III)I"⟩
abbrev cX0_coefficient : ByteArray := prog_1_method_3_code
def yX0_coefficient : MethodName := ⟨RX0, "coefficient", "(I)I"⟩
abbrev cX0_count : ByteArray := prog_1_method_4_code
def yX0_count : MethodName := ⟨RX0, "count", "()I"⟩
abbrev cX0_trace : ByteArray := prog_1_method_5_code
def yX0_trace : MethodName := ⟨RX0, "trace", "(I)I"⟩
abbrev cX0_roots : ByteArray := prog_1_method_6_code
def yX0_roots : MethodName := ⟨RX0, "roots", "(I)I"⟩
abbrev cX0_point : ByteArray := prog_1_method_7_code
def yX0_point : MethodName := ⟨RX0, "point", "(I)I"⟩
abbrev cX0_on : ByteArray := prog_1_method_8_code
def yX0_on : MethodName := ⟨RX0, "on", "(I)Z"⟩
abbrev cX0_add : ByteArray := prog_1_method_9_code
def yX0_add : MethodName := ⟨RX0, "add", "(II)I"⟩
abbrev cX0_negative : ByteArray := prog_1_method_10_code
def yX0_negative : MethodName := ⟨RX0, "negative", "(I)I"⟩
abbrev cX0_times : ByteArray := prog_1_method_11_code
def yX0_times : MethodName := ⟨RX0, "times", "(II)I"⟩
abbrev cX0_order : ByteArray := prog_1_method_12_code
def yX0_order : MethodName := ⟨RX0, "order", "(I)I"⟩
abbrev cX0_division : ByteArray := prog_1_method_13_code
def yX0_division : MethodName := ⟨RX0, "division", "(II)I"⟩
abbrev cX0_twist : ByteArray := prog_1_method_14_code
def yX0_twist : MethodName := ⟨RX0, "twist", "(I)I"⟩
abbrev cX0_isPrime : ByteArray := prog_1_method_15_code
def yX0_isPrime : MethodName := ⟨RX0, "isPrime", "(I)Z"⟩
abbrev cX0_isSingular : ByteArray := prog_1_method_16_code
def yX0_isSingular : MethodName := ⟨RX0, "isSingular", "(III)Z"⟩
abbrev cX0_setPresent : ByteArray := prog_1_method_17_code
def yX0_setPresent : MethodName := ⟨RX0, "setPresent", "(III)V"⟩
abbrev cX0_fillLesserRoots : ByteArray := prog_1_method_18_code
def yX0_fillLesserRoots : MethodName := ⟨RX0, "fillLesserRoots", "()V"⟩
abbrev cX0_fillPointsBefore : ByteArray := prog_1_method_19_code
def yX0_fillPointsBefore : MethodName := ⟨RX0, "fillPointsBefore", "()V"⟩
abbrev cX0_rootCount : ByteArray := prog_1_method_20_code
def yX0_rootCount : MethodName := ⟨RX0, "rootCount", "(I)I"⟩
abbrev cX0_xOfPoint : ByteArray := prog_1_method_21_code
def yX0_xOfPoint : MethodName := ⟨RX0, "xOfPoint", "(I)I"⟩
abbrev cX0_isNumber : ByteArray := prog_1_method_22_code
def yX0_isNumber : MethodName := ⟨RX0, "isNumber", "(I)Z"⟩
abbrev cX0_isPoint : ByteArray := prog_1_method_23_code
def yX0_isPoint : MethodName := ⟨RX0, "isPoint", "(I)Z"⟩
abbrev cX0_pack : ByteArray := prog_1_method_24_code
def yX0_pack : MethodName := ⟨RX0, "pack", "(II)I"⟩
abbrev cX0_xOf : ByteArray := prog_1_method_25_code
def yX0_xOf : MethodName := ⟨RX0, "xOf", "(I)I"⟩
abbrev cX0_yOf : ByteArray := prog_1_method_26_code
def yX0_yOf : MethodName := ⟨RX0, "yOf", "(I)I"⟩
abbrev cX0_modulo : ByteArray := prog_1_method_27_code
def yX0_modulo : MethodName := ⟨RX0, "modulo", "(I)I"⟩
abbrev cX0_rightSide : ByteArray := prog_1_method_28_code
def yX0_rightSide : MethodName := ⟨RX0, "rightSide", "(I)I"⟩
abbrev cX0_inverse : ByteArray := prog_1_method_29_code
def yX0_inverse : MethodName := ⟨RX0, "inverse", "(I)I"⟩
abbrev cX0_opposite : ByteArray := prog_1_method_30_code
def yX0_opposite : MethodName := ⟨RX0, "opposite", "(I)I"⟩
abbrev cX0_sum : ByteArray := prog_1_method_31_code
def yX0_sum : MethodName := ⟨RX0, "sum", "(II)I"⟩
abbrev cX0_slope : ByteArray := prog_1_method_32_code
def yX0_slope : MethodName := ⟨RX0, "slope", "(II)I"⟩
abbrev cX0_multiple : ByteArray := prog_1_method_33_code
def yX0_multiple : MethodName := ⟨RX0, "multiple", "(JI)I"⟩
abbrev cX0_fillFirstDivisionValues : ByteArray := prog_1_method_34_code
def yX0_fillFirstDivisionValues : MethodName := ⟨RX0, "fillFirstDivisionValues", "(I)V"⟩
abbrev cX0_thirdDivisionValue : ByteArray := prog_1_method_35_code
def yX0_thirdDivisionValue : MethodName := ⟨RX0, "thirdDivisionValue", "(I)I"⟩
abbrev cX0_fourthDivisionValue : ByteArray := prog_1_method_36_code
def yX0_fourthDivisionValue : MethodName := ⟨RX0, "fourthDivisionValue", "(I)I"⟩
abbrev cX0_evenDivisionValue : ByteArray := prog_1_method_37_code
def yX0_evenDivisionValue : MethodName := ⟨RX0, "evenDivisionValue", "(I)I"⟩
abbrev cX0_oddDivisionValue : ByteArray := prog_1_method_38_code
def yX0_oddDivisionValue : MethodName := ⟨RX0, "oddDivisionValue", "(II)I"⟩
abbrev cX0_cube : ByteArray := prog_1_method_39_code
def yX0_cube : MethodName := ⟨RX0, "cube", "(I)I"⟩
def RX1 : String := "CurveDeskModel"
def TX1 : u_T := fun k => match k with
  | 0 => ("CurveDeskModel", "p", "I", false)
  | 1 => ("CurveDeskModel", "a", "I", false)
  | 2 => ("CurveDeskModel", "b", "I", false)
  | 3 => ("CurveDeskModel", "squares", "[I", true)
  | _ => ("CurveDeskModel", "f", "[I", true)
def tyX1 : Nat → FieldType := fun k => match k with
  | 0 => .int
  | 1 => .int
  | 2 => .int
  | 3 => .array .int
  | _ => .array .int
abbrev wsX10 : List Cond := u_ws RX1 TX1 5
theorem nmX1 : ∀ a, a < 5 → ∀ b, b < 5 → a ≠ b → (TX1 a).2.1 ≠ (TX1 b).2.1 := by decide +kernel
theorem tyX1_ok : ∀ k, k < 5 → parseFieldDescriptor (TX1 k).2.2.1 = some (tyX1 k) := by decide +kernel
abbrev cX1_init : ByteArray := prog_3_method_1_code
def yX1_init : MethodName := ⟨RX1, "<init>", "()V"⟩
abbrev cX1_mod : ByteArray := prog_3_method_2_code
def yX1_mod : MethodName := ⟨RX1, "mod", "(I)I"⟩
abbrev cX1_right : ByteArray := prog_3_method_3_code
def yX1_right : MethodName := ⟨RX1, "right", "(I)I"⟩
abbrev cX1_curve : ByteArray := prog_3_method_4_code
def yX1_curve : MethodName := ⟨RX1, "curve", "(III)I"⟩
abbrev cX1_coefficient : ByteArray := prog_3_method_5_code
def yX1_coefficient : MethodName := ⟨RX1, "coefficient", "(I)I"⟩
abbrev cX1_tell : ByteArray := prog_3_method_6_code
def yX1_tell : MethodName := ⟨RX1, "tell", "()V"⟩
abbrev cX1_count : ByteArray := prog_3_method_7_code
def yX1_count : MethodName := ⟨RX1, "count", "()I"⟩
abbrev cX1_trace : ByteArray := prog_3_method_8_code
def yX1_trace : MethodName := ⟨RX1, "trace", "(I)I"⟩
abbrev cX1_roots : ByteArray := prog_3_method_9_code
def yX1_roots : MethodName := ⟨RX1, "roots", "(I)I"⟩
abbrev cX1_point : ByteArray := prog_3_method_10_code
def yX1_point : MethodName := ⟨RX1, "point", "(I)I"⟩
abbrev cX1_on : ByteArray := prog_3_method_11_code
def yX1_on : MethodName := ⟨RX1, "on", "(I)Z"⟩
abbrev cX1_over : ByteArray := prog_3_method_12_code
def yX1_over : MethodName := ⟨RX1, "over", "(II)I"⟩
abbrev cX1_sum : ByteArray := prog_3_method_13_code
def yX1_sum : MethodName := ⟨RX1, "sum", "(II)I"⟩
abbrev cX1_add : ByteArray := prog_3_method_14_code
def yX1_add : MethodName := ⟨RX1, "add", "(II)I"⟩
abbrev cX1_minus : ByteArray := prog_3_method_15_code
def yX1_minus : MethodName := ⟨RX1, "minus", "(I)I"⟩
abbrev cX1_negative : ByteArray := prog_3_method_16_code
def yX1_negative : MethodName := ⟨RX1, "negative", "(I)I"⟩
abbrev cX1_order : ByteArray := prog_3_method_17_code
def yX1_order : MethodName := ⟨RX1, "order", "(I)I"⟩
abbrev cX1_times : ByteArray := prog_3_method_18_code
def yX1_times : MethodName := ⟨RX1, "times", "(II)I"⟩
abbrev cX1_cube : ByteArray := prog_3_method_19_code
def yX1_cube : MethodName := ⟨RX1, "cube", "(I)I"⟩
abbrev cX1_square : ByteArray := prog_3_method_20_code
def yX1_square : MethodName := ⟨RX1, "square", "(I)I"⟩
abbrev cX1_division : ByteArray := prog_3_method_21_code
def yX1_division : MethodName := ⟨RX1, "division", "(II)I"⟩
abbrev cX1_twist : ByteArray := prog_3_method_22_code
def yX1_twist : MethodName := ⟨RX1, "twist", "(I)I"⟩
def RJ9 : String := "java/lang/Math"
def TJ9 : u_T := fun k => match k with
  | _ => ("", "", "", false)
def tyJ9 : Nat → FieldType := fun k => match k with
  | _ => .int
abbrev wsJ90 : List Cond := u_ws RJ9 TJ9 0
theorem nmJ9 : ∀ a, a < 0 → ∀ b, b < 0 → a ≠ b → (TJ9 a).2.1 ≠ (TJ9 b).2.1 := by decide +kernel
theorem tyJ9_ok : ∀ k, k < 0 → parseFieldDescriptor (TJ9 k).2.2.1 = some (tyJ9 k) := by decide +kernel
abbrev cJ9_floorMod_7cf53 : ByteArray := prog_4_method_50_code
def yJ9_floorMod_7cf53 : MethodName := ⟨RJ9, "floorMod", "(II)I"⟩
def RL : String := "CurveDeskLaw"
abbrev cL_law : ByteArray := code
def yL_law : MethodName := ⟨RL, "law", "([I)Z"⟩
def wsJ9_floorMod_7cf53 : List Cond := .code yJ9_floorMod_7cf53 cJ9_floorMod_7cf53 3 (some .int) :: ([])
def wsX0_modulo : List Cond := .code yX0_modulo cX0_modulo 2 (some .int) :: ([.fieldLink RX0 31 "CurveDesk" "prime" "I", .methodLink RX0 44 yJ9_floorMod_7cf53, .static yJ9_floorMod_7cf53, .initialized RJ9, .code yJ9_floorMod_7cf53 cJ9_floorMod_7cf53 3 (some .int)] ++ wsX00)
def wsX0_fillLesserRoots : List Cond := .code yX0_fillLesserRoots cX0_fillLesserRoots 2 none :: ([.fieldLink RX0 31 "CurveDesk" "prime" "I", .fieldLink RX0 9 "CurveDesk" "lesserRoot" "[I", .methodLink RX0 80 yX0_modulo, .instanceMethod yX0_modulo, .selects RX0 yX0_modulo yX0_modulo, .initialized RX0, .code yX0_modulo cX0_modulo 2 (some .int), .methodLink RX0 44 yJ9_floorMod_7cf53, .static yJ9_floorMod_7cf53, .initialized RJ9, .code yJ9_floorMod_7cf53 cJ9_floorMod_7cf53 3 (some .int)] ++ wsX00)
def wsX0_rightSide : List Cond := .code yX0_rightSide cX0_rightSide 2 (some .int) :: ([.fieldLink RX0 35 "CurveDesk" "a" "I", .fieldLink RX0 38 "CurveDesk" "b" "I", .methodLink RX0 80 yX0_modulo, .instanceMethod yX0_modulo, .selects RX0 yX0_modulo yX0_modulo, .initialized RX0, .code yX0_modulo cX0_modulo 2 (some .int), .fieldLink RX0 31 "CurveDesk" "prime" "I", .methodLink RX0 44 yJ9_floorMod_7cf53, .static yJ9_floorMod_7cf53, .initialized RJ9, .code yJ9_floorMod_7cf53 cJ9_floorMod_7cf53 3 (some .int)] ++ wsX00)
def wsX0_rootCount : List Cond := .code yX0_rootCount cX0_rootCount 2 (some .int) :: ([.fieldLink RX0 9 "CurveDesk" "lesserRoot" "[I"] ++ wsX00)
def wsX0_fillPointsBefore : List Cond := .code yX0_fillPointsBefore cX0_fillPointsBefore 2 none :: ([.fieldLink RX0 13 "CurveDesk" "pointsBefore" "[I", .fieldLink RX0 31 "CurveDesk" "prime" "I", .methodLink RX0 57 yX0_rightSide, .instanceMethod yX0_rightSide, .selects RX0 yX0_rightSide yX0_rightSide, .initialized RX0, .code yX0_rightSide cX0_rightSide 2 (some .int), .fieldLink RX0 35 "CurveDesk" "a" "I", .fieldLink RX0 38 "CurveDesk" "b" "I", .methodLink RX0 80 yX0_modulo, .instanceMethod yX0_modulo, .selects RX0 yX0_modulo yX0_modulo, .code yX0_modulo cX0_modulo 2 (some .int), .methodLink RX0 44 yJ9_floorMod_7cf53, .static yJ9_floorMod_7cf53, .initialized RJ9, .code yJ9_floorMod_7cf53 cJ9_floorMod_7cf53 3 (some .int), .methodLink RX0 95 yX0_rootCount, .instanceMethod yX0_rootCount, .selects RX0 yX0_rootCount yX0_rootCount, .code yX0_rootCount cX0_rootCount 2 (some .int), .fieldLink RX0 9 "CurveDesk" "lesserRoot" "[I"] ++ wsX00)
def wsX0_setPresent_r1 : List Cond := [Cond.fieldLink RX0 31 "CurveDesk" "prime" "I", Cond.fieldLink RX0 35 "CurveDesk" "a" "I", Cond.fieldLink RX0 38 "CurveDesk" "b" "I", Cond.fieldLink RX0 13 "CurveDesk" "pointsBefore" "[I", Cond.fieldLink RX0 41 "CurveDesk" "count" "I", Cond.methodLink RX0 89 yX0_fillLesserRoots, Cond.instanceMethod yX0_fillLesserRoots, Cond.selects RX0 yX0_fillLesserRoots yX0_fillLesserRoots, Cond.initialized RX0, Cond.code yX0_fillLesserRoots cX0_fillLesserRoots 2 none, Cond.fieldLink RX0 9 "CurveDesk" "lesserRoot" "[I", Cond.methodLink RX0 80 yX0_modulo, Cond.instanceMethod yX0_modulo, Cond.selects RX0 yX0_modulo yX0_modulo, Cond.code yX0_modulo cX0_modulo 2 (some .int), Cond.methodLink RX0 44 yJ9_floorMod_7cf53, Cond.static yJ9_floorMod_7cf53, Cond.initialized RJ9, Cond.code yJ9_floorMod_7cf53 cJ9_floorMod_7cf53 3 (some .int), Cond.methodLink RX0 92 yX0_fillPointsBefore, Cond.instanceMethod yX0_fillPointsBefore, Cond.selects RX0 yX0_fillPointsBefore yX0_fillPointsBefore, Cond.code yX0_fillPointsBefore cX0_fillPointsBefore 2 none, Cond.methodLink RX0 57 yX0_rightSide]
def wsX0_setPresent_r2 : List Cond := [Cond.instanceMethod yX0_rightSide, Cond.selects RX0 yX0_rightSide yX0_rightSide, Cond.code yX0_rightSide cX0_rightSide 2 (some .int), Cond.methodLink RX0 95 yX0_rootCount, Cond.instanceMethod yX0_rootCount, Cond.selects RX0 yX0_rootCount yX0_rootCount, Cond.code yX0_rootCount cX0_rootCount 2 (some .int)]
def wsX0_setPresent : List Cond := .code yX0_setPresent cX0_setPresent 4 none :: ((wsX0_setPresent_r1 ++ wsX0_setPresent_r2) ++ wsX00)
def wsX0_init_r1 : List Cond := [Cond.methodLink RX0 1 objectInit, Cond.instanceMethod objectInit, Cond.code objectInit ⟨#[0xb1]⟩ 1 none, Cond.arrayClass .int, Cond.fieldLink RX0 9 "CurveDesk" "lesserRoot" "[I", Cond.fieldLink RX0 13 "CurveDesk" "pointsBefore" "[I", Cond.fieldLink RX0 16 "CurveDesk" "divisionValue" "[I", Cond.methodLink RX0 19 yX0_setPresent, Cond.instanceMethod yX0_setPresent, Cond.selects RX0 yX0_setPresent yX0_setPresent, Cond.initialized RX0, Cond.code yX0_setPresent cX0_setPresent 4 none, Cond.fieldLink RX0 31 "CurveDesk" "prime" "I", Cond.fieldLink RX0 35 "CurveDesk" "a" "I", Cond.fieldLink RX0 38 "CurveDesk" "b" "I", Cond.fieldLink RX0 41 "CurveDesk" "count" "I", Cond.methodLink RX0 89 yX0_fillLesserRoots, Cond.instanceMethod yX0_fillLesserRoots, Cond.selects RX0 yX0_fillLesserRoots yX0_fillLesserRoots, Cond.code yX0_fillLesserRoots cX0_fillLesserRoots 2 none, Cond.methodLink RX0 80 yX0_modulo, Cond.instanceMethod yX0_modulo, Cond.selects RX0 yX0_modulo yX0_modulo, Cond.code yX0_modulo cX0_modulo 2 (some .int)]
def wsX0_init_r2 : List Cond := [Cond.methodLink RX0 44 yJ9_floorMod_7cf53, Cond.static yJ9_floorMod_7cf53, Cond.initialized RJ9, Cond.code yJ9_floorMod_7cf53 cJ9_floorMod_7cf53 3 (some .int), Cond.methodLink RX0 92 yX0_fillPointsBefore, Cond.instanceMethod yX0_fillPointsBefore, Cond.selects RX0 yX0_fillPointsBefore yX0_fillPointsBefore, Cond.code yX0_fillPointsBefore cX0_fillPointsBefore 2 none, Cond.methodLink RX0 57 yX0_rightSide, Cond.instanceMethod yX0_rightSide, Cond.selects RX0 yX0_rightSide yX0_rightSide, Cond.code yX0_rightSide cX0_rightSide 2 (some .int), Cond.methodLink RX0 95 yX0_rootCount, Cond.instanceMethod yX0_rootCount, Cond.selects RX0 yX0_rootCount yX0_rootCount, Cond.code yX0_rootCount cX0_rootCount 2 (some .int)]
def wsX0_init : List Cond := .code yX0_init cX0_init 1 none :: ((wsX0_init_r1 ++ wsX0_init_r2) ++ wsX00)
def wsX0_isPrime : List Cond := .code yX0_isPrime cX0_isPrime 2 (some .boolean) :: ([])
def wsX0_isSingular : List Cond := .code yX0_isSingular cX0_isSingular 5 (some .boolean) :: ([])
def wsX0_curve_r1 : List Cond := [Cond.methodLink RX0 23 yX0_isPrime, Cond.static yX0_isPrime, Cond.initialized RX0, Cond.code yX0_isPrime cX0_isPrime 2 (some .boolean), Cond.methodLink RX0 27 yX0_isSingular, Cond.static yX0_isSingular, Cond.code yX0_isSingular cX0_isSingular 5 (some .boolean), Cond.methodLink RX0 19 yX0_setPresent, Cond.instanceMethod yX0_setPresent, Cond.selects RX0 yX0_setPresent yX0_setPresent, Cond.code yX0_setPresent cX0_setPresent 4 none, Cond.fieldLink RX0 31 "CurveDesk" "prime" "I", Cond.fieldLink RX0 35 "CurveDesk" "a" "I", Cond.fieldLink RX0 38 "CurveDesk" "b" "I", Cond.fieldLink RX0 13 "CurveDesk" "pointsBefore" "[I", Cond.fieldLink RX0 41 "CurveDesk" "count" "I", Cond.methodLink RX0 89 yX0_fillLesserRoots, Cond.instanceMethod yX0_fillLesserRoots, Cond.selects RX0 yX0_fillLesserRoots yX0_fillLesserRoots, Cond.code yX0_fillLesserRoots cX0_fillLesserRoots 2 none, Cond.fieldLink RX0 9 "CurveDesk" "lesserRoot" "[I", Cond.methodLink RX0 80 yX0_modulo, Cond.instanceMethod yX0_modulo, Cond.selects RX0 yX0_modulo yX0_modulo]
def wsX0_curve_r2 : List Cond := [Cond.code yX0_modulo cX0_modulo 2 (some .int), Cond.methodLink RX0 44 yJ9_floorMod_7cf53, Cond.static yJ9_floorMod_7cf53, Cond.initialized RJ9, Cond.code yJ9_floorMod_7cf53 cJ9_floorMod_7cf53 3 (some .int), Cond.methodLink RX0 92 yX0_fillPointsBefore, Cond.instanceMethod yX0_fillPointsBefore, Cond.selects RX0 yX0_fillPointsBefore yX0_fillPointsBefore, Cond.code yX0_fillPointsBefore cX0_fillPointsBefore 2 none, Cond.methodLink RX0 57 yX0_rightSide, Cond.instanceMethod yX0_rightSide, Cond.selects RX0 yX0_rightSide yX0_rightSide, Cond.code yX0_rightSide cX0_rightSide 2 (some .int), Cond.methodLink RX0 95 yX0_rootCount, Cond.instanceMethod yX0_rootCount, Cond.selects RX0 yX0_rootCount yX0_rootCount, Cond.code yX0_rootCount cX0_rootCount 2 (some .int)]
def wsX0_curve : List Cond := .code yX0_curve cX0_curve 4 (some .int) :: ((wsX0_curve_r1 ++ wsX0_curve_r2) ++ wsX00)
def wsX0_coefficient : List Cond := .code yX0_coefficient cX0_coefficient 2 (some .int) :: ([.fieldLink RX0 31 "CurveDesk" "prime" "I", .fieldLink RX0 35 "CurveDesk" "a" "I", .fieldLink RX0 38 "CurveDesk" "b" "I"] ++ wsX00)
def wsX0_count : List Cond := .code yX0_count cX0_count 1 (some .int) :: ([.fieldLink RX0 41 "CurveDesk" "count" "I"] ++ wsX00)
def wsX0_trace : List Cond := .code yX0_trace cX0_trace 2 (some .int) :: ([.fieldLink RX0 31 "CurveDesk" "prime" "I", .fieldLink RX0 41 "CurveDesk" "count" "I", .methodLink RX0 44 yJ9_floorMod_7cf53, .static yJ9_floorMod_7cf53, .initialized RJ9, .code yJ9_floorMod_7cf53 cJ9_floorMod_7cf53 3 (some .int)] ++ wsX00)
def wsX0_isNumber : List Cond := .code yX0_isNumber cX0_isNumber 2 (some .boolean) :: ([.fieldLink RX0 31 "CurveDesk" "prime" "I"] ++ wsX00)
def wsX0_roots : List Cond := .code yX0_roots cX0_roots 2 (some .int) :: ([.fieldLink RX0 13 "CurveDesk" "pointsBefore" "[I", .methodLink RX0 50 yX0_isNumber, .instanceMethod yX0_isNumber, .selects RX0 yX0_isNumber yX0_isNumber, .initialized RX0, .code yX0_isNumber cX0_isNumber 2 (some .boolean), .fieldLink RX0 31 "CurveDesk" "prime" "I"] ++ wsX00)
def wsX0_xOfPoint : List Cond := .code yX0_xOfPoint cX0_xOfPoint 4 (some .int) :: ([.fieldLink RX0 31 "CurveDesk" "prime" "I", .fieldLink RX0 13 "CurveDesk" "pointsBefore" "[I"] ++ wsX00)
def wsX0_pack : List Cond := .code yX0_pack cX0_pack 2 (some .int) :: ([])
def wsX0_point_r1 : List Cond := [Cond.fieldLink RX0 41 "CurveDesk" "count" "I", Cond.fieldLink RX0 9 "CurveDesk" "lesserRoot" "[I", Cond.fieldLink RX0 13 "CurveDesk" "pointsBefore" "[I", Cond.fieldLink RX0 31 "CurveDesk" "prime" "I", Cond.methodLink RX0 53 yX0_xOfPoint, Cond.instanceMethod yX0_xOfPoint, Cond.selects RX0 yX0_xOfPoint yX0_xOfPoint, Cond.initialized RX0, Cond.code yX0_xOfPoint cX0_xOfPoint 4 (some .int), Cond.methodLink RX0 57 yX0_rightSide, Cond.instanceMethod yX0_rightSide, Cond.selects RX0 yX0_rightSide yX0_rightSide, Cond.code yX0_rightSide cX0_rightSide 2 (some .int), Cond.fieldLink RX0 35 "CurveDesk" "a" "I", Cond.fieldLink RX0 38 "CurveDesk" "b" "I", Cond.methodLink RX0 80 yX0_modulo, Cond.instanceMethod yX0_modulo, Cond.selects RX0 yX0_modulo yX0_modulo, Cond.code yX0_modulo cX0_modulo 2 (some .int), Cond.methodLink RX0 44 yJ9_floorMod_7cf53, Cond.static yJ9_floorMod_7cf53, Cond.initialized RJ9, Cond.code yJ9_floorMod_7cf53 cJ9_floorMod_7cf53 3 (some .int), Cond.methodLink RX0 60 yX0_pack]
def wsX0_point_r2 : List Cond := [Cond.static yX0_pack, Cond.code yX0_pack cX0_pack 2 (some .int)]
def wsX0_point : List Cond := .code yX0_point cX0_point 4 (some .int) :: ((wsX0_point_r1 ++ wsX0_point_r2) ++ wsX00)
def wsX0_xOf : List Cond := .code yX0_xOf cX0_xOf 1 (some .int) :: ([])
def wsX0_yOf : List Cond := .code yX0_yOf cX0_yOf 1 (some .int) :: ([])
def wsX0_isPoint_r1 : List Cond := [Cond.methodLink RX0 98 yX0_xOf, Cond.static yX0_xOf, Cond.initialized RX0, Cond.code yX0_xOf cX0_xOf 1 (some .int), Cond.methodLink RX0 101 yX0_yOf, Cond.static yX0_yOf, Cond.code yX0_yOf cX0_yOf 1 (some .int), Cond.methodLink RX0 50 yX0_isNumber, Cond.instanceMethod yX0_isNumber, Cond.selects RX0 yX0_isNumber yX0_isNumber, Cond.code yX0_isNumber cX0_isNumber 2 (some .boolean), Cond.fieldLink RX0 31 "CurveDesk" "prime" "I", Cond.methodLink RX0 80 yX0_modulo, Cond.instanceMethod yX0_modulo, Cond.selects RX0 yX0_modulo yX0_modulo, Cond.code yX0_modulo cX0_modulo 2 (some .int), Cond.methodLink RX0 44 yJ9_floorMod_7cf53, Cond.static yJ9_floorMod_7cf53, Cond.initialized RJ9, Cond.code yJ9_floorMod_7cf53 cJ9_floorMod_7cf53 3 (some .int), Cond.methodLink RX0 57 yX0_rightSide, Cond.instanceMethod yX0_rightSide, Cond.selects RX0 yX0_rightSide yX0_rightSide, Cond.code yX0_rightSide cX0_rightSide 2 (some .int)]
def wsX0_isPoint_r2 : List Cond := [Cond.fieldLink RX0 35 "CurveDesk" "a" "I", Cond.fieldLink RX0 38 "CurveDesk" "b" "I"]
def wsX0_isPoint : List Cond := .code yX0_isPoint cX0_isPoint 4 (some .boolean) :: ((wsX0_isPoint_r1 ++ wsX0_isPoint_r2) ++ wsX00)
def wsX0_on_r1 : List Cond := [Cond.methodLink RX0 63 yX0_isPoint, Cond.instanceMethod yX0_isPoint, Cond.selects RX0 yX0_isPoint yX0_isPoint, Cond.initialized RX0, Cond.code yX0_isPoint cX0_isPoint 4 (some .boolean), Cond.methodLink RX0 98 yX0_xOf, Cond.static yX0_xOf, Cond.code yX0_xOf cX0_xOf 1 (some .int), Cond.methodLink RX0 101 yX0_yOf, Cond.static yX0_yOf, Cond.code yX0_yOf cX0_yOf 1 (some .int), Cond.methodLink RX0 50 yX0_isNumber, Cond.instanceMethod yX0_isNumber, Cond.selects RX0 yX0_isNumber yX0_isNumber, Cond.code yX0_isNumber cX0_isNumber 2 (some .boolean), Cond.fieldLink RX0 31 "CurveDesk" "prime" "I", Cond.methodLink RX0 80 yX0_modulo, Cond.instanceMethod yX0_modulo, Cond.selects RX0 yX0_modulo yX0_modulo, Cond.code yX0_modulo cX0_modulo 2 (some .int), Cond.methodLink RX0 44 yJ9_floorMod_7cf53, Cond.static yJ9_floorMod_7cf53, Cond.initialized RJ9, Cond.code yJ9_floorMod_7cf53 cJ9_floorMod_7cf53 3 (some .int)]
def wsX0_on_r2 : List Cond := [Cond.methodLink RX0 57 yX0_rightSide, Cond.instanceMethod yX0_rightSide, Cond.selects RX0 yX0_rightSide yX0_rightSide, Cond.code yX0_rightSide cX0_rightSide 2 (some .int), Cond.fieldLink RX0 35 "CurveDesk" "a" "I", Cond.fieldLink RX0 38 "CurveDesk" "b" "I"]
def wsX0_on : List Cond := .code yX0_on cX0_on 2 (some .boolean) :: ((wsX0_on_r1 ++ wsX0_on_r2) ++ wsX00)
def wsX0_opposite : List Cond := .code yX0_opposite cX0_opposite 2 (some .int) :: ([.fieldLink RX0 31 "CurveDesk" "prime" "I", .methodLink RX0 101 yX0_yOf, .static yX0_yOf, .initialized RX0, .code yX0_yOf cX0_yOf 1 (some .int), .methodLink RX0 98 yX0_xOf, .static yX0_xOf, .code yX0_xOf cX0_xOf 1 (some .int), .methodLink RX0 60 yX0_pack, .static yX0_pack, .code yX0_pack cX0_pack 2 (some .int)] ++ wsX00)
def wsX0_inverse : List Cond := .code yX0_inverse cX0_inverse 5 (some .int) :: ([.fieldLink RX0 31 "CurveDesk" "prime" "I", .methodLink RX0 80 yX0_modulo, .instanceMethod yX0_modulo, .selects RX0 yX0_modulo yX0_modulo, .initialized RX0, .code yX0_modulo cX0_modulo 2 (some .int), .methodLink RX0 44 yJ9_floorMod_7cf53, .static yJ9_floorMod_7cf53, .initialized RJ9, .code yJ9_floorMod_7cf53 cJ9_floorMod_7cf53 3 (some .int)] ++ wsX00)
def wsX0_slope : List Cond := .code yX0_slope cX0_slope 5 (some .int) :: ([.fieldLink RX0 35 "CurveDesk" "a" "I", .methodLink RX0 98 yX0_xOf, .static yX0_xOf, .initialized RX0, .code yX0_xOf cX0_xOf 1 (some .int), .methodLink RX0 101 yX0_yOf, .static yX0_yOf, .code yX0_yOf cX0_yOf 1 (some .int), .methodLink RX0 80 yX0_modulo, .instanceMethod yX0_modulo, .selects RX0 yX0_modulo yX0_modulo, .code yX0_modulo cX0_modulo 2 (some .int), .fieldLink RX0 31 "CurveDesk" "prime" "I", .methodLink RX0 44 yJ9_floorMod_7cf53, .static yJ9_floorMod_7cf53, .initialized RJ9, .code yJ9_floorMod_7cf53 cJ9_floorMod_7cf53 3 (some .int), .methodLink RX0 107 yX0_inverse, .instanceMethod yX0_inverse, .selects RX0 yX0_inverse yX0_inverse, .code yX0_inverse cX0_inverse 5 (some .int)] ++ wsX00)
def wsX0_sum_r1 : List Cond := [Cond.methodLink RX0 69 yX0_opposite, Cond.instanceMethod yX0_opposite, Cond.selects RX0 yX0_opposite yX0_opposite, Cond.initialized RX0, Cond.code yX0_opposite cX0_opposite 2 (some .int), Cond.fieldLink RX0 31 "CurveDesk" "prime" "I", Cond.methodLink RX0 101 yX0_yOf, Cond.static yX0_yOf, Cond.code yX0_yOf cX0_yOf 1 (some .int), Cond.methodLink RX0 98 yX0_xOf, Cond.static yX0_xOf, Cond.code yX0_xOf cX0_xOf 1 (some .int), Cond.methodLink RX0 60 yX0_pack, Cond.static yX0_pack, Cond.code yX0_pack cX0_pack 2 (some .int), Cond.methodLink RX0 104 yX0_slope, Cond.instanceMethod yX0_slope, Cond.selects RX0 yX0_slope yX0_slope, Cond.code yX0_slope cX0_slope 5 (some .int), Cond.fieldLink RX0 35 "CurveDesk" "a" "I", Cond.methodLink RX0 80 yX0_modulo, Cond.instanceMethod yX0_modulo, Cond.selects RX0 yX0_modulo yX0_modulo, Cond.code yX0_modulo cX0_modulo 2 (some .int)]
def wsX0_sum_r2 : List Cond := [Cond.methodLink RX0 44 yJ9_floorMod_7cf53, Cond.static yJ9_floorMod_7cf53, Cond.initialized RJ9, Cond.code yJ9_floorMod_7cf53 cJ9_floorMod_7cf53 3 (some .int), Cond.methodLink RX0 107 yX0_inverse, Cond.instanceMethod yX0_inverse, Cond.selects RX0 yX0_inverse yX0_inverse, Cond.code yX0_inverse cX0_inverse 5 (some .int)]
def wsX0_sum : List Cond := .code yX0_sum cX0_sum 6 (some .int) :: ((wsX0_sum_r1 ++ wsX0_sum_r2) ++ wsX00)
def wsX0_add_r1 : List Cond := [Cond.methodLink RX0 63 yX0_isPoint, Cond.instanceMethod yX0_isPoint, Cond.selects RX0 yX0_isPoint yX0_isPoint, Cond.initialized RX0, Cond.code yX0_isPoint cX0_isPoint 4 (some .boolean), Cond.methodLink RX0 98 yX0_xOf, Cond.static yX0_xOf, Cond.code yX0_xOf cX0_xOf 1 (some .int), Cond.methodLink RX0 101 yX0_yOf, Cond.static yX0_yOf, Cond.code yX0_yOf cX0_yOf 1 (some .int), Cond.methodLink RX0 50 yX0_isNumber, Cond.instanceMethod yX0_isNumber, Cond.selects RX0 yX0_isNumber yX0_isNumber, Cond.code yX0_isNumber cX0_isNumber 2 (some .boolean), Cond.fieldLink RX0 31 "CurveDesk" "prime" "I", Cond.methodLink RX0 80 yX0_modulo, Cond.instanceMethod yX0_modulo, Cond.selects RX0 yX0_modulo yX0_modulo, Cond.code yX0_modulo cX0_modulo 2 (some .int), Cond.methodLink RX0 44 yJ9_floorMod_7cf53, Cond.static yJ9_floorMod_7cf53, Cond.initialized RJ9, Cond.code yJ9_floorMod_7cf53 cJ9_floorMod_7cf53 3 (some .int)]
def wsX0_add_r2 : List Cond := [Cond.methodLink RX0 57 yX0_rightSide, Cond.instanceMethod yX0_rightSide, Cond.selects RX0 yX0_rightSide yX0_rightSide, Cond.code yX0_rightSide cX0_rightSide 2 (some .int), Cond.fieldLink RX0 35 "CurveDesk" "a" "I", Cond.fieldLink RX0 38 "CurveDesk" "b" "I", Cond.methodLink RX0 66 yX0_sum, Cond.instanceMethod yX0_sum, Cond.selects RX0 yX0_sum yX0_sum, Cond.code yX0_sum cX0_sum 6 (some .int), Cond.methodLink RX0 69 yX0_opposite, Cond.instanceMethod yX0_opposite, Cond.selects RX0 yX0_opposite yX0_opposite, Cond.code yX0_opposite cX0_opposite 2 (some .int), Cond.methodLink RX0 60 yX0_pack, Cond.static yX0_pack, Cond.code yX0_pack cX0_pack 2 (some .int), Cond.methodLink RX0 104 yX0_slope, Cond.instanceMethod yX0_slope, Cond.selects RX0 yX0_slope yX0_slope, Cond.code yX0_slope cX0_slope 5 (some .int), Cond.methodLink RX0 107 yX0_inverse, Cond.instanceMethod yX0_inverse, Cond.selects RX0 yX0_inverse yX0_inverse]
def wsX0_add_r3 : List Cond := [Cond.code yX0_inverse cX0_inverse 5 (some .int)]
def wsX0_add : List Cond := .code yX0_add cX0_add 3 (some .int) :: ((wsX0_add_r1 ++ (wsX0_add_r2 ++ wsX0_add_r3)) ++ wsX00)
def wsX0_negative_r1 : List Cond := [Cond.methodLink RX0 63 yX0_isPoint, Cond.instanceMethod yX0_isPoint, Cond.selects RX0 yX0_isPoint yX0_isPoint, Cond.initialized RX0, Cond.code yX0_isPoint cX0_isPoint 4 (some .boolean), Cond.methodLink RX0 98 yX0_xOf, Cond.static yX0_xOf, Cond.code yX0_xOf cX0_xOf 1 (some .int), Cond.methodLink RX0 101 yX0_yOf, Cond.static yX0_yOf, Cond.code yX0_yOf cX0_yOf 1 (some .int), Cond.methodLink RX0 50 yX0_isNumber, Cond.instanceMethod yX0_isNumber, Cond.selects RX0 yX0_isNumber yX0_isNumber, Cond.code yX0_isNumber cX0_isNumber 2 (some .boolean), Cond.fieldLink RX0 31 "CurveDesk" "prime" "I", Cond.methodLink RX0 80 yX0_modulo, Cond.instanceMethod yX0_modulo, Cond.selects RX0 yX0_modulo yX0_modulo, Cond.code yX0_modulo cX0_modulo 2 (some .int), Cond.methodLink RX0 44 yJ9_floorMod_7cf53, Cond.static yJ9_floorMod_7cf53, Cond.initialized RJ9, Cond.code yJ9_floorMod_7cf53 cJ9_floorMod_7cf53 3 (some .int)]
def wsX0_negative_r2 : List Cond := [Cond.methodLink RX0 57 yX0_rightSide, Cond.instanceMethod yX0_rightSide, Cond.selects RX0 yX0_rightSide yX0_rightSide, Cond.code yX0_rightSide cX0_rightSide 2 (some .int), Cond.fieldLink RX0 35 "CurveDesk" "a" "I", Cond.fieldLink RX0 38 "CurveDesk" "b" "I", Cond.methodLink RX0 69 yX0_opposite, Cond.instanceMethod yX0_opposite, Cond.selects RX0 yX0_opposite yX0_opposite, Cond.code yX0_opposite cX0_opposite 2 (some .int), Cond.methodLink RX0 60 yX0_pack, Cond.static yX0_pack, Cond.code yX0_pack cX0_pack 2 (some .int)]
def wsX0_negative : List Cond := .code yX0_negative cX0_negative 2 (some .int) :: ((wsX0_negative_r1 ++ wsX0_negative_r2) ++ wsX00)
def wsX0_multiple_r1 : List Cond := [Cond.methodLink RX0 66 yX0_sum, Cond.instanceMethod yX0_sum, Cond.selects RX0 yX0_sum yX0_sum, Cond.initialized RX0, Cond.code yX0_sum cX0_sum 6 (some .int), Cond.methodLink RX0 69 yX0_opposite, Cond.instanceMethod yX0_opposite, Cond.selects RX0 yX0_opposite yX0_opposite, Cond.code yX0_opposite cX0_opposite 2 (some .int), Cond.fieldLink RX0 31 "CurveDesk" "prime" "I", Cond.methodLink RX0 101 yX0_yOf, Cond.static yX0_yOf, Cond.code yX0_yOf cX0_yOf 1 (some .int), Cond.methodLink RX0 98 yX0_xOf, Cond.static yX0_xOf, Cond.code yX0_xOf cX0_xOf 1 (some .int), Cond.methodLink RX0 60 yX0_pack, Cond.static yX0_pack, Cond.code yX0_pack cX0_pack 2 (some .int), Cond.methodLink RX0 104 yX0_slope, Cond.instanceMethod yX0_slope, Cond.selects RX0 yX0_slope yX0_slope, Cond.code yX0_slope cX0_slope 5 (some .int), Cond.fieldLink RX0 35 "CurveDesk" "a" "I"]
def wsX0_multiple_r2 : List Cond := [Cond.methodLink RX0 80 yX0_modulo, Cond.instanceMethod yX0_modulo, Cond.selects RX0 yX0_modulo yX0_modulo, Cond.code yX0_modulo cX0_modulo 2 (some .int), Cond.methodLink RX0 44 yJ9_floorMod_7cf53, Cond.static yJ9_floorMod_7cf53, Cond.initialized RJ9, Cond.code yJ9_floorMod_7cf53 cJ9_floorMod_7cf53 3 (some .int), Cond.methodLink RX0 107 yX0_inverse, Cond.instanceMethod yX0_inverse, Cond.selects RX0 yX0_inverse yX0_inverse, Cond.code yX0_inverse cX0_inverse 5 (some .int)]
def wsX0_multiple : List Cond := .code yX0_multiple cX0_multiple 8 (some .int) :: ((wsX0_multiple_r1 ++ wsX0_multiple_r2) ++ wsX00)
def wsX0_times_r1 : List Cond := [Cond.methodLink RX0 63 yX0_isPoint, Cond.instanceMethod yX0_isPoint, Cond.selects RX0 yX0_isPoint yX0_isPoint, Cond.initialized RX0, Cond.code yX0_isPoint cX0_isPoint 4 (some .boolean), Cond.methodLink RX0 98 yX0_xOf, Cond.static yX0_xOf, Cond.code yX0_xOf cX0_xOf 1 (some .int), Cond.methodLink RX0 101 yX0_yOf, Cond.static yX0_yOf, Cond.code yX0_yOf cX0_yOf 1 (some .int), Cond.methodLink RX0 50 yX0_isNumber, Cond.instanceMethod yX0_isNumber, Cond.selects RX0 yX0_isNumber yX0_isNumber, Cond.code yX0_isNumber cX0_isNumber 2 (some .boolean), Cond.fieldLink RX0 31 "CurveDesk" "prime" "I", Cond.methodLink RX0 80 yX0_modulo, Cond.instanceMethod yX0_modulo, Cond.selects RX0 yX0_modulo yX0_modulo, Cond.code yX0_modulo cX0_modulo 2 (some .int), Cond.methodLink RX0 44 yJ9_floorMod_7cf53, Cond.static yJ9_floorMod_7cf53, Cond.initialized RJ9, Cond.code yJ9_floorMod_7cf53 cJ9_floorMod_7cf53 3 (some .int)]
def wsX0_times_r2 : List Cond := [Cond.methodLink RX0 57 yX0_rightSide, Cond.instanceMethod yX0_rightSide, Cond.selects RX0 yX0_rightSide yX0_rightSide, Cond.code yX0_rightSide cX0_rightSide 2 (some .int), Cond.fieldLink RX0 35 "CurveDesk" "a" "I", Cond.fieldLink RX0 38 "CurveDesk" "b" "I", Cond.methodLink RX0 69 yX0_opposite, Cond.instanceMethod yX0_opposite, Cond.selects RX0 yX0_opposite yX0_opposite, Cond.code yX0_opposite cX0_opposite 2 (some .int), Cond.methodLink RX0 60 yX0_pack, Cond.static yX0_pack, Cond.code yX0_pack cX0_pack 2 (some .int), Cond.methodLink RX0 72 yX0_multiple, Cond.instanceMethod yX0_multiple, Cond.selects RX0 yX0_multiple yX0_multiple, Cond.code yX0_multiple cX0_multiple 8 (some .int), Cond.methodLink RX0 66 yX0_sum, Cond.instanceMethod yX0_sum, Cond.selects RX0 yX0_sum yX0_sum, Cond.code yX0_sum cX0_sum 6 (some .int), Cond.methodLink RX0 104 yX0_slope, Cond.instanceMethod yX0_slope, Cond.selects RX0 yX0_slope yX0_slope]
def wsX0_times_r3 : List Cond := [Cond.code yX0_slope cX0_slope 5 (some .int), Cond.methodLink RX0 107 yX0_inverse, Cond.instanceMethod yX0_inverse, Cond.selects RX0 yX0_inverse yX0_inverse, Cond.code yX0_inverse cX0_inverse 5 (some .int)]
def wsX0_times : List Cond := .code yX0_times cX0_times 5 (some .int) :: ((wsX0_times_r1 ++ (wsX0_times_r2 ++ wsX0_times_r3)) ++ wsX00)
def wsX0_order_r1 : List Cond := [Cond.fieldLink RX0 41 "CurveDesk" "count" "I", Cond.methodLink RX0 63 yX0_isPoint, Cond.instanceMethod yX0_isPoint, Cond.selects RX0 yX0_isPoint yX0_isPoint, Cond.initialized RX0, Cond.code yX0_isPoint cX0_isPoint 4 (some .boolean), Cond.methodLink RX0 98 yX0_xOf, Cond.static yX0_xOf, Cond.code yX0_xOf cX0_xOf 1 (some .int), Cond.methodLink RX0 101 yX0_yOf, Cond.static yX0_yOf, Cond.code yX0_yOf cX0_yOf 1 (some .int), Cond.methodLink RX0 50 yX0_isNumber, Cond.instanceMethod yX0_isNumber, Cond.selects RX0 yX0_isNumber yX0_isNumber, Cond.code yX0_isNumber cX0_isNumber 2 (some .boolean), Cond.fieldLink RX0 31 "CurveDesk" "prime" "I", Cond.methodLink RX0 80 yX0_modulo, Cond.instanceMethod yX0_modulo, Cond.selects RX0 yX0_modulo yX0_modulo, Cond.code yX0_modulo cX0_modulo 2 (some .int), Cond.methodLink RX0 44 yJ9_floorMod_7cf53, Cond.static yJ9_floorMod_7cf53, Cond.initialized RJ9]
def wsX0_order_r2 : List Cond := [Cond.code yJ9_floorMod_7cf53 cJ9_floorMod_7cf53 3 (some .int), Cond.methodLink RX0 57 yX0_rightSide, Cond.instanceMethod yX0_rightSide, Cond.selects RX0 yX0_rightSide yX0_rightSide, Cond.code yX0_rightSide cX0_rightSide 2 (some .int), Cond.fieldLink RX0 35 "CurveDesk" "a" "I", Cond.fieldLink RX0 38 "CurveDesk" "b" "I", Cond.methodLink RX0 72 yX0_multiple, Cond.instanceMethod yX0_multiple, Cond.selects RX0 yX0_multiple yX0_multiple, Cond.code yX0_multiple cX0_multiple 8 (some .int), Cond.methodLink RX0 66 yX0_sum, Cond.instanceMethod yX0_sum, Cond.selects RX0 yX0_sum yX0_sum, Cond.code yX0_sum cX0_sum 6 (some .int), Cond.methodLink RX0 69 yX0_opposite, Cond.instanceMethod yX0_opposite, Cond.selects RX0 yX0_opposite yX0_opposite, Cond.code yX0_opposite cX0_opposite 2 (some .int), Cond.methodLink RX0 60 yX0_pack, Cond.static yX0_pack, Cond.code yX0_pack cX0_pack 2 (some .int), Cond.methodLink RX0 104 yX0_slope, Cond.instanceMethod yX0_slope]
def wsX0_order_r3 : List Cond := [Cond.selects RX0 yX0_slope yX0_slope, Cond.code yX0_slope cX0_slope 5 (some .int), Cond.methodLink RX0 107 yX0_inverse, Cond.instanceMethod yX0_inverse, Cond.selects RX0 yX0_inverse yX0_inverse, Cond.code yX0_inverse cX0_inverse 5 (some .int)]
def wsX0_order : List Cond := .code yX0_order cX0_order 3 (some .int) :: ((wsX0_order_r1 ++ (wsX0_order_r2 ++ wsX0_order_r3)) ++ wsX00)
def wsX0_thirdDivisionValue : List Cond := .code yX0_thirdDivisionValue cX0_thirdDivisionValue 3 (some .int) :: ([.fieldLink RX0 35 "CurveDesk" "a" "I", .fieldLink RX0 38 "CurveDesk" "b" "I", .methodLink RX0 80 yX0_modulo, .instanceMethod yX0_modulo, .selects RX0 yX0_modulo yX0_modulo, .initialized RX0, .code yX0_modulo cX0_modulo 2 (some .int), .fieldLink RX0 31 "CurveDesk" "prime" "I", .methodLink RX0 44 yJ9_floorMod_7cf53, .static yJ9_floorMod_7cf53, .initialized RJ9, .code yJ9_floorMod_7cf53 cJ9_floorMod_7cf53 3 (some .int)] ++ wsX00)
def wsX0_fourthDivisionValue : List Cond := .code yX0_fourthDivisionValue cX0_fourthDivisionValue 3 (some .int) :: ([.fieldLink RX0 35 "CurveDesk" "a" "I", .fieldLink RX0 38 "CurveDesk" "b" "I", .methodLink RX0 80 yX0_modulo, .instanceMethod yX0_modulo, .selects RX0 yX0_modulo yX0_modulo, .initialized RX0, .code yX0_modulo cX0_modulo 2 (some .int), .fieldLink RX0 31 "CurveDesk" "prime" "I", .methodLink RX0 44 yJ9_floorMod_7cf53, .static yJ9_floorMod_7cf53, .initialized RJ9, .code yJ9_floorMod_7cf53 cJ9_floorMod_7cf53 3 (some .int)] ++ wsX00)
def wsX0_fillFirstDivisionValues : List Cond := .code yX0_fillFirstDivisionValues cX0_fillFirstDivisionValues 2 none :: ([.fieldLink RX0 16 "CurveDesk" "divisionValue" "[I", .methodLink RX0 110 yX0_thirdDivisionValue, .instanceMethod yX0_thirdDivisionValue, .selects RX0 yX0_thirdDivisionValue yX0_thirdDivisionValue, .initialized RX0, .code yX0_thirdDivisionValue cX0_thirdDivisionValue 3 (some .int), .fieldLink RX0 35 "CurveDesk" "a" "I", .fieldLink RX0 38 "CurveDesk" "b" "I", .methodLink RX0 80 yX0_modulo, .instanceMethod yX0_modulo, .selects RX0 yX0_modulo yX0_modulo, .code yX0_modulo cX0_modulo 2 (some .int), .fieldLink RX0 31 "CurveDesk" "prime" "I", .methodLink RX0 44 yJ9_floorMod_7cf53, .static yJ9_floorMod_7cf53, .initialized RJ9, .code yJ9_floorMod_7cf53 cJ9_floorMod_7cf53 3 (some .int), .methodLink RX0 113 yX0_fourthDivisionValue, .instanceMethod yX0_fourthDivisionValue, .selects RX0 yX0_fourthDivisionValue yX0_fourthDivisionValue, .code yX0_fourthDivisionValue cX0_fourthDivisionValue 3 (some .int)] ++ wsX00)
def wsX0_evenDivisionValue : List Cond := .code yX0_evenDivisionValue cX0_evenDivisionValue 5 (some .int) :: ([.fieldLink RX0 16 "CurveDesk" "divisionValue" "[I", .methodLink RX0 80 yX0_modulo, .instanceMethod yX0_modulo, .selects RX0 yX0_modulo yX0_modulo, .initialized RX0, .code yX0_modulo cX0_modulo 2 (some .int), .fieldLink RX0 31 "CurveDesk" "prime" "I", .methodLink RX0 44 yJ9_floorMod_7cf53, .static yJ9_floorMod_7cf53, .initialized RJ9, .code yJ9_floorMod_7cf53 cJ9_floorMod_7cf53 3 (some .int)] ++ wsX00)
def wsX0_cube : List Cond := .code yX0_cube cX0_cube 2 (some .int) :: ([.methodLink RX0 80 yX0_modulo, .instanceMethod yX0_modulo, .selects RX0 yX0_modulo yX0_modulo, .initialized RX0, .code yX0_modulo cX0_modulo 2 (some .int), .fieldLink RX0 31 "CurveDesk" "prime" "I", .methodLink RX0 44 yJ9_floorMod_7cf53, .static yJ9_floorMod_7cf53, .initialized RJ9, .code yJ9_floorMod_7cf53 cJ9_floorMod_7cf53 3 (some .int)] ++ wsX00)
def wsX0_oddDivisionValue : List Cond := .code yX0_oddDivisionValue cX0_oddDivisionValue 6 (some .int) :: ([.fieldLink RX0 16 "CurveDesk" "divisionValue" "[I", .methodLink RX0 116 yX0_cube, .instanceMethod yX0_cube, .selects RX0 yX0_cube yX0_cube, .initialized RX0, .code yX0_cube cX0_cube 2 (some .int), .methodLink RX0 80 yX0_modulo, .instanceMethod yX0_modulo, .selects RX0 yX0_modulo yX0_modulo, .code yX0_modulo cX0_modulo 2 (some .int), .fieldLink RX0 31 "CurveDesk" "prime" "I", .methodLink RX0 44 yJ9_floorMod_7cf53, .static yJ9_floorMod_7cf53, .initialized RJ9, .code yJ9_floorMod_7cf53 cJ9_floorMod_7cf53 3 (some .int)] ++ wsX00)
def wsX0_division_r1 : List Cond := [Cond.fieldLink RX0 16 "CurveDesk" "divisionValue" "[I", Cond.methodLink RX0 50 yX0_isNumber, Cond.instanceMethod yX0_isNumber, Cond.selects RX0 yX0_isNumber yX0_isNumber, Cond.initialized RX0, Cond.code yX0_isNumber cX0_isNumber 2 (some .boolean), Cond.fieldLink RX0 31 "CurveDesk" "prime" "I", Cond.methodLink RX0 76 yX0_fillFirstDivisionValues, Cond.instanceMethod yX0_fillFirstDivisionValues, Cond.selects RX0 yX0_fillFirstDivisionValues yX0_fillFirstDivisionValues, Cond.code yX0_fillFirstDivisionValues cX0_fillFirstDivisionValues 2 none, Cond.methodLink RX0 110 yX0_thirdDivisionValue, Cond.instanceMethod yX0_thirdDivisionValue, Cond.selects RX0 yX0_thirdDivisionValue yX0_thirdDivisionValue, Cond.code yX0_thirdDivisionValue cX0_thirdDivisionValue 3 (some .int), Cond.fieldLink RX0 35 "CurveDesk" "a" "I", Cond.fieldLink RX0 38 "CurveDesk" "b" "I", Cond.methodLink RX0 80 yX0_modulo, Cond.instanceMethod yX0_modulo, Cond.selects RX0 yX0_modulo yX0_modulo, Cond.code yX0_modulo cX0_modulo 2 (some .int), Cond.methodLink RX0 44 yJ9_floorMod_7cf53, Cond.static yJ9_floorMod_7cf53, Cond.initialized RJ9]
def wsX0_division_r2 : List Cond := [Cond.code yJ9_floorMod_7cf53 cJ9_floorMod_7cf53 3 (some .int), Cond.methodLink RX0 113 yX0_fourthDivisionValue, Cond.instanceMethod yX0_fourthDivisionValue, Cond.selects RX0 yX0_fourthDivisionValue yX0_fourthDivisionValue, Cond.code yX0_fourthDivisionValue cX0_fourthDivisionValue 3 (some .int), Cond.methodLink RX0 57 yX0_rightSide, Cond.instanceMethod yX0_rightSide, Cond.selects RX0 yX0_rightSide yX0_rightSide, Cond.code yX0_rightSide cX0_rightSide 2 (some .int), Cond.methodLink RX0 83 yX0_evenDivisionValue, Cond.instanceMethod yX0_evenDivisionValue, Cond.selects RX0 yX0_evenDivisionValue yX0_evenDivisionValue, Cond.code yX0_evenDivisionValue cX0_evenDivisionValue 5 (some .int), Cond.methodLink RX0 86 yX0_oddDivisionValue, Cond.instanceMethod yX0_oddDivisionValue, Cond.selects RX0 yX0_oddDivisionValue yX0_oddDivisionValue, Cond.code yX0_oddDivisionValue cX0_oddDivisionValue 6 (some .int), Cond.methodLink RX0 116 yX0_cube, Cond.instanceMethod yX0_cube, Cond.selects RX0 yX0_cube yX0_cube, Cond.code yX0_cube cX0_cube 2 (some .int)]
def wsX0_division : List Cond := .code yX0_division cX0_division 6 (some .int) :: ((wsX0_division_r1 ++ wsX0_division_r2) ++ wsX00)
def wsX0_twist : List Cond := .code yX0_twist cX0_twist 2 (some .int) :: ([.fieldLink RX0 31 "CurveDesk" "prime" "I", .fieldLink RX0 9 "CurveDesk" "lesserRoot" "[I", .fieldLink RX0 41 "CurveDesk" "count" "I"] ++ wsX00)
def wsX1_init : List Cond := .code yX1_init cX1_init 1 none :: ([.methodLink RX1 1 objectInit, .instanceMethod objectInit, .code objectInit ⟨#[0xb1]⟩ 1 none, .fieldLink RX1 7 "CurveDeskModel" "p" "I", .fieldLink RX1 13 "CurveDeskModel" "a" "I", .fieldLink RX1 16 "CurveDeskModel" "b" "I", .arrayClass .int, .fieldLink RX1 19 "CurveDeskModel" "squares" "[I", .fieldLink RX1 23 "CurveDeskModel" "f" "[I"] ++ wsX10)
def wsX1_mod : List Cond := .code yX1_mod cX1_mod 3 (some .int) :: ([.fieldLink RX1 7 "CurveDeskModel" "p" "I"] ++ wsX10)
def wsX1_right : List Cond := .code yX1_right cX1_right 2 (some .int) :: ([.fieldLink RX1 13 "CurveDeskModel" "a" "I", .fieldLink RX1 16 "CurveDeskModel" "b" "I", .methodLink RX1 26 yX1_mod, .instanceMethod yX1_mod, .selects RX1 yX1_mod yX1_mod, .initialized RX1, .code yX1_mod cX1_mod 3 (some .int), .fieldLink RX1 7 "CurveDeskModel" "p" "I"] ++ wsX10)
def wsX1_curve : List Cond := .code yX1_curve cX1_curve 5 (some .int) :: ([.fieldLink RX1 7 "CurveDeskModel" "p" "I", .fieldLink RX1 13 "CurveDeskModel" "a" "I", .fieldLink RX1 16 "CurveDeskModel" "b" "I"] ++ wsX10)
def wsX1_coefficient : List Cond := .code yX1_coefficient cX1_coefficient 2 (some .int) :: ([.fieldLink RX1 7 "CurveDeskModel" "p" "I", .fieldLink RX1 13 "CurveDeskModel" "a" "I", .fieldLink RX1 16 "CurveDeskModel" "b" "I"] ++ wsX10)
def wsX1_tell : List Cond := .code yX1_tell cX1_tell 2 none :: ([.fieldLink RX1 7 "CurveDeskModel" "p" "I", .fieldLink RX1 19 "CurveDeskModel" "squares" "[I", .methodLink RX1 26 yX1_mod, .instanceMethod yX1_mod, .selects RX1 yX1_mod yX1_mod, .initialized RX1, .code yX1_mod cX1_mod 3 (some .int)] ++ wsX10)
def wsX1_count : List Cond := .code yX1_count cX1_count 3 (some .int) :: ([.fieldLink RX1 7 "CurveDeskModel" "p" "I", .fieldLink RX1 19 "CurveDeskModel" "squares" "[I", .methodLink RX1 30 yX1_tell, .instanceMethod yX1_tell, .selects RX1 yX1_tell yX1_tell, .initialized RX1, .code yX1_tell cX1_tell 2 none, .methodLink RX1 26 yX1_mod, .instanceMethod yX1_mod, .selects RX1 yX1_mod yX1_mod, .code yX1_mod cX1_mod 3 (some .int), .methodLink RX1 33 yX1_right, .instanceMethod yX1_right, .selects RX1 yX1_right yX1_right, .code yX1_right cX1_right 2 (some .int), .fieldLink RX1 13 "CurveDeskModel" "a" "I", .fieldLink RX1 16 "CurveDeskModel" "b" "I"] ++ wsX10)
def wsX1_trace : List Cond := .code yX1_trace cX1_trace 3 (some .int) :: ([.fieldLink RX1 7 "CurveDeskModel" "p" "I", .methodLink RX1 36 yX1_count, .instanceMethod yX1_count, .selects RX1 yX1_count yX1_count, .initialized RX1, .code yX1_count cX1_count 3 (some .int), .fieldLink RX1 19 "CurveDeskModel" "squares" "[I", .methodLink RX1 30 yX1_tell, .instanceMethod yX1_tell, .selects RX1 yX1_tell yX1_tell, .code yX1_tell cX1_tell 2 none, .methodLink RX1 26 yX1_mod, .instanceMethod yX1_mod, .selects RX1 yX1_mod yX1_mod, .code yX1_mod cX1_mod 3 (some .int), .methodLink RX1 33 yX1_right, .instanceMethod yX1_right, .selects RX1 yX1_right yX1_right, .code yX1_right cX1_right 2 (some .int), .fieldLink RX1 13 "CurveDeskModel" "a" "I", .fieldLink RX1 16 "CurveDeskModel" "b" "I"] ++ wsX10)
def wsX1_roots : List Cond := .code yX1_roots cX1_roots 4 (some .int) :: ([.fieldLink RX1 7 "CurveDeskModel" "p" "I", .methodLink RX1 26 yX1_mod, .instanceMethod yX1_mod, .selects RX1 yX1_mod yX1_mod, .initialized RX1, .code yX1_mod cX1_mod 3 (some .int), .methodLink RX1 33 yX1_right, .instanceMethod yX1_right, .selects RX1 yX1_right yX1_right, .code yX1_right cX1_right 2 (some .int), .fieldLink RX1 13 "CurveDeskModel" "a" "I", .fieldLink RX1 16 "CurveDeskModel" "b" "I"] ++ wsX10)
def wsX1_point : List Cond := .code yX1_point cX1_point 6 (some .int) :: ([.fieldLink RX1 7 "CurveDeskModel" "p" "I", .fieldLink RX1 19 "CurveDeskModel" "squares" "[I", .methodLink RX1 30 yX1_tell, .instanceMethod yX1_tell, .selects RX1 yX1_tell yX1_tell, .initialized RX1, .code yX1_tell cX1_tell 2 none, .methodLink RX1 26 yX1_mod, .instanceMethod yX1_mod, .selects RX1 yX1_mod yX1_mod, .code yX1_mod cX1_mod 3 (some .int), .methodLink RX1 33 yX1_right, .instanceMethod yX1_right, .selects RX1 yX1_right yX1_right, .code yX1_right cX1_right 2 (some .int), .fieldLink RX1 13 "CurveDeskModel" "a" "I", .fieldLink RX1 16 "CurveDeskModel" "b" "I"] ++ wsX10)
def wsX1_on : List Cond := .code yX1_on cX1_on 4 (some .boolean) :: ([.fieldLink RX1 7 "CurveDeskModel" "p" "I", .methodLink RX1 26 yX1_mod, .instanceMethod yX1_mod, .selects RX1 yX1_mod yX1_mod, .initialized RX1, .code yX1_mod cX1_mod 3 (some .int), .methodLink RX1 33 yX1_right, .instanceMethod yX1_right, .selects RX1 yX1_right yX1_right, .code yX1_right cX1_right 2 (some .int), .fieldLink RX1 13 "CurveDeskModel" "a" "I", .fieldLink RX1 16 "CurveDeskModel" "b" "I"] ++ wsX10)
def wsX1_over : List Cond := .code yX1_over cX1_over 6 (some .int) :: ([.fieldLink RX1 7 "CurveDeskModel" "p" "I", .methodLink RX1 26 yX1_mod, .instanceMethod yX1_mod, .selects RX1 yX1_mod yX1_mod, .initialized RX1, .code yX1_mod cX1_mod 3 (some .int)] ++ wsX10)
def wsX1_sum : List Cond := .code yX1_sum cX1_sum 10 (some .int) :: ([.fieldLink RX1 13 "CurveDeskModel" "a" "I", .methodLink RX1 26 yX1_mod, .instanceMethod yX1_mod, .selects RX1 yX1_mod yX1_mod, .initialized RX1, .code yX1_mod cX1_mod 3 (some .int), .fieldLink RX1 7 "CurveDeskModel" "p" "I", .methodLink RX1 40 yX1_over, .instanceMethod yX1_over, .selects RX1 yX1_over yX1_over, .code yX1_over cX1_over 6 (some .int)] ++ wsX10)
def wsX1_add : List Cond := .code yX1_add cX1_add 3 (some .int) :: ([.methodLink RX1 44 yX1_on, .instanceMethod yX1_on, .selects RX1 yX1_on yX1_on, .initialized RX1, .code yX1_on cX1_on 4 (some .boolean), .fieldLink RX1 7 "CurveDeskModel" "p" "I", .methodLink RX1 26 yX1_mod, .instanceMethod yX1_mod, .selects RX1 yX1_mod yX1_mod, .code yX1_mod cX1_mod 3 (some .int), .methodLink RX1 33 yX1_right, .instanceMethod yX1_right, .selects RX1 yX1_right yX1_right, .code yX1_right cX1_right 2 (some .int), .fieldLink RX1 13 "CurveDeskModel" "a" "I", .fieldLink RX1 16 "CurveDeskModel" "b" "I", .methodLink RX1 48 yX1_sum, .instanceMethod yX1_sum, .selects RX1 yX1_sum yX1_sum, .code yX1_sum cX1_sum 10 (some .int), .methodLink RX1 40 yX1_over, .instanceMethod yX1_over, .selects RX1 yX1_over yX1_over, .code yX1_over cX1_over 6 (some .int)] ++ wsX10)
def wsX1_minus : List Cond := .code yX1_minus cX1_minus 2 (some .int) :: ([.methodLink RX1 26 yX1_mod, .instanceMethod yX1_mod, .selects RX1 yX1_mod yX1_mod, .initialized RX1, .code yX1_mod cX1_mod 3 (some .int), .fieldLink RX1 7 "CurveDeskModel" "p" "I"] ++ wsX10)
def wsX1_negative : List Cond := .code yX1_negative cX1_negative 2 (some .int) :: ([.methodLink RX1 44 yX1_on, .instanceMethod yX1_on, .selects RX1 yX1_on yX1_on, .initialized RX1, .code yX1_on cX1_on 4 (some .boolean), .fieldLink RX1 7 "CurveDeskModel" "p" "I", .methodLink RX1 26 yX1_mod, .instanceMethod yX1_mod, .selects RX1 yX1_mod yX1_mod, .code yX1_mod cX1_mod 3 (some .int), .methodLink RX1 33 yX1_right, .instanceMethod yX1_right, .selects RX1 yX1_right yX1_right, .code yX1_right cX1_right 2 (some .int), .fieldLink RX1 13 "CurveDeskModel" "a" "I", .fieldLink RX1 16 "CurveDeskModel" "b" "I", .methodLink RX1 51 yX1_minus, .instanceMethod yX1_minus, .selects RX1 yX1_minus yX1_minus, .code yX1_minus cX1_minus 2 (some .int)] ++ wsX10)
def wsX1_order : List Cond := .code yX1_order cX1_order 4 (some .int) :: ([.methodLink RX1 44 yX1_on, .instanceMethod yX1_on, .selects RX1 yX1_on yX1_on, .initialized RX1, .code yX1_on cX1_on 4 (some .boolean), .fieldLink RX1 7 "CurveDeskModel" "p" "I", .methodLink RX1 26 yX1_mod, .instanceMethod yX1_mod, .selects RX1 yX1_mod yX1_mod, .code yX1_mod cX1_mod 3 (some .int), .methodLink RX1 33 yX1_right, .instanceMethod yX1_right, .selects RX1 yX1_right yX1_right, .code yX1_right cX1_right 2 (some .int), .fieldLink RX1 13 "CurveDeskModel" "a" "I", .fieldLink RX1 16 "CurveDeskModel" "b" "I", .methodLink RX1 48 yX1_sum, .instanceMethod yX1_sum, .selects RX1 yX1_sum yX1_sum, .code yX1_sum cX1_sum 10 (some .int), .methodLink RX1 40 yX1_over, .instanceMethod yX1_over, .selects RX1 yX1_over yX1_over, .code yX1_over cX1_over 6 (some .int)] ++ wsX10)
def wsX1_times_r1 : List Cond := [Cond.methodLink RX1 44 yX1_on, Cond.instanceMethod yX1_on, Cond.selects RX1 yX1_on yX1_on, Cond.initialized RX1, Cond.code yX1_on cX1_on 4 (some .boolean), Cond.fieldLink RX1 7 "CurveDeskModel" "p" "I", Cond.methodLink RX1 26 yX1_mod, Cond.instanceMethod yX1_mod, Cond.selects RX1 yX1_mod yX1_mod, Cond.code yX1_mod cX1_mod 3 (some .int), Cond.methodLink RX1 33 yX1_right, Cond.instanceMethod yX1_right, Cond.selects RX1 yX1_right yX1_right, Cond.code yX1_right cX1_right 2 (some .int), Cond.fieldLink RX1 13 "CurveDeskModel" "a" "I", Cond.fieldLink RX1 16 "CurveDeskModel" "b" "I", Cond.methodLink RX1 54 yX1_order, Cond.instanceMethod yX1_order, Cond.selects RX1 yX1_order yX1_order, Cond.code yX1_order cX1_order 4 (some .int), Cond.methodLink RX1 48 yX1_sum, Cond.instanceMethod yX1_sum, Cond.selects RX1 yX1_sum yX1_sum, Cond.code yX1_sum cX1_sum 10 (some .int)]
def wsX1_times_r2 : List Cond := [Cond.methodLink RX1 40 yX1_over, Cond.instanceMethod yX1_over, Cond.selects RX1 yX1_over yX1_over, Cond.code yX1_over cX1_over 6 (some .int), Cond.methodLink RX1 51 yX1_minus, Cond.instanceMethod yX1_minus, Cond.selects RX1 yX1_minus yX1_minus, Cond.code yX1_minus cX1_minus 2 (some .int)]
def wsX1_times : List Cond := .code yX1_times cX1_times 8 (some .int) :: ((wsX1_times_r1 ++ wsX1_times_r2) ++ wsX10)
def wsX1_cube : List Cond := .code yX1_cube cX1_cube 2 (some .int) :: ([.fieldLink RX1 23 "CurveDeskModel" "f" "[I", .methodLink RX1 26 yX1_mod, .instanceMethod yX1_mod, .selects RX1 yX1_mod yX1_mod, .initialized RX1, .code yX1_mod cX1_mod 3 (some .int), .fieldLink RX1 7 "CurveDeskModel" "p" "I"] ++ wsX10)
def wsX1_square : List Cond := .code yX1_square cX1_square 2 (some .int) :: ([.fieldLink RX1 23 "CurveDeskModel" "f" "[I", .methodLink RX1 26 yX1_mod, .instanceMethod yX1_mod, .selects RX1 yX1_mod yX1_mod, .initialized RX1, .code yX1_mod cX1_mod 3 (some .int), .fieldLink RX1 7 "CurveDeskModel" "p" "I"] ++ wsX10)
def wsX1_division : List Cond := .code yX1_division cX1_division 13 (some .int) :: ([.fieldLink RX1 7 "CurveDeskModel" "p" "I", .fieldLink RX1 13 "CurveDeskModel" "a" "I", .fieldLink RX1 23 "CurveDeskModel" "f" "[I", .fieldLink RX1 16 "CurveDeskModel" "b" "I", .methodLink RX1 26 yX1_mod, .instanceMethod yX1_mod, .selects RX1 yX1_mod yX1_mod, .initialized RX1, .code yX1_mod cX1_mod 3 (some .int), .methodLink RX1 33 yX1_right, .instanceMethod yX1_right, .selects RX1 yX1_right yX1_right, .code yX1_right cX1_right 2 (some .int), .methodLink RX1 57 yX1_cube, .instanceMethod yX1_cube, .selects RX1 yX1_cube yX1_cube, .code yX1_cube cX1_cube 2 (some .int), .methodLink RX1 60 yX1_square, .instanceMethod yX1_square, .selects RX1 yX1_square yX1_square, .code yX1_square cX1_square 2 (some .int)] ++ wsX10)
def wsX1_twist : List Cond := .code yX1_twist cX1_twist 6 (some .int) :: ([.fieldLink RX1 7 "CurveDeskModel" "p" "I", .fieldLink RX1 13 "CurveDeskModel" "a" "I", .fieldLink RX1 16 "CurveDeskModel" "b" "I", .methodLink RX1 26 yX1_mod, .instanceMethod yX1_mod, .selects RX1 yX1_mod yX1_mod, .initialized RX1, .code yX1_mod cX1_mod 3 (some .int), .methodLink RX1 36 yX1_count, .instanceMethod yX1_count, .selects RX1 yX1_count yX1_count, .code yX1_count cX1_count 3 (some .int), .fieldLink RX1 19 "CurveDeskModel" "squares" "[I", .methodLink RX1 30 yX1_tell, .instanceMethod yX1_tell, .selects RX1 yX1_tell yX1_tell, .code yX1_tell cX1_tell 2 none, .methodLink RX1 33 yX1_right, .instanceMethod yX1_right, .selects RX1 yX1_right yX1_right, .code yX1_right cX1_right 2 (some .int)] ++ wsX10)
def wsL_law_r1 : List Cond := [Cond.classLink RL 7 RX0, Cond.instantiable RX0 7, Cond.initialized RX0, Cond.classLink RL 10 RX1, Cond.instantiable RX1 5, Cond.initialized RX1, Cond.methodLink RL 9 yX0_init, Cond.instanceMethod yX0_init, Cond.code yX0_init cX0_init 1 none, Cond.methodLink RX0 1 objectInit, Cond.instanceMethod objectInit, Cond.code objectInit ⟨#[0xb1]⟩ 1 none, Cond.arrayClass .int, Cond.fieldLink RX0 9 "CurveDesk" "lesserRoot" "[I", Cond.fieldLink RX0 13 "CurveDesk" "pointsBefore" "[I", Cond.fieldLink RX0 16 "CurveDesk" "divisionValue" "[I", Cond.methodLink RX0 19 yX0_setPresent, Cond.instanceMethod yX0_setPresent, Cond.selects RX0 yX0_setPresent yX0_setPresent, Cond.code yX0_setPresent cX0_setPresent 4 none, Cond.fieldLink RX0 31 "CurveDesk" "prime" "I", Cond.fieldLink RX0 35 "CurveDesk" "a" "I", Cond.fieldLink RX0 38 "CurveDesk" "b" "I", Cond.fieldLink RX0 41 "CurveDesk" "count" "I"]
def wsL_law_r2 : List Cond := [Cond.methodLink RX0 89 yX0_fillLesserRoots, Cond.instanceMethod yX0_fillLesserRoots, Cond.selects RX0 yX0_fillLesserRoots yX0_fillLesserRoots, Cond.code yX0_fillLesserRoots cX0_fillLesserRoots 2 none, Cond.methodLink RX0 80 yX0_modulo, Cond.instanceMethod yX0_modulo, Cond.selects RX0 yX0_modulo yX0_modulo, Cond.code yX0_modulo cX0_modulo 2 (some .int), Cond.methodLink RX0 44 yJ9_floorMod_7cf53, Cond.static yJ9_floorMod_7cf53, Cond.initialized RJ9, Cond.code yJ9_floorMod_7cf53 cJ9_floorMod_7cf53 3 (some .int), Cond.methodLink RX0 92 yX0_fillPointsBefore, Cond.instanceMethod yX0_fillPointsBefore, Cond.selects RX0 yX0_fillPointsBefore yX0_fillPointsBefore, Cond.code yX0_fillPointsBefore cX0_fillPointsBefore 2 none, Cond.methodLink RX0 57 yX0_rightSide, Cond.instanceMethod yX0_rightSide, Cond.selects RX0 yX0_rightSide yX0_rightSide, Cond.code yX0_rightSide cX0_rightSide 2 (some .int), Cond.methodLink RX0 95 yX0_rootCount, Cond.instanceMethod yX0_rootCount, Cond.selects RX0 yX0_rootCount yX0_rootCount, Cond.code yX0_rootCount cX0_rootCount 2 (some .int)]
def wsL_law_r3 : List Cond := [Cond.methodLink RL 12 yX1_init, Cond.instanceMethod yX1_init, Cond.code yX1_init cX1_init 1 none, Cond.methodLink RX1 1 objectInit, Cond.fieldLink RX1 7 "CurveDeskModel" "p" "I", Cond.fieldLink RX1 13 "CurveDeskModel" "a" "I", Cond.fieldLink RX1 16 "CurveDeskModel" "b" "I", Cond.fieldLink RX1 19 "CurveDeskModel" "squares" "[I", Cond.fieldLink RX1 23 "CurveDeskModel" "f" "[I", Cond.methodLink RL 13 yX0_curve, Cond.instanceMethod yX0_curve, Cond.selects RX0 yX0_curve yX0_curve, Cond.code yX0_curve cX0_curve 4 (some .int), Cond.methodLink RX0 23 yX0_isPrime, Cond.static yX0_isPrime, Cond.code yX0_isPrime cX0_isPrime 2 (some .boolean), Cond.methodLink RX0 27 yX0_isSingular, Cond.static yX0_isSingular, Cond.code yX0_isSingular cX0_isSingular 5 (some .boolean), Cond.methodLink RL 17 yX1_curve, Cond.instanceMethod yX1_curve, Cond.selects RX1 yX1_curve yX1_curve, Cond.code yX1_curve cX1_curve 5 (some .int), Cond.methodLink RL 18 yX0_coefficient]
def wsL_law_r4 : List Cond := [Cond.instanceMethod yX0_coefficient, Cond.selects RX0 yX0_coefficient yX0_coefficient, Cond.code yX0_coefficient cX0_coefficient 2 (some .int), Cond.methodLink RL 22 yX1_coefficient, Cond.instanceMethod yX1_coefficient, Cond.selects RX1 yX1_coefficient yX1_coefficient, Cond.code yX1_coefficient cX1_coefficient 2 (some .int), Cond.methodLink RL 23 yX0_count, Cond.instanceMethod yX0_count, Cond.selects RX0 yX0_count yX0_count, Cond.code yX0_count cX0_count 1 (some .int), Cond.methodLink RL 27 yX1_count, Cond.instanceMethod yX1_count, Cond.selects RX1 yX1_count yX1_count, Cond.code yX1_count cX1_count 3 (some .int), Cond.methodLink RX1 30 yX1_tell, Cond.instanceMethod yX1_tell, Cond.selects RX1 yX1_tell yX1_tell, Cond.code yX1_tell cX1_tell 2 none, Cond.methodLink RX1 26 yX1_mod, Cond.instanceMethod yX1_mod, Cond.selects RX1 yX1_mod yX1_mod, Cond.code yX1_mod cX1_mod 3 (some .int), Cond.methodLink RX1 33 yX1_right]
def wsL_law_r5 : List Cond := [Cond.instanceMethod yX1_right, Cond.selects RX1 yX1_right yX1_right, Cond.code yX1_right cX1_right 2 (some .int), Cond.methodLink RL 28 yX0_trace, Cond.instanceMethod yX0_trace, Cond.selects RX0 yX0_trace yX0_trace, Cond.code yX0_trace cX0_trace 2 (some .int), Cond.methodLink RL 31 yX1_trace, Cond.instanceMethod yX1_trace, Cond.selects RX1 yX1_trace yX1_trace, Cond.code yX1_trace cX1_trace 3 (some .int), Cond.methodLink RX1 36 yX1_count, Cond.methodLink RL 32 yX0_roots, Cond.instanceMethod yX0_roots, Cond.selects RX0 yX0_roots yX0_roots, Cond.code yX0_roots cX0_roots 2 (some .int), Cond.methodLink RX0 50 yX0_isNumber, Cond.instanceMethod yX0_isNumber, Cond.selects RX0 yX0_isNumber yX0_isNumber, Cond.code yX0_isNumber cX0_isNumber 2 (some .boolean), Cond.methodLink RL 35 yX1_roots, Cond.instanceMethod yX1_roots, Cond.selects RX1 yX1_roots yX1_roots, Cond.code yX1_roots cX1_roots 4 (some .int)]
def wsL_law_r6 : List Cond := [Cond.methodLink RL 36 yX0_point, Cond.instanceMethod yX0_point, Cond.selects RX0 yX0_point yX0_point, Cond.code yX0_point cX0_point 4 (some .int), Cond.methodLink RX0 53 yX0_xOfPoint, Cond.instanceMethod yX0_xOfPoint, Cond.selects RX0 yX0_xOfPoint yX0_xOfPoint, Cond.code yX0_xOfPoint cX0_xOfPoint 4 (some .int), Cond.methodLink RX0 60 yX0_pack, Cond.static yX0_pack, Cond.code yX0_pack cX0_pack 2 (some .int), Cond.methodLink RL 39 yX1_point, Cond.instanceMethod yX1_point, Cond.selects RX1 yX1_point yX1_point, Cond.code yX1_point cX1_point 6 (some .int), Cond.methodLink RL 40 yX0_on, Cond.instanceMethod yX0_on, Cond.selects RX0 yX0_on yX0_on, Cond.code yX0_on cX0_on 2 (some .boolean), Cond.methodLink RX0 63 yX0_isPoint, Cond.instanceMethod yX0_isPoint, Cond.selects RX0 yX0_isPoint yX0_isPoint, Cond.code yX0_isPoint cX0_isPoint 4 (some .boolean), Cond.methodLink RX0 98 yX0_xOf]
def wsL_law_r7 : List Cond := [Cond.static yX0_xOf, Cond.code yX0_xOf cX0_xOf 1 (some .int), Cond.methodLink RX0 101 yX0_yOf, Cond.static yX0_yOf, Cond.code yX0_yOf cX0_yOf 1 (some .int), Cond.methodLink RL 44 yX1_on, Cond.instanceMethod yX1_on, Cond.selects RX1 yX1_on yX1_on, Cond.code yX1_on cX1_on 4 (some .boolean), Cond.methodLink RL 45 yX0_add, Cond.instanceMethod yX0_add, Cond.selects RX0 yX0_add yX0_add, Cond.code yX0_add cX0_add 3 (some .int), Cond.methodLink RX0 66 yX0_sum, Cond.instanceMethod yX0_sum, Cond.selects RX0 yX0_sum yX0_sum, Cond.code yX0_sum cX0_sum 6 (some .int), Cond.methodLink RX0 69 yX0_opposite, Cond.instanceMethod yX0_opposite, Cond.selects RX0 yX0_opposite yX0_opposite, Cond.code yX0_opposite cX0_opposite 2 (some .int), Cond.methodLink RX0 104 yX0_slope, Cond.instanceMethod yX0_slope, Cond.selects RX0 yX0_slope yX0_slope]
def wsL_law_r8 : List Cond := [Cond.code yX0_slope cX0_slope 5 (some .int), Cond.methodLink RX0 107 yX0_inverse, Cond.instanceMethod yX0_inverse, Cond.selects RX0 yX0_inverse yX0_inverse, Cond.code yX0_inverse cX0_inverse 5 (some .int), Cond.methodLink RL 49 yX1_add, Cond.instanceMethod yX1_add, Cond.selects RX1 yX1_add yX1_add, Cond.code yX1_add cX1_add 3 (some .int), Cond.methodLink RX1 44 yX1_on, Cond.methodLink RX1 48 yX1_sum, Cond.instanceMethod yX1_sum, Cond.selects RX1 yX1_sum yX1_sum, Cond.code yX1_sum cX1_sum 10 (some .int), Cond.methodLink RX1 40 yX1_over, Cond.instanceMethod yX1_over, Cond.selects RX1 yX1_over yX1_over, Cond.code yX1_over cX1_over 6 (some .int), Cond.methodLink RL 50 yX0_negative, Cond.instanceMethod yX0_negative, Cond.selects RX0 yX0_negative yX0_negative, Cond.code yX0_negative cX0_negative 2 (some .int), Cond.methodLink RL 53 yX1_negative, Cond.instanceMethod yX1_negative]
def wsL_law_r9 : List Cond := [Cond.selects RX1 yX1_negative yX1_negative, Cond.code yX1_negative cX1_negative 2 (some .int), Cond.methodLink RX1 51 yX1_minus, Cond.instanceMethod yX1_minus, Cond.selects RX1 yX1_minus yX1_minus, Cond.code yX1_minus cX1_minus 2 (some .int), Cond.methodLink RL 54 yX0_times, Cond.instanceMethod yX0_times, Cond.selects RX0 yX0_times yX0_times, Cond.code yX0_times cX0_times 5 (some .int), Cond.methodLink RX0 72 yX0_multiple, Cond.instanceMethod yX0_multiple, Cond.selects RX0 yX0_multiple yX0_multiple, Cond.code yX0_multiple cX0_multiple 8 (some .int), Cond.methodLink RL 57 yX1_times, Cond.instanceMethod yX1_times, Cond.selects RX1 yX1_times yX1_times, Cond.code yX1_times cX1_times 8 (some .int), Cond.methodLink RX1 54 yX1_order, Cond.instanceMethod yX1_order, Cond.selects RX1 yX1_order yX1_order, Cond.code yX1_order cX1_order 4 (some .int), Cond.methodLink RL 58 yX0_order, Cond.instanceMethod yX0_order]
def wsL_law_r10 : List Cond := [Cond.selects RX0 yX0_order yX0_order, Cond.code yX0_order cX0_order 3 (some .int), Cond.methodLink RL 61 yX1_order, Cond.methodLink RL 62 yX0_division, Cond.instanceMethod yX0_division, Cond.selects RX0 yX0_division yX0_division, Cond.code yX0_division cX0_division 6 (some .int), Cond.methodLink RX0 76 yX0_fillFirstDivisionValues, Cond.instanceMethod yX0_fillFirstDivisionValues, Cond.selects RX0 yX0_fillFirstDivisionValues yX0_fillFirstDivisionValues, Cond.code yX0_fillFirstDivisionValues cX0_fillFirstDivisionValues 2 none, Cond.methodLink RX0 110 yX0_thirdDivisionValue, Cond.instanceMethod yX0_thirdDivisionValue, Cond.selects RX0 yX0_thirdDivisionValue yX0_thirdDivisionValue, Cond.code yX0_thirdDivisionValue cX0_thirdDivisionValue 3 (some .int), Cond.methodLink RX0 113 yX0_fourthDivisionValue, Cond.instanceMethod yX0_fourthDivisionValue, Cond.selects RX0 yX0_fourthDivisionValue yX0_fourthDivisionValue, Cond.code yX0_fourthDivisionValue cX0_fourthDivisionValue 3 (some .int), Cond.methodLink RX0 83 yX0_evenDivisionValue, Cond.instanceMethod yX0_evenDivisionValue, Cond.selects RX0 yX0_evenDivisionValue yX0_evenDivisionValue, Cond.code yX0_evenDivisionValue cX0_evenDivisionValue 5 (some .int), Cond.methodLink RX0 86 yX0_oddDivisionValue]
def wsL_law_r11 : List Cond := [Cond.instanceMethod yX0_oddDivisionValue, Cond.selects RX0 yX0_oddDivisionValue yX0_oddDivisionValue, Cond.code yX0_oddDivisionValue cX0_oddDivisionValue 6 (some .int), Cond.methodLink RX0 116 yX0_cube, Cond.instanceMethod yX0_cube, Cond.selects RX0 yX0_cube yX0_cube, Cond.code yX0_cube cX0_cube 2 (some .int), Cond.methodLink RL 65 yX1_division, Cond.instanceMethod yX1_division, Cond.selects RX1 yX1_division yX1_division, Cond.code yX1_division cX1_division 13 (some .int), Cond.methodLink RX1 57 yX1_cube, Cond.instanceMethod yX1_cube, Cond.selects RX1 yX1_cube yX1_cube, Cond.code yX1_cube cX1_cube 2 (some .int), Cond.methodLink RX1 60 yX1_square, Cond.instanceMethod yX1_square, Cond.selects RX1 yX1_square yX1_square, Cond.code yX1_square cX1_square 2 (some .int), Cond.methodLink RL 66 yX0_twist, Cond.instanceMethod yX0_twist, Cond.selects RX0 yX0_twist yX0_twist, Cond.code yX0_twist cX0_twist 2 (some .int), Cond.methodLink RL 69 yX1_twist]
def wsL_law_r12 : List Cond := [Cond.instanceMethod yX1_twist, Cond.selects RX1 yX1_twist yX1_twist, Cond.code yX1_twist cX1_twist 6 (some .int)]
def wsL_law : List Cond := (wsL_law_r1 ++ (wsL_law_r2 ++ (wsL_law_r3 ++ (wsL_law_r4 ++ (wsL_law_r5 ++ (wsL_law_r6 ++ (wsL_law_r7 ++ (wsL_law_r8 ++ (wsL_law_r9 ++ (wsL_law_r10 ++ (wsL_law_r11 ++ wsL_law_r12))))))))))) ++ wsX00 ++ wsX10 ++ ([] : List Cond)
set_option maxRecDepth 20000 in
theorem wsL_law_in : ∀ w ∈ wsL_law, w ∈ lw_tbl := fun w h => (goodIn_p wsL_law [36, 39, 43, 47, 51, 54, 58, 62, 66, 217, 93, 96, 99, 238, 103, 242, 107, 246, 250, 254, 258, 111, 262, 115, 119, 267, 123, 127, 130, 271, 134, 138, 141, 144, 275, 148, 152, 156, 160, 164, 279, 284, 288, 168, 292, 296, 172, 176, 304, 300, 180, 184, 188, 192, 196, 200, 204, 208, 309, 313, 317, 212, 321] (by decide +kernel) (by decide +kernel) w h).1
theorem inlX0 : ∀ w ∈ wsX00, w ∈ wsL_law := fun _ h => List.mem_append_left _ (List.mem_append_left _ (List.mem_append_right _ h))
theorem inX0 : ∀ w ∈ wsX00, w ∈ lw_tbl := fun w h => wsL_law_in w (inlX0 w h)
theorem inlX1 : ∀ w ∈ wsX10, w ∈ wsL_law := fun _ h => List.mem_append_left _ (List.mem_append_right _ h)
theorem inX1 : ∀ w ∈ wsX10, w ∈ lw_tbl := fun w h => wsL_law_in w (inlX1 w h)
theorem inJ9 : ∀ w ∈ wsJ90, w ∈ lw_tbl := by decide +kernel
set_option maxRecDepth 20000 in
theorem ggX0_init_X0_setPresent : GoodIn wsX0_init wsX0_setPresent := goodIn_r _ [12, 13, 14, 15, 6, 16, 17, 18, 19, 11, 20, 5, 21, 22, 23, 24, 25, 26, 27, 28, 29, 30, 31, 32, 33, 34, 35, 36, 37, 38, 39, 40, 41, 42, 43, 44, 45, 46, 47] (by decide +kernel) (by decide +kernel)
set_option maxRecDepth 20000 in
theorem gX0_init_X0_setPresent : GoodIn wsX0_init (wsV RX0 19 RX0 yX0_setPresent wsX0_setPresent) := goodIn_app (goodIn_of _ (by decide +kernel)) ggX0_init_X0_setPresent
theorem dX0_init_0 : decode cX0_init 0 = .ok (.aload_n 0, 1) := by decide +kernel
theorem dX0_init_1 : decode cX0_init 1 = .ok (.invokespecial 1, 3) := by decide +kernel
theorem dX0_init_4 : decode cX0_init 4 = .ok (.aload_n 0, 1) := by decide +kernel
theorem dX0_init_5 : decode cX0_init 5 = .ok (.sipush 4093, 3) := by decide +kernel
theorem dX0_init_8 : decode cX0_init 8 = .ok (.newarray .int, 2) := by decide +kernel
theorem dX0_init_10 : decode cX0_init 10 = .ok (.putfield 9, 3) := by decide +kernel
theorem dX0_init_13 : decode cX0_init 13 = .ok (.aload_n 0, 1) := by decide +kernel
theorem dX0_init_14 : decode cX0_init 14 = .ok (.sipush 4094, 3) := by decide +kernel
theorem dX0_init_17 : decode cX0_init 17 = .ok (.newarray .int, 2) := by decide +kernel
theorem dX0_init_19 : decode cX0_init 19 = .ok (.putfield 13, 3) := by decide +kernel
theorem dX0_init_22 : decode cX0_init 22 = .ok (.aload_n 0, 1) := by decide +kernel
theorem dX0_init_23 : decode cX0_init 23 = .ok (.bipush 41, 2) := by decide +kernel
theorem dX0_init_25 : decode cX0_init 25 = .ok (.newarray .int, 2) := by decide +kernel
theorem dX0_init_27 : decode cX0_init 27 = .ok (.putfield 16, 3) := by decide +kernel
theorem dX0_init_30 : decode cX0_init 30 = .ok (.aload_n 0, 1) := by decide +kernel
theorem dX0_init_31 : decode cX0_init 31 = .ok (.iconst 5, 1) := by decide +kernel
theorem dX0_init_32 : decode cX0_init 32 = .ok (.iconst 1, 1) := by decide +kernel
theorem dX0_init_33 : decode cX0_init 33 = .ok (.iconst 1, 1) := by decide +kernel
theorem dX0_init_34 : decode cX0_init 34 = .ok (.invokevirtual 19, 3) := by decide +kernel
theorem dX0_init_37 : decode cX0_init 37 = .ok (.return_, 1) := by decide +kernel
set_option maxRecDepth 20000 in
theorem ggX0_curve_X0_isPrime : GoodIn wsX0_curve wsX0_isPrime := goodIn_r _ [4] (by decide +kernel) (by decide +kernel)
set_option maxRecDepth 20000 in
theorem gX0_curve_X0_isPrime : GoodIn wsX0_curve (va_wsS RX0 23 yX0_isPrime wsX0_isPrime) := goodIn_app (goodIn_of _ (by decide +kernel)) ggX0_curve_X0_isPrime
set_option maxRecDepth 20000 in
theorem ggX0_curve_X0_isSingular : GoodIn wsX0_curve wsX0_isSingular := goodIn_r _ [7] (by decide +kernel) (by decide +kernel)
set_option maxRecDepth 20000 in
theorem gX0_curve_X0_isSingular : GoodIn wsX0_curve (va_wsS RX0 27 yX0_isSingular wsX0_isSingular) := goodIn_app (goodIn_of _ (by decide +kernel)) ggX0_curve_X0_isSingular
set_option maxRecDepth 20000 in
theorem ggX0_curve_X0_setPresent : GoodIn wsX0_curve wsX0_setPresent := goodIn_r _ [11, 12, 13, 14, 15, 16, 17, 18, 19, 3, 20, 21, 22, 23, 24, 25, 26, 27, 28, 29, 30, 31, 32, 33, 34, 35, 36, 37, 38, 39, 40, 41, 42, 43, 44, 45, 46, 47, 48] (by decide +kernel) (by decide +kernel)
set_option maxRecDepth 20000 in
theorem gX0_curve_X0_setPresent : GoodIn wsX0_curve (wsV RX0 19 RX0 yX0_setPresent wsX0_setPresent) := goodIn_app (goodIn_of _ (by decide +kernel)) ggX0_curve_X0_setPresent
theorem dX0_curve_0 : decode cX0_curve 0 = .ok (.iload_n 1, 1) := by decide +kernel
theorem dX0_curve_1 : decode cX0_curve 1 = .ok (.iconst 5, 1) := by decide +kernel
theorem dX0_curve_2 : decode cX0_curve 2 = .ok (.if_icmp .lt 17, 3) := by decide +kernel
theorem dX0_curve_5 : decode cX0_curve 5 = .ok (.iload_n 1, 1) := by decide +kernel
theorem dX0_curve_6 : decode cX0_curve 6 = .ok (.sipush 4093, 3) := by decide +kernel
theorem dX0_curve_9 : decode cX0_curve 9 = .ok (.if_icmp .gt 10, 3) := by decide +kernel
theorem dX0_curve_12 : decode cX0_curve 12 = .ok (.iload_n 1, 1) := by decide +kernel
theorem dX0_curve_13 : decode cX0_curve 13 = .ok (.invokestatic 23, 3) := by decide +kernel
theorem dX0_curve_16 : decode cX0_curve 16 = .ok (.ifCond .ne 5, 3) := by decide +kernel
theorem dX0_curve_19 : decode cX0_curve 19 = .ok (.iconst (-1), 1) := by decide +kernel
theorem dX0_curve_20 : decode cX0_curve 20 = .ok (.ireturn, 1) := by decide +kernel
theorem dX0_curve_21 : decode cX0_curve 21 = .ok (.iload_n 2, 1) := by decide +kernel
theorem dX0_curve_22 : decode cX0_curve 22 = .ok (.ifCond .lt 17, 3) := by decide +kernel
theorem dX0_curve_25 : decode cX0_curve 25 = .ok (.iload_n 2, 1) := by decide +kernel
theorem dX0_curve_26 : decode cX0_curve 26 = .ok (.iload_n 1, 1) := by decide +kernel
theorem dX0_curve_27 : decode cX0_curve 27 = .ok (.if_icmp .ge 12, 3) := by decide +kernel
theorem dX0_curve_30 : decode cX0_curve 30 = .ok (.iload_n 3, 1) := by decide +kernel
theorem dX0_curve_31 : decode cX0_curve 31 = .ok (.ifCond .lt 8, 3) := by decide +kernel
theorem dX0_curve_34 : decode cX0_curve 34 = .ok (.iload_n 3, 1) := by decide +kernel
theorem dX0_curve_35 : decode cX0_curve 35 = .ok (.iload_n 1, 1) := by decide +kernel
theorem dX0_curve_36 : decode cX0_curve 36 = .ok (.if_icmp .lt 6, 3) := by decide +kernel
theorem dX0_curve_39 : decode cX0_curve 39 = .ok (.bipush (-2), 2) := by decide +kernel
theorem dX0_curve_41 : decode cX0_curve 41 = .ok (.ireturn, 1) := by decide +kernel
theorem dX0_curve_42 : decode cX0_curve 42 = .ok (.iload_n 1, 1) := by decide +kernel
theorem dX0_curve_43 : decode cX0_curve 43 = .ok (.iload_n 2, 1) := by decide +kernel
theorem dX0_curve_44 : decode cX0_curve 44 = .ok (.iload_n 3, 1) := by decide +kernel
theorem dX0_curve_45 : decode cX0_curve 45 = .ok (.invokestatic 27, 3) := by decide +kernel
theorem dX0_curve_48 : decode cX0_curve 48 = .ok (.ifCond .eq 6, 3) := by decide +kernel
theorem dX0_curve_51 : decode cX0_curve 51 = .ok (.bipush (-3), 2) := by decide +kernel
theorem dX0_curve_53 : decode cX0_curve 53 = .ok (.ireturn, 1) := by decide +kernel
theorem dX0_curve_54 : decode cX0_curve 54 = .ok (.aload_n 0, 1) := by decide +kernel
theorem dX0_curve_55 : decode cX0_curve 55 = .ok (.iload_n 1, 1) := by decide +kernel
theorem dX0_curve_56 : decode cX0_curve 56 = .ok (.iload_n 2, 1) := by decide +kernel
theorem dX0_curve_57 : decode cX0_curve 57 = .ok (.iload_n 3, 1) := by decide +kernel
theorem dX0_curve_58 : decode cX0_curve 58 = .ok (.invokevirtual 19, 3) := by decide +kernel
theorem dX0_curve_61 : decode cX0_curve 61 = .ok (.iconst 0, 1) := by decide +kernel
theorem dX0_curve_62 : decode cX0_curve 62 = .ok (.ireturn, 1) := by decide +kernel
theorem dX0_coefficient_0 : decode cX0_coefficient 0 = .ok (.iload_n 1, 1) := by decide +kernel
theorem dX0_coefficient_1 : decode cX0_coefficient 1 = .ok (.tableswitch 42 0 2 #[27, 32, 37], 27) := by decide +kernel
theorem dX0_coefficient_28 : decode cX0_coefficient 28 = .ok (.aload_n 0, 1) := by decide +kernel
theorem dX0_coefficient_29 : decode cX0_coefficient 29 = .ok (.getfield 31, 3) := by decide +kernel
theorem dX0_coefficient_32 : decode cX0_coefficient 32 = .ok (.ireturn, 1) := by decide +kernel
theorem dX0_coefficient_33 : decode cX0_coefficient 33 = .ok (.aload_n 0, 1) := by decide +kernel
theorem dX0_coefficient_34 : decode cX0_coefficient 34 = .ok (.getfield 35, 3) := by decide +kernel
theorem dX0_coefficient_37 : decode cX0_coefficient 37 = .ok (.ireturn, 1) := by decide +kernel
theorem dX0_coefficient_38 : decode cX0_coefficient 38 = .ok (.aload_n 0, 1) := by decide +kernel
theorem dX0_coefficient_39 : decode cX0_coefficient 39 = .ok (.getfield 38, 3) := by decide +kernel
theorem dX0_coefficient_42 : decode cX0_coefficient 42 = .ok (.ireturn, 1) := by decide +kernel
theorem dX0_coefficient_43 : decode cX0_coefficient 43 = .ok (.iconst (-1), 1) := by decide +kernel
theorem dX0_coefficient_44 : decode cX0_coefficient 44 = .ok (.ireturn, 1) := by decide +kernel
theorem dX0_count_0 : decode cX0_count 0 = .ok (.aload_n 0, 1) := by decide +kernel
theorem dX0_count_1 : decode cX0_count 1 = .ok (.getfield 41, 3) := by decide +kernel
theorem dX0_count_4 : decode cX0_count 4 = .ok (.ireturn, 1) := by decide +kernel
set_option maxRecDepth 20000 in
theorem ggX0_trace_J9_floorMod_7cf53 : GoodIn wsX0_trace wsJ9_floorMod_7cf53 := goodIn_r _ [6] (by decide +kernel) (by decide +kernel)
set_option maxRecDepth 20000 in
theorem gX0_trace_J9_floorMod_7cf53 : GoodIn wsX0_trace (va_wsS RX0 44 yJ9_floorMod_7cf53 wsJ9_floorMod_7cf53) := goodIn_app (goodIn_of _ (by decide +kernel)) ggX0_trace_J9_floorMod_7cf53
theorem dX0_trace_0 : decode cX0_trace 0 = .ok (.iload_n 1, 1) := by decide +kernel
theorem dX0_trace_1 : decode cX0_trace 1 = .ok (.iconst 2, 1) := by decide +kernel
theorem dX0_trace_2 : decode cX0_trace 2 = .ok (.if_icmp .lt 10, 3) := by decide +kernel
theorem dX0_trace_5 : decode cX0_trace 5 = .ok (.iload_n 1, 1) := by decide +kernel
theorem dX0_trace_6 : decode cX0_trace 6 = .ok (.sipush 1000, 3) := by decide +kernel
theorem dX0_trace_9 : decode cX0_trace 9 = .ok (.if_icmp .le 5, 3) := by decide +kernel
theorem dX0_trace_12 : decode cX0_trace 12 = .ok (.iconst (-1), 1) := by decide +kernel
theorem dX0_trace_13 : decode cX0_trace 13 = .ok (.ireturn, 1) := by decide +kernel
theorem dX0_trace_14 : decode cX0_trace 14 = .ok (.aload_n 0, 1) := by decide +kernel
theorem dX0_trace_15 : decode cX0_trace 15 = .ok (.getfield 31, 3) := by decide +kernel
theorem dX0_trace_18 : decode cX0_trace 18 = .ok (.iconst 1, 1) := by decide +kernel
theorem dX0_trace_19 : decode cX0_trace 19 = .ok (.iadd, 1) := by decide +kernel
theorem dX0_trace_20 : decode cX0_trace 20 = .ok (.aload_n 0, 1) := by decide +kernel
theorem dX0_trace_21 : decode cX0_trace 21 = .ok (.getfield 41, 3) := by decide +kernel
theorem dX0_trace_24 : decode cX0_trace 24 = .ok (.isub, 1) := by decide +kernel
theorem dX0_trace_25 : decode cX0_trace 25 = .ok (.iload_n 1, 1) := by decide +kernel
theorem dX0_trace_26 : decode cX0_trace 26 = .ok (.invokestatic 44, 3) := by decide +kernel
theorem dX0_trace_29 : decode cX0_trace 29 = .ok (.ireturn, 1) := by decide +kernel
set_option maxRecDepth 20000 in
theorem ggX0_roots_X0_isNumber : GoodIn wsX0_roots wsX0_isNumber := goodIn_r _ [6, 7, 8, 9, 10, 11, 12, 13, 14] (by decide +kernel) (by decide +kernel)
set_option maxRecDepth 20000 in
theorem gX0_roots_X0_isNumber : GoodIn wsX0_roots (wsV RX0 50 RX0 yX0_isNumber wsX0_isNumber) := goodIn_app (goodIn_of _ (by decide +kernel)) ggX0_roots_X0_isNumber
theorem dX0_roots_0 : decode cX0_roots 0 = .ok (.aload_n 0, 1) := by decide +kernel
theorem dX0_roots_1 : decode cX0_roots 1 = .ok (.iload_n 1, 1) := by decide +kernel
theorem dX0_roots_2 : decode cX0_roots 2 = .ok (.invokevirtual 50, 3) := by decide +kernel
theorem dX0_roots_5 : decode cX0_roots 5 = .ok (.ifCond .ne 5, 3) := by decide +kernel
theorem dX0_roots_8 : decode cX0_roots 8 = .ok (.iconst (-1), 1) := by decide +kernel
theorem dX0_roots_9 : decode cX0_roots 9 = .ok (.ireturn, 1) := by decide +kernel
theorem dX0_roots_10 : decode cX0_roots 10 = .ok (.aload_n 0, 1) := by decide +kernel
theorem dX0_roots_11 : decode cX0_roots 11 = .ok (.getfield 13, 3) := by decide +kernel
theorem dX0_roots_14 : decode cX0_roots 14 = .ok (.iload_n 1, 1) := by decide +kernel
theorem dX0_roots_15 : decode cX0_roots 15 = .ok (.iconst 1, 1) := by decide +kernel
theorem dX0_roots_16 : decode cX0_roots 16 = .ok (.iadd, 1) := by decide +kernel
theorem dX0_roots_17 : decode cX0_roots 17 = .ok (.iaload, 1) := by decide +kernel
theorem dX0_roots_18 : decode cX0_roots 18 = .ok (.aload_n 0, 1) := by decide +kernel
theorem dX0_roots_19 : decode cX0_roots 19 = .ok (.getfield 13, 3) := by decide +kernel
theorem dX0_roots_22 : decode cX0_roots 22 = .ok (.iload_n 1, 1) := by decide +kernel
theorem dX0_roots_23 : decode cX0_roots 23 = .ok (.iaload, 1) := by decide +kernel
theorem dX0_roots_24 : decode cX0_roots 24 = .ok (.isub, 1) := by decide +kernel
theorem dX0_roots_25 : decode cX0_roots 25 = .ok (.ireturn, 1) := by decide +kernel
set_option maxRecDepth 20000 in
theorem ggX0_point_X0_xOfPoint : GoodIn wsX0_point wsX0_xOfPoint := goodIn_r _ [9, 4, 3, 27, 28, 29, 30, 31, 32, 33] (by decide +kernel) (by decide +kernel)
set_option maxRecDepth 20000 in
theorem gX0_point_X0_xOfPoint : GoodIn wsX0_point (wsV RX0 53 RX0 yX0_xOfPoint wsX0_xOfPoint) := goodIn_app (goodIn_of _ (by decide +kernel)) ggX0_point_X0_xOfPoint
set_option maxRecDepth 20000 in
theorem ggX0_point_X0_rightSide : GoodIn wsX0_point wsX0_rightSide := goodIn_r _ [13, 14, 15, 16, 17, 18, 8, 19, 4, 20, 21, 22, 23, 27, 28, 29, 30, 31, 32, 33] (by decide +kernel) (by decide +kernel)
set_option maxRecDepth 20000 in
theorem gX0_point_X0_rightSide : GoodIn wsX0_point (wsV RX0 57 RX0 yX0_rightSide wsX0_rightSide) := goodIn_app (goodIn_of _ (by decide +kernel)) ggX0_point_X0_rightSide
set_option maxRecDepth 20000 in
theorem ggX0_point_X0_pack : GoodIn wsX0_point wsX0_pack := goodIn_r _ [26] (by decide +kernel) (by decide +kernel)
set_option maxRecDepth 20000 in
theorem gX0_point_X0_pack : GoodIn wsX0_point (va_wsS RX0 60 yX0_pack wsX0_pack) := goodIn_app (goodIn_of _ (by decide +kernel)) ggX0_point_X0_pack
theorem dX0_point_0 : decode cX0_point 0 = .ok (.iload_n 1, 1) := by decide +kernel
theorem dX0_point_1 : decode cX0_point 1 = .ok (.ifCond .lt 11, 3) := by decide +kernel
theorem dX0_point_4 : decode cX0_point 4 = .ok (.iload_n 1, 1) := by decide +kernel
theorem dX0_point_5 : decode cX0_point 5 = .ok (.aload_n 0, 1) := by decide +kernel
theorem dX0_point_6 : decode cX0_point 6 = .ok (.getfield 41, 3) := by decide +kernel
theorem dX0_point_9 : decode cX0_point 9 = .ok (.if_icmp .lt 6, 3) := by decide +kernel
theorem dX0_point_12 : decode cX0_point 12 = .ok (.bipush (-2), 2) := by decide +kernel
theorem dX0_point_14 : decode cX0_point 14 = .ok (.ireturn, 1) := by decide +kernel
theorem dX0_point_15 : decode cX0_point 15 = .ok (.iload_n 1, 1) := by decide +kernel
theorem dX0_point_16 : decode cX0_point 16 = .ok (.aload_n 0, 1) := by decide +kernel
theorem dX0_point_17 : decode cX0_point 17 = .ok (.getfield 41, 3) := by decide +kernel
theorem dX0_point_20 : decode cX0_point 20 = .ok (.iconst 1, 1) := by decide +kernel
theorem dX0_point_21 : decode cX0_point 21 = .ok (.isub, 1) := by decide +kernel
theorem dX0_point_22 : decode cX0_point 22 = .ok (.if_icmp .ne 5, 3) := by decide +kernel
theorem dX0_point_25 : decode cX0_point 25 = .ok (.iconst (-1), 1) := by decide +kernel
theorem dX0_point_26 : decode cX0_point 26 = .ok (.ireturn, 1) := by decide +kernel
theorem dX0_point_27 : decode cX0_point 27 = .ok (.aload_n 0, 1) := by decide +kernel
theorem dX0_point_28 : decode cX0_point 28 = .ok (.iload_n 1, 1) := by decide +kernel
theorem dX0_point_29 : decode cX0_point 29 = .ok (.invokevirtual 53, 3) := by decide +kernel
theorem dX0_point_32 : decode cX0_point 32 = .ok (.istore_n 2, 1) := by decide +kernel
theorem dX0_point_33 : decode cX0_point 33 = .ok (.aload_n 0, 1) := by decide +kernel
theorem dX0_point_34 : decode cX0_point 34 = .ok (.getfield 9, 3) := by decide +kernel
theorem dX0_point_37 : decode cX0_point 37 = .ok (.aload_n 0, 1) := by decide +kernel
theorem dX0_point_38 : decode cX0_point 38 = .ok (.iload_n 2, 1) := by decide +kernel
theorem dX0_point_39 : decode cX0_point 39 = .ok (.invokevirtual 57, 3) := by decide +kernel
theorem dX0_point_42 : decode cX0_point 42 = .ok (.iaload, 1) := by decide +kernel
theorem dX0_point_43 : decode cX0_point 43 = .ok (.istore_n 3, 1) := by decide +kernel
theorem dX0_point_44 : decode cX0_point 44 = .ok (.iload_n 1, 1) := by decide +kernel
theorem dX0_point_45 : decode cX0_point 45 = .ok (.aload_n 0, 1) := by decide +kernel
theorem dX0_point_46 : decode cX0_point 46 = .ok (.getfield 13, 3) := by decide +kernel
theorem dX0_point_49 : decode cX0_point 49 = .ok (.iload_n 2, 1) := by decide +kernel
theorem dX0_point_50 : decode cX0_point 50 = .ok (.iaload, 1) := by decide +kernel
theorem dX0_point_51 : decode cX0_point 51 = .ok (.if_icmp .ne 11, 3) := by decide +kernel
theorem dX0_point_54 : decode cX0_point 54 = .ok (.iload_n 2, 1) := by decide +kernel
theorem dX0_point_55 : decode cX0_point 55 = .ok (.iload_n 3, 1) := by decide +kernel
theorem dX0_point_56 : decode cX0_point 56 = .ok (.invokestatic 60, 3) := by decide +kernel
theorem dX0_point_59 : decode cX0_point 59 = .ok (.goto 13, 3) := by decide +kernel
theorem dX0_point_62 : decode cX0_point 62 = .ok (.iload_n 2, 1) := by decide +kernel
theorem dX0_point_63 : decode cX0_point 63 = .ok (.aload_n 0, 1) := by decide +kernel
theorem dX0_point_64 : decode cX0_point 64 = .ok (.getfield 31, 3) := by decide +kernel
theorem dX0_point_67 : decode cX0_point 67 = .ok (.iload_n 3, 1) := by decide +kernel
theorem dX0_point_68 : decode cX0_point 68 = .ok (.isub, 1) := by decide +kernel
theorem dX0_point_69 : decode cX0_point 69 = .ok (.invokestatic 60, 3) := by decide +kernel
theorem dX0_point_72 : decode cX0_point 72 = .ok (.ireturn, 1) := by decide +kernel
set_option maxRecDepth 20000 in
theorem ggX0_on_X0_isPoint : GoodIn wsX0_on wsX0_isPoint := goodIn_r _ [5, 6, 7, 4, 8, 9, 10, 11, 12, 13, 14, 15, 16, 17, 18, 19, 20, 21, 22, 23, 24, 25, 26, 27, 28, 29, 30, 31, 32, 33, 34, 35, 36, 37] (by decide +kernel) (by decide +kernel)
set_option maxRecDepth 20000 in
theorem gX0_on_X0_isPoint : GoodIn wsX0_on (wsV RX0 63 RX0 yX0_isPoint wsX0_isPoint) := goodIn_app (goodIn_of _ (by decide +kernel)) ggX0_on_X0_isPoint
theorem dX0_on_0 : decode cX0_on 0 = .ok (.aload_n 0, 1) := by decide +kernel
theorem dX0_on_1 : decode cX0_on 1 = .ok (.iload_n 1, 1) := by decide +kernel
theorem dX0_on_2 : decode cX0_on 2 = .ok (.invokevirtual 63, 3) := by decide +kernel
theorem dX0_on_5 : decode cX0_on 5 = .ok (.ireturn, 1) := by decide +kernel
set_option maxRecDepth 20000 in
theorem ggX0_add_X0_isPoint : GoodIn wsX0_add wsX0_isPoint := goodIn_r _ [5, 6, 7, 4, 8, 9, 10, 11, 12, 13, 14, 15, 16, 17, 18, 19, 20, 21, 22, 23, 24, 25, 26, 27, 28, 29, 30, 50, 51, 52, 53, 54, 55, 56] (by decide +kernel) (by decide +kernel)
set_option maxRecDepth 20000 in
theorem gX0_add_X0_isPoint : GoodIn wsX0_add (wsV RX0 63 RX0 yX0_isPoint wsX0_isPoint) := goodIn_app (goodIn_of _ (by decide +kernel)) ggX0_add_X0_isPoint
set_option maxRecDepth 20000 in
theorem ggX0_add_X0_sum : GoodIn wsX0_add wsX0_sum := goodIn_r _ [34, 35, 36, 37, 4, 38, 16, 9, 10, 11, 6, 7, 8, 39, 40, 41, 42, 43, 44, 45, 29, 17, 18, 19, 20, 21, 22, 23, 24, 46, 47, 48, 49, 50, 51, 52, 53, 54, 55, 56] (by decide +kernel) (by decide +kernel)
set_option maxRecDepth 20000 in
theorem gX0_add_X0_sum : GoodIn wsX0_add (wsV RX0 66 RX0 yX0_sum wsX0_sum) := goodIn_app (goodIn_of _ (by decide +kernel)) ggX0_add_X0_sum
theorem dX0_add_0 : decode cX0_add 0 = .ok (.aload_n 0, 1) := by decide +kernel
theorem dX0_add_1 : decode cX0_add 1 = .ok (.iload_n 1, 1) := by decide +kernel
theorem dX0_add_2 : decode cX0_add 2 = .ok (.invokevirtual 63, 3) := by decide +kernel
theorem dX0_add_5 : decode cX0_add 5 = .ok (.ifCond .eq 20, 3) := by decide +kernel
theorem dX0_add_8 : decode cX0_add 8 = .ok (.aload_n 0, 1) := by decide +kernel
theorem dX0_add_9 : decode cX0_add 9 = .ok (.iload_n 2, 1) := by decide +kernel
theorem dX0_add_10 : decode cX0_add 10 = .ok (.invokevirtual 63, 3) := by decide +kernel
theorem dX0_add_13 : decode cX0_add 13 = .ok (.ifCond .eq 12, 3) := by decide +kernel
theorem dX0_add_16 : decode cX0_add 16 = .ok (.aload_n 0, 1) := by decide +kernel
theorem dX0_add_17 : decode cX0_add 17 = .ok (.iload_n 1, 1) := by decide +kernel
theorem dX0_add_18 : decode cX0_add 18 = .ok (.iload_n 2, 1) := by decide +kernel
theorem dX0_add_19 : decode cX0_add 19 = .ok (.invokevirtual 66, 3) := by decide +kernel
theorem dX0_add_22 : decode cX0_add 22 = .ok (.goto 5, 3) := by decide +kernel
theorem dX0_add_25 : decode cX0_add 25 = .ok (.bipush (-2), 2) := by decide +kernel
theorem dX0_add_27 : decode cX0_add 27 = .ok (.ireturn, 1) := by decide +kernel
set_option maxRecDepth 20000 in
theorem ggX0_negative_X0_isPoint : GoodIn wsX0_negative wsX0_isPoint := goodIn_r _ [5, 6, 7, 4, 8, 9, 10, 11, 12, 13, 14, 15, 16, 17, 18, 19, 20, 21, 22, 23, 24, 25, 26, 27, 28, 29, 30, 38, 39, 40, 41, 42, 43, 44] (by decide +kernel) (by decide +kernel)
set_option maxRecDepth 20000 in
theorem gX0_negative_X0_isPoint : GoodIn wsX0_negative (wsV RX0 63 RX0 yX0_isPoint wsX0_isPoint) := goodIn_app (goodIn_of _ (by decide +kernel)) ggX0_negative_X0_isPoint
set_option maxRecDepth 20000 in
theorem ggX0_negative_X0_opposite : GoodIn wsX0_negative wsX0_opposite := goodIn_r _ [34, 16, 9, 10, 4, 11, 6, 7, 8, 35, 36, 37, 38, 39, 40, 41, 42, 43, 44] (by decide +kernel) (by decide +kernel)
set_option maxRecDepth 20000 in
theorem gX0_negative_X0_opposite : GoodIn wsX0_negative (wsV RX0 69 RX0 yX0_opposite wsX0_opposite) := goodIn_app (goodIn_of _ (by decide +kernel)) ggX0_negative_X0_opposite
theorem dX0_negative_0 : decode cX0_negative 0 = .ok (.aload_n 0, 1) := by decide +kernel
theorem dX0_negative_1 : decode cX0_negative 1 = .ok (.iload_n 1, 1) := by decide +kernel
theorem dX0_negative_2 : decode cX0_negative 2 = .ok (.invokevirtual 63, 3) := by decide +kernel
theorem dX0_negative_5 : decode cX0_negative 5 = .ok (.ifCond .eq 11, 3) := by decide +kernel
theorem dX0_negative_8 : decode cX0_negative 8 = .ok (.aload_n 0, 1) := by decide +kernel
theorem dX0_negative_9 : decode cX0_negative 9 = .ok (.iload_n 1, 1) := by decide +kernel
theorem dX0_negative_10 : decode cX0_negative 10 = .ok (.invokevirtual 69, 3) := by decide +kernel
theorem dX0_negative_13 : decode cX0_negative 13 = .ok (.goto 5, 3) := by decide +kernel
theorem dX0_negative_16 : decode cX0_negative 16 = .ok (.bipush (-2), 2) := by decide +kernel
theorem dX0_negative_18 : decode cX0_negative 18 = .ok (.ireturn, 1) := by decide +kernel
set_option maxRecDepth 20000 in
theorem ggX0_times_X0_isPoint : GoodIn wsX0_times wsX0_isPoint := goodIn_r _ [5, 6, 7, 4, 8, 9, 10, 11, 12, 13, 14, 15, 16, 17, 18, 19, 20, 21, 22, 23, 24, 25, 26, 27, 28, 29, 30, 54, 55, 56, 57, 58, 59, 60] (by decide +kernel) (by decide +kernel)
set_option maxRecDepth 20000 in
theorem gX0_times_X0_isPoint : GoodIn wsX0_times (wsV RX0 63 RX0 yX0_isPoint wsX0_isPoint) := goodIn_app (goodIn_of _ (by decide +kernel)) ggX0_times_X0_isPoint
set_option maxRecDepth 20000 in
theorem ggX0_times_X0_opposite : GoodIn wsX0_times wsX0_opposite := goodIn_r _ [34, 16, 9, 10, 4, 11, 6, 7, 8, 35, 36, 37, 54, 55, 56, 57, 58, 59, 60] (by decide +kernel) (by decide +kernel)
set_option maxRecDepth 20000 in
theorem gX0_times_X0_opposite : GoodIn wsX0_times (wsV RX0 69 RX0 yX0_opposite wsX0_opposite) := goodIn_app (goodIn_of _ (by decide +kernel)) ggX0_times_X0_opposite
set_option maxRecDepth 20000 in
theorem ggX0_times_X0_multiple : GoodIn wsX0_times wsX0_multiple := goodIn_r _ [41, 42, 43, 44, 4, 45, 31, 32, 33, 34, 16, 9, 10, 11, 6, 7, 8, 35, 36, 37, 46, 47, 48, 49, 29, 17, 18, 19, 20, 21, 22, 23, 24, 50, 51, 52, 53, 54, 55, 56, 57, 58, 59, 60] (by decide +kernel) (by decide +kernel)
set_option maxRecDepth 20000 in
theorem gX0_times_X0_multiple : GoodIn wsX0_times (wsV RX0 72 RX0 yX0_multiple wsX0_multiple) := goodIn_app (goodIn_of _ (by decide +kernel)) ggX0_times_X0_multiple
theorem dX0_times_0 : decode cX0_times 0 = .ok (.aload_n 0, 1) := by decide +kernel
theorem dX0_times_1 : decode cX0_times 1 = .ok (.iload_n 2, 1) := by decide +kernel
theorem dX0_times_2 : decode cX0_times 2 = .ok (.invokevirtual 63, 3) := by decide +kernel
theorem dX0_times_5 : decode cX0_times 5 = .ok (.ifCond .ne 6, 3) := by decide +kernel
theorem dX0_times_8 : decode cX0_times 8 = .ok (.bipush (-2), 2) := by decide +kernel
theorem dX0_times_10 : decode cX0_times 10 = .ok (.ireturn, 1) := by decide +kernel
theorem dX0_times_11 : decode cX0_times 11 = .ok (.iload_n 1, 1) := by decide +kernel
theorem dX0_times_12 : decode cX0_times 12 = .ok (.i2l, 1) := by decide +kernel
theorem dX0_times_13 : decode cX0_times 13 = .ok (.lstore_n 3, 1) := by decide +kernel
theorem dX0_times_14 : decode cX0_times 14 = .ok (.lload_n 3, 1) := by decide +kernel
theorem dX0_times_15 : decode cX0_times 15 = .ok (.lconst 0, 1) := by decide +kernel
theorem dX0_times_16 : decode cX0_times 16 = .ok (.lcmp, 1) := by decide +kernel
theorem dX0_times_17 : decode cX0_times 17 = .ok (.ifCond .ge 17, 3) := by decide +kernel
theorem dX0_times_20 : decode cX0_times 20 = .ok (.aload_n 0, 1) := by decide +kernel
theorem dX0_times_21 : decode cX0_times 21 = .ok (.lload_n 3, 1) := by decide +kernel
theorem dX0_times_22 : decode cX0_times 22 = .ok (.lneg, 1) := by decide +kernel
theorem dX0_times_23 : decode cX0_times 23 = .ok (.aload_n 0, 1) := by decide +kernel
theorem dX0_times_24 : decode cX0_times 24 = .ok (.iload_n 2, 1) := by decide +kernel
theorem dX0_times_25 : decode cX0_times 25 = .ok (.invokevirtual 69, 3) := by decide +kernel
theorem dX0_times_28 : decode cX0_times 28 = .ok (.invokevirtual 72, 3) := by decide +kernel
theorem dX0_times_31 : decode cX0_times 31 = .ok (.goto 9, 3) := by decide +kernel
theorem dX0_times_34 : decode cX0_times 34 = .ok (.aload_n 0, 1) := by decide +kernel
theorem dX0_times_35 : decode cX0_times 35 = .ok (.lload_n 3, 1) := by decide +kernel
theorem dX0_times_36 : decode cX0_times 36 = .ok (.iload_n 2, 1) := by decide +kernel
theorem dX0_times_37 : decode cX0_times 37 = .ok (.invokevirtual 72, 3) := by decide +kernel
theorem dX0_times_40 : decode cX0_times 40 = .ok (.ireturn, 1) := by decide +kernel
set_option maxRecDepth 20000 in
theorem ggX0_order_X0_isPoint : GoodIn wsX0_order wsX0_isPoint := goodIn_r _ [6, 7, 8, 5, 9, 10, 11, 12, 13, 14, 15, 16, 17, 18, 19, 20, 21, 22, 23, 24, 25, 26, 27, 28, 29, 30, 31, 55, 56, 57, 58, 59, 60, 61] (by decide +kernel) (by decide +kernel)
set_option maxRecDepth 20000 in
theorem gX0_order_X0_isPoint : GoodIn wsX0_order (wsV RX0 63 RX0 yX0_isPoint wsX0_isPoint) := goodIn_app (goodIn_of _ (by decide +kernel)) ggX0_order_X0_isPoint
set_option maxRecDepth 20000 in
theorem ggX0_order_X0_multiple : GoodIn wsX0_order wsX0_multiple := goodIn_r _ [35, 36, 37, 38, 5, 39, 40, 41, 42, 43, 17, 10, 11, 12, 7, 8, 9, 44, 45, 46, 47, 48, 49, 50, 30, 18, 19, 20, 21, 22, 23, 24, 25, 51, 52, 53, 54, 55, 56, 57, 58, 59, 60, 61] (by decide +kernel) (by decide +kernel)
set_option maxRecDepth 20000 in
theorem gX0_order_X0_multiple : GoodIn wsX0_order (wsV RX0 72 RX0 yX0_multiple wsX0_multiple) := goodIn_app (goodIn_of _ (by decide +kernel)) ggX0_order_X0_multiple
theorem dX0_order_0 : decode cX0_order 0 = .ok (.aload_n 0, 1) := by decide +kernel
theorem dX0_order_1 : decode cX0_order 1 = .ok (.iload_n 1, 1) := by decide +kernel
theorem dX0_order_2 : decode cX0_order 2 = .ok (.invokevirtual 63, 3) := by decide +kernel
theorem dX0_order_5 : decode cX0_order 5 = .ok (.ifCond .ne 6, 3) := by decide +kernel
theorem dX0_order_8 : decode cX0_order 8 = .ok (.bipush (-2), 2) := by decide +kernel
theorem dX0_order_10 : decode cX0_order 10 = .ok (.ireturn, 1) := by decide +kernel
theorem dX0_order_11 : decode cX0_order 11 = .ok (.iconst 1, 1) := by decide +kernel
theorem dX0_order_12 : decode cX0_order 12 = .ok (.istore_n 2, 1) := by decide +kernel
theorem dX0_order_13 : decode cX0_order 13 = .ok (.iload_n 2, 1) := by decide +kernel
theorem dX0_order_14 : decode cX0_order 14 = .ok (.aload_n 0, 1) := by decide +kernel
theorem dX0_order_15 : decode cX0_order 15 = .ok (.getfield 41, 3) := by decide +kernel
theorem dX0_order_18 : decode cX0_order 18 = .ok (.if_icmp .ge 31, 3) := by decide +kernel
theorem dX0_order_21 : decode cX0_order 21 = .ok (.aload_n 0, 1) := by decide +kernel
theorem dX0_order_22 : decode cX0_order 22 = .ok (.getfield 41, 3) := by decide +kernel
theorem dX0_order_25 : decode cX0_order 25 = .ok (.iload_n 2, 1) := by decide +kernel
theorem dX0_order_26 : decode cX0_order 26 = .ok (.irem, 1) := by decide +kernel
theorem dX0_order_27 : decode cX0_order 27 = .ok (.ifCond .ne 16, 3) := by decide +kernel
theorem dX0_order_30 : decode cX0_order 30 = .ok (.aload_n 0, 1) := by decide +kernel
theorem dX0_order_31 : decode cX0_order 31 = .ok (.iload_n 2, 1) := by decide +kernel
theorem dX0_order_32 : decode cX0_order 32 = .ok (.i2l, 1) := by decide +kernel
theorem dX0_order_33 : decode cX0_order 33 = .ok (.iload_n 1, 1) := by decide +kernel
theorem dX0_order_34 : decode cX0_order 34 = .ok (.invokevirtual 72, 3) := by decide +kernel
theorem dX0_order_37 : decode cX0_order 37 = .ok (.iconst (-1), 1) := by decide +kernel
theorem dX0_order_38 : decode cX0_order 38 = .ok (.if_icmp .ne 5, 3) := by decide +kernel
theorem dX0_order_41 : decode cX0_order 41 = .ok (.iload_n 2, 1) := by decide +kernel
theorem dX0_order_42 : decode cX0_order 42 = .ok (.ireturn, 1) := by decide +kernel
theorem dX0_order_43 : decode cX0_order 43 = .ok (.iinc 2 1, 3) := by decide +kernel
theorem dX0_order_46 : decode cX0_order 46 = .ok (.goto (-33), 3) := by decide +kernel
theorem dX0_order_49 : decode cX0_order 49 = .ok (.aload_n 0, 1) := by decide +kernel
theorem dX0_order_50 : decode cX0_order 50 = .ok (.getfield 41, 3) := by decide +kernel
theorem dX0_order_53 : decode cX0_order 53 = .ok (.ireturn, 1) := by decide +kernel
set_option maxRecDepth 20000 in
theorem ggX0_division_X0_isNumber : GoodIn wsX0_division wsX0_isNumber := goodIn_r _ [6, 7, 46, 47, 48, 49, 50, 51, 52] (by decide +kernel) (by decide +kernel)
set_option maxRecDepth 20000 in
theorem gX0_division_X0_isNumber : GoodIn wsX0_division (wsV RX0 50 RX0 yX0_isNumber wsX0_isNumber) := goodIn_app (goodIn_of _ (by decide +kernel)) ggX0_division_X0_isNumber
set_option maxRecDepth 20000 in
theorem ggX0_division_X0_fillFirstDivisionValues : GoodIn wsX0_division wsX0_fillFirstDivisionValues := goodIn_r _ [11, 1, 12, 13, 14, 5, 15, 16, 17, 18, 19, 20, 21, 7, 22, 23, 24, 25, 26, 27, 28, 29, 46, 47, 48, 49, 50, 51, 52] (by decide +kernel) (by decide +kernel)
set_option maxRecDepth 20000 in
theorem gX0_division_X0_fillFirstDivisionValues : GoodIn wsX0_division (wsV RX0 76 RX0 yX0_fillFirstDivisionValues wsX0_fillFirstDivisionValues) := goodIn_app (goodIn_of _ (by decide +kernel)) ggX0_division_X0_fillFirstDivisionValues
set_option maxRecDepth 20000 in
theorem ggX0_division_X0_rightSide : GoodIn wsX0_division wsX0_rightSide := goodIn_r _ [33, 16, 17, 18, 19, 20, 5, 21, 7, 22, 23, 24, 25, 46, 47, 48, 49, 50, 51, 52] (by decide +kernel) (by decide +kernel)
set_option maxRecDepth 20000 in
theorem gX0_division_X0_rightSide : GoodIn wsX0_division (wsV RX0 57 RX0 yX0_rightSide wsX0_rightSide) := goodIn_app (goodIn_of _ (by decide +kernel)) ggX0_division_X0_rightSide
set_option maxRecDepth 20000 in
theorem ggX0_division_X0_modulo : GoodIn wsX0_division wsX0_modulo := goodIn_r _ [21, 7, 22, 23, 24, 25, 46, 47, 48, 49, 50, 51, 52] (by decide +kernel) (by decide +kernel)
set_option maxRecDepth 20000 in
theorem gX0_division_X0_modulo : GoodIn wsX0_division (wsV RX0 80 RX0 yX0_modulo wsX0_modulo) := goodIn_app (goodIn_of _ (by decide +kernel)) ggX0_division_X0_modulo
set_option maxRecDepth 20000 in
theorem ggX0_division_X0_evenDivisionValue : GoodIn wsX0_division wsX0_evenDivisionValue := goodIn_r _ [37, 1, 18, 19, 20, 5, 21, 7, 22, 23, 24, 25, 46, 47, 48, 49, 50, 51, 52] (by decide +kernel) (by decide +kernel)
set_option maxRecDepth 20000 in
theorem gX0_division_X0_evenDivisionValue : GoodIn wsX0_division (wsV RX0 83 RX0 yX0_evenDivisionValue wsX0_evenDivisionValue) := goodIn_app (goodIn_of _ (by decide +kernel)) ggX0_division_X0_evenDivisionValue
set_option maxRecDepth 20000 in
theorem ggX0_division_X0_oddDivisionValue : GoodIn wsX0_division wsX0_oddDivisionValue := goodIn_r _ [41, 1, 42, 43, 44, 5, 45, 18, 19, 20, 21, 7, 22, 23, 24, 25, 46, 47, 48, 49, 50, 51, 52] (by decide +kernel) (by decide +kernel)
set_option maxRecDepth 20000 in
theorem gX0_division_X0_oddDivisionValue : GoodIn wsX0_division (wsV RX0 86 RX0 yX0_oddDivisionValue wsX0_oddDivisionValue) := goodIn_app (goodIn_of _ (by decide +kernel)) ggX0_division_X0_oddDivisionValue
theorem dX0_division_0 : decode cX0_division 0 = .ok (.iload_n 1, 1) := by decide +kernel
theorem dX0_division_1 : decode cX0_division 1 = .ok (.ifCond .lt 17, 3) := by decide +kernel
theorem dX0_division_4 : decode cX0_division 4 = .ok (.iload_n 1, 1) := by decide +kernel
theorem dX0_division_5 : decode cX0_division 5 = .ok (.bipush 40, 2) := by decide +kernel
theorem dX0_division_7 : decode cX0_division 7 = .ok (.if_icmp .gt 11, 3) := by decide +kernel
theorem dX0_division_10 : decode cX0_division 10 = .ok (.aload_n 0, 1) := by decide +kernel
theorem dX0_division_11 : decode cX0_division 11 = .ok (.iload_n 2, 1) := by decide +kernel
theorem dX0_division_12 : decode cX0_division 12 = .ok (.invokevirtual 50, 3) := by decide +kernel
theorem dX0_division_15 : decode cX0_division 15 = .ok (.ifCond .ne 5, 3) := by decide +kernel
theorem dX0_division_18 : decode cX0_division 18 = .ok (.iconst (-1), 1) := by decide +kernel
theorem dX0_division_19 : decode cX0_division 19 = .ok (.ireturn, 1) := by decide +kernel
theorem dX0_division_20 : decode cX0_division 20 = .ok (.aload_n 0, 1) := by decide +kernel
theorem dX0_division_21 : decode cX0_division 21 = .ok (.iload_n 2, 1) := by decide +kernel
theorem dX0_division_22 : decode cX0_division 22 = .ok (.invokevirtual 76, 3) := by decide +kernel
theorem dX0_division_25 : decode cX0_division 25 = .ok (.aload_n 0, 1) := by decide +kernel
theorem dX0_division_26 : decode cX0_division 26 = .ok (.iconst 4, 1) := by decide +kernel
theorem dX0_division_27 : decode cX0_division 27 = .ok (.aload_n 0, 1) := by decide +kernel
theorem dX0_division_28 : decode cX0_division 28 = .ok (.iload_n 2, 1) := by decide +kernel
theorem dX0_division_29 : decode cX0_division 29 = .ok (.invokevirtual 57, 3) := by decide +kernel
theorem dX0_division_32 : decode cX0_division 32 = .ok (.imul, 1) := by decide +kernel
theorem dX0_division_33 : decode cX0_division 33 = .ok (.invokevirtual 80, 3) := by decide +kernel
theorem dX0_division_36 : decode cX0_division 36 = .ok (.istore_n 3, 1) := by decide +kernel
theorem dX0_division_37 : decode cX0_division 37 = .ok (.aload_n 0, 1) := by decide +kernel
theorem dX0_division_38 : decode cX0_division 38 = .ok (.iload_n 3, 1) := by decide +kernel
theorem dX0_division_39 : decode cX0_division 39 = .ok (.iload_n 3, 1) := by decide +kernel
theorem dX0_division_40 : decode cX0_division 40 = .ok (.imul, 1) := by decide +kernel
theorem dX0_division_41 : decode cX0_division 41 = .ok (.invokevirtual 80, 3) := by decide +kernel
theorem dX0_division_44 : decode cX0_division 44 = .ok (.istore 4, 2) := by decide +kernel
theorem dX0_division_46 : decode cX0_division 46 = .ok (.iconst 5, 1) := by decide +kernel
theorem dX0_division_47 : decode cX0_division 47 = .ok (.istore 5, 2) := by decide +kernel
theorem dX0_division_49 : decode cX0_division 49 = .ok (.iload 5, 2) := by decide +kernel
theorem dX0_division_51 : decode cX0_division 51 = .ok (.iload_n 1, 1) := by decide +kernel
theorem dX0_division_52 : decode cX0_division 52 = .ok (.if_icmp .gt 44, 3) := by decide +kernel
theorem dX0_division_55 : decode cX0_division 55 = .ok (.aload_n 0, 1) := by decide +kernel
theorem dX0_division_56 : decode cX0_division 56 = .ok (.getfield 16, 3) := by decide +kernel
theorem dX0_division_59 : decode cX0_division 59 = .ok (.iload 5, 2) := by decide +kernel
theorem dX0_division_61 : decode cX0_division 61 = .ok (.iload 5, 2) := by decide +kernel
theorem dX0_division_63 : decode cX0_division 63 = .ok (.iconst 2, 1) := by decide +kernel
theorem dX0_division_64 : decode cX0_division 64 = .ok (.irem, 1) := by decide +kernel
theorem dX0_division_65 : decode cX0_division 65 = .ok (.ifCond .ne 14, 3) := by decide +kernel
theorem dX0_division_68 : decode cX0_division 68 = .ok (.aload_n 0, 1) := by decide +kernel
theorem dX0_division_69 : decode cX0_division 69 = .ok (.iload 5, 2) := by decide +kernel
theorem dX0_division_71 : decode cX0_division 71 = .ok (.iconst 2, 1) := by decide +kernel
theorem dX0_division_72 : decode cX0_division 72 = .ok (.idiv, 1) := by decide +kernel
theorem dX0_division_73 : decode cX0_division 73 = .ok (.invokevirtual 83, 3) := by decide +kernel
theorem dX0_division_76 : decode cX0_division 76 = .ok (.goto 13, 3) := by decide +kernel
theorem dX0_division_79 : decode cX0_division 79 = .ok (.aload_n 0, 1) := by decide +kernel
theorem dX0_division_80 : decode cX0_division 80 = .ok (.iload 5, 2) := by decide +kernel
theorem dX0_division_82 : decode cX0_division 82 = .ok (.iconst 2, 1) := by decide +kernel
theorem dX0_division_83 : decode cX0_division 83 = .ok (.idiv, 1) := by decide +kernel
theorem dX0_division_84 : decode cX0_division 84 = .ok (.iload 4, 2) := by decide +kernel
theorem dX0_division_86 : decode cX0_division 86 = .ok (.invokevirtual 86, 3) := by decide +kernel
theorem dX0_division_89 : decode cX0_division 89 = .ok (.iastore, 1) := by decide +kernel
theorem dX0_division_90 : decode cX0_division 90 = .ok (.iinc 5 1, 3) := by decide +kernel
theorem dX0_division_93 : decode cX0_division 93 = .ok (.goto (-44), 3) := by decide +kernel
theorem dX0_division_96 : decode cX0_division 96 = .ok (.aload_n 0, 1) := by decide +kernel
theorem dX0_division_97 : decode cX0_division 97 = .ok (.getfield 16, 3) := by decide +kernel
theorem dX0_division_100 : decode cX0_division 100 = .ok (.iload_n 1, 1) := by decide +kernel
theorem dX0_division_101 : decode cX0_division 101 = .ok (.iaload, 1) := by decide +kernel
theorem dX0_division_102 : decode cX0_division 102 = .ok (.ireturn, 1) := by decide +kernel
theorem dX0_twist_0 : decode cX0_twist 0 = .ok (.iload_n 1, 1) := by decide +kernel
theorem dX0_twist_1 : decode cX0_twist 1 = .ok (.iconst 1, 1) := by decide +kernel
theorem dX0_twist_2 : decode cX0_twist 2 = .ok (.if_icmp .lt 11, 3) := by decide +kernel
theorem dX0_twist_5 : decode cX0_twist 5 = .ok (.iload_n 1, 1) := by decide +kernel
theorem dX0_twist_6 : decode cX0_twist 6 = .ok (.aload_n 0, 1) := by decide +kernel
theorem dX0_twist_7 : decode cX0_twist 7 = .ok (.getfield 31, 3) := by decide +kernel
theorem dX0_twist_10 : decode cX0_twist 10 = .ok (.if_icmp .lt 5, 3) := by decide +kernel
theorem dX0_twist_13 : decode cX0_twist 13 = .ok (.iconst (-1), 1) := by decide +kernel
theorem dX0_twist_14 : decode cX0_twist 14 = .ok (.ireturn, 1) := by decide +kernel
theorem dX0_twist_15 : decode cX0_twist 15 = .ok (.aload_n 0, 1) := by decide +kernel
theorem dX0_twist_16 : decode cX0_twist 16 = .ok (.getfield 9, 3) := by decide +kernel
theorem dX0_twist_19 : decode cX0_twist 19 = .ok (.iload_n 1, 1) := by decide +kernel
theorem dX0_twist_20 : decode cX0_twist 20 = .ok (.iaload, 1) := by decide +kernel
theorem dX0_twist_21 : decode cX0_twist 21 = .ok (.iconst (-1), 1) := by decide +kernel
theorem dX0_twist_22 : decode cX0_twist 22 = .ok (.if_icmp .eq 10, 3) := by decide +kernel
theorem dX0_twist_25 : decode cX0_twist 25 = .ok (.aload_n 0, 1) := by decide +kernel
theorem dX0_twist_26 : decode cX0_twist 26 = .ok (.getfield 41, 3) := by decide +kernel
theorem dX0_twist_29 : decode cX0_twist 29 = .ok (.goto 16, 3) := by decide +kernel
theorem dX0_twist_32 : decode cX0_twist 32 = .ok (.iconst 2, 1) := by decide +kernel
theorem dX0_twist_33 : decode cX0_twist 33 = .ok (.aload_n 0, 1) := by decide +kernel
theorem dX0_twist_34 : decode cX0_twist 34 = .ok (.getfield 31, 3) := by decide +kernel
theorem dX0_twist_37 : decode cX0_twist 37 = .ok (.imul, 1) := by decide +kernel
theorem dX0_twist_38 : decode cX0_twist 38 = .ok (.iconst 2, 1) := by decide +kernel
theorem dX0_twist_39 : decode cX0_twist 39 = .ok (.iadd, 1) := by decide +kernel
theorem dX0_twist_40 : decode cX0_twist 40 = .ok (.aload_n 0, 1) := by decide +kernel
theorem dX0_twist_41 : decode cX0_twist 41 = .ok (.getfield 41, 3) := by decide +kernel
theorem dX0_twist_44 : decode cX0_twist 44 = .ok (.isub, 1) := by decide +kernel
theorem dX0_twist_45 : decode cX0_twist 45 = .ok (.ireturn, 1) := by decide +kernel
theorem dX0_isPrime_0 : decode cX0_isPrime 0 = .ok (.iconst 2, 1) := by decide +kernel
theorem dX0_isPrime_1 : decode cX0_isPrime 1 = .ok (.istore_n 1, 1) := by decide +kernel
theorem dX0_isPrime_2 : decode cX0_isPrime 2 = .ok (.iload_n 1, 1) := by decide +kernel
theorem dX0_isPrime_3 : decode cX0_isPrime 3 = .ok (.iload_n 1, 1) := by decide +kernel
theorem dX0_isPrime_4 : decode cX0_isPrime 4 = .ok (.imul, 1) := by decide +kernel
theorem dX0_isPrime_5 : decode cX0_isPrime 5 = .ok (.iload_n 0, 1) := by decide +kernel
theorem dX0_isPrime_6 : decode cX0_isPrime 6 = .ok (.if_icmp .gt 17, 3) := by decide +kernel
theorem dX0_isPrime_9 : decode cX0_isPrime 9 = .ok (.iload_n 0, 1) := by decide +kernel
theorem dX0_isPrime_10 : decode cX0_isPrime 10 = .ok (.iload_n 1, 1) := by decide +kernel
theorem dX0_isPrime_11 : decode cX0_isPrime 11 = .ok (.irem, 1) := by decide +kernel
theorem dX0_isPrime_12 : decode cX0_isPrime 12 = .ok (.ifCond .ne 5, 3) := by decide +kernel
theorem dX0_isPrime_15 : decode cX0_isPrime 15 = .ok (.iconst 0, 1) := by decide +kernel
theorem dX0_isPrime_16 : decode cX0_isPrime 16 = .ok (.ireturn, 1) := by decide +kernel
theorem dX0_isPrime_17 : decode cX0_isPrime 17 = .ok (.iinc 1 1, 3) := by decide +kernel
theorem dX0_isPrime_20 : decode cX0_isPrime 20 = .ok (.goto (-18), 3) := by decide +kernel
theorem dX0_isPrime_23 : decode cX0_isPrime 23 = .ok (.iconst 1, 1) := by decide +kernel
theorem dX0_isPrime_24 : decode cX0_isPrime 24 = .ok (.ireturn, 1) := by decide +kernel
theorem dX0_isSingular_0 : decode cX0_isSingular 0 = .ok (.iload_n 1, 1) := by decide +kernel
theorem dX0_isSingular_1 : decode cX0_isSingular 1 = .ok (.iload_n 1, 1) := by decide +kernel
theorem dX0_isSingular_2 : decode cX0_isSingular 2 = .ok (.imul, 1) := by decide +kernel
theorem dX0_isSingular_3 : decode cX0_isSingular 3 = .ok (.iload_n 0, 1) := by decide +kernel
theorem dX0_isSingular_4 : decode cX0_isSingular 4 = .ok (.irem, 1) := by decide +kernel
theorem dX0_isSingular_5 : decode cX0_isSingular 5 = .ok (.iload_n 1, 1) := by decide +kernel
theorem dX0_isSingular_6 : decode cX0_isSingular 6 = .ok (.imul, 1) := by decide +kernel
theorem dX0_isSingular_7 : decode cX0_isSingular 7 = .ok (.iload_n 0, 1) := by decide +kernel
theorem dX0_isSingular_8 : decode cX0_isSingular 8 = .ok (.irem, 1) := by decide +kernel
theorem dX0_isSingular_9 : decode cX0_isSingular 9 = .ok (.istore_n 3, 1) := by decide +kernel
theorem dX0_isSingular_10 : decode cX0_isSingular 10 = .ok (.iload_n 2, 1) := by decide +kernel
theorem dX0_isSingular_11 : decode cX0_isSingular 11 = .ok (.iload_n 2, 1) := by decide +kernel
theorem dX0_isSingular_12 : decode cX0_isSingular 12 = .ok (.imul, 1) := by decide +kernel
theorem dX0_isSingular_13 : decode cX0_isSingular 13 = .ok (.iload_n 0, 1) := by decide +kernel
theorem dX0_isSingular_14 : decode cX0_isSingular 14 = .ok (.irem, 1) := by decide +kernel
theorem dX0_isSingular_15 : decode cX0_isSingular 15 = .ok (.istore 4, 2) := by decide +kernel
theorem dX0_isSingular_17 : decode cX0_isSingular 17 = .ok (.iconst 4, 1) := by decide +kernel
theorem dX0_isSingular_18 : decode cX0_isSingular 18 = .ok (.iload_n 3, 1) := by decide +kernel
theorem dX0_isSingular_19 : decode cX0_isSingular 19 = .ok (.imul, 1) := by decide +kernel
theorem dX0_isSingular_20 : decode cX0_isSingular 20 = .ok (.bipush 27, 2) := by decide +kernel
theorem dX0_isSingular_22 : decode cX0_isSingular 22 = .ok (.iload 4, 2) := by decide +kernel
theorem dX0_isSingular_24 : decode cX0_isSingular 24 = .ok (.imul, 1) := by decide +kernel
theorem dX0_isSingular_25 : decode cX0_isSingular 25 = .ok (.iadd, 1) := by decide +kernel
theorem dX0_isSingular_26 : decode cX0_isSingular 26 = .ok (.iload_n 0, 1) := by decide +kernel
theorem dX0_isSingular_27 : decode cX0_isSingular 27 = .ok (.irem, 1) := by decide +kernel
theorem dX0_isSingular_28 : decode cX0_isSingular 28 = .ok (.ifCond .ne 7, 3) := by decide +kernel
theorem dX0_isSingular_31 : decode cX0_isSingular 31 = .ok (.iconst 1, 1) := by decide +kernel
theorem dX0_isSingular_32 : decode cX0_isSingular 32 = .ok (.goto 4, 3) := by decide +kernel
theorem dX0_isSingular_35 : decode cX0_isSingular 35 = .ok (.iconst 0, 1) := by decide +kernel
theorem dX0_isSingular_36 : decode cX0_isSingular 36 = .ok (.ireturn, 1) := by decide +kernel
set_option maxRecDepth 20000 in
theorem ggX0_setPresent_X0_fillLesserRoots : GoodIn wsX0_setPresent wsX0_fillLesserRoots := goodIn_r _ [10, 1, 11, 12, 13, 14, 9, 15, 16, 17, 18, 19, 32, 33, 34, 35, 36, 37, 38] (by decide +kernel) (by decide +kernel)
set_option maxRecDepth 20000 in
theorem gX0_setPresent_X0_fillLesserRoots : GoodIn wsX0_setPresent (wsV RX0 89 RX0 yX0_fillLesserRoots wsX0_fillLesserRoots) := goodIn_app (goodIn_of _ (by decide +kernel)) ggX0_setPresent_X0_fillLesserRoots
set_option maxRecDepth 20000 in
theorem ggX0_setPresent_X0_fillPointsBefore : GoodIn wsX0_setPresent wsX0_fillPointsBefore := goodIn_r _ [23, 4, 1, 24, 25, 26, 9, 27, 2, 3, 12, 13, 14, 15, 16, 17, 18, 19, 28, 29, 30, 31, 11, 32, 33, 34, 35, 36, 37, 38] (by decide +kernel) (by decide +kernel)
set_option maxRecDepth 20000 in
theorem gX0_setPresent_X0_fillPointsBefore : GoodIn wsX0_setPresent (wsV RX0 92 RX0 yX0_fillPointsBefore wsX0_fillPointsBefore) := goodIn_app (goodIn_of _ (by decide +kernel)) ggX0_setPresent_X0_fillPointsBefore
theorem dX0_setPresent_0 : decode cX0_setPresent 0 = .ok (.aload_n 0, 1) := by decide +kernel
theorem dX0_setPresent_1 : decode cX0_setPresent 1 = .ok (.iload_n 1, 1) := by decide +kernel
theorem dX0_setPresent_2 : decode cX0_setPresent 2 = .ok (.putfield 31, 3) := by decide +kernel
theorem dX0_setPresent_5 : decode cX0_setPresent 5 = .ok (.aload_n 0, 1) := by decide +kernel
theorem dX0_setPresent_6 : decode cX0_setPresent 6 = .ok (.iload_n 2, 1) := by decide +kernel
theorem dX0_setPresent_7 : decode cX0_setPresent 7 = .ok (.putfield 35, 3) := by decide +kernel
theorem dX0_setPresent_10 : decode cX0_setPresent 10 = .ok (.aload_n 0, 1) := by decide +kernel
theorem dX0_setPresent_11 : decode cX0_setPresent 11 = .ok (.iload_n 3, 1) := by decide +kernel
theorem dX0_setPresent_12 : decode cX0_setPresent 12 = .ok (.putfield 38, 3) := by decide +kernel
theorem dX0_setPresent_15 : decode cX0_setPresent 15 = .ok (.aload_n 0, 1) := by decide +kernel
theorem dX0_setPresent_16 : decode cX0_setPresent 16 = .ok (.invokevirtual 89, 3) := by decide +kernel
theorem dX0_setPresent_19 : decode cX0_setPresent 19 = .ok (.aload_n 0, 1) := by decide +kernel
theorem dX0_setPresent_20 : decode cX0_setPresent 20 = .ok (.invokevirtual 92, 3) := by decide +kernel
theorem dX0_setPresent_23 : decode cX0_setPresent 23 = .ok (.aload_n 0, 1) := by decide +kernel
theorem dX0_setPresent_24 : decode cX0_setPresent 24 = .ok (.aload_n 0, 1) := by decide +kernel
theorem dX0_setPresent_25 : decode cX0_setPresent 25 = .ok (.getfield 13, 3) := by decide +kernel
theorem dX0_setPresent_28 : decode cX0_setPresent 28 = .ok (.aload_n 0, 1) := by decide +kernel
theorem dX0_setPresent_29 : decode cX0_setPresent 29 = .ok (.getfield 31, 3) := by decide +kernel
theorem dX0_setPresent_32 : decode cX0_setPresent 32 = .ok (.iaload, 1) := by decide +kernel
theorem dX0_setPresent_33 : decode cX0_setPresent 33 = .ok (.iconst 1, 1) := by decide +kernel
theorem dX0_setPresent_34 : decode cX0_setPresent 34 = .ok (.iadd, 1) := by decide +kernel
theorem dX0_setPresent_35 : decode cX0_setPresent 35 = .ok (.putfield 41, 3) := by decide +kernel
theorem dX0_setPresent_38 : decode cX0_setPresent 38 = .ok (.return_, 1) := by decide +kernel
set_option maxRecDepth 20000 in
theorem ggX0_fillLesserRoots_X0_modulo : GoodIn wsX0_fillLesserRoots wsX0_modulo := goodIn_r _ [7, 1, 8, 9, 10, 11, 12, 13, 14, 15, 16, 17, 18] (by decide +kernel) (by decide +kernel)
set_option maxRecDepth 20000 in
theorem gX0_fillLesserRoots_X0_modulo : GoodIn wsX0_fillLesserRoots (wsV RX0 80 RX0 yX0_modulo wsX0_modulo) := goodIn_app (goodIn_of _ (by decide +kernel)) ggX0_fillLesserRoots_X0_modulo
theorem dX0_fillLesserRoots_0 : decode cX0_fillLesserRoots 0 = .ok (.iconst 0, 1) := by decide +kernel
theorem dX0_fillLesserRoots_1 : decode cX0_fillLesserRoots 1 = .ok (.istore_n 1, 1) := by decide +kernel
theorem dX0_fillLesserRoots_2 : decode cX0_fillLesserRoots 2 = .ok (.iload_n 1, 1) := by decide +kernel
theorem dX0_fillLesserRoots_3 : decode cX0_fillLesserRoots 3 = .ok (.aload_n 0, 1) := by decide +kernel
theorem dX0_fillLesserRoots_4 : decode cX0_fillLesserRoots 4 = .ok (.getfield 31, 3) := by decide +kernel
theorem dX0_fillLesserRoots_7 : decode cX0_fillLesserRoots 7 = .ok (.if_icmp .ge 16, 3) := by decide +kernel
theorem dX0_fillLesserRoots_10 : decode cX0_fillLesserRoots 10 = .ok (.aload_n 0, 1) := by decide +kernel
theorem dX0_fillLesserRoots_11 : decode cX0_fillLesserRoots 11 = .ok (.getfield 9, 3) := by decide +kernel
theorem dX0_fillLesserRoots_14 : decode cX0_fillLesserRoots 14 = .ok (.iload_n 1, 1) := by decide +kernel
theorem dX0_fillLesserRoots_15 : decode cX0_fillLesserRoots 15 = .ok (.iconst (-1), 1) := by decide +kernel
theorem dX0_fillLesserRoots_16 : decode cX0_fillLesserRoots 16 = .ok (.iastore, 1) := by decide +kernel
theorem dX0_fillLesserRoots_17 : decode cX0_fillLesserRoots 17 = .ok (.iinc 1 1, 3) := by decide +kernel
theorem dX0_fillLesserRoots_20 : decode cX0_fillLesserRoots 20 = .ok (.goto (-18), 3) := by decide +kernel
theorem dX0_fillLesserRoots_23 : decode cX0_fillLesserRoots 23 = .ok (.iconst 0, 1) := by decide +kernel
theorem dX0_fillLesserRoots_24 : decode cX0_fillLesserRoots 24 = .ok (.istore_n 1, 1) := by decide +kernel
theorem dX0_fillLesserRoots_25 : decode cX0_fillLesserRoots 25 = .ok (.iload_n 1, 1) := by decide +kernel
theorem dX0_fillLesserRoots_26 : decode cX0_fillLesserRoots 26 = .ok (.aload_n 0, 1) := by decide +kernel
theorem dX0_fillLesserRoots_27 : decode cX0_fillLesserRoots 27 = .ok (.getfield 31, 3) := by decide +kernel
theorem dX0_fillLesserRoots_30 : decode cX0_fillLesserRoots 30 = .ok (.iconst 2, 1) := by decide +kernel
theorem dX0_fillLesserRoots_31 : decode cX0_fillLesserRoots 31 = .ok (.idiv, 1) := by decide +kernel
theorem dX0_fillLesserRoots_32 : decode cX0_fillLesserRoots 32 = .ok (.if_icmp .gt 22, 3) := by decide +kernel
theorem dX0_fillLesserRoots_35 : decode cX0_fillLesserRoots 35 = .ok (.aload_n 0, 1) := by decide +kernel
theorem dX0_fillLesserRoots_36 : decode cX0_fillLesserRoots 36 = .ok (.getfield 9, 3) := by decide +kernel
theorem dX0_fillLesserRoots_39 : decode cX0_fillLesserRoots 39 = .ok (.aload_n 0, 1) := by decide +kernel
theorem dX0_fillLesserRoots_40 : decode cX0_fillLesserRoots 40 = .ok (.iload_n 1, 1) := by decide +kernel
theorem dX0_fillLesserRoots_41 : decode cX0_fillLesserRoots 41 = .ok (.iload_n 1, 1) := by decide +kernel
theorem dX0_fillLesserRoots_42 : decode cX0_fillLesserRoots 42 = .ok (.imul, 1) := by decide +kernel
theorem dX0_fillLesserRoots_43 : decode cX0_fillLesserRoots 43 = .ok (.invokevirtual 80, 3) := by decide +kernel
theorem dX0_fillLesserRoots_46 : decode cX0_fillLesserRoots 46 = .ok (.iload_n 1, 1) := by decide +kernel
theorem dX0_fillLesserRoots_47 : decode cX0_fillLesserRoots 47 = .ok (.iastore, 1) := by decide +kernel
theorem dX0_fillLesserRoots_48 : decode cX0_fillLesserRoots 48 = .ok (.iinc 1 1, 3) := by decide +kernel
theorem dX0_fillLesserRoots_51 : decode cX0_fillLesserRoots 51 = .ok (.goto (-26), 3) := by decide +kernel
theorem dX0_fillLesserRoots_54 : decode cX0_fillLesserRoots 54 = .ok (.return_, 1) := by decide +kernel
set_option maxRecDepth 20000 in
theorem ggX0_fillPointsBefore_X0_rightSide : GoodIn wsX0_fillPointsBefore wsX0_rightSide := goodIn_r _ [7, 8, 9, 10, 11, 12, 6, 13, 2, 14, 15, 16, 17, 23, 24, 25, 26, 27, 28, 29] (by decide +kernel) (by decide +kernel)
set_option maxRecDepth 20000 in
theorem gX0_fillPointsBefore_X0_rightSide : GoodIn wsX0_fillPointsBefore (wsV RX0 57 RX0 yX0_rightSide wsX0_rightSide) := goodIn_app (goodIn_of _ (by decide +kernel)) ggX0_fillPointsBefore_X0_rightSide
set_option maxRecDepth 20000 in
theorem ggX0_fillPointsBefore_X0_rootCount : GoodIn wsX0_fillPointsBefore wsX0_rootCount := goodIn_r _ [21, 22, 23, 24, 25, 26, 27, 28, 29] (by decide +kernel) (by decide +kernel)
set_option maxRecDepth 20000 in
theorem gX0_fillPointsBefore_X0_rootCount : GoodIn wsX0_fillPointsBefore (wsV RX0 95 RX0 yX0_rootCount wsX0_rootCount) := goodIn_app (goodIn_of _ (by decide +kernel)) ggX0_fillPointsBefore_X0_rootCount
theorem dX0_fillPointsBefore_0 : decode cX0_fillPointsBefore 0 = .ok (.aload_n 0, 1) := by decide +kernel
theorem dX0_fillPointsBefore_1 : decode cX0_fillPointsBefore 1 = .ok (.getfield 13, 3) := by decide +kernel
theorem dX0_fillPointsBefore_4 : decode cX0_fillPointsBefore 4 = .ok (.iconst 0, 1) := by decide +kernel
theorem dX0_fillPointsBefore_5 : decode cX0_fillPointsBefore 5 = .ok (.iconst 0, 1) := by decide +kernel
theorem dX0_fillPointsBefore_6 : decode cX0_fillPointsBefore 6 = .ok (.iastore, 1) := by decide +kernel
theorem dX0_fillPointsBefore_7 : decode cX0_fillPointsBefore 7 = .ok (.iconst 0, 1) := by decide +kernel
theorem dX0_fillPointsBefore_8 : decode cX0_fillPointsBefore 8 = .ok (.istore_n 1, 1) := by decide +kernel
theorem dX0_fillPointsBefore_9 : decode cX0_fillPointsBefore 9 = .ok (.iload_n 1, 1) := by decide +kernel
theorem dX0_fillPointsBefore_10 : decode cX0_fillPointsBefore 10 = .ok (.aload_n 0, 1) := by decide +kernel
theorem dX0_fillPointsBefore_11 : decode cX0_fillPointsBefore 11 = .ok (.getfield 31, 3) := by decide +kernel
theorem dX0_fillPointsBefore_14 : decode cX0_fillPointsBefore 14 = .ok (.if_icmp .ge 33, 3) := by decide +kernel
theorem dX0_fillPointsBefore_17 : decode cX0_fillPointsBefore 17 = .ok (.aload_n 0, 1) := by decide +kernel
theorem dX0_fillPointsBefore_18 : decode cX0_fillPointsBefore 18 = .ok (.getfield 13, 3) := by decide +kernel
theorem dX0_fillPointsBefore_21 : decode cX0_fillPointsBefore 21 = .ok (.iload_n 1, 1) := by decide +kernel
theorem dX0_fillPointsBefore_22 : decode cX0_fillPointsBefore 22 = .ok (.iconst 1, 1) := by decide +kernel
theorem dX0_fillPointsBefore_23 : decode cX0_fillPointsBefore 23 = .ok (.iadd, 1) := by decide +kernel
theorem dX0_fillPointsBefore_24 : decode cX0_fillPointsBefore 24 = .ok (.aload_n 0, 1) := by decide +kernel
theorem dX0_fillPointsBefore_25 : decode cX0_fillPointsBefore 25 = .ok (.getfield 13, 3) := by decide +kernel
theorem dX0_fillPointsBefore_28 : decode cX0_fillPointsBefore 28 = .ok (.iload_n 1, 1) := by decide +kernel
theorem dX0_fillPointsBefore_29 : decode cX0_fillPointsBefore 29 = .ok (.iaload, 1) := by decide +kernel
theorem dX0_fillPointsBefore_30 : decode cX0_fillPointsBefore 30 = .ok (.aload_n 0, 1) := by decide +kernel
theorem dX0_fillPointsBefore_31 : decode cX0_fillPointsBefore 31 = .ok (.aload_n 0, 1) := by decide +kernel
theorem dX0_fillPointsBefore_32 : decode cX0_fillPointsBefore 32 = .ok (.iload_n 1, 1) := by decide +kernel
theorem dX0_fillPointsBefore_33 : decode cX0_fillPointsBefore 33 = .ok (.invokevirtual 57, 3) := by decide +kernel
theorem dX0_fillPointsBefore_36 : decode cX0_fillPointsBefore 36 = .ok (.invokevirtual 95, 3) := by decide +kernel
theorem dX0_fillPointsBefore_39 : decode cX0_fillPointsBefore 39 = .ok (.iadd, 1) := by decide +kernel
theorem dX0_fillPointsBefore_40 : decode cX0_fillPointsBefore 40 = .ok (.iastore, 1) := by decide +kernel
theorem dX0_fillPointsBefore_41 : decode cX0_fillPointsBefore 41 = .ok (.iinc 1 1, 3) := by decide +kernel
theorem dX0_fillPointsBefore_44 : decode cX0_fillPointsBefore 44 = .ok (.goto (-35), 3) := by decide +kernel
theorem dX0_fillPointsBefore_47 : decode cX0_fillPointsBefore 47 = .ok (.return_, 1) := by decide +kernel
theorem dX0_rootCount_0 : decode cX0_rootCount 0 = .ok (.iload_n 1, 1) := by decide +kernel
theorem dX0_rootCount_1 : decode cX0_rootCount 1 = .ok (.ifCond .ne 5, 3) := by decide +kernel
theorem dX0_rootCount_4 : decode cX0_rootCount 4 = .ok (.iconst 1, 1) := by decide +kernel
theorem dX0_rootCount_5 : decode cX0_rootCount 5 = .ok (.ireturn, 1) := by decide +kernel
theorem dX0_rootCount_6 : decode cX0_rootCount 6 = .ok (.aload_n 0, 1) := by decide +kernel
theorem dX0_rootCount_7 : decode cX0_rootCount 7 = .ok (.getfield 9, 3) := by decide +kernel
theorem dX0_rootCount_10 : decode cX0_rootCount 10 = .ok (.iload_n 1, 1) := by decide +kernel
theorem dX0_rootCount_11 : decode cX0_rootCount 11 = .ok (.iaload, 1) := by decide +kernel
theorem dX0_rootCount_12 : decode cX0_rootCount 12 = .ok (.iconst (-1), 1) := by decide +kernel
theorem dX0_rootCount_13 : decode cX0_rootCount 13 = .ok (.if_icmp .ne 7, 3) := by decide +kernel
theorem dX0_rootCount_16 : decode cX0_rootCount 16 = .ok (.iconst 0, 1) := by decide +kernel
theorem dX0_rootCount_17 : decode cX0_rootCount 17 = .ok (.goto 4, 3) := by decide +kernel
theorem dX0_rootCount_20 : decode cX0_rootCount 20 = .ok (.iconst 2, 1) := by decide +kernel
theorem dX0_rootCount_21 : decode cX0_rootCount 21 = .ok (.ireturn, 1) := by decide +kernel
theorem dX0_xOfPoint_0 : decode cX0_xOfPoint 0 = .ok (.iconst 0, 1) := by decide +kernel
theorem dX0_xOfPoint_1 : decode cX0_xOfPoint 1 = .ok (.istore_n 2, 1) := by decide +kernel
theorem dX0_xOfPoint_2 : decode cX0_xOfPoint 2 = .ok (.sipush 4096, 3) := by decide +kernel
theorem dX0_xOfPoint_5 : decode cX0_xOfPoint 5 = .ok (.istore_n 3, 1) := by decide +kernel
theorem dX0_xOfPoint_6 : decode cX0_xOfPoint 6 = .ok (.iload_n 3, 1) := by decide +kernel
theorem dX0_xOfPoint_7 : decode cX0_xOfPoint 7 = .ok (.ifCond .le 36, 3) := by decide +kernel
theorem dX0_xOfPoint_10 : decode cX0_xOfPoint 10 = .ok (.iload_n 2, 1) := by decide +kernel
theorem dX0_xOfPoint_11 : decode cX0_xOfPoint 11 = .ok (.iload_n 3, 1) := by decide +kernel
theorem dX0_xOfPoint_12 : decode cX0_xOfPoint 12 = .ok (.iadd, 1) := by decide +kernel
theorem dX0_xOfPoint_13 : decode cX0_xOfPoint 13 = .ok (.aload_n 0, 1) := by decide +kernel
theorem dX0_xOfPoint_14 : decode cX0_xOfPoint 14 = .ok (.getfield 31, 3) := by decide +kernel
theorem dX0_xOfPoint_17 : decode cX0_xOfPoint 17 = .ok (.if_icmp .ge 19, 3) := by decide +kernel
theorem dX0_xOfPoint_20 : decode cX0_xOfPoint 20 = .ok (.aload_n 0, 1) := by decide +kernel
theorem dX0_xOfPoint_21 : decode cX0_xOfPoint 21 = .ok (.getfield 13, 3) := by decide +kernel
theorem dX0_xOfPoint_24 : decode cX0_xOfPoint 24 = .ok (.iload_n 2, 1) := by decide +kernel
theorem dX0_xOfPoint_25 : decode cX0_xOfPoint 25 = .ok (.iload_n 3, 1) := by decide +kernel
theorem dX0_xOfPoint_26 : decode cX0_xOfPoint 26 = .ok (.iadd, 1) := by decide +kernel
theorem dX0_xOfPoint_27 : decode cX0_xOfPoint 27 = .ok (.iaload, 1) := by decide +kernel
theorem dX0_xOfPoint_28 : decode cX0_xOfPoint 28 = .ok (.iload_n 1, 1) := by decide +kernel
theorem dX0_xOfPoint_29 : decode cX0_xOfPoint 29 = .ok (.if_icmp .gt 7, 3) := by decide +kernel
theorem dX0_xOfPoint_32 : decode cX0_xOfPoint 32 = .ok (.iload_n 2, 1) := by decide +kernel
theorem dX0_xOfPoint_33 : decode cX0_xOfPoint 33 = .ok (.iload_n 3, 1) := by decide +kernel
theorem dX0_xOfPoint_34 : decode cX0_xOfPoint 34 = .ok (.iadd, 1) := by decide +kernel
theorem dX0_xOfPoint_35 : decode cX0_xOfPoint 35 = .ok (.istore_n 2, 1) := by decide +kernel
theorem dX0_xOfPoint_36 : decode cX0_xOfPoint 36 = .ok (.iload_n 3, 1) := by decide +kernel
theorem dX0_xOfPoint_37 : decode cX0_xOfPoint 37 = .ok (.iconst 1, 1) := by decide +kernel
theorem dX0_xOfPoint_38 : decode cX0_xOfPoint 38 = .ok (.ishr, 1) := by decide +kernel
theorem dX0_xOfPoint_39 : decode cX0_xOfPoint 39 = .ok (.istore_n 3, 1) := by decide +kernel
theorem dX0_xOfPoint_40 : decode cX0_xOfPoint 40 = .ok (.goto (-34), 3) := by decide +kernel
theorem dX0_xOfPoint_43 : decode cX0_xOfPoint 43 = .ok (.iload_n 2, 1) := by decide +kernel
theorem dX0_xOfPoint_44 : decode cX0_xOfPoint 44 = .ok (.ireturn, 1) := by decide +kernel
theorem dX0_isNumber_0 : decode cX0_isNumber 0 = .ok (.iload_n 1, 1) := by decide +kernel
theorem dX0_isNumber_1 : decode cX0_isNumber 1 = .ok (.ifCond .lt 15, 3) := by decide +kernel
theorem dX0_isNumber_4 : decode cX0_isNumber 4 = .ok (.iload_n 1, 1) := by decide +kernel
theorem dX0_isNumber_5 : decode cX0_isNumber 5 = .ok (.aload_n 0, 1) := by decide +kernel
theorem dX0_isNumber_6 : decode cX0_isNumber 6 = .ok (.getfield 31, 3) := by decide +kernel
theorem dX0_isNumber_9 : decode cX0_isNumber 9 = .ok (.if_icmp .ge 7, 3) := by decide +kernel
theorem dX0_isNumber_12 : decode cX0_isNumber 12 = .ok (.iconst 1, 1) := by decide +kernel
theorem dX0_isNumber_13 : decode cX0_isNumber 13 = .ok (.goto 4, 3) := by decide +kernel
theorem dX0_isNumber_16 : decode cX0_isNumber 16 = .ok (.iconst 0, 1) := by decide +kernel
theorem dX0_isNumber_17 : decode cX0_isNumber 17 = .ok (.ireturn, 1) := by decide +kernel
set_option maxRecDepth 20000 in
theorem ggX0_isPoint_X0_xOf : GoodIn wsX0_isPoint wsX0_xOf := goodIn_r _ [4] (by decide +kernel) (by decide +kernel)
set_option maxRecDepth 20000 in
theorem gX0_isPoint_X0_xOf : GoodIn wsX0_isPoint (va_wsS RX0 98 yX0_xOf wsX0_xOf) := goodIn_app (goodIn_of _ (by decide +kernel)) ggX0_isPoint_X0_xOf
set_option maxRecDepth 20000 in
theorem ggX0_isPoint_X0_yOf : GoodIn wsX0_isPoint wsX0_yOf := goodIn_r _ [7] (by decide +kernel) (by decide +kernel)
set_option maxRecDepth 20000 in
theorem gX0_isPoint_X0_yOf : GoodIn wsX0_isPoint (va_wsS RX0 101 yX0_yOf wsX0_yOf) := goodIn_app (goodIn_of _ (by decide +kernel)) ggX0_isPoint_X0_yOf
set_option maxRecDepth 20000 in
theorem ggX0_isPoint_X0_isNumber : GoodIn wsX0_isPoint wsX0_isNumber := goodIn_r _ [11, 12, 27, 28, 29, 30, 31, 32, 33] (by decide +kernel) (by decide +kernel)
set_option maxRecDepth 20000 in
theorem gX0_isPoint_X0_isNumber : GoodIn wsX0_isPoint (wsV RX0 50 RX0 yX0_isNumber wsX0_isNumber) := goodIn_app (goodIn_of _ (by decide +kernel)) ggX0_isPoint_X0_isNumber
set_option maxRecDepth 20000 in
theorem ggX0_isPoint_X0_modulo : GoodIn wsX0_isPoint wsX0_modulo := goodIn_r _ [16, 12, 17, 18, 19, 20, 27, 28, 29, 30, 31, 32, 33] (by decide +kernel) (by decide +kernel)
set_option maxRecDepth 20000 in
theorem gX0_isPoint_X0_modulo : GoodIn wsX0_isPoint (wsV RX0 80 RX0 yX0_modulo wsX0_modulo) := goodIn_app (goodIn_of _ (by decide +kernel)) ggX0_isPoint_X0_modulo
set_option maxRecDepth 20000 in
theorem ggX0_isPoint_X0_rightSide : GoodIn wsX0_isPoint wsX0_rightSide := goodIn_r _ [24, 25, 26, 13, 14, 15, 3, 16, 12, 17, 18, 19, 20, 27, 28, 29, 30, 31, 32, 33] (by decide +kernel) (by decide +kernel)
set_option maxRecDepth 20000 in
theorem gX0_isPoint_X0_rightSide : GoodIn wsX0_isPoint (wsV RX0 57 RX0 yX0_rightSide wsX0_rightSide) := goodIn_app (goodIn_of _ (by decide +kernel)) ggX0_isPoint_X0_rightSide
theorem dX0_isPoint_0 : decode cX0_isPoint 0 = .ok (.iload_n 1, 1) := by decide +kernel
theorem dX0_isPoint_1 : decode cX0_isPoint 1 = .ok (.ifCond .ge 14, 3) := by decide +kernel
theorem dX0_isPoint_4 : decode cX0_isPoint 4 = .ok (.iload_n 1, 1) := by decide +kernel
theorem dX0_isPoint_5 : decode cX0_isPoint 5 = .ok (.iconst (-1), 1) := by decide +kernel
theorem dX0_isPoint_6 : decode cX0_isPoint 6 = .ok (.if_icmp .ne 7, 3) := by decide +kernel
theorem dX0_isPoint_9 : decode cX0_isPoint 9 = .ok (.iconst 1, 1) := by decide +kernel
theorem dX0_isPoint_10 : decode cX0_isPoint 10 = .ok (.goto 4, 3) := by decide +kernel
theorem dX0_isPoint_13 : decode cX0_isPoint 13 = .ok (.iconst 0, 1) := by decide +kernel
theorem dX0_isPoint_14 : decode cX0_isPoint 14 = .ok (.ireturn, 1) := by decide +kernel
theorem dX0_isPoint_15 : decode cX0_isPoint 15 = .ok (.iload_n 1, 1) := by decide +kernel
theorem dX0_isPoint_16 : decode cX0_isPoint 16 = .ok (.invokestatic 98, 3) := by decide +kernel
theorem dX0_isPoint_19 : decode cX0_isPoint 19 = .ok (.istore_n 2, 1) := by decide +kernel
theorem dX0_isPoint_20 : decode cX0_isPoint 20 = .ok (.iload_n 1, 1) := by decide +kernel
theorem dX0_isPoint_21 : decode cX0_isPoint 21 = .ok (.invokestatic 101, 3) := by decide +kernel
theorem dX0_isPoint_24 : decode cX0_isPoint 24 = .ok (.istore_n 3, 1) := by decide +kernel
theorem dX0_isPoint_25 : decode cX0_isPoint 25 = .ok (.aload_n 0, 1) := by decide +kernel
theorem dX0_isPoint_26 : decode cX0_isPoint 26 = .ok (.iload_n 2, 1) := by decide +kernel
theorem dX0_isPoint_27 : decode cX0_isPoint 27 = .ok (.invokevirtual 50, 3) := by decide +kernel
theorem dX0_isPoint_30 : decode cX0_isPoint 30 = .ok (.ifCond .eq 30, 3) := by decide +kernel
theorem dX0_isPoint_33 : decode cX0_isPoint 33 = .ok (.aload_n 0, 1) := by decide +kernel
theorem dX0_isPoint_34 : decode cX0_isPoint 34 = .ok (.iload_n 3, 1) := by decide +kernel
theorem dX0_isPoint_35 : decode cX0_isPoint 35 = .ok (.invokevirtual 50, 3) := by decide +kernel
theorem dX0_isPoint_38 : decode cX0_isPoint 38 = .ok (.ifCond .eq 22, 3) := by decide +kernel
theorem dX0_isPoint_41 : decode cX0_isPoint 41 = .ok (.aload_n 0, 1) := by decide +kernel
theorem dX0_isPoint_42 : decode cX0_isPoint 42 = .ok (.iload_n 3, 1) := by decide +kernel
theorem dX0_isPoint_43 : decode cX0_isPoint 43 = .ok (.iload_n 3, 1) := by decide +kernel
theorem dX0_isPoint_44 : decode cX0_isPoint 44 = .ok (.imul, 1) := by decide +kernel
theorem dX0_isPoint_45 : decode cX0_isPoint 45 = .ok (.invokevirtual 80, 3) := by decide +kernel
theorem dX0_isPoint_48 : decode cX0_isPoint 48 = .ok (.aload_n 0, 1) := by decide +kernel
theorem dX0_isPoint_49 : decode cX0_isPoint 49 = .ok (.iload_n 2, 1) := by decide +kernel
theorem dX0_isPoint_50 : decode cX0_isPoint 50 = .ok (.invokevirtual 57, 3) := by decide +kernel
theorem dX0_isPoint_53 : decode cX0_isPoint 53 = .ok (.if_icmp .ne 7, 3) := by decide +kernel
theorem dX0_isPoint_56 : decode cX0_isPoint 56 = .ok (.iconst 1, 1) := by decide +kernel
theorem dX0_isPoint_57 : decode cX0_isPoint 57 = .ok (.goto 4, 3) := by decide +kernel
theorem dX0_isPoint_60 : decode cX0_isPoint 60 = .ok (.iconst 0, 1) := by decide +kernel
theorem dX0_isPoint_61 : decode cX0_isPoint 61 = .ok (.ireturn, 1) := by decide +kernel
theorem dX0_pack_0 : decode cX0_pack 0 = .ok (.iload_n 0, 1) := by decide +kernel
theorem dX0_pack_1 : decode cX0_pack 1 = .ok (.bipush 12, 2) := by decide +kernel
theorem dX0_pack_3 : decode cX0_pack 3 = .ok (.ishl, 1) := by decide +kernel
theorem dX0_pack_4 : decode cX0_pack 4 = .ok (.iload_n 1, 1) := by decide +kernel
theorem dX0_pack_5 : decode cX0_pack 5 = .ok (.iadd, 1) := by decide +kernel
theorem dX0_pack_6 : decode cX0_pack 6 = .ok (.ireturn, 1) := by decide +kernel
theorem dX0_xOf_0 : decode cX0_xOf 0 = .ok (.iload_n 0, 1) := by decide +kernel
theorem dX0_xOf_1 : decode cX0_xOf 1 = .ok (.bipush 12, 2) := by decide +kernel
theorem dX0_xOf_3 : decode cX0_xOf 3 = .ok (.ishr, 1) := by decide +kernel
theorem dX0_xOf_4 : decode cX0_xOf 4 = .ok (.ireturn, 1) := by decide +kernel
theorem dX0_yOf_0 : decode cX0_yOf 0 = .ok (.iload_n 0, 1) := by decide +kernel
theorem dX0_yOf_1 : decode cX0_yOf 1 = .ok (.sipush 4095, 3) := by decide +kernel
theorem dX0_yOf_4 : decode cX0_yOf 4 = .ok (.iand, 1) := by decide +kernel
theorem dX0_yOf_5 : decode cX0_yOf 5 = .ok (.ireturn, 1) := by decide +kernel
set_option maxRecDepth 20000 in
theorem ggX0_modulo_J9_floorMod_7cf53 : GoodIn wsX0_modulo wsJ9_floorMod_7cf53 := goodIn_r _ [5] (by decide +kernel) (by decide +kernel)
set_option maxRecDepth 20000 in
theorem gX0_modulo_J9_floorMod_7cf53 : GoodIn wsX0_modulo (va_wsS RX0 44 yJ9_floorMod_7cf53 wsJ9_floorMod_7cf53) := goodIn_app (goodIn_of _ (by decide +kernel)) ggX0_modulo_J9_floorMod_7cf53
theorem dX0_modulo_0 : decode cX0_modulo 0 = .ok (.iload_n 1, 1) := by decide +kernel
theorem dX0_modulo_1 : decode cX0_modulo 1 = .ok (.aload_n 0, 1) := by decide +kernel
theorem dX0_modulo_2 : decode cX0_modulo 2 = .ok (.getfield 31, 3) := by decide +kernel
theorem dX0_modulo_5 : decode cX0_modulo 5 = .ok (.invokestatic 44, 3) := by decide +kernel
theorem dX0_modulo_8 : decode cX0_modulo 8 = .ok (.ireturn, 1) := by decide +kernel
set_option maxRecDepth 20000 in
theorem ggX0_rightSide_X0_modulo : GoodIn wsX0_rightSide wsX0_modulo := goodIn_r _ [7, 8, 9, 10, 11, 12, 13, 14, 15, 16, 17, 18, 19] (by decide +kernel) (by decide +kernel)
set_option maxRecDepth 20000 in
theorem gX0_rightSide_X0_modulo : GoodIn wsX0_rightSide (wsV RX0 80 RX0 yX0_modulo wsX0_modulo) := goodIn_app (goodIn_of _ (by decide +kernel)) ggX0_rightSide_X0_modulo
theorem dX0_rightSide_0 : decode cX0_rightSide 0 = .ok (.aload_n 0, 1) := by decide +kernel
theorem dX0_rightSide_1 : decode cX0_rightSide 1 = .ok (.aload_n 0, 1) := by decide +kernel
theorem dX0_rightSide_2 : decode cX0_rightSide 2 = .ok (.iload_n 1, 1) := by decide +kernel
theorem dX0_rightSide_3 : decode cX0_rightSide 3 = .ok (.iload_n 1, 1) := by decide +kernel
theorem dX0_rightSide_4 : decode cX0_rightSide 4 = .ok (.imul, 1) := by decide +kernel
theorem dX0_rightSide_5 : decode cX0_rightSide 5 = .ok (.aload_n 0, 1) := by decide +kernel
theorem dX0_rightSide_6 : decode cX0_rightSide 6 = .ok (.getfield 35, 3) := by decide +kernel
theorem dX0_rightSide_9 : decode cX0_rightSide 9 = .ok (.iadd, 1) := by decide +kernel
theorem dX0_rightSide_10 : decode cX0_rightSide 10 = .ok (.invokevirtual 80, 3) := by decide +kernel
theorem dX0_rightSide_13 : decode cX0_rightSide 13 = .ok (.iload_n 1, 1) := by decide +kernel
theorem dX0_rightSide_14 : decode cX0_rightSide 14 = .ok (.imul, 1) := by decide +kernel
theorem dX0_rightSide_15 : decode cX0_rightSide 15 = .ok (.aload_n 0, 1) := by decide +kernel
theorem dX0_rightSide_16 : decode cX0_rightSide 16 = .ok (.getfield 38, 3) := by decide +kernel
theorem dX0_rightSide_19 : decode cX0_rightSide 19 = .ok (.iadd, 1) := by decide +kernel
theorem dX0_rightSide_20 : decode cX0_rightSide 20 = .ok (.invokevirtual 80, 3) := by decide +kernel
theorem dX0_rightSide_23 : decode cX0_rightSide 23 = .ok (.ireturn, 1) := by decide +kernel
set_option maxRecDepth 20000 in
theorem ggX0_inverse_X0_modulo : GoodIn wsX0_inverse wsX0_modulo := goodIn_r _ [6, 1, 7, 8, 9, 10, 11, 12, 13, 14, 15, 16, 17] (by decide +kernel) (by decide +kernel)
set_option maxRecDepth 20000 in
theorem gX0_inverse_X0_modulo : GoodIn wsX0_inverse (wsV RX0 80 RX0 yX0_modulo wsX0_modulo) := goodIn_app (goodIn_of _ (by decide +kernel)) ggX0_inverse_X0_modulo
theorem dX0_inverse_0 : decode cX0_inverse 0 = .ok (.iconst 1, 1) := by decide +kernel
theorem dX0_inverse_1 : decode cX0_inverse 1 = .ok (.istore_n 2, 1) := by decide +kernel
theorem dX0_inverse_2 : decode cX0_inverse 2 = .ok (.iload_n 1, 1) := by decide +kernel
theorem dX0_inverse_3 : decode cX0_inverse 3 = .ok (.istore_n 3, 1) := by decide +kernel
theorem dX0_inverse_4 : decode cX0_inverse 4 = .ok (.aload_n 0, 1) := by decide +kernel
theorem dX0_inverse_5 : decode cX0_inverse 5 = .ok (.getfield 31, 3) := by decide +kernel
theorem dX0_inverse_8 : decode cX0_inverse 8 = .ok (.iconst 2, 1) := by decide +kernel
theorem dX0_inverse_9 : decode cX0_inverse 9 = .ok (.isub, 1) := by decide +kernel
theorem dX0_inverse_10 : decode cX0_inverse 10 = .ok (.istore 4, 2) := by decide +kernel
theorem dX0_inverse_12 : decode cX0_inverse 12 = .ok (.iload 4, 2) := by decide +kernel
theorem dX0_inverse_14 : decode cX0_inverse 14 = .ok (.ifCond .le 36, 3) := by decide +kernel
theorem dX0_inverse_17 : decode cX0_inverse 17 = .ok (.iload 4, 2) := by decide +kernel
theorem dX0_inverse_19 : decode cX0_inverse 19 = .ok (.iconst 1, 1) := by decide +kernel
theorem dX0_inverse_20 : decode cX0_inverse 20 = .ok (.iand, 1) := by decide +kernel
theorem dX0_inverse_21 : decode cX0_inverse 21 = .ok (.iconst 1, 1) := by decide +kernel
theorem dX0_inverse_22 : decode cX0_inverse 22 = .ok (.if_icmp .ne 11, 3) := by decide +kernel
theorem dX0_inverse_25 : decode cX0_inverse 25 = .ok (.aload_n 0, 1) := by decide +kernel
theorem dX0_inverse_26 : decode cX0_inverse 26 = .ok (.iload_n 2, 1) := by decide +kernel
theorem dX0_inverse_27 : decode cX0_inverse 27 = .ok (.iload_n 3, 1) := by decide +kernel
theorem dX0_inverse_28 : decode cX0_inverse 28 = .ok (.imul, 1) := by decide +kernel
theorem dX0_inverse_29 : decode cX0_inverse 29 = .ok (.invokevirtual 80, 3) := by decide +kernel
theorem dX0_inverse_32 : decode cX0_inverse 32 = .ok (.istore_n 2, 1) := by decide +kernel
theorem dX0_inverse_33 : decode cX0_inverse 33 = .ok (.aload_n 0, 1) := by decide +kernel
theorem dX0_inverse_34 : decode cX0_inverse 34 = .ok (.iload_n 3, 1) := by decide +kernel
theorem dX0_inverse_35 : decode cX0_inverse 35 = .ok (.iload_n 3, 1) := by decide +kernel
theorem dX0_inverse_36 : decode cX0_inverse 36 = .ok (.imul, 1) := by decide +kernel
theorem dX0_inverse_37 : decode cX0_inverse 37 = .ok (.invokevirtual 80, 3) := by decide +kernel
theorem dX0_inverse_40 : decode cX0_inverse 40 = .ok (.istore_n 3, 1) := by decide +kernel
theorem dX0_inverse_41 : decode cX0_inverse 41 = .ok (.iload 4, 2) := by decide +kernel
theorem dX0_inverse_43 : decode cX0_inverse 43 = .ok (.iconst 1, 1) := by decide +kernel
theorem dX0_inverse_44 : decode cX0_inverse 44 = .ok (.ishr, 1) := by decide +kernel
theorem dX0_inverse_45 : decode cX0_inverse 45 = .ok (.istore 4, 2) := by decide +kernel
theorem dX0_inverse_47 : decode cX0_inverse 47 = .ok (.goto (-35), 3) := by decide +kernel
theorem dX0_inverse_50 : decode cX0_inverse 50 = .ok (.iload_n 2, 1) := by decide +kernel
theorem dX0_inverse_51 : decode cX0_inverse 51 = .ok (.ireturn, 1) := by decide +kernel
set_option maxRecDepth 20000 in
theorem ggX0_opposite_X0_yOf : GoodIn wsX0_opposite wsX0_yOf := goodIn_r _ [5] (by decide +kernel) (by decide +kernel)
set_option maxRecDepth 20000 in
theorem gX0_opposite_X0_yOf : GoodIn wsX0_opposite (va_wsS RX0 101 yX0_yOf wsX0_yOf) := goodIn_app (goodIn_of _ (by decide +kernel)) ggX0_opposite_X0_yOf
set_option maxRecDepth 20000 in
theorem ggX0_opposite_X0_xOf : GoodIn wsX0_opposite wsX0_xOf := goodIn_r _ [8] (by decide +kernel) (by decide +kernel)
set_option maxRecDepth 20000 in
theorem gX0_opposite_X0_xOf : GoodIn wsX0_opposite (va_wsS RX0 98 yX0_xOf wsX0_xOf) := goodIn_app (goodIn_of _ (by decide +kernel)) ggX0_opposite_X0_xOf
set_option maxRecDepth 20000 in
theorem ggX0_opposite_X0_pack : GoodIn wsX0_opposite wsX0_pack := goodIn_r _ [11] (by decide +kernel) (by decide +kernel)
set_option maxRecDepth 20000 in
theorem gX0_opposite_X0_pack : GoodIn wsX0_opposite (va_wsS RX0 60 yX0_pack wsX0_pack) := goodIn_app (goodIn_of _ (by decide +kernel)) ggX0_opposite_X0_pack
theorem dX0_opposite_0 : decode cX0_opposite 0 = .ok (.iload_n 1, 1) := by decide +kernel
theorem dX0_opposite_1 : decode cX0_opposite 1 = .ok (.iconst (-1), 1) := by decide +kernel
theorem dX0_opposite_2 : decode cX0_opposite 2 = .ok (.if_icmp .eq 10, 3) := by decide +kernel
theorem dX0_opposite_5 : decode cX0_opposite 5 = .ok (.iload_n 1, 1) := by decide +kernel
theorem dX0_opposite_6 : decode cX0_opposite 6 = .ok (.invokestatic 101, 3) := by decide +kernel
theorem dX0_opposite_9 : decode cX0_opposite 9 = .ok (.ifCond .ne 5, 3) := by decide +kernel
theorem dX0_opposite_12 : decode cX0_opposite 12 = .ok (.iload_n 1, 1) := by decide +kernel
theorem dX0_opposite_13 : decode cX0_opposite 13 = .ok (.ireturn, 1) := by decide +kernel
theorem dX0_opposite_14 : decode cX0_opposite 14 = .ok (.iload_n 1, 1) := by decide +kernel
theorem dX0_opposite_15 : decode cX0_opposite 15 = .ok (.invokestatic 98, 3) := by decide +kernel
theorem dX0_opposite_18 : decode cX0_opposite 18 = .ok (.aload_n 0, 1) := by decide +kernel
theorem dX0_opposite_19 : decode cX0_opposite 19 = .ok (.getfield 31, 3) := by decide +kernel
theorem dX0_opposite_22 : decode cX0_opposite 22 = .ok (.iload_n 1, 1) := by decide +kernel
theorem dX0_opposite_23 : decode cX0_opposite 23 = .ok (.invokestatic 101, 3) := by decide +kernel
theorem dX0_opposite_26 : decode cX0_opposite 26 = .ok (.isub, 1) := by decide +kernel
theorem dX0_opposite_27 : decode cX0_opposite 27 = .ok (.invokestatic 60, 3) := by decide +kernel
theorem dX0_opposite_30 : decode cX0_opposite 30 = .ok (.ireturn, 1) := by decide +kernel
set_option maxRecDepth 20000 in
theorem ggX0_sum_X0_opposite : GoodIn wsX0_sum wsX0_opposite := goodIn_r _ [5, 6, 7, 8, 4, 9, 10, 11, 12, 13, 14, 15, 33, 34, 35, 36, 37, 38, 39] (by decide +kernel) (by decide +kernel)
set_option maxRecDepth 20000 in
theorem gX0_sum_X0_opposite : GoodIn wsX0_sum (wsV RX0 69 RX0 yX0_opposite wsX0_opposite) := goodIn_app (goodIn_of _ (by decide +kernel)) ggX0_sum_X0_opposite
set_option maxRecDepth 20000 in
theorem ggX0_sum_X0_slope : GoodIn wsX0_sum wsX0_slope := goodIn_r _ [19, 20, 10, 11, 4, 12, 7, 8, 9, 21, 22, 23, 24, 6, 25, 26, 27, 28, 29, 30, 31, 32, 33, 34, 35, 36, 37, 38, 39] (by decide +kernel) (by decide +kernel)
set_option maxRecDepth 20000 in
theorem gX0_sum_X0_slope : GoodIn wsX0_sum (wsV RX0 104 RX0 yX0_slope wsX0_slope) := goodIn_app (goodIn_of _ (by decide +kernel)) ggX0_sum_X0_slope
set_option maxRecDepth 20000 in
theorem ggX0_sum_X0_xOf : GoodIn wsX0_sum wsX0_xOf := goodIn_r _ [12] (by decide +kernel) (by decide +kernel)
set_option maxRecDepth 20000 in
theorem gX0_sum_X0_xOf : GoodIn wsX0_sum (va_wsS RX0 98 yX0_xOf wsX0_xOf) := goodIn_app (goodIn_of _ (by decide +kernel)) ggX0_sum_X0_xOf
set_option maxRecDepth 20000 in
theorem ggX0_sum_X0_modulo : GoodIn wsX0_sum wsX0_modulo := goodIn_r _ [24, 6, 25, 26, 27, 28, 33, 34, 35, 36, 37, 38, 39] (by decide +kernel) (by decide +kernel)
set_option maxRecDepth 20000 in
theorem gX0_sum_X0_modulo : GoodIn wsX0_sum (wsV RX0 80 RX0 yX0_modulo wsX0_modulo) := goodIn_app (goodIn_of _ (by decide +kernel)) ggX0_sum_X0_modulo
set_option maxRecDepth 20000 in
theorem ggX0_sum_X0_yOf : GoodIn wsX0_sum wsX0_yOf := goodIn_r _ [9] (by decide +kernel) (by decide +kernel)
set_option maxRecDepth 20000 in
theorem gX0_sum_X0_yOf : GoodIn wsX0_sum (va_wsS RX0 101 yX0_yOf wsX0_yOf) := goodIn_app (goodIn_of _ (by decide +kernel)) ggX0_sum_X0_yOf
set_option maxRecDepth 20000 in
theorem ggX0_sum_X0_pack : GoodIn wsX0_sum wsX0_pack := goodIn_r _ [15] (by decide +kernel) (by decide +kernel)
set_option maxRecDepth 20000 in
theorem gX0_sum_X0_pack : GoodIn wsX0_sum (va_wsS RX0 60 yX0_pack wsX0_pack) := goodIn_app (goodIn_of _ (by decide +kernel)) ggX0_sum_X0_pack
theorem dX0_sum_0 : decode cX0_sum 0 = .ok (.iload_n 1, 1) := by decide +kernel
theorem dX0_sum_1 : decode cX0_sum 1 = .ok (.iconst (-1), 1) := by decide +kernel
theorem dX0_sum_2 : decode cX0_sum 2 = .ok (.if_icmp .ne 5, 3) := by decide +kernel
theorem dX0_sum_5 : decode cX0_sum 5 = .ok (.iload_n 2, 1) := by decide +kernel
theorem dX0_sum_6 : decode cX0_sum 6 = .ok (.ireturn, 1) := by decide +kernel
theorem dX0_sum_7 : decode cX0_sum 7 = .ok (.iload_n 2, 1) := by decide +kernel
theorem dX0_sum_8 : decode cX0_sum 8 = .ok (.iconst (-1), 1) := by decide +kernel
theorem dX0_sum_9 : decode cX0_sum 9 = .ok (.if_icmp .ne 5, 3) := by decide +kernel
theorem dX0_sum_12 : decode cX0_sum 12 = .ok (.iload_n 1, 1) := by decide +kernel
theorem dX0_sum_13 : decode cX0_sum 13 = .ok (.ireturn, 1) := by decide +kernel
theorem dX0_sum_14 : decode cX0_sum 14 = .ok (.iload_n 2, 1) := by decide +kernel
theorem dX0_sum_15 : decode cX0_sum 15 = .ok (.aload_n 0, 1) := by decide +kernel
theorem dX0_sum_16 : decode cX0_sum 16 = .ok (.iload_n 1, 1) := by decide +kernel
theorem dX0_sum_17 : decode cX0_sum 17 = .ok (.invokevirtual 69, 3) := by decide +kernel
theorem dX0_sum_20 : decode cX0_sum 20 = .ok (.if_icmp .ne 5, 3) := by decide +kernel
theorem dX0_sum_23 : decode cX0_sum 23 = .ok (.iconst (-1), 1) := by decide +kernel
theorem dX0_sum_24 : decode cX0_sum 24 = .ok (.ireturn, 1) := by decide +kernel
theorem dX0_sum_25 : decode cX0_sum 25 = .ok (.aload_n 0, 1) := by decide +kernel
theorem dX0_sum_26 : decode cX0_sum 26 = .ok (.iload_n 1, 1) := by decide +kernel
theorem dX0_sum_27 : decode cX0_sum 27 = .ok (.iload_n 2, 1) := by decide +kernel
theorem dX0_sum_28 : decode cX0_sum 28 = .ok (.invokevirtual 104, 3) := by decide +kernel
theorem dX0_sum_31 : decode cX0_sum 31 = .ok (.istore_n 3, 1) := by decide +kernel
theorem dX0_sum_32 : decode cX0_sum 32 = .ok (.aload_n 0, 1) := by decide +kernel
theorem dX0_sum_33 : decode cX0_sum 33 = .ok (.iload_n 3, 1) := by decide +kernel
theorem dX0_sum_34 : decode cX0_sum 34 = .ok (.iload_n 3, 1) := by decide +kernel
theorem dX0_sum_35 : decode cX0_sum 35 = .ok (.imul, 1) := by decide +kernel
theorem dX0_sum_36 : decode cX0_sum 36 = .ok (.iload_n 1, 1) := by decide +kernel
theorem dX0_sum_37 : decode cX0_sum 37 = .ok (.invokestatic 98, 3) := by decide +kernel
theorem dX0_sum_40 : decode cX0_sum 40 = .ok (.isub, 1) := by decide +kernel
theorem dX0_sum_41 : decode cX0_sum 41 = .ok (.iload_n 2, 1) := by decide +kernel
theorem dX0_sum_42 : decode cX0_sum 42 = .ok (.invokestatic 98, 3) := by decide +kernel
theorem dX0_sum_45 : decode cX0_sum 45 = .ok (.isub, 1) := by decide +kernel
theorem dX0_sum_46 : decode cX0_sum 46 = .ok (.invokevirtual 80, 3) := by decide +kernel
theorem dX0_sum_49 : decode cX0_sum 49 = .ok (.istore 4, 2) := by decide +kernel
theorem dX0_sum_51 : decode cX0_sum 51 = .ok (.aload_n 0, 1) := by decide +kernel
theorem dX0_sum_52 : decode cX0_sum 52 = .ok (.iload_n 3, 1) := by decide +kernel
theorem dX0_sum_53 : decode cX0_sum 53 = .ok (.aload_n 0, 1) := by decide +kernel
theorem dX0_sum_54 : decode cX0_sum 54 = .ok (.iload_n 1, 1) := by decide +kernel
theorem dX0_sum_55 : decode cX0_sum 55 = .ok (.invokestatic 98, 3) := by decide +kernel
theorem dX0_sum_58 : decode cX0_sum 58 = .ok (.iload 4, 2) := by decide +kernel
theorem dX0_sum_60 : decode cX0_sum 60 = .ok (.isub, 1) := by decide +kernel
theorem dX0_sum_61 : decode cX0_sum 61 = .ok (.invokevirtual 80, 3) := by decide +kernel
theorem dX0_sum_64 : decode cX0_sum 64 = .ok (.imul, 1) := by decide +kernel
theorem dX0_sum_65 : decode cX0_sum 65 = .ok (.iload_n 1, 1) := by decide +kernel
theorem dX0_sum_66 : decode cX0_sum 66 = .ok (.invokestatic 101, 3) := by decide +kernel
theorem dX0_sum_69 : decode cX0_sum 69 = .ok (.isub, 1) := by decide +kernel
theorem dX0_sum_70 : decode cX0_sum 70 = .ok (.invokevirtual 80, 3) := by decide +kernel
theorem dX0_sum_73 : decode cX0_sum 73 = .ok (.istore 5, 2) := by decide +kernel
theorem dX0_sum_75 : decode cX0_sum 75 = .ok (.iload 4, 2) := by decide +kernel
theorem dX0_sum_77 : decode cX0_sum 77 = .ok (.iload 5, 2) := by decide +kernel
theorem dX0_sum_79 : decode cX0_sum 79 = .ok (.invokestatic 60, 3) := by decide +kernel
theorem dX0_sum_82 : decode cX0_sum 82 = .ok (.ireturn, 1) := by decide +kernel
set_option maxRecDepth 20000 in
theorem ggX0_slope_X0_xOf : GoodIn wsX0_slope wsX0_xOf := goodIn_r _ [5] (by decide +kernel) (by decide +kernel)
set_option maxRecDepth 20000 in
theorem gX0_slope_X0_xOf : GoodIn wsX0_slope (va_wsS RX0 98 yX0_xOf wsX0_xOf) := goodIn_app (goodIn_of _ (by decide +kernel)) ggX0_slope_X0_xOf
set_option maxRecDepth 20000 in
theorem ggX0_slope_X0_yOf : GoodIn wsX0_slope wsX0_yOf := goodIn_r _ [8] (by decide +kernel) (by decide +kernel)
set_option maxRecDepth 20000 in
theorem gX0_slope_X0_yOf : GoodIn wsX0_slope (va_wsS RX0 101 yX0_yOf wsX0_yOf) := goodIn_app (goodIn_of _ (by decide +kernel)) ggX0_slope_X0_yOf
set_option maxRecDepth 20000 in
theorem ggX0_slope_X0_modulo : GoodIn wsX0_slope wsX0_modulo := goodIn_r _ [12, 13, 14, 15, 16, 17, 22, 23, 24, 25, 26, 27, 28] (by decide +kernel) (by decide +kernel)
set_option maxRecDepth 20000 in
theorem gX0_slope_X0_modulo : GoodIn wsX0_slope (wsV RX0 80 RX0 yX0_modulo wsX0_modulo) := goodIn_app (goodIn_of _ (by decide +kernel)) ggX0_slope_X0_modulo
set_option maxRecDepth 20000 in
theorem ggX0_slope_X0_inverse : GoodIn wsX0_slope wsX0_inverse := goodIn_r _ [21, 13, 9, 10, 11, 4, 12, 14, 15, 16, 17, 22, 23, 24, 25, 26, 27, 28] (by decide +kernel) (by decide +kernel)
set_option maxRecDepth 20000 in
theorem gX0_slope_X0_inverse : GoodIn wsX0_slope (wsV RX0 107 RX0 yX0_inverse wsX0_inverse) := goodIn_app (goodIn_of _ (by decide +kernel)) ggX0_slope_X0_inverse
theorem dX0_slope_0 : decode cX0_slope 0 = .ok (.iload_n 1, 1) := by decide +kernel
theorem dX0_slope_1 : decode cX0_slope 1 = .ok (.invokestatic 98, 3) := by decide +kernel
theorem dX0_slope_4 : decode cX0_slope 4 = .ok (.istore_n 3, 1) := by decide +kernel
theorem dX0_slope_5 : decode cX0_slope 5 = .ok (.iload_n 1, 1) := by decide +kernel
theorem dX0_slope_6 : decode cX0_slope 6 = .ok (.invokestatic 101, 3) := by decide +kernel
theorem dX0_slope_9 : decode cX0_slope 9 = .ok (.istore 4, 2) := by decide +kernel
theorem dX0_slope_11 : decode cX0_slope 11 = .ok (.iload_n 1, 1) := by decide +kernel
theorem dX0_slope_12 : decode cX0_slope 12 = .ok (.iload_n 2, 1) := by decide +kernel
theorem dX0_slope_13 : decode cX0_slope 13 = .ok (.if_icmp .ne 35, 3) := by decide +kernel
theorem dX0_slope_16 : decode cX0_slope 16 = .ok (.aload_n 0, 1) := by decide +kernel
theorem dX0_slope_17 : decode cX0_slope 17 = .ok (.aload_n 0, 1) := by decide +kernel
theorem dX0_slope_18 : decode cX0_slope 18 = .ok (.iconst 3, 1) := by decide +kernel
theorem dX0_slope_19 : decode cX0_slope 19 = .ok (.iload_n 3, 1) := by decide +kernel
theorem dX0_slope_20 : decode cX0_slope 20 = .ok (.imul, 1) := by decide +kernel
theorem dX0_slope_21 : decode cX0_slope 21 = .ok (.iload_n 3, 1) := by decide +kernel
theorem dX0_slope_22 : decode cX0_slope 22 = .ok (.imul, 1) := by decide +kernel
theorem dX0_slope_23 : decode cX0_slope 23 = .ok (.aload_n 0, 1) := by decide +kernel
theorem dX0_slope_24 : decode cX0_slope 24 = .ok (.getfield 35, 3) := by decide +kernel
theorem dX0_slope_27 : decode cX0_slope 27 = .ok (.iadd, 1) := by decide +kernel
theorem dX0_slope_28 : decode cX0_slope 28 = .ok (.invokevirtual 80, 3) := by decide +kernel
theorem dX0_slope_31 : decode cX0_slope 31 = .ok (.aload_n 0, 1) := by decide +kernel
theorem dX0_slope_32 : decode cX0_slope 32 = .ok (.aload_n 0, 1) := by decide +kernel
theorem dX0_slope_33 : decode cX0_slope 33 = .ok (.iconst 2, 1) := by decide +kernel
theorem dX0_slope_34 : decode cX0_slope 34 = .ok (.iload 4, 2) := by decide +kernel
theorem dX0_slope_36 : decode cX0_slope 36 = .ok (.imul, 1) := by decide +kernel
theorem dX0_slope_37 : decode cX0_slope 37 = .ok (.invokevirtual 80, 3) := by decide +kernel
theorem dX0_slope_40 : decode cX0_slope 40 = .ok (.invokevirtual 107, 3) := by decide +kernel
theorem dX0_slope_43 : decode cX0_slope 43 = .ok (.imul, 1) := by decide +kernel
theorem dX0_slope_44 : decode cX0_slope 44 = .ok (.invokevirtual 80, 3) := by decide +kernel
theorem dX0_slope_47 : decode cX0_slope 47 = .ok (.ireturn, 1) := by decide +kernel
theorem dX0_slope_48 : decode cX0_slope 48 = .ok (.aload_n 0, 1) := by decide +kernel
theorem dX0_slope_49 : decode cX0_slope 49 = .ok (.aload_n 0, 1) := by decide +kernel
theorem dX0_slope_50 : decode cX0_slope 50 = .ok (.iload_n 2, 1) := by decide +kernel
theorem dX0_slope_51 : decode cX0_slope 51 = .ok (.invokestatic 101, 3) := by decide +kernel
theorem dX0_slope_54 : decode cX0_slope 54 = .ok (.iload 4, 2) := by decide +kernel
theorem dX0_slope_56 : decode cX0_slope 56 = .ok (.isub, 1) := by decide +kernel
theorem dX0_slope_57 : decode cX0_slope 57 = .ok (.invokevirtual 80, 3) := by decide +kernel
theorem dX0_slope_60 : decode cX0_slope 60 = .ok (.aload_n 0, 1) := by decide +kernel
theorem dX0_slope_61 : decode cX0_slope 61 = .ok (.aload_n 0, 1) := by decide +kernel
theorem dX0_slope_62 : decode cX0_slope 62 = .ok (.iload_n 2, 1) := by decide +kernel
theorem dX0_slope_63 : decode cX0_slope 63 = .ok (.invokestatic 98, 3) := by decide +kernel
theorem dX0_slope_66 : decode cX0_slope 66 = .ok (.iload_n 3, 1) := by decide +kernel
theorem dX0_slope_67 : decode cX0_slope 67 = .ok (.isub, 1) := by decide +kernel
theorem dX0_slope_68 : decode cX0_slope 68 = .ok (.invokevirtual 80, 3) := by decide +kernel
theorem dX0_slope_71 : decode cX0_slope 71 = .ok (.invokevirtual 107, 3) := by decide +kernel
theorem dX0_slope_74 : decode cX0_slope 74 = .ok (.imul, 1) := by decide +kernel
theorem dX0_slope_75 : decode cX0_slope 75 = .ok (.invokevirtual 80, 3) := by decide +kernel
theorem dX0_slope_78 : decode cX0_slope 78 = .ok (.ireturn, 1) := by decide +kernel
set_option maxRecDepth 20000 in
theorem ggX0_multiple_X0_sum : GoodIn wsX0_multiple wsX0_sum := goodIn_r _ [5, 6, 7, 8, 4, 9, 10, 11, 12, 13, 14, 15, 16, 17, 18, 19, 20, 21, 22, 23, 24, 25, 26, 27, 28, 29, 30, 31, 32, 33, 34, 35, 36, 37, 38, 39, 40, 41, 42, 43] (by decide +kernel) (by decide +kernel)
set_option maxRecDepth 20000 in
theorem gX0_multiple_X0_sum : GoodIn wsX0_multiple (wsV RX0 66 RX0 yX0_sum wsX0_sum) := goodIn_app (goodIn_of _ (by decide +kernel)) ggX0_multiple_X0_sum
theorem dX0_multiple_0 : decode cX0_multiple 0 = .ok (.iconst (-1), 1) := by decide +kernel
theorem dX0_multiple_1 : decode cX0_multiple 1 = .ok (.istore 4, 2) := by decide +kernel
theorem dX0_multiple_3 : decode cX0_multiple 3 = .ok (.iload_n 3, 1) := by decide +kernel
theorem dX0_multiple_4 : decode cX0_multiple 4 = .ok (.istore 5, 2) := by decide +kernel
theorem dX0_multiple_6 : decode cX0_multiple 6 = .ok (.lload_n 1, 1) := by decide +kernel
theorem dX0_multiple_7 : decode cX0_multiple 7 = .ok (.lstore 6, 2) := by decide +kernel
theorem dX0_multiple_9 : decode cX0_multiple 9 = .ok (.lload 6, 2) := by decide +kernel
theorem dX0_multiple_11 : decode cX0_multiple 11 = .ok (.lconst 0, 1) := by decide +kernel
theorem dX0_multiple_12 : decode cX0_multiple 12 = .ok (.lcmp, 1) := by decide +kernel
theorem dX0_multiple_13 : decode cX0_multiple 13 = .ok (.ifCond .le 41, 3) := by decide +kernel
theorem dX0_multiple_16 : decode cX0_multiple 16 = .ok (.lload 6, 2) := by decide +kernel
theorem dX0_multiple_18 : decode cX0_multiple 18 = .ok (.lconst 1, 1) := by decide +kernel
theorem dX0_multiple_19 : decode cX0_multiple 19 = .ok (.land, 1) := by decide +kernel
theorem dX0_multiple_20 : decode cX0_multiple 20 = .ok (.lconst 1, 1) := by decide +kernel
theorem dX0_multiple_21 : decode cX0_multiple 21 = .ok (.lcmp, 1) := by decide +kernel
theorem dX0_multiple_22 : decode cX0_multiple 22 = .ok (.ifCond .ne 13, 3) := by decide +kernel
theorem dX0_multiple_25 : decode cX0_multiple 25 = .ok (.aload_n 0, 1) := by decide +kernel
theorem dX0_multiple_26 : decode cX0_multiple 26 = .ok (.iload 4, 2) := by decide +kernel
theorem dX0_multiple_28 : decode cX0_multiple 28 = .ok (.iload 5, 2) := by decide +kernel
theorem dX0_multiple_30 : decode cX0_multiple 30 = .ok (.invokevirtual 66, 3) := by decide +kernel
theorem dX0_multiple_33 : decode cX0_multiple 33 = .ok (.istore 4, 2) := by decide +kernel
theorem dX0_multiple_35 : decode cX0_multiple 35 = .ok (.aload_n 0, 1) := by decide +kernel
theorem dX0_multiple_36 : decode cX0_multiple 36 = .ok (.iload 5, 2) := by decide +kernel
theorem dX0_multiple_38 : decode cX0_multiple 38 = .ok (.iload 5, 2) := by decide +kernel
theorem dX0_multiple_40 : decode cX0_multiple 40 = .ok (.invokevirtual 66, 3) := by decide +kernel
theorem dX0_multiple_43 : decode cX0_multiple 43 = .ok (.istore 5, 2) := by decide +kernel
theorem dX0_multiple_45 : decode cX0_multiple 45 = .ok (.lload 6, 2) := by decide +kernel
theorem dX0_multiple_47 : decode cX0_multiple 47 = .ok (.iconst 1, 1) := by decide +kernel
theorem dX0_multiple_48 : decode cX0_multiple 48 = .ok (.lshr, 1) := by decide +kernel
theorem dX0_multiple_49 : decode cX0_multiple 49 = .ok (.lstore 6, 2) := by decide +kernel
theorem dX0_multiple_51 : decode cX0_multiple 51 = .ok (.goto (-42), 3) := by decide +kernel
theorem dX0_multiple_54 : decode cX0_multiple 54 = .ok (.iload 4, 2) := by decide +kernel
theorem dX0_multiple_56 : decode cX0_multiple 56 = .ok (.ireturn, 1) := by decide +kernel
set_option maxRecDepth 20000 in
theorem ggX0_fillFirstDivisionValues_X0_thirdDivisionValue : GoodIn wsX0_fillFirstDivisionValues wsX0_thirdDivisionValue := goodIn_r _ [6, 7, 8, 9, 10, 11, 5, 12, 13, 14, 15, 16, 17, 22, 23, 24, 25, 26, 27, 28] (by decide +kernel) (by decide +kernel)
set_option maxRecDepth 20000 in
theorem gX0_fillFirstDivisionValues_X0_thirdDivisionValue : GoodIn wsX0_fillFirstDivisionValues (wsV RX0 110 RX0 yX0_thirdDivisionValue wsX0_thirdDivisionValue) := goodIn_app (goodIn_of _ (by decide +kernel)) ggX0_fillFirstDivisionValues_X0_thirdDivisionValue
set_option maxRecDepth 20000 in
theorem ggX0_fillFirstDivisionValues_X0_fourthDivisionValue : GoodIn wsX0_fillFirstDivisionValues wsX0_fourthDivisionValue := goodIn_r _ [21, 7, 8, 9, 10, 11, 5, 12, 13, 14, 15, 16, 17, 22, 23, 24, 25, 26, 27, 28] (by decide +kernel) (by decide +kernel)
set_option maxRecDepth 20000 in
theorem gX0_fillFirstDivisionValues_X0_fourthDivisionValue : GoodIn wsX0_fillFirstDivisionValues (wsV RX0 113 RX0 yX0_fourthDivisionValue wsX0_fourthDivisionValue) := goodIn_app (goodIn_of _ (by decide +kernel)) ggX0_fillFirstDivisionValues_X0_fourthDivisionValue
theorem dX0_fillFirstDivisionValues_0 : decode cX0_fillFirstDivisionValues 0 = .ok (.aload_n 0, 1) := by decide +kernel
theorem dX0_fillFirstDivisionValues_1 : decode cX0_fillFirstDivisionValues 1 = .ok (.getfield 16, 3) := by decide +kernel
theorem dX0_fillFirstDivisionValues_4 : decode cX0_fillFirstDivisionValues 4 = .ok (.iconst 0, 1) := by decide +kernel
theorem dX0_fillFirstDivisionValues_5 : decode cX0_fillFirstDivisionValues 5 = .ok (.iconst 0, 1) := by decide +kernel
theorem dX0_fillFirstDivisionValues_6 : decode cX0_fillFirstDivisionValues 6 = .ok (.iastore, 1) := by decide +kernel
theorem dX0_fillFirstDivisionValues_7 : decode cX0_fillFirstDivisionValues 7 = .ok (.aload_n 0, 1) := by decide +kernel
theorem dX0_fillFirstDivisionValues_8 : decode cX0_fillFirstDivisionValues 8 = .ok (.getfield 16, 3) := by decide +kernel
theorem dX0_fillFirstDivisionValues_11 : decode cX0_fillFirstDivisionValues 11 = .ok (.iconst 1, 1) := by decide +kernel
theorem dX0_fillFirstDivisionValues_12 : decode cX0_fillFirstDivisionValues 12 = .ok (.iconst 1, 1) := by decide +kernel
theorem dX0_fillFirstDivisionValues_13 : decode cX0_fillFirstDivisionValues 13 = .ok (.iastore, 1) := by decide +kernel
theorem dX0_fillFirstDivisionValues_14 : decode cX0_fillFirstDivisionValues 14 = .ok (.aload_n 0, 1) := by decide +kernel
theorem dX0_fillFirstDivisionValues_15 : decode cX0_fillFirstDivisionValues 15 = .ok (.getfield 16, 3) := by decide +kernel
theorem dX0_fillFirstDivisionValues_18 : decode cX0_fillFirstDivisionValues 18 = .ok (.iconst 2, 1) := by decide +kernel
theorem dX0_fillFirstDivisionValues_19 : decode cX0_fillFirstDivisionValues 19 = .ok (.iconst 1, 1) := by decide +kernel
theorem dX0_fillFirstDivisionValues_20 : decode cX0_fillFirstDivisionValues 20 = .ok (.iastore, 1) := by decide +kernel
theorem dX0_fillFirstDivisionValues_21 : decode cX0_fillFirstDivisionValues 21 = .ok (.aload_n 0, 1) := by decide +kernel
theorem dX0_fillFirstDivisionValues_22 : decode cX0_fillFirstDivisionValues 22 = .ok (.getfield 16, 3) := by decide +kernel
theorem dX0_fillFirstDivisionValues_25 : decode cX0_fillFirstDivisionValues 25 = .ok (.iconst 3, 1) := by decide +kernel
theorem dX0_fillFirstDivisionValues_26 : decode cX0_fillFirstDivisionValues 26 = .ok (.aload_n 0, 1) := by decide +kernel
theorem dX0_fillFirstDivisionValues_27 : decode cX0_fillFirstDivisionValues 27 = .ok (.iload_n 1, 1) := by decide +kernel
theorem dX0_fillFirstDivisionValues_28 : decode cX0_fillFirstDivisionValues 28 = .ok (.invokevirtual 110, 3) := by decide +kernel
theorem dX0_fillFirstDivisionValues_31 : decode cX0_fillFirstDivisionValues 31 = .ok (.iastore, 1) := by decide +kernel
theorem dX0_fillFirstDivisionValues_32 : decode cX0_fillFirstDivisionValues 32 = .ok (.aload_n 0, 1) := by decide +kernel
theorem dX0_fillFirstDivisionValues_33 : decode cX0_fillFirstDivisionValues 33 = .ok (.getfield 16, 3) := by decide +kernel
theorem dX0_fillFirstDivisionValues_36 : decode cX0_fillFirstDivisionValues 36 = .ok (.iconst 4, 1) := by decide +kernel
theorem dX0_fillFirstDivisionValues_37 : decode cX0_fillFirstDivisionValues 37 = .ok (.aload_n 0, 1) := by decide +kernel
theorem dX0_fillFirstDivisionValues_38 : decode cX0_fillFirstDivisionValues 38 = .ok (.iload_n 1, 1) := by decide +kernel
theorem dX0_fillFirstDivisionValues_39 : decode cX0_fillFirstDivisionValues 39 = .ok (.invokevirtual 113, 3) := by decide +kernel
theorem dX0_fillFirstDivisionValues_42 : decode cX0_fillFirstDivisionValues 42 = .ok (.iastore, 1) := by decide +kernel
theorem dX0_fillFirstDivisionValues_43 : decode cX0_fillFirstDivisionValues 43 = .ok (.return_, 1) := by decide +kernel
set_option maxRecDepth 20000 in
theorem ggX0_thirdDivisionValue_X0_modulo : GoodIn wsX0_thirdDivisionValue wsX0_modulo := goodIn_r _ [7, 8, 9, 10, 11, 12, 13, 14, 15, 16, 17, 18, 19] (by decide +kernel) (by decide +kernel)
set_option maxRecDepth 20000 in
theorem gX0_thirdDivisionValue_X0_modulo : GoodIn wsX0_thirdDivisionValue (wsV RX0 80 RX0 yX0_modulo wsX0_modulo) := goodIn_app (goodIn_of _ (by decide +kernel)) ggX0_thirdDivisionValue_X0_modulo
theorem dX0_thirdDivisionValue_0 : decode cX0_thirdDivisionValue 0 = .ok (.aload_n 0, 1) := by decide +kernel
theorem dX0_thirdDivisionValue_1 : decode cX0_thirdDivisionValue 1 = .ok (.iconst 3, 1) := by decide +kernel
theorem dX0_thirdDivisionValue_2 : decode cX0_thirdDivisionValue 2 = .ok (.iload_n 1, 1) := by decide +kernel
theorem dX0_thirdDivisionValue_3 : decode cX0_thirdDivisionValue 3 = .ok (.imul, 1) := by decide +kernel
theorem dX0_thirdDivisionValue_4 : decode cX0_thirdDivisionValue 4 = .ok (.iload_n 1, 1) := by decide +kernel
theorem dX0_thirdDivisionValue_5 : decode cX0_thirdDivisionValue 5 = .ok (.imul, 1) := by decide +kernel
theorem dX0_thirdDivisionValue_6 : decode cX0_thirdDivisionValue 6 = .ok (.bipush 6, 2) := by decide +kernel
theorem dX0_thirdDivisionValue_8 : decode cX0_thirdDivisionValue 8 = .ok (.aload_n 0, 1) := by decide +kernel
theorem dX0_thirdDivisionValue_9 : decode cX0_thirdDivisionValue 9 = .ok (.getfield 35, 3) := by decide +kernel
theorem dX0_thirdDivisionValue_12 : decode cX0_thirdDivisionValue 12 = .ok (.imul, 1) := by decide +kernel
theorem dX0_thirdDivisionValue_13 : decode cX0_thirdDivisionValue 13 = .ok (.iadd, 1) := by decide +kernel
theorem dX0_thirdDivisionValue_14 : decode cX0_thirdDivisionValue 14 = .ok (.invokevirtual 80, 3) := by decide +kernel
theorem dX0_thirdDivisionValue_17 : decode cX0_thirdDivisionValue 17 = .ok (.istore_n 2, 1) := by decide +kernel
theorem dX0_thirdDivisionValue_18 : decode cX0_thirdDivisionValue 18 = .ok (.aload_n 0, 1) := by decide +kernel
theorem dX0_thirdDivisionValue_19 : decode cX0_thirdDivisionValue 19 = .ok (.iload_n 2, 1) := by decide +kernel
theorem dX0_thirdDivisionValue_20 : decode cX0_thirdDivisionValue 20 = .ok (.iload_n 1, 1) := by decide +kernel
theorem dX0_thirdDivisionValue_21 : decode cX0_thirdDivisionValue 21 = .ok (.imul, 1) := by decide +kernel
theorem dX0_thirdDivisionValue_22 : decode cX0_thirdDivisionValue 22 = .ok (.bipush 12, 2) := by decide +kernel
theorem dX0_thirdDivisionValue_24 : decode cX0_thirdDivisionValue 24 = .ok (.aload_n 0, 1) := by decide +kernel
theorem dX0_thirdDivisionValue_25 : decode cX0_thirdDivisionValue 25 = .ok (.getfield 38, 3) := by decide +kernel
theorem dX0_thirdDivisionValue_28 : decode cX0_thirdDivisionValue 28 = .ok (.imul, 1) := by decide +kernel
theorem dX0_thirdDivisionValue_29 : decode cX0_thirdDivisionValue 29 = .ok (.iadd, 1) := by decide +kernel
theorem dX0_thirdDivisionValue_30 : decode cX0_thirdDivisionValue 30 = .ok (.invokevirtual 80, 3) := by decide +kernel
theorem dX0_thirdDivisionValue_33 : decode cX0_thirdDivisionValue 33 = .ok (.istore_n 2, 1) := by decide +kernel
theorem dX0_thirdDivisionValue_34 : decode cX0_thirdDivisionValue 34 = .ok (.aload_n 0, 1) := by decide +kernel
theorem dX0_thirdDivisionValue_35 : decode cX0_thirdDivisionValue 35 = .ok (.iload_n 2, 1) := by decide +kernel
theorem dX0_thirdDivisionValue_36 : decode cX0_thirdDivisionValue 36 = .ok (.iload_n 1, 1) := by decide +kernel
theorem dX0_thirdDivisionValue_37 : decode cX0_thirdDivisionValue 37 = .ok (.imul, 1) := by decide +kernel
theorem dX0_thirdDivisionValue_38 : decode cX0_thirdDivisionValue 38 = .ok (.aload_n 0, 1) := by decide +kernel
theorem dX0_thirdDivisionValue_39 : decode cX0_thirdDivisionValue 39 = .ok (.getfield 35, 3) := by decide +kernel
theorem dX0_thirdDivisionValue_42 : decode cX0_thirdDivisionValue 42 = .ok (.aload_n 0, 1) := by decide +kernel
theorem dX0_thirdDivisionValue_43 : decode cX0_thirdDivisionValue 43 = .ok (.getfield 35, 3) := by decide +kernel
theorem dX0_thirdDivisionValue_46 : decode cX0_thirdDivisionValue 46 = .ok (.imul, 1) := by decide +kernel
theorem dX0_thirdDivisionValue_47 : decode cX0_thirdDivisionValue 47 = .ok (.isub, 1) := by decide +kernel
theorem dX0_thirdDivisionValue_48 : decode cX0_thirdDivisionValue 48 = .ok (.invokevirtual 80, 3) := by decide +kernel
theorem dX0_thirdDivisionValue_51 : decode cX0_thirdDivisionValue 51 = .ok (.ireturn, 1) := by decide +kernel
set_option maxRecDepth 20000 in
theorem ggX0_fourthDivisionValue_X0_modulo : GoodIn wsX0_fourthDivisionValue wsX0_modulo := goodIn_r _ [7, 8, 9, 10, 11, 12, 13, 14, 15, 16, 17, 18, 19] (by decide +kernel) (by decide +kernel)
set_option maxRecDepth 20000 in
theorem gX0_fourthDivisionValue_X0_modulo : GoodIn wsX0_fourthDivisionValue (wsV RX0 80 RX0 yX0_modulo wsX0_modulo) := goodIn_app (goodIn_of _ (by decide +kernel)) ggX0_fourthDivisionValue_X0_modulo
theorem dX0_fourthDivisionValue_0 : decode cX0_fourthDivisionValue 0 = .ok (.aload_n 0, 1) := by decide +kernel
theorem dX0_fourthDivisionValue_1 : decode cX0_fourthDivisionValue 1 = .ok (.iload_n 1, 1) := by decide +kernel
theorem dX0_fourthDivisionValue_2 : decode cX0_fourthDivisionValue 2 = .ok (.iload_n 1, 1) := by decide +kernel
theorem dX0_fourthDivisionValue_3 : decode cX0_fourthDivisionValue 3 = .ok (.imul, 1) := by decide +kernel
theorem dX0_fourthDivisionValue_4 : decode cX0_fourthDivisionValue 4 = .ok (.iconst 5, 1) := by decide +kernel
theorem dX0_fourthDivisionValue_5 : decode cX0_fourthDivisionValue 5 = .ok (.aload_n 0, 1) := by decide +kernel
theorem dX0_fourthDivisionValue_6 : decode cX0_fourthDivisionValue 6 = .ok (.getfield 35, 3) := by decide +kernel
theorem dX0_fourthDivisionValue_9 : decode cX0_fourthDivisionValue 9 = .ok (.imul, 1) := by decide +kernel
theorem dX0_fourthDivisionValue_10 : decode cX0_fourthDivisionValue 10 = .ok (.iadd, 1) := by decide +kernel
theorem dX0_fourthDivisionValue_11 : decode cX0_fourthDivisionValue 11 = .ok (.invokevirtual 80, 3) := by decide +kernel
theorem dX0_fourthDivisionValue_14 : decode cX0_fourthDivisionValue 14 = .ok (.istore_n 2, 1) := by decide +kernel
theorem dX0_fourthDivisionValue_15 : decode cX0_fourthDivisionValue 15 = .ok (.aload_n 0, 1) := by decide +kernel
theorem dX0_fourthDivisionValue_16 : decode cX0_fourthDivisionValue 16 = .ok (.iload_n 2, 1) := by decide +kernel
theorem dX0_fourthDivisionValue_17 : decode cX0_fourthDivisionValue 17 = .ok (.iload_n 1, 1) := by decide +kernel
theorem dX0_fourthDivisionValue_18 : decode cX0_fourthDivisionValue 18 = .ok (.imul, 1) := by decide +kernel
theorem dX0_fourthDivisionValue_19 : decode cX0_fourthDivisionValue 19 = .ok (.bipush 20, 2) := by decide +kernel
theorem dX0_fourthDivisionValue_21 : decode cX0_fourthDivisionValue 21 = .ok (.aload_n 0, 1) := by decide +kernel
theorem dX0_fourthDivisionValue_22 : decode cX0_fourthDivisionValue 22 = .ok (.getfield 38, 3) := by decide +kernel
theorem dX0_fourthDivisionValue_25 : decode cX0_fourthDivisionValue 25 = .ok (.imul, 1) := by decide +kernel
theorem dX0_fourthDivisionValue_26 : decode cX0_fourthDivisionValue 26 = .ok (.iadd, 1) := by decide +kernel
theorem dX0_fourthDivisionValue_27 : decode cX0_fourthDivisionValue 27 = .ok (.invokevirtual 80, 3) := by decide +kernel
theorem dX0_fourthDivisionValue_30 : decode cX0_fourthDivisionValue 30 = .ok (.istore_n 2, 1) := by decide +kernel
theorem dX0_fourthDivisionValue_31 : decode cX0_fourthDivisionValue 31 = .ok (.aload_n 0, 1) := by decide +kernel
theorem dX0_fourthDivisionValue_32 : decode cX0_fourthDivisionValue 32 = .ok (.iload_n 2, 1) := by decide +kernel
theorem dX0_fourthDivisionValue_33 : decode cX0_fourthDivisionValue 33 = .ok (.iload_n 1, 1) := by decide +kernel
theorem dX0_fourthDivisionValue_34 : decode cX0_fourthDivisionValue 34 = .ok (.imul, 1) := by decide +kernel
theorem dX0_fourthDivisionValue_35 : decode cX0_fourthDivisionValue 35 = .ok (.iconst 5, 1) := by decide +kernel
theorem dX0_fourthDivisionValue_36 : decode cX0_fourthDivisionValue 36 = .ok (.aload_n 0, 1) := by decide +kernel
theorem dX0_fourthDivisionValue_37 : decode cX0_fourthDivisionValue 37 = .ok (.getfield 35, 3) := by decide +kernel
theorem dX0_fourthDivisionValue_40 : decode cX0_fourthDivisionValue 40 = .ok (.imul, 1) := by decide +kernel
theorem dX0_fourthDivisionValue_41 : decode cX0_fourthDivisionValue 41 = .ok (.aload_n 0, 1) := by decide +kernel
theorem dX0_fourthDivisionValue_42 : decode cX0_fourthDivisionValue 42 = .ok (.getfield 35, 3) := by decide +kernel
theorem dX0_fourthDivisionValue_45 : decode cX0_fourthDivisionValue 45 = .ok (.imul, 1) := by decide +kernel
theorem dX0_fourthDivisionValue_46 : decode cX0_fourthDivisionValue 46 = .ok (.isub, 1) := by decide +kernel
theorem dX0_fourthDivisionValue_47 : decode cX0_fourthDivisionValue 47 = .ok (.invokevirtual 80, 3) := by decide +kernel
theorem dX0_fourthDivisionValue_50 : decode cX0_fourthDivisionValue 50 = .ok (.istore_n 2, 1) := by decide +kernel
theorem dX0_fourthDivisionValue_51 : decode cX0_fourthDivisionValue 51 = .ok (.aload_n 0, 1) := by decide +kernel
theorem dX0_fourthDivisionValue_52 : decode cX0_fourthDivisionValue 52 = .ok (.iload_n 2, 1) := by decide +kernel
theorem dX0_fourthDivisionValue_53 : decode cX0_fourthDivisionValue 53 = .ok (.iload_n 1, 1) := by decide +kernel
theorem dX0_fourthDivisionValue_54 : decode cX0_fourthDivisionValue 54 = .ok (.imul, 1) := by decide +kernel
theorem dX0_fourthDivisionValue_55 : decode cX0_fourthDivisionValue 55 = .ok (.iconst 4, 1) := by decide +kernel
theorem dX0_fourthDivisionValue_56 : decode cX0_fourthDivisionValue 56 = .ok (.aload_n 0, 1) := by decide +kernel
theorem dX0_fourthDivisionValue_57 : decode cX0_fourthDivisionValue 57 = .ok (.getfield 35, 3) := by decide +kernel
theorem dX0_fourthDivisionValue_60 : decode cX0_fourthDivisionValue 60 = .ok (.imul, 1) := by decide +kernel
theorem dX0_fourthDivisionValue_61 : decode cX0_fourthDivisionValue 61 = .ok (.aload_n 0, 1) := by decide +kernel
theorem dX0_fourthDivisionValue_62 : decode cX0_fourthDivisionValue 62 = .ok (.getfield 38, 3) := by decide +kernel
theorem dX0_fourthDivisionValue_65 : decode cX0_fourthDivisionValue 65 = .ok (.imul, 1) := by decide +kernel
theorem dX0_fourthDivisionValue_66 : decode cX0_fourthDivisionValue 66 = .ok (.isub, 1) := by decide +kernel
theorem dX0_fourthDivisionValue_67 : decode cX0_fourthDivisionValue 67 = .ok (.invokevirtual 80, 3) := by decide +kernel
theorem dX0_fourthDivisionValue_70 : decode cX0_fourthDivisionValue 70 = .ok (.istore_n 2, 1) := by decide +kernel
theorem dX0_fourthDivisionValue_71 : decode cX0_fourthDivisionValue 71 = .ok (.aload_n 0, 1) := by decide +kernel
theorem dX0_fourthDivisionValue_72 : decode cX0_fourthDivisionValue 72 = .ok (.iload_n 2, 1) := by decide +kernel
theorem dX0_fourthDivisionValue_73 : decode cX0_fourthDivisionValue 73 = .ok (.iload_n 1, 1) := by decide +kernel
theorem dX0_fourthDivisionValue_74 : decode cX0_fourthDivisionValue 74 = .ok (.imul, 1) := by decide +kernel
theorem dX0_fourthDivisionValue_75 : decode cX0_fourthDivisionValue 75 = .ok (.bipush 8, 2) := by decide +kernel
theorem dX0_fourthDivisionValue_77 : decode cX0_fourthDivisionValue 77 = .ok (.aload_n 0, 1) := by decide +kernel
theorem dX0_fourthDivisionValue_78 : decode cX0_fourthDivisionValue 78 = .ok (.getfield 38, 3) := by decide +kernel
theorem dX0_fourthDivisionValue_81 : decode cX0_fourthDivisionValue 81 = .ok (.imul, 1) := by decide +kernel
theorem dX0_fourthDivisionValue_82 : decode cX0_fourthDivisionValue 82 = .ok (.aload_n 0, 1) := by decide +kernel
theorem dX0_fourthDivisionValue_83 : decode cX0_fourthDivisionValue 83 = .ok (.getfield 38, 3) := by decide +kernel
theorem dX0_fourthDivisionValue_86 : decode cX0_fourthDivisionValue 86 = .ok (.imul, 1) := by decide +kernel
theorem dX0_fourthDivisionValue_87 : decode cX0_fourthDivisionValue 87 = .ok (.isub, 1) := by decide +kernel
theorem dX0_fourthDivisionValue_88 : decode cX0_fourthDivisionValue 88 = .ok (.aload_n 0, 1) := by decide +kernel
theorem dX0_fourthDivisionValue_89 : decode cX0_fourthDivisionValue 89 = .ok (.aload_n 0, 1) := by decide +kernel
theorem dX0_fourthDivisionValue_90 : decode cX0_fourthDivisionValue 90 = .ok (.getfield 35, 3) := by decide +kernel
theorem dX0_fourthDivisionValue_93 : decode cX0_fourthDivisionValue 93 = .ok (.aload_n 0, 1) := by decide +kernel
theorem dX0_fourthDivisionValue_94 : decode cX0_fourthDivisionValue 94 = .ok (.getfield 35, 3) := by decide +kernel
theorem dX0_fourthDivisionValue_97 : decode cX0_fourthDivisionValue 97 = .ok (.imul, 1) := by decide +kernel
theorem dX0_fourthDivisionValue_98 : decode cX0_fourthDivisionValue 98 = .ok (.invokevirtual 80, 3) := by decide +kernel
theorem dX0_fourthDivisionValue_101 : decode cX0_fourthDivisionValue 101 = .ok (.aload_n 0, 1) := by decide +kernel
theorem dX0_fourthDivisionValue_102 : decode cX0_fourthDivisionValue 102 = .ok (.getfield 35, 3) := by decide +kernel
theorem dX0_fourthDivisionValue_105 : decode cX0_fourthDivisionValue 105 = .ok (.imul, 1) := by decide +kernel
theorem dX0_fourthDivisionValue_106 : decode cX0_fourthDivisionValue 106 = .ok (.isub, 1) := by decide +kernel
theorem dX0_fourthDivisionValue_107 : decode cX0_fourthDivisionValue 107 = .ok (.invokevirtual 80, 3) := by decide +kernel
theorem dX0_fourthDivisionValue_110 : decode cX0_fourthDivisionValue 110 = .ok (.istore_n 2, 1) := by decide +kernel
theorem dX0_fourthDivisionValue_111 : decode cX0_fourthDivisionValue 111 = .ok (.aload_n 0, 1) := by decide +kernel
theorem dX0_fourthDivisionValue_112 : decode cX0_fourthDivisionValue 112 = .ok (.iconst 2, 1) := by decide +kernel
theorem dX0_fourthDivisionValue_113 : decode cX0_fourthDivisionValue 113 = .ok (.iload_n 2, 1) := by decide +kernel
theorem dX0_fourthDivisionValue_114 : decode cX0_fourthDivisionValue 114 = .ok (.imul, 1) := by decide +kernel
theorem dX0_fourthDivisionValue_115 : decode cX0_fourthDivisionValue 115 = .ok (.invokevirtual 80, 3) := by decide +kernel
theorem dX0_fourthDivisionValue_118 : decode cX0_fourthDivisionValue 118 = .ok (.ireturn, 1) := by decide +kernel
set_option maxRecDepth 20000 in
theorem ggX0_evenDivisionValue_X0_modulo : GoodIn wsX0_evenDivisionValue wsX0_modulo := goodIn_r _ [6, 7, 8, 9, 10, 11, 12, 13, 14, 15, 16, 17, 18] (by decide +kernel) (by decide +kernel)
set_option maxRecDepth 20000 in
theorem gX0_evenDivisionValue_X0_modulo : GoodIn wsX0_evenDivisionValue (wsV RX0 80 RX0 yX0_modulo wsX0_modulo) := goodIn_app (goodIn_of _ (by decide +kernel)) ggX0_evenDivisionValue_X0_modulo
theorem dX0_evenDivisionValue_0 : decode cX0_evenDivisionValue 0 = .ok (.aload_n 0, 1) := by decide +kernel
theorem dX0_evenDivisionValue_1 : decode cX0_evenDivisionValue 1 = .ok (.getfield 16, 3) := by decide +kernel
theorem dX0_evenDivisionValue_4 : decode cX0_evenDivisionValue 4 = .ok (.astore_n 2, 1) := by decide +kernel
theorem dX0_evenDivisionValue_5 : decode cX0_evenDivisionValue 5 = .ok (.aload_n 0, 1) := by decide +kernel
theorem dX0_evenDivisionValue_6 : decode cX0_evenDivisionValue 6 = .ok (.aload_n 2, 1) := by decide +kernel
theorem dX0_evenDivisionValue_7 : decode cX0_evenDivisionValue 7 = .ok (.iload_n 1, 1) := by decide +kernel
theorem dX0_evenDivisionValue_8 : decode cX0_evenDivisionValue 8 = .ok (.iconst 2, 1) := by decide +kernel
theorem dX0_evenDivisionValue_9 : decode cX0_evenDivisionValue 9 = .ok (.iadd, 1) := by decide +kernel
theorem dX0_evenDivisionValue_10 : decode cX0_evenDivisionValue 10 = .ok (.iaload, 1) := by decide +kernel
theorem dX0_evenDivisionValue_11 : decode cX0_evenDivisionValue 11 = .ok (.aload_n 0, 1) := by decide +kernel
theorem dX0_evenDivisionValue_12 : decode cX0_evenDivisionValue 12 = .ok (.aload_n 2, 1) := by decide +kernel
theorem dX0_evenDivisionValue_13 : decode cX0_evenDivisionValue 13 = .ok (.iload_n 1, 1) := by decide +kernel
theorem dX0_evenDivisionValue_14 : decode cX0_evenDivisionValue 14 = .ok (.iconst 1, 1) := by decide +kernel
theorem dX0_evenDivisionValue_15 : decode cX0_evenDivisionValue 15 = .ok (.isub, 1) := by decide +kernel
theorem dX0_evenDivisionValue_16 : decode cX0_evenDivisionValue 16 = .ok (.iaload, 1) := by decide +kernel
theorem dX0_evenDivisionValue_17 : decode cX0_evenDivisionValue 17 = .ok (.aload_n 2, 1) := by decide +kernel
theorem dX0_evenDivisionValue_18 : decode cX0_evenDivisionValue 18 = .ok (.iload_n 1, 1) := by decide +kernel
theorem dX0_evenDivisionValue_19 : decode cX0_evenDivisionValue 19 = .ok (.iconst 1, 1) := by decide +kernel
theorem dX0_evenDivisionValue_20 : decode cX0_evenDivisionValue 20 = .ok (.isub, 1) := by decide +kernel
theorem dX0_evenDivisionValue_21 : decode cX0_evenDivisionValue 21 = .ok (.iaload, 1) := by decide +kernel
theorem dX0_evenDivisionValue_22 : decode cX0_evenDivisionValue 22 = .ok (.imul, 1) := by decide +kernel
theorem dX0_evenDivisionValue_23 : decode cX0_evenDivisionValue 23 = .ok (.invokevirtual 80, 3) := by decide +kernel
theorem dX0_evenDivisionValue_26 : decode cX0_evenDivisionValue 26 = .ok (.imul, 1) := by decide +kernel
theorem dX0_evenDivisionValue_27 : decode cX0_evenDivisionValue 27 = .ok (.invokevirtual 80, 3) := by decide +kernel
theorem dX0_evenDivisionValue_30 : decode cX0_evenDivisionValue 30 = .ok (.istore_n 3, 1) := by decide +kernel
theorem dX0_evenDivisionValue_31 : decode cX0_evenDivisionValue 31 = .ok (.aload_n 0, 1) := by decide +kernel
theorem dX0_evenDivisionValue_32 : decode cX0_evenDivisionValue 32 = .ok (.aload_n 2, 1) := by decide +kernel
theorem dX0_evenDivisionValue_33 : decode cX0_evenDivisionValue 33 = .ok (.iload_n 1, 1) := by decide +kernel
theorem dX0_evenDivisionValue_34 : decode cX0_evenDivisionValue 34 = .ok (.iconst 2, 1) := by decide +kernel
theorem dX0_evenDivisionValue_35 : decode cX0_evenDivisionValue 35 = .ok (.isub, 1) := by decide +kernel
theorem dX0_evenDivisionValue_36 : decode cX0_evenDivisionValue 36 = .ok (.iaload, 1) := by decide +kernel
theorem dX0_evenDivisionValue_37 : decode cX0_evenDivisionValue 37 = .ok (.aload_n 0, 1) := by decide +kernel
theorem dX0_evenDivisionValue_38 : decode cX0_evenDivisionValue 38 = .ok (.aload_n 2, 1) := by decide +kernel
theorem dX0_evenDivisionValue_39 : decode cX0_evenDivisionValue 39 = .ok (.iload_n 1, 1) := by decide +kernel
theorem dX0_evenDivisionValue_40 : decode cX0_evenDivisionValue 40 = .ok (.iconst 1, 1) := by decide +kernel
theorem dX0_evenDivisionValue_41 : decode cX0_evenDivisionValue 41 = .ok (.iadd, 1) := by decide +kernel
theorem dX0_evenDivisionValue_42 : decode cX0_evenDivisionValue 42 = .ok (.iaload, 1) := by decide +kernel
theorem dX0_evenDivisionValue_43 : decode cX0_evenDivisionValue 43 = .ok (.aload_n 2, 1) := by decide +kernel
theorem dX0_evenDivisionValue_44 : decode cX0_evenDivisionValue 44 = .ok (.iload_n 1, 1) := by decide +kernel
theorem dX0_evenDivisionValue_45 : decode cX0_evenDivisionValue 45 = .ok (.iconst 1, 1) := by decide +kernel
theorem dX0_evenDivisionValue_46 : decode cX0_evenDivisionValue 46 = .ok (.iadd, 1) := by decide +kernel
theorem dX0_evenDivisionValue_47 : decode cX0_evenDivisionValue 47 = .ok (.iaload, 1) := by decide +kernel
theorem dX0_evenDivisionValue_48 : decode cX0_evenDivisionValue 48 = .ok (.imul, 1) := by decide +kernel
theorem dX0_evenDivisionValue_49 : decode cX0_evenDivisionValue 49 = .ok (.invokevirtual 80, 3) := by decide +kernel
theorem dX0_evenDivisionValue_52 : decode cX0_evenDivisionValue 52 = .ok (.imul, 1) := by decide +kernel
theorem dX0_evenDivisionValue_53 : decode cX0_evenDivisionValue 53 = .ok (.invokevirtual 80, 3) := by decide +kernel
theorem dX0_evenDivisionValue_56 : decode cX0_evenDivisionValue 56 = .ok (.istore 4, 2) := by decide +kernel
theorem dX0_evenDivisionValue_58 : decode cX0_evenDivisionValue 58 = .ok (.aload_n 0, 1) := by decide +kernel
theorem dX0_evenDivisionValue_59 : decode cX0_evenDivisionValue 59 = .ok (.aload_n 2, 1) := by decide +kernel
theorem dX0_evenDivisionValue_60 : decode cX0_evenDivisionValue 60 = .ok (.iload_n 1, 1) := by decide +kernel
theorem dX0_evenDivisionValue_61 : decode cX0_evenDivisionValue 61 = .ok (.iaload, 1) := by decide +kernel
theorem dX0_evenDivisionValue_62 : decode cX0_evenDivisionValue 62 = .ok (.aload_n 0, 1) := by decide +kernel
theorem dX0_evenDivisionValue_63 : decode cX0_evenDivisionValue 63 = .ok (.iload_n 3, 1) := by decide +kernel
theorem dX0_evenDivisionValue_64 : decode cX0_evenDivisionValue 64 = .ok (.iload 4, 2) := by decide +kernel
theorem dX0_evenDivisionValue_66 : decode cX0_evenDivisionValue 66 = .ok (.isub, 1) := by decide +kernel
theorem dX0_evenDivisionValue_67 : decode cX0_evenDivisionValue 67 = .ok (.invokevirtual 80, 3) := by decide +kernel
theorem dX0_evenDivisionValue_70 : decode cX0_evenDivisionValue 70 = .ok (.imul, 1) := by decide +kernel
theorem dX0_evenDivisionValue_71 : decode cX0_evenDivisionValue 71 = .ok (.invokevirtual 80, 3) := by decide +kernel
theorem dX0_evenDivisionValue_74 : decode cX0_evenDivisionValue 74 = .ok (.ireturn, 1) := by decide +kernel
set_option maxRecDepth 20000 in
theorem ggX0_oddDivisionValue_X0_cube : GoodIn wsX0_oddDivisionValue wsX0_cube := goodIn_r _ [6, 7, 8, 9, 5, 10, 11, 12, 13, 14, 15, 16, 17, 18, 19, 20, 21, 22] (by decide +kernel) (by decide +kernel)
set_option maxRecDepth 20000 in
theorem gX0_oddDivisionValue_X0_cube : GoodIn wsX0_oddDivisionValue (wsV RX0 116 RX0 yX0_cube wsX0_cube) := goodIn_app (goodIn_of _ (by decide +kernel)) ggX0_oddDivisionValue_X0_cube
set_option maxRecDepth 20000 in
theorem ggX0_oddDivisionValue_X0_modulo : GoodIn wsX0_oddDivisionValue wsX0_modulo := goodIn_r _ [10, 11, 12, 13, 14, 15, 16, 17, 18, 19, 20, 21, 22] (by decide +kernel) (by decide +kernel)
set_option maxRecDepth 20000 in
theorem gX0_oddDivisionValue_X0_modulo : GoodIn wsX0_oddDivisionValue (wsV RX0 80 RX0 yX0_modulo wsX0_modulo) := goodIn_app (goodIn_of _ (by decide +kernel)) ggX0_oddDivisionValue_X0_modulo
theorem dX0_oddDivisionValue_0 : decode cX0_oddDivisionValue 0 = .ok (.aload_n 0, 1) := by decide +kernel
theorem dX0_oddDivisionValue_1 : decode cX0_oddDivisionValue 1 = .ok (.getfield 16, 3) := by decide +kernel
theorem dX0_oddDivisionValue_4 : decode cX0_oddDivisionValue 4 = .ok (.astore_n 3, 1) := by decide +kernel
theorem dX0_oddDivisionValue_5 : decode cX0_oddDivisionValue 5 = .ok (.aload_n 0, 1) := by decide +kernel
theorem dX0_oddDivisionValue_6 : decode cX0_oddDivisionValue 6 = .ok (.aload_n 3, 1) := by decide +kernel
theorem dX0_oddDivisionValue_7 : decode cX0_oddDivisionValue 7 = .ok (.iload_n 1, 1) := by decide +kernel
theorem dX0_oddDivisionValue_8 : decode cX0_oddDivisionValue 8 = .ok (.iconst 2, 1) := by decide +kernel
theorem dX0_oddDivisionValue_9 : decode cX0_oddDivisionValue 9 = .ok (.iadd, 1) := by decide +kernel
theorem dX0_oddDivisionValue_10 : decode cX0_oddDivisionValue 10 = .ok (.iaload, 1) := by decide +kernel
theorem dX0_oddDivisionValue_11 : decode cX0_oddDivisionValue 11 = .ok (.aload_n 0, 1) := by decide +kernel
theorem dX0_oddDivisionValue_12 : decode cX0_oddDivisionValue 12 = .ok (.aload_n 3, 1) := by decide +kernel
theorem dX0_oddDivisionValue_13 : decode cX0_oddDivisionValue 13 = .ok (.iload_n 1, 1) := by decide +kernel
theorem dX0_oddDivisionValue_14 : decode cX0_oddDivisionValue 14 = .ok (.iaload, 1) := by decide +kernel
theorem dX0_oddDivisionValue_15 : decode cX0_oddDivisionValue 15 = .ok (.invokevirtual 116, 3) := by decide +kernel
theorem dX0_oddDivisionValue_18 : decode cX0_oddDivisionValue 18 = .ok (.imul, 1) := by decide +kernel
theorem dX0_oddDivisionValue_19 : decode cX0_oddDivisionValue 19 = .ok (.invokevirtual 80, 3) := by decide +kernel
theorem dX0_oddDivisionValue_22 : decode cX0_oddDivisionValue 22 = .ok (.istore 4, 2) := by decide +kernel
theorem dX0_oddDivisionValue_24 : decode cX0_oddDivisionValue 24 = .ok (.aload_n 0, 1) := by decide +kernel
theorem dX0_oddDivisionValue_25 : decode cX0_oddDivisionValue 25 = .ok (.aload_n 3, 1) := by decide +kernel
theorem dX0_oddDivisionValue_26 : decode cX0_oddDivisionValue 26 = .ok (.iload_n 1, 1) := by decide +kernel
theorem dX0_oddDivisionValue_27 : decode cX0_oddDivisionValue 27 = .ok (.iconst 1, 1) := by decide +kernel
theorem dX0_oddDivisionValue_28 : decode cX0_oddDivisionValue 28 = .ok (.isub, 1) := by decide +kernel
theorem dX0_oddDivisionValue_29 : decode cX0_oddDivisionValue 29 = .ok (.iaload, 1) := by decide +kernel
theorem dX0_oddDivisionValue_30 : decode cX0_oddDivisionValue 30 = .ok (.aload_n 0, 1) := by decide +kernel
theorem dX0_oddDivisionValue_31 : decode cX0_oddDivisionValue 31 = .ok (.aload_n 3, 1) := by decide +kernel
theorem dX0_oddDivisionValue_32 : decode cX0_oddDivisionValue 32 = .ok (.iload_n 1, 1) := by decide +kernel
theorem dX0_oddDivisionValue_33 : decode cX0_oddDivisionValue 33 = .ok (.iconst 1, 1) := by decide +kernel
theorem dX0_oddDivisionValue_34 : decode cX0_oddDivisionValue 34 = .ok (.iadd, 1) := by decide +kernel
theorem dX0_oddDivisionValue_35 : decode cX0_oddDivisionValue 35 = .ok (.iaload, 1) := by decide +kernel
theorem dX0_oddDivisionValue_36 : decode cX0_oddDivisionValue 36 = .ok (.invokevirtual 116, 3) := by decide +kernel
theorem dX0_oddDivisionValue_39 : decode cX0_oddDivisionValue 39 = .ok (.imul, 1) := by decide +kernel
theorem dX0_oddDivisionValue_40 : decode cX0_oddDivisionValue 40 = .ok (.invokevirtual 80, 3) := by decide +kernel
theorem dX0_oddDivisionValue_43 : decode cX0_oddDivisionValue 43 = .ok (.istore 5, 2) := by decide +kernel
theorem dX0_oddDivisionValue_45 : decode cX0_oddDivisionValue 45 = .ok (.iload_n 1, 1) := by decide +kernel
theorem dX0_oddDivisionValue_46 : decode cX0_oddDivisionValue 46 = .ok (.iconst 2, 1) := by decide +kernel
theorem dX0_oddDivisionValue_47 : decode cX0_oddDivisionValue 47 = .ok (.irem, 1) := by decide +kernel
theorem dX0_oddDivisionValue_48 : decode cX0_oddDivisionValue 48 = .ok (.ifCond .ne 17, 3) := by decide +kernel
theorem dX0_oddDivisionValue_51 : decode cX0_oddDivisionValue 51 = .ok (.aload_n 0, 1) := by decide +kernel
theorem dX0_oddDivisionValue_52 : decode cX0_oddDivisionValue 52 = .ok (.iload_n 2, 1) := by decide +kernel
theorem dX0_oddDivisionValue_53 : decode cX0_oddDivisionValue 53 = .ok (.iload 4, 2) := by decide +kernel
theorem dX0_oddDivisionValue_55 : decode cX0_oddDivisionValue 55 = .ok (.imul, 1) := by decide +kernel
theorem dX0_oddDivisionValue_56 : decode cX0_oddDivisionValue 56 = .ok (.iload 5, 2) := by decide +kernel
theorem dX0_oddDivisionValue_58 : decode cX0_oddDivisionValue 58 = .ok (.isub, 1) := by decide +kernel
theorem dX0_oddDivisionValue_59 : decode cX0_oddDivisionValue 59 = .ok (.invokevirtual 80, 3) := by decide +kernel
theorem dX0_oddDivisionValue_62 : decode cX0_oddDivisionValue 62 = .ok (.goto 14, 3) := by decide +kernel
theorem dX0_oddDivisionValue_65 : decode cX0_oddDivisionValue 65 = .ok (.aload_n 0, 1) := by decide +kernel
theorem dX0_oddDivisionValue_66 : decode cX0_oddDivisionValue 66 = .ok (.iload 4, 2) := by decide +kernel
theorem dX0_oddDivisionValue_68 : decode cX0_oddDivisionValue 68 = .ok (.iload_n 2, 1) := by decide +kernel
theorem dX0_oddDivisionValue_69 : decode cX0_oddDivisionValue 69 = .ok (.iload 5, 2) := by decide +kernel
theorem dX0_oddDivisionValue_71 : decode cX0_oddDivisionValue 71 = .ok (.imul, 1) := by decide +kernel
theorem dX0_oddDivisionValue_72 : decode cX0_oddDivisionValue 72 = .ok (.isub, 1) := by decide +kernel
theorem dX0_oddDivisionValue_73 : decode cX0_oddDivisionValue 73 = .ok (.invokevirtual 80, 3) := by decide +kernel
theorem dX0_oddDivisionValue_76 : decode cX0_oddDivisionValue 76 = .ok (.ireturn, 1) := by decide +kernel
set_option maxRecDepth 20000 in
theorem ggX0_cube_X0_modulo : GoodIn wsX0_cube wsX0_modulo := goodIn_r _ [5, 6, 7, 8, 9, 10, 11, 12, 13, 14, 15, 16, 17] (by decide +kernel) (by decide +kernel)
set_option maxRecDepth 20000 in
theorem gX0_cube_X0_modulo : GoodIn wsX0_cube (wsV RX0 80 RX0 yX0_modulo wsX0_modulo) := goodIn_app (goodIn_of _ (by decide +kernel)) ggX0_cube_X0_modulo
theorem dX0_cube_0 : decode cX0_cube 0 = .ok (.aload_n 0, 1) := by decide +kernel
theorem dX0_cube_1 : decode cX0_cube 1 = .ok (.aload_n 0, 1) := by decide +kernel
theorem dX0_cube_2 : decode cX0_cube 2 = .ok (.iload_n 1, 1) := by decide +kernel
theorem dX0_cube_3 : decode cX0_cube 3 = .ok (.iload_n 1, 1) := by decide +kernel
theorem dX0_cube_4 : decode cX0_cube 4 = .ok (.imul, 1) := by decide +kernel
theorem dX0_cube_5 : decode cX0_cube 5 = .ok (.invokevirtual 80, 3) := by decide +kernel
theorem dX0_cube_8 : decode cX0_cube 8 = .ok (.iload_n 1, 1) := by decide +kernel
theorem dX0_cube_9 : decode cX0_cube 9 = .ok (.imul, 1) := by decide +kernel
theorem dX0_cube_10 : decode cX0_cube 10 = .ok (.invokevirtual 80, 3) := by decide +kernel
theorem dX0_cube_13 : decode cX0_cube 13 = .ok (.ireturn, 1) := by decide +kernel
theorem dX1_init_0 : decode cX1_init 0 = .ok (.aload_n 0, 1) := by decide +kernel
theorem dX1_init_1 : decode cX1_init 1 = .ok (.invokespecial 1, 3) := by decide +kernel
theorem dX1_init_4 : decode cX1_init 4 = .ok (.aload_n 0, 1) := by decide +kernel
theorem dX1_init_5 : decode cX1_init 5 = .ok (.iconst 5, 1) := by decide +kernel
theorem dX1_init_6 : decode cX1_init 6 = .ok (.putfield 7, 3) := by decide +kernel
theorem dX1_init_9 : decode cX1_init 9 = .ok (.aload_n 0, 1) := by decide +kernel
theorem dX1_init_10 : decode cX1_init 10 = .ok (.iconst 1, 1) := by decide +kernel
theorem dX1_init_11 : decode cX1_init 11 = .ok (.putfield 13, 3) := by decide +kernel
theorem dX1_init_14 : decode cX1_init 14 = .ok (.aload_n 0, 1) := by decide +kernel
theorem dX1_init_15 : decode cX1_init 15 = .ok (.iconst 1, 1) := by decide +kernel
theorem dX1_init_16 : decode cX1_init 16 = .ok (.putfield 16, 3) := by decide +kernel
theorem dX1_init_19 : decode cX1_init 19 = .ok (.aload_n 0, 1) := by decide +kernel
theorem dX1_init_20 : decode cX1_init 20 = .ok (.sipush 4096, 3) := by decide +kernel
theorem dX1_init_23 : decode cX1_init 23 = .ok (.newarray .int, 2) := by decide +kernel
theorem dX1_init_25 : decode cX1_init 25 = .ok (.putfield 19, 3) := by decide +kernel
theorem dX1_init_28 : decode cX1_init 28 = .ok (.aload_n 0, 1) := by decide +kernel
theorem dX1_init_29 : decode cX1_init 29 = .ok (.bipush 48, 2) := by decide +kernel
theorem dX1_init_31 : decode cX1_init 31 = .ok (.newarray .int, 2) := by decide +kernel
theorem dX1_init_33 : decode cX1_init 33 = .ok (.putfield 23, 3) := by decide +kernel
theorem dX1_init_36 : decode cX1_init 36 = .ok (.return_, 1) := by decide +kernel
theorem dX1_mod_0 : decode cX1_mod 0 = .ok (.iload_n 1, 1) := by decide +kernel
theorem dX1_mod_1 : decode cX1_mod 1 = .ok (.aload_n 0, 1) := by decide +kernel
theorem dX1_mod_2 : decode cX1_mod 2 = .ok (.getfield 7, 3) := by decide +kernel
theorem dX1_mod_5 : decode cX1_mod 5 = .ok (.irem, 1) := by decide +kernel
theorem dX1_mod_6 : decode cX1_mod 6 = .ok (.istore_n 2, 1) := by decide +kernel
theorem dX1_mod_7 : decode cX1_mod 7 = .ok (.iload_n 2, 1) := by decide +kernel
theorem dX1_mod_8 : decode cX1_mod 8 = .ok (.ifCond .ge 12, 3) := by decide +kernel
theorem dX1_mod_11 : decode cX1_mod 11 = .ok (.iload_n 2, 1) := by decide +kernel
theorem dX1_mod_12 : decode cX1_mod 12 = .ok (.aload_n 0, 1) := by decide +kernel
theorem dX1_mod_13 : decode cX1_mod 13 = .ok (.getfield 7, 3) := by decide +kernel
theorem dX1_mod_16 : decode cX1_mod 16 = .ok (.iadd, 1) := by decide +kernel
theorem dX1_mod_17 : decode cX1_mod 17 = .ok (.goto 4, 3) := by decide +kernel
theorem dX1_mod_20 : decode cX1_mod 20 = .ok (.iload_n 2, 1) := by decide +kernel
theorem dX1_mod_21 : decode cX1_mod 21 = .ok (.ireturn, 1) := by decide +kernel
set_option maxRecDepth 20000 in
theorem ggX1_right_X1_mod : GoodIn wsX1_right wsX1_mod := goodIn_r _ [7, 8, 9, 10, 11, 12, 13] (by decide +kernel) (by decide +kernel)
set_option maxRecDepth 20000 in
theorem gX1_right_X1_mod : GoodIn wsX1_right (wsV RX1 26 RX1 yX1_mod wsX1_mod) := goodIn_app (goodIn_of _ (by decide +kernel)) ggX1_right_X1_mod
theorem dX1_right_0 : decode cX1_right 0 = .ok (.aload_n 0, 1) := by decide +kernel
theorem dX1_right_1 : decode cX1_right 1 = .ok (.aload_n 0, 1) := by decide +kernel
theorem dX1_right_2 : decode cX1_right 2 = .ok (.aload_n 0, 1) := by decide +kernel
theorem dX1_right_3 : decode cX1_right 3 = .ok (.iload_n 1, 1) := by decide +kernel
theorem dX1_right_4 : decode cX1_right 4 = .ok (.iload_n 1, 1) := by decide +kernel
theorem dX1_right_5 : decode cX1_right 5 = .ok (.imul, 1) := by decide +kernel
theorem dX1_right_6 : decode cX1_right 6 = .ok (.invokevirtual 26, 3) := by decide +kernel
theorem dX1_right_9 : decode cX1_right 9 = .ok (.iload_n 1, 1) := by decide +kernel
theorem dX1_right_10 : decode cX1_right 10 = .ok (.imul, 1) := by decide +kernel
theorem dX1_right_11 : decode cX1_right 11 = .ok (.invokevirtual 26, 3) := by decide +kernel
theorem dX1_right_14 : decode cX1_right 14 = .ok (.aload_n 0, 1) := by decide +kernel
theorem dX1_right_15 : decode cX1_right 15 = .ok (.aload_n 0, 1) := by decide +kernel
theorem dX1_right_16 : decode cX1_right 16 = .ok (.getfield 13, 3) := by decide +kernel
theorem dX1_right_19 : decode cX1_right 19 = .ok (.iload_n 1, 1) := by decide +kernel
theorem dX1_right_20 : decode cX1_right 20 = .ok (.imul, 1) := by decide +kernel
theorem dX1_right_21 : decode cX1_right 21 = .ok (.invokevirtual 26, 3) := by decide +kernel
theorem dX1_right_24 : decode cX1_right 24 = .ok (.iadd, 1) := by decide +kernel
theorem dX1_right_25 : decode cX1_right 25 = .ok (.aload_n 0, 1) := by decide +kernel
theorem dX1_right_26 : decode cX1_right 26 = .ok (.getfield 16, 3) := by decide +kernel
theorem dX1_right_29 : decode cX1_right 29 = .ok (.iadd, 1) := by decide +kernel
theorem dX1_right_30 : decode cX1_right 30 = .ok (.invokevirtual 26, 3) := by decide +kernel
theorem dX1_right_33 : decode cX1_right 33 = .ok (.ireturn, 1) := by decide +kernel
theorem dX1_curve_0 : decode cX1_curve 0 = .ok (.iload_n 1, 1) := by decide +kernel
theorem dX1_curve_1 : decode cX1_curve 1 = .ok (.iconst 5, 1) := by decide +kernel
theorem dX1_curve_2 : decode cX1_curve 2 = .ok (.if_icmp .lt 10, 3) := by decide +kernel
theorem dX1_curve_5 : decode cX1_curve 5 = .ok (.iload_n 1, 1) := by decide +kernel
theorem dX1_curve_6 : decode cX1_curve 6 = .ok (.sipush 4093, 3) := by decide +kernel
theorem dX1_curve_9 : decode cX1_curve 9 = .ok (.if_icmp .le 5, 3) := by decide +kernel
theorem dX1_curve_12 : decode cX1_curve 12 = .ok (.iconst (-1), 1) := by decide +kernel
theorem dX1_curve_13 : decode cX1_curve 13 = .ok (.ireturn, 1) := by decide +kernel
theorem dX1_curve_14 : decode cX1_curve 14 = .ok (.iconst 2, 1) := by decide +kernel
theorem dX1_curve_15 : decode cX1_curve 15 = .ok (.istore 4, 2) := by decide +kernel
theorem dX1_curve_17 : decode cX1_curve 17 = .ok (.iload 4, 2) := by decide +kernel
theorem dX1_curve_19 : decode cX1_curve 19 = .ok (.iload_n 1, 1) := by decide +kernel
theorem dX1_curve_20 : decode cX1_curve 20 = .ok (.if_icmp .ge 18, 3) := by decide +kernel
theorem dX1_curve_23 : decode cX1_curve 23 = .ok (.iload_n 1, 1) := by decide +kernel
theorem dX1_curve_24 : decode cX1_curve 24 = .ok (.iload 4, 2) := by decide +kernel
theorem dX1_curve_26 : decode cX1_curve 26 = .ok (.irem, 1) := by decide +kernel
theorem dX1_curve_27 : decode cX1_curve 27 = .ok (.ifCond .ne 5, 3) := by decide +kernel
theorem dX1_curve_30 : decode cX1_curve 30 = .ok (.iconst (-1), 1) := by decide +kernel
theorem dX1_curve_31 : decode cX1_curve 31 = .ok (.ireturn, 1) := by decide +kernel
theorem dX1_curve_32 : decode cX1_curve 32 = .ok (.iinc 4 1, 3) := by decide +kernel
theorem dX1_curve_35 : decode cX1_curve 35 = .ok (.goto (-18), 3) := by decide +kernel
theorem dX1_curve_38 : decode cX1_curve 38 = .ok (.iload_n 2, 1) := by decide +kernel
theorem dX1_curve_39 : decode cX1_curve 39 = .ok (.ifCond .lt 17, 3) := by decide +kernel
theorem dX1_curve_42 : decode cX1_curve 42 = .ok (.iload_n 2, 1) := by decide +kernel
theorem dX1_curve_43 : decode cX1_curve 43 = .ok (.iload_n 1, 1) := by decide +kernel
theorem dX1_curve_44 : decode cX1_curve 44 = .ok (.if_icmp .ge 12, 3) := by decide +kernel
theorem dX1_curve_47 : decode cX1_curve 47 = .ok (.iload_n 3, 1) := by decide +kernel
theorem dX1_curve_48 : decode cX1_curve 48 = .ok (.ifCond .lt 8, 3) := by decide +kernel
theorem dX1_curve_51 : decode cX1_curve 51 = .ok (.iload_n 3, 1) := by decide +kernel
theorem dX1_curve_52 : decode cX1_curve 52 = .ok (.iload_n 1, 1) := by decide +kernel
theorem dX1_curve_53 : decode cX1_curve 53 = .ok (.if_icmp .lt 6, 3) := by decide +kernel
theorem dX1_curve_56 : decode cX1_curve 56 = .ok (.bipush (-2), 2) := by decide +kernel
theorem dX1_curve_58 : decode cX1_curve 58 = .ok (.ireturn, 1) := by decide +kernel
theorem dX1_curve_59 : decode cX1_curve 59 = .ok (.iload_n 2, 1) := by decide +kernel
theorem dX1_curve_60 : decode cX1_curve 60 = .ok (.iload_n 2, 1) := by decide +kernel
theorem dX1_curve_61 : decode cX1_curve 61 = .ok (.imul, 1) := by decide +kernel
theorem dX1_curve_62 : decode cX1_curve 62 = .ok (.iload_n 1, 1) := by decide +kernel
theorem dX1_curve_63 : decode cX1_curve 63 = .ok (.irem, 1) := by decide +kernel
theorem dX1_curve_64 : decode cX1_curve 64 = .ok (.iload_n 2, 1) := by decide +kernel
theorem dX1_curve_65 : decode cX1_curve 65 = .ok (.imul, 1) := by decide +kernel
theorem dX1_curve_66 : decode cX1_curve 66 = .ok (.iload_n 1, 1) := by decide +kernel
theorem dX1_curve_67 : decode cX1_curve 67 = .ok (.irem, 1) := by decide +kernel
theorem dX1_curve_68 : decode cX1_curve 68 = .ok (.istore 4, 2) := by decide +kernel
theorem dX1_curve_70 : decode cX1_curve 70 = .ok (.iconst 4, 1) := by decide +kernel
theorem dX1_curve_71 : decode cX1_curve 71 = .ok (.iload 4, 2) := by decide +kernel
theorem dX1_curve_73 : decode cX1_curve 73 = .ok (.imul, 1) := by decide +kernel
theorem dX1_curve_74 : decode cX1_curve 74 = .ok (.bipush 27, 2) := by decide +kernel
theorem dX1_curve_76 : decode cX1_curve 76 = .ok (.iload_n 3, 1) := by decide +kernel
theorem dX1_curve_77 : decode cX1_curve 77 = .ok (.iload_n 3, 1) := by decide +kernel
theorem dX1_curve_78 : decode cX1_curve 78 = .ok (.imul, 1) := by decide +kernel
theorem dX1_curve_79 : decode cX1_curve 79 = .ok (.iload_n 1, 1) := by decide +kernel
theorem dX1_curve_80 : decode cX1_curve 80 = .ok (.irem, 1) := by decide +kernel
theorem dX1_curve_81 : decode cX1_curve 81 = .ok (.imul, 1) := by decide +kernel
theorem dX1_curve_82 : decode cX1_curve 82 = .ok (.iadd, 1) := by decide +kernel
theorem dX1_curve_83 : decode cX1_curve 83 = .ok (.iload_n 1, 1) := by decide +kernel
theorem dX1_curve_84 : decode cX1_curve 84 = .ok (.irem, 1) := by decide +kernel
theorem dX1_curve_85 : decode cX1_curve 85 = .ok (.ifCond .ne 6, 3) := by decide +kernel
theorem dX1_curve_88 : decode cX1_curve 88 = .ok (.bipush (-3), 2) := by decide +kernel
theorem dX1_curve_90 : decode cX1_curve 90 = .ok (.ireturn, 1) := by decide +kernel
theorem dX1_curve_91 : decode cX1_curve 91 = .ok (.aload_n 0, 1) := by decide +kernel
theorem dX1_curve_92 : decode cX1_curve 92 = .ok (.iload_n 1, 1) := by decide +kernel
theorem dX1_curve_93 : decode cX1_curve 93 = .ok (.putfield 7, 3) := by decide +kernel
theorem dX1_curve_96 : decode cX1_curve 96 = .ok (.aload_n 0, 1) := by decide +kernel
theorem dX1_curve_97 : decode cX1_curve 97 = .ok (.iload_n 2, 1) := by decide +kernel
theorem dX1_curve_98 : decode cX1_curve 98 = .ok (.putfield 13, 3) := by decide +kernel
theorem dX1_curve_101 : decode cX1_curve 101 = .ok (.aload_n 0, 1) := by decide +kernel
theorem dX1_curve_102 : decode cX1_curve 102 = .ok (.iload_n 3, 1) := by decide +kernel
theorem dX1_curve_103 : decode cX1_curve 103 = .ok (.putfield 16, 3) := by decide +kernel
theorem dX1_curve_106 : decode cX1_curve 106 = .ok (.iconst 0, 1) := by decide +kernel
theorem dX1_curve_107 : decode cX1_curve 107 = .ok (.ireturn, 1) := by decide +kernel
theorem dX1_coefficient_0 : decode cX1_coefficient 0 = .ok (.iload_n 1, 1) := by decide +kernel
theorem dX1_coefficient_1 : decode cX1_coefficient 1 = .ok (.ifCond .ne 10, 3) := by decide +kernel
theorem dX1_coefficient_4 : decode cX1_coefficient 4 = .ok (.aload_n 0, 1) := by decide +kernel
theorem dX1_coefficient_5 : decode cX1_coefficient 5 = .ok (.getfield 7, 3) := by decide +kernel
theorem dX1_coefficient_8 : decode cX1_coefficient 8 = .ok (.goto 28, 3) := by decide +kernel
theorem dX1_coefficient_11 : decode cX1_coefficient 11 = .ok (.iload_n 1, 1) := by decide +kernel
theorem dX1_coefficient_12 : decode cX1_coefficient 12 = .ok (.iconst 1, 1) := by decide +kernel
theorem dX1_coefficient_13 : decode cX1_coefficient 13 = .ok (.if_icmp .ne 10, 3) := by decide +kernel
theorem dX1_coefficient_16 : decode cX1_coefficient 16 = .ok (.aload_n 0, 1) := by decide +kernel
theorem dX1_coefficient_17 : decode cX1_coefficient 17 = .ok (.getfield 13, 3) := by decide +kernel
theorem dX1_coefficient_20 : decode cX1_coefficient 20 = .ok (.goto 16, 3) := by decide +kernel
theorem dX1_coefficient_23 : decode cX1_coefficient 23 = .ok (.iload_n 1, 1) := by decide +kernel
theorem dX1_coefficient_24 : decode cX1_coefficient 24 = .ok (.iconst 2, 1) := by decide +kernel
theorem dX1_coefficient_25 : decode cX1_coefficient 25 = .ok (.if_icmp .ne 10, 3) := by decide +kernel
theorem dX1_coefficient_28 : decode cX1_coefficient 28 = .ok (.aload_n 0, 1) := by decide +kernel
theorem dX1_coefficient_29 : decode cX1_coefficient 29 = .ok (.getfield 16, 3) := by decide +kernel
theorem dX1_coefficient_32 : decode cX1_coefficient 32 = .ok (.goto 4, 3) := by decide +kernel
theorem dX1_coefficient_35 : decode cX1_coefficient 35 = .ok (.iconst (-1), 1) := by decide +kernel
theorem dX1_coefficient_36 : decode cX1_coefficient 36 = .ok (.ireturn, 1) := by decide +kernel
set_option maxRecDepth 20000 in
theorem ggX1_tell_X1_mod : GoodIn wsX1_tell wsX1_mod := goodIn_r _ [7, 1, 8, 9, 10, 11, 12] (by decide +kernel) (by decide +kernel)
set_option maxRecDepth 20000 in
theorem gX1_tell_X1_mod : GoodIn wsX1_tell (wsV RX1 26 RX1 yX1_mod wsX1_mod) := goodIn_app (goodIn_of _ (by decide +kernel)) ggX1_tell_X1_mod
theorem dX1_tell_0 : decode cX1_tell 0 = .ok (.iconst 0, 1) := by decide +kernel
theorem dX1_tell_1 : decode cX1_tell 1 = .ok (.istore_n 1, 1) := by decide +kernel
theorem dX1_tell_2 : decode cX1_tell 2 = .ok (.iload_n 1, 1) := by decide +kernel
theorem dX1_tell_3 : decode cX1_tell 3 = .ok (.aload_n 0, 1) := by decide +kernel
theorem dX1_tell_4 : decode cX1_tell 4 = .ok (.getfield 7, 3) := by decide +kernel
theorem dX1_tell_7 : decode cX1_tell 7 = .ok (.if_icmp .ge 16, 3) := by decide +kernel
theorem dX1_tell_10 : decode cX1_tell 10 = .ok (.aload_n 0, 1) := by decide +kernel
theorem dX1_tell_11 : decode cX1_tell 11 = .ok (.getfield 19, 3) := by decide +kernel
theorem dX1_tell_14 : decode cX1_tell 14 = .ok (.iload_n 1, 1) := by decide +kernel
theorem dX1_tell_15 : decode cX1_tell 15 = .ok (.iconst 0, 1) := by decide +kernel
theorem dX1_tell_16 : decode cX1_tell 16 = .ok (.iastore, 1) := by decide +kernel
theorem dX1_tell_17 : decode cX1_tell 17 = .ok (.iinc 1 1, 3) := by decide +kernel
theorem dX1_tell_20 : decode cX1_tell 20 = .ok (.goto (-18), 3) := by decide +kernel
theorem dX1_tell_23 : decode cX1_tell 23 = .ok (.iconst 0, 1) := by decide +kernel
theorem dX1_tell_24 : decode cX1_tell 24 = .ok (.istore_n 1, 1) := by decide +kernel
theorem dX1_tell_25 : decode cX1_tell 25 = .ok (.iload_n 1, 1) := by decide +kernel
theorem dX1_tell_26 : decode cX1_tell 26 = .ok (.aload_n 0, 1) := by decide +kernel
theorem dX1_tell_27 : decode cX1_tell 27 = .ok (.getfield 7, 3) := by decide +kernel
theorem dX1_tell_30 : decode cX1_tell 30 = .ok (.if_icmp .ge 25, 3) := by decide +kernel
theorem dX1_tell_33 : decode cX1_tell 33 = .ok (.aload_n 0, 1) := by decide +kernel
theorem dX1_tell_34 : decode cX1_tell 34 = .ok (.getfield 19, 3) := by decide +kernel
theorem dX1_tell_37 : decode cX1_tell 37 = .ok (.aload_n 0, 1) := by decide +kernel
theorem dX1_tell_38 : decode cX1_tell 38 = .ok (.iload_n 1, 1) := by decide +kernel
theorem dX1_tell_39 : decode cX1_tell 39 = .ok (.iload_n 1, 1) := by decide +kernel
theorem dX1_tell_40 : decode cX1_tell 40 = .ok (.imul, 1) := by decide +kernel
theorem dX1_tell_41 : decode cX1_tell 41 = .ok (.invokevirtual 26, 3) := by decide +kernel
theorem dX1_tell_44 : decode cX1_tell 44 = .ok (.dup2, 1) := by decide +kernel
theorem dX1_tell_45 : decode cX1_tell 45 = .ok (.iaload, 1) := by decide +kernel
theorem dX1_tell_46 : decode cX1_tell 46 = .ok (.iconst 1, 1) := by decide +kernel
theorem dX1_tell_47 : decode cX1_tell 47 = .ok (.iadd, 1) := by decide +kernel
theorem dX1_tell_48 : decode cX1_tell 48 = .ok (.iastore, 1) := by decide +kernel
theorem dX1_tell_49 : decode cX1_tell 49 = .ok (.iinc 1 1, 3) := by decide +kernel
theorem dX1_tell_52 : decode cX1_tell 52 = .ok (.goto (-27), 3) := by decide +kernel
theorem dX1_tell_55 : decode cX1_tell 55 = .ok (.return_, 1) := by decide +kernel
set_option maxRecDepth 20000 in
theorem ggX1_count_X1_tell : GoodIn wsX1_count wsX1_tell := goodIn_r _ [7, 1, 2, 8, 9, 10, 6, 11, 18, 19, 20, 21, 22] (by decide +kernel) (by decide +kernel)
set_option maxRecDepth 20000 in
theorem gX1_count_X1_tell : GoodIn wsX1_count (wsV RX1 30 RX1 yX1_tell wsX1_tell) := goodIn_app (goodIn_of _ (by decide +kernel)) ggX1_count_X1_tell
set_option maxRecDepth 20000 in
theorem ggX1_count_X1_right : GoodIn wsX1_count wsX1_right := goodIn_r _ [15, 16, 17, 8, 9, 10, 6, 11, 1, 18, 19, 20, 21, 22] (by decide +kernel) (by decide +kernel)
set_option maxRecDepth 20000 in
theorem gX1_count_X1_right : GoodIn wsX1_count (wsV RX1 33 RX1 yX1_right wsX1_right) := goodIn_app (goodIn_of _ (by decide +kernel)) ggX1_count_X1_right
theorem dX1_count_0 : decode cX1_count 0 = .ok (.aload_n 0, 1) := by decide +kernel
theorem dX1_count_1 : decode cX1_count 1 = .ok (.invokevirtual 30, 3) := by decide +kernel
theorem dX1_count_4 : decode cX1_count 4 = .ok (.iconst 1, 1) := by decide +kernel
theorem dX1_count_5 : decode cX1_count 5 = .ok (.istore_n 1, 1) := by decide +kernel
theorem dX1_count_6 : decode cX1_count 6 = .ok (.iconst 0, 1) := by decide +kernel
theorem dX1_count_7 : decode cX1_count 7 = .ok (.istore_n 2, 1) := by decide +kernel
theorem dX1_count_8 : decode cX1_count 8 = .ok (.iload_n 2, 1) := by decide +kernel
theorem dX1_count_9 : decode cX1_count 9 = .ok (.aload_n 0, 1) := by decide +kernel
theorem dX1_count_10 : decode cX1_count 10 = .ok (.getfield 7, 3) := by decide +kernel
theorem dX1_count_13 : decode cX1_count 13 = .ok (.if_icmp .ge 22, 3) := by decide +kernel
theorem dX1_count_16 : decode cX1_count 16 = .ok (.iload_n 1, 1) := by decide +kernel
theorem dX1_count_17 : decode cX1_count 17 = .ok (.aload_n 0, 1) := by decide +kernel
theorem dX1_count_18 : decode cX1_count 18 = .ok (.getfield 19, 3) := by decide +kernel
theorem dX1_count_21 : decode cX1_count 21 = .ok (.aload_n 0, 1) := by decide +kernel
theorem dX1_count_22 : decode cX1_count 22 = .ok (.iload_n 2, 1) := by decide +kernel
theorem dX1_count_23 : decode cX1_count 23 = .ok (.invokevirtual 33, 3) := by decide +kernel
theorem dX1_count_26 : decode cX1_count 26 = .ok (.iaload, 1) := by decide +kernel
theorem dX1_count_27 : decode cX1_count 27 = .ok (.iadd, 1) := by decide +kernel
theorem dX1_count_28 : decode cX1_count 28 = .ok (.istore_n 1, 1) := by decide +kernel
theorem dX1_count_29 : decode cX1_count 29 = .ok (.iinc 2 1, 3) := by decide +kernel
theorem dX1_count_32 : decode cX1_count 32 = .ok (.goto (-24), 3) := by decide +kernel
theorem dX1_count_35 : decode cX1_count 35 = .ok (.iload_n 1, 1) := by decide +kernel
theorem dX1_count_36 : decode cX1_count 36 = .ok (.ireturn, 1) := by decide +kernel
set_option maxRecDepth 20000 in
theorem ggX1_trace_X1_count : GoodIn wsX1_trace wsX1_count := goodIn_r _ [6, 1, 7, 8, 9, 10, 5, 11, 12, 13, 14, 15, 16, 17, 18, 19, 20, 21, 22, 23, 24, 25, 26] (by decide +kernel) (by decide +kernel)
set_option maxRecDepth 20000 in
theorem gX1_trace_X1_count : GoodIn wsX1_trace (wsV RX1 36 RX1 yX1_count wsX1_count) := goodIn_app (goodIn_of _ (by decide +kernel)) ggX1_trace_X1_count
theorem dX1_trace_0 : decode cX1_trace 0 = .ok (.iload_n 1, 1) := by decide +kernel
theorem dX1_trace_1 : decode cX1_trace 1 = .ok (.iconst 2, 1) := by decide +kernel
theorem dX1_trace_2 : decode cX1_trace 2 = .ok (.if_icmp .lt 10, 3) := by decide +kernel
theorem dX1_trace_5 : decode cX1_trace 5 = .ok (.iload_n 1, 1) := by decide +kernel
theorem dX1_trace_6 : decode cX1_trace 6 = .ok (.sipush 1000, 3) := by decide +kernel
theorem dX1_trace_9 : decode cX1_trace 9 = .ok (.if_icmp .le 5, 3) := by decide +kernel
theorem dX1_trace_12 : decode cX1_trace 12 = .ok (.iconst (-1), 1) := by decide +kernel
theorem dX1_trace_13 : decode cX1_trace 13 = .ok (.ireturn, 1) := by decide +kernel
theorem dX1_trace_14 : decode cX1_trace 14 = .ok (.aload_n 0, 1) := by decide +kernel
theorem dX1_trace_15 : decode cX1_trace 15 = .ok (.getfield 7, 3) := by decide +kernel
theorem dX1_trace_18 : decode cX1_trace 18 = .ok (.iconst 1, 1) := by decide +kernel
theorem dX1_trace_19 : decode cX1_trace 19 = .ok (.iadd, 1) := by decide +kernel
theorem dX1_trace_20 : decode cX1_trace 20 = .ok (.aload_n 0, 1) := by decide +kernel
theorem dX1_trace_21 : decode cX1_trace 21 = .ok (.invokevirtual 36, 3) := by decide +kernel
theorem dX1_trace_24 : decode cX1_trace 24 = .ok (.isub, 1) := by decide +kernel
theorem dX1_trace_25 : decode cX1_trace 25 = .ok (.iload_n 1, 1) := by decide +kernel
theorem dX1_trace_26 : decode cX1_trace 26 = .ok (.irem, 1) := by decide +kernel
theorem dX1_trace_27 : decode cX1_trace 27 = .ok (.istore_n 2, 1) := by decide +kernel
theorem dX1_trace_28 : decode cX1_trace 28 = .ok (.iload_n 2, 1) := by decide +kernel
theorem dX1_trace_29 : decode cX1_trace 29 = .ok (.ifCond .ge 9, 3) := by decide +kernel
theorem dX1_trace_32 : decode cX1_trace 32 = .ok (.iload_n 2, 1) := by decide +kernel
theorem dX1_trace_33 : decode cX1_trace 33 = .ok (.iload_n 1, 1) := by decide +kernel
theorem dX1_trace_34 : decode cX1_trace 34 = .ok (.iadd, 1) := by decide +kernel
theorem dX1_trace_35 : decode cX1_trace 35 = .ok (.goto 4, 3) := by decide +kernel
theorem dX1_trace_38 : decode cX1_trace 38 = .ok (.iload_n 2, 1) := by decide +kernel
theorem dX1_trace_39 : decode cX1_trace 39 = .ok (.ireturn, 1) := by decide +kernel
set_option maxRecDepth 20000 in
theorem ggX1_roots_X1_mod : GoodIn wsX1_roots wsX1_mod := goodIn_r _ [6, 1, 13, 14, 15, 16, 17] (by decide +kernel) (by decide +kernel)
set_option maxRecDepth 20000 in
theorem gX1_roots_X1_mod : GoodIn wsX1_roots (wsV RX1 26 RX1 yX1_mod wsX1_mod) := goodIn_app (goodIn_of _ (by decide +kernel)) ggX1_roots_X1_mod
set_option maxRecDepth 20000 in
theorem ggX1_roots_X1_right : GoodIn wsX1_roots wsX1_right := goodIn_r _ [10, 11, 12, 2, 3, 4, 5, 6, 1, 13, 14, 15, 16, 17] (by decide +kernel) (by decide +kernel)
set_option maxRecDepth 20000 in
theorem gX1_roots_X1_right : GoodIn wsX1_roots (wsV RX1 33 RX1 yX1_right wsX1_right) := goodIn_app (goodIn_of _ (by decide +kernel)) ggX1_roots_X1_right
theorem dX1_roots_0 : decode cX1_roots 0 = .ok (.iload_n 1, 1) := by decide +kernel
theorem dX1_roots_1 : decode cX1_roots 1 = .ok (.ifCond .lt 11, 3) := by decide +kernel
theorem dX1_roots_4 : decode cX1_roots 4 = .ok (.iload_n 1, 1) := by decide +kernel
theorem dX1_roots_5 : decode cX1_roots 5 = .ok (.aload_n 0, 1) := by decide +kernel
theorem dX1_roots_6 : decode cX1_roots 6 = .ok (.getfield 7, 3) := by decide +kernel
theorem dX1_roots_9 : decode cX1_roots 9 = .ok (.if_icmp .lt 5, 3) := by decide +kernel
theorem dX1_roots_12 : decode cX1_roots 12 = .ok (.iconst (-1), 1) := by decide +kernel
theorem dX1_roots_13 : decode cX1_roots 13 = .ok (.ireturn, 1) := by decide +kernel
theorem dX1_roots_14 : decode cX1_roots 14 = .ok (.iconst 0, 1) := by decide +kernel
theorem dX1_roots_15 : decode cX1_roots 15 = .ok (.istore_n 2, 1) := by decide +kernel
theorem dX1_roots_16 : decode cX1_roots 16 = .ok (.iconst 0, 1) := by decide +kernel
theorem dX1_roots_17 : decode cX1_roots 17 = .ok (.istore_n 3, 1) := by decide +kernel
theorem dX1_roots_18 : decode cX1_roots 18 = .ok (.iload_n 3, 1) := by decide +kernel
theorem dX1_roots_19 : decode cX1_roots 19 = .ok (.aload_n 0, 1) := by decide +kernel
theorem dX1_roots_20 : decode cX1_roots 20 = .ok (.getfield 7, 3) := by decide +kernel
theorem dX1_roots_23 : decode cX1_roots 23 = .ok (.if_icmp .ge 27, 3) := by decide +kernel
theorem dX1_roots_26 : decode cX1_roots 26 = .ok (.aload_n 0, 1) := by decide +kernel
theorem dX1_roots_27 : decode cX1_roots 27 = .ok (.iload_n 3, 1) := by decide +kernel
theorem dX1_roots_28 : decode cX1_roots 28 = .ok (.iload_n 3, 1) := by decide +kernel
theorem dX1_roots_29 : decode cX1_roots 29 = .ok (.imul, 1) := by decide +kernel
theorem dX1_roots_30 : decode cX1_roots 30 = .ok (.invokevirtual 26, 3) := by decide +kernel
theorem dX1_roots_33 : decode cX1_roots 33 = .ok (.aload_n 0, 1) := by decide +kernel
theorem dX1_roots_34 : decode cX1_roots 34 = .ok (.iload_n 1, 1) := by decide +kernel
theorem dX1_roots_35 : decode cX1_roots 35 = .ok (.invokevirtual 33, 3) := by decide +kernel
theorem dX1_roots_38 : decode cX1_roots 38 = .ok (.if_icmp .ne 6, 3) := by decide +kernel
theorem dX1_roots_41 : decode cX1_roots 41 = .ok (.iinc 2 1, 3) := by decide +kernel
theorem dX1_roots_44 : decode cX1_roots 44 = .ok (.iinc 3 1, 3) := by decide +kernel
theorem dX1_roots_47 : decode cX1_roots 47 = .ok (.goto (-29), 3) := by decide +kernel
theorem dX1_roots_50 : decode cX1_roots 50 = .ok (.iload_n 2, 1) := by decide +kernel
theorem dX1_roots_51 : decode cX1_roots 51 = .ok (.ireturn, 1) := by decide +kernel
set_option maxRecDepth 20000 in
theorem ggX1_point_X1_tell : GoodIn wsX1_point wsX1_tell := goodIn_r _ [7, 1, 2, 8, 9, 10, 6, 11, 18, 19, 20, 21, 22] (by decide +kernel) (by decide +kernel)
set_option maxRecDepth 20000 in
theorem gX1_point_X1_tell : GoodIn wsX1_point (wsV RX1 30 RX1 yX1_tell wsX1_tell) := goodIn_app (goodIn_of _ (by decide +kernel)) ggX1_point_X1_tell
set_option maxRecDepth 20000 in
theorem ggX1_point_X1_right : GoodIn wsX1_point wsX1_right := goodIn_r _ [15, 16, 17, 8, 9, 10, 6, 11, 1, 18, 19, 20, 21, 22] (by decide +kernel) (by decide +kernel)
set_option maxRecDepth 20000 in
theorem gX1_point_X1_right : GoodIn wsX1_point (wsV RX1 33 RX1 yX1_right wsX1_right) := goodIn_app (goodIn_of _ (by decide +kernel)) ggX1_point_X1_right
set_option maxRecDepth 20000 in
theorem ggX1_point_X1_mod : GoodIn wsX1_point wsX1_mod := goodIn_r _ [11, 1, 18, 19, 20, 21, 22] (by decide +kernel) (by decide +kernel)
set_option maxRecDepth 20000 in
theorem gX1_point_X1_mod : GoodIn wsX1_point (wsV RX1 26 RX1 yX1_mod wsX1_mod) := goodIn_app (goodIn_of _ (by decide +kernel)) ggX1_point_X1_mod
theorem dX1_point_0 : decode cX1_point 0 = .ok (.iload_n 1, 1) := by decide +kernel
theorem dX1_point_1 : decode cX1_point 1 = .ok (.ifCond .ge 6, 3) := by decide +kernel
theorem dX1_point_4 : decode cX1_point 4 = .ok (.bipush (-2), 2) := by decide +kernel
theorem dX1_point_6 : decode cX1_point 6 = .ok (.ireturn, 1) := by decide +kernel
theorem dX1_point_7 : decode cX1_point 7 = .ok (.aload_n 0, 1) := by decide +kernel
theorem dX1_point_8 : decode cX1_point 8 = .ok (.invokevirtual 30, 3) := by decide +kernel
theorem dX1_point_11 : decode cX1_point 11 = .ok (.iload_n 1, 1) := by decide +kernel
theorem dX1_point_12 : decode cX1_point 12 = .ok (.istore_n 2, 1) := by decide +kernel
theorem dX1_point_13 : decode cX1_point 13 = .ok (.iconst 0, 1) := by decide +kernel
theorem dX1_point_14 : decode cX1_point 14 = .ok (.istore_n 3, 1) := by decide +kernel
theorem dX1_point_15 : decode cX1_point 15 = .ok (.iload_n 3, 1) := by decide +kernel
theorem dX1_point_16 : decode cX1_point 16 = .ok (.aload_n 0, 1) := by decide +kernel
theorem dX1_point_17 : decode cX1_point 17 = .ok (.getfield 7, 3) := by decide +kernel
theorem dX1_point_20 : decode cX1_point 20 = .ok (.if_icmp .ge 91, 3) := by decide +kernel
theorem dX1_point_23 : decode cX1_point 23 = .ok (.aload_n 0, 1) := by decide +kernel
theorem dX1_point_24 : decode cX1_point 24 = .ok (.iload_n 3, 1) := by decide +kernel
theorem dX1_point_25 : decode cX1_point 25 = .ok (.invokevirtual 33, 3) := by decide +kernel
theorem dX1_point_28 : decode cX1_point 28 = .ok (.istore 4, 2) := by decide +kernel
theorem dX1_point_30 : decode cX1_point 30 = .ok (.iload_n 2, 1) := by decide +kernel
theorem dX1_point_31 : decode cX1_point 31 = .ok (.aload_n 0, 1) := by decide +kernel
theorem dX1_point_32 : decode cX1_point 32 = .ok (.getfield 19, 3) := by decide +kernel
theorem dX1_point_35 : decode cX1_point 35 = .ok (.iload 4, 2) := by decide +kernel
theorem dX1_point_37 : decode cX1_point 37 = .ok (.iaload, 1) := by decide +kernel
theorem dX1_point_38 : decode cX1_point 38 = .ok (.if_icmp .lt 16, 3) := by decide +kernel
theorem dX1_point_41 : decode cX1_point 41 = .ok (.iload_n 2, 1) := by decide +kernel
theorem dX1_point_42 : decode cX1_point 42 = .ok (.aload_n 0, 1) := by decide +kernel
theorem dX1_point_43 : decode cX1_point 43 = .ok (.getfield 19, 3) := by decide +kernel
theorem dX1_point_46 : decode cX1_point 46 = .ok (.iload 4, 2) := by decide +kernel
theorem dX1_point_48 : decode cX1_point 48 = .ok (.iaload, 1) := by decide +kernel
theorem dX1_point_49 : decode cX1_point 49 = .ok (.isub, 1) := by decide +kernel
theorem dX1_point_50 : decode cX1_point 50 = .ok (.istore_n 2, 1) := by decide +kernel
theorem dX1_point_51 : decode cX1_point 51 = .ok (.goto 54, 3) := by decide +kernel
theorem dX1_point_54 : decode cX1_point 54 = .ok (.iconst 0, 1) := by decide +kernel
theorem dX1_point_55 : decode cX1_point 55 = .ok (.istore 5, 2) := by decide +kernel
theorem dX1_point_57 : decode cX1_point 57 = .ok (.iload 5, 2) := by decide +kernel
theorem dX1_point_59 : decode cX1_point 59 = .ok (.aload_n 0, 1) := by decide +kernel
theorem dX1_point_60 : decode cX1_point 60 = .ok (.getfield 7, 3) := by decide +kernel
theorem dX1_point_63 : decode cX1_point 63 = .ok (.if_icmp .ge 42, 3) := by decide +kernel
theorem dX1_point_66 : decode cX1_point 66 = .ok (.aload_n 0, 1) := by decide +kernel
theorem dX1_point_67 : decode cX1_point 67 = .ok (.iload 5, 2) := by decide +kernel
theorem dX1_point_69 : decode cX1_point 69 = .ok (.iload 5, 2) := by decide +kernel
theorem dX1_point_71 : decode cX1_point 71 = .ok (.imul, 1) := by decide +kernel
theorem dX1_point_72 : decode cX1_point 72 = .ok (.invokevirtual 26, 3) := by decide +kernel
theorem dX1_point_75 : decode cX1_point 75 = .ok (.iload 4, 2) := by decide +kernel
theorem dX1_point_77 : decode cX1_point 77 = .ok (.if_icmp .eq 6, 3) := by decide +kernel
theorem dX1_point_80 : decode cX1_point 80 = .ok (.goto 19, 3) := by decide +kernel
theorem dX1_point_83 : decode cX1_point 83 = .ok (.iload_n 2, 1) := by decide +kernel
theorem dX1_point_84 : decode cX1_point 84 = .ok (.ifCond .ne 12, 3) := by decide +kernel
theorem dX1_point_87 : decode cX1_point 87 = .ok (.sipush 4096, 3) := by decide +kernel
theorem dX1_point_90 : decode cX1_point 90 = .ok (.iload_n 3, 1) := by decide +kernel
theorem dX1_point_91 : decode cX1_point 91 = .ok (.imul, 1) := by decide +kernel
theorem dX1_point_92 : decode cX1_point 92 = .ok (.iload 5, 2) := by decide +kernel
theorem dX1_point_94 : decode cX1_point 94 = .ok (.iadd, 1) := by decide +kernel
theorem dX1_point_95 : decode cX1_point 95 = .ok (.ireturn, 1) := by decide +kernel
theorem dX1_point_96 : decode cX1_point 96 = .ok (.iinc 2 (-1), 3) := by decide +kernel
theorem dX1_point_99 : decode cX1_point 99 = .ok (.iinc 5 1, 3) := by decide +kernel
theorem dX1_point_102 : decode cX1_point 102 = .ok (.goto (-45), 3) := by decide +kernel
theorem dX1_point_105 : decode cX1_point 105 = .ok (.iinc 3 1, 3) := by decide +kernel
theorem dX1_point_108 : decode cX1_point 108 = .ok (.goto (-93), 3) := by decide +kernel
theorem dX1_point_111 : decode cX1_point 111 = .ok (.iload_n 2, 1) := by decide +kernel
theorem dX1_point_112 : decode cX1_point 112 = .ok (.ifCond .ne 7, 3) := by decide +kernel
theorem dX1_point_115 : decode cX1_point 115 = .ok (.iconst (-1), 1) := by decide +kernel
theorem dX1_point_116 : decode cX1_point 116 = .ok (.goto 5, 3) := by decide +kernel
theorem dX1_point_119 : decode cX1_point 119 = .ok (.bipush (-2), 2) := by decide +kernel
theorem dX1_point_121 : decode cX1_point 121 = .ok (.ireturn, 1) := by decide +kernel
set_option maxRecDepth 20000 in
theorem ggX1_on_X1_mod : GoodIn wsX1_on wsX1_mod := goodIn_r _ [6, 1, 13, 14, 15, 16, 17] (by decide +kernel) (by decide +kernel)
set_option maxRecDepth 20000 in
theorem gX1_on_X1_mod : GoodIn wsX1_on (wsV RX1 26 RX1 yX1_mod wsX1_mod) := goodIn_app (goodIn_of _ (by decide +kernel)) ggX1_on_X1_mod
set_option maxRecDepth 20000 in
theorem ggX1_on_X1_right : GoodIn wsX1_on wsX1_right := goodIn_r _ [10, 11, 12, 2, 3, 4, 5, 6, 1, 13, 14, 15, 16, 17] (by decide +kernel) (by decide +kernel)
set_option maxRecDepth 20000 in
theorem gX1_on_X1_right : GoodIn wsX1_on (wsV RX1 33 RX1 yX1_right wsX1_right) := goodIn_app (goodIn_of _ (by decide +kernel)) ggX1_on_X1_right
theorem dX1_on_0 : decode cX1_on 0 = .ok (.iload_n 1, 1) := by decide +kernel
theorem dX1_on_1 : decode cX1_on 1 = .ok (.ifCond .ge 14, 3) := by decide +kernel
theorem dX1_on_4 : decode cX1_on 4 = .ok (.iload_n 1, 1) := by decide +kernel
theorem dX1_on_5 : decode cX1_on 5 = .ok (.iconst (-1), 1) := by decide +kernel
theorem dX1_on_6 : decode cX1_on 6 = .ok (.if_icmp .ne 7, 3) := by decide +kernel
theorem dX1_on_9 : decode cX1_on 9 = .ok (.iconst 1, 1) := by decide +kernel
theorem dX1_on_10 : decode cX1_on 10 = .ok (.goto 4, 3) := by decide +kernel
theorem dX1_on_13 : decode cX1_on 13 = .ok (.iconst 0, 1) := by decide +kernel
theorem dX1_on_14 : decode cX1_on 14 = .ok (.ireturn, 1) := by decide +kernel
theorem dX1_on_15 : decode cX1_on 15 = .ok (.iload_n 1, 1) := by decide +kernel
theorem dX1_on_16 : decode cX1_on 16 = .ok (.sipush 4096, 3) := by decide +kernel
theorem dX1_on_19 : decode cX1_on 19 = .ok (.idiv, 1) := by decide +kernel
theorem dX1_on_20 : decode cX1_on 20 = .ok (.istore_n 2, 1) := by decide +kernel
theorem dX1_on_21 : decode cX1_on 21 = .ok (.iload_n 1, 1) := by decide +kernel
theorem dX1_on_22 : decode cX1_on 22 = .ok (.sipush 4096, 3) := by decide +kernel
theorem dX1_on_25 : decode cX1_on 25 = .ok (.irem, 1) := by decide +kernel
theorem dX1_on_26 : decode cX1_on 26 = .ok (.istore_n 3, 1) := by decide +kernel
theorem dX1_on_27 : decode cX1_on 27 = .ok (.iload_n 2, 1) := by decide +kernel
theorem dX1_on_28 : decode cX1_on 28 = .ok (.aload_n 0, 1) := by decide +kernel
theorem dX1_on_29 : decode cX1_on 29 = .ok (.getfield 7, 3) := by decide +kernel
theorem dX1_on_32 : decode cX1_on 32 = .ok (.if_icmp .ge 30, 3) := by decide +kernel
theorem dX1_on_35 : decode cX1_on 35 = .ok (.iload_n 3, 1) := by decide +kernel
theorem dX1_on_36 : decode cX1_on 36 = .ok (.aload_n 0, 1) := by decide +kernel
theorem dX1_on_37 : decode cX1_on 37 = .ok (.getfield 7, 3) := by decide +kernel
theorem dX1_on_40 : decode cX1_on 40 = .ok (.if_icmp .ge 22, 3) := by decide +kernel
theorem dX1_on_43 : decode cX1_on 43 = .ok (.aload_n 0, 1) := by decide +kernel
theorem dX1_on_44 : decode cX1_on 44 = .ok (.iload_n 3, 1) := by decide +kernel
theorem dX1_on_45 : decode cX1_on 45 = .ok (.iload_n 3, 1) := by decide +kernel
theorem dX1_on_46 : decode cX1_on 46 = .ok (.imul, 1) := by decide +kernel
theorem dX1_on_47 : decode cX1_on 47 = .ok (.invokevirtual 26, 3) := by decide +kernel
theorem dX1_on_50 : decode cX1_on 50 = .ok (.aload_n 0, 1) := by decide +kernel
theorem dX1_on_51 : decode cX1_on 51 = .ok (.iload_n 2, 1) := by decide +kernel
theorem dX1_on_52 : decode cX1_on 52 = .ok (.invokevirtual 33, 3) := by decide +kernel
theorem dX1_on_55 : decode cX1_on 55 = .ok (.if_icmp .ne 7, 3) := by decide +kernel
theorem dX1_on_58 : decode cX1_on 58 = .ok (.iconst 1, 1) := by decide +kernel
theorem dX1_on_59 : decode cX1_on 59 = .ok (.goto 4, 3) := by decide +kernel
theorem dX1_on_62 : decode cX1_on 62 = .ok (.iconst 0, 1) := by decide +kernel
theorem dX1_on_63 : decode cX1_on 63 = .ok (.ireturn, 1) := by decide +kernel
set_option maxRecDepth 20000 in
theorem ggX1_over_X1_mod : GoodIn wsX1_over wsX1_mod := goodIn_r _ [6, 1, 7, 8, 9, 10, 11] (by decide +kernel) (by decide +kernel)
set_option maxRecDepth 20000 in
theorem gX1_over_X1_mod : GoodIn wsX1_over (wsV RX1 26 RX1 yX1_mod wsX1_mod) := goodIn_app (goodIn_of _ (by decide +kernel)) ggX1_over_X1_mod
theorem dX1_over_0 : decode cX1_over 0 = .ok (.iload_n 1, 1) := by decide +kernel
theorem dX1_over_1 : decode cX1_over 1 = .ok (.istore_n 3, 1) := by decide +kernel
theorem dX1_over_2 : decode cX1_over 2 = .ok (.aload_n 0, 1) := by decide +kernel
theorem dX1_over_3 : decode cX1_over 3 = .ok (.getfield 7, 3) := by decide +kernel
theorem dX1_over_6 : decode cX1_over 6 = .ok (.iconst 2, 1) := by decide +kernel
theorem dX1_over_7 : decode cX1_over 7 = .ok (.isub, 1) := by decide +kernel
theorem dX1_over_8 : decode cX1_over 8 = .ok (.istore 4, 2) := by decide +kernel
theorem dX1_over_10 : decode cX1_over 10 = .ok (.iload_n 2, 1) := by decide +kernel
theorem dX1_over_11 : decode cX1_over 11 = .ok (.istore 5, 2) := by decide +kernel
theorem dX1_over_13 : decode cX1_over 13 = .ok (.iload 4, 2) := by decide +kernel
theorem dX1_over_15 : decode cX1_over 15 = .ok (.ifCond .le 40, 3) := by decide +kernel
theorem dX1_over_18 : decode cX1_over 18 = .ok (.iload 4, 2) := by decide +kernel
theorem dX1_over_20 : decode cX1_over 20 = .ok (.iconst 2, 1) := by decide +kernel
theorem dX1_over_21 : decode cX1_over 21 = .ok (.irem, 1) := by decide +kernel
theorem dX1_over_22 : decode cX1_over 22 = .ok (.iconst 1, 1) := by decide +kernel
theorem dX1_over_23 : decode cX1_over 23 = .ok (.if_icmp .ne 12, 3) := by decide +kernel
theorem dX1_over_26 : decode cX1_over 26 = .ok (.aload_n 0, 1) := by decide +kernel
theorem dX1_over_27 : decode cX1_over 27 = .ok (.iload_n 3, 1) := by decide +kernel
theorem dX1_over_28 : decode cX1_over 28 = .ok (.iload 5, 2) := by decide +kernel
theorem dX1_over_30 : decode cX1_over 30 = .ok (.imul, 1) := by decide +kernel
theorem dX1_over_31 : decode cX1_over 31 = .ok (.invokevirtual 26, 3) := by decide +kernel
theorem dX1_over_34 : decode cX1_over 34 = .ok (.istore_n 3, 1) := by decide +kernel
theorem dX1_over_35 : decode cX1_over 35 = .ok (.aload_n 0, 1) := by decide +kernel
theorem dX1_over_36 : decode cX1_over 36 = .ok (.iload 5, 2) := by decide +kernel
theorem dX1_over_38 : decode cX1_over 38 = .ok (.iload 5, 2) := by decide +kernel
theorem dX1_over_40 : decode cX1_over 40 = .ok (.imul, 1) := by decide +kernel
theorem dX1_over_41 : decode cX1_over 41 = .ok (.invokevirtual 26, 3) := by decide +kernel
theorem dX1_over_44 : decode cX1_over 44 = .ok (.istore 5, 2) := by decide +kernel
theorem dX1_over_46 : decode cX1_over 46 = .ok (.iload 4, 2) := by decide +kernel
theorem dX1_over_48 : decode cX1_over 48 = .ok (.iconst 2, 1) := by decide +kernel
theorem dX1_over_49 : decode cX1_over 49 = .ok (.idiv, 1) := by decide +kernel
theorem dX1_over_50 : decode cX1_over 50 = .ok (.istore 4, 2) := by decide +kernel
theorem dX1_over_52 : decode cX1_over 52 = .ok (.goto (-39), 3) := by decide +kernel
theorem dX1_over_55 : decode cX1_over 55 = .ok (.iload_n 3, 1) := by decide +kernel
theorem dX1_over_56 : decode cX1_over 56 = .ok (.ireturn, 1) := by decide +kernel
set_option maxRecDepth 20000 in
theorem ggX1_sum_X1_mod : GoodIn wsX1_sum wsX1_mod := goodIn_r _ [6, 7, 12, 13, 14, 15, 16] (by decide +kernel) (by decide +kernel)
set_option maxRecDepth 20000 in
theorem gX1_sum_X1_mod : GoodIn wsX1_sum (wsV RX1 26 RX1 yX1_mod wsX1_mod) := goodIn_app (goodIn_of _ (by decide +kernel)) ggX1_sum_X1_mod
set_option maxRecDepth 20000 in
theorem ggX1_sum_X1_over : GoodIn wsX1_sum wsX1_over := goodIn_r _ [11, 7, 2, 3, 4, 5, 6, 12, 13, 14, 15, 16] (by decide +kernel) (by decide +kernel)
set_option maxRecDepth 20000 in
theorem gX1_sum_X1_over : GoodIn wsX1_sum (wsV RX1 40 RX1 yX1_over wsX1_over) := goodIn_app (goodIn_of _ (by decide +kernel)) ggX1_sum_X1_over
theorem dX1_sum_0 : decode cX1_sum 0 = .ok (.iload_n 1, 1) := by decide +kernel
theorem dX1_sum_1 : decode cX1_sum 1 = .ok (.iconst (-1), 1) := by decide +kernel
theorem dX1_sum_2 : decode cX1_sum 2 = .ok (.if_icmp .ne 5, 3) := by decide +kernel
theorem dX1_sum_5 : decode cX1_sum 5 = .ok (.iload_n 2, 1) := by decide +kernel
theorem dX1_sum_6 : decode cX1_sum 6 = .ok (.ireturn, 1) := by decide +kernel
theorem dX1_sum_7 : decode cX1_sum 7 = .ok (.iload_n 2, 1) := by decide +kernel
theorem dX1_sum_8 : decode cX1_sum 8 = .ok (.iconst (-1), 1) := by decide +kernel
theorem dX1_sum_9 : decode cX1_sum 9 = .ok (.if_icmp .ne 5, 3) := by decide +kernel
theorem dX1_sum_12 : decode cX1_sum 12 = .ok (.iload_n 1, 1) := by decide +kernel
theorem dX1_sum_13 : decode cX1_sum 13 = .ok (.ireturn, 1) := by decide +kernel
theorem dX1_sum_14 : decode cX1_sum 14 = .ok (.iload_n 1, 1) := by decide +kernel
theorem dX1_sum_15 : decode cX1_sum 15 = .ok (.sipush 4096, 3) := by decide +kernel
theorem dX1_sum_18 : decode cX1_sum 18 = .ok (.idiv, 1) := by decide +kernel
theorem dX1_sum_19 : decode cX1_sum 19 = .ok (.istore_n 3, 1) := by decide +kernel
theorem dX1_sum_20 : decode cX1_sum 20 = .ok (.iload_n 1, 1) := by decide +kernel
theorem dX1_sum_21 : decode cX1_sum 21 = .ok (.sipush 4096, 3) := by decide +kernel
theorem dX1_sum_24 : decode cX1_sum 24 = .ok (.irem, 1) := by decide +kernel
theorem dX1_sum_25 : decode cX1_sum 25 = .ok (.istore 4, 2) := by decide +kernel
theorem dX1_sum_27 : decode cX1_sum 27 = .ok (.iload_n 2, 1) := by decide +kernel
theorem dX1_sum_28 : decode cX1_sum 28 = .ok (.sipush 4096, 3) := by decide +kernel
theorem dX1_sum_31 : decode cX1_sum 31 = .ok (.idiv, 1) := by decide +kernel
theorem dX1_sum_32 : decode cX1_sum 32 = .ok (.istore 5, 2) := by decide +kernel
theorem dX1_sum_34 : decode cX1_sum 34 = .ok (.iload_n 2, 1) := by decide +kernel
theorem dX1_sum_35 : decode cX1_sum 35 = .ok (.sipush 4096, 3) := by decide +kernel
theorem dX1_sum_38 : decode cX1_sum 38 = .ok (.irem, 1) := by decide +kernel
theorem dX1_sum_39 : decode cX1_sum 39 = .ok (.istore 6, 2) := by decide +kernel
theorem dX1_sum_41 : decode cX1_sum 41 = .ok (.iload_n 3, 1) := by decide +kernel
theorem dX1_sum_42 : decode cX1_sum 42 = .ok (.iload 5, 2) := by decide +kernel
theorem dX1_sum_44 : decode cX1_sum 44 = .ok (.if_icmp .ne 17, 3) := by decide +kernel
theorem dX1_sum_47 : decode cX1_sum 47 = .ok (.aload_n 0, 1) := by decide +kernel
theorem dX1_sum_48 : decode cX1_sum 48 = .ok (.iload 4, 2) := by decide +kernel
theorem dX1_sum_50 : decode cX1_sum 50 = .ok (.iload 6, 2) := by decide +kernel
theorem dX1_sum_52 : decode cX1_sum 52 = .ok (.iadd, 1) := by decide +kernel
theorem dX1_sum_53 : decode cX1_sum 53 = .ok (.invokevirtual 26, 3) := by decide +kernel
theorem dX1_sum_56 : decode cX1_sum 56 = .ok (.ifCond .ne 5, 3) := by decide +kernel
theorem dX1_sum_59 : decode cX1_sum 59 = .ok (.iconst (-1), 1) := by decide +kernel
theorem dX1_sum_60 : decode cX1_sum 60 = .ok (.ireturn, 1) := by decide +kernel
theorem dX1_sum_61 : decode cX1_sum 61 = .ok (.iload_n 3, 1) := by decide +kernel
theorem dX1_sum_62 : decode cX1_sum 62 = .ok (.iload 5, 2) := by decide +kernel
theorem dX1_sum_64 : decode cX1_sum 64 = .ok (.if_icmp .ne 36, 3) := by decide +kernel
theorem dX1_sum_67 : decode cX1_sum 67 = .ok (.aload_n 0, 1) := by decide +kernel
theorem dX1_sum_68 : decode cX1_sum 68 = .ok (.aload_n 0, 1) := by decide +kernel
theorem dX1_sum_69 : decode cX1_sum 69 = .ok (.iconst 3, 1) := by decide +kernel
theorem dX1_sum_70 : decode cX1_sum 70 = .ok (.aload_n 0, 1) := by decide +kernel
theorem dX1_sum_71 : decode cX1_sum 71 = .ok (.iload_n 3, 1) := by decide +kernel
theorem dX1_sum_72 : decode cX1_sum 72 = .ok (.iload_n 3, 1) := by decide +kernel
theorem dX1_sum_73 : decode cX1_sum 73 = .ok (.imul, 1) := by decide +kernel
theorem dX1_sum_74 : decode cX1_sum 74 = .ok (.invokevirtual 26, 3) := by decide +kernel
theorem dX1_sum_77 : decode cX1_sum 77 = .ok (.imul, 1) := by decide +kernel
theorem dX1_sum_78 : decode cX1_sum 78 = .ok (.aload_n 0, 1) := by decide +kernel
theorem dX1_sum_79 : decode cX1_sum 79 = .ok (.getfield 13, 3) := by decide +kernel
theorem dX1_sum_82 : decode cX1_sum 82 = .ok (.iadd, 1) := by decide +kernel
theorem dX1_sum_83 : decode cX1_sum 83 = .ok (.invokevirtual 26, 3) := by decide +kernel
theorem dX1_sum_86 : decode cX1_sum 86 = .ok (.aload_n 0, 1) := by decide +kernel
theorem dX1_sum_87 : decode cX1_sum 87 = .ok (.iconst 2, 1) := by decide +kernel
theorem dX1_sum_88 : decode cX1_sum 88 = .ok (.iload 4, 2) := by decide +kernel
theorem dX1_sum_90 : decode cX1_sum 90 = .ok (.imul, 1) := by decide +kernel
theorem dX1_sum_91 : decode cX1_sum 91 = .ok (.invokevirtual 26, 3) := by decide +kernel
theorem dX1_sum_94 : decode cX1_sum 94 = .ok (.invokevirtual 40, 3) := by decide +kernel
theorem dX1_sum_97 : decode cX1_sum 97 = .ok (.goto 24, 3) := by decide +kernel
theorem dX1_sum_100 : decode cX1_sum 100 = .ok (.aload_n 0, 1) := by decide +kernel
theorem dX1_sum_101 : decode cX1_sum 101 = .ok (.aload_n 0, 1) := by decide +kernel
theorem dX1_sum_102 : decode cX1_sum 102 = .ok (.iload 6, 2) := by decide +kernel
theorem dX1_sum_104 : decode cX1_sum 104 = .ok (.iload 4, 2) := by decide +kernel
theorem dX1_sum_106 : decode cX1_sum 106 = .ok (.isub, 1) := by decide +kernel
theorem dX1_sum_107 : decode cX1_sum 107 = .ok (.invokevirtual 26, 3) := by decide +kernel
theorem dX1_sum_110 : decode cX1_sum 110 = .ok (.aload_n 0, 1) := by decide +kernel
theorem dX1_sum_111 : decode cX1_sum 111 = .ok (.iload 5, 2) := by decide +kernel
theorem dX1_sum_113 : decode cX1_sum 113 = .ok (.iload_n 3, 1) := by decide +kernel
theorem dX1_sum_114 : decode cX1_sum 114 = .ok (.isub, 1) := by decide +kernel
theorem dX1_sum_115 : decode cX1_sum 115 = .ok (.invokevirtual 26, 3) := by decide +kernel
theorem dX1_sum_118 : decode cX1_sum 118 = .ok (.invokevirtual 40, 3) := by decide +kernel
theorem dX1_sum_121 : decode cX1_sum 121 = .ok (.istore 7, 2) := by decide +kernel
theorem dX1_sum_123 : decode cX1_sum 123 = .ok (.aload_n 0, 1) := by decide +kernel
theorem dX1_sum_124 : decode cX1_sum 124 = .ok (.iload 7, 2) := by decide +kernel
theorem dX1_sum_126 : decode cX1_sum 126 = .ok (.iload 7, 2) := by decide +kernel
theorem dX1_sum_128 : decode cX1_sum 128 = .ok (.imul, 1) := by decide +kernel
theorem dX1_sum_129 : decode cX1_sum 129 = .ok (.iload_n 3, 1) := by decide +kernel
theorem dX1_sum_130 : decode cX1_sum 130 = .ok (.isub, 1) := by decide +kernel
theorem dX1_sum_131 : decode cX1_sum 131 = .ok (.iload 5, 2) := by decide +kernel
theorem dX1_sum_133 : decode cX1_sum 133 = .ok (.isub, 1) := by decide +kernel
theorem dX1_sum_134 : decode cX1_sum 134 = .ok (.invokevirtual 26, 3) := by decide +kernel
theorem dX1_sum_137 : decode cX1_sum 137 = .ok (.istore 8, 2) := by decide +kernel
theorem dX1_sum_139 : decode cX1_sum 139 = .ok (.aload_n 0, 1) := by decide +kernel
theorem dX1_sum_140 : decode cX1_sum 140 = .ok (.iload 7, 2) := by decide +kernel
theorem dX1_sum_142 : decode cX1_sum 142 = .ok (.aload_n 0, 1) := by decide +kernel
theorem dX1_sum_143 : decode cX1_sum 143 = .ok (.iload_n 3, 1) := by decide +kernel
theorem dX1_sum_144 : decode cX1_sum 144 = .ok (.iload 8, 2) := by decide +kernel
theorem dX1_sum_146 : decode cX1_sum 146 = .ok (.isub, 1) := by decide +kernel
theorem dX1_sum_147 : decode cX1_sum 147 = .ok (.invokevirtual 26, 3) := by decide +kernel
theorem dX1_sum_150 : decode cX1_sum 150 = .ok (.imul, 1) := by decide +kernel
theorem dX1_sum_151 : decode cX1_sum 151 = .ok (.iload 4, 2) := by decide +kernel
theorem dX1_sum_153 : decode cX1_sum 153 = .ok (.isub, 1) := by decide +kernel
theorem dX1_sum_154 : decode cX1_sum 154 = .ok (.invokevirtual 26, 3) := by decide +kernel
theorem dX1_sum_157 : decode cX1_sum 157 = .ok (.istore 9, 2) := by decide +kernel
theorem dX1_sum_159 : decode cX1_sum 159 = .ok (.sipush 4096, 3) := by decide +kernel
theorem dX1_sum_162 : decode cX1_sum 162 = .ok (.iload 8, 2) := by decide +kernel
theorem dX1_sum_164 : decode cX1_sum 164 = .ok (.imul, 1) := by decide +kernel
theorem dX1_sum_165 : decode cX1_sum 165 = .ok (.iload 9, 2) := by decide +kernel
theorem dX1_sum_167 : decode cX1_sum 167 = .ok (.iadd, 1) := by decide +kernel
theorem dX1_sum_168 : decode cX1_sum 168 = .ok (.ireturn, 1) := by decide +kernel
set_option maxRecDepth 20000 in
theorem ggX1_add_X1_on : GoodIn wsX1_add wsX1_on := goodIn_r _ [5, 6, 7, 8, 9, 4, 10, 11, 12, 13, 14, 15, 16, 25, 26, 27, 28, 29] (by decide +kernel) (by decide +kernel)
set_option maxRecDepth 20000 in
theorem gX1_add_X1_on : GoodIn wsX1_add (wsV RX1 44 RX1 yX1_on wsX1_on) := goodIn_app (goodIn_of _ (by decide +kernel)) ggX1_add_X1_on
set_option maxRecDepth 20000 in
theorem ggX1_add_X1_sum : GoodIn wsX1_add wsX1_sum := goodIn_r _ [20, 15, 7, 8, 9, 4, 10, 6, 21, 22, 23, 24, 25, 26, 27, 28, 29] (by decide +kernel) (by decide +kernel)
set_option maxRecDepth 20000 in
theorem gX1_add_X1_sum : GoodIn wsX1_add (wsV RX1 48 RX1 yX1_sum wsX1_sum) := goodIn_app (goodIn_of _ (by decide +kernel)) ggX1_add_X1_sum
theorem dX1_add_0 : decode cX1_add 0 = .ok (.aload_n 0, 1) := by decide +kernel
theorem dX1_add_1 : decode cX1_add 1 = .ok (.iload_n 1, 1) := by decide +kernel
theorem dX1_add_2 : decode cX1_add 2 = .ok (.invokevirtual 44, 3) := by decide +kernel
theorem dX1_add_5 : decode cX1_add 5 = .ok (.ifCond .eq 20, 3) := by decide +kernel
theorem dX1_add_8 : decode cX1_add 8 = .ok (.aload_n 0, 1) := by decide +kernel
theorem dX1_add_9 : decode cX1_add 9 = .ok (.iload_n 2, 1) := by decide +kernel
theorem dX1_add_10 : decode cX1_add 10 = .ok (.invokevirtual 44, 3) := by decide +kernel
theorem dX1_add_13 : decode cX1_add 13 = .ok (.ifCond .eq 12, 3) := by decide +kernel
theorem dX1_add_16 : decode cX1_add 16 = .ok (.aload_n 0, 1) := by decide +kernel
theorem dX1_add_17 : decode cX1_add 17 = .ok (.iload_n 1, 1) := by decide +kernel
theorem dX1_add_18 : decode cX1_add 18 = .ok (.iload_n 2, 1) := by decide +kernel
theorem dX1_add_19 : decode cX1_add 19 = .ok (.invokevirtual 48, 3) := by decide +kernel
theorem dX1_add_22 : decode cX1_add 22 = .ok (.goto 5, 3) := by decide +kernel
theorem dX1_add_25 : decode cX1_add 25 = .ok (.bipush (-2), 2) := by decide +kernel
theorem dX1_add_27 : decode cX1_add 27 = .ok (.ireturn, 1) := by decide +kernel
set_option maxRecDepth 20000 in
theorem ggX1_minus_X1_mod : GoodIn wsX1_minus wsX1_mod := goodIn_r _ [5, 6, 7, 8, 9, 10, 11] (by decide +kernel) (by decide +kernel)
set_option maxRecDepth 20000 in
theorem gX1_minus_X1_mod : GoodIn wsX1_minus (wsV RX1 26 RX1 yX1_mod wsX1_mod) := goodIn_app (goodIn_of _ (by decide +kernel)) ggX1_minus_X1_mod
theorem dX1_minus_0 : decode cX1_minus 0 = .ok (.iload_n 1, 1) := by decide +kernel
theorem dX1_minus_1 : decode cX1_minus 1 = .ok (.iconst (-1), 1) := by decide +kernel
theorem dX1_minus_2 : decode cX1_minus 2 = .ok (.if_icmp .ne 7, 3) := by decide +kernel
theorem dX1_minus_5 : decode cX1_minus 5 = .ok (.iconst (-1), 1) := by decide +kernel
theorem dX1_minus_6 : decode cX1_minus 6 = .ok (.goto 23, 3) := by decide +kernel
theorem dX1_minus_9 : decode cX1_minus 9 = .ok (.iload_n 1, 1) := by decide +kernel
theorem dX1_minus_10 : decode cX1_minus 10 = .ok (.sipush 4096, 3) := by decide +kernel
theorem dX1_minus_13 : decode cX1_minus 13 = .ok (.idiv, 1) := by decide +kernel
theorem dX1_minus_14 : decode cX1_minus 14 = .ok (.sipush 4096, 3) := by decide +kernel
theorem dX1_minus_17 : decode cX1_minus 17 = .ok (.imul, 1) := by decide +kernel
theorem dX1_minus_18 : decode cX1_minus 18 = .ok (.aload_n 0, 1) := by decide +kernel
theorem dX1_minus_19 : decode cX1_minus 19 = .ok (.iload_n 1, 1) := by decide +kernel
theorem dX1_minus_20 : decode cX1_minus 20 = .ok (.sipush 4096, 3) := by decide +kernel
theorem dX1_minus_23 : decode cX1_minus 23 = .ok (.irem, 1) := by decide +kernel
theorem dX1_minus_24 : decode cX1_minus 24 = .ok (.ineg, 1) := by decide +kernel
theorem dX1_minus_25 : decode cX1_minus 25 = .ok (.invokevirtual 26, 3) := by decide +kernel
theorem dX1_minus_28 : decode cX1_minus 28 = .ok (.iadd, 1) := by decide +kernel
theorem dX1_minus_29 : decode cX1_minus 29 = .ok (.ireturn, 1) := by decide +kernel
set_option maxRecDepth 20000 in
theorem ggX1_negative_X1_on : GoodIn wsX1_negative wsX1_on := goodIn_r _ [5, 6, 7, 8, 9, 4, 10, 11, 12, 13, 14, 15, 16, 21, 22, 23, 24, 25] (by decide +kernel) (by decide +kernel)
set_option maxRecDepth 20000 in
theorem gX1_negative_X1_on : GoodIn wsX1_negative (wsV RX1 44 RX1 yX1_on wsX1_on) := goodIn_app (goodIn_of _ (by decide +kernel)) ggX1_negative_X1_on
set_option maxRecDepth 20000 in
theorem ggX1_negative_X1_minus : GoodIn wsX1_negative wsX1_minus := goodIn_r _ [20, 7, 8, 9, 4, 10, 6, 21, 22, 23, 24, 25] (by decide +kernel) (by decide +kernel)
set_option maxRecDepth 20000 in
theorem gX1_negative_X1_minus : GoodIn wsX1_negative (wsV RX1 51 RX1 yX1_minus wsX1_minus) := goodIn_app (goodIn_of _ (by decide +kernel)) ggX1_negative_X1_minus
theorem dX1_negative_0 : decode cX1_negative 0 = .ok (.aload_n 0, 1) := by decide +kernel
theorem dX1_negative_1 : decode cX1_negative 1 = .ok (.iload_n 1, 1) := by decide +kernel
theorem dX1_negative_2 : decode cX1_negative 2 = .ok (.invokevirtual 44, 3) := by decide +kernel
theorem dX1_negative_5 : decode cX1_negative 5 = .ok (.ifCond .eq 11, 3) := by decide +kernel
theorem dX1_negative_8 : decode cX1_negative 8 = .ok (.aload_n 0, 1) := by decide +kernel
theorem dX1_negative_9 : decode cX1_negative 9 = .ok (.iload_n 1, 1) := by decide +kernel
theorem dX1_negative_10 : decode cX1_negative 10 = .ok (.invokevirtual 51, 3) := by decide +kernel
theorem dX1_negative_13 : decode cX1_negative 13 = .ok (.goto 5, 3) := by decide +kernel
theorem dX1_negative_16 : decode cX1_negative 16 = .ok (.bipush (-2), 2) := by decide +kernel
theorem dX1_negative_18 : decode cX1_negative 18 = .ok (.ireturn, 1) := by decide +kernel
set_option maxRecDepth 20000 in
theorem ggX1_order_X1_on : GoodIn wsX1_order wsX1_on := goodIn_r _ [5, 6, 7, 8, 9, 4, 10, 11, 12, 13, 14, 15, 16, 25, 26, 27, 28, 29] (by decide +kernel) (by decide +kernel)
set_option maxRecDepth 20000 in
theorem gX1_order_X1_on : GoodIn wsX1_order (wsV RX1 44 RX1 yX1_on wsX1_on) := goodIn_app (goodIn_of _ (by decide +kernel)) ggX1_order_X1_on
set_option maxRecDepth 20000 in
theorem ggX1_order_X1_sum : GoodIn wsX1_order wsX1_sum := goodIn_r _ [20, 15, 7, 8, 9, 4, 10, 6, 21, 22, 23, 24, 25, 26, 27, 28, 29] (by decide +kernel) (by decide +kernel)
set_option maxRecDepth 20000 in
theorem gX1_order_X1_sum : GoodIn wsX1_order (wsV RX1 48 RX1 yX1_sum wsX1_sum) := goodIn_app (goodIn_of _ (by decide +kernel)) ggX1_order_X1_sum
theorem dX1_order_0 : decode cX1_order 0 = .ok (.aload_n 0, 1) := by decide +kernel
theorem dX1_order_1 : decode cX1_order 1 = .ok (.iload_n 1, 1) := by decide +kernel
theorem dX1_order_2 : decode cX1_order 2 = .ok (.invokevirtual 44, 3) := by decide +kernel
theorem dX1_order_5 : decode cX1_order 5 = .ok (.ifCond .ne 6, 3) := by decide +kernel
theorem dX1_order_8 : decode cX1_order 8 = .ok (.bipush (-2), 2) := by decide +kernel
theorem dX1_order_10 : decode cX1_order 10 = .ok (.ireturn, 1) := by decide +kernel
theorem dX1_order_11 : decode cX1_order 11 = .ok (.iload_n 1, 1) := by decide +kernel
theorem dX1_order_12 : decode cX1_order 12 = .ok (.istore_n 2, 1) := by decide +kernel
theorem dX1_order_13 : decode cX1_order 13 = .ok (.iconst 1, 1) := by decide +kernel
theorem dX1_order_14 : decode cX1_order 14 = .ok (.istore_n 3, 1) := by decide +kernel
theorem dX1_order_15 : decode cX1_order 15 = .ok (.iload_n 2, 1) := by decide +kernel
theorem dX1_order_16 : decode cX1_order 16 = .ok (.iconst (-1), 1) := by decide +kernel
theorem dX1_order_17 : decode cX1_order 17 = .ok (.if_icmp .eq 23, 3) := by decide +kernel
theorem dX1_order_20 : decode cX1_order 20 = .ok (.iload_n 3, 1) := by decide +kernel
theorem dX1_order_21 : decode cX1_order 21 = .ok (.sipush 10000, 3) := by decide +kernel
theorem dX1_order_24 : decode cX1_order 24 = .ok (.if_icmp .ge 16, 3) := by decide +kernel
theorem dX1_order_27 : decode cX1_order 27 = .ok (.aload_n 0, 1) := by decide +kernel
theorem dX1_order_28 : decode cX1_order 28 = .ok (.iload_n 2, 1) := by decide +kernel
theorem dX1_order_29 : decode cX1_order 29 = .ok (.iload_n 1, 1) := by decide +kernel
theorem dX1_order_30 : decode cX1_order 30 = .ok (.invokevirtual 48, 3) := by decide +kernel
theorem dX1_order_33 : decode cX1_order 33 = .ok (.istore_n 2, 1) := by decide +kernel
theorem dX1_order_34 : decode cX1_order 34 = .ok (.iinc 3 1, 3) := by decide +kernel
theorem dX1_order_37 : decode cX1_order 37 = .ok (.goto (-22), 3) := by decide +kernel
theorem dX1_order_40 : decode cX1_order 40 = .ok (.iload_n 3, 1) := by decide +kernel
theorem dX1_order_41 : decode cX1_order 41 = .ok (.ireturn, 1) := by decide +kernel
set_option maxRecDepth 20000 in
theorem ggX1_times_X1_on : GoodIn wsX1_times wsX1_on := goodIn_r _ [5, 6, 7, 8, 9, 4, 10, 11, 12, 13, 14, 15, 16, 33, 34, 35, 36, 37] (by decide +kernel) (by decide +kernel)
set_option maxRecDepth 20000 in
theorem gX1_times_X1_on : GoodIn wsX1_times (wsV RX1 44 RX1 yX1_on wsX1_on) := goodIn_app (goodIn_of _ (by decide +kernel)) ggX1_times_X1_on
set_option maxRecDepth 20000 in
theorem ggX1_times_X1_order : GoodIn wsX1_times wsX1_order := goodIn_r _ [20, 1, 2, 3, 4, 5, 6, 7, 8, 9, 10, 11, 12, 13, 14, 15, 16, 21, 22, 23, 24, 25, 26, 27, 28, 33, 34, 35, 36, 37] (by decide +kernel) (by decide +kernel)
set_option maxRecDepth 20000 in
theorem gX1_times_X1_order : GoodIn wsX1_times (wsV RX1 54 RX1 yX1_order wsX1_order) := goodIn_app (goodIn_of _ (by decide +kernel)) ggX1_times_X1_order
set_option maxRecDepth 20000 in
theorem ggX1_times_X1_minus : GoodIn wsX1_times wsX1_minus := goodIn_r _ [32, 7, 8, 9, 4, 10, 6, 33, 34, 35, 36, 37] (by decide +kernel) (by decide +kernel)
set_option maxRecDepth 20000 in
theorem gX1_times_X1_minus : GoodIn wsX1_times (wsV RX1 51 RX1 yX1_minus wsX1_minus) := goodIn_app (goodIn_of _ (by decide +kernel)) ggX1_times_X1_minus
set_option maxRecDepth 20000 in
theorem ggX1_times_X1_sum : GoodIn wsX1_times wsX1_sum := goodIn_r _ [24, 15, 7, 8, 9, 4, 10, 6, 25, 26, 27, 28, 33, 34, 35, 36, 37] (by decide +kernel) (by decide +kernel)
set_option maxRecDepth 20000 in
theorem gX1_times_X1_sum : GoodIn wsX1_times (wsV RX1 48 RX1 yX1_sum wsX1_sum) := goodIn_app (goodIn_of _ (by decide +kernel)) ggX1_times_X1_sum
theorem dX1_times_0 : decode cX1_times 0 = .ok (.aload_n 0, 1) := by decide +kernel
theorem dX1_times_1 : decode cX1_times 1 = .ok (.iload_n 2, 1) := by decide +kernel
theorem dX1_times_2 : decode cX1_times 2 = .ok (.invokevirtual 44, 3) := by decide +kernel
theorem dX1_times_5 : decode cX1_times 5 = .ok (.ifCond .ne 6, 3) := by decide +kernel
theorem dX1_times_8 : decode cX1_times 8 = .ok (.bipush (-2), 2) := by decide +kernel
theorem dX1_times_10 : decode cX1_times 10 = .ok (.ireturn, 1) := by decide +kernel
theorem dX1_times_11 : decode cX1_times 11 = .ok (.aload_n 0, 1) := by decide +kernel
theorem dX1_times_12 : decode cX1_times 12 = .ok (.iload_n 2, 1) := by decide +kernel
theorem dX1_times_13 : decode cX1_times 13 = .ok (.invokevirtual 54, 3) := by decide +kernel
theorem dX1_times_16 : decode cX1_times 16 = .ok (.istore_n 3, 1) := by decide +kernel
theorem dX1_times_17 : decode cX1_times 17 = .ok (.iload_n 1, 1) := by decide +kernel
theorem dX1_times_18 : decode cX1_times 18 = .ok (.iload_n 3, 1) := by decide +kernel
theorem dX1_times_19 : decode cX1_times 19 = .ok (.irem, 1) := by decide +kernel
theorem dX1_times_20 : decode cX1_times 20 = .ok (.istore 4, 2) := by decide +kernel
theorem dX1_times_22 : decode cX1_times 22 = .ok (.iload 4, 2) := by decide +kernel
theorem dX1_times_24 : decode cX1_times 24 = .ok (.ifCond .ge 11, 3) := by decide +kernel
theorem dX1_times_27 : decode cX1_times 27 = .ok (.aload_n 0, 1) := by decide +kernel
theorem dX1_times_28 : decode cX1_times 28 = .ok (.iload_n 2, 1) := by decide +kernel
theorem dX1_times_29 : decode cX1_times 29 = .ok (.invokevirtual 51, 3) := by decide +kernel
theorem dX1_times_32 : decode cX1_times 32 = .ok (.goto 4, 3) := by decide +kernel
theorem dX1_times_35 : decode cX1_times 35 = .ok (.iload_n 2, 1) := by decide +kernel
theorem dX1_times_36 : decode cX1_times 36 = .ok (.istore 5, 2) := by decide +kernel
theorem dX1_times_38 : decode cX1_times 38 = .ok (.iload 4, 2) := by decide +kernel
theorem dX1_times_40 : decode cX1_times 40 = .ok (.ifCond .ge 8, 3) := by decide +kernel
theorem dX1_times_43 : decode cX1_times 43 = .ok (.iload 4, 2) := by decide +kernel
theorem dX1_times_45 : decode cX1_times 45 = .ok (.ineg, 1) := by decide +kernel
theorem dX1_times_46 : decode cX1_times 46 = .ok (.istore 4, 2) := by decide +kernel
theorem dX1_times_48 : decode cX1_times 48 = .ok (.iconst (-1), 1) := by decide +kernel
theorem dX1_times_49 : decode cX1_times 49 = .ok (.istore 6, 2) := by decide +kernel
theorem dX1_times_51 : decode cX1_times 51 = .ok (.iconst 0, 1) := by decide +kernel
theorem dX1_times_52 : decode cX1_times 52 = .ok (.istore 7, 2) := by decide +kernel
theorem dX1_times_54 : decode cX1_times 54 = .ok (.iload 7, 2) := by decide +kernel
theorem dX1_times_56 : decode cX1_times 56 = .ok (.iload 4, 2) := by decide +kernel
theorem dX1_times_58 : decode cX1_times 58 = .ok (.if_icmp .ge 19, 3) := by decide +kernel
theorem dX1_times_61 : decode cX1_times 61 = .ok (.aload_n 0, 1) := by decide +kernel
theorem dX1_times_62 : decode cX1_times 62 = .ok (.iload 6, 2) := by decide +kernel
theorem dX1_times_64 : decode cX1_times 64 = .ok (.iload 5, 2) := by decide +kernel
theorem dX1_times_66 : decode cX1_times 66 = .ok (.invokevirtual 48, 3) := by decide +kernel
theorem dX1_times_69 : decode cX1_times 69 = .ok (.istore 6, 2) := by decide +kernel
theorem dX1_times_71 : decode cX1_times 71 = .ok (.iinc 7 1, 3) := by decide +kernel
theorem dX1_times_74 : decode cX1_times 74 = .ok (.goto (-20), 3) := by decide +kernel
theorem dX1_times_77 : decode cX1_times 77 = .ok (.iload 6, 2) := by decide +kernel
theorem dX1_times_79 : decode cX1_times 79 = .ok (.ireturn, 1) := by decide +kernel
set_option maxRecDepth 20000 in
theorem ggX1_cube_X1_mod : GoodIn wsX1_cube wsX1_mod := goodIn_r _ [6, 7, 8, 9, 10, 11, 12] (by decide +kernel) (by decide +kernel)
set_option maxRecDepth 20000 in
theorem gX1_cube_X1_mod : GoodIn wsX1_cube (wsV RX1 26 RX1 yX1_mod wsX1_mod) := goodIn_app (goodIn_of _ (by decide +kernel)) ggX1_cube_X1_mod
theorem dX1_cube_0 : decode cX1_cube 0 = .ok (.aload_n 0, 1) := by decide +kernel
theorem dX1_cube_1 : decode cX1_cube 1 = .ok (.aload_n 0, 1) := by decide +kernel
theorem dX1_cube_2 : decode cX1_cube 2 = .ok (.aload_n 0, 1) := by decide +kernel
theorem dX1_cube_3 : decode cX1_cube 3 = .ok (.getfield 23, 3) := by decide +kernel
theorem dX1_cube_6 : decode cX1_cube 6 = .ok (.iload_n 1, 1) := by decide +kernel
theorem dX1_cube_7 : decode cX1_cube 7 = .ok (.iaload, 1) := by decide +kernel
theorem dX1_cube_8 : decode cX1_cube 8 = .ok (.aload_n 0, 1) := by decide +kernel
theorem dX1_cube_9 : decode cX1_cube 9 = .ok (.getfield 23, 3) := by decide +kernel
theorem dX1_cube_12 : decode cX1_cube 12 = .ok (.iload_n 1, 1) := by decide +kernel
theorem dX1_cube_13 : decode cX1_cube 13 = .ok (.iaload, 1) := by decide +kernel
theorem dX1_cube_14 : decode cX1_cube 14 = .ok (.imul, 1) := by decide +kernel
theorem dX1_cube_15 : decode cX1_cube 15 = .ok (.invokevirtual 26, 3) := by decide +kernel
theorem dX1_cube_18 : decode cX1_cube 18 = .ok (.aload_n 0, 1) := by decide +kernel
theorem dX1_cube_19 : decode cX1_cube 19 = .ok (.getfield 23, 3) := by decide +kernel
theorem dX1_cube_22 : decode cX1_cube 22 = .ok (.iload_n 1, 1) := by decide +kernel
theorem dX1_cube_23 : decode cX1_cube 23 = .ok (.iaload, 1) := by decide +kernel
theorem dX1_cube_24 : decode cX1_cube 24 = .ok (.imul, 1) := by decide +kernel
theorem dX1_cube_25 : decode cX1_cube 25 = .ok (.invokevirtual 26, 3) := by decide +kernel
theorem dX1_cube_28 : decode cX1_cube 28 = .ok (.ireturn, 1) := by decide +kernel
set_option maxRecDepth 20000 in
theorem ggX1_square_X1_mod : GoodIn wsX1_square wsX1_mod := goodIn_r _ [6, 7, 8, 9, 10, 11, 12] (by decide +kernel) (by decide +kernel)
set_option maxRecDepth 20000 in
theorem gX1_square_X1_mod : GoodIn wsX1_square (wsV RX1 26 RX1 yX1_mod wsX1_mod) := goodIn_app (goodIn_of _ (by decide +kernel)) ggX1_square_X1_mod
theorem dX1_square_0 : decode cX1_square 0 = .ok (.aload_n 0, 1) := by decide +kernel
theorem dX1_square_1 : decode cX1_square 1 = .ok (.aload_n 0, 1) := by decide +kernel
theorem dX1_square_2 : decode cX1_square 2 = .ok (.getfield 23, 3) := by decide +kernel
theorem dX1_square_5 : decode cX1_square 5 = .ok (.iload_n 1, 1) := by decide +kernel
theorem dX1_square_6 : decode cX1_square 6 = .ok (.iaload, 1) := by decide +kernel
theorem dX1_square_7 : decode cX1_square 7 = .ok (.aload_n 0, 1) := by decide +kernel
theorem dX1_square_8 : decode cX1_square 8 = .ok (.getfield 23, 3) := by decide +kernel
theorem dX1_square_11 : decode cX1_square 11 = .ok (.iload_n 1, 1) := by decide +kernel
theorem dX1_square_12 : decode cX1_square 12 = .ok (.iaload, 1) := by decide +kernel
theorem dX1_square_13 : decode cX1_square 13 = .ok (.imul, 1) := by decide +kernel
theorem dX1_square_14 : decode cX1_square 14 = .ok (.invokevirtual 26, 3) := by decide +kernel
theorem dX1_square_17 : decode cX1_square 17 = .ok (.ireturn, 1) := by decide +kernel
set_option maxRecDepth 20000 in
theorem ggX1_division_X1_mod : GoodIn wsX1_division wsX1_mod := goodIn_r _ [9, 1, 22, 23, 24, 25, 26] (by decide +kernel) (by decide +kernel)
set_option maxRecDepth 20000 in
theorem gX1_division_X1_mod : GoodIn wsX1_division (wsV RX1 26 RX1 yX1_mod wsX1_mod) := goodIn_app (goodIn_of _ (by decide +kernel)) ggX1_division_X1_mod
set_option maxRecDepth 20000 in
theorem ggX1_division_X1_right : GoodIn wsX1_division wsX1_right := goodIn_r _ [13, 2, 4, 5, 6, 7, 8, 9, 1, 22, 23, 24, 25, 26] (by decide +kernel) (by decide +kernel)
set_option maxRecDepth 20000 in
theorem gX1_division_X1_right : GoodIn wsX1_division (wsV RX1 33 RX1 yX1_right wsX1_right) := goodIn_app (goodIn_of _ (by decide +kernel)) ggX1_division_X1_right
set_option maxRecDepth 20000 in
theorem ggX1_division_X1_cube : GoodIn wsX1_division wsX1_cube := goodIn_r _ [17, 3, 5, 6, 7, 8, 9, 1, 22, 23, 24, 25, 26] (by decide +kernel) (by decide +kernel)
set_option maxRecDepth 20000 in
theorem gX1_division_X1_cube : GoodIn wsX1_division (wsV RX1 57 RX1 yX1_cube wsX1_cube) := goodIn_app (goodIn_of _ (by decide +kernel)) ggX1_division_X1_cube
set_option maxRecDepth 20000 in
theorem ggX1_division_X1_square : GoodIn wsX1_division wsX1_square := goodIn_r _ [21, 3, 5, 6, 7, 8, 9, 1, 22, 23, 24, 25, 26] (by decide +kernel) (by decide +kernel)
set_option maxRecDepth 20000 in
theorem gX1_division_X1_square : GoodIn wsX1_division (wsV RX1 60 RX1 yX1_square wsX1_square) := goodIn_app (goodIn_of _ (by decide +kernel)) ggX1_division_X1_square
theorem dX1_division_0 : decode cX1_division 0 = .ok (.iload_n 1, 1) := by decide +kernel
theorem dX1_division_1 : decode cX1_division 1 = .ok (.ifCond .lt 21, 3) := by decide +kernel
theorem dX1_division_4 : decode cX1_division 4 = .ok (.iload_n 1, 1) := by decide +kernel
theorem dX1_division_5 : decode cX1_division 5 = .ok (.bipush 40, 2) := by decide +kernel
theorem dX1_division_7 : decode cX1_division 7 = .ok (.if_icmp .gt 15, 3) := by decide +kernel
theorem dX1_division_10 : decode cX1_division 10 = .ok (.iload_n 2, 1) := by decide +kernel
theorem dX1_division_11 : decode cX1_division 11 = .ok (.ifCond .lt 11, 3) := by decide +kernel
theorem dX1_division_14 : decode cX1_division 14 = .ok (.iload_n 2, 1) := by decide +kernel
theorem dX1_division_15 : decode cX1_division 15 = .ok (.aload_n 0, 1) := by decide +kernel
theorem dX1_division_16 : decode cX1_division 16 = .ok (.getfield 7, 3) := by decide +kernel
theorem dX1_division_19 : decode cX1_division 19 = .ok (.if_icmp .lt 5, 3) := by decide +kernel
theorem dX1_division_22 : decode cX1_division 22 = .ok (.iconst (-1), 1) := by decide +kernel
theorem dX1_division_23 : decode cX1_division 23 = .ok (.ireturn, 1) := by decide +kernel
theorem dX1_division_24 : decode cX1_division 24 = .ok (.aload_n 0, 1) := by decide +kernel
theorem dX1_division_25 : decode cX1_division 25 = .ok (.iload_n 2, 1) := by decide +kernel
theorem dX1_division_26 : decode cX1_division 26 = .ok (.iload_n 2, 1) := by decide +kernel
theorem dX1_division_27 : decode cX1_division 27 = .ok (.imul, 1) := by decide +kernel
theorem dX1_division_28 : decode cX1_division 28 = .ok (.invokevirtual 26, 3) := by decide +kernel
theorem dX1_division_31 : decode cX1_division 31 = .ok (.istore_n 3, 1) := by decide +kernel
theorem dX1_division_32 : decode cX1_division 32 = .ok (.aload_n 0, 1) := by decide +kernel
theorem dX1_division_33 : decode cX1_division 33 = .ok (.iload_n 3, 1) := by decide +kernel
theorem dX1_division_34 : decode cX1_division 34 = .ok (.iload_n 2, 1) := by decide +kernel
theorem dX1_division_35 : decode cX1_division 35 = .ok (.imul, 1) := by decide +kernel
theorem dX1_division_36 : decode cX1_division 36 = .ok (.invokevirtual 26, 3) := by decide +kernel
theorem dX1_division_39 : decode cX1_division 39 = .ok (.istore 4, 2) := by decide +kernel
theorem dX1_division_41 : decode cX1_division 41 = .ok (.aload_n 0, 1) := by decide +kernel
theorem dX1_division_42 : decode cX1_division 42 = .ok (.iconst 4, 1) := by decide +kernel
theorem dX1_division_43 : decode cX1_division 43 = .ok (.aload_n 0, 1) := by decide +kernel
theorem dX1_division_44 : decode cX1_division 44 = .ok (.iload_n 2, 1) := by decide +kernel
theorem dX1_division_45 : decode cX1_division 45 = .ok (.invokevirtual 33, 3) := by decide +kernel
theorem dX1_division_48 : decode cX1_division 48 = .ok (.imul, 1) := by decide +kernel
theorem dX1_division_49 : decode cX1_division 49 = .ok (.invokevirtual 26, 3) := by decide +kernel
theorem dX1_division_52 : decode cX1_division 52 = .ok (.istore 5, 2) := by decide +kernel
theorem dX1_division_54 : decode cX1_division 54 = .ok (.aload_n 0, 1) := by decide +kernel
theorem dX1_division_55 : decode cX1_division 55 = .ok (.iload 5, 2) := by decide +kernel
theorem dX1_division_57 : decode cX1_division 57 = .ok (.iload 5, 2) := by decide +kernel
theorem dX1_division_59 : decode cX1_division 59 = .ok (.imul, 1) := by decide +kernel
theorem dX1_division_60 : decode cX1_division 60 = .ok (.invokevirtual 26, 3) := by decide +kernel
theorem dX1_division_63 : decode cX1_division 63 = .ok (.istore 6, 2) := by decide +kernel
theorem dX1_division_65 : decode cX1_division 65 = .ok (.aload_n 0, 1) := by decide +kernel
theorem dX1_division_66 : decode cX1_division 66 = .ok (.aload_n 0, 1) := by decide +kernel
theorem dX1_division_67 : decode cX1_division 67 = .ok (.getfield 13, 3) := by decide +kernel
theorem dX1_division_70 : decode cX1_division 70 = .ok (.aload_n 0, 1) := by decide +kernel
theorem dX1_division_71 : decode cX1_division 71 = .ok (.getfield 13, 3) := by decide +kernel
theorem dX1_division_74 : decode cX1_division 74 = .ok (.imul, 1) := by decide +kernel
theorem dX1_division_75 : decode cX1_division 75 = .ok (.invokevirtual 26, 3) := by decide +kernel
theorem dX1_division_78 : decode cX1_division 78 = .ok (.istore 7, 2) := by decide +kernel
theorem dX1_division_80 : decode cX1_division 80 = .ok (.aload_n 0, 1) := by decide +kernel
theorem dX1_division_81 : decode cX1_division 81 = .ok (.getfield 23, 3) := by decide +kernel
theorem dX1_division_84 : decode cX1_division 84 = .ok (.iconst 0, 1) := by decide +kernel
theorem dX1_division_85 : decode cX1_division 85 = .ok (.iconst 0, 1) := by decide +kernel
theorem dX1_division_86 : decode cX1_division 86 = .ok (.iastore, 1) := by decide +kernel
theorem dX1_division_87 : decode cX1_division 87 = .ok (.aload_n 0, 1) := by decide +kernel
theorem dX1_division_88 : decode cX1_division 88 = .ok (.getfield 23, 3) := by decide +kernel
theorem dX1_division_91 : decode cX1_division 91 = .ok (.iconst 1, 1) := by decide +kernel
theorem dX1_division_92 : decode cX1_division 92 = .ok (.iconst 1, 1) := by decide +kernel
theorem dX1_division_93 : decode cX1_division 93 = .ok (.iastore, 1) := by decide +kernel
theorem dX1_division_94 : decode cX1_division 94 = .ok (.aload_n 0, 1) := by decide +kernel
theorem dX1_division_95 : decode cX1_division 95 = .ok (.getfield 23, 3) := by decide +kernel
theorem dX1_division_98 : decode cX1_division 98 = .ok (.iconst 2, 1) := by decide +kernel
theorem dX1_division_99 : decode cX1_division 99 = .ok (.iconst 1, 1) := by decide +kernel
theorem dX1_division_100 : decode cX1_division 100 = .ok (.iastore, 1) := by decide +kernel
theorem dX1_division_101 : decode cX1_division 101 = .ok (.aload_n 0, 1) := by decide +kernel
theorem dX1_division_102 : decode cX1_division 102 = .ok (.getfield 23, 3) := by decide +kernel
theorem dX1_division_105 : decode cX1_division 105 = .ok (.iconst 3, 1) := by decide +kernel
theorem dX1_division_106 : decode cX1_division 106 = .ok (.aload_n 0, 1) := by decide +kernel
theorem dX1_division_107 : decode cX1_division 107 = .ok (.iconst 3, 1) := by decide +kernel
theorem dX1_division_108 : decode cX1_division 108 = .ok (.aload_n 0, 1) := by decide +kernel
theorem dX1_division_109 : decode cX1_division 109 = .ok (.iload_n 3, 1) := by decide +kernel
theorem dX1_division_110 : decode cX1_division 110 = .ok (.iload_n 3, 1) := by decide +kernel
theorem dX1_division_111 : decode cX1_division 111 = .ok (.imul, 1) := by decide +kernel
theorem dX1_division_112 : decode cX1_division 112 = .ok (.invokevirtual 26, 3) := by decide +kernel
theorem dX1_division_115 : decode cX1_division 115 = .ok (.imul, 1) := by decide +kernel
theorem dX1_division_116 : decode cX1_division 116 = .ok (.bipush 6, 2) := by decide +kernel
theorem dX1_division_118 : decode cX1_division 118 = .ok (.aload_n 0, 1) := by decide +kernel
theorem dX1_division_119 : decode cX1_division 119 = .ok (.aload_n 0, 1) := by decide +kernel
theorem dX1_division_120 : decode cX1_division 120 = .ok (.getfield 13, 3) := by decide +kernel
theorem dX1_division_123 : decode cX1_division 123 = .ok (.iload_n 3, 1) := by decide +kernel
theorem dX1_division_124 : decode cX1_division 124 = .ok (.imul, 1) := by decide +kernel
theorem dX1_division_125 : decode cX1_division 125 = .ok (.invokevirtual 26, 3) := by decide +kernel
theorem dX1_division_128 : decode cX1_division 128 = .ok (.imul, 1) := by decide +kernel
theorem dX1_division_129 : decode cX1_division 129 = .ok (.iadd, 1) := by decide +kernel
theorem dX1_division_130 : decode cX1_division 130 = .ok (.bipush 12, 2) := by decide +kernel
theorem dX1_division_132 : decode cX1_division 132 = .ok (.aload_n 0, 1) := by decide +kernel
theorem dX1_division_133 : decode cX1_division 133 = .ok (.aload_n 0, 1) := by decide +kernel
theorem dX1_division_134 : decode cX1_division 134 = .ok (.getfield 16, 3) := by decide +kernel
theorem dX1_division_137 : decode cX1_division 137 = .ok (.iload_n 2, 1) := by decide +kernel
theorem dX1_division_138 : decode cX1_division 138 = .ok (.imul, 1) := by decide +kernel
theorem dX1_division_139 : decode cX1_division 139 = .ok (.invokevirtual 26, 3) := by decide +kernel
theorem dX1_division_142 : decode cX1_division 142 = .ok (.imul, 1) := by decide +kernel
theorem dX1_division_143 : decode cX1_division 143 = .ok (.iadd, 1) := by decide +kernel
theorem dX1_division_144 : decode cX1_division 144 = .ok (.iload 7, 2) := by decide +kernel
theorem dX1_division_146 : decode cX1_division 146 = .ok (.isub, 1) := by decide +kernel
theorem dX1_division_147 : decode cX1_division 147 = .ok (.invokevirtual 26, 3) := by decide +kernel
theorem dX1_division_150 : decode cX1_division 150 = .ok (.iastore, 1) := by decide +kernel
theorem dX1_division_151 : decode cX1_division 151 = .ok (.aload_n 0, 1) := by decide +kernel
theorem dX1_division_152 : decode cX1_division 152 = .ok (.iload 4, 2) := by decide +kernel
theorem dX1_division_154 : decode cX1_division 154 = .ok (.iload 4, 2) := by decide +kernel
theorem dX1_division_156 : decode cX1_division 156 = .ok (.imul, 1) := by decide +kernel
theorem dX1_division_157 : decode cX1_division 157 = .ok (.invokevirtual 26, 3) := by decide +kernel
theorem dX1_division_160 : decode cX1_division 160 = .ok (.iconst 5, 1) := by decide +kernel
theorem dX1_division_161 : decode cX1_division 161 = .ok (.aload_n 0, 1) := by decide +kernel
theorem dX1_division_162 : decode cX1_division 162 = .ok (.aload_n 0, 1) := by decide +kernel
theorem dX1_division_163 : decode cX1_division 163 = .ok (.aload_n 0, 1) := by decide +kernel
theorem dX1_division_164 : decode cX1_division 164 = .ok (.getfield 13, 3) := by decide +kernel
theorem dX1_division_167 : decode cX1_division 167 = .ok (.iload_n 3, 1) := by decide +kernel
theorem dX1_division_168 : decode cX1_division 168 = .ok (.imul, 1) := by decide +kernel
theorem dX1_division_169 : decode cX1_division 169 = .ok (.invokevirtual 26, 3) := by decide +kernel
theorem dX1_division_172 : decode cX1_division 172 = .ok (.iload_n 3, 1) := by decide +kernel
theorem dX1_division_173 : decode cX1_division 173 = .ok (.imul, 1) := by decide +kernel
theorem dX1_division_174 : decode cX1_division 174 = .ok (.invokevirtual 26, 3) := by decide +kernel
theorem dX1_division_177 : decode cX1_division 177 = .ok (.imul, 1) := by decide +kernel
theorem dX1_division_178 : decode cX1_division 178 = .ok (.iadd, 1) := by decide +kernel
theorem dX1_division_179 : decode cX1_division 179 = .ok (.bipush 20, 2) := by decide +kernel
theorem dX1_division_181 : decode cX1_division 181 = .ok (.aload_n 0, 1) := by decide +kernel
theorem dX1_division_182 : decode cX1_division 182 = .ok (.aload_n 0, 1) := by decide +kernel
theorem dX1_division_183 : decode cX1_division 183 = .ok (.getfield 16, 3) := by decide +kernel
theorem dX1_division_186 : decode cX1_division 186 = .ok (.iload 4, 2) := by decide +kernel
theorem dX1_division_188 : decode cX1_division 188 = .ok (.imul, 1) := by decide +kernel
theorem dX1_division_189 : decode cX1_division 189 = .ok (.invokevirtual 26, 3) := by decide +kernel
theorem dX1_division_192 : decode cX1_division 192 = .ok (.imul, 1) := by decide +kernel
theorem dX1_division_193 : decode cX1_division 193 = .ok (.iadd, 1) := by decide +kernel
theorem dX1_division_194 : decode cX1_division 194 = .ok (.iconst 5, 1) := by decide +kernel
theorem dX1_division_195 : decode cX1_division 195 = .ok (.aload_n 0, 1) := by decide +kernel
theorem dX1_division_196 : decode cX1_division 196 = .ok (.iload 7, 2) := by decide +kernel
theorem dX1_division_198 : decode cX1_division 198 = .ok (.iload_n 3, 1) := by decide +kernel
theorem dX1_division_199 : decode cX1_division 199 = .ok (.imul, 1) := by decide +kernel
theorem dX1_division_200 : decode cX1_division 200 = .ok (.invokevirtual 26, 3) := by decide +kernel
theorem dX1_division_203 : decode cX1_division 203 = .ok (.imul, 1) := by decide +kernel
theorem dX1_division_204 : decode cX1_division 204 = .ok (.isub, 1) := by decide +kernel
theorem dX1_division_205 : decode cX1_division 205 = .ok (.iconst 4, 1) := by decide +kernel
theorem dX1_division_206 : decode cX1_division 206 = .ok (.aload_n 0, 1) := by decide +kernel
theorem dX1_division_207 : decode cX1_division 207 = .ok (.aload_n 0, 1) := by decide +kernel
theorem dX1_division_208 : decode cX1_division 208 = .ok (.aload_n 0, 1) := by decide +kernel
theorem dX1_division_209 : decode cX1_division 209 = .ok (.getfield 13, 3) := by decide +kernel
theorem dX1_division_212 : decode cX1_division 212 = .ok (.aload_n 0, 1) := by decide +kernel
theorem dX1_division_213 : decode cX1_division 213 = .ok (.getfield 16, 3) := by decide +kernel
theorem dX1_division_216 : decode cX1_division 216 = .ok (.imul, 1) := by decide +kernel
theorem dX1_division_217 : decode cX1_division 217 = .ok (.invokevirtual 26, 3) := by decide +kernel
theorem dX1_division_220 : decode cX1_division 220 = .ok (.iload_n 2, 1) := by decide +kernel
theorem dX1_division_221 : decode cX1_division 221 = .ok (.imul, 1) := by decide +kernel
theorem dX1_division_222 : decode cX1_division 222 = .ok (.invokevirtual 26, 3) := by decide +kernel
theorem dX1_division_225 : decode cX1_division 225 = .ok (.imul, 1) := by decide +kernel
theorem dX1_division_226 : decode cX1_division 226 = .ok (.isub, 1) := by decide +kernel
theorem dX1_division_227 : decode cX1_division 227 = .ok (.bipush 8, 2) := by decide +kernel
theorem dX1_division_229 : decode cX1_division 229 = .ok (.aload_n 0, 1) := by decide +kernel
theorem dX1_division_230 : decode cX1_division 230 = .ok (.aload_n 0, 1) := by decide +kernel
theorem dX1_division_231 : decode cX1_division 231 = .ok (.getfield 16, 3) := by decide +kernel
theorem dX1_division_234 : decode cX1_division 234 = .ok (.aload_n 0, 1) := by decide +kernel
theorem dX1_division_235 : decode cX1_division 235 = .ok (.getfield 16, 3) := by decide +kernel
theorem dX1_division_238 : decode cX1_division 238 = .ok (.imul, 1) := by decide +kernel
theorem dX1_division_239 : decode cX1_division 239 = .ok (.invokevirtual 26, 3) := by decide +kernel
theorem dX1_division_242 : decode cX1_division 242 = .ok (.imul, 1) := by decide +kernel
theorem dX1_division_243 : decode cX1_division 243 = .ok (.isub, 1) := by decide +kernel
theorem dX1_division_244 : decode cX1_division 244 = .ok (.aload_n 0, 1) := by decide +kernel
theorem dX1_division_245 : decode cX1_division 245 = .ok (.iload 7, 2) := by decide +kernel
theorem dX1_division_247 : decode cX1_division 247 = .ok (.aload_n 0, 1) := by decide +kernel
theorem dX1_division_248 : decode cX1_division 248 = .ok (.getfield 13, 3) := by decide +kernel
theorem dX1_division_251 : decode cX1_division 251 = .ok (.imul, 1) := by decide +kernel
theorem dX1_division_252 : decode cX1_division 252 = .ok (.invokevirtual 26, 3) := by decide +kernel
theorem dX1_division_255 : decode cX1_division 255 = .ok (.isub, 1) := by decide +kernel
theorem dX1_division_256 : decode cX1_division 256 = .ok (.istore 8, 2) := by decide +kernel
theorem dX1_division_258 : decode cX1_division 258 = .ok (.aload_n 0, 1) := by decide +kernel
theorem dX1_division_259 : decode cX1_division 259 = .ok (.getfield 23, 3) := by decide +kernel
theorem dX1_division_262 : decode cX1_division 262 = .ok (.iconst 4, 1) := by decide +kernel
theorem dX1_division_263 : decode cX1_division 263 = .ok (.aload_n 0, 1) := by decide +kernel
theorem dX1_division_264 : decode cX1_division 264 = .ok (.iconst 2, 1) := by decide +kernel
theorem dX1_division_265 : decode cX1_division 265 = .ok (.aload_n 0, 1) := by decide +kernel
theorem dX1_division_266 : decode cX1_division 266 = .ok (.iload 8, 2) := by decide +kernel
theorem dX1_division_268 : decode cX1_division 268 = .ok (.invokevirtual 26, 3) := by decide +kernel
theorem dX1_division_271 : decode cX1_division 271 = .ok (.imul, 1) := by decide +kernel
theorem dX1_division_272 : decode cX1_division 272 = .ok (.invokevirtual 26, 3) := by decide +kernel
theorem dX1_division_275 : decode cX1_division 275 = .ok (.iastore, 1) := by decide +kernel
theorem dX1_division_276 : decode cX1_division 276 = .ok (.iconst 5, 1) := by decide +kernel
theorem dX1_division_277 : decode cX1_division 277 = .ok (.istore 9, 2) := by decide +kernel
theorem dX1_division_279 : decode cX1_division 279 = .ok (.iload 9, 2) := by decide +kernel
theorem dX1_division_281 : decode cX1_division 281 = .ok (.iload_n 1, 1) := by decide +kernel
theorem dX1_division_282 : decode cX1_division 282 = .ok (.if_icmp .gt 207, 3) := by decide +kernel
theorem dX1_division_285 : decode cX1_division 285 = .ok (.iload 9, 2) := by decide +kernel
theorem dX1_division_287 : decode cX1_division 287 = .ok (.iconst 2, 1) := by decide +kernel
theorem dX1_division_288 : decode cX1_division 288 = .ok (.idiv, 1) := by decide +kernel
theorem dX1_division_289 : decode cX1_division 289 = .ok (.istore 10, 2) := by decide +kernel
theorem dX1_division_291 : decode cX1_division 291 = .ok (.aload_n 0, 1) := by decide +kernel
theorem dX1_division_292 : decode cX1_division 292 = .ok (.aload_n 0, 1) := by decide +kernel
theorem dX1_division_293 : decode cX1_division 293 = .ok (.getfield 23, 3) := by decide +kernel
theorem dX1_division_296 : decode cX1_division 296 = .ok (.iload 10, 2) := by decide +kernel
theorem dX1_division_298 : decode cX1_division 298 = .ok (.iconst 2, 1) := by decide +kernel
theorem dX1_division_299 : decode cX1_division 299 = .ok (.iadd, 1) := by decide +kernel
theorem dX1_division_300 : decode cX1_division 300 = .ok (.iaload, 1) := by decide +kernel
theorem dX1_division_301 : decode cX1_division 301 = .ok (.iload 9, 2) := by decide +kernel
theorem dX1_division_303 : decode cX1_division 303 = .ok (.iconst 2, 1) := by decide +kernel
theorem dX1_division_304 : decode cX1_division 304 = .ok (.irem, 1) := by decide +kernel
theorem dX1_division_305 : decode cX1_division 305 = .ok (.iconst 1, 1) := by decide +kernel
theorem dX1_division_306 : decode cX1_division 306 = .ok (.if_icmp .ne 12, 3) := by decide +kernel
theorem dX1_division_309 : decode cX1_division 309 = .ok (.aload_n 0, 1) := by decide +kernel
theorem dX1_division_310 : decode cX1_division 310 = .ok (.iload 10, 2) := by decide +kernel
theorem dX1_division_312 : decode cX1_division 312 = .ok (.invokevirtual 57, 3) := by decide +kernel
theorem dX1_division_315 : decode cX1_division 315 = .ok (.goto 11, 3) := by decide +kernel
theorem dX1_division_318 : decode cX1_division 318 = .ok (.aload_n 0, 1) := by decide +kernel
theorem dX1_division_319 : decode cX1_division 319 = .ok (.iload 10, 2) := by decide +kernel
theorem dX1_division_321 : decode cX1_division 321 = .ok (.iconst 1, 1) := by decide +kernel
theorem dX1_division_322 : decode cX1_division 322 = .ok (.isub, 1) := by decide +kernel
theorem dX1_division_323 : decode cX1_division 323 = .ok (.invokevirtual 60, 3) := by decide +kernel
theorem dX1_division_326 : decode cX1_division 326 = .ok (.imul, 1) := by decide +kernel
theorem dX1_division_327 : decode cX1_division 327 = .ok (.invokevirtual 26, 3) := by decide +kernel
theorem dX1_division_330 : decode cX1_division 330 = .ok (.istore 11, 2) := by decide +kernel
theorem dX1_division_332 : decode cX1_division 332 = .ok (.iload 9, 2) := by decide +kernel
theorem dX1_division_334 : decode cX1_division 334 = .ok (.iconst 2, 1) := by decide +kernel
theorem dX1_division_335 : decode cX1_division 335 = .ok (.irem, 1) := by decide +kernel
theorem dX1_division_336 : decode cX1_division 336 = .ok (.iconst 1, 1) := by decide +kernel
theorem dX1_division_337 : decode cX1_division 337 = .ok (.if_icmp .ne 28, 3) := by decide +kernel
theorem dX1_division_340 : decode cX1_division 340 = .ok (.aload_n 0, 1) := by decide +kernel
theorem dX1_division_341 : decode cX1_division 341 = .ok (.aload_n 0, 1) := by decide +kernel
theorem dX1_division_342 : decode cX1_division 342 = .ok (.getfield 23, 3) := by decide +kernel
theorem dX1_division_345 : decode cX1_division 345 = .ok (.iload 10, 2) := by decide +kernel
theorem dX1_division_347 : decode cX1_division 347 = .ok (.iconst 1, 1) := by decide +kernel
theorem dX1_division_348 : decode cX1_division 348 = .ok (.isub, 1) := by decide +kernel
theorem dX1_division_349 : decode cX1_division 349 = .ok (.iaload, 1) := by decide +kernel
theorem dX1_division_350 : decode cX1_division 350 = .ok (.aload_n 0, 1) := by decide +kernel
theorem dX1_division_351 : decode cX1_division 351 = .ok (.iload 10, 2) := by decide +kernel
theorem dX1_division_353 : decode cX1_division 353 = .ok (.iconst 1, 1) := by decide +kernel
theorem dX1_division_354 : decode cX1_division 354 = .ok (.iadd, 1) := by decide +kernel
theorem dX1_division_355 : decode cX1_division 355 = .ok (.invokevirtual 57, 3) := by decide +kernel
theorem dX1_division_358 : decode cX1_division 358 = .ok (.imul, 1) := by decide +kernel
theorem dX1_division_359 : decode cX1_division 359 = .ok (.invokevirtual 26, 3) := by decide +kernel
theorem dX1_division_362 : decode cX1_division 362 = .ok (.goto 25, 3) := by decide +kernel
theorem dX1_division_365 : decode cX1_division 365 = .ok (.aload_n 0, 1) := by decide +kernel
theorem dX1_division_366 : decode cX1_division 366 = .ok (.aload_n 0, 1) := by decide +kernel
theorem dX1_division_367 : decode cX1_division 367 = .ok (.getfield 23, 3) := by decide +kernel
theorem dX1_division_370 : decode cX1_division 370 = .ok (.iload 10, 2) := by decide +kernel
theorem dX1_division_372 : decode cX1_division 372 = .ok (.iconst 2, 1) := by decide +kernel
theorem dX1_division_373 : decode cX1_division 373 = .ok (.isub, 1) := by decide +kernel
theorem dX1_division_374 : decode cX1_division 374 = .ok (.iaload, 1) := by decide +kernel
theorem dX1_division_375 : decode cX1_division 375 = .ok (.aload_n 0, 1) := by decide +kernel
theorem dX1_division_376 : decode cX1_division 376 = .ok (.iload 10, 2) := by decide +kernel
theorem dX1_division_378 : decode cX1_division 378 = .ok (.iconst 1, 1) := by decide +kernel
theorem dX1_division_379 : decode cX1_division 379 = .ok (.iadd, 1) := by decide +kernel
theorem dX1_division_380 : decode cX1_division 380 = .ok (.invokevirtual 60, 3) := by decide +kernel
theorem dX1_division_383 : decode cX1_division 383 = .ok (.imul, 1) := by decide +kernel
theorem dX1_division_384 : decode cX1_division 384 = .ok (.invokevirtual 26, 3) := by decide +kernel
theorem dX1_division_387 : decode cX1_division 387 = .ok (.istore 12, 2) := by decide +kernel
theorem dX1_division_389 : decode cX1_division 389 = .ok (.iload 9, 2) := by decide +kernel
theorem dX1_division_391 : decode cX1_division 391 = .ok (.iconst 2, 1) := by decide +kernel
theorem dX1_division_392 : decode cX1_division 392 = .ok (.irem, 1) := by decide +kernel
theorem dX1_division_393 : decode cX1_division 393 = .ok (.ifCond .ne 34, 3) := by decide +kernel
theorem dX1_division_396 : decode cX1_division 396 = .ok (.aload_n 0, 1) := by decide +kernel
theorem dX1_division_397 : decode cX1_division 397 = .ok (.getfield 23, 3) := by decide +kernel
theorem dX1_division_400 : decode cX1_division 400 = .ok (.iload 9, 2) := by decide +kernel
theorem dX1_division_402 : decode cX1_division 402 = .ok (.aload_n 0, 1) := by decide +kernel
theorem dX1_division_403 : decode cX1_division 403 = .ok (.aload_n 0, 1) := by decide +kernel
theorem dX1_division_404 : decode cX1_division 404 = .ok (.getfield 23, 3) := by decide +kernel
theorem dX1_division_407 : decode cX1_division 407 = .ok (.iload 10, 2) := by decide +kernel
theorem dX1_division_409 : decode cX1_division 409 = .ok (.iaload, 1) := by decide +kernel
theorem dX1_division_410 : decode cX1_division 410 = .ok (.aload_n 0, 1) := by decide +kernel
theorem dX1_division_411 : decode cX1_division 411 = .ok (.iload 11, 2) := by decide +kernel
theorem dX1_division_413 : decode cX1_division 413 = .ok (.iload 12, 2) := by decide +kernel
theorem dX1_division_415 : decode cX1_division 415 = .ok (.isub, 1) := by decide +kernel
theorem dX1_division_416 : decode cX1_division 416 = .ok (.invokevirtual 26, 3) := by decide +kernel
theorem dX1_division_419 : decode cX1_division 419 = .ok (.imul, 1) := by decide +kernel
theorem dX1_division_420 : decode cX1_division 420 = .ok (.invokevirtual 26, 3) := by decide +kernel
theorem dX1_division_423 : decode cX1_division 423 = .ok (.iastore, 1) := by decide +kernel
theorem dX1_division_424 : decode cX1_division 424 = .ok (.goto 59, 3) := by decide +kernel
theorem dX1_division_427 : decode cX1_division 427 = .ok (.iload 10, 2) := by decide +kernel
theorem dX1_division_429 : decode cX1_division 429 = .ok (.iconst 2, 1) := by decide +kernel
theorem dX1_division_430 : decode cX1_division 430 = .ok (.irem, 1) := by decide +kernel
theorem dX1_division_431 : decode cX1_division 431 = .ok (.ifCond .ne 29, 3) := by decide +kernel
theorem dX1_division_434 : decode cX1_division 434 = .ok (.aload_n 0, 1) := by decide +kernel
theorem dX1_division_435 : decode cX1_division 435 = .ok (.getfield 23, 3) := by decide +kernel
theorem dX1_division_438 : decode cX1_division 438 = .ok (.iload 9, 2) := by decide +kernel
theorem dX1_division_440 : decode cX1_division 440 = .ok (.aload_n 0, 1) := by decide +kernel
theorem dX1_division_441 : decode cX1_division 441 = .ok (.aload_n 0, 1) := by decide +kernel
theorem dX1_division_442 : decode cX1_division 442 = .ok (.iload 6, 2) := by decide +kernel
theorem dX1_division_444 : decode cX1_division 444 = .ok (.iload 11, 2) := by decide +kernel
theorem dX1_division_446 : decode cX1_division 446 = .ok (.imul, 1) := by decide +kernel
theorem dX1_division_447 : decode cX1_division 447 = .ok (.invokevirtual 26, 3) := by decide +kernel
theorem dX1_division_450 : decode cX1_division 450 = .ok (.iload 12, 2) := by decide +kernel
theorem dX1_division_452 : decode cX1_division 452 = .ok (.isub, 1) := by decide +kernel
theorem dX1_division_453 : decode cX1_division 453 = .ok (.invokevirtual 26, 3) := by decide +kernel
theorem dX1_division_456 : decode cX1_division 456 = .ok (.iastore, 1) := by decide +kernel
theorem dX1_division_457 : decode cX1_division 457 = .ok (.goto 26, 3) := by decide +kernel
theorem dX1_division_460 : decode cX1_division 460 = .ok (.aload_n 0, 1) := by decide +kernel
theorem dX1_division_461 : decode cX1_division 461 = .ok (.getfield 23, 3) := by decide +kernel
theorem dX1_division_464 : decode cX1_division 464 = .ok (.iload 9, 2) := by decide +kernel
theorem dX1_division_466 : decode cX1_division 466 = .ok (.aload_n 0, 1) := by decide +kernel
theorem dX1_division_467 : decode cX1_division 467 = .ok (.iload 11, 2) := by decide +kernel
theorem dX1_division_469 : decode cX1_division 469 = .ok (.aload_n 0, 1) := by decide +kernel
theorem dX1_division_470 : decode cX1_division 470 = .ok (.iload 6, 2) := by decide +kernel
theorem dX1_division_472 : decode cX1_division 472 = .ok (.iload 12, 2) := by decide +kernel
theorem dX1_division_474 : decode cX1_division 474 = .ok (.imul, 1) := by decide +kernel
theorem dX1_division_475 : decode cX1_division 475 = .ok (.invokevirtual 26, 3) := by decide +kernel
theorem dX1_division_478 : decode cX1_division 478 = .ok (.isub, 1) := by decide +kernel
theorem dX1_division_479 : decode cX1_division 479 = .ok (.invokevirtual 26, 3) := by decide +kernel
theorem dX1_division_482 : decode cX1_division 482 = .ok (.iastore, 1) := by decide +kernel
theorem dX1_division_483 : decode cX1_division 483 = .ok (.iinc 9 1, 3) := by decide +kernel
theorem dX1_division_486 : decode cX1_division 486 = .ok (.goto (-207), 3) := by decide +kernel
theorem dX1_division_489 : decode cX1_division 489 = .ok (.aload_n 0, 1) := by decide +kernel
theorem dX1_division_490 : decode cX1_division 490 = .ok (.getfield 23, 3) := by decide +kernel
theorem dX1_division_493 : decode cX1_division 493 = .ok (.iload_n 1, 1) := by decide +kernel
theorem dX1_division_494 : decode cX1_division 494 = .ok (.iaload, 1) := by decide +kernel
theorem dX1_division_495 : decode cX1_division 495 = .ok (.ireturn, 1) := by decide +kernel
set_option maxRecDepth 20000 in
theorem ggX1_twist_X1_mod : GoodIn wsX1_twist wsX1_mod := goodIn_r _ [8, 1, 22, 23, 24, 25, 26] (by decide +kernel) (by decide +kernel)
set_option maxRecDepth 20000 in
theorem gX1_twist_X1_mod : GoodIn wsX1_twist (wsV RX1 26 RX1 yX1_mod wsX1_mod) := goodIn_app (goodIn_of _ (by decide +kernel)) ggX1_twist_X1_mod
set_option maxRecDepth 20000 in
theorem ggX1_twist_X1_count : GoodIn wsX1_twist wsX1_count := goodIn_r _ [12, 1, 13, 14, 15, 16, 7, 17, 4, 5, 6, 8, 18, 19, 20, 21, 2, 3, 22, 23, 24, 25, 26] (by decide +kernel) (by decide +kernel)
set_option maxRecDepth 20000 in
theorem gX1_twist_X1_count : GoodIn wsX1_twist (wsV RX1 36 RX1 yX1_count wsX1_count) := goodIn_app (goodIn_of _ (by decide +kernel)) ggX1_twist_X1_count
theorem dX1_twist_0 : decode cX1_twist 0 = .ok (.iload_n 1, 1) := by decide +kernel
theorem dX1_twist_1 : decode cX1_twist 1 = .ok (.iconst 1, 1) := by decide +kernel
theorem dX1_twist_2 : decode cX1_twist 2 = .ok (.if_icmp .lt 11, 3) := by decide +kernel
theorem dX1_twist_5 : decode cX1_twist 5 = .ok (.iload_n 1, 1) := by decide +kernel
theorem dX1_twist_6 : decode cX1_twist 6 = .ok (.aload_n 0, 1) := by decide +kernel
theorem dX1_twist_7 : decode cX1_twist 7 = .ok (.getfield 7, 3) := by decide +kernel
theorem dX1_twist_10 : decode cX1_twist 10 = .ok (.if_icmp .lt 5, 3) := by decide +kernel
theorem dX1_twist_13 : decode cX1_twist 13 = .ok (.iconst (-1), 1) := by decide +kernel
theorem dX1_twist_14 : decode cX1_twist 14 = .ok (.ireturn, 1) := by decide +kernel
theorem dX1_twist_15 : decode cX1_twist 15 = .ok (.aload_n 0, 1) := by decide +kernel
theorem dX1_twist_16 : decode cX1_twist 16 = .ok (.getfield 13, 3) := by decide +kernel
theorem dX1_twist_19 : decode cX1_twist 19 = .ok (.istore_n 2, 1) := by decide +kernel
theorem dX1_twist_20 : decode cX1_twist 20 = .ok (.aload_n 0, 1) := by decide +kernel
theorem dX1_twist_21 : decode cX1_twist 21 = .ok (.getfield 16, 3) := by decide +kernel
theorem dX1_twist_24 : decode cX1_twist 24 = .ok (.istore_n 3, 1) := by decide +kernel
theorem dX1_twist_25 : decode cX1_twist 25 = .ok (.aload_n 0, 1) := by decide +kernel
theorem dX1_twist_26 : decode cX1_twist 26 = .ok (.iload_n 1, 1) := by decide +kernel
theorem dX1_twist_27 : decode cX1_twist 27 = .ok (.iload_n 1, 1) := by decide +kernel
theorem dX1_twist_28 : decode cX1_twist 28 = .ok (.imul, 1) := by decide +kernel
theorem dX1_twist_29 : decode cX1_twist 29 = .ok (.invokevirtual 26, 3) := by decide +kernel
theorem dX1_twist_32 : decode cX1_twist 32 = .ok (.istore 4, 2) := by decide +kernel
theorem dX1_twist_34 : decode cX1_twist 34 = .ok (.aload_n 0, 1) := by decide +kernel
theorem dX1_twist_35 : decode cX1_twist 35 = .ok (.aload_n 0, 1) := by decide +kernel
theorem dX1_twist_36 : decode cX1_twist 36 = .ok (.iload_n 2, 1) := by decide +kernel
theorem dX1_twist_37 : decode cX1_twist 37 = .ok (.iload 4, 2) := by decide +kernel
theorem dX1_twist_39 : decode cX1_twist 39 = .ok (.imul, 1) := by decide +kernel
theorem dX1_twist_40 : decode cX1_twist 40 = .ok (.invokevirtual 26, 3) := by decide +kernel
theorem dX1_twist_43 : decode cX1_twist 43 = .ok (.putfield 13, 3) := by decide +kernel
theorem dX1_twist_46 : decode cX1_twist 46 = .ok (.aload_n 0, 1) := by decide +kernel
theorem dX1_twist_47 : decode cX1_twist 47 = .ok (.aload_n 0, 1) := by decide +kernel
theorem dX1_twist_48 : decode cX1_twist 48 = .ok (.aload_n 0, 1) := by decide +kernel
theorem dX1_twist_49 : decode cX1_twist 49 = .ok (.iload_n 3, 1) := by decide +kernel
theorem dX1_twist_50 : decode cX1_twist 50 = .ok (.iload 4, 2) := by decide +kernel
theorem dX1_twist_52 : decode cX1_twist 52 = .ok (.imul, 1) := by decide +kernel
theorem dX1_twist_53 : decode cX1_twist 53 = .ok (.invokevirtual 26, 3) := by decide +kernel
theorem dX1_twist_56 : decode cX1_twist 56 = .ok (.iload_n 1, 1) := by decide +kernel
theorem dX1_twist_57 : decode cX1_twist 57 = .ok (.imul, 1) := by decide +kernel
theorem dX1_twist_58 : decode cX1_twist 58 = .ok (.invokevirtual 26, 3) := by decide +kernel
theorem dX1_twist_61 : decode cX1_twist 61 = .ok (.putfield 16, 3) := by decide +kernel
theorem dX1_twist_64 : decode cX1_twist 64 = .ok (.aload_n 0, 1) := by decide +kernel
theorem dX1_twist_65 : decode cX1_twist 65 = .ok (.invokevirtual 36, 3) := by decide +kernel
theorem dX1_twist_68 : decode cX1_twist 68 = .ok (.istore 5, 2) := by decide +kernel
theorem dX1_twist_70 : decode cX1_twist 70 = .ok (.aload_n 0, 1) := by decide +kernel
theorem dX1_twist_71 : decode cX1_twist 71 = .ok (.iload_n 2, 1) := by decide +kernel
theorem dX1_twist_72 : decode cX1_twist 72 = .ok (.putfield 13, 3) := by decide +kernel
theorem dX1_twist_75 : decode cX1_twist 75 = .ok (.aload_n 0, 1) := by decide +kernel
theorem dX1_twist_76 : decode cX1_twist 76 = .ok (.iload_n 3, 1) := by decide +kernel
theorem dX1_twist_77 : decode cX1_twist 77 = .ok (.putfield 16, 3) := by decide +kernel
theorem dX1_twist_80 : decode cX1_twist 80 = .ok (.iload 5, 2) := by decide +kernel
theorem dX1_twist_82 : decode cX1_twist 82 = .ok (.ireturn, 1) := by decide +kernel
theorem dJ9_floorMod_7cf53_0 : decode cJ9_floorMod_7cf53 0 = .ok (.iload_n 0, 1) := by decide +kernel
theorem dJ9_floorMod_7cf53_1 : decode cJ9_floorMod_7cf53 1 = .ok (.iload_n 1, 1) := by decide +kernel
theorem dJ9_floorMod_7cf53_2 : decode cJ9_floorMod_7cf53 2 = .ok (.irem, 1) := by decide +kernel
theorem dJ9_floorMod_7cf53_3 : decode cJ9_floorMod_7cf53 3 = .ok (.istore_n 2, 1) := by decide +kernel
theorem dJ9_floorMod_7cf53_4 : decode cJ9_floorMod_7cf53 4 = .ok (.iload_n 0, 1) := by decide +kernel
theorem dJ9_floorMod_7cf53_5 : decode cJ9_floorMod_7cf53 5 = .ok (.iload_n 1, 1) := by decide +kernel
theorem dJ9_floorMod_7cf53_6 : decode cJ9_floorMod_7cf53 6 = .ok (.ixor, 1) := by decide +kernel
theorem dJ9_floorMod_7cf53_7 : decode cJ9_floorMod_7cf53 7 = .ok (.ifCond .ge 11, 3) := by decide +kernel
theorem dJ9_floorMod_7cf53_10 : decode cJ9_floorMod_7cf53 10 = .ok (.iload_n 2, 1) := by decide +kernel
theorem dJ9_floorMod_7cf53_11 : decode cJ9_floorMod_7cf53 11 = .ok (.ifCond .eq 7, 3) := by decide +kernel
theorem dJ9_floorMod_7cf53_14 : decode cJ9_floorMod_7cf53 14 = .ok (.iload_n 2, 1) := by decide +kernel
theorem dJ9_floorMod_7cf53_15 : decode cJ9_floorMod_7cf53 15 = .ok (.iload_n 1, 1) := by decide +kernel
theorem dJ9_floorMod_7cf53_16 : decode cJ9_floorMod_7cf53 16 = .ok (.iadd, 1) := by decide +kernel
theorem dJ9_floorMod_7cf53_17 : decode cJ9_floorMod_7cf53 17 = .ok (.ireturn, 1) := by decide +kernel
theorem dJ9_floorMod_7cf53_18 : decode cJ9_floorMod_7cf53 18 = .ok (.iload_n 2, 1) := by decide +kernel
theorem dJ9_floorMod_7cf53_19 : decode cJ9_floorMod_7cf53 19 = .ok (.ireturn, 1) := by decide +kernel
set_option maxRecDepth 20000 in
theorem ggL_law_X0_init : GoodIn wsL_law wsX0_init := goodIn_r _ [8, 9, 10, 11, 12, 13, 14, 15, 16, 17, 18, 2, 19, 20, 21, 22, 23, 24, 25, 26, 27, 28, 29, 30, 31, 32, 33, 34, 35, 36, 37, 38, 39, 40, 41, 42, 43, 44, 45, 46, 47, 267, 268, 269, 270, 271, 272, 273] (by decide +kernel) (by decide +kernel)
set_option maxRecDepth 20000 in
theorem gL_law_X0_init : GoodIn wsL_law (wsX0_init) := ggL_law_X0_init
set_option maxRecDepth 20000 in
theorem ggL_law_X1_init : GoodIn wsL_law wsX1_init := goodIn_r _ [50, 51, 10, 11, 52, 53, 54, 12, 55, 56, 274, 275, 276, 277, 278] (by decide +kernel) (by decide +kernel)
set_option maxRecDepth 20000 in
theorem gL_law_X1_init : GoodIn wsL_law (wsX1_init) := ggL_law_X1_init
set_option maxRecDepth 20000 in
theorem ggL_law_X0_curve : GoodIn wsL_law wsX0_curve := goodIn_r _ [60, 61, 62, 2, 63, 64, 65, 66, 16, 17, 18, 19, 20, 21, 22, 14, 23, 24, 25, 26, 27, 13, 28, 29, 30, 31, 32, 33, 34, 35, 36, 37, 38, 39, 40, 41, 42, 43, 44, 45, 46, 47, 267, 268, 269, 270, 271, 272, 273] (by decide +kernel) (by decide +kernel)
set_option maxRecDepth 20000 in
theorem gL_law_X0_curve : GoodIn wsL_law (wsV RL 13 RX0 yX0_curve wsX0_curve) := goodIn_app (goodIn_of _ (by decide +kernel)) ggL_law_X0_curve
set_option maxRecDepth 20000 in
theorem ggL_law_X1_curve : GoodIn wsL_law wsX1_curve := goodIn_r _ [70, 52, 53, 54, 274, 275, 276, 277, 278] (by decide +kernel) (by decide +kernel)
set_option maxRecDepth 20000 in
theorem gL_law_X1_curve : GoodIn wsL_law (wsV RL 17 RX1 yX1_curve wsX1_curve) := goodIn_app (goodIn_of _ (by decide +kernel)) ggL_law_X1_curve
set_option maxRecDepth 20000 in
theorem ggL_law_X0_coefficient : GoodIn wsL_law wsX0_coefficient := goodIn_r _ [74, 20, 21, 22, 267, 268, 269, 270, 271, 272, 273] (by decide +kernel) (by decide +kernel)
set_option maxRecDepth 20000 in
theorem gL_law_X0_coefficient : GoodIn wsL_law (wsV RL 18 RX0 yX0_coefficient wsX0_coefficient) := goodIn_app (goodIn_of _ (by decide +kernel)) ggL_law_X0_coefficient
set_option maxRecDepth 20000 in
theorem ggL_law_X1_coefficient : GoodIn wsL_law wsX1_coefficient := goodIn_r _ [78, 52, 53, 54, 274, 275, 276, 277, 278] (by decide +kernel) (by decide +kernel)
set_option maxRecDepth 20000 in
theorem gL_law_X1_coefficient : GoodIn wsL_law (wsV RL 22 RX1 yX1_coefficient wsX1_coefficient) := goodIn_app (goodIn_of _ (by decide +kernel)) ggL_law_X1_coefficient
set_option maxRecDepth 20000 in
theorem ggL_law_X0_count : GoodIn wsL_law wsX0_count := goodIn_r _ [82, 23, 267, 268, 269, 270, 271, 272, 273] (by decide +kernel) (by decide +kernel)
set_option maxRecDepth 20000 in
theorem gL_law_X0_count : GoodIn wsL_law (wsV RL 23 RX0 yX0_count wsX0_count) := goodIn_app (goodIn_of _ (by decide +kernel)) ggL_law_X0_count
set_option maxRecDepth 20000 in
theorem ggL_law_X1_count : GoodIn wsL_law wsX1_count := goodIn_r _ [86, 52, 55, 87, 88, 89, 5, 90, 91, 92, 93, 94, 95, 96, 97, 98, 53, 54, 274, 275, 276, 277, 278] (by decide +kernel) (by decide +kernel)
set_option maxRecDepth 20000 in
theorem gL_law_X1_count : GoodIn wsL_law (wsV RL 27 RX1 yX1_count wsX1_count) := goodIn_app (goodIn_of _ (by decide +kernel)) ggL_law_X1_count
set_option maxRecDepth 20000 in
theorem ggL_law_X0_trace : GoodIn wsL_law wsX0_trace := goodIn_r _ [102, 20, 23, 32, 33, 34, 35, 267, 268, 269, 270, 271, 272, 273] (by decide +kernel) (by decide +kernel)
set_option maxRecDepth 20000 in
theorem gL_law_X0_trace : GoodIn wsL_law (wsV RL 28 RX0 yX0_trace wsX0_trace) := goodIn_app (goodIn_of _ (by decide +kernel)) ggL_law_X0_trace
set_option maxRecDepth 20000 in
theorem ggL_law_X1_trace : GoodIn wsL_law wsX1_trace := goodIn_r _ [106, 52, 107, 84, 85, 5, 86, 55, 87, 88, 89, 90, 91, 92, 93, 94, 95, 96, 97, 98, 53, 54, 274, 275, 276, 277, 278] (by decide +kernel) (by decide +kernel)
set_option maxRecDepth 20000 in
theorem gL_law_X1_trace : GoodIn wsL_law (wsV RL 31 RX1 yX1_trace wsX1_trace) := goodIn_app (goodIn_of _ (by decide +kernel)) ggL_law_X1_trace
set_option maxRecDepth 20000 in
theorem ggL_law_X0_roots : GoodIn wsL_law wsX0_roots := goodIn_r _ [111, 14, 112, 113, 114, 2, 115, 20, 267, 268, 269, 270, 271, 272, 273] (by decide +kernel) (by decide +kernel)
set_option maxRecDepth 20000 in
theorem gL_law_X0_roots : GoodIn wsL_law (wsV RL 32 RX0 yX0_roots wsX0_roots) := goodIn_app (goodIn_of _ (by decide +kernel)) ggL_law_X0_roots
set_option maxRecDepth 20000 in
theorem ggL_law_X1_roots : GoodIn wsL_law wsX1_roots := goodIn_r _ [119, 52, 91, 92, 93, 5, 94, 95, 96, 97, 98, 53, 54, 274, 275, 276, 277, 278] (by decide +kernel) (by decide +kernel)
set_option maxRecDepth 20000 in
theorem gL_law_X1_roots : GoodIn wsL_law (wsV RL 35 RX1 yX1_roots wsX1_roots) := goodIn_app (goodIn_of _ (by decide +kernel)) ggL_law_X1_roots
set_option maxRecDepth 20000 in
theorem ggL_law_X0_point : GoodIn wsL_law wsX0_point := goodIn_r _ [123, 23, 13, 14, 20, 124, 125, 126, 2, 127, 40, 41, 42, 43, 21, 22, 28, 29, 30, 31, 32, 33, 34, 35, 128, 129, 130, 267, 268, 269, 270, 271, 272, 273] (by decide +kernel) (by decide +kernel)
set_option maxRecDepth 20000 in
theorem gL_law_X0_point : GoodIn wsL_law (wsV RL 36 RX0 yX0_point wsX0_point) := goodIn_app (goodIn_of _ (by decide +kernel)) ggL_law_X0_point
set_option maxRecDepth 20000 in
theorem ggL_law_X1_point : GoodIn wsL_law wsX1_point := goodIn_r _ [134, 52, 55, 87, 88, 89, 5, 90, 91, 92, 93, 94, 95, 96, 97, 98, 53, 54, 274, 275, 276, 277, 278] (by decide +kernel) (by decide +kernel)
set_option maxRecDepth 20000 in
theorem gL_law_X1_point : GoodIn wsL_law (wsV RL 39 RX1 yX1_point wsX1_point) := goodIn_app (goodIn_of _ (by decide +kernel)) ggL_law_X1_point
set_option maxRecDepth 20000 in
theorem ggL_law_X0_on : GoodIn wsL_law wsX0_on := goodIn_r _ [138, 139, 140, 141, 2, 142, 143, 144, 145, 146, 147, 148, 112, 113, 114, 115, 20, 28, 29, 30, 31, 32, 33, 34, 35, 40, 41, 42, 43, 21, 22, 267, 268, 269, 270, 271, 272, 273] (by decide +kernel) (by decide +kernel)
set_option maxRecDepth 20000 in
theorem gL_law_X0_on : GoodIn wsL_law (wsV RL 40 RX0 yX0_on wsX0_on) := goodIn_app (goodIn_of _ (by decide +kernel)) ggL_law_X0_on
set_option maxRecDepth 20000 in
theorem ggL_law_X1_on : GoodIn wsL_law wsX1_on := goodIn_r _ [152, 52, 91, 92, 93, 5, 94, 95, 96, 97, 98, 53, 54, 274, 275, 276, 277, 278] (by decide +kernel) (by decide +kernel)
set_option maxRecDepth 20000 in
theorem gL_law_X1_on : GoodIn wsL_law (wsV RL 44 RX1 yX1_on wsX1_on) := goodIn_app (goodIn_of _ (by decide +kernel)) ggL_law_X1_on
set_option maxRecDepth 20000 in
theorem ggL_law_X0_add : GoodIn wsL_law wsX0_add := goodIn_r _ [156, 139, 140, 141, 2, 142, 143, 144, 145, 146, 147, 148, 112, 113, 114, 115, 20, 28, 29, 30, 31, 32, 33, 34, 35, 40, 41, 42, 43, 21, 22, 157, 158, 159, 160, 161, 162, 163, 164, 128, 129, 130, 165, 166, 167, 168, 169, 170, 171, 172, 267, 268, 269, 270, 271, 272, 273] (by decide +kernel) (by decide +kernel)
set_option maxRecDepth 20000 in
theorem gL_law_X0_add : GoodIn wsL_law (wsV RL 45 RX0 yX0_add wsX0_add) := goodIn_app (goodIn_of _ (by decide +kernel)) ggL_law_X0_add
set_option maxRecDepth 20000 in
theorem ggL_law_X1_add : GoodIn wsL_law wsX1_add := goodIn_r _ [176, 177, 150, 151, 5, 152, 52, 91, 92, 93, 94, 95, 96, 97, 98, 53, 54, 178, 179, 180, 181, 182, 183, 184, 185, 274, 275, 276, 277, 278] (by decide +kernel) (by decide +kernel)
set_option maxRecDepth 20000 in
theorem gL_law_X1_add : GoodIn wsL_law (wsV RL 49 RX1 yX1_add wsX1_add) := goodIn_app (goodIn_of _ (by decide +kernel)) ggL_law_X1_add
set_option maxRecDepth 20000 in
theorem ggL_law_X0_negative : GoodIn wsL_law wsX0_negative := goodIn_r _ [189, 139, 140, 141, 2, 142, 143, 144, 145, 146, 147, 148, 112, 113, 114, 115, 20, 28, 29, 30, 31, 32, 33, 34, 35, 40, 41, 42, 43, 21, 22, 161, 162, 163, 164, 128, 129, 130, 267, 268, 269, 270, 271, 272, 273] (by decide +kernel) (by decide +kernel)
set_option maxRecDepth 20000 in
theorem gL_law_X0_negative : GoodIn wsL_law (wsV RL 50 RX0 yX0_negative wsX0_negative) := goodIn_app (goodIn_of _ (by decide +kernel)) ggL_law_X0_negative
set_option maxRecDepth 20000 in
theorem ggL_law_X1_negative : GoodIn wsL_law wsX1_negative := goodIn_r _ [193, 177, 150, 151, 5, 152, 52, 91, 92, 93, 94, 95, 96, 97, 98, 53, 54, 194, 195, 196, 197, 274, 275, 276, 277, 278] (by decide +kernel) (by decide +kernel)
set_option maxRecDepth 20000 in
theorem gL_law_X1_negative : GoodIn wsL_law (wsV RL 53 RX1 yX1_negative wsX1_negative) := goodIn_app (goodIn_of _ (by decide +kernel)) ggL_law_X1_negative
set_option maxRecDepth 20000 in
theorem ggL_law_X0_times : GoodIn wsL_law wsX0_times := goodIn_r _ [201, 139, 140, 141, 2, 142, 143, 144, 145, 146, 147, 148, 112, 113, 114, 115, 20, 28, 29, 30, 31, 32, 33, 34, 35, 40, 41, 42, 43, 21, 22, 161, 162, 163, 164, 128, 129, 130, 202, 203, 204, 205, 157, 158, 159, 160, 165, 166, 167, 168, 169, 170, 171, 172, 267, 268, 269, 270, 271, 272, 273] (by decide +kernel) (by decide +kernel)
set_option maxRecDepth 20000 in
theorem gL_law_X0_times : GoodIn wsL_law (wsV RL 54 RX0 yX0_times wsX0_times) := goodIn_app (goodIn_of _ (by decide +kernel)) ggL_law_X0_times
set_option maxRecDepth 20000 in
theorem ggL_law_X1_times : GoodIn wsL_law wsX1_times := goodIn_r _ [209, 177, 150, 151, 5, 152, 52, 91, 92, 93, 94, 95, 96, 97, 98, 53, 54, 210, 211, 212, 213, 178, 179, 180, 181, 182, 183, 184, 185, 194, 195, 196, 197, 274, 275, 276, 277, 278] (by decide +kernel) (by decide +kernel)
set_option maxRecDepth 20000 in
theorem gL_law_X1_times : GoodIn wsL_law (wsV RL 57 RX1 yX1_times wsX1_times) := goodIn_app (goodIn_of _ (by decide +kernel)) ggL_law_X1_times
set_option maxRecDepth 20000 in
theorem ggL_law_X0_order : GoodIn wsL_law wsX0_order := goodIn_r _ [217, 23, 139, 140, 141, 2, 142, 143, 144, 145, 146, 147, 148, 112, 113, 114, 115, 20, 28, 29, 30, 31, 32, 33, 34, 35, 40, 41, 42, 43, 21, 22, 202, 203, 204, 205, 157, 158, 159, 160, 161, 162, 163, 164, 128, 129, 130, 165, 166, 167, 168, 169, 170, 171, 172, 267, 268, 269, 270, 271, 272, 273] (by decide +kernel) (by decide +kernel)
set_option maxRecDepth 20000 in
theorem gL_law_X0_order : GoodIn wsL_law (wsV RL 58 RX0 yX0_order wsX0_order) := goodIn_app (goodIn_of _ (by decide +kernel)) ggL_law_X0_order
set_option maxRecDepth 20000 in
theorem ggL_law_X1_order : GoodIn wsL_law wsX1_order := goodIn_r _ [213, 177, 150, 151, 5, 152, 52, 91, 92, 93, 94, 95, 96, 97, 98, 53, 54, 178, 179, 180, 181, 182, 183, 184, 185, 274, 275, 276, 277, 278] (by decide +kernel) (by decide +kernel)
set_option maxRecDepth 20000 in
theorem gL_law_X1_order : GoodIn wsL_law (wsV RL 61 RX1 yX1_order wsX1_order) := goodIn_app (goodIn_of _ (by decide +kernel)) ggL_law_X1_order
set_option maxRecDepth 20000 in
theorem ggL_law_X0_division : GoodIn wsL_law wsX0_division := goodIn_r _ [222, 15, 112, 113, 114, 2, 115, 20, 223, 224, 225, 226, 227, 228, 229, 230, 21, 22, 28, 29, 30, 31, 32, 33, 34, 35, 231, 232, 233, 234, 40, 41, 42, 43, 235, 236, 237, 238, 239, 240, 241, 242, 243, 244, 245, 246, 267, 268, 269, 270, 271, 272, 273] (by decide +kernel) (by decide +kernel)
set_option maxRecDepth 20000 in
theorem gL_law_X0_division : GoodIn wsL_law (wsV RL 62 RX0 yX0_division wsX0_division) := goodIn_app (goodIn_of _ (by decide +kernel)) ggL_law_X0_division
set_option maxRecDepth 20000 in
theorem ggL_law_X1_division : GoodIn wsL_law wsX1_division := goodIn_r _ [250, 52, 53, 56, 54, 91, 92, 93, 5, 94, 95, 96, 97, 98, 251, 252, 253, 254, 255, 256, 257, 258, 274, 275, 276, 277, 278] (by decide +kernel) (by decide +kernel)
set_option maxRecDepth 20000 in
theorem gL_law_X1_division : GoodIn wsL_law (wsV RL 65 RX1 yX1_division wsX1_division) := goodIn_app (goodIn_of _ (by decide +kernel)) ggL_law_X1_division
set_option maxRecDepth 20000 in
theorem ggL_law_X0_twist : GoodIn wsL_law wsX0_twist := goodIn_r _ [262, 20, 13, 23, 267, 268, 269, 270, 271, 272, 273] (by decide +kernel) (by decide +kernel)
set_option maxRecDepth 20000 in
theorem gL_law_X0_twist : GoodIn wsL_law (wsV RL 66 RX0 yX0_twist wsX0_twist) := goodIn_app (goodIn_of _ (by decide +kernel)) ggL_law_X0_twist
set_option maxRecDepth 20000 in
theorem ggL_law_X1_twist : GoodIn wsL_law wsX1_twist := goodIn_r _ [266, 52, 53, 54, 91, 92, 93, 5, 94, 107, 84, 85, 86, 55, 87, 88, 89, 90, 95, 96, 97, 98, 274, 275, 276, 277, 278] (by decide +kernel) (by decide +kernel)
set_option maxRecDepth 20000 in
theorem gL_law_X1_twist : GoodIn wsL_law (wsV RL 69 RX1 yX1_twist wsX1_twist) := goodIn_app (goodIn_of _ (by decide +kernel)) ggL_law_X1_twist
theorem dL_law_0 : decode cL_law 0 = .ok (.new 7, 3) := by decide +kernel
theorem dL_law_3 : decode cL_law 3 = .ok (.dup, 1) := by decide +kernel
theorem dL_law_4 : decode cL_law 4 = .ok (.invokespecial 9, 3) := by decide +kernel
theorem dL_law_7 : decode cL_law 7 = .ok (.astore_n 1, 1) := by decide +kernel
theorem dL_law_8 : decode cL_law 8 = .ok (.new 10, 3) := by decide +kernel
theorem dL_law_11 : decode cL_law 11 = .ok (.dup, 1) := by decide +kernel
theorem dL_law_12 : decode cL_law 12 = .ok (.invokespecial 12, 3) := by decide +kernel
theorem dL_law_15 : decode cL_law 15 = .ok (.astore_n 2, 1) := by decide +kernel
theorem dL_law_16 : decode cL_law 16 = .ok (.iconst 0, 1) := by decide +kernel
theorem dL_law_17 : decode cL_law 17 = .ok (.istore_n 3, 1) := by decide +kernel
theorem dL_law_18 : decode cL_law 18 = .ok (.iload_n 3, 1) := by decide +kernel
theorem dL_law_19 : decode cL_law 19 = .ok (.aload_n 0, 1) := by decide +kernel
theorem dL_law_20 : decode cL_law 20 = .ok (.arraylength, 1) := by decide +kernel
theorem dL_law_21 : decode cL_law 21 = .ok (.iconst 4, 1) := by decide +kernel
theorem dL_law_22 : decode cL_law 22 = .ok (.isub, 1) := by decide +kernel
theorem dL_law_23 : decode cL_law 23 = .ok (.if_icmp .gt 422, 3) := by decide +kernel
theorem dL_law_26 : decode cL_law 26 = .ok (.aload_n 0, 1) := by decide +kernel
theorem dL_law_27 : decode cL_law 27 = .ok (.iload_n 3, 1) := by decide +kernel
theorem dL_law_28 : decode cL_law 28 = .ok (.iaload, 1) := by decide +kernel
theorem dL_law_29 : decode cL_law 29 = .ok (.bipush 15, 2) := by decide +kernel
theorem dL_law_31 : decode cL_law 31 = .ok (.iand, 1) := by decide +kernel
theorem dL_law_32 : decode cL_law 32 = .ok (.tableswitch 407 0 12 #[68, 111, 134, 147, 170, 193, 216, 239, 272, 295, 328, 351, 384], 68) := by decide +kernel
theorem dL_law_100 : decode cL_law 100 = .ok (.aload_n 1, 1) := by decide +kernel
theorem dL_law_101 : decode cL_law 101 = .ok (.aload_n 0, 1) := by decide +kernel
theorem dL_law_102 : decode cL_law 102 = .ok (.iload_n 3, 1) := by decide +kernel
theorem dL_law_103 : decode cL_law 103 = .ok (.iconst 1, 1) := by decide +kernel
theorem dL_law_104 : decode cL_law 104 = .ok (.iadd, 1) := by decide +kernel
theorem dL_law_105 : decode cL_law 105 = .ok (.iaload, 1) := by decide +kernel
theorem dL_law_106 : decode cL_law 106 = .ok (.aload_n 0, 1) := by decide +kernel
theorem dL_law_107 : decode cL_law 107 = .ok (.iload_n 3, 1) := by decide +kernel
theorem dL_law_108 : decode cL_law 108 = .ok (.iconst 2, 1) := by decide +kernel
theorem dL_law_109 : decode cL_law 109 = .ok (.iadd, 1) := by decide +kernel
theorem dL_law_110 : decode cL_law 110 = .ok (.iaload, 1) := by decide +kernel
theorem dL_law_111 : decode cL_law 111 = .ok (.aload_n 0, 1) := by decide +kernel
theorem dL_law_112 : decode cL_law 112 = .ok (.iload_n 3, 1) := by decide +kernel
theorem dL_law_113 : decode cL_law 113 = .ok (.iconst 3, 1) := by decide +kernel
theorem dL_law_114 : decode cL_law 114 = .ok (.iadd, 1) := by decide +kernel
theorem dL_law_115 : decode cL_law 115 = .ok (.iaload, 1) := by decide +kernel
theorem dL_law_116 : decode cL_law 116 = .ok (.invokevirtual 13, 3) := by decide +kernel
theorem dL_law_119 : decode cL_law 119 = .ok (.aload_n 2, 1) := by decide +kernel
theorem dL_law_120 : decode cL_law 120 = .ok (.aload_n 0, 1) := by decide +kernel
theorem dL_law_121 : decode cL_law 121 = .ok (.iload_n 3, 1) := by decide +kernel
theorem dL_law_122 : decode cL_law 122 = .ok (.iconst 1, 1) := by decide +kernel
theorem dL_law_123 : decode cL_law 123 = .ok (.iadd, 1) := by decide +kernel
theorem dL_law_124 : decode cL_law 124 = .ok (.iaload, 1) := by decide +kernel
theorem dL_law_125 : decode cL_law 125 = .ok (.aload_n 0, 1) := by decide +kernel
theorem dL_law_126 : decode cL_law 126 = .ok (.iload_n 3, 1) := by decide +kernel
theorem dL_law_127 : decode cL_law 127 = .ok (.iconst 2, 1) := by decide +kernel
theorem dL_law_128 : decode cL_law 128 = .ok (.iadd, 1) := by decide +kernel
theorem dL_law_129 : decode cL_law 129 = .ok (.iaload, 1) := by decide +kernel
theorem dL_law_130 : decode cL_law 130 = .ok (.aload_n 0, 1) := by decide +kernel
theorem dL_law_131 : decode cL_law 131 = .ok (.iload_n 3, 1) := by decide +kernel
theorem dL_law_132 : decode cL_law 132 = .ok (.iconst 3, 1) := by decide +kernel
theorem dL_law_133 : decode cL_law 133 = .ok (.iadd, 1) := by decide +kernel
theorem dL_law_134 : decode cL_law 134 = .ok (.iaload, 1) := by decide +kernel
theorem dL_law_135 : decode cL_law 135 = .ok (.invokevirtual 17, 3) := by decide +kernel
theorem dL_law_138 : decode cL_law 138 = .ok (.if_icmp .eq 301, 3) := by decide +kernel
theorem dL_law_141 : decode cL_law 141 = .ok (.iconst 0, 1) := by decide +kernel
theorem dL_law_142 : decode cL_law 142 = .ok (.ireturn, 1) := by decide +kernel
theorem dL_law_143 : decode cL_law 143 = .ok (.aload_n 1, 1) := by decide +kernel
theorem dL_law_144 : decode cL_law 144 = .ok (.aload_n 0, 1) := by decide +kernel
theorem dL_law_145 : decode cL_law 145 = .ok (.iload_n 3, 1) := by decide +kernel
theorem dL_law_146 : decode cL_law 146 = .ok (.iconst 1, 1) := by decide +kernel
theorem dL_law_147 : decode cL_law 147 = .ok (.iadd, 1) := by decide +kernel
theorem dL_law_148 : decode cL_law 148 = .ok (.iaload, 1) := by decide +kernel
theorem dL_law_149 : decode cL_law 149 = .ok (.invokevirtual 18, 3) := by decide +kernel
theorem dL_law_152 : decode cL_law 152 = .ok (.aload_n 2, 1) := by decide +kernel
theorem dL_law_153 : decode cL_law 153 = .ok (.aload_n 0, 1) := by decide +kernel
theorem dL_law_154 : decode cL_law 154 = .ok (.iload_n 3, 1) := by decide +kernel
theorem dL_law_155 : decode cL_law 155 = .ok (.iconst 1, 1) := by decide +kernel
theorem dL_law_156 : decode cL_law 156 = .ok (.iadd, 1) := by decide +kernel
theorem dL_law_157 : decode cL_law 157 = .ok (.iaload, 1) := by decide +kernel
theorem dL_law_158 : decode cL_law 158 = .ok (.invokevirtual 22, 3) := by decide +kernel
theorem dL_law_161 : decode cL_law 161 = .ok (.if_icmp .eq 278, 3) := by decide +kernel
theorem dL_law_164 : decode cL_law 164 = .ok (.iconst 0, 1) := by decide +kernel
theorem dL_law_165 : decode cL_law 165 = .ok (.ireturn, 1) := by decide +kernel
theorem dL_law_166 : decode cL_law 166 = .ok (.aload_n 1, 1) := by decide +kernel
theorem dL_law_167 : decode cL_law 167 = .ok (.invokevirtual 23, 3) := by decide +kernel
theorem dL_law_170 : decode cL_law 170 = .ok (.aload_n 2, 1) := by decide +kernel
theorem dL_law_171 : decode cL_law 171 = .ok (.invokevirtual 27, 3) := by decide +kernel
theorem dL_law_174 : decode cL_law 174 = .ok (.if_icmp .eq 265, 3) := by decide +kernel
theorem dL_law_177 : decode cL_law 177 = .ok (.iconst 0, 1) := by decide +kernel
theorem dL_law_178 : decode cL_law 178 = .ok (.ireturn, 1) := by decide +kernel
theorem dL_law_179 : decode cL_law 179 = .ok (.aload_n 1, 1) := by decide +kernel
theorem dL_law_180 : decode cL_law 180 = .ok (.aload_n 0, 1) := by decide +kernel
theorem dL_law_181 : decode cL_law 181 = .ok (.iload_n 3, 1) := by decide +kernel
theorem dL_law_182 : decode cL_law 182 = .ok (.iconst 1, 1) := by decide +kernel
theorem dL_law_183 : decode cL_law 183 = .ok (.iadd, 1) := by decide +kernel
theorem dL_law_184 : decode cL_law 184 = .ok (.iaload, 1) := by decide +kernel
theorem dL_law_185 : decode cL_law 185 = .ok (.invokevirtual 28, 3) := by decide +kernel
theorem dL_law_188 : decode cL_law 188 = .ok (.aload_n 2, 1) := by decide +kernel
theorem dL_law_189 : decode cL_law 189 = .ok (.aload_n 0, 1) := by decide +kernel
theorem dL_law_190 : decode cL_law 190 = .ok (.iload_n 3, 1) := by decide +kernel
theorem dL_law_191 : decode cL_law 191 = .ok (.iconst 1, 1) := by decide +kernel
theorem dL_law_192 : decode cL_law 192 = .ok (.iadd, 1) := by decide +kernel
theorem dL_law_193 : decode cL_law 193 = .ok (.iaload, 1) := by decide +kernel
theorem dL_law_194 : decode cL_law 194 = .ok (.invokevirtual 31, 3) := by decide +kernel
theorem dL_law_197 : decode cL_law 197 = .ok (.if_icmp .eq 242, 3) := by decide +kernel
theorem dL_law_200 : decode cL_law 200 = .ok (.iconst 0, 1) := by decide +kernel
theorem dL_law_201 : decode cL_law 201 = .ok (.ireturn, 1) := by decide +kernel
theorem dL_law_202 : decode cL_law 202 = .ok (.aload_n 1, 1) := by decide +kernel
theorem dL_law_203 : decode cL_law 203 = .ok (.aload_n 0, 1) := by decide +kernel
theorem dL_law_204 : decode cL_law 204 = .ok (.iload_n 3, 1) := by decide +kernel
theorem dL_law_205 : decode cL_law 205 = .ok (.iconst 1, 1) := by decide +kernel
theorem dL_law_206 : decode cL_law 206 = .ok (.iadd, 1) := by decide +kernel
theorem dL_law_207 : decode cL_law 207 = .ok (.iaload, 1) := by decide +kernel
theorem dL_law_208 : decode cL_law 208 = .ok (.invokevirtual 32, 3) := by decide +kernel
theorem dL_law_211 : decode cL_law 211 = .ok (.aload_n 2, 1) := by decide +kernel
theorem dL_law_212 : decode cL_law 212 = .ok (.aload_n 0, 1) := by decide +kernel
theorem dL_law_213 : decode cL_law 213 = .ok (.iload_n 3, 1) := by decide +kernel
theorem dL_law_214 : decode cL_law 214 = .ok (.iconst 1, 1) := by decide +kernel
theorem dL_law_215 : decode cL_law 215 = .ok (.iadd, 1) := by decide +kernel
theorem dL_law_216 : decode cL_law 216 = .ok (.iaload, 1) := by decide +kernel
theorem dL_law_217 : decode cL_law 217 = .ok (.invokevirtual 35, 3) := by decide +kernel
theorem dL_law_220 : decode cL_law 220 = .ok (.if_icmp .eq 219, 3) := by decide +kernel
theorem dL_law_223 : decode cL_law 223 = .ok (.iconst 0, 1) := by decide +kernel
theorem dL_law_224 : decode cL_law 224 = .ok (.ireturn, 1) := by decide +kernel
theorem dL_law_225 : decode cL_law 225 = .ok (.aload_n 1, 1) := by decide +kernel
theorem dL_law_226 : decode cL_law 226 = .ok (.aload_n 0, 1) := by decide +kernel
theorem dL_law_227 : decode cL_law 227 = .ok (.iload_n 3, 1) := by decide +kernel
theorem dL_law_228 : decode cL_law 228 = .ok (.iconst 1, 1) := by decide +kernel
theorem dL_law_229 : decode cL_law 229 = .ok (.iadd, 1) := by decide +kernel
theorem dL_law_230 : decode cL_law 230 = .ok (.iaload, 1) := by decide +kernel
theorem dL_law_231 : decode cL_law 231 = .ok (.invokevirtual 36, 3) := by decide +kernel
theorem dL_law_234 : decode cL_law 234 = .ok (.aload_n 2, 1) := by decide +kernel
theorem dL_law_235 : decode cL_law 235 = .ok (.aload_n 0, 1) := by decide +kernel
theorem dL_law_236 : decode cL_law 236 = .ok (.iload_n 3, 1) := by decide +kernel
theorem dL_law_237 : decode cL_law 237 = .ok (.iconst 1, 1) := by decide +kernel
theorem dL_law_238 : decode cL_law 238 = .ok (.iadd, 1) := by decide +kernel
theorem dL_law_239 : decode cL_law 239 = .ok (.iaload, 1) := by decide +kernel
theorem dL_law_240 : decode cL_law 240 = .ok (.invokevirtual 39, 3) := by decide +kernel
theorem dL_law_243 : decode cL_law 243 = .ok (.if_icmp .eq 196, 3) := by decide +kernel
theorem dL_law_246 : decode cL_law 246 = .ok (.iconst 0, 1) := by decide +kernel
theorem dL_law_247 : decode cL_law 247 = .ok (.ireturn, 1) := by decide +kernel
theorem dL_law_248 : decode cL_law 248 = .ok (.aload_n 1, 1) := by decide +kernel
theorem dL_law_249 : decode cL_law 249 = .ok (.aload_n 0, 1) := by decide +kernel
theorem dL_law_250 : decode cL_law 250 = .ok (.iload_n 3, 1) := by decide +kernel
theorem dL_law_251 : decode cL_law 251 = .ok (.iconst 1, 1) := by decide +kernel
theorem dL_law_252 : decode cL_law 252 = .ok (.iadd, 1) := by decide +kernel
theorem dL_law_253 : decode cL_law 253 = .ok (.iaload, 1) := by decide +kernel
theorem dL_law_254 : decode cL_law 254 = .ok (.invokevirtual 40, 3) := by decide +kernel
theorem dL_law_257 : decode cL_law 257 = .ok (.aload_n 2, 1) := by decide +kernel
theorem dL_law_258 : decode cL_law 258 = .ok (.aload_n 0, 1) := by decide +kernel
theorem dL_law_259 : decode cL_law 259 = .ok (.iload_n 3, 1) := by decide +kernel
theorem dL_law_260 : decode cL_law 260 = .ok (.iconst 1, 1) := by decide +kernel
theorem dL_law_261 : decode cL_law 261 = .ok (.iadd, 1) := by decide +kernel
theorem dL_law_262 : decode cL_law 262 = .ok (.iaload, 1) := by decide +kernel
theorem dL_law_263 : decode cL_law 263 = .ok (.invokevirtual 44, 3) := by decide +kernel
theorem dL_law_266 : decode cL_law 266 = .ok (.if_icmp .eq 173, 3) := by decide +kernel
theorem dL_law_269 : decode cL_law 269 = .ok (.iconst 0, 1) := by decide +kernel
theorem dL_law_270 : decode cL_law 270 = .ok (.ireturn, 1) := by decide +kernel
theorem dL_law_271 : decode cL_law 271 = .ok (.aload_n 1, 1) := by decide +kernel
theorem dL_law_272 : decode cL_law 272 = .ok (.aload_n 0, 1) := by decide +kernel
theorem dL_law_273 : decode cL_law 273 = .ok (.iload_n 3, 1) := by decide +kernel
theorem dL_law_274 : decode cL_law 274 = .ok (.iconst 1, 1) := by decide +kernel
theorem dL_law_275 : decode cL_law 275 = .ok (.iadd, 1) := by decide +kernel
theorem dL_law_276 : decode cL_law 276 = .ok (.iaload, 1) := by decide +kernel
theorem dL_law_277 : decode cL_law 277 = .ok (.aload_n 0, 1) := by decide +kernel
theorem dL_law_278 : decode cL_law 278 = .ok (.iload_n 3, 1) := by decide +kernel
theorem dL_law_279 : decode cL_law 279 = .ok (.iconst 2, 1) := by decide +kernel
theorem dL_law_280 : decode cL_law 280 = .ok (.iadd, 1) := by decide +kernel
theorem dL_law_281 : decode cL_law 281 = .ok (.iaload, 1) := by decide +kernel
theorem dL_law_282 : decode cL_law 282 = .ok (.invokevirtual 45, 3) := by decide +kernel
theorem dL_law_285 : decode cL_law 285 = .ok (.aload_n 2, 1) := by decide +kernel
theorem dL_law_286 : decode cL_law 286 = .ok (.aload_n 0, 1) := by decide +kernel
theorem dL_law_287 : decode cL_law 287 = .ok (.iload_n 3, 1) := by decide +kernel
theorem dL_law_288 : decode cL_law 288 = .ok (.iconst 1, 1) := by decide +kernel
theorem dL_law_289 : decode cL_law 289 = .ok (.iadd, 1) := by decide +kernel
theorem dL_law_290 : decode cL_law 290 = .ok (.iaload, 1) := by decide +kernel
theorem dL_law_291 : decode cL_law 291 = .ok (.aload_n 0, 1) := by decide +kernel
theorem dL_law_292 : decode cL_law 292 = .ok (.iload_n 3, 1) := by decide +kernel
theorem dL_law_293 : decode cL_law 293 = .ok (.iconst 2, 1) := by decide +kernel
theorem dL_law_294 : decode cL_law 294 = .ok (.iadd, 1) := by decide +kernel
theorem dL_law_295 : decode cL_law 295 = .ok (.iaload, 1) := by decide +kernel
theorem dL_law_296 : decode cL_law 296 = .ok (.invokevirtual 49, 3) := by decide +kernel
theorem dL_law_299 : decode cL_law 299 = .ok (.if_icmp .eq 140, 3) := by decide +kernel
theorem dL_law_302 : decode cL_law 302 = .ok (.iconst 0, 1) := by decide +kernel
theorem dL_law_303 : decode cL_law 303 = .ok (.ireturn, 1) := by decide +kernel
theorem dL_law_304 : decode cL_law 304 = .ok (.aload_n 1, 1) := by decide +kernel
theorem dL_law_305 : decode cL_law 305 = .ok (.aload_n 0, 1) := by decide +kernel
theorem dL_law_306 : decode cL_law 306 = .ok (.iload_n 3, 1) := by decide +kernel
theorem dL_law_307 : decode cL_law 307 = .ok (.iconst 1, 1) := by decide +kernel
theorem dL_law_308 : decode cL_law 308 = .ok (.iadd, 1) := by decide +kernel
theorem dL_law_309 : decode cL_law 309 = .ok (.iaload, 1) := by decide +kernel
theorem dL_law_310 : decode cL_law 310 = .ok (.invokevirtual 50, 3) := by decide +kernel
theorem dL_law_313 : decode cL_law 313 = .ok (.aload_n 2, 1) := by decide +kernel
theorem dL_law_314 : decode cL_law 314 = .ok (.aload_n 0, 1) := by decide +kernel
theorem dL_law_315 : decode cL_law 315 = .ok (.iload_n 3, 1) := by decide +kernel
theorem dL_law_316 : decode cL_law 316 = .ok (.iconst 1, 1) := by decide +kernel
theorem dL_law_317 : decode cL_law 317 = .ok (.iadd, 1) := by decide +kernel
theorem dL_law_318 : decode cL_law 318 = .ok (.iaload, 1) := by decide +kernel
theorem dL_law_319 : decode cL_law 319 = .ok (.invokevirtual 53, 3) := by decide +kernel
theorem dL_law_322 : decode cL_law 322 = .ok (.if_icmp .eq 117, 3) := by decide +kernel
theorem dL_law_325 : decode cL_law 325 = .ok (.iconst 0, 1) := by decide +kernel
theorem dL_law_326 : decode cL_law 326 = .ok (.ireturn, 1) := by decide +kernel
theorem dL_law_327 : decode cL_law 327 = .ok (.aload_n 1, 1) := by decide +kernel
theorem dL_law_328 : decode cL_law 328 = .ok (.aload_n 0, 1) := by decide +kernel
theorem dL_law_329 : decode cL_law 329 = .ok (.iload_n 3, 1) := by decide +kernel
theorem dL_law_330 : decode cL_law 330 = .ok (.iconst 1, 1) := by decide +kernel
theorem dL_law_331 : decode cL_law 331 = .ok (.iadd, 1) := by decide +kernel
theorem dL_law_332 : decode cL_law 332 = .ok (.iaload, 1) := by decide +kernel
theorem dL_law_333 : decode cL_law 333 = .ok (.aload_n 0, 1) := by decide +kernel
theorem dL_law_334 : decode cL_law 334 = .ok (.iload_n 3, 1) := by decide +kernel
theorem dL_law_335 : decode cL_law 335 = .ok (.iconst 2, 1) := by decide +kernel
theorem dL_law_336 : decode cL_law 336 = .ok (.iadd, 1) := by decide +kernel
theorem dL_law_337 : decode cL_law 337 = .ok (.iaload, 1) := by decide +kernel
theorem dL_law_338 : decode cL_law 338 = .ok (.invokevirtual 54, 3) := by decide +kernel
theorem dL_law_341 : decode cL_law 341 = .ok (.aload_n 2, 1) := by decide +kernel
theorem dL_law_342 : decode cL_law 342 = .ok (.aload_n 0, 1) := by decide +kernel
theorem dL_law_343 : decode cL_law 343 = .ok (.iload_n 3, 1) := by decide +kernel
theorem dL_law_344 : decode cL_law 344 = .ok (.iconst 1, 1) := by decide +kernel
theorem dL_law_345 : decode cL_law 345 = .ok (.iadd, 1) := by decide +kernel
theorem dL_law_346 : decode cL_law 346 = .ok (.iaload, 1) := by decide +kernel
theorem dL_law_347 : decode cL_law 347 = .ok (.aload_n 0, 1) := by decide +kernel
theorem dL_law_348 : decode cL_law 348 = .ok (.iload_n 3, 1) := by decide +kernel
theorem dL_law_349 : decode cL_law 349 = .ok (.iconst 2, 1) := by decide +kernel
theorem dL_law_350 : decode cL_law 350 = .ok (.iadd, 1) := by decide +kernel
theorem dL_law_351 : decode cL_law 351 = .ok (.iaload, 1) := by decide +kernel
theorem dL_law_352 : decode cL_law 352 = .ok (.invokevirtual 57, 3) := by decide +kernel
theorem dL_law_355 : decode cL_law 355 = .ok (.if_icmp .eq 84, 3) := by decide +kernel
theorem dL_law_358 : decode cL_law 358 = .ok (.iconst 0, 1) := by decide +kernel
theorem dL_law_359 : decode cL_law 359 = .ok (.ireturn, 1) := by decide +kernel
theorem dL_law_360 : decode cL_law 360 = .ok (.aload_n 1, 1) := by decide +kernel
theorem dL_law_361 : decode cL_law 361 = .ok (.aload_n 0, 1) := by decide +kernel
theorem dL_law_362 : decode cL_law 362 = .ok (.iload_n 3, 1) := by decide +kernel
theorem dL_law_363 : decode cL_law 363 = .ok (.iconst 1, 1) := by decide +kernel
theorem dL_law_364 : decode cL_law 364 = .ok (.iadd, 1) := by decide +kernel
theorem dL_law_365 : decode cL_law 365 = .ok (.iaload, 1) := by decide +kernel
theorem dL_law_366 : decode cL_law 366 = .ok (.invokevirtual 58, 3) := by decide +kernel
theorem dL_law_369 : decode cL_law 369 = .ok (.aload_n 2, 1) := by decide +kernel
theorem dL_law_370 : decode cL_law 370 = .ok (.aload_n 0, 1) := by decide +kernel
theorem dL_law_371 : decode cL_law 371 = .ok (.iload_n 3, 1) := by decide +kernel
theorem dL_law_372 : decode cL_law 372 = .ok (.iconst 1, 1) := by decide +kernel
theorem dL_law_373 : decode cL_law 373 = .ok (.iadd, 1) := by decide +kernel
theorem dL_law_374 : decode cL_law 374 = .ok (.iaload, 1) := by decide +kernel
theorem dL_law_375 : decode cL_law 375 = .ok (.invokevirtual 61, 3) := by decide +kernel
theorem dL_law_378 : decode cL_law 378 = .ok (.if_icmp .eq 61, 3) := by decide +kernel
theorem dL_law_381 : decode cL_law 381 = .ok (.iconst 0, 1) := by decide +kernel
theorem dL_law_382 : decode cL_law 382 = .ok (.ireturn, 1) := by decide +kernel
theorem dL_law_383 : decode cL_law 383 = .ok (.aload_n 1, 1) := by decide +kernel
theorem dL_law_384 : decode cL_law 384 = .ok (.aload_n 0, 1) := by decide +kernel
theorem dL_law_385 : decode cL_law 385 = .ok (.iload_n 3, 1) := by decide +kernel
theorem dL_law_386 : decode cL_law 386 = .ok (.iconst 1, 1) := by decide +kernel
theorem dL_law_387 : decode cL_law 387 = .ok (.iadd, 1) := by decide +kernel
theorem dL_law_388 : decode cL_law 388 = .ok (.iaload, 1) := by decide +kernel
theorem dL_law_389 : decode cL_law 389 = .ok (.aload_n 0, 1) := by decide +kernel
theorem dL_law_390 : decode cL_law 390 = .ok (.iload_n 3, 1) := by decide +kernel
theorem dL_law_391 : decode cL_law 391 = .ok (.iconst 2, 1) := by decide +kernel
theorem dL_law_392 : decode cL_law 392 = .ok (.iadd, 1) := by decide +kernel
theorem dL_law_393 : decode cL_law 393 = .ok (.iaload, 1) := by decide +kernel
theorem dL_law_394 : decode cL_law 394 = .ok (.invokevirtual 62, 3) := by decide +kernel
theorem dL_law_397 : decode cL_law 397 = .ok (.aload_n 2, 1) := by decide +kernel
theorem dL_law_398 : decode cL_law 398 = .ok (.aload_n 0, 1) := by decide +kernel
theorem dL_law_399 : decode cL_law 399 = .ok (.iload_n 3, 1) := by decide +kernel
theorem dL_law_400 : decode cL_law 400 = .ok (.iconst 1, 1) := by decide +kernel
theorem dL_law_401 : decode cL_law 401 = .ok (.iadd, 1) := by decide +kernel
theorem dL_law_402 : decode cL_law 402 = .ok (.iaload, 1) := by decide +kernel
theorem dL_law_403 : decode cL_law 403 = .ok (.aload_n 0, 1) := by decide +kernel
theorem dL_law_404 : decode cL_law 404 = .ok (.iload_n 3, 1) := by decide +kernel
theorem dL_law_405 : decode cL_law 405 = .ok (.iconst 2, 1) := by decide +kernel
theorem dL_law_406 : decode cL_law 406 = .ok (.iadd, 1) := by decide +kernel
theorem dL_law_407 : decode cL_law 407 = .ok (.iaload, 1) := by decide +kernel
theorem dL_law_408 : decode cL_law 408 = .ok (.invokevirtual 65, 3) := by decide +kernel
theorem dL_law_411 : decode cL_law 411 = .ok (.if_icmp .eq 28, 3) := by decide +kernel
theorem dL_law_414 : decode cL_law 414 = .ok (.iconst 0, 1) := by decide +kernel
theorem dL_law_415 : decode cL_law 415 = .ok (.ireturn, 1) := by decide +kernel
theorem dL_law_416 : decode cL_law 416 = .ok (.aload_n 1, 1) := by decide +kernel
theorem dL_law_417 : decode cL_law 417 = .ok (.aload_n 0, 1) := by decide +kernel
theorem dL_law_418 : decode cL_law 418 = .ok (.iload_n 3, 1) := by decide +kernel
theorem dL_law_419 : decode cL_law 419 = .ok (.iconst 1, 1) := by decide +kernel
theorem dL_law_420 : decode cL_law 420 = .ok (.iadd, 1) := by decide +kernel
theorem dL_law_421 : decode cL_law 421 = .ok (.iaload, 1) := by decide +kernel
theorem dL_law_422 : decode cL_law 422 = .ok (.invokevirtual 66, 3) := by decide +kernel
theorem dL_law_425 : decode cL_law 425 = .ok (.aload_n 2, 1) := by decide +kernel
theorem dL_law_426 : decode cL_law 426 = .ok (.aload_n 0, 1) := by decide +kernel
theorem dL_law_427 : decode cL_law 427 = .ok (.iload_n 3, 1) := by decide +kernel
theorem dL_law_428 : decode cL_law 428 = .ok (.iconst 1, 1) := by decide +kernel
theorem dL_law_429 : decode cL_law 429 = .ok (.iadd, 1) := by decide +kernel
theorem dL_law_430 : decode cL_law 430 = .ok (.iaload, 1) := by decide +kernel
theorem dL_law_431 : decode cL_law 431 = .ok (.invokevirtual 69, 3) := by decide +kernel
theorem dL_law_434 : decode cL_law 434 = .ok (.if_icmp .eq 5, 3) := by decide +kernel
theorem dL_law_437 : decode cL_law 437 = .ok (.iconst 0, 1) := by decide +kernel
theorem dL_law_438 : decode cL_law 438 = .ok (.ireturn, 1) := by decide +kernel
theorem dL_law_439 : decode cL_law 439 = .ok (.iinc 3 4, 3) := by decide +kernel
theorem dL_law_442 : decode cL_law 442 = .ok (.goto (-424), 3) := by decide +kernel
theorem dL_law_445 : decode cL_law 445 = .ok (.iconst 1, 1) := by decide +kernel
theorem dL_law_446 : decode cL_law 446 = .ok (.ireturn, 1) := by decide +kernel
abbrev vwCl : List vw_C := [(RX0, TX0, 7), (RX1, TX1, 5)]
/-- the objects of CurveDesk, kind 0: what each holds, by its address -/
structure wK_O_CurveDesk where
  f_prime : Nat → Int32
  f_a : Nat → Int32
  f_b : Nat → Int32
  f_count : Nat → Int32
  f_lesserRoot : Nat → Option Nat
  f_pointsBefore : Nat → Option Nat
  f_divisionValue : Nat → Option Nat
/-- the objects of CurveDeskModel, kind 1: what each holds, by its address -/
structure wK_O_CurveDeskModel where
  f_p : Nat → Int32
  f_a : Nat → Int32
  f_b : Nat → Int32
  f_squares : Nat → Option Nat
  f_f : Nat → Option Nat
/-- the arrays of kind 2: what each holds, by its address -/
structure wK_R_I where
  len : Nat → Nat
  row : Nat → Nat → Int32
/-- the pool: the addresses, the kind of each, and the kinds -/
structure wPS where
  L : List Nat
  K : Nat → Nat
  O_CurveDesk : wK_O_CurveDesk
  O_CurveDeskModel : wK_O_CurveDeskModel
  R_I : wK_R_I
/-- the empty pool -/
abbrev wP0 : wPS := { L := [], K := (fun _ => 0), O_CurveDesk := { f_prime := (fun _ => 0), f_a := (fun _ => 0), f_b := (fun _ => 0), f_count := (fun _ => 0), f_lesserRoot := (fun _ => none), f_pointsBefore := (fun _ => none), f_divisionValue := (fun _ => none) }, O_CurveDeskModel := { f_p := (fun _ => 0), f_a := (fun _ => 0), f_b := (fun _ => 0), f_squares := (fun _ => none), f_f := (fun _ => none) }, R_I := { len := (fun _ => 0), row := (fun _ _ => 0) } }
/-- the pool's rows by their kinds -/
abbrev wPF (cyI : ClassId) (S : wPS) : Nat → va_E := fun a => if S.K a = 0 then .inr (0, [.int (S.O_CurveDesk.f_prime a), .int (S.O_CurveDesk.f_a a), .int (S.O_CurveDesk.f_b a), .int (S.O_CurveDesk.f_count a), va_rf (S.O_CurveDesk.f_lesserRoot a), va_rf (S.O_CurveDesk.f_pointsBefore a), va_rf (S.O_CurveDesk.f_divisionValue a)]) else if S.K a = 1 then .inr (1, [.int (S.O_CurveDeskModel.f_p a), .int (S.O_CurveDeskModel.f_a a), .int (S.O_CurveDeskModel.f_b a), va_rf (S.O_CurveDeskModel.f_squares a), va_rf (S.O_CurveDeskModel.f_f a)]) else .inl (cyI, S.R_I.len a, .inl (S.R_I.row a))
theorem wAt_O_CurveDesk (cyI : ClassId) (S : wPS) {a : Nat} (h : S.K a = 0) : wPF cyI S a = .inr (0, [.int (S.O_CurveDesk.f_prime a), .int (S.O_CurveDesk.f_a a), .int (S.O_CurveDesk.f_b a), .int (S.O_CurveDesk.f_count a), va_rf (S.O_CurveDesk.f_lesserRoot a), va_rf (S.O_CurveDesk.f_pointsBefore a), va_rf (S.O_CurveDesk.f_divisionValue a)]) := by simp [wPF, h]
theorem wGt_O_CurveDesk (cyI : ClassId) (X : va_W) (S : wPS) {a : Nat} (hL : a ∈ S.L) (h : S.K a = 0) : ∃ k : Nat, (X ++ va_pl S.L (wPF cyI S))[k]? = some (a, wPF cyI S a) ∧ (X ++ va_pl S.L (wPF cyI S))[k]? = some (a, .inr (0, [.int (S.O_CurveDesk.f_prime a), .int (S.O_CurveDesk.f_a a), .int (S.O_CurveDesk.f_b a), .int (S.O_CurveDesk.f_count a), va_rf (S.O_CurveDesk.f_lesserRoot a), va_rf (S.O_CurveDesk.f_pointsBefore a), va_rf (S.O_CurveDesk.f_divisionValue a)])) := by
  obtain ⟨k, hk⟩ := va_pl_get (X := X) (f := wPF cyI S) hL
  exact ⟨k, hk, hk.trans (congrArg (fun e => some (a, e)) (wAt_O_CurveDesk cyI S h))⟩
theorem wSt_O_CurveDesk_f_prime (cyI : ClassId) (S : wPS) {a : Nat} (h : S.K a = 0) (v : Int32) (b : Nat) : va_up (wPF cyI S) a (.inr (0, [.int v, .int (S.O_CurveDesk.f_a a), .int (S.O_CurveDesk.f_b a), .int (S.O_CurveDesk.f_count a), va_rf (S.O_CurveDesk.f_lesserRoot a), va_rf (S.O_CurveDesk.f_pointsBefore a), va_rf (S.O_CurveDesk.f_divisionValue a)])) b = wPF cyI { S with O_CurveDesk := { S.O_CurveDesk with f_prime := va_up S.O_CurveDesk.f_prime a v } } b := by by_cases hb : b = a <;> first | (simp only [wPF, va_up_ne _ _ hb]; done) | (simp only [wPF, va_up, if_neg hb]; done) | simp [wPF, va_re, va_up, va_rf, hb, h]
theorem wPu_O_CurveDesk_f_prime (cyI : ClassId) (X : va_W) (S : wPS) {A : Nat → Prop} {a k : Nat} (hD : va_D A (X ++ va_pl S.L (wPF cyI S))) (hL : a ∈ S.L) (h : S.K a = 0) (hk : (X ++ va_pl S.L (wPF cyI S))[k]? = some (a, wPF cyI S a)) (v : Int32) : (X ++ va_pl S.L (wPF cyI S)).set k (a, .inr (0, [.int v, .int (S.O_CurveDesk.f_a a), .int (S.O_CurveDesk.f_b a), .int (S.O_CurveDesk.f_count a), va_rf (S.O_CurveDesk.f_lesserRoot a), va_rf (S.O_CurveDesk.f_pointsBefore a), va_rf (S.O_CurveDesk.f_divisionValue a)])) = X ++ va_pl S.L (wPF cyI { S with O_CurveDesk := { S.O_CurveDesk with f_prime := va_up S.O_CurveDesk.f_prime a v } }) := by
  rw [va_pl_set hD hL hk]
  exact congrArg (fun l => X ++ l) (va_pl_congr (wSt_O_CurveDesk_f_prime cyI S h v))
theorem wSt_O_CurveDesk_f_a (cyI : ClassId) (S : wPS) {a : Nat} (h : S.K a = 0) (v : Int32) (b : Nat) : va_up (wPF cyI S) a (.inr (0, [.int (S.O_CurveDesk.f_prime a), .int v, .int (S.O_CurveDesk.f_b a), .int (S.O_CurveDesk.f_count a), va_rf (S.O_CurveDesk.f_lesserRoot a), va_rf (S.O_CurveDesk.f_pointsBefore a), va_rf (S.O_CurveDesk.f_divisionValue a)])) b = wPF cyI { S with O_CurveDesk := { S.O_CurveDesk with f_a := va_up S.O_CurveDesk.f_a a v } } b := by by_cases hb : b = a <;> first | (simp only [wPF, va_up_ne _ _ hb]; done) | (simp only [wPF, va_up, if_neg hb]; done) | simp [wPF, va_re, va_up, va_rf, hb, h]
theorem wPu_O_CurveDesk_f_a (cyI : ClassId) (X : va_W) (S : wPS) {A : Nat → Prop} {a k : Nat} (hD : va_D A (X ++ va_pl S.L (wPF cyI S))) (hL : a ∈ S.L) (h : S.K a = 0) (hk : (X ++ va_pl S.L (wPF cyI S))[k]? = some (a, wPF cyI S a)) (v : Int32) : (X ++ va_pl S.L (wPF cyI S)).set k (a, .inr (0, [.int (S.O_CurveDesk.f_prime a), .int v, .int (S.O_CurveDesk.f_b a), .int (S.O_CurveDesk.f_count a), va_rf (S.O_CurveDesk.f_lesserRoot a), va_rf (S.O_CurveDesk.f_pointsBefore a), va_rf (S.O_CurveDesk.f_divisionValue a)])) = X ++ va_pl S.L (wPF cyI { S with O_CurveDesk := { S.O_CurveDesk with f_a := va_up S.O_CurveDesk.f_a a v } }) := by
  rw [va_pl_set hD hL hk]
  exact congrArg (fun l => X ++ l) (va_pl_congr (wSt_O_CurveDesk_f_a cyI S h v))
theorem wSt_O_CurveDesk_f_b (cyI : ClassId) (S : wPS) {a : Nat} (h : S.K a = 0) (v : Int32) (b : Nat) : va_up (wPF cyI S) a (.inr (0, [.int (S.O_CurveDesk.f_prime a), .int (S.O_CurveDesk.f_a a), .int v, .int (S.O_CurveDesk.f_count a), va_rf (S.O_CurveDesk.f_lesserRoot a), va_rf (S.O_CurveDesk.f_pointsBefore a), va_rf (S.O_CurveDesk.f_divisionValue a)])) b = wPF cyI { S with O_CurveDesk := { S.O_CurveDesk with f_b := va_up S.O_CurveDesk.f_b a v } } b := by by_cases hb : b = a <;> first | (simp only [wPF, va_up_ne _ _ hb]; done) | (simp only [wPF, va_up, if_neg hb]; done) | simp [wPF, va_re, va_up, va_rf, hb, h]
theorem wPu_O_CurveDesk_f_b (cyI : ClassId) (X : va_W) (S : wPS) {A : Nat → Prop} {a k : Nat} (hD : va_D A (X ++ va_pl S.L (wPF cyI S))) (hL : a ∈ S.L) (h : S.K a = 0) (hk : (X ++ va_pl S.L (wPF cyI S))[k]? = some (a, wPF cyI S a)) (v : Int32) : (X ++ va_pl S.L (wPF cyI S)).set k (a, .inr (0, [.int (S.O_CurveDesk.f_prime a), .int (S.O_CurveDesk.f_a a), .int v, .int (S.O_CurveDesk.f_count a), va_rf (S.O_CurveDesk.f_lesserRoot a), va_rf (S.O_CurveDesk.f_pointsBefore a), va_rf (S.O_CurveDesk.f_divisionValue a)])) = X ++ va_pl S.L (wPF cyI { S with O_CurveDesk := { S.O_CurveDesk with f_b := va_up S.O_CurveDesk.f_b a v } }) := by
  rw [va_pl_set hD hL hk]
  exact congrArg (fun l => X ++ l) (va_pl_congr (wSt_O_CurveDesk_f_b cyI S h v))
theorem wSt_O_CurveDesk_f_count (cyI : ClassId) (S : wPS) {a : Nat} (h : S.K a = 0) (v : Int32) (b : Nat) : va_up (wPF cyI S) a (.inr (0, [.int (S.O_CurveDesk.f_prime a), .int (S.O_CurveDesk.f_a a), .int (S.O_CurveDesk.f_b a), .int v, va_rf (S.O_CurveDesk.f_lesserRoot a), va_rf (S.O_CurveDesk.f_pointsBefore a), va_rf (S.O_CurveDesk.f_divisionValue a)])) b = wPF cyI { S with O_CurveDesk := { S.O_CurveDesk with f_count := va_up S.O_CurveDesk.f_count a v } } b := by by_cases hb : b = a <;> first | (simp only [wPF, va_up_ne _ _ hb]; done) | (simp only [wPF, va_up, if_neg hb]; done) | simp [wPF, va_re, va_up, va_rf, hb, h]
theorem wPu_O_CurveDesk_f_count (cyI : ClassId) (X : va_W) (S : wPS) {A : Nat → Prop} {a k : Nat} (hD : va_D A (X ++ va_pl S.L (wPF cyI S))) (hL : a ∈ S.L) (h : S.K a = 0) (hk : (X ++ va_pl S.L (wPF cyI S))[k]? = some (a, wPF cyI S a)) (v : Int32) : (X ++ va_pl S.L (wPF cyI S)).set k (a, .inr (0, [.int (S.O_CurveDesk.f_prime a), .int (S.O_CurveDesk.f_a a), .int (S.O_CurveDesk.f_b a), .int v, va_rf (S.O_CurveDesk.f_lesserRoot a), va_rf (S.O_CurveDesk.f_pointsBefore a), va_rf (S.O_CurveDesk.f_divisionValue a)])) = X ++ va_pl S.L (wPF cyI { S with O_CurveDesk := { S.O_CurveDesk with f_count := va_up S.O_CurveDesk.f_count a v } }) := by
  rw [va_pl_set hD hL hk]
  exact congrArg (fun l => X ++ l) (va_pl_congr (wSt_O_CurveDesk_f_count cyI S h v))
theorem wSt_O_CurveDesk_f_lesserRoot (cyI : ClassId) (S : wPS) {a : Nat} (h : S.K a = 0) (v : Option Nat) (b : Nat) : va_up (wPF cyI S) a (.inr (0, [.int (S.O_CurveDesk.f_prime a), .int (S.O_CurveDesk.f_a a), .int (S.O_CurveDesk.f_b a), .int (S.O_CurveDesk.f_count a), va_rf v, va_rf (S.O_CurveDesk.f_pointsBefore a), va_rf (S.O_CurveDesk.f_divisionValue a)])) b = wPF cyI { S with O_CurveDesk := { S.O_CurveDesk with f_lesserRoot := va_up S.O_CurveDesk.f_lesserRoot a v } } b := by by_cases hb : b = a <;> first | (simp only [wPF, va_up_ne _ _ hb]; done) | (simp only [wPF, va_up, if_neg hb]; done) | simp [wPF, va_re, va_up, va_rf, hb, h]
theorem wPu_O_CurveDesk_f_lesserRoot (cyI : ClassId) (X : va_W) (S : wPS) {A : Nat → Prop} {a k : Nat} (hD : va_D A (X ++ va_pl S.L (wPF cyI S))) (hL : a ∈ S.L) (h : S.K a = 0) (hk : (X ++ va_pl S.L (wPF cyI S))[k]? = some (a, wPF cyI S a)) (v : Option Nat) : (X ++ va_pl S.L (wPF cyI S)).set k (a, .inr (0, [.int (S.O_CurveDesk.f_prime a), .int (S.O_CurveDesk.f_a a), .int (S.O_CurveDesk.f_b a), .int (S.O_CurveDesk.f_count a), va_rf v, va_rf (S.O_CurveDesk.f_pointsBefore a), va_rf (S.O_CurveDesk.f_divisionValue a)])) = X ++ va_pl S.L (wPF cyI { S with O_CurveDesk := { S.O_CurveDesk with f_lesserRoot := va_up S.O_CurveDesk.f_lesserRoot a v } }) := by
  rw [va_pl_set hD hL hk]
  exact congrArg (fun l => X ++ l) (va_pl_congr (wSt_O_CurveDesk_f_lesserRoot cyI S h v))
theorem wSt_O_CurveDesk_f_pointsBefore (cyI : ClassId) (S : wPS) {a : Nat} (h : S.K a = 0) (v : Option Nat) (b : Nat) : va_up (wPF cyI S) a (.inr (0, [.int (S.O_CurveDesk.f_prime a), .int (S.O_CurveDesk.f_a a), .int (S.O_CurveDesk.f_b a), .int (S.O_CurveDesk.f_count a), va_rf (S.O_CurveDesk.f_lesserRoot a), va_rf v, va_rf (S.O_CurveDesk.f_divisionValue a)])) b = wPF cyI { S with O_CurveDesk := { S.O_CurveDesk with f_pointsBefore := va_up S.O_CurveDesk.f_pointsBefore a v } } b := by by_cases hb : b = a <;> first | (simp only [wPF, va_up_ne _ _ hb]; done) | (simp only [wPF, va_up, if_neg hb]; done) | simp [wPF, va_re, va_up, va_rf, hb, h]
theorem wPu_O_CurveDesk_f_pointsBefore (cyI : ClassId) (X : va_W) (S : wPS) {A : Nat → Prop} {a k : Nat} (hD : va_D A (X ++ va_pl S.L (wPF cyI S))) (hL : a ∈ S.L) (h : S.K a = 0) (hk : (X ++ va_pl S.L (wPF cyI S))[k]? = some (a, wPF cyI S a)) (v : Option Nat) : (X ++ va_pl S.L (wPF cyI S)).set k (a, .inr (0, [.int (S.O_CurveDesk.f_prime a), .int (S.O_CurveDesk.f_a a), .int (S.O_CurveDesk.f_b a), .int (S.O_CurveDesk.f_count a), va_rf (S.O_CurveDesk.f_lesserRoot a), va_rf v, va_rf (S.O_CurveDesk.f_divisionValue a)])) = X ++ va_pl S.L (wPF cyI { S with O_CurveDesk := { S.O_CurveDesk with f_pointsBefore := va_up S.O_CurveDesk.f_pointsBefore a v } }) := by
  rw [va_pl_set hD hL hk]
  exact congrArg (fun l => X ++ l) (va_pl_congr (wSt_O_CurveDesk_f_pointsBefore cyI S h v))
theorem wSt_O_CurveDesk_f_divisionValue (cyI : ClassId) (S : wPS) {a : Nat} (h : S.K a = 0) (v : Option Nat) (b : Nat) : va_up (wPF cyI S) a (.inr (0, [.int (S.O_CurveDesk.f_prime a), .int (S.O_CurveDesk.f_a a), .int (S.O_CurveDesk.f_b a), .int (S.O_CurveDesk.f_count a), va_rf (S.O_CurveDesk.f_lesserRoot a), va_rf (S.O_CurveDesk.f_pointsBefore a), va_rf v])) b = wPF cyI { S with O_CurveDesk := { S.O_CurveDesk with f_divisionValue := va_up S.O_CurveDesk.f_divisionValue a v } } b := by by_cases hb : b = a <;> first | (simp only [wPF, va_up_ne _ _ hb]; done) | (simp only [wPF, va_up, if_neg hb]; done) | simp [wPF, va_re, va_up, va_rf, hb, h]
theorem wPu_O_CurveDesk_f_divisionValue (cyI : ClassId) (X : va_W) (S : wPS) {A : Nat → Prop} {a k : Nat} (hD : va_D A (X ++ va_pl S.L (wPF cyI S))) (hL : a ∈ S.L) (h : S.K a = 0) (hk : (X ++ va_pl S.L (wPF cyI S))[k]? = some (a, wPF cyI S a)) (v : Option Nat) : (X ++ va_pl S.L (wPF cyI S)).set k (a, .inr (0, [.int (S.O_CurveDesk.f_prime a), .int (S.O_CurveDesk.f_a a), .int (S.O_CurveDesk.f_b a), .int (S.O_CurveDesk.f_count a), va_rf (S.O_CurveDesk.f_lesserRoot a), va_rf (S.O_CurveDesk.f_pointsBefore a), va_rf v])) = X ++ va_pl S.L (wPF cyI { S with O_CurveDesk := { S.O_CurveDesk with f_divisionValue := va_up S.O_CurveDesk.f_divisionValue a v } }) := by
  rw [va_pl_set hD hL hk]
  exact congrArg (fun l => X ++ l) (va_pl_congr (wSt_O_CurveDesk_f_divisionValue cyI S h v))
theorem wNw_O_CurveDesk (cyI : ClassId) (S : wPS) (a b : Nat) : va_up (wPF cyI S) a (.inr (0, [.int 0, .int 0, .int 0, .int 0, .null, .null, .null])) b = wPF cyI { S with L := S.L ++ [a], K := va_up S.K a 0, O_CurveDesk := { f_prime := va_up S.O_CurveDesk.f_prime a 0, f_a := va_up S.O_CurveDesk.f_a a 0, f_b := va_up S.O_CurveDesk.f_b a 0, f_count := va_up S.O_CurveDesk.f_count a 0, f_lesserRoot := va_up S.O_CurveDesk.f_lesserRoot a none, f_pointsBefore := va_up S.O_CurveDesk.f_pointsBefore a none, f_divisionValue := va_up S.O_CurveDesk.f_divisionValue a none } } b := by by_cases hb : b = a <;> first | (simp only [wPF, va_up_ne _ _ hb]; done) | (simp only [wPF, va_up, if_neg hb]; done) | simp [wPF, va_re, va_up, va_rf, hb]
theorem wPn_O_CurveDesk (cyI : ClassId) (X : va_W) (S : wPS) {a : Nat} (ha : a ∉ S.L) : (X ++ va_pl S.L (wPF cyI S)) ++ [(a, .inr (0, [.int 0, .int 0, .int 0, .int 0, .null, .null, .null]))] = X ++ va_pl (S.L ++ [a]) (wPF cyI { S with L := S.L ++ [a], K := va_up S.K a 0, O_CurveDesk := { f_prime := va_up S.O_CurveDesk.f_prime a 0, f_a := va_up S.O_CurveDesk.f_a a 0, f_b := va_up S.O_CurveDesk.f_b a 0, f_count := va_up S.O_CurveDesk.f_count a 0, f_lesserRoot := va_up S.O_CurveDesk.f_lesserRoot a none, f_pointsBefore := va_up S.O_CurveDesk.f_pointsBefore a none, f_divisionValue := va_up S.O_CurveDesk.f_divisionValue a none } }) := by
  rw [List.append_assoc, va_pl_push ha]
  exact congrArg (fun l => X ++ l) (va_pl_congr (wNw_O_CurveDesk cyI S a))
theorem wAt_O_CurveDeskModel (cyI : ClassId) (S : wPS) {a : Nat} (h : S.K a = 1) : wPF cyI S a = .inr (1, [.int (S.O_CurveDeskModel.f_p a), .int (S.O_CurveDeskModel.f_a a), .int (S.O_CurveDeskModel.f_b a), va_rf (S.O_CurveDeskModel.f_squares a), va_rf (S.O_CurveDeskModel.f_f a)]) := by simp [wPF, h]
theorem wGt_O_CurveDeskModel (cyI : ClassId) (X : va_W) (S : wPS) {a : Nat} (hL : a ∈ S.L) (h : S.K a = 1) : ∃ k : Nat, (X ++ va_pl S.L (wPF cyI S))[k]? = some (a, wPF cyI S a) ∧ (X ++ va_pl S.L (wPF cyI S))[k]? = some (a, .inr (1, [.int (S.O_CurveDeskModel.f_p a), .int (S.O_CurveDeskModel.f_a a), .int (S.O_CurveDeskModel.f_b a), va_rf (S.O_CurveDeskModel.f_squares a), va_rf (S.O_CurveDeskModel.f_f a)])) := by
  obtain ⟨k, hk⟩ := va_pl_get (X := X) (f := wPF cyI S) hL
  exact ⟨k, hk, hk.trans (congrArg (fun e => some (a, e)) (wAt_O_CurveDeskModel cyI S h))⟩
theorem wSt_O_CurveDeskModel_f_p (cyI : ClassId) (S : wPS) {a : Nat} (h : S.K a = 1) (v : Int32) (b : Nat) : va_up (wPF cyI S) a (.inr (1, [.int v, .int (S.O_CurveDeskModel.f_a a), .int (S.O_CurveDeskModel.f_b a), va_rf (S.O_CurveDeskModel.f_squares a), va_rf (S.O_CurveDeskModel.f_f a)])) b = wPF cyI { S with O_CurveDeskModel := { S.O_CurveDeskModel with f_p := va_up S.O_CurveDeskModel.f_p a v } } b := by by_cases hb : b = a <;> first | (simp only [wPF, va_up_ne _ _ hb]; done) | (simp only [wPF, va_up, if_neg hb]; done) | simp [wPF, va_re, va_up, va_rf, hb, h]
theorem wPu_O_CurveDeskModel_f_p (cyI : ClassId) (X : va_W) (S : wPS) {A : Nat → Prop} {a k : Nat} (hD : va_D A (X ++ va_pl S.L (wPF cyI S))) (hL : a ∈ S.L) (h : S.K a = 1) (hk : (X ++ va_pl S.L (wPF cyI S))[k]? = some (a, wPF cyI S a)) (v : Int32) : (X ++ va_pl S.L (wPF cyI S)).set k (a, .inr (1, [.int v, .int (S.O_CurveDeskModel.f_a a), .int (S.O_CurveDeskModel.f_b a), va_rf (S.O_CurveDeskModel.f_squares a), va_rf (S.O_CurveDeskModel.f_f a)])) = X ++ va_pl S.L (wPF cyI { S with O_CurveDeskModel := { S.O_CurveDeskModel with f_p := va_up S.O_CurveDeskModel.f_p a v } }) := by
  rw [va_pl_set hD hL hk]
  exact congrArg (fun l => X ++ l) (va_pl_congr (wSt_O_CurveDeskModel_f_p cyI S h v))
theorem wSt_O_CurveDeskModel_f_a (cyI : ClassId) (S : wPS) {a : Nat} (h : S.K a = 1) (v : Int32) (b : Nat) : va_up (wPF cyI S) a (.inr (1, [.int (S.O_CurveDeskModel.f_p a), .int v, .int (S.O_CurveDeskModel.f_b a), va_rf (S.O_CurveDeskModel.f_squares a), va_rf (S.O_CurveDeskModel.f_f a)])) b = wPF cyI { S with O_CurveDeskModel := { S.O_CurveDeskModel with f_a := va_up S.O_CurveDeskModel.f_a a v } } b := by by_cases hb : b = a <;> first | (simp only [wPF, va_up_ne _ _ hb]; done) | (simp only [wPF, va_up, if_neg hb]; done) | simp [wPF, va_re, va_up, va_rf, hb, h]
theorem wPu_O_CurveDeskModel_f_a (cyI : ClassId) (X : va_W) (S : wPS) {A : Nat → Prop} {a k : Nat} (hD : va_D A (X ++ va_pl S.L (wPF cyI S))) (hL : a ∈ S.L) (h : S.K a = 1) (hk : (X ++ va_pl S.L (wPF cyI S))[k]? = some (a, wPF cyI S a)) (v : Int32) : (X ++ va_pl S.L (wPF cyI S)).set k (a, .inr (1, [.int (S.O_CurveDeskModel.f_p a), .int v, .int (S.O_CurveDeskModel.f_b a), va_rf (S.O_CurveDeskModel.f_squares a), va_rf (S.O_CurveDeskModel.f_f a)])) = X ++ va_pl S.L (wPF cyI { S with O_CurveDeskModel := { S.O_CurveDeskModel with f_a := va_up S.O_CurveDeskModel.f_a a v } }) := by
  rw [va_pl_set hD hL hk]
  exact congrArg (fun l => X ++ l) (va_pl_congr (wSt_O_CurveDeskModel_f_a cyI S h v))
theorem wSt_O_CurveDeskModel_f_b (cyI : ClassId) (S : wPS) {a : Nat} (h : S.K a = 1) (v : Int32) (b : Nat) : va_up (wPF cyI S) a (.inr (1, [.int (S.O_CurveDeskModel.f_p a), .int (S.O_CurveDeskModel.f_a a), .int v, va_rf (S.O_CurveDeskModel.f_squares a), va_rf (S.O_CurveDeskModel.f_f a)])) b = wPF cyI { S with O_CurveDeskModel := { S.O_CurveDeskModel with f_b := va_up S.O_CurveDeskModel.f_b a v } } b := by by_cases hb : b = a <;> first | (simp only [wPF, va_up_ne _ _ hb]; done) | (simp only [wPF, va_up, if_neg hb]; done) | simp [wPF, va_re, va_up, va_rf, hb, h]
theorem wPu_O_CurveDeskModel_f_b (cyI : ClassId) (X : va_W) (S : wPS) {A : Nat → Prop} {a k : Nat} (hD : va_D A (X ++ va_pl S.L (wPF cyI S))) (hL : a ∈ S.L) (h : S.K a = 1) (hk : (X ++ va_pl S.L (wPF cyI S))[k]? = some (a, wPF cyI S a)) (v : Int32) : (X ++ va_pl S.L (wPF cyI S)).set k (a, .inr (1, [.int (S.O_CurveDeskModel.f_p a), .int (S.O_CurveDeskModel.f_a a), .int v, va_rf (S.O_CurveDeskModel.f_squares a), va_rf (S.O_CurveDeskModel.f_f a)])) = X ++ va_pl S.L (wPF cyI { S with O_CurveDeskModel := { S.O_CurveDeskModel with f_b := va_up S.O_CurveDeskModel.f_b a v } }) := by
  rw [va_pl_set hD hL hk]
  exact congrArg (fun l => X ++ l) (va_pl_congr (wSt_O_CurveDeskModel_f_b cyI S h v))
theorem wSt_O_CurveDeskModel_f_squares (cyI : ClassId) (S : wPS) {a : Nat} (h : S.K a = 1) (v : Option Nat) (b : Nat) : va_up (wPF cyI S) a (.inr (1, [.int (S.O_CurveDeskModel.f_p a), .int (S.O_CurveDeskModel.f_a a), .int (S.O_CurveDeskModel.f_b a), va_rf v, va_rf (S.O_CurveDeskModel.f_f a)])) b = wPF cyI { S with O_CurveDeskModel := { S.O_CurveDeskModel with f_squares := va_up S.O_CurveDeskModel.f_squares a v } } b := by by_cases hb : b = a <;> first | (simp only [wPF, va_up_ne _ _ hb]; done) | (simp only [wPF, va_up, if_neg hb]; done) | simp [wPF, va_re, va_up, va_rf, hb, h]
theorem wPu_O_CurveDeskModel_f_squares (cyI : ClassId) (X : va_W) (S : wPS) {A : Nat → Prop} {a k : Nat} (hD : va_D A (X ++ va_pl S.L (wPF cyI S))) (hL : a ∈ S.L) (h : S.K a = 1) (hk : (X ++ va_pl S.L (wPF cyI S))[k]? = some (a, wPF cyI S a)) (v : Option Nat) : (X ++ va_pl S.L (wPF cyI S)).set k (a, .inr (1, [.int (S.O_CurveDeskModel.f_p a), .int (S.O_CurveDeskModel.f_a a), .int (S.O_CurveDeskModel.f_b a), va_rf v, va_rf (S.O_CurveDeskModel.f_f a)])) = X ++ va_pl S.L (wPF cyI { S with O_CurveDeskModel := { S.O_CurveDeskModel with f_squares := va_up S.O_CurveDeskModel.f_squares a v } }) := by
  rw [va_pl_set hD hL hk]
  exact congrArg (fun l => X ++ l) (va_pl_congr (wSt_O_CurveDeskModel_f_squares cyI S h v))
theorem wSt_O_CurveDeskModel_f_f (cyI : ClassId) (S : wPS) {a : Nat} (h : S.K a = 1) (v : Option Nat) (b : Nat) : va_up (wPF cyI S) a (.inr (1, [.int (S.O_CurveDeskModel.f_p a), .int (S.O_CurveDeskModel.f_a a), .int (S.O_CurveDeskModel.f_b a), va_rf (S.O_CurveDeskModel.f_squares a), va_rf v])) b = wPF cyI { S with O_CurveDeskModel := { S.O_CurveDeskModel with f_f := va_up S.O_CurveDeskModel.f_f a v } } b := by by_cases hb : b = a <;> first | (simp only [wPF, va_up_ne _ _ hb]; done) | (simp only [wPF, va_up, if_neg hb]; done) | simp [wPF, va_re, va_up, va_rf, hb, h]
theorem wPu_O_CurveDeskModel_f_f (cyI : ClassId) (X : va_W) (S : wPS) {A : Nat → Prop} {a k : Nat} (hD : va_D A (X ++ va_pl S.L (wPF cyI S))) (hL : a ∈ S.L) (h : S.K a = 1) (hk : (X ++ va_pl S.L (wPF cyI S))[k]? = some (a, wPF cyI S a)) (v : Option Nat) : (X ++ va_pl S.L (wPF cyI S)).set k (a, .inr (1, [.int (S.O_CurveDeskModel.f_p a), .int (S.O_CurveDeskModel.f_a a), .int (S.O_CurveDeskModel.f_b a), va_rf (S.O_CurveDeskModel.f_squares a), va_rf v])) = X ++ va_pl S.L (wPF cyI { S with O_CurveDeskModel := { S.O_CurveDeskModel with f_f := va_up S.O_CurveDeskModel.f_f a v } }) := by
  rw [va_pl_set hD hL hk]
  exact congrArg (fun l => X ++ l) (va_pl_congr (wSt_O_CurveDeskModel_f_f cyI S h v))
theorem wNw_O_CurveDeskModel (cyI : ClassId) (S : wPS) (a b : Nat) : va_up (wPF cyI S) a (.inr (1, [.int 0, .int 0, .int 0, .null, .null])) b = wPF cyI { S with L := S.L ++ [a], K := va_up S.K a 1, O_CurveDeskModel := { f_p := va_up S.O_CurveDeskModel.f_p a 0, f_a := va_up S.O_CurveDeskModel.f_a a 0, f_b := va_up S.O_CurveDeskModel.f_b a 0, f_squares := va_up S.O_CurveDeskModel.f_squares a none, f_f := va_up S.O_CurveDeskModel.f_f a none } } b := by by_cases hb : b = a <;> first | (simp only [wPF, va_up_ne _ _ hb]; done) | (simp only [wPF, va_up, if_neg hb]; done) | simp [wPF, va_re, va_up, va_rf, hb]
theorem wPn_O_CurveDeskModel (cyI : ClassId) (X : va_W) (S : wPS) {a : Nat} (ha : a ∉ S.L) : (X ++ va_pl S.L (wPF cyI S)) ++ [(a, .inr (1, [.int 0, .int 0, .int 0, .null, .null]))] = X ++ va_pl (S.L ++ [a]) (wPF cyI { S with L := S.L ++ [a], K := va_up S.K a 1, O_CurveDeskModel := { f_p := va_up S.O_CurveDeskModel.f_p a 0, f_a := va_up S.O_CurveDeskModel.f_a a 0, f_b := va_up S.O_CurveDeskModel.f_b a 0, f_squares := va_up S.O_CurveDeskModel.f_squares a none, f_f := va_up S.O_CurveDeskModel.f_f a none } }) := by
  rw [List.append_assoc, va_pl_push ha]
  exact congrArg (fun l => X ++ l) (va_pl_congr (wNw_O_CurveDeskModel cyI S a))
theorem wAt_R_I (cyI : ClassId) (S : wPS) {a : Nat} (h : S.K a = 2) : wPF cyI S a = .inl (cyI, S.R_I.len a, .inl (S.R_I.row a)) := by simp [wPF, h]
theorem wGt_R_I (cyI : ClassId) (X : va_W) (S : wPS) {a : Nat} (hL : a ∈ S.L) (h : S.K a = 2) : ∃ k : Nat, (X ++ va_pl S.L (wPF cyI S))[k]? = some (a, wPF cyI S a) ∧ (X ++ va_pl S.L (wPF cyI S))[k]? = some (a, .inl (cyI, S.R_I.len a, .inl (S.R_I.row a))) := by
  obtain ⟨k, hk⟩ := va_pl_get (X := X) (f := wPF cyI S) hL
  exact ⟨k, hk, hk.trans (congrArg (fun e => some (a, e)) (wAt_R_I cyI S h))⟩
theorem wSt_R_I_row (cyI : ClassId) (S : wPS) {a : Nat} (h : S.K a = 2) (v : Nat → Int32) (b : Nat) : va_up (wPF cyI S) a (.inl (cyI, S.R_I.len a, .inl v)) b = wPF cyI { S with R_I := { S.R_I with row := va_up S.R_I.row a v } } b := by by_cases hb : b = a <;> first | (simp only [wPF, va_up_ne _ _ hb]; done) | (simp only [wPF, va_up, if_neg hb]; done) | simp [wPF, va_re, va_up, va_rf, hb, h]
theorem wPu_R_I_row (cyI : ClassId) (X : va_W) (S : wPS) {A : Nat → Prop} {a k : Nat} (hD : va_D A (X ++ va_pl S.L (wPF cyI S))) (hL : a ∈ S.L) (h : S.K a = 2) (hk : (X ++ va_pl S.L (wPF cyI S))[k]? = some (a, wPF cyI S a)) (v : Nat → Int32) : (X ++ va_pl S.L (wPF cyI S)).set k (a, .inl (cyI, S.R_I.len a, .inl v)) = X ++ va_pl S.L (wPF cyI { S with R_I := { S.R_I with row := va_up S.R_I.row a v } }) := by
  rw [va_pl_set hD hL hk]
  exact congrArg (fun l => X ++ l) (va_pl_congr (wSt_R_I_row cyI S h v))
theorem wNw_R_I (cyI : ClassId) (S : wPS) (a : Nat) (z : Nat) (f : Nat → Int32) (b : Nat) : va_up (wPF cyI S) a (.inl (cyI, z, .inl f)) b = wPF cyI { S with L := S.L ++ [a], K := va_up S.K a 2, R_I := { len := va_up S.R_I.len a z, row := va_up S.R_I.row a f } } b := by by_cases hb : b = a <;> first | (simp only [wPF, va_up_ne _ _ hb]; done) | (simp only [wPF, va_up, if_neg hb]; done) | simp [wPF, va_re, va_up, va_rf, hb]
/-! ===== END printed: names ===== -/
