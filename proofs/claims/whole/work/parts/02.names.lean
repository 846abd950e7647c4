/-! ===== BEGIN printed: names, fields, word lists, decode rows ===== -/
def RX0 : String := "AlumWorks$Clamps"
def TX0 : u_T := fun k => match k with
  | 0 => ("AlumWorks$Clamps", "shale", "[I", true)
  | 1 => ("AlumWorks$Clamps", "coal", "[I", true)
  | 2 => ("AlumWorks$Clamps", "burnt", "[I", true)
  | 3 => ("AlumWorks$Clamps", "burns", "[Z", true)
  | _ => ("AlumWorks$Clamps", "many", "I", false)
def tyX0 : Nat → FieldType := fun k => match k with
  | 0 => .array .int
  | 1 => .array .int
  | 2 => .array .int
  | 3 => .array .boolean
  | _ => .int
abbrev wsX00 : List Cond := u_ws RX0 TX0 5
theorem nmX0 : ∀ a, a < 5 → ∀ b, b < 5 → a ≠ b → (TX0 a).2.1 ≠ (TX0 b).2.1 := by decide +kernel
theorem tyX0_ok : ∀ k, k < 5 → parseFieldDescriptor (TX0 k).2.2.1 = some (tyX0 k) := by decide +kernel
abbrev cX0_init : ByteArray := prog_2_method_1_code
def yX0_init : MethodName := ⟨RX0, "<init>", "()V"⟩
abbrev cX0_has : ByteArray := prog_2_method_2_code
def yX0_has : MethodName := ⟨RX0, "has", "(I)Z"⟩
abbrev cX0_full : ByteArray := prog_2_method_3_code
def yX0_full : MethodName := ⟨RX0, "full", "()Z"⟩
abbrev cX0_add : ByteArray := prog_2_method_4_code
def yX0_add : MethodName := ⟨RX0, "add", "(I)I"⟩
abbrev cX0_tell : ByteArray := prog_2_method_5_code
def yX0_tell : MethodName := ⟨RX0, "tell", "(II)I"⟩
abbrev cX0_burning : ByteArray := prog_2_method_6_code
def yX0_burning : MethodName := ⟨RX0, "burning", "()I"⟩
abbrev cX0_burn : ByteArray := prog_2_method_7_code
def yX0_burn : MethodName := ⟨RX0, "burn", "(I)V"⟩
abbrev cX0_burnOne : ByteArray := prog_2_method_8_code
def yX0_burnOne : MethodName := ⟨RX0, "burnOne", "(II)V"⟩
abbrev cX0_copyOf : ByteArray := prog_2_method_9_code
def yX0_copyOf : MethodName := ⟨RX0, "copyOf", "(LAlumWorks$Clamps;)V"⟩
def RX1 : String := "AlumWorks$Liquors"
def TX1 : u_T := fun k => match k with
  | 0 => ("AlumWorks$Liquors", "water", "[I", true)
  | 1 => ("AlumWorks$Liquors", "alum", "[I", true)
  | 2 => ("AlumWorks$Liquors", "boils", "[Z", true)
  | 3 => ("AlumWorks$Liquors", "most", "I", true)
  | _ => ("AlumWorks$Liquors", "many", "I", false)
def tyX1 : Nat → FieldType := fun k => match k with
  | 0 => .array .int
  | 1 => .array .int
  | 2 => .array .boolean
  | 3 => .int
  | _ => .int
abbrev wsX10 : List Cond := u_ws RX1 TX1 5
theorem nmX1 : ∀ a, a < 5 → ∀ b, b < 5 → a ≠ b → (TX1 a).2.1 ≠ (TX1 b).2.1 := by decide +kernel
theorem tyX1_ok : ∀ k, k < 5 → parseFieldDescriptor (TX1 k).2.2.1 = some (tyX1 k) := by decide +kernel
abbrev cX1_init : ByteArray := prog_3_method_1_code
def yX1_init : MethodName := ⟨RX1, "<init>", "(I)V"⟩
abbrev cX1_has : ByteArray := prog_3_method_2_code
def yX1_has : MethodName := ⟨RX1, "has", "(I)Z"⟩
abbrev cX1_full : ByteArray := prog_3_method_3_code
def yX1_full : MethodName := ⟨RX1, "full", "()Z"⟩
abbrev cX1_add : ByteArray := prog_3_method_4_code
def yX1_add : MethodName := ⟨RX1, "add", "(I)I"⟩
abbrev cX1_empty : ByteArray := prog_3_method_5_code
def yX1_empty : MethodName := ⟨RX1, "empty", "(I)V"⟩
abbrev cX1_strength : ByteArray := prog_3_method_6_code
def yX1_strength : MethodName := ⟨RX1, "strength", "(I)I"⟩
abbrev cX1_egg : ByteArray := prog_3_method_7_code
def yX1_egg : MethodName := ⟨RX1, "egg", "(I)I"⟩
abbrev cX1_tell : ByteArray := prog_3_method_8_code
def yX1_tell : MethodName := ⟨RX1, "tell", "(II)I"⟩
abbrev cX1_allAlum : ByteArray := prog_3_method_9_code
def yX1_allAlum : MethodName := ⟨RX1, "allAlum", "()I"⟩
abbrev cX1_filled : ByteArray := prog_3_method_10_code
def yX1_filled : MethodName := ⟨RX1, "filled", "()I"⟩
abbrev cX1_strengths : ByteArray := prog_3_method_11_code
def yX1_strengths : MethodName := ⟨RX1, "strengths", "()I"⟩
abbrev cX1_takeWeather : ByteArray := prog_3_method_12_code
def yX1_takeWeather : MethodName := ⟨RX1, "takeWeather", "(I)V"⟩
abbrev cX1_copyOf : ByteArray := prog_3_method_13_code
def yX1_copyOf : MethodName := ⟨RX1, "copyOf", "(LAlumWorks$Liquors;)V"⟩
def RX2 : String := "AlumWorks$State"
def TX2 : u_T := fun k => match k with
  | 0 => ("AlumWorks$State", "clamps", "LAlumWorks$Clamps;", true)
  | 1 => ("AlumWorks$State", "pits", "LAlumWorks$Liquors;", true)
  | 2 => ("AlumWorks$State", "pans", "LAlumWorks$Liquors;", true)
  | 3 => ("AlumWorks$State", "day", "I", false)
  | 4 => ("AlumWorks$State", "coal", "I", false)
  | 5 => ("AlumWorks$State", "barrels", "I", false)
  | 6 => ("AlumWorks$State", "fine", "I", false)
  | 7 => ("AlumWorks$State", "coarse", "I", false)
  | 8 => ("AlumWorks$State", "coins", "I", false)
  | _ => ("AlumWorks$State", "shipped", "I", false)
def tyX2 : Nat → FieldType := fun k => match k with
  | 0 => .object "AlumWorks$Clamps"
  | 1 => .object "AlumWorks$Liquors"
  | 2 => .object "AlumWorks$Liquors"
  | 3 => .int
  | 4 => .int
  | 5 => .int
  | 6 => .int
  | 7 => .int
  | 8 => .int
  | _ => .int
abbrev wsX20 : List Cond := u_ws RX2 TX2 10
theorem nmX2 : ∀ a, a < 10 → ∀ b, b < 10 → a ≠ b → (TX2 a).2.1 ≠ (TX2 b).2.1 := by decide +kernel
theorem tyX2_ok : ∀ k, k < 10 → parseFieldDescriptor (TX2 k).2.2.1 = some (tyX2 k) := by decide +kernel
abbrev cX2_init : ByteArray := prog_4_method_1_code
def yX2_init : MethodName := ⟨RX2, "<init>", "()V"⟩
abbrev cX2_copyOf : ByteArray := prog_4_method_2_code
def yX2_copyOf : MethodName := ⟨RX2, "copyOf", "(LAlumWorks$State;)V"⟩
abbrev cX2_letDayGo : ByteArray := prog_4_method_3_code
def yX2_letDayGo : MethodName := ⟨RX2, "letDayGo", "(II)V"⟩
abbrev cX2_boilPans : ByteArray := prog_4_method_4_code
def yX2_boilPans : MethodName := ⟨RX2, "boilPans", "()V"⟩
abbrev cX2_loadShip : ByteArray := prog_4_method_5_code
def yX2_loadShip : MethodName := ⟨RX2, "loadShip", "(I)V"⟩
def RX3 : String := "AlumWorks"
def TX3 : u_T := fun k => match k with
  | 0 => ("AlumWorks", "rains", "[I", true)
  | 1 => ("AlumWorks", "ships", "[I", true)
  | 2 => ("AlumWorks", "now", "LAlumWorks$State;", true)
  | _ => ("AlumWorks", "ahead", "LAlumWorks$State;", true)
def tyX3 : Nat → FieldType := fun k => match k with
  | 0 => .array .int
  | 1 => .array .int
  | 2 => .object "AlumWorks$State"
  | _ => .object "AlumWorks$State"
abbrev wsX30 : List Cond := u_ws RX3 TX3 4
theorem nmX3 : ∀ a, a < 4 → ∀ b, b < 4 → a ≠ b → (TX3 a).2.1 ≠ (TX3 b).2.1 := by decide +kernel
theorem tyX3_ok : ∀ k, k < 4 → parseFieldDescriptor (TX3 k).2.2.1 = some (tyX3 k) := by decide +kernel
abbrev cX3_init : ByteArray := prog_1_method_1_code
def yX3_init : MethodName := ⟨RX3, "<init>", "()V"⟩
abbrev cX3_bring : ByteArray := prog_1_method_2_code
def yX3_bring : MethodName := ⟨RX3, "bring", "(II)I"⟩
abbrev cX3_setRain : ByteArray := prog_1_method_3_code
def yX3_setRain : MethodName := ⟨RX3, "setRain", "(II)I"⟩
abbrev cX3_setShip : ByteArray := prog_1_method_4_code
def yX3_setShip : MethodName := ⟨RX3, "setShip", "(II)I"⟩
abbrev cX3_pile : ByteArray := prog_1_method_5_code
def yX3_pile : MethodName := ⟨RX3, "pile", "(I)I"⟩
abbrev cX3_light : ByteArray := prog_1_method_6_code
def yX3_light : MethodName := ⟨RX3, "light", "(II)I"⟩
abbrev cX3_dig : ByteArray := prog_1_method_7_code
def yX3_dig : MethodName := ⟨RX3, "dig", "(I)I"⟩
abbrev cX3_steep : ByteArray := prog_1_method_8_code
def yX3_steep : MethodName := ⟨RX3, "steep", "(II)I"⟩
abbrev cX3_pan : ByteArray := prog_1_method_9_code
def yX3_pan : MethodName := ⟨RX3, "pan", "()I"⟩
abbrev cX3_draw : ByteArray := prog_1_method_10_code
def yX3_draw : MethodName := ⟨RX3, "draw", "(III)I"⟩
abbrev cX3_boil : ByteArray := prog_1_method_11_code
def yX3_boil : MethodName := ⟨RX3, "boil", "(I)Z"⟩
abbrev cX3_pour : ByteArray := prog_1_method_12_code
def yX3_pour : MethodName := ⟨RX3, "pour", "(II)I"⟩
abbrev cX3_clamp : ByteArray := prog_1_method_13_code
def yX3_clamp : MethodName := ⟨RX3, "clamp", "(II)I"⟩
abbrev cX3_pit : ByteArray := prog_1_method_14_code
def yX3_pit : MethodName := ⟨RX3, "pit", "(II)I"⟩
abbrev cX3_about : ByteArray := prog_1_method_15_code
def yX3_about : MethodName := ⟨RX3, "about", "(II)I"⟩
abbrev cX3_count : ByteArray := prog_1_method_16_code
def yX3_count : MethodName := ⟨RX3, "count", "(I)I"⟩
abbrev cX3_pass : ByteArray := prog_1_method_17_code
def yX3_pass : MethodName := ⟨RX3, "pass", "(I)I"⟩
abbrev cX3_right : ByteArray := prog_1_method_18_code
def yX3_right : MethodName := ⟨RX3, "right", "(I)I"⟩
abbrev cX3_foresee : ByteArray := prog_1_method_19_code
def yX3_foresee : MethodName := ⟨RX3, "foresee", "(II)I"⟩
abbrev cX3_barrels : ByteArray := prog_1_method_20_code
def yX3_barrels : MethodName := ⟨RX3, "barrels", "(I)I"⟩
abbrev cX3_dry : ByteArray := prog_1_method_21_code
def yX3_dry : MethodName := ⟨RX3, "dry", "(I)I"⟩
abbrev cX3_mean : ByteArray := prog_1_method_22_code
def yX3_mean : MethodName := ⟨RX3, "mean", "()D"⟩
abbrev cX3_digest : ByteArray := prog_1_method_23_code
def yX3_digest : MethodName := ⟨RX3, "digest", "()J"⟩
abbrev cX3_within : ByteArray := prog_1_method_24_code
def yX3_within : MethodName := ⟨RX3, "within", "(III)Z"⟩
abbrev cX3_strengthOf : ByteArray := prog_1_method_25_code
def yX3_strengthOf : MethodName := ⟨RX3, "strengthOf", "(II)I"⟩
abbrev cX3_eggBy : ByteArray := prog_1_method_26_code
def yX3_eggBy : MethodName := ⟨RX3, "eggBy", "(I)I"⟩
abbrev cX3_crystalsByBarrel : ByteArray := prog_1_method_27_code
def yX3_crystalsByBarrel : MethodName := ⟨RX3, "crystalsByBarrel", "(I)I"⟩
abbrev cX3_crystalsOf : ByteArray := prog_1_method_28_code
def yX3_crystalsOf : MethodName := ⟨RX3, "crystalsOf", "(II)I"⟩
abbrev cX3_rainOf : ByteArray := prog_1_method_29_code
def yX3_rainOf : MethodName := ⟨RX3, "rainOf", "(I)I"⟩
abbrev cX3_shipOf : ByteArray := prog_1_method_30_code
def yX3_shipOf : MethodName := ⟨RX3, "shipOf", "(I)I"⟩
abbrev cX3_goOn : ByteArray := prog_1_method_31_code
def yX3_goOn : MethodName := ⟨RX3, "goOn", "(LAlumWorks$State;I)V"⟩
abbrev cX3_countIn : ByteArray := prog_1_method_32_code
def yX3_countIn : MethodName := ⟨RX3, "countIn", "(LAlumWorks$State;I)I"⟩
abbrev cX3_mix : ByteArray := prog_1_method_33_code
def yX3_mix : MethodName := ⟨RX3, "mix", "(JI)J"⟩
abbrev cX3_mixLiquors : ByteArray := prog_1_method_34_code
def yX3_mixLiquors : MethodName := ⟨RX3, "mixLiquors", "(JLAlumWorks$Liquors;I)J"⟩
def RX4 : String := "AlumWorksModel"
def TX4 : u_T := fun k => match k with
  | 0 => ("AlumWorksModel", "thrown", "I", false)
  | 1 => ("AlumWorksModel", "clamps", "I", false)
  | 2 => ("AlumWorksModel", "pits", "I", false)
  | 3 => ("AlumWorksModel", "pans", "I", false)
  | 4 => ("AlumWorksModel", "stores", "[I", true)
  | 5 => ("AlumWorksModel", "rains", "[I", true)
  | 6 => ("AlumWorksModel", "ships", "[I", true)
  | 7 => ("AlumWorksModel", "heaps", "[I", true)
  | 8 => ("AlumWorksModel", "holes", "[I", true)
  | _ => ("AlumWorksModel", "kettles", "[I", true)
def tyX4 : Nat → FieldType := fun k => match k with
  | 0 => .int
  | 1 => .int
  | 2 => .int
  | 3 => .int
  | 4 => .array .int
  | 5 => .array .int
  | 6 => .array .int
  | 7 => .array .int
  | 8 => .array .int
  | _ => .array .int
abbrev wsX40 : List Cond := u_ws RX4 TX4 10
theorem nmX4 : ∀ a, a < 10 → ∀ b, b < 10 → a ≠ b → (TX4 a).2.1 ≠ (TX4 b).2.1 := by decide +kernel
theorem tyX4_ok : ∀ k, k < 10 → parseFieldDescriptor (TX4 k).2.2.1 = some (tyX4 k) := by decide +kernel
abbrev cX4_init : ByteArray := prog_6_method_1_code
def yX4_init : MethodName := ⟨RX4, "<init>", "()V"⟩
abbrev cX4_thrown : ByteArray := prog_6_method_2_code
def yX4_thrown : MethodName := ⟨RX4, "thrown", "()I"⟩
abbrev cX4_fail : ByteArray := prog_6_method_3_code
def yX4_fail : MethodName := ⟨RX4, "fail", "(I)I"⟩
abbrev cX4_isIn : ByteArray := prog_6_method_4_code
def yX4_isIn : MethodName := ⟨RX4, "isIn", "(III)Z"⟩
abbrev cX4_isClamp : ByteArray := prog_6_method_5_code
def yX4_isClamp : MethodName := ⟨RX4, "isClamp", "(I)Z"⟩
abbrev cX4_isPit : ByteArray := prog_6_method_6_code
def yX4_isPit : MethodName := ⟨RX4, "isPit", "(I)Z"⟩
abbrev cX4_isPan : ByteArray := prog_6_method_7_code
def yX4_isPan : MethodName := ⟨RX4, "isPan", "(I)Z"⟩
abbrev cX4_bring : ByteArray := prog_6_method_8_code
def yX4_bring : MethodName := ⟨RX4, "bring", "(II)I"⟩
abbrev cX4_setRain : ByteArray := prog_6_method_9_code
def yX4_setRain : MethodName := ⟨RX4, "setRain", "(II)I"⟩
abbrev cX4_setShip : ByteArray := prog_6_method_10_code
def yX4_setShip : MethodName := ⟨RX4, "setShip", "(II)I"⟩
abbrev cX4_pile : ByteArray := prog_6_method_11_code
def yX4_pile : MethodName := ⟨RX4, "pile", "(I)I"⟩
abbrev cX4_light : ByteArray := prog_6_method_12_code
def yX4_light : MethodName := ⟨RX4, "light", "(II)I"⟩
abbrev cX4_dig : ByteArray := prog_6_method_13_code
def yX4_dig : MethodName := ⟨RX4, "dig", "(I)I"⟩
abbrev cX4_steep : ByteArray := prog_6_method_14_code
def yX4_steep : MethodName := ⟨RX4, "steep", "(II)I"⟩
abbrev cX4_pan : ByteArray := prog_6_method_15_code
def yX4_pan : MethodName := ⟨RX4, "pan", "()I"⟩
abbrev cX4_draw : ByteArray := prog_6_method_16_code
def yX4_draw : MethodName := ⟨RX4, "draw", "(III)I"⟩
abbrev cX4_boil : ByteArray := prog_6_method_17_code
def yX4_boil : MethodName := ⟨RX4, "boil", "(I)Z"⟩
abbrev cX4_strength : ByteArray := prog_6_method_18_code
def yX4_strength : MethodName := ⟨RX4, "strength", "(II)I"⟩
abbrev cX4_egg : ByteArray := prog_6_method_19_code
def yX4_egg : MethodName := ⟨RX4, "egg", "(I)I"⟩
abbrev cX4_panEgg : ByteArray := prog_6_method_20_code
def yX4_panEgg : MethodName := ⟨RX4, "panEgg", "(I)I"⟩
abbrev cX4_comes : ByteArray := prog_6_method_21_code
def yX4_comes : MethodName := ⟨RX4, "comes", "(II)I"⟩
abbrev cX4_pour : ByteArray := prog_6_method_22_code
def yX4_pour : MethodName := ⟨RX4, "pour", "(II)I"⟩
abbrev cX4_clamp : ByteArray := prog_6_method_23_code
def yX4_clamp : MethodName := ⟨RX4, "clamp", "(II)I"⟩
abbrev cX4_told : ByteArray := prog_6_method_24_code
def yX4_told : MethodName := ⟨RX4, "told", "(III)I"⟩
abbrev cX4_pitTold : ByteArray := prog_6_method_25_code
def yX4_pitTold : MethodName := ⟨RX4, "pitTold", "(II)I"⟩
abbrev cX4_panTold : ByteArray := prog_6_method_26_code
def yX4_panTold : MethodName := ⟨RX4, "panTold", "(II)I"⟩
abbrev cX4_pit : ByteArray := prog_6_method_27_code
def yX4_pit : MethodName := ⟨RX4, "pit", "(II)I"⟩
abbrev cX4_about : ByteArray := prog_6_method_28_code
def yX4_about : MethodName := ⟨RX4, "about", "(II)I"⟩
abbrev cX4_rain : ByteArray := prog_6_method_29_code
def yX4_rain : MethodName := ⟨RX4, "rain", "()I"⟩
abbrev cX4_counted : ByteArray := prog_6_method_30_code
def yX4_counted : MethodName := ⟨RX4, "counted", "(I)I"⟩
abbrev cX4_count : ByteArray := prog_6_method_31_code
def yX4_count : MethodName := ⟨RX4, "count", "(I)I"⟩
abbrev cX4_burn : ByteArray := prog_6_method_32_code
def yX4_burn : MethodName := ⟨RX4, "burn", "(I)V"⟩
abbrev cX4_cook : ByteArray := prog_6_method_33_code
def yX4_cook : MethodName := ⟨RX4, "cook", "(I)V"⟩
abbrev cX4_dayOn : ByteArray := prog_6_method_34_code
def yX4_dayOn : MethodName := ⟨RX4, "dayOn", "()V"⟩
abbrev cX4_daysOn : ByteArray := prog_6_method_35_code
def yX4_daysOn : MethodName := ⟨RX4, "daysOn", "(I)V"⟩
abbrev cX4_pass : ByteArray := prog_6_method_36_code
def yX4_pass : MethodName := ⟨RX4, "pass", "(I)I"⟩
abbrev cX4_kept : ByteArray := prog_6_method_37_code
def yX4_kept : MethodName := ⟨RX4, "kept", "()[[I"⟩
abbrev cX4_bringBack : ByteArray := prog_6_method_38_code
def yX4_bringBack : MethodName := ⟨RX4, "bringBack", "([[I)V"⟩
abbrev cX4_right : ByteArray := prog_6_method_39_code
def yX4_right : MethodName := ⟨RX4, "right", "(I)I"⟩
abbrev cX4_foresee : ByteArray := prog_6_method_40_code
def yX4_foresee : MethodName := ⟨RX4, "foresee", "(II)I"⟩
abbrev cX4_barrels : ByteArray := prog_6_method_41_code
def yX4_barrels : MethodName := ⟨RX4, "barrels", "(I)I"⟩
abbrev cX4_dry : ByteArray := prog_6_method_42_code
def yX4_dry : MethodName := ⟨RX4, "dry", "(I)I"⟩
abbrev cX4_mean : ByteArray := prog_6_method_43_code
def yX4_mean : MethodName := ⟨RX4, "mean", "()D"⟩
abbrev cX4_digest : ByteArray := prog_6_method_44_code
def yX4_digest : MethodName := ⟨RX4, "digest", "()J"⟩
def RJx8e188 : String := "java/lang/Cloneable"
def TJx8e188 : u_T := fun k => match k with
  | _ => ("", "", "", false)
def tyJx8e188 : Nat → FieldType := fun k => match k with
  | _ => .int
abbrev wsJx8e1880 : List Cond := u_ws RJx8e188 TJx8e188 0
theorem nmJx8e188 : ∀ a, a < 0 → ∀ b, b < 0 → a ≠ b → (TJx8e188 a).2.1 ≠ (TJx8e188 b).2.1 := by decide +kernel
theorem tyJx8e188_ok : ∀ k, k < 0 → parseFieldDescriptor (TJx8e188 k).2.2.1 = some (tyJx8e188 k) := by decide +kernel
def RJ9 : String := "java/lang/Math"
def TJ9 : u_T := fun k => match k with
  | _ => ("", "", "", false)
def tyJ9 : Nat → FieldType := fun k => match k with
  | _ => .int
abbrev wsJ90 : List Cond := u_ws RJ9 TJ9 0
theorem nmJ9 : ∀ a, a < 0 → ∀ b, b < 0 → a ≠ b → (TJ9 a).2.1 ≠ (TJ9 b).2.1 := by decide +kernel
theorem tyJ9_ok : ∀ k, k < 0 → parseFieldDescriptor (TJ9 k).2.2.1 = some (tyJ9 k) := by decide +kernel
abbrev cJ9_floorMod_7cf53 : ByteArray := prog_12_method_50_code
def yJ9_floorMod_7cf53 : MethodName := ⟨RJ9, "floorMod", "(II)I"⟩
abbrev cJ9_max_7cf53 : ByteArray := prog_12_method_65_code
def yJ9_max_7cf53 : MethodName := ⟨RJ9, "max", "(II)I"⟩
abbrev cJ9_min_7cf53 : ByteArray := prog_12_method_69_code
def yJ9_min_7cf53 : MethodName := ⟨RJ9, "min", "(II)I"⟩
def RJ0 : String := "java/lang/String"
def TJ0 : u_T := fun k => match k with
  | _ => ("", "", "", false)
def tyJ0 : Nat → FieldType := fun k => match k with
  | _ => .int
abbrev wsJ00 : List Cond := u_ws RJ0 TJ0 0
theorem nmJ0 : ∀ a, a < 0 → ∀ b, b < 0 → a ≠ b → (TJ0 a).2.1 ≠ (TJ0 b).2.1 := by decide +kernel
theorem tyJ0_ok : ∀ k, k < 0 → parseFieldDescriptor (TJ0 k).2.2.1 = some (tyJ0 k) := by decide +kernel
def RJ10 : String := "java/lang/System"
def TJ10 : u_T := fun k => match k with
  | _ => ("", "", "", false)
def tyJ10 : Nat → FieldType := fun k => match k with
  | _ => .int
abbrev wsJ100 : List Cond := u_ws RJ10 TJ10 0
theorem nmJ10 : ∀ a, a < 0 → ∀ b, b < 0 → a ≠ b → (TJ10 a).2.1 ≠ (TJ10 b).2.1 := by decide +kernel
theorem tyJ10_ok : ∀ k, k < 0 → parseFieldDescriptor (TJ10 k).2.2.1 = some (tyJ10 k) := by decide +kernel
def RL : String := "AlumWorksLaw"
abbrev cL_bring : ByteArray := method_3_code
def yL_bring : MethodName := ⟨RL, "bring", "(LAlumWorks;II[J)I"⟩
abbrev cL_setRain : ByteArray := method_4_code
def yL_setRain : MethodName := ⟨RL, "setRain", "(LAlumWorks;II[J)I"⟩
abbrev cL_setShip : ByteArray := method_5_code
def yL_setShip : MethodName := ⟨RL, "setShip", "(LAlumWorks;II[J)I"⟩
abbrev cL_pile : ByteArray := method_6_code
def yL_pile : MethodName := ⟨RL, "pile", "(LAlumWorks;I[J)I"⟩
abbrev cL_light : ByteArray := method_7_code
def yL_light : MethodName := ⟨RL, "light", "(LAlumWorks;II[J)I"⟩
abbrev cL_dig : ByteArray := method_8_code
def yL_dig : MethodName := ⟨RL, "dig", "(LAlumWorks;I[J)I"⟩
abbrev cL_steep : ByteArray := method_9_code
def yL_steep : MethodName := ⟨RL, "steep", "(LAlumWorks;II[J)I"⟩
abbrev cL_pan : ByteArray := method_10_code
def yL_pan : MethodName := ⟨RL, "pan", "(LAlumWorks;[J)I"⟩
abbrev cL_draw : ByteArray := method_11_code
def yL_draw : MethodName := ⟨RL, "draw", "(LAlumWorks;III[J)I"⟩
abbrev cL_boil : ByteArray := method_12_code
def yL_boil : MethodName := ⟨RL, "boil", "(LAlumWorks;I[J)I"⟩
abbrev cL_pour : ByteArray := method_13_code
def yL_pour : MethodName := ⟨RL, "pour", "(LAlumWorks;II[J)I"⟩
abbrev cL_clamp : ByteArray := method_14_code
def yL_clamp : MethodName := ⟨RL, "clamp", "(LAlumWorks;II[J)I"⟩
abbrev cL_pit : ByteArray := method_15_code
def yL_pit : MethodName := ⟨RL, "pit", "(LAlumWorks;II[J)I"⟩
abbrev cL_about : ByteArray := method_16_code
def yL_about : MethodName := ⟨RL, "about", "(LAlumWorks;II[J)I"⟩
abbrev cL_count : ByteArray := method_17_code
def yL_count : MethodName := ⟨RL, "count", "(LAlumWorks;I[J)I"⟩
abbrev cL_pass : ByteArray := method_18_code
def yL_pass : MethodName := ⟨RL, "pass", "(LAlumWorks;I[J)I"⟩
abbrev cL_right : ByteArray := method_19_code
def yL_right : MethodName := ⟨RL, "right", "(LAlumWorks;I[J)I"⟩
abbrev cL_foresee : ByteArray := method_20_code
def yL_foresee : MethodName := ⟨RL, "foresee", "(LAlumWorks;II[J)I"⟩
abbrev cL_barrels : ByteArray := method_21_code
def yL_barrels : MethodName := ⟨RL, "barrels", "(LAlumWorks;I[J)I"⟩
abbrev cL_dry : ByteArray := method_22_code
def yL_dry : MethodName := ⟨RL, "dry", "(LAlumWorks;I[J)I"⟩
abbrev cL_law : ByteArray := code
def yL_law : MethodName := ⟨RL, "law", "([I)Z"⟩
theorem dX0_init_0 : decode cX0_init 0 = .ok (.aload_n 0, 1) := by decide +kernel
theorem dX0_init_1 : decode cX0_init 1 = .ok (.invokespecial 3, 3) := by decide +kernel
theorem dX0_init_4 : decode cX0_init 4 = .ok (.aload_n 0, 1) := by decide +kernel
theorem dX0_init_5 : decode cX0_init 5 = .ok (.iconst 4, 1) := by decide +kernel
theorem dX0_init_6 : decode cX0_init 6 = .ok (.newarray .int, 2) := by decide +kernel
theorem dX0_init_8 : decode cX0_init 8 = .ok (.putfield 9, 3) := by decide +kernel
theorem dX0_init_11 : decode cX0_init 11 = .ok (.aload_n 0, 1) := by decide +kernel
theorem dX0_init_12 : decode cX0_init 12 = .ok (.iconst 4, 1) := by decide +kernel
theorem dX0_init_13 : decode cX0_init 13 = .ok (.newarray .int, 2) := by decide +kernel
theorem dX0_init_15 : decode cX0_init 15 = .ok (.putfield 15, 3) := by decide +kernel
theorem dX0_init_18 : decode cX0_init 18 = .ok (.aload_n 0, 1) := by decide +kernel
theorem dX0_init_19 : decode cX0_init 19 = .ok (.iconst 4, 1) := by decide +kernel
theorem dX0_init_20 : decode cX0_init 20 = .ok (.newarray .int, 2) := by decide +kernel
theorem dX0_init_22 : decode cX0_init 22 = .ok (.putfield 18, 3) := by decide +kernel
theorem dX0_init_25 : decode cX0_init 25 = .ok (.aload_n 0, 1) := by decide +kernel
theorem dX0_init_26 : decode cX0_init 26 = .ok (.iconst 4, 1) := by decide +kernel
theorem dX0_init_27 : decode cX0_init 27 = .ok (.newarray .boolean, 2) := by decide +kernel
theorem dX0_init_29 : decode cX0_init 29 = .ok (.putfield 21, 3) := by decide +kernel
theorem dX0_init_32 : decode cX0_init 32 = .ok (.aload_n 0, 1) := by decide +kernel
theorem dX0_init_33 : decode cX0_init 33 = .ok (.iconst 0, 1) := by decide +kernel
theorem dX0_init_34 : decode cX0_init 34 = .ok (.putfield 25, 3) := by decide +kernel
theorem dX0_init_37 : decode cX0_init 37 = .ok (.return_, 1) := by decide +kernel
theorem dX0_has_0 : decode cX0_has 0 = .ok (.iload_n 1, 1) := by decide +kernel
theorem dX0_has_1 : decode cX0_has 1 = .ok (.ifCond .lt 15, 3) := by decide +kernel
theorem dX0_has_4 : decode cX0_has 4 = .ok (.iload_n 1, 1) := by decide +kernel
theorem dX0_has_5 : decode cX0_has 5 = .ok (.aload_n 0, 1) := by decide +kernel
theorem dX0_has_6 : decode cX0_has 6 = .ok (.getfield 25, 3) := by decide +kernel
theorem dX0_has_9 : decode cX0_has 9 = .ok (.if_icmp .ge 7, 3) := by decide +kernel
theorem dX0_has_12 : decode cX0_has 12 = .ok (.iconst 1, 1) := by decide +kernel
theorem dX0_has_13 : decode cX0_has 13 = .ok (.goto 4, 3) := by decide +kernel
theorem dX0_has_16 : decode cX0_has 16 = .ok (.iconst 0, 1) := by decide +kernel
theorem dX0_has_17 : decode cX0_has 17 = .ok (.ireturn, 1) := by decide +kernel
theorem dX0_full_0 : decode cX0_full 0 = .ok (.aload_n 0, 1) := by decide +kernel
theorem dX0_full_1 : decode cX0_full 1 = .ok (.getfield 25, 3) := by decide +kernel
theorem dX0_full_4 : decode cX0_full 4 = .ok (.iconst 4, 1) := by decide +kernel
theorem dX0_full_5 : decode cX0_full 5 = .ok (.if_icmp .lt 7, 3) := by decide +kernel
theorem dX0_full_8 : decode cX0_full 8 = .ok (.iconst 1, 1) := by decide +kernel
theorem dX0_full_9 : decode cX0_full 9 = .ok (.goto 4, 3) := by decide +kernel
theorem dX0_full_12 : decode cX0_full 12 = .ok (.iconst 0, 1) := by decide +kernel
theorem dX0_full_13 : decode cX0_full 13 = .ok (.ireturn, 1) := by decide +kernel
theorem dX0_add_0 : decode cX0_add 0 = .ok (.aload_n 0, 1) := by decide +kernel
theorem dX0_add_1 : decode cX0_add 1 = .ok (.getfield 25, 3) := by decide +kernel
theorem dX0_add_4 : decode cX0_add 4 = .ok (.istore_n 2, 1) := by decide +kernel
theorem dX0_add_5 : decode cX0_add 5 = .ok (.aload_n 0, 1) := by decide +kernel
theorem dX0_add_6 : decode cX0_add 6 = .ok (.getfield 9, 3) := by decide +kernel
theorem dX0_add_9 : decode cX0_add 9 = .ok (.iload_n 2, 1) := by decide +kernel
theorem dX0_add_10 : decode cX0_add 10 = .ok (.iload_n 1, 1) := by decide +kernel
theorem dX0_add_11 : decode cX0_add 11 = .ok (.iastore, 1) := by decide +kernel
theorem dX0_add_12 : decode cX0_add 12 = .ok (.aload_n 0, 1) := by decide +kernel
theorem dX0_add_13 : decode cX0_add 13 = .ok (.dup, 1) := by decide +kernel
theorem dX0_add_14 : decode cX0_add 14 = .ok (.getfield 25, 3) := by decide +kernel
theorem dX0_add_17 : decode cX0_add 17 = .ok (.iconst 1, 1) := by decide +kernel
theorem dX0_add_18 : decode cX0_add 18 = .ok (.iadd, 1) := by decide +kernel
theorem dX0_add_19 : decode cX0_add 19 = .ok (.putfield 25, 3) := by decide +kernel
theorem dX0_add_22 : decode cX0_add 22 = .ok (.iload_n 2, 1) := by decide +kernel
theorem dX0_add_23 : decode cX0_add 23 = .ok (.ireturn, 1) := by decide +kernel
theorem dX0_tell_0 : decode cX0_tell 0 = .ok (.iload_n 2, 1) := by decide +kernel
theorem dX0_tell_1 : decode cX0_tell 1 = .ok (.tableswitch 48 0 2 #[27, 34, 41], 27) := by decide +kernel
theorem dX0_tell_28 : decode cX0_tell 28 = .ok (.aload_n 0, 1) := by decide +kernel
theorem dX0_tell_29 : decode cX0_tell 29 = .ok (.getfield 9, 3) := by decide +kernel
theorem dX0_tell_32 : decode cX0_tell 32 = .ok (.iload_n 1, 1) := by decide +kernel
theorem dX0_tell_33 : decode cX0_tell 33 = .ok (.iaload, 1) := by decide +kernel
theorem dX0_tell_34 : decode cX0_tell 34 = .ok (.ireturn, 1) := by decide +kernel
theorem dX0_tell_35 : decode cX0_tell 35 = .ok (.aload_n 0, 1) := by decide +kernel
theorem dX0_tell_36 : decode cX0_tell 36 = .ok (.getfield 15, 3) := by decide +kernel
theorem dX0_tell_39 : decode cX0_tell 39 = .ok (.iload_n 1, 1) := by decide +kernel
theorem dX0_tell_40 : decode cX0_tell 40 = .ok (.iaload, 1) := by decide +kernel
theorem dX0_tell_41 : decode cX0_tell 41 = .ok (.ireturn, 1) := by decide +kernel
theorem dX0_tell_42 : decode cX0_tell 42 = .ok (.aload_n 0, 1) := by decide +kernel
theorem dX0_tell_43 : decode cX0_tell 43 = .ok (.getfield 18, 3) := by decide +kernel
theorem dX0_tell_46 : decode cX0_tell 46 = .ok (.iload_n 1, 1) := by decide +kernel
theorem dX0_tell_47 : decode cX0_tell 47 = .ok (.iaload, 1) := by decide +kernel
theorem dX0_tell_48 : decode cX0_tell 48 = .ok (.ireturn, 1) := by decide +kernel
theorem dX0_tell_49 : decode cX0_tell 49 = .ok (.aload_n 0, 1) := by decide +kernel
theorem dX0_tell_50 : decode cX0_tell 50 = .ok (.getfield 21, 3) := by decide +kernel
theorem dX0_tell_53 : decode cX0_tell 53 = .ok (.iload_n 1, 1) := by decide +kernel
theorem dX0_tell_54 : decode cX0_tell 54 = .ok (.baload, 1) := by decide +kernel
theorem dX0_tell_55 : decode cX0_tell 55 = .ok (.ifCond .eq 7, 3) := by decide +kernel
theorem dX0_tell_58 : decode cX0_tell 58 = .ok (.iconst 1, 1) := by decide +kernel
theorem dX0_tell_59 : decode cX0_tell 59 = .ok (.goto 4, 3) := by decide +kernel
theorem dX0_tell_62 : decode cX0_tell 62 = .ok (.iconst 0, 1) := by decide +kernel
theorem dX0_tell_63 : decode cX0_tell 63 = .ok (.ireturn, 1) := by decide +kernel
theorem dX0_burning_0 : decode cX0_burning 0 = .ok (.iconst 0, 1) := by decide +kernel
theorem dX0_burning_1 : decode cX0_burning 1 = .ok (.istore_n 1, 1) := by decide +kernel
theorem dX0_burning_2 : decode cX0_burning 2 = .ok (.iconst 0, 1) := by decide +kernel
theorem dX0_burning_3 : decode cX0_burning 3 = .ok (.istore_n 2, 1) := by decide +kernel
theorem dX0_burning_4 : decode cX0_burning 4 = .ok (.iload_n 2, 1) := by decide +kernel
theorem dX0_burning_5 : decode cX0_burning 5 = .ok (.aload_n 0, 1) := by decide +kernel
theorem dX0_burning_6 : decode cX0_burning 6 = .ok (.getfield 25, 3) := by decide +kernel
theorem dX0_burning_9 : decode cX0_burning 9 = .ok (.if_icmp .ge 21, 3) := by decide +kernel
theorem dX0_burning_12 : decode cX0_burning 12 = .ok (.aload_n 0, 1) := by decide +kernel
theorem dX0_burning_13 : decode cX0_burning 13 = .ok (.getfield 21, 3) := by decide +kernel
theorem dX0_burning_16 : decode cX0_burning 16 = .ok (.iload_n 2, 1) := by decide +kernel
theorem dX0_burning_17 : decode cX0_burning 17 = .ok (.baload, 1) := by decide +kernel
theorem dX0_burning_18 : decode cX0_burning 18 = .ok (.ifCond .eq 6, 3) := by decide +kernel
theorem dX0_burning_21 : decode cX0_burning 21 = .ok (.iinc 1 1, 3) := by decide +kernel
theorem dX0_burning_24 : decode cX0_burning 24 = .ok (.iinc 2 1, 3) := by decide +kernel
theorem dX0_burning_27 : decode cX0_burning 27 = .ok (.goto (-23), 3) := by decide +kernel
theorem dX0_burning_30 : decode cX0_burning 30 = .ok (.iload_n 1, 1) := by decide +kernel
theorem dX0_burning_31 : decode cX0_burning 31 = .ok (.ireturn, 1) := by decide +kernel
theorem dX0_burn_0 : decode cX0_burn 0 = .ok (.iload_n 1, 1) := by decide +kernel
theorem dX0_burn_1 : decode cX0_burn 1 = .ok (.iconst 5, 1) := by decide +kernel
theorem dX0_burn_2 : decode cX0_burn 2 = .ok (.if_icmp .lt 7, 3) := by decide +kernel
theorem dX0_burn_5 : decode cX0_burn 5 = .ok (.iconst 4, 1) := by decide +kernel
theorem dX0_burn_6 : decode cX0_burn 6 = .ok (.goto 5, 3) := by decide +kernel
theorem dX0_burn_9 : decode cX0_burn 9 = .ok (.bipush 8, 2) := by decide +kernel
theorem dX0_burn_11 : decode cX0_burn 11 = .ok (.istore_n 2, 1) := by decide +kernel
theorem dX0_burn_12 : decode cX0_burn 12 = .ok (.iconst 0, 1) := by decide +kernel
theorem dX0_burn_13 : decode cX0_burn 13 = .ok (.istore_n 3, 1) := by decide +kernel
theorem dX0_burn_14 : decode cX0_burn 14 = .ok (.iload_n 3, 1) := by decide +kernel
theorem dX0_burn_15 : decode cX0_burn 15 = .ok (.aload_n 0, 1) := by decide +kernel
theorem dX0_burn_16 : decode cX0_burn 16 = .ok (.getfield 25, 3) := by decide +kernel
theorem dX0_burn_19 : decode cX0_burn 19 = .ok (.if_icmp .ge 24, 3) := by decide +kernel
theorem dX0_burn_22 : decode cX0_burn 22 = .ok (.aload_n 0, 1) := by decide +kernel
theorem dX0_burn_23 : decode cX0_burn 23 = .ok (.getfield 21, 3) := by decide +kernel
theorem dX0_burn_26 : decode cX0_burn 26 = .ok (.iload_n 3, 1) := by decide +kernel
theorem dX0_burn_27 : decode cX0_burn 27 = .ok (.baload, 1) := by decide +kernel
theorem dX0_burn_28 : decode cX0_burn 28 = .ok (.ifCond .eq 9, 3) := by decide +kernel
theorem dX0_burn_31 : decode cX0_burn 31 = .ok (.aload_n 0, 1) := by decide +kernel
theorem dX0_burn_32 : decode cX0_burn 32 = .ok (.iload_n 3, 1) := by decide +kernel
theorem dX0_burn_33 : decode cX0_burn 33 = .ok (.iload_n 2, 1) := by decide +kernel
theorem dX0_burn_34 : decode cX0_burn 34 = .ok (.invokevirtual 29, 3) := by decide +kernel
theorem dX0_burn_37 : decode cX0_burn 37 = .ok (.iinc 3 1, 3) := by decide +kernel
theorem dX0_burn_40 : decode cX0_burn 40 = .ok (.goto (-26), 3) := by decide +kernel
theorem dX0_burn_43 : decode cX0_burn 43 = .ok (.return_, 1) := by decide +kernel
theorem dX0_burnOne_0 : decode cX0_burnOne 0 = .ok (.iload_n 2, 1) := by decide +kernel
theorem dX0_burnOne_1 : decode cX0_burnOne 1 = .ok (.aload_n 0, 1) := by decide +kernel
theorem dX0_burnOne_2 : decode cX0_burnOne 2 = .ok (.getfield 9, 3) := by decide +kernel
theorem dX0_burnOne_5 : decode cX0_burnOne 5 = .ok (.iload_n 1, 1) := by decide +kernel
theorem dX0_burnOne_6 : decode cX0_burnOne 6 = .ok (.iaload, 1) := by decide +kernel
theorem dX0_burnOne_7 : decode cX0_burnOne 7 = .ok (.invokestatic 33, 3) := by decide +kernel
theorem dX0_burnOne_10 : decode cX0_burnOne 10 = .ok (.istore_n 3, 1) := by decide +kernel
theorem dX0_burnOne_11 : decode cX0_burnOne 11 = .ok (.aload_n 0, 1) := by decide +kernel
theorem dX0_burnOne_12 : decode cX0_burnOne 12 = .ok (.getfield 15, 3) := by decide +kernel
theorem dX0_burnOne_15 : decode cX0_burnOne 15 = .ok (.iload_n 1, 1) := by decide +kernel
theorem dX0_burnOne_16 : decode cX0_burnOne 16 = .ok (.iconst 0, 1) := by decide +kernel
theorem dX0_burnOne_17 : decode cX0_burnOne 17 = .ok (.aload_n 0, 1) := by decide +kernel
theorem dX0_burnOne_18 : decode cX0_burnOne 18 = .ok (.getfield 15, 3) := by decide +kernel
theorem dX0_burnOne_21 : decode cX0_burnOne 21 = .ok (.iload_n 1, 1) := by decide +kernel
theorem dX0_burnOne_22 : decode cX0_burnOne 22 = .ok (.iaload, 1) := by decide +kernel
theorem dX0_burnOne_23 : decode cX0_burnOne 23 = .ok (.iconst 2, 1) := by decide +kernel
theorem dX0_burnOne_24 : decode cX0_burnOne 24 = .ok (.isub, 1) := by decide +kernel
theorem dX0_burnOne_25 : decode cX0_burnOne 25 = .ok (.invokestatic 39, 3) := by decide +kernel
theorem dX0_burnOne_28 : decode cX0_burnOne 28 = .ok (.iastore, 1) := by decide +kernel
theorem dX0_burnOne_29 : decode cX0_burnOne 29 = .ok (.aload_n 0, 1) := by decide +kernel
theorem dX0_burnOne_30 : decode cX0_burnOne 30 = .ok (.getfield 9, 3) := by decide +kernel
theorem dX0_burnOne_33 : decode cX0_burnOne 33 = .ok (.iload_n 1, 1) := by decide +kernel
theorem dX0_burnOne_34 : decode cX0_burnOne 34 = .ok (.dup2, 1) := by decide +kernel
theorem dX0_burnOne_35 : decode cX0_burnOne 35 = .ok (.iaload, 1) := by decide +kernel
theorem dX0_burnOne_36 : decode cX0_burnOne 36 = .ok (.iload_n 3, 1) := by decide +kernel
theorem dX0_burnOne_37 : decode cX0_burnOne 37 = .ok (.isub, 1) := by decide +kernel
theorem dX0_burnOne_38 : decode cX0_burnOne 38 = .ok (.iastore, 1) := by decide +kernel
theorem dX0_burnOne_39 : decode cX0_burnOne 39 = .ok (.aload_n 0, 1) := by decide +kernel
theorem dX0_burnOne_40 : decode cX0_burnOne 40 = .ok (.getfield 18, 3) := by decide +kernel
theorem dX0_burnOne_43 : decode cX0_burnOne 43 = .ok (.iload_n 1, 1) := by decide +kernel
theorem dX0_burnOne_44 : decode cX0_burnOne 44 = .ok (.dup2, 1) := by decide +kernel
theorem dX0_burnOne_45 : decode cX0_burnOne 45 = .ok (.iaload, 1) := by decide +kernel
theorem dX0_burnOne_46 : decode cX0_burnOne 46 = .ok (.iload_n 3, 1) := by decide +kernel
theorem dX0_burnOne_47 : decode cX0_burnOne 47 = .ok (.iadd, 1) := by decide +kernel
theorem dX0_burnOne_48 : decode cX0_burnOne 48 = .ok (.iastore, 1) := by decide +kernel
theorem dX0_burnOne_49 : decode cX0_burnOne 49 = .ok (.aload_n 0, 1) := by decide +kernel
theorem dX0_burnOne_50 : decode cX0_burnOne 50 = .ok (.getfield 21, 3) := by decide +kernel
theorem dX0_burnOne_53 : decode cX0_burnOne 53 = .ok (.iload_n 1, 1) := by decide +kernel
theorem dX0_burnOne_54 : decode cX0_burnOne 54 = .ok (.aload_n 0, 1) := by decide +kernel
theorem dX0_burnOne_55 : decode cX0_burnOne 55 = .ok (.getfield 15, 3) := by decide +kernel
theorem dX0_burnOne_58 : decode cX0_burnOne 58 = .ok (.iload_n 1, 1) := by decide +kernel
theorem dX0_burnOne_59 : decode cX0_burnOne 59 = .ok (.iaload, 1) := by decide +kernel
theorem dX0_burnOne_60 : decode cX0_burnOne 60 = .ok (.ifCond .le 16, 3) := by decide +kernel
theorem dX0_burnOne_63 : decode cX0_burnOne 63 = .ok (.aload_n 0, 1) := by decide +kernel
theorem dX0_burnOne_64 : decode cX0_burnOne 64 = .ok (.getfield 9, 3) := by decide +kernel
theorem dX0_burnOne_67 : decode cX0_burnOne 67 = .ok (.iload_n 1, 1) := by decide +kernel
theorem dX0_burnOne_68 : decode cX0_burnOne 68 = .ok (.iaload, 1) := by decide +kernel
theorem dX0_burnOne_69 : decode cX0_burnOne 69 = .ok (.ifCond .le 7, 3) := by decide +kernel
theorem dX0_burnOne_72 : decode cX0_burnOne 72 = .ok (.iconst 1, 1) := by decide +kernel
theorem dX0_burnOne_73 : decode cX0_burnOne 73 = .ok (.goto 4, 3) := by decide +kernel
theorem dX0_burnOne_76 : decode cX0_burnOne 76 = .ok (.iconst 0, 1) := by decide +kernel
theorem dX0_burnOne_77 : decode cX0_burnOne 77 = .ok (.bastore, 1) := by decide +kernel
theorem dX0_burnOne_78 : decode cX0_burnOne 78 = .ok (.return_, 1) := by decide +kernel
theorem dX0_copyOf_0 : decode cX0_copyOf 0 = .ok (.aload_n 0, 1) := by decide +kernel
theorem dX0_copyOf_1 : decode cX0_copyOf 1 = .ok (.aload_n 1, 1) := by decide +kernel
theorem dX0_copyOf_2 : decode cX0_copyOf 2 = .ok (.getfield 25, 3) := by decide +kernel
theorem dX0_copyOf_5 : decode cX0_copyOf 5 = .ok (.putfield 25, 3) := by decide +kernel
theorem dX0_copyOf_8 : decode cX0_copyOf 8 = .ok (.iconst 0, 1) := by decide +kernel
theorem dX0_copyOf_9 : decode cX0_copyOf 9 = .ok (.istore_n 2, 1) := by decide +kernel
theorem dX0_copyOf_10 : decode cX0_copyOf 10 = .ok (.iload_n 2, 1) := by decide +kernel
theorem dX0_copyOf_11 : decode cX0_copyOf 11 = .ok (.aload_n 0, 1) := by decide +kernel
theorem dX0_copyOf_12 : decode cX0_copyOf 12 = .ok (.getfield 25, 3) := by decide +kernel
theorem dX0_copyOf_15 : decode cX0_copyOf 15 = .ok (.if_icmp .ge 57, 3) := by decide +kernel
theorem dX0_copyOf_18 : decode cX0_copyOf 18 = .ok (.aload_n 0, 1) := by decide +kernel
theorem dX0_copyOf_19 : decode cX0_copyOf 19 = .ok (.getfield 9, 3) := by decide +kernel
theorem dX0_copyOf_22 : decode cX0_copyOf 22 = .ok (.iload_n 2, 1) := by decide +kernel
theorem dX0_copyOf_23 : decode cX0_copyOf 23 = .ok (.aload_n 1, 1) := by decide +kernel
theorem dX0_copyOf_24 : decode cX0_copyOf 24 = .ok (.getfield 9, 3) := by decide +kernel
theorem dX0_copyOf_27 : decode cX0_copyOf 27 = .ok (.iload_n 2, 1) := by decide +kernel
theorem dX0_copyOf_28 : decode cX0_copyOf 28 = .ok (.iaload, 1) := by decide +kernel
theorem dX0_copyOf_29 : decode cX0_copyOf 29 = .ok (.iastore, 1) := by decide +kernel
theorem dX0_copyOf_30 : decode cX0_copyOf 30 = .ok (.aload_n 0, 1) := by decide +kernel
theorem dX0_copyOf_31 : decode cX0_copyOf 31 = .ok (.getfield 15, 3) := by decide +kernel
theorem dX0_copyOf_34 : decode cX0_copyOf 34 = .ok (.iload_n 2, 1) := by decide +kernel
theorem dX0_copyOf_35 : decode cX0_copyOf 35 = .ok (.aload_n 1, 1) := by decide +kernel
theorem dX0_copyOf_36 : decode cX0_copyOf 36 = .ok (.getfield 15, 3) := by decide +kernel
theorem dX0_copyOf_39 : decode cX0_copyOf 39 = .ok (.iload_n 2, 1) := by decide +kernel
theorem dX0_copyOf_40 : decode cX0_copyOf 40 = .ok (.iaload, 1) := by decide +kernel
theorem dX0_copyOf_41 : decode cX0_copyOf 41 = .ok (.iastore, 1) := by decide +kernel
theorem dX0_copyOf_42 : decode cX0_copyOf 42 = .ok (.aload_n 0, 1) := by decide +kernel
theorem dX0_copyOf_43 : decode cX0_copyOf 43 = .ok (.getfield 18, 3) := by decide +kernel
theorem dX0_copyOf_46 : decode cX0_copyOf 46 = .ok (.iload_n 2, 1) := by decide +kernel
theorem dX0_copyOf_47 : decode cX0_copyOf 47 = .ok (.aload_n 1, 1) := by decide +kernel
theorem dX0_copyOf_48 : decode cX0_copyOf 48 = .ok (.getfield 18, 3) := by decide +kernel
theorem dX0_copyOf_51 : decode cX0_copyOf 51 = .ok (.iload_n 2, 1) := by decide +kernel
theorem dX0_copyOf_52 : decode cX0_copyOf 52 = .ok (.iaload, 1) := by decide +kernel
theorem dX0_copyOf_53 : decode cX0_copyOf 53 = .ok (.iastore, 1) := by decide +kernel
theorem dX0_copyOf_54 : decode cX0_copyOf 54 = .ok (.aload_n 0, 1) := by decide +kernel
theorem dX0_copyOf_55 : decode cX0_copyOf 55 = .ok (.getfield 21, 3) := by decide +kernel
theorem dX0_copyOf_58 : decode cX0_copyOf 58 = .ok (.iload_n 2, 1) := by decide +kernel
theorem dX0_copyOf_59 : decode cX0_copyOf 59 = .ok (.aload_n 1, 1) := by decide +kernel
theorem dX0_copyOf_60 : decode cX0_copyOf 60 = .ok (.getfield 21, 3) := by decide +kernel
theorem dX0_copyOf_63 : decode cX0_copyOf 63 = .ok (.iload_n 2, 1) := by decide +kernel
theorem dX0_copyOf_64 : decode cX0_copyOf 64 = .ok (.baload, 1) := by decide +kernel
theorem dX0_copyOf_65 : decode cX0_copyOf 65 = .ok (.bastore, 1) := by decide +kernel
theorem dX0_copyOf_66 : decode cX0_copyOf 66 = .ok (.iinc 2 1, 3) := by decide +kernel
theorem dX0_copyOf_69 : decode cX0_copyOf 69 = .ok (.goto (-59), 3) := by decide +kernel
theorem dX0_copyOf_72 : decode cX0_copyOf 72 = .ok (.return_, 1) := by decide +kernel
theorem dX1_init_0 : decode cX1_init 0 = .ok (.aload_n 0, 1) := by decide +kernel
theorem dX1_init_1 : decode cX1_init 1 = .ok (.invokespecial 3, 3) := by decide +kernel
theorem dX1_init_4 : decode cX1_init 4 = .ok (.aload_n 0, 1) := by decide +kernel
theorem dX1_init_5 : decode cX1_init 5 = .ok (.iconst 4, 1) := by decide +kernel
theorem dX1_init_6 : decode cX1_init 6 = .ok (.newarray .int, 2) := by decide +kernel
theorem dX1_init_8 : decode cX1_init 8 = .ok (.putfield 9, 3) := by decide +kernel
theorem dX1_init_11 : decode cX1_init 11 = .ok (.aload_n 0, 1) := by decide +kernel
theorem dX1_init_12 : decode cX1_init 12 = .ok (.iconst 4, 1) := by decide +kernel
theorem dX1_init_13 : decode cX1_init 13 = .ok (.newarray .int, 2) := by decide +kernel
theorem dX1_init_15 : decode cX1_init 15 = .ok (.putfield 15, 3) := by decide +kernel
theorem dX1_init_18 : decode cX1_init 18 = .ok (.aload_n 0, 1) := by decide +kernel
theorem dX1_init_19 : decode cX1_init 19 = .ok (.iconst 4, 1) := by decide +kernel
theorem dX1_init_20 : decode cX1_init 20 = .ok (.newarray .boolean, 2) := by decide +kernel
theorem dX1_init_22 : decode cX1_init 22 = .ok (.putfield 18, 3) := by decide +kernel
theorem dX1_init_25 : decode cX1_init 25 = .ok (.aload_n 0, 1) := by decide +kernel
theorem dX1_init_26 : decode cX1_init 26 = .ok (.iconst 0, 1) := by decide +kernel
theorem dX1_init_27 : decode cX1_init 27 = .ok (.putfield 22, 3) := by decide +kernel
theorem dX1_init_30 : decode cX1_init 30 = .ok (.aload_n 0, 1) := by decide +kernel
theorem dX1_init_31 : decode cX1_init 31 = .ok (.iload_n 1, 1) := by decide +kernel
theorem dX1_init_32 : decode cX1_init 32 = .ok (.iconst 4, 1) := by decide +kernel
theorem dX1_init_33 : decode cX1_init 33 = .ok (.invokestatic 26, 3) := by decide +kernel
theorem dX1_init_36 : decode cX1_init 36 = .ok (.putfield 32, 3) := by decide +kernel
theorem dX1_init_39 : decode cX1_init 39 = .ok (.return_, 1) := by decide +kernel
theorem dX1_has_0 : decode cX1_has 0 = .ok (.iload_n 1, 1) := by decide +kernel
theorem dX1_has_1 : decode cX1_has 1 = .ok (.ifCond .lt 15, 3) := by decide +kernel
theorem dX1_has_4 : decode cX1_has 4 = .ok (.iload_n 1, 1) := by decide +kernel
theorem dX1_has_5 : decode cX1_has 5 = .ok (.aload_n 0, 1) := by decide +kernel
theorem dX1_has_6 : decode cX1_has 6 = .ok (.getfield 22, 3) := by decide +kernel
theorem dX1_has_9 : decode cX1_has 9 = .ok (.if_icmp .ge 7, 3) := by decide +kernel
theorem dX1_has_12 : decode cX1_has 12 = .ok (.iconst 1, 1) := by decide +kernel
theorem dX1_has_13 : decode cX1_has 13 = .ok (.goto 4, 3) := by decide +kernel
theorem dX1_has_16 : decode cX1_has 16 = .ok (.iconst 0, 1) := by decide +kernel
theorem dX1_has_17 : decode cX1_has 17 = .ok (.ireturn, 1) := by decide +kernel
theorem dX1_full_0 : decode cX1_full 0 = .ok (.aload_n 0, 1) := by decide +kernel
theorem dX1_full_1 : decode cX1_full 1 = .ok (.getfield 22, 3) := by decide +kernel
theorem dX1_full_4 : decode cX1_full 4 = .ok (.aload_n 0, 1) := by decide +kernel
theorem dX1_full_5 : decode cX1_full 5 = .ok (.getfield 32, 3) := by decide +kernel
theorem dX1_full_8 : decode cX1_full 8 = .ok (.if_icmp .lt 7, 3) := by decide +kernel
theorem dX1_full_11 : decode cX1_full 11 = .ok (.iconst 1, 1) := by decide +kernel
theorem dX1_full_12 : decode cX1_full 12 = .ok (.goto 4, 3) := by decide +kernel
theorem dX1_full_15 : decode cX1_full 15 = .ok (.iconst 0, 1) := by decide +kernel
theorem dX1_full_16 : decode cX1_full 16 = .ok (.ireturn, 1) := by decide +kernel
theorem dX1_add_0 : decode cX1_add 0 = .ok (.aload_n 0, 1) := by decide +kernel
theorem dX1_add_1 : decode cX1_add 1 = .ok (.getfield 22, 3) := by decide +kernel
theorem dX1_add_4 : decode cX1_add 4 = .ok (.istore_n 2, 1) := by decide +kernel
theorem dX1_add_5 : decode cX1_add 5 = .ok (.aload_n 0, 1) := by decide +kernel
theorem dX1_add_6 : decode cX1_add 6 = .ok (.getfield 9, 3) := by decide +kernel
theorem dX1_add_9 : decode cX1_add 9 = .ok (.iload_n 2, 1) := by decide +kernel
theorem dX1_add_10 : decode cX1_add 10 = .ok (.iload_n 1, 1) := by decide +kernel
theorem dX1_add_11 : decode cX1_add 11 = .ok (.iastore, 1) := by decide +kernel
theorem dX1_add_12 : decode cX1_add 12 = .ok (.aload_n 0, 1) := by decide +kernel
theorem dX1_add_13 : decode cX1_add 13 = .ok (.dup, 1) := by decide +kernel
theorem dX1_add_14 : decode cX1_add 14 = .ok (.getfield 22, 3) := by decide +kernel
theorem dX1_add_17 : decode cX1_add 17 = .ok (.iconst 1, 1) := by decide +kernel
theorem dX1_add_18 : decode cX1_add 18 = .ok (.iadd, 1) := by decide +kernel
theorem dX1_add_19 : decode cX1_add 19 = .ok (.putfield 22, 3) := by decide +kernel
theorem dX1_add_22 : decode cX1_add 22 = .ok (.iload_n 2, 1) := by decide +kernel
theorem dX1_add_23 : decode cX1_add 23 = .ok (.ireturn, 1) := by decide +kernel
theorem dX1_empty_0 : decode cX1_empty 0 = .ok (.aload_n 0, 1) := by decide +kernel
theorem dX1_empty_1 : decode cX1_empty 1 = .ok (.getfield 9, 3) := by decide +kernel
theorem dX1_empty_4 : decode cX1_empty 4 = .ok (.iload_n 1, 1) := by decide +kernel
theorem dX1_empty_5 : decode cX1_empty 5 = .ok (.iconst 0, 1) := by decide +kernel
theorem dX1_empty_6 : decode cX1_empty 6 = .ok (.iastore, 1) := by decide +kernel
theorem dX1_empty_7 : decode cX1_empty 7 = .ok (.aload_n 0, 1) := by decide +kernel
theorem dX1_empty_8 : decode cX1_empty 8 = .ok (.getfield 15, 3) := by decide +kernel
theorem dX1_empty_11 : decode cX1_empty 11 = .ok (.iload_n 1, 1) := by decide +kernel
theorem dX1_empty_12 : decode cX1_empty 12 = .ok (.iconst 0, 1) := by decide +kernel
theorem dX1_empty_13 : decode cX1_empty 13 = .ok (.iastore, 1) := by decide +kernel
theorem dX1_empty_14 : decode cX1_empty 14 = .ok (.aload_n 0, 1) := by decide +kernel
theorem dX1_empty_15 : decode cX1_empty 15 = .ok (.getfield 18, 3) := by decide +kernel
theorem dX1_empty_18 : decode cX1_empty 18 = .ok (.iload_n 1, 1) := by decide +kernel
theorem dX1_empty_19 : decode cX1_empty 19 = .ok (.iconst 0, 1) := by decide +kernel
theorem dX1_empty_20 : decode cX1_empty 20 = .ok (.bastore, 1) := by decide +kernel
theorem dX1_empty_21 : decode cX1_empty 21 = .ok (.return_, 1) := by decide +kernel
theorem dX1_strength_0 : decode cX1_strength 0 = .ok (.aload_n 0, 1) := by decide +kernel
theorem dX1_strength_1 : decode cX1_strength 1 = .ok (.getfield 9, 3) := by decide +kernel
theorem dX1_strength_4 : decode cX1_strength 4 = .ok (.iload_n 1, 1) := by decide +kernel
theorem dX1_strength_5 : decode cX1_strength 5 = .ok (.iaload, 1) := by decide +kernel
theorem dX1_strength_6 : decode cX1_strength 6 = .ok (.aload_n 0, 1) := by decide +kernel
theorem dX1_strength_7 : decode cX1_strength 7 = .ok (.getfield 15, 3) := by decide +kernel
theorem dX1_strength_10 : decode cX1_strength 10 = .ok (.iload_n 1, 1) := by decide +kernel
theorem dX1_strength_11 : decode cX1_strength 11 = .ok (.iaload, 1) := by decide +kernel
theorem dX1_strength_12 : decode cX1_strength 12 = .ok (.invokestatic 35, 3) := by decide +kernel
theorem dX1_strength_15 : decode cX1_strength 15 = .ok (.ireturn, 1) := by decide +kernel
theorem dX1_egg_0 : decode cX1_egg 0 = .ok (.aload_n 0, 1) := by decide +kernel
theorem dX1_egg_1 : decode cX1_egg 1 = .ok (.iload_n 1, 1) := by decide +kernel
theorem dX1_egg_2 : decode cX1_egg 2 = .ok (.invokevirtual 38, 3) := by decide +kernel
theorem dX1_egg_5 : decode cX1_egg 5 = .ok (.invokestatic 42, 3) := by decide +kernel
theorem dX1_egg_8 : decode cX1_egg 8 = .ok (.ireturn, 1) := by decide +kernel
theorem dX1_tell_0 : decode cX1_tell 0 = .ok (.iload_n 2, 1) := by decide +kernel
theorem dX1_tell_1 : decode cX1_tell 1 = .ok (.tableswitch 57 0 3 #[31, 38, 45, 51], 31) := by decide +kernel
theorem dX1_tell_32 : decode cX1_tell 32 = .ok (.aload_n 0, 1) := by decide +kernel
theorem dX1_tell_33 : decode cX1_tell 33 = .ok (.getfield 9, 3) := by decide +kernel
theorem dX1_tell_36 : decode cX1_tell 36 = .ok (.iload_n 1, 1) := by decide +kernel
theorem dX1_tell_37 : decode cX1_tell 37 = .ok (.iaload, 1) := by decide +kernel
theorem dX1_tell_38 : decode cX1_tell 38 = .ok (.ireturn, 1) := by decide +kernel
theorem dX1_tell_39 : decode cX1_tell 39 = .ok (.aload_n 0, 1) := by decide +kernel
theorem dX1_tell_40 : decode cX1_tell 40 = .ok (.getfield 15, 3) := by decide +kernel
theorem dX1_tell_43 : decode cX1_tell 43 = .ok (.iload_n 1, 1) := by decide +kernel
theorem dX1_tell_44 : decode cX1_tell 44 = .ok (.iaload, 1) := by decide +kernel
theorem dX1_tell_45 : decode cX1_tell 45 = .ok (.ireturn, 1) := by decide +kernel
theorem dX1_tell_46 : decode cX1_tell 46 = .ok (.aload_n 0, 1) := by decide +kernel
theorem dX1_tell_47 : decode cX1_tell 47 = .ok (.iload_n 1, 1) := by decide +kernel
theorem dX1_tell_48 : decode cX1_tell 48 = .ok (.invokevirtual 38, 3) := by decide +kernel
theorem dX1_tell_51 : decode cX1_tell 51 = .ok (.ireturn, 1) := by decide +kernel
theorem dX1_tell_52 : decode cX1_tell 52 = .ok (.aload_n 0, 1) := by decide +kernel
theorem dX1_tell_53 : decode cX1_tell 53 = .ok (.iload_n 1, 1) := by decide +kernel
theorem dX1_tell_54 : decode cX1_tell 54 = .ok (.invokevirtual 45, 3) := by decide +kernel
theorem dX1_tell_57 : decode cX1_tell 57 = .ok (.ireturn, 1) := by decide +kernel
theorem dX1_tell_58 : decode cX1_tell 58 = .ok (.aload_n 0, 1) := by decide +kernel
theorem dX1_tell_59 : decode cX1_tell 59 = .ok (.getfield 18, 3) := by decide +kernel
theorem dX1_tell_62 : decode cX1_tell 62 = .ok (.iload_n 1, 1) := by decide +kernel
theorem dX1_tell_63 : decode cX1_tell 63 = .ok (.baload, 1) := by decide +kernel
theorem dX1_tell_64 : decode cX1_tell 64 = .ok (.ifCond .eq 7, 3) := by decide +kernel
theorem dX1_tell_67 : decode cX1_tell 67 = .ok (.iconst 1, 1) := by decide +kernel
theorem dX1_tell_68 : decode cX1_tell 68 = .ok (.goto 4, 3) := by decide +kernel
theorem dX1_tell_71 : decode cX1_tell 71 = .ok (.iconst 0, 1) := by decide +kernel
theorem dX1_tell_72 : decode cX1_tell 72 = .ok (.ireturn, 1) := by decide +kernel
theorem dX1_allAlum_0 : decode cX1_allAlum 0 = .ok (.iconst 0, 1) := by decide +kernel
theorem dX1_allAlum_1 : decode cX1_allAlum 1 = .ok (.istore_n 1, 1) := by decide +kernel
theorem dX1_allAlum_2 : decode cX1_allAlum 2 = .ok (.iconst 0, 1) := by decide +kernel
theorem dX1_allAlum_3 : decode cX1_allAlum 3 = .ok (.istore_n 2, 1) := by decide +kernel
theorem dX1_allAlum_4 : decode cX1_allAlum 4 = .ok (.iload_n 2, 1) := by decide +kernel
theorem dX1_allAlum_5 : decode cX1_allAlum 5 = .ok (.aload_n 0, 1) := by decide +kernel
theorem dX1_allAlum_6 : decode cX1_allAlum 6 = .ok (.getfield 22, 3) := by decide +kernel
theorem dX1_allAlum_9 : decode cX1_allAlum 9 = .ok (.if_icmp .ge 18, 3) := by decide +kernel
theorem dX1_allAlum_12 : decode cX1_allAlum 12 = .ok (.iload_n 1, 1) := by decide +kernel
theorem dX1_allAlum_13 : decode cX1_allAlum 13 = .ok (.aload_n 0, 1) := by decide +kernel
theorem dX1_allAlum_14 : decode cX1_allAlum 14 = .ok (.getfield 15, 3) := by decide +kernel
theorem dX1_allAlum_17 : decode cX1_allAlum 17 = .ok (.iload_n 2, 1) := by decide +kernel
theorem dX1_allAlum_18 : decode cX1_allAlum 18 = .ok (.iaload, 1) := by decide +kernel
theorem dX1_allAlum_19 : decode cX1_allAlum 19 = .ok (.iadd, 1) := by decide +kernel
theorem dX1_allAlum_20 : decode cX1_allAlum 20 = .ok (.istore_n 1, 1) := by decide +kernel
theorem dX1_allAlum_21 : decode cX1_allAlum 21 = .ok (.iinc 2 1, 3) := by decide +kernel
theorem dX1_allAlum_24 : decode cX1_allAlum 24 = .ok (.goto (-20), 3) := by decide +kernel
theorem dX1_allAlum_27 : decode cX1_allAlum 27 = .ok (.iload_n 1, 1) := by decide +kernel
theorem dX1_allAlum_28 : decode cX1_allAlum 28 = .ok (.ireturn, 1) := by decide +kernel
theorem dX1_filled_0 : decode cX1_filled 0 = .ok (.iconst 0, 1) := by decide +kernel
theorem dX1_filled_1 : decode cX1_filled 1 = .ok (.istore_n 1, 1) := by decide +kernel
theorem dX1_filled_2 : decode cX1_filled 2 = .ok (.iconst 0, 1) := by decide +kernel
theorem dX1_filled_3 : decode cX1_filled 3 = .ok (.istore_n 2, 1) := by decide +kernel
theorem dX1_filled_4 : decode cX1_filled 4 = .ok (.iload_n 2, 1) := by decide +kernel
theorem dX1_filled_5 : decode cX1_filled 5 = .ok (.aload_n 0, 1) := by decide +kernel
theorem dX1_filled_6 : decode cX1_filled 6 = .ok (.getfield 22, 3) := by decide +kernel
theorem dX1_filled_9 : decode cX1_filled 9 = .ok (.if_icmp .ge 28, 3) := by decide +kernel
theorem dX1_filled_12 : decode cX1_filled 12 = .ok (.aload_n 0, 1) := by decide +kernel
theorem dX1_filled_13 : decode cX1_filled 13 = .ok (.getfield 9, 3) := by decide +kernel
theorem dX1_filled_16 : decode cX1_filled 16 = .ok (.iload_n 2, 1) := by decide +kernel
theorem dX1_filled_17 : decode cX1_filled 17 = .ok (.iaload, 1) := by decide +kernel
theorem dX1_filled_18 : decode cX1_filled 18 = .ok (.aload_n 0, 1) := by decide +kernel
theorem dX1_filled_19 : decode cX1_filled 19 = .ok (.getfield 15, 3) := by decide +kernel
theorem dX1_filled_22 : decode cX1_filled 22 = .ok (.iload_n 2, 1) := by decide +kernel
theorem dX1_filled_23 : decode cX1_filled 23 = .ok (.iaload, 1) := by decide +kernel
theorem dX1_filled_24 : decode cX1_filled 24 = .ok (.iadd, 1) := by decide +kernel
theorem dX1_filled_25 : decode cX1_filled 25 = .ok (.ifCond .le 6, 3) := by decide +kernel
theorem dX1_filled_28 : decode cX1_filled 28 = .ok (.iinc 1 1, 3) := by decide +kernel
theorem dX1_filled_31 : decode cX1_filled 31 = .ok (.iinc 2 1, 3) := by decide +kernel
theorem dX1_filled_34 : decode cX1_filled 34 = .ok (.goto (-30), 3) := by decide +kernel
theorem dX1_filled_37 : decode cX1_filled 37 = .ok (.iload_n 1, 1) := by decide +kernel
theorem dX1_filled_38 : decode cX1_filled 38 = .ok (.ireturn, 1) := by decide +kernel
theorem dX1_strengths_0 : decode cX1_strengths 0 = .ok (.iconst 0, 1) := by decide +kernel
theorem dX1_strengths_1 : decode cX1_strengths 1 = .ok (.istore_n 1, 1) := by decide +kernel
theorem dX1_strengths_2 : decode cX1_strengths 2 = .ok (.iconst 0, 1) := by decide +kernel
theorem dX1_strengths_3 : decode cX1_strengths 3 = .ok (.istore_n 2, 1) := by decide +kernel
theorem dX1_strengths_4 : decode cX1_strengths 4 = .ok (.iload_n 2, 1) := by decide +kernel
theorem dX1_strengths_5 : decode cX1_strengths 5 = .ok (.aload_n 0, 1) := by decide +kernel
theorem dX1_strengths_6 : decode cX1_strengths 6 = .ok (.getfield 22, 3) := by decide +kernel
theorem dX1_strengths_9 : decode cX1_strengths 9 = .ok (.if_icmp .ge 17, 3) := by decide +kernel
theorem dX1_strengths_12 : decode cX1_strengths 12 = .ok (.iload_n 1, 1) := by decide +kernel
theorem dX1_strengths_13 : decode cX1_strengths 13 = .ok (.aload_n 0, 1) := by decide +kernel
theorem dX1_strengths_14 : decode cX1_strengths 14 = .ok (.iload_n 2, 1) := by decide +kernel
theorem dX1_strengths_15 : decode cX1_strengths 15 = .ok (.invokevirtual 38, 3) := by decide +kernel
theorem dX1_strengths_18 : decode cX1_strengths 18 = .ok (.iadd, 1) := by decide +kernel
theorem dX1_strengths_19 : decode cX1_strengths 19 = .ok (.istore_n 1, 1) := by decide +kernel
theorem dX1_strengths_20 : decode cX1_strengths 20 = .ok (.iinc 2 1, 3) := by decide +kernel
theorem dX1_strengths_23 : decode cX1_strengths 23 = .ok (.goto (-19), 3) := by decide +kernel
theorem dX1_strengths_26 : decode cX1_strengths 26 = .ok (.iload_n 1, 1) := by decide +kernel
theorem dX1_strengths_27 : decode cX1_strengths 27 = .ok (.ireturn, 1) := by decide +kernel
theorem dX1_takeWeather_0 : decode cX1_takeWeather 0 = .ok (.iconst 0, 1) := by decide +kernel
theorem dX1_takeWeather_1 : decode cX1_takeWeather 1 = .ok (.istore_n 2, 1) := by decide +kernel
theorem dX1_takeWeather_2 : decode cX1_takeWeather 2 = .ok (.iload_n 2, 1) := by decide +kernel
theorem dX1_takeWeather_3 : decode cX1_takeWeather 3 = .ok (.aload_n 0, 1) := by decide +kernel
theorem dX1_takeWeather_4 : decode cX1_takeWeather 4 = .ok (.getfield 22, 3) := by decide +kernel
theorem dX1_takeWeather_7 : decode cX1_takeWeather 7 = .ok (.if_icmp .ge 54, 3) := by decide +kernel
theorem dX1_takeWeather_10 : decode cX1_takeWeather 10 = .ok (.aload_n 0, 1) := by decide +kernel
theorem dX1_takeWeather_11 : decode cX1_takeWeather 11 = .ok (.getfield 9, 3) := by decide +kernel
theorem dX1_takeWeather_14 : decode cX1_takeWeather 14 = .ok (.iload_n 2, 1) := by decide +kernel
theorem dX1_takeWeather_15 : decode cX1_takeWeather 15 = .ok (.iaload, 1) := by decide +kernel
theorem dX1_takeWeather_16 : decode cX1_takeWeather 16 = .ok (.ifCond .le 39, 3) := by decide +kernel
theorem dX1_takeWeather_19 : decode cX1_takeWeather 19 = .ok (.sipush 400, 3) := by decide +kernel
theorem dX1_takeWeather_22 : decode cX1_takeWeather 22 = .ok (.aload_n 0, 1) := by decide +kernel
theorem dX1_takeWeather_23 : decode cX1_takeWeather 23 = .ok (.getfield 9, 3) := by decide +kernel
theorem dX1_takeWeather_26 : decode cX1_takeWeather 26 = .ok (.iload_n 2, 1) := by decide +kernel
theorem dX1_takeWeather_27 : decode cX1_takeWeather 27 = .ok (.iaload, 1) := by decide +kernel
theorem dX1_takeWeather_28 : decode cX1_takeWeather 28 = .ok (.iload_n 1, 1) := by decide +kernel
theorem dX1_takeWeather_29 : decode cX1_takeWeather 29 = .ok (.iadd, 1) := by decide +kernel
theorem dX1_takeWeather_30 : decode cX1_takeWeather 30 = .ok (.invokestatic 26, 3) := by decide +kernel
theorem dX1_takeWeather_33 : decode cX1_takeWeather 33 = .ok (.istore_n 3, 1) := by decide +kernel
theorem dX1_takeWeather_34 : decode cX1_takeWeather 34 = .ok (.aload_n 0, 1) := by decide +kernel
theorem dX1_takeWeather_35 : decode cX1_takeWeather 35 = .ok (.getfield 9, 3) := by decide +kernel
theorem dX1_takeWeather_38 : decode cX1_takeWeather 38 = .ok (.iload_n 2, 1) := by decide +kernel
theorem dX1_takeWeather_39 : decode cX1_takeWeather 39 = .ok (.iload_n 1, 1) := by decide +kernel
theorem dX1_takeWeather_40 : decode cX1_takeWeather 40 = .ok (.ifCond .ne 13, 3) := by decide +kernel
theorem dX1_takeWeather_43 : decode cX1_takeWeather 43 = .ok (.iconst 0, 1) := by decide +kernel
theorem dX1_takeWeather_44 : decode cX1_takeWeather 44 = .ok (.iload_n 3, 1) := by decide +kernel
theorem dX1_takeWeather_45 : decode cX1_takeWeather 45 = .ok (.iconst 3, 1) := by decide +kernel
theorem dX1_takeWeather_46 : decode cX1_takeWeather 46 = .ok (.isub, 1) := by decide +kernel
theorem dX1_takeWeather_47 : decode cX1_takeWeather 47 = .ok (.invokestatic 48, 3) := by decide +kernel
theorem dX1_takeWeather_50 : decode cX1_takeWeather 50 = .ok (.goto 4, 3) := by decide +kernel
theorem dX1_takeWeather_53 : decode cX1_takeWeather 53 = .ok (.iload_n 3, 1) := by decide +kernel
theorem dX1_takeWeather_54 : decode cX1_takeWeather 54 = .ok (.iastore, 1) := by decide +kernel
theorem dX1_takeWeather_55 : decode cX1_takeWeather 55 = .ok (.iinc 2 1, 3) := by decide +kernel
theorem dX1_takeWeather_58 : decode cX1_takeWeather 58 = .ok (.goto (-56), 3) := by decide +kernel
theorem dX1_takeWeather_61 : decode cX1_takeWeather 61 = .ok (.return_, 1) := by decide +kernel
theorem dX1_copyOf_0 : decode cX1_copyOf 0 = .ok (.aload_n 0, 1) := by decide +kernel
theorem dX1_copyOf_1 : decode cX1_copyOf 1 = .ok (.aload_n 1, 1) := by decide +kernel
theorem dX1_copyOf_2 : decode cX1_copyOf 2 = .ok (.getfield 22, 3) := by decide +kernel
theorem dX1_copyOf_5 : decode cX1_copyOf 5 = .ok (.putfield 22, 3) := by decide +kernel
theorem dX1_copyOf_8 : decode cX1_copyOf 8 = .ok (.iconst 0, 1) := by decide +kernel
theorem dX1_copyOf_9 : decode cX1_copyOf 9 = .ok (.istore_n 2, 1) := by decide +kernel
theorem dX1_copyOf_10 : decode cX1_copyOf 10 = .ok (.iload_n 2, 1) := by decide +kernel
theorem dX1_copyOf_11 : decode cX1_copyOf 11 = .ok (.aload_n 0, 1) := by decide +kernel
theorem dX1_copyOf_12 : decode cX1_copyOf 12 = .ok (.getfield 22, 3) := by decide +kernel
theorem dX1_copyOf_15 : decode cX1_copyOf 15 = .ok (.if_icmp .ge 45, 3) := by decide +kernel
theorem dX1_copyOf_18 : decode cX1_copyOf 18 = .ok (.aload_n 0, 1) := by decide +kernel
theorem dX1_copyOf_19 : decode cX1_copyOf 19 = .ok (.getfield 9, 3) := by decide +kernel
theorem dX1_copyOf_22 : decode cX1_copyOf 22 = .ok (.iload_n 2, 1) := by decide +kernel
theorem dX1_copyOf_23 : decode cX1_copyOf 23 = .ok (.aload_n 1, 1) := by decide +kernel
theorem dX1_copyOf_24 : decode cX1_copyOf 24 = .ok (.getfield 9, 3) := by decide +kernel
theorem dX1_copyOf_27 : decode cX1_copyOf 27 = .ok (.iload_n 2, 1) := by decide +kernel
theorem dX1_copyOf_28 : decode cX1_copyOf 28 = .ok (.iaload, 1) := by decide +kernel
theorem dX1_copyOf_29 : decode cX1_copyOf 29 = .ok (.iastore, 1) := by decide +kernel
theorem dX1_copyOf_30 : decode cX1_copyOf 30 = .ok (.aload_n 0, 1) := by decide +kernel
theorem dX1_copyOf_31 : decode cX1_copyOf 31 = .ok (.getfield 15, 3) := by decide +kernel
theorem dX1_copyOf_34 : decode cX1_copyOf 34 = .ok (.iload_n 2, 1) := by decide +kernel
theorem dX1_copyOf_35 : decode cX1_copyOf 35 = .ok (.aload_n 1, 1) := by decide +kernel
theorem dX1_copyOf_36 : decode cX1_copyOf 36 = .ok (.getfield 15, 3) := by decide +kernel
theorem dX1_copyOf_39 : decode cX1_copyOf 39 = .ok (.iload_n 2, 1) := by decide +kernel
theorem dX1_copyOf_40 : decode cX1_copyOf 40 = .ok (.iaload, 1) := by decide +kernel
theorem dX1_copyOf_41 : decode cX1_copyOf 41 = .ok (.iastore, 1) := by decide +kernel
theorem dX1_copyOf_42 : decode cX1_copyOf 42 = .ok (.aload_n 0, 1) := by decide +kernel
theorem dX1_copyOf_43 : decode cX1_copyOf 43 = .ok (.getfield 18, 3) := by decide +kernel
theorem dX1_copyOf_46 : decode cX1_copyOf 46 = .ok (.iload_n 2, 1) := by decide +kernel
theorem dX1_copyOf_47 : decode cX1_copyOf 47 = .ok (.aload_n 1, 1) := by decide +kernel
theorem dX1_copyOf_48 : decode cX1_copyOf 48 = .ok (.getfield 18, 3) := by decide +kernel
theorem dX1_copyOf_51 : decode cX1_copyOf 51 = .ok (.iload_n 2, 1) := by decide +kernel
theorem dX1_copyOf_52 : decode cX1_copyOf 52 = .ok (.baload, 1) := by decide +kernel
theorem dX1_copyOf_53 : decode cX1_copyOf 53 = .ok (.bastore, 1) := by decide +kernel
theorem dX1_copyOf_54 : decode cX1_copyOf 54 = .ok (.iinc 2 1, 3) := by decide +kernel
theorem dX1_copyOf_57 : decode cX1_copyOf 57 = .ok (.goto (-47), 3) := by decide +kernel
theorem dX1_copyOf_60 : decode cX1_copyOf 60 = .ok (.return_, 1) := by decide +kernel
theorem dX2_init_0 : decode cX2_init 0 = .ok (.aload_n 0, 1) := by decide +kernel
theorem dX2_init_1 : decode cX2_init 1 = .ok (.invokespecial 3, 3) := by decide +kernel
theorem dX2_init_4 : decode cX2_init 4 = .ok (.aload_n 0, 1) := by decide +kernel
theorem dX2_init_5 : decode cX2_init 5 = .ok (.new 9, 3) := by decide +kernel
theorem dX2_init_8 : decode cX2_init 8 = .ok (.dup, 1) := by decide +kernel
theorem dX2_init_9 : decode cX2_init 9 = .ok (.invokespecial 11, 3) := by decide +kernel
theorem dX2_init_12 : decode cX2_init 12 = .ok (.putfield 12, 3) := by decide +kernel
theorem dX2_init_15 : decode cX2_init 15 = .ok (.aload_n 0, 1) := by decide +kernel
theorem dX2_init_16 : decode cX2_init 16 = .ok (.new 18, 3) := by decide +kernel
theorem dX2_init_19 : decode cX2_init 19 = .ok (.dup, 1) := by decide +kernel
theorem dX2_init_20 : decode cX2_init 20 = .ok (.iconst 4, 1) := by decide +kernel
theorem dX2_init_21 : decode cX2_init 21 = .ok (.invokespecial 20, 3) := by decide +kernel
theorem dX2_init_24 : decode cX2_init 24 = .ok (.putfield 23, 3) := by decide +kernel
theorem dX2_init_27 : decode cX2_init 27 = .ok (.aload_n 0, 1) := by decide +kernel
theorem dX2_init_28 : decode cX2_init 28 = .ok (.new 18, 3) := by decide +kernel
theorem dX2_init_31 : decode cX2_init 31 = .ok (.dup, 1) := by decide +kernel
theorem dX2_init_32 : decode cX2_init 32 = .ok (.iconst 3, 1) := by decide +kernel
theorem dX2_init_33 : decode cX2_init 33 = .ok (.invokespecial 20, 3) := by decide +kernel
theorem dX2_init_36 : decode cX2_init 36 = .ok (.putfield 27, 3) := by decide +kernel
theorem dX2_init_39 : decode cX2_init 39 = .ok (.aload_n 0, 1) := by decide +kernel
theorem dX2_init_40 : decode cX2_init 40 = .ok (.iconst 0, 1) := by decide +kernel
theorem dX2_init_41 : decode cX2_init 41 = .ok (.putfield 30, 3) := by decide +kernel
theorem dX2_init_44 : decode cX2_init 44 = .ok (.aload_n 0, 1) := by decide +kernel
theorem dX2_init_45 : decode cX2_init 45 = .ok (.iconst 0, 1) := by decide +kernel
theorem dX2_init_46 : decode cX2_init 46 = .ok (.putfield 34, 3) := by decide +kernel
theorem dX2_init_49 : decode cX2_init 49 = .ok (.aload_n 0, 1) := by decide +kernel
theorem dX2_init_50 : decode cX2_init 50 = .ok (.iconst 0, 1) := by decide +kernel
theorem dX2_init_51 : decode cX2_init 51 = .ok (.putfield 37, 3) := by decide +kernel
theorem dX2_init_54 : decode cX2_init 54 = .ok (.aload_n 0, 1) := by decide +kernel
theorem dX2_init_55 : decode cX2_init 55 = .ok (.iconst 0, 1) := by decide +kernel
theorem dX2_init_56 : decode cX2_init 56 = .ok (.putfield 40, 3) := by decide +kernel
theorem dX2_init_59 : decode cX2_init 59 = .ok (.aload_n 0, 1) := by decide +kernel
theorem dX2_init_60 : decode cX2_init 60 = .ok (.iconst 0, 1) := by decide +kernel
theorem dX2_init_61 : decode cX2_init 61 = .ok (.putfield 43, 3) := by decide +kernel
theorem dX2_init_64 : decode cX2_init 64 = .ok (.aload_n 0, 1) := by decide +kernel
theorem dX2_init_65 : decode cX2_init 65 = .ok (.iconst 0, 1) := by decide +kernel
theorem dX2_init_66 : decode cX2_init 66 = .ok (.putfield 46, 3) := by decide +kernel
theorem dX2_init_69 : decode cX2_init 69 = .ok (.aload_n 0, 1) := by decide +kernel
theorem dX2_init_70 : decode cX2_init 70 = .ok (.iconst 0, 1) := by decide +kernel
theorem dX2_init_71 : decode cX2_init 71 = .ok (.putfield 49, 3) := by decide +kernel
theorem dX2_init_74 : decode cX2_init 74 = .ok (.return_, 1) := by decide +kernel
theorem dX2_copyOf_0 : decode cX2_copyOf 0 = .ok (.aload_n 0, 1) := by decide +kernel
theorem dX2_copyOf_1 : decode cX2_copyOf 1 = .ok (.getfield 12, 3) := by decide +kernel
theorem dX2_copyOf_4 : decode cX2_copyOf 4 = .ok (.aload_n 1, 1) := by decide +kernel
theorem dX2_copyOf_5 : decode cX2_copyOf 5 = .ok (.getfield 12, 3) := by decide +kernel
theorem dX2_copyOf_8 : decode cX2_copyOf 8 = .ok (.invokevirtual 52, 3) := by decide +kernel
theorem dX2_copyOf_11 : decode cX2_copyOf 11 = .ok (.aload_n 0, 1) := by decide +kernel
theorem dX2_copyOf_12 : decode cX2_copyOf 12 = .ok (.getfield 23, 3) := by decide +kernel
theorem dX2_copyOf_15 : decode cX2_copyOf 15 = .ok (.aload_n 1, 1) := by decide +kernel
theorem dX2_copyOf_16 : decode cX2_copyOf 16 = .ok (.getfield 23, 3) := by decide +kernel
theorem dX2_copyOf_19 : decode cX2_copyOf 19 = .ok (.invokevirtual 56, 3) := by decide +kernel
theorem dX2_copyOf_22 : decode cX2_copyOf 22 = .ok (.aload_n 0, 1) := by decide +kernel
theorem dX2_copyOf_23 : decode cX2_copyOf 23 = .ok (.getfield 27, 3) := by decide +kernel
theorem dX2_copyOf_26 : decode cX2_copyOf 26 = .ok (.aload_n 1, 1) := by decide +kernel
theorem dX2_copyOf_27 : decode cX2_copyOf 27 = .ok (.getfield 27, 3) := by decide +kernel
theorem dX2_copyOf_30 : decode cX2_copyOf 30 = .ok (.invokevirtual 56, 3) := by decide +kernel
theorem dX2_copyOf_33 : decode cX2_copyOf 33 = .ok (.aload_n 0, 1) := by decide +kernel
theorem dX2_copyOf_34 : decode cX2_copyOf 34 = .ok (.aload_n 1, 1) := by decide +kernel
theorem dX2_copyOf_35 : decode cX2_copyOf 35 = .ok (.getfield 30, 3) := by decide +kernel
theorem dX2_copyOf_38 : decode cX2_copyOf 38 = .ok (.putfield 30, 3) := by decide +kernel
theorem dX2_copyOf_41 : decode cX2_copyOf 41 = .ok (.aload_n 0, 1) := by decide +kernel
theorem dX2_copyOf_42 : decode cX2_copyOf 42 = .ok (.aload_n 1, 1) := by decide +kernel
theorem dX2_copyOf_43 : decode cX2_copyOf 43 = .ok (.getfield 34, 3) := by decide +kernel
theorem dX2_copyOf_46 : decode cX2_copyOf 46 = .ok (.putfield 34, 3) := by decide +kernel
theorem dX2_copyOf_49 : decode cX2_copyOf 49 = .ok (.aload_n 0, 1) := by decide +kernel
theorem dX2_copyOf_50 : decode cX2_copyOf 50 = .ok (.aload_n 1, 1) := by decide +kernel
theorem dX2_copyOf_51 : decode cX2_copyOf 51 = .ok (.getfield 37, 3) := by decide +kernel
theorem dX2_copyOf_54 : decode cX2_copyOf 54 = .ok (.putfield 37, 3) := by decide +kernel
theorem dX2_copyOf_57 : decode cX2_copyOf 57 = .ok (.aload_n 0, 1) := by decide +kernel
theorem dX2_copyOf_58 : decode cX2_copyOf 58 = .ok (.aload_n 1, 1) := by decide +kernel
theorem dX2_copyOf_59 : decode cX2_copyOf 59 = .ok (.getfield 40, 3) := by decide +kernel
theorem dX2_copyOf_62 : decode cX2_copyOf 62 = .ok (.putfield 40, 3) := by decide +kernel
theorem dX2_copyOf_65 : decode cX2_copyOf 65 = .ok (.aload_n 0, 1) := by decide +kernel
theorem dX2_copyOf_66 : decode cX2_copyOf 66 = .ok (.aload_n 1, 1) := by decide +kernel
theorem dX2_copyOf_67 : decode cX2_copyOf 67 = .ok (.getfield 43, 3) := by decide +kernel
theorem dX2_copyOf_70 : decode cX2_copyOf 70 = .ok (.putfield 43, 3) := by decide +kernel
theorem dX2_copyOf_73 : decode cX2_copyOf 73 = .ok (.aload_n 0, 1) := by decide +kernel
theorem dX2_copyOf_74 : decode cX2_copyOf 74 = .ok (.aload_n 1, 1) := by decide +kernel
theorem dX2_copyOf_75 : decode cX2_copyOf 75 = .ok (.getfield 46, 3) := by decide +kernel
theorem dX2_copyOf_78 : decode cX2_copyOf 78 = .ok (.putfield 46, 3) := by decide +kernel
theorem dX2_copyOf_81 : decode cX2_copyOf 81 = .ok (.aload_n 0, 1) := by decide +kernel
theorem dX2_copyOf_82 : decode cX2_copyOf 82 = .ok (.aload_n 1, 1) := by decide +kernel
theorem dX2_copyOf_83 : decode cX2_copyOf 83 = .ok (.getfield 49, 3) := by decide +kernel
theorem dX2_copyOf_86 : decode cX2_copyOf 86 = .ok (.putfield 49, 3) := by decide +kernel
theorem dX2_copyOf_89 : decode cX2_copyOf 89 = .ok (.return_, 1) := by decide +kernel
theorem dX2_letDayGo_0 : decode cX2_letDayGo 0 = .ok (.aload_n 0, 1) := by decide +kernel
theorem dX2_letDayGo_1 : decode cX2_letDayGo 1 = .ok (.getfield 12, 3) := by decide +kernel
theorem dX2_letDayGo_4 : decode cX2_letDayGo 4 = .ok (.iload_n 1, 1) := by decide +kernel
theorem dX2_letDayGo_5 : decode cX2_letDayGo 5 = .ok (.invokevirtual 59, 3) := by decide +kernel
theorem dX2_letDayGo_8 : decode cX2_letDayGo 8 = .ok (.aload_n 0, 1) := by decide +kernel
theorem dX2_letDayGo_9 : decode cX2_letDayGo 9 = .ok (.getfield 23, 3) := by decide +kernel
theorem dX2_letDayGo_12 : decode cX2_letDayGo 12 = .ok (.iload_n 1, 1) := by decide +kernel
theorem dX2_letDayGo_13 : decode cX2_letDayGo 13 = .ok (.invokevirtual 62, 3) := by decide +kernel
theorem dX2_letDayGo_16 : decode cX2_letDayGo 16 = .ok (.aload_n 0, 1) := by decide +kernel
theorem dX2_letDayGo_17 : decode cX2_letDayGo 17 = .ok (.invokevirtual 65, 3) := by decide +kernel
theorem dX2_letDayGo_20 : decode cX2_letDayGo 20 = .ok (.aload_n 0, 1) := by decide +kernel
theorem dX2_letDayGo_21 : decode cX2_letDayGo 21 = .ok (.iload_n 2, 1) := by decide +kernel
theorem dX2_letDayGo_22 : decode cX2_letDayGo 22 = .ok (.invokevirtual 68, 3) := by decide +kernel
theorem dX2_letDayGo_25 : decode cX2_letDayGo 25 = .ok (.aload_n 0, 1) := by decide +kernel
theorem dX2_letDayGo_26 : decode cX2_letDayGo 26 = .ok (.dup, 1) := by decide +kernel
theorem dX2_letDayGo_27 : decode cX2_letDayGo 27 = .ok (.getfield 30, 3) := by decide +kernel
theorem dX2_letDayGo_30 : decode cX2_letDayGo 30 = .ok (.iconst 1, 1) := by decide +kernel
theorem dX2_letDayGo_31 : decode cX2_letDayGo 31 = .ok (.iadd, 1) := by decide +kernel
theorem dX2_letDayGo_32 : decode cX2_letDayGo 32 = .ok (.putfield 30, 3) := by decide +kernel
theorem dX2_letDayGo_35 : decode cX2_letDayGo 35 = .ok (.return_, 1) := by decide +kernel
theorem dX2_boilPans_0 : decode cX2_boilPans 0 = .ok (.iconst 0, 1) := by decide +kernel
theorem dX2_boilPans_1 : decode cX2_boilPans 1 = .ok (.istore_n 1, 1) := by decide +kernel
theorem dX2_boilPans_2 : decode cX2_boilPans 2 = .ok (.iload_n 1, 1) := by decide +kernel
theorem dX2_boilPans_3 : decode cX2_boilPans 3 = .ok (.aload_n 0, 1) := by decide +kernel
theorem dX2_boilPans_4 : decode cX2_boilPans 4 = .ok (.getfield 27, 3) := by decide +kernel
theorem dX2_boilPans_7 : decode cX2_boilPans 7 = .ok (.getfield 71, 3) := by decide +kernel
theorem dX2_boilPans_10 : decode cX2_boilPans 10 = .ok (.if_icmp .ge 92, 3) := by decide +kernel
theorem dX2_boilPans_13 : decode cX2_boilPans 13 = .ok (.aload_n 0, 1) := by decide +kernel
theorem dX2_boilPans_14 : decode cX2_boilPans 14 = .ok (.getfield 27, 3) := by decide +kernel
theorem dX2_boilPans_17 : decode cX2_boilPans 17 = .ok (.getfield 74, 3) := by decide +kernel
theorem dX2_boilPans_20 : decode cX2_boilPans 20 = .ok (.iload_n 1, 1) := by decide +kernel
theorem dX2_boilPans_21 : decode cX2_boilPans 21 = .ok (.baload, 1) := by decide +kernel
theorem dX2_boilPans_22 : decode cX2_boilPans 22 = .ok (.ifCond .ne 6, 3) := by decide +kernel
theorem dX2_boilPans_25 : decode cX2_boilPans 25 = .ok (.goto 71, 3) := by decide +kernel
theorem dX2_boilPans_28 : decode cX2_boilPans 28 = .ok (.aload_n 0, 1) := by decide +kernel
theorem dX2_boilPans_29 : decode cX2_boilPans 29 = .ok (.getfield 34, 3) := by decide +kernel
theorem dX2_boilPans_32 : decode cX2_boilPans 32 = .ok (.iconst 4, 1) := by decide +kernel
theorem dX2_boilPans_33 : decode cX2_boilPans 33 = .ok (.if_icmp .lt 15, 3) := by decide +kernel
theorem dX2_boilPans_36 : decode cX2_boilPans 36 = .ok (.aload_n 0, 1) := by decide +kernel
theorem dX2_boilPans_37 : decode cX2_boilPans 37 = .ok (.getfield 27, 3) := by decide +kernel
theorem dX2_boilPans_40 : decode cX2_boilPans 40 = .ok (.getfield 78, 3) := by decide +kernel
theorem dX2_boilPans_43 : decode cX2_boilPans 43 = .ok (.iload_n 1, 1) := by decide +kernel
theorem dX2_boilPans_44 : decode cX2_boilPans 44 = .ok (.iaload, 1) := by decide +kernel
theorem dX2_boilPans_45 : decode cX2_boilPans 45 = .ok (.ifCond .ne 16, 3) := by decide +kernel
theorem dX2_boilPans_48 : decode cX2_boilPans 48 = .ok (.aload_n 0, 1) := by decide +kernel
theorem dX2_boilPans_49 : decode cX2_boilPans 49 = .ok (.getfield 27, 3) := by decide +kernel
theorem dX2_boilPans_52 : decode cX2_boilPans 52 = .ok (.getfield 74, 3) := by decide +kernel
theorem dX2_boilPans_55 : decode cX2_boilPans 55 = .ok (.iload_n 1, 1) := by decide +kernel
theorem dX2_boilPans_56 : decode cX2_boilPans 56 = .ok (.iconst 0, 1) := by decide +kernel
theorem dX2_boilPans_57 : decode cX2_boilPans 57 = .ok (.bastore, 1) := by decide +kernel
theorem dX2_boilPans_58 : decode cX2_boilPans 58 = .ok (.goto 38, 3) := by decide +kernel
theorem dX2_boilPans_61 : decode cX2_boilPans 61 = .ok (.aload_n 0, 1) := by decide +kernel
theorem dX2_boilPans_62 : decode cX2_boilPans 62 = .ok (.dup, 1) := by decide +kernel
theorem dX2_boilPans_63 : decode cX2_boilPans 63 = .ok (.getfield 34, 3) := by decide +kernel
theorem dX2_boilPans_66 : decode cX2_boilPans 66 = .ok (.iconst 4, 1) := by decide +kernel
theorem dX2_boilPans_67 : decode cX2_boilPans 67 = .ok (.isub, 1) := by decide +kernel
theorem dX2_boilPans_68 : decode cX2_boilPans 68 = .ok (.putfield 34, 3) := by decide +kernel
theorem dX2_boilPans_71 : decode cX2_boilPans 71 = .ok (.aload_n 0, 1) := by decide +kernel
theorem dX2_boilPans_72 : decode cX2_boilPans 72 = .ok (.getfield 27, 3) := by decide +kernel
theorem dX2_boilPans_75 : decode cX2_boilPans 75 = .ok (.getfield 78, 3) := by decide +kernel
theorem dX2_boilPans_78 : decode cX2_boilPans 78 = .ok (.iload_n 1, 1) := by decide +kernel
theorem dX2_boilPans_79 : decode cX2_boilPans 79 = .ok (.iconst 0, 1) := by decide +kernel
theorem dX2_boilPans_80 : decode cX2_boilPans 80 = .ok (.aload_n 0, 1) := by decide +kernel
theorem dX2_boilPans_81 : decode cX2_boilPans 81 = .ok (.getfield 27, 3) := by decide +kernel
theorem dX2_boilPans_84 : decode cX2_boilPans 84 = .ok (.getfield 78, 3) := by decide +kernel
theorem dX2_boilPans_87 : decode cX2_boilPans 87 = .ok (.iload_n 1, 1) := by decide +kernel
theorem dX2_boilPans_88 : decode cX2_boilPans 88 = .ok (.iaload, 1) := by decide +kernel
theorem dX2_boilPans_89 : decode cX2_boilPans 89 = .ok (.bipush 12, 2) := by decide +kernel
theorem dX2_boilPans_91 : decode cX2_boilPans 91 = .ok (.isub, 1) := by decide +kernel
theorem dX2_boilPans_92 : decode cX2_boilPans 92 = .ok (.invokestatic 82, 3) := by decide +kernel
theorem dX2_boilPans_95 : decode cX2_boilPans 95 = .ok (.iastore, 1) := by decide +kernel
theorem dX2_boilPans_96 : decode cX2_boilPans 96 = .ok (.iinc 1 1, 3) := by decide +kernel
theorem dX2_boilPans_99 : decode cX2_boilPans 99 = .ok (.goto (-97), 3) := by decide +kernel
theorem dX2_boilPans_102 : decode cX2_boilPans 102 = .ok (.return_, 1) := by decide +kernel
theorem dX2_loadShip_0 : decode cX2_loadShip 0 = .ok (.iload_n 1, 1) := by decide +kernel
theorem dX2_loadShip_1 : decode cX2_loadShip 1 = .ok (.aload_n 0, 1) := by decide +kernel
theorem dX2_loadShip_2 : decode cX2_loadShip 2 = .ok (.getfield 40, 3) := by decide +kernel
theorem dX2_loadShip_5 : decode cX2_loadShip 5 = .ok (.invokestatic 88, 3) := by decide +kernel
theorem dX2_loadShip_8 : decode cX2_loadShip 8 = .ok (.istore_n 2, 1) := by decide +kernel
theorem dX2_loadShip_9 : decode cX2_loadShip 9 = .ok (.iload_n 1, 1) := by decide +kernel
theorem dX2_loadShip_10 : decode cX2_loadShip 10 = .ok (.iload_n 2, 1) := by decide +kernel
theorem dX2_loadShip_11 : decode cX2_loadShip 11 = .ok (.isub, 1) := by decide +kernel
theorem dX2_loadShip_12 : decode cX2_loadShip 12 = .ok (.aload_n 0, 1) := by decide +kernel
theorem dX2_loadShip_13 : decode cX2_loadShip 13 = .ok (.getfield 43, 3) := by decide +kernel
theorem dX2_loadShip_16 : decode cX2_loadShip 16 = .ok (.invokestatic 88, 3) := by decide +kernel
theorem dX2_loadShip_19 : decode cX2_loadShip 19 = .ok (.istore_n 3, 1) := by decide +kernel
theorem dX2_loadShip_20 : decode cX2_loadShip 20 = .ok (.aload_n 0, 1) := by decide +kernel
theorem dX2_loadShip_21 : decode cX2_loadShip 21 = .ok (.dup, 1) := by decide +kernel
theorem dX2_loadShip_22 : decode cX2_loadShip 22 = .ok (.getfield 40, 3) := by decide +kernel
theorem dX2_loadShip_25 : decode cX2_loadShip 25 = .ok (.iload_n 2, 1) := by decide +kernel
theorem dX2_loadShip_26 : decode cX2_loadShip 26 = .ok (.isub, 1) := by decide +kernel
theorem dX2_loadShip_27 : decode cX2_loadShip 27 = .ok (.putfield 40, 3) := by decide +kernel
theorem dX2_loadShip_30 : decode cX2_loadShip 30 = .ok (.aload_n 0, 1) := by decide +kernel
theorem dX2_loadShip_31 : decode cX2_loadShip 31 = .ok (.dup, 1) := by decide +kernel
theorem dX2_loadShip_32 : decode cX2_loadShip 32 = .ok (.getfield 43, 3) := by decide +kernel
theorem dX2_loadShip_35 : decode cX2_loadShip 35 = .ok (.iload_n 3, 1) := by decide +kernel
theorem dX2_loadShip_36 : decode cX2_loadShip 36 = .ok (.isub, 1) := by decide +kernel
theorem dX2_loadShip_37 : decode cX2_loadShip 37 = .ok (.putfield 43, 3) := by decide +kernel
theorem dX2_loadShip_40 : decode cX2_loadShip 40 = .ok (.aload_n 0, 1) := by decide +kernel
theorem dX2_loadShip_41 : decode cX2_loadShip 41 = .ok (.dup, 1) := by decide +kernel
theorem dX2_loadShip_42 : decode cX2_loadShip 42 = .ok (.getfield 46, 3) := by decide +kernel
theorem dX2_loadShip_45 : decode cX2_loadShip 45 = .ok (.iconst 5, 1) := by decide +kernel
theorem dX2_loadShip_46 : decode cX2_loadShip 46 = .ok (.iload_n 2, 1) := by decide +kernel
theorem dX2_loadShip_47 : decode cX2_loadShip 47 = .ok (.imul, 1) := by decide +kernel
theorem dX2_loadShip_48 : decode cX2_loadShip 48 = .ok (.iconst 2, 1) := by decide +kernel
theorem dX2_loadShip_49 : decode cX2_loadShip 49 = .ok (.iload_n 3, 1) := by decide +kernel
theorem dX2_loadShip_50 : decode cX2_loadShip 50 = .ok (.imul, 1) := by decide +kernel
theorem dX2_loadShip_51 : decode cX2_loadShip 51 = .ok (.iadd, 1) := by decide +kernel
theorem dX2_loadShip_52 : decode cX2_loadShip 52 = .ok (.iadd, 1) := by decide +kernel
theorem dX2_loadShip_53 : decode cX2_loadShip 53 = .ok (.putfield 46, 3) := by decide +kernel
theorem dX2_loadShip_56 : decode cX2_loadShip 56 = .ok (.aload_n 0, 1) := by decide +kernel
theorem dX2_loadShip_57 : decode cX2_loadShip 57 = .ok (.dup, 1) := by decide +kernel
theorem dX2_loadShip_58 : decode cX2_loadShip 58 = .ok (.getfield 49, 3) := by decide +kernel
theorem dX2_loadShip_61 : decode cX2_loadShip 61 = .ok (.iload_n 2, 1) := by decide +kernel
theorem dX2_loadShip_62 : decode cX2_loadShip 62 = .ok (.iload_n 3, 1) := by decide +kernel
theorem dX2_loadShip_63 : decode cX2_loadShip 63 = .ok (.iadd, 1) := by decide +kernel
theorem dX2_loadShip_64 : decode cX2_loadShip 64 = .ok (.iadd, 1) := by decide +kernel
theorem dX2_loadShip_65 : decode cX2_loadShip 65 = .ok (.putfield 49, 3) := by decide +kernel
theorem dX2_loadShip_68 : decode cX2_loadShip 68 = .ok (.return_, 1) := by decide +kernel
theorem dX3_init_0 : decode cX3_init 0 = .ok (.aload_n 0, 1) := by decide +kernel
theorem dX3_init_1 : decode cX3_init 1 = .ok (.invokespecial 1, 3) := by decide +kernel
theorem dX3_init_4 : decode cX3_init 4 = .ok (.aload_n 0, 1) := by decide +kernel
theorem dX3_init_5 : decode cX3_init 5 = .ok (.bipush 6, 2) := by decide +kernel
theorem dX3_init_7 : decode cX3_init 7 = .ok (.newarray .int, 2) := by decide +kernel
theorem dX3_init_9 : decode cX3_init 9 = .ok (.putfield 9, 3) := by decide +kernel
theorem dX3_init_12 : decode cX3_init 12 = .ok (.aload_n 0, 1) := by decide +kernel
theorem dX3_init_13 : decode cX3_init 13 = .ok (.bipush 7, 2) := by decide +kernel
theorem dX3_init_15 : decode cX3_init 15 = .ok (.newarray .int, 2) := by decide +kernel
theorem dX3_init_17 : decode cX3_init 17 = .ok (.putfield 13, 3) := by decide +kernel
theorem dX3_init_20 : decode cX3_init 20 = .ok (.aload_n 0, 1) := by decide +kernel
theorem dX3_init_21 : decode cX3_init 21 = .ok (.new 16, 3) := by decide +kernel
theorem dX3_init_24 : decode cX3_init 24 = .ok (.dup, 1) := by decide +kernel
theorem dX3_init_25 : decode cX3_init 25 = .ok (.invokespecial 18, 3) := by decide +kernel
theorem dX3_init_28 : decode cX3_init 28 = .ok (.putfield 19, 3) := by decide +kernel
theorem dX3_init_31 : decode cX3_init 31 = .ok (.aload_n 0, 1) := by decide +kernel
theorem dX3_init_32 : decode cX3_init 32 = .ok (.new 16, 3) := by decide +kernel
theorem dX3_init_35 : decode cX3_init 35 = .ok (.dup, 1) := by decide +kernel
theorem dX3_init_36 : decode cX3_init 36 = .ok (.invokespecial 18, 3) := by decide +kernel
theorem dX3_init_39 : decode cX3_init 39 = .ok (.putfield 23, 3) := by decide +kernel
theorem dX3_init_42 : decode cX3_init 42 = .ok (.return_, 1) := by decide +kernel
theorem dX3_bring_0 : decode cX3_bring 0 = .ok (.iload_n 1, 1) := by decide +kernel
theorem dX3_bring_1 : decode cX3_bring 1 = .ok (.iconst 0, 1) := by decide +kernel
theorem dX3_bring_2 : decode cX3_bring 2 = .ok (.iconst 1, 1) := by decide +kernel
theorem dX3_bring_3 : decode cX3_bring 3 = .ok (.invokestatic 26, 3) := by decide +kernel
theorem dX3_bring_6 : decode cX3_bring 6 = .ok (.ifCond .ne 13, 3) := by decide +kernel
theorem dX3_bring_9 : decode cX3_bring 9 = .ok (.new 30, 3) := by decide +kernel
theorem dX3_bring_12 : decode cX3_bring 12 = .ok (.dup, 1) := by decide +kernel
theorem dX3_bring_13 : decode cX3_bring 13 = .ok (.ldc 32, 2) := by decide +kernel
theorem dX3_bring_15 : decode cX3_bring 15 = .ok (.invokespecial 34, 3) := by decide +kernel
theorem dX3_bring_18 : decode cX3_bring 18 = .ok (.athrow, 1) := by decide +kernel
theorem dX3_bring_19 : decode cX3_bring 19 = .ok (.iload_n 2, 1) := by decide +kernel
theorem dX3_bring_20 : decode cX3_bring 20 = .ok (.iconst 1, 1) := by decide +kernel
theorem dX3_bring_21 : decode cX3_bring 21 = .ok (.sipush 500, 3) := by decide +kernel
theorem dX3_bring_24 : decode cX3_bring 24 = .ok (.invokestatic 26, 3) := by decide +kernel
theorem dX3_bring_27 : decode cX3_bring 27 = .ok (.ifCond .ne 13, 3) := by decide +kernel
theorem dX3_bring_30 : decode cX3_bring 30 = .ok (.new 37, 3) := by decide +kernel
theorem dX3_bring_33 : decode cX3_bring 33 = .ok (.dup, 1) := by decide +kernel
theorem dX3_bring_34 : decode cX3_bring 34 = .ok (.ldc 39, 2) := by decide +kernel
theorem dX3_bring_36 : decode cX3_bring 36 = .ok (.invokespecial 41, 3) := by decide +kernel
theorem dX3_bring_39 : decode cX3_bring 39 = .ok (.athrow, 1) := by decide +kernel
theorem dX3_bring_40 : decode cX3_bring 40 = .ok (.iload_n 1, 1) := by decide +kernel
theorem dX3_bring_41 : decode cX3_bring 41 = .ok (.ifCond .ne 33, 3) := by decide +kernel
theorem dX3_bring_44 : decode cX3_bring 44 = .ok (.aload_n 0, 1) := by decide +kernel
theorem dX3_bring_45 : decode cX3_bring 45 = .ok (.getfield 19, 3) := by decide +kernel
theorem dX3_bring_48 : decode cX3_bring 48 = .ok (.sipush 500, 3) := by decide +kernel
theorem dX3_bring_51 : decode cX3_bring 51 = .ok (.aload_n 0, 1) := by decide +kernel
theorem dX3_bring_52 : decode cX3_bring 52 = .ok (.getfield 19, 3) := by decide +kernel
theorem dX3_bring_55 : decode cX3_bring 55 = .ok (.getfield 42, 3) := by decide +kernel
theorem dX3_bring_58 : decode cX3_bring 58 = .ok (.iload_n 2, 1) := by decide +kernel
theorem dX3_bring_59 : decode cX3_bring 59 = .ok (.iadd, 1) := by decide +kernel
theorem dX3_bring_60 : decode cX3_bring 60 = .ok (.invokestatic 46, 3) := by decide +kernel
theorem dX3_bring_63 : decode cX3_bring 63 = .ok (.putfield 42, 3) := by decide +kernel
theorem dX3_bring_66 : decode cX3_bring 66 = .ok (.aload_n 0, 1) := by decide +kernel
theorem dX3_bring_67 : decode cX3_bring 67 = .ok (.getfield 19, 3) := by decide +kernel
theorem dX3_bring_70 : decode cX3_bring 70 = .ok (.getfield 42, 3) := by decide +kernel
theorem dX3_bring_73 : decode cX3_bring 73 = .ok (.ireturn, 1) := by decide +kernel
theorem dX3_bring_74 : decode cX3_bring 74 = .ok (.aload_n 0, 1) := by decide +kernel
theorem dX3_bring_75 : decode cX3_bring 75 = .ok (.getfield 19, 3) := by decide +kernel
theorem dX3_bring_78 : decode cX3_bring 78 = .ok (.bipush 99, 2) := by decide +kernel
theorem dX3_bring_80 : decode cX3_bring 80 = .ok (.aload_n 0, 1) := by decide +kernel
theorem dX3_bring_81 : decode cX3_bring 81 = .ok (.getfield 19, 3) := by decide +kernel
theorem dX3_bring_84 : decode cX3_bring 84 = .ok (.getfield 52, 3) := by decide +kernel
theorem dX3_bring_87 : decode cX3_bring 87 = .ok (.iload_n 2, 1) := by decide +kernel
theorem dX3_bring_88 : decode cX3_bring 88 = .ok (.iadd, 1) := by decide +kernel
theorem dX3_bring_89 : decode cX3_bring 89 = .ok (.invokestatic 46, 3) := by decide +kernel
theorem dX3_bring_92 : decode cX3_bring 92 = .ok (.putfield 52, 3) := by decide +kernel
theorem dX3_bring_95 : decode cX3_bring 95 = .ok (.aload_n 0, 1) := by decide +kernel
theorem dX3_bring_96 : decode cX3_bring 96 = .ok (.getfield 19, 3) := by decide +kernel
theorem dX3_bring_99 : decode cX3_bring 99 = .ok (.getfield 52, 3) := by decide +kernel
theorem dX3_bring_102 : decode cX3_bring 102 = .ok (.ireturn, 1) := by decide +kernel
theorem dX3_setRain_0 : decode cX3_setRain 0 = .ok (.iload_n 1, 1) := by decide +kernel
theorem dX3_setRain_1 : decode cX3_setRain 1 = .ok (.iconst 0, 1) := by decide +kernel
theorem dX3_setRain_2 : decode cX3_setRain 2 = .ok (.iconst 5, 1) := by decide +kernel
theorem dX3_setRain_3 : decode cX3_setRain 3 = .ok (.invokestatic 26, 3) := by decide +kernel
theorem dX3_setRain_6 : decode cX3_setRain 6 = .ok (.ifCond .ne 13, 3) := by decide +kernel
theorem dX3_setRain_9 : decode cX3_setRain 9 = .ok (.new 30, 3) := by decide +kernel
theorem dX3_setRain_12 : decode cX3_setRain 12 = .ok (.dup, 1) := by decide +kernel
theorem dX3_setRain_13 : decode cX3_setRain 13 = .ok (.ldc 55, 2) := by decide +kernel
theorem dX3_setRain_15 : decode cX3_setRain 15 = .ok (.invokespecial 34, 3) := by decide +kernel
theorem dX3_setRain_18 : decode cX3_setRain 18 = .ok (.athrow, 1) := by decide +kernel
theorem dX3_setRain_19 : decode cX3_setRain 19 = .ok (.iload_n 2, 1) := by decide +kernel
theorem dX3_setRain_20 : decode cX3_setRain 20 = .ok (.iconst 0, 1) := by decide +kernel
theorem dX3_setRain_21 : decode cX3_setRain 21 = .ok (.bipush 9, 2) := by decide +kernel
theorem dX3_setRain_23 : decode cX3_setRain 23 = .ok (.invokestatic 26, 3) := by decide +kernel
theorem dX3_setRain_26 : decode cX3_setRain 26 = .ok (.ifCond .ne 13, 3) := by decide +kernel
theorem dX3_setRain_29 : decode cX3_setRain 29 = .ok (.new 37, 3) := by decide +kernel
theorem dX3_setRain_32 : decode cX3_setRain 32 = .ok (.dup, 1) := by decide +kernel
theorem dX3_setRain_33 : decode cX3_setRain 33 = .ok (.ldc 57, 2) := by decide +kernel
theorem dX3_setRain_35 : decode cX3_setRain 35 = .ok (.invokespecial 41, 3) := by decide +kernel
theorem dX3_setRain_38 : decode cX3_setRain 38 = .ok (.athrow, 1) := by decide +kernel
theorem dX3_setRain_39 : decode cX3_setRain 39 = .ok (.aload_n 0, 1) := by decide +kernel
theorem dX3_setRain_40 : decode cX3_setRain 40 = .ok (.getfield 9, 3) := by decide +kernel
theorem dX3_setRain_43 : decode cX3_setRain 43 = .ok (.iload_n 1, 1) := by decide +kernel
theorem dX3_setRain_44 : decode cX3_setRain 44 = .ok (.iaload, 1) := by decide +kernel
theorem dX3_setRain_45 : decode cX3_setRain 45 = .ok (.istore_n 3, 1) := by decide +kernel
theorem dX3_setRain_46 : decode cX3_setRain 46 = .ok (.aload_n 0, 1) := by decide +kernel
theorem dX3_setRain_47 : decode cX3_setRain 47 = .ok (.getfield 9, 3) := by decide +kernel
theorem dX3_setRain_50 : decode cX3_setRain 50 = .ok (.iload_n 1, 1) := by decide +kernel
theorem dX3_setRain_51 : decode cX3_setRain 51 = .ok (.iload_n 2, 1) := by decide +kernel
theorem dX3_setRain_52 : decode cX3_setRain 52 = .ok (.iastore, 1) := by decide +kernel
theorem dX3_setRain_53 : decode cX3_setRain 53 = .ok (.iload_n 3, 1) := by decide +kernel
theorem dX3_setRain_54 : decode cX3_setRain 54 = .ok (.ireturn, 1) := by decide +kernel
theorem dX3_setShip_0 : decode cX3_setShip 0 = .ok (.iload_n 1, 1) := by decide +kernel
theorem dX3_setShip_1 : decode cX3_setShip 1 = .ok (.iconst 0, 1) := by decide +kernel
theorem dX3_setShip_2 : decode cX3_setShip 2 = .ok (.bipush 6, 2) := by decide +kernel
theorem dX3_setShip_4 : decode cX3_setShip 4 = .ok (.invokestatic 26, 3) := by decide +kernel
theorem dX3_setShip_7 : decode cX3_setShip 7 = .ok (.ifCond .ne 13, 3) := by decide +kernel
theorem dX3_setShip_10 : decode cX3_setShip 10 = .ok (.new 30, 3) := by decide +kernel
theorem dX3_setShip_13 : decode cX3_setShip 13 = .ok (.dup, 1) := by decide +kernel
theorem dX3_setShip_14 : decode cX3_setShip 14 = .ok (.ldc 59, 2) := by decide +kernel
theorem dX3_setShip_16 : decode cX3_setShip 16 = .ok (.invokespecial 34, 3) := by decide +kernel
theorem dX3_setShip_19 : decode cX3_setShip 19 = .ok (.athrow, 1) := by decide +kernel
theorem dX3_setShip_20 : decode cX3_setShip 20 = .ok (.iload_n 2, 1) := by decide +kernel
theorem dX3_setShip_21 : decode cX3_setShip 21 = .ok (.iconst 0, 1) := by decide +kernel
theorem dX3_setShip_22 : decode cX3_setShip 22 = .ok (.bipush 60, 2) := by decide +kernel
theorem dX3_setShip_24 : decode cX3_setShip 24 = .ok (.invokestatic 26, 3) := by decide +kernel
theorem dX3_setShip_27 : decode cX3_setShip 27 = .ok (.ifCond .ne 13, 3) := by decide +kernel
theorem dX3_setShip_30 : decode cX3_setShip 30 = .ok (.new 37, 3) := by decide +kernel
theorem dX3_setShip_33 : decode cX3_setShip 33 = .ok (.dup, 1) := by decide +kernel
theorem dX3_setShip_34 : decode cX3_setShip 34 = .ok (.ldc 61, 2) := by decide +kernel
theorem dX3_setShip_36 : decode cX3_setShip 36 = .ok (.invokespecial 41, 3) := by decide +kernel
theorem dX3_setShip_39 : decode cX3_setShip 39 = .ok (.athrow, 1) := by decide +kernel
theorem dX3_setShip_40 : decode cX3_setShip 40 = .ok (.aload_n 0, 1) := by decide +kernel
theorem dX3_setShip_41 : decode cX3_setShip 41 = .ok (.getfield 13, 3) := by decide +kernel
theorem dX3_setShip_44 : decode cX3_setShip 44 = .ok (.iload_n 1, 1) := by decide +kernel
theorem dX3_setShip_45 : decode cX3_setShip 45 = .ok (.iaload, 1) := by decide +kernel
theorem dX3_setShip_46 : decode cX3_setShip 46 = .ok (.istore_n 3, 1) := by decide +kernel
theorem dX3_setShip_47 : decode cX3_setShip 47 = .ok (.aload_n 0, 1) := by decide +kernel
theorem dX3_setShip_48 : decode cX3_setShip 48 = .ok (.getfield 13, 3) := by decide +kernel
theorem dX3_setShip_51 : decode cX3_setShip 51 = .ok (.iload_n 1, 1) := by decide +kernel
theorem dX3_setShip_52 : decode cX3_setShip 52 = .ok (.iload_n 2, 1) := by decide +kernel
theorem dX3_setShip_53 : decode cX3_setShip 53 = .ok (.iastore, 1) := by decide +kernel
theorem dX3_setShip_54 : decode cX3_setShip 54 = .ok (.iload_n 3, 1) := by decide +kernel
theorem dX3_setShip_55 : decode cX3_setShip 55 = .ok (.ireturn, 1) := by decide +kernel
theorem dX3_pile_0 : decode cX3_pile 0 = .ok (.iload_n 1, 1) := by decide +kernel
theorem dX3_pile_1 : decode cX3_pile 1 = .ok (.iconst 1, 1) := by decide +kernel
theorem dX3_pile_2 : decode cX3_pile 2 = .ok (.sipush 200, 3) := by decide +kernel
theorem dX3_pile_5 : decode cX3_pile 5 = .ok (.invokestatic 26, 3) := by decide +kernel
theorem dX3_pile_8 : decode cX3_pile 8 = .ok (.ifCond .ne 13, 3) := by decide +kernel
theorem dX3_pile_11 : decode cX3_pile 11 = .ok (.new 37, 3) := by decide +kernel
theorem dX3_pile_14 : decode cX3_pile 14 = .ok (.dup, 1) := by decide +kernel
theorem dX3_pile_15 : decode cX3_pile 15 = .ok (.ldc 63, 2) := by decide +kernel
theorem dX3_pile_17 : decode cX3_pile 17 = .ok (.invokespecial 41, 3) := by decide +kernel
theorem dX3_pile_20 : decode cX3_pile 20 = .ok (.athrow, 1) := by decide +kernel
theorem dX3_pile_21 : decode cX3_pile 21 = .ok (.aload_n 0, 1) := by decide +kernel
theorem dX3_pile_22 : decode cX3_pile 22 = .ok (.getfield 19, 3) := by decide +kernel
theorem dX3_pile_25 : decode cX3_pile 25 = .ok (.getfield 65, 3) := by decide +kernel
theorem dX3_pile_28 : decode cX3_pile 28 = .ok (.invokevirtual 69, 3) := by decide +kernel
theorem dX3_pile_31 : decode cX3_pile 31 = .ok (.ifCond .eq 13, 3) := by decide +kernel
theorem dX3_pile_34 : decode cX3_pile 34 = .ok (.new 75, 3) := by decide +kernel
theorem dX3_pile_37 : decode cX3_pile 37 = .ok (.dup, 1) := by decide +kernel
theorem dX3_pile_38 : decode cX3_pile 38 = .ok (.ldc 77, 2) := by decide +kernel
theorem dX3_pile_40 : decode cX3_pile 40 = .ok (.invokespecial 79, 3) := by decide +kernel
theorem dX3_pile_43 : decode cX3_pile 43 = .ok (.athrow, 1) := by decide +kernel
theorem dX3_pile_44 : decode cX3_pile 44 = .ok (.aload_n 0, 1) := by decide +kernel
theorem dX3_pile_45 : decode cX3_pile 45 = .ok (.getfield 19, 3) := by decide +kernel
theorem dX3_pile_48 : decode cX3_pile 48 = .ok (.getfield 65, 3) := by decide +kernel
theorem dX3_pile_51 : decode cX3_pile 51 = .ok (.iload_n 1, 1) := by decide +kernel
theorem dX3_pile_52 : decode cX3_pile 52 = .ok (.invokevirtual 80, 3) := by decide +kernel
theorem dX3_pile_55 : decode cX3_pile 55 = .ok (.ireturn, 1) := by decide +kernel
theorem dX3_light_0 : decode cX3_light 0 = .ok (.aload_n 0, 1) := by decide +kernel
theorem dX3_light_1 : decode cX3_light 1 = .ok (.getfield 19, 3) := by decide +kernel
theorem dX3_light_4 : decode cX3_light 4 = .ok (.getfield 65, 3) := by decide +kernel
theorem dX3_light_7 : decode cX3_light 7 = .ok (.astore_n 3, 1) := by decide +kernel
theorem dX3_light_8 : decode cX3_light 8 = .ok (.aload_n 3, 1) := by decide +kernel
theorem dX3_light_9 : decode cX3_light 9 = .ok (.iload_n 1, 1) := by decide +kernel
theorem dX3_light_10 : decode cX3_light 10 = .ok (.invokevirtual 84, 3) := by decide +kernel
theorem dX3_light_13 : decode cX3_light 13 = .ok (.ifCond .ne 13, 3) := by decide +kernel
theorem dX3_light_16 : decode cX3_light 16 = .ok (.new 30, 3) := by decide +kernel
theorem dX3_light_19 : decode cX3_light 19 = .ok (.dup, 1) := by decide +kernel
theorem dX3_light_20 : decode cX3_light 20 = .ok (.ldc 88, 2) := by decide +kernel
theorem dX3_light_22 : decode cX3_light 22 = .ok (.invokespecial 34, 3) := by decide +kernel
theorem dX3_light_25 : decode cX3_light 25 = .ok (.athrow, 1) := by decide +kernel
theorem dX3_light_26 : decode cX3_light 26 = .ok (.iload_n 2, 1) := by decide +kernel
theorem dX3_light_27 : decode cX3_light 27 = .ok (.iconst 1, 1) := by decide +kernel
theorem dX3_light_28 : decode cX3_light 28 = .ok (.bipush 60, 2) := by decide +kernel
theorem dX3_light_30 : decode cX3_light 30 = .ok (.invokestatic 26, 3) := by decide +kernel
theorem dX3_light_33 : decode cX3_light 33 = .ok (.ifCond .ne 13, 3) := by decide +kernel
theorem dX3_light_36 : decode cX3_light 36 = .ok (.new 37, 3) := by decide +kernel
theorem dX3_light_39 : decode cX3_light 39 = .ok (.dup, 1) := by decide +kernel
theorem dX3_light_40 : decode cX3_light 40 = .ok (.ldc 90, 2) := by decide +kernel
theorem dX3_light_42 : decode cX3_light 42 = .ok (.invokespecial 41, 3) := by decide +kernel
theorem dX3_light_45 : decode cX3_light 45 = .ok (.athrow, 1) := by decide +kernel
theorem dX3_light_46 : decode cX3_light 46 = .ok (.aload_n 0, 1) := by decide +kernel
theorem dX3_light_47 : decode cX3_light 47 = .ok (.getfield 19, 3) := by decide +kernel
theorem dX3_light_50 : decode cX3_light 50 = .ok (.getfield 42, 3) := by decide +kernel
theorem dX3_light_53 : decode cX3_light 53 = .ok (.iload_n 2, 1) := by decide +kernel
theorem dX3_light_54 : decode cX3_light 54 = .ok (.if_icmp .lt 12, 3) := by decide +kernel
theorem dX3_light_57 : decode cX3_light 57 = .ok (.aload_n 3, 1) := by decide +kernel
theorem dX3_light_58 : decode cX3_light 58 = .ok (.getfield 92, 3) := by decide +kernel
theorem dX3_light_61 : decode cX3_light 61 = .ok (.iload_n 1, 1) := by decide +kernel
theorem dX3_light_62 : decode cX3_light 62 = .ok (.iaload, 1) := by decide +kernel
theorem dX3_light_63 : decode cX3_light 63 = .ok (.ifCond .ne 13, 3) := by decide +kernel
theorem dX3_light_66 : decode cX3_light 66 = .ok (.new 75, 3) := by decide +kernel
theorem dX3_light_69 : decode cX3_light 69 = .ok (.dup, 1) := by decide +kernel
theorem dX3_light_70 : decode cX3_light 70 = .ok (.ldc 95, 2) := by decide +kernel
theorem dX3_light_72 : decode cX3_light 72 = .ok (.invokespecial 79, 3) := by decide +kernel
theorem dX3_light_75 : decode cX3_light 75 = .ok (.athrow, 1) := by decide +kernel
theorem dX3_light_76 : decode cX3_light 76 = .ok (.aload_n 0, 1) := by decide +kernel
theorem dX3_light_77 : decode cX3_light 77 = .ok (.getfield 19, 3) := by decide +kernel
theorem dX3_light_80 : decode cX3_light 80 = .ok (.dup, 1) := by decide +kernel
theorem dX3_light_81 : decode cX3_light 81 = .ok (.getfield 42, 3) := by decide +kernel
theorem dX3_light_84 : decode cX3_light 84 = .ok (.iload_n 2, 1) := by decide +kernel
theorem dX3_light_85 : decode cX3_light 85 = .ok (.isub, 1) := by decide +kernel
theorem dX3_light_86 : decode cX3_light 86 = .ok (.putfield 42, 3) := by decide +kernel
theorem dX3_light_89 : decode cX3_light 89 = .ok (.aload_n 3, 1) := by decide +kernel
theorem dX3_light_90 : decode cX3_light 90 = .ok (.getfield 97, 3) := by decide +kernel
theorem dX3_light_93 : decode cX3_light 93 = .ok (.iload_n 1, 1) := by decide +kernel
theorem dX3_light_94 : decode cX3_light 94 = .ok (.bipush 60, 2) := by decide +kernel
theorem dX3_light_96 : decode cX3_light 96 = .ok (.aload_n 3, 1) := by decide +kernel
theorem dX3_light_97 : decode cX3_light 97 = .ok (.getfield 97, 3) := by decide +kernel
theorem dX3_light_100 : decode cX3_light 100 = .ok (.iload_n 1, 1) := by decide +kernel
theorem dX3_light_101 : decode cX3_light 101 = .ok (.iaload, 1) := by decide +kernel
theorem dX3_light_102 : decode cX3_light 102 = .ok (.iload_n 2, 1) := by decide +kernel
theorem dX3_light_103 : decode cX3_light 103 = .ok (.iadd, 1) := by decide +kernel
theorem dX3_light_104 : decode cX3_light 104 = .ok (.invokestatic 46, 3) := by decide +kernel
theorem dX3_light_107 : decode cX3_light 107 = .ok (.iastore, 1) := by decide +kernel
theorem dX3_light_108 : decode cX3_light 108 = .ok (.aload_n 3, 1) := by decide +kernel
theorem dX3_light_109 : decode cX3_light 109 = .ok (.getfield 99, 3) := by decide +kernel
theorem dX3_light_112 : decode cX3_light 112 = .ok (.iload_n 1, 1) := by decide +kernel
theorem dX3_light_113 : decode cX3_light 113 = .ok (.iconst 1, 1) := by decide +kernel
theorem dX3_light_114 : decode cX3_light 114 = .ok (.bastore, 1) := by decide +kernel
theorem dX3_light_115 : decode cX3_light 115 = .ok (.aload_n 3, 1) := by decide +kernel
theorem dX3_light_116 : decode cX3_light 116 = .ok (.getfield 97, 3) := by decide +kernel
theorem dX3_light_119 : decode cX3_light 119 = .ok (.iload_n 1, 1) := by decide +kernel
theorem dX3_light_120 : decode cX3_light 120 = .ok (.iaload, 1) := by decide +kernel
theorem dX3_light_121 : decode cX3_light 121 = .ok (.ireturn, 1) := by decide +kernel
theorem dX3_dig_0 : decode cX3_dig 0 = .ok (.iload_n 1, 1) := by decide +kernel
theorem dX3_dig_1 : decode cX3_dig 1 = .ok (.iconst 0, 1) := by decide +kernel
theorem dX3_dig_2 : decode cX3_dig 2 = .ok (.sipush 400, 3) := by decide +kernel
theorem dX3_dig_5 : decode cX3_dig 5 = .ok (.invokestatic 26, 3) := by decide +kernel
theorem dX3_dig_8 : decode cX3_dig 8 = .ok (.ifCond .ne 13, 3) := by decide +kernel
theorem dX3_dig_11 : decode cX3_dig 11 = .ok (.new 37, 3) := by decide +kernel
theorem dX3_dig_14 : decode cX3_dig 14 = .ok (.dup, 1) := by decide +kernel
theorem dX3_dig_15 : decode cX3_dig 15 = .ok (.ldc 103, 2) := by decide +kernel
theorem dX3_dig_17 : decode cX3_dig 17 = .ok (.invokespecial 41, 3) := by decide +kernel
theorem dX3_dig_20 : decode cX3_dig 20 = .ok (.athrow, 1) := by decide +kernel
theorem dX3_dig_21 : decode cX3_dig 21 = .ok (.aload_n 0, 1) := by decide +kernel
theorem dX3_dig_22 : decode cX3_dig 22 = .ok (.getfield 19, 3) := by decide +kernel
theorem dX3_dig_25 : decode cX3_dig 25 = .ok (.getfield 105, 3) := by decide +kernel
theorem dX3_dig_28 : decode cX3_dig 28 = .ok (.invokevirtual 109, 3) := by decide +kernel
theorem dX3_dig_31 : decode cX3_dig 31 = .ok (.ifCond .eq 13, 3) := by decide +kernel
theorem dX3_dig_34 : decode cX3_dig 34 = .ok (.new 75, 3) := by decide +kernel
theorem dX3_dig_37 : decode cX3_dig 37 = .ok (.dup, 1) := by decide +kernel
theorem dX3_dig_38 : decode cX3_dig 38 = .ok (.ldc 112, 2) := by decide +kernel
theorem dX3_dig_40 : decode cX3_dig 40 = .ok (.invokespecial 79, 3) := by decide +kernel
theorem dX3_dig_43 : decode cX3_dig 43 = .ok (.athrow, 1) := by decide +kernel
theorem dX3_dig_44 : decode cX3_dig 44 = .ok (.aload_n 0, 1) := by decide +kernel
theorem dX3_dig_45 : decode cX3_dig 45 = .ok (.getfield 19, 3) := by decide +kernel
theorem dX3_dig_48 : decode cX3_dig 48 = .ok (.getfield 105, 3) := by decide +kernel
theorem dX3_dig_51 : decode cX3_dig 51 = .ok (.iload_n 1, 1) := by decide +kernel
theorem dX3_dig_52 : decode cX3_dig 52 = .ok (.invokevirtual 114, 3) := by decide +kernel
theorem dX3_dig_55 : decode cX3_dig 55 = .ok (.ireturn, 1) := by decide +kernel
theorem dX3_steep_0 : decode cX3_steep 0 = .ok (.aload_n 0, 1) := by decide +kernel
theorem dX3_steep_1 : decode cX3_steep 1 = .ok (.getfield 19, 3) := by decide +kernel
theorem dX3_steep_4 : decode cX3_steep 4 = .ok (.getfield 65, 3) := by decide +kernel
theorem dX3_steep_7 : decode cX3_steep 7 = .ok (.astore_n 3, 1) := by decide +kernel
theorem dX3_steep_8 : decode cX3_steep 8 = .ok (.aload_n 0, 1) := by decide +kernel
theorem dX3_steep_9 : decode cX3_steep 9 = .ok (.getfield 19, 3) := by decide +kernel
theorem dX3_steep_12 : decode cX3_steep 12 = .ok (.getfield 105, 3) := by decide +kernel
theorem dX3_steep_15 : decode cX3_steep 15 = .ok (.astore 4, 2) := by decide +kernel
theorem dX3_steep_17 : decode cX3_steep 17 = .ok (.aload_n 3, 1) := by decide +kernel
theorem dX3_steep_18 : decode cX3_steep 18 = .ok (.iload_n 1, 1) := by decide +kernel
theorem dX3_steep_19 : decode cX3_steep 19 = .ok (.invokevirtual 84, 3) := by decide +kernel
theorem dX3_steep_22 : decode cX3_steep 22 = .ok (.ifCond .eq 12, 3) := by decide +kernel
theorem dX3_steep_25 : decode cX3_steep 25 = .ok (.aload 4, 2) := by decide +kernel
theorem dX3_steep_27 : decode cX3_steep 27 = .ok (.iload_n 2, 1) := by decide +kernel
theorem dX3_steep_28 : decode cX3_steep 28 = .ok (.invokevirtual 115, 3) := by decide +kernel
theorem dX3_steep_31 : decode cX3_steep 31 = .ok (.ifCond .ne 13, 3) := by decide +kernel
theorem dX3_steep_34 : decode cX3_steep 34 = .ok (.new 30, 3) := by decide +kernel
theorem dX3_steep_37 : decode cX3_steep 37 = .ok (.dup, 1) := by decide +kernel
theorem dX3_steep_38 : decode cX3_steep 38 = .ok (.ldc 116, 2) := by decide +kernel
theorem dX3_steep_40 : decode cX3_steep 40 = .ok (.invokespecial 34, 3) := by decide +kernel
theorem dX3_steep_43 : decode cX3_steep 43 = .ok (.athrow, 1) := by decide +kernel
theorem dX3_steep_44 : decode cX3_steep 44 = .ok (.aload_n 3, 1) := by decide +kernel
theorem dX3_steep_45 : decode cX3_steep 45 = .ok (.getfield 118, 3) := by decide +kernel
theorem dX3_steep_48 : decode cX3_steep 48 = .ok (.iload_n 1, 1) := by decide +kernel
theorem dX3_steep_49 : decode cX3_steep 49 = .ok (.iaload, 1) := by decide +kernel
theorem dX3_steep_50 : decode cX3_steep 50 = .ok (.ifCond .eq 22, 3) := by decide +kernel
theorem dX3_steep_53 : decode cX3_steep 53 = .ok (.aload_n 3, 1) := by decide +kernel
theorem dX3_steep_54 : decode cX3_steep 54 = .ok (.getfield 99, 3) := by decide +kernel
theorem dX3_steep_57 : decode cX3_steep 57 = .ok (.iload_n 1, 1) := by decide +kernel
theorem dX3_steep_58 : decode cX3_steep 58 = .ok (.baload, 1) := by decide +kernel
theorem dX3_steep_59 : decode cX3_steep 59 = .ok (.ifCond .ne 13, 3) := by decide +kernel
theorem dX3_steep_62 : decode cX3_steep 62 = .ok (.aload 4, 2) := by decide +kernel
theorem dX3_steep_64 : decode cX3_steep 64 = .ok (.getfield 121, 3) := by decide +kernel
theorem dX3_steep_67 : decode cX3_steep 67 = .ok (.iload_n 2, 1) := by decide +kernel
theorem dX3_steep_68 : decode cX3_steep 68 = .ok (.iaload, 1) := by decide +kernel
theorem dX3_steep_69 : decode cX3_steep 69 = .ok (.ifCond .ne 13, 3) := by decide +kernel
theorem dX3_steep_72 : decode cX3_steep 72 = .ok (.new 75, 3) := by decide +kernel
theorem dX3_steep_75 : decode cX3_steep 75 = .ok (.dup, 1) := by decide +kernel
theorem dX3_steep_76 : decode cX3_steep 76 = .ok (.ldc 124, 2) := by decide +kernel
theorem dX3_steep_78 : decode cX3_steep 78 = .ok (.invokespecial 79, 3) := by decide +kernel
theorem dX3_steep_81 : decode cX3_steep 81 = .ok (.athrow, 1) := by decide +kernel
theorem dX3_steep_82 : decode cX3_steep 82 = .ok (.aload 4, 2) := by decide +kernel
theorem dX3_steep_84 : decode cX3_steep 84 = .ok (.getfield 126, 3) := by decide +kernel
theorem dX3_steep_87 : decode cX3_steep 87 = .ok (.iload_n 2, 1) := by decide +kernel
theorem dX3_steep_88 : decode cX3_steep 88 = .ok (.dup2, 1) := by decide +kernel
theorem dX3_steep_89 : decode cX3_steep 89 = .ok (.iaload, 1) := by decide +kernel
theorem dX3_steep_90 : decode cX3_steep 90 = .ok (.aload_n 3, 1) := by decide +kernel
theorem dX3_steep_91 : decode cX3_steep 91 = .ok (.getfield 118, 3) := by decide +kernel
theorem dX3_steep_94 : decode cX3_steep 94 = .ok (.iload_n 1, 1) := by decide +kernel
theorem dX3_steep_95 : decode cX3_steep 95 = .ok (.iaload, 1) := by decide +kernel
theorem dX3_steep_96 : decode cX3_steep 96 = .ok (.iconst 2, 1) := by decide +kernel
theorem dX3_steep_97 : decode cX3_steep 97 = .ok (.idiv, 1) := by decide +kernel
theorem dX3_steep_98 : decode cX3_steep 98 = .ok (.iadd, 1) := by decide +kernel
theorem dX3_steep_99 : decode cX3_steep 99 = .ok (.iastore, 1) := by decide +kernel
theorem dX3_steep_100 : decode cX3_steep 100 = .ok (.aload_n 3, 1) := by decide +kernel
theorem dX3_steep_101 : decode cX3_steep 101 = .ok (.getfield 118, 3) := by decide +kernel
theorem dX3_steep_104 : decode cX3_steep 104 = .ok (.iload_n 1, 1) := by decide +kernel
theorem dX3_steep_105 : decode cX3_steep 105 = .ok (.iconst 0, 1) := by decide +kernel
theorem dX3_steep_106 : decode cX3_steep 106 = .ok (.iastore, 1) := by decide +kernel
theorem dX3_steep_107 : decode cX3_steep 107 = .ok (.aload 4, 2) := by decide +kernel
theorem dX3_steep_109 : decode cX3_steep 109 = .ok (.getfield 126, 3) := by decide +kernel
theorem dX3_steep_112 : decode cX3_steep 112 = .ok (.iload_n 2, 1) := by decide +kernel
theorem dX3_steep_113 : decode cX3_steep 113 = .ok (.iaload, 1) := by decide +kernel
theorem dX3_steep_114 : decode cX3_steep 114 = .ok (.ireturn, 1) := by decide +kernel
theorem dX3_pan_0 : decode cX3_pan 0 = .ok (.aload_n 0, 1) := by decide +kernel
theorem dX3_pan_1 : decode cX3_pan 1 = .ok (.getfield 19, 3) := by decide +kernel
theorem dX3_pan_4 : decode cX3_pan 4 = .ok (.getfield 129, 3) := by decide +kernel
theorem dX3_pan_7 : decode cX3_pan 7 = .ok (.invokevirtual 109, 3) := by decide +kernel
theorem dX3_pan_10 : decode cX3_pan 10 = .ok (.ifCond .eq 13, 3) := by decide +kernel
theorem dX3_pan_13 : decode cX3_pan 13 = .ok (.new 75, 3) := by decide +kernel
theorem dX3_pan_16 : decode cX3_pan 16 = .ok (.dup, 1) := by decide +kernel
theorem dX3_pan_17 : decode cX3_pan 17 = .ok (.ldc 132, 2) := by decide +kernel
theorem dX3_pan_19 : decode cX3_pan 19 = .ok (.invokespecial 79, 3) := by decide +kernel
theorem dX3_pan_22 : decode cX3_pan 22 = .ok (.athrow, 1) := by decide +kernel
theorem dX3_pan_23 : decode cX3_pan 23 = .ok (.aload_n 0, 1) := by decide +kernel
theorem dX3_pan_24 : decode cX3_pan 24 = .ok (.getfield 19, 3) := by decide +kernel
theorem dX3_pan_27 : decode cX3_pan 27 = .ok (.getfield 129, 3) := by decide +kernel
theorem dX3_pan_30 : decode cX3_pan 30 = .ok (.iconst 0, 1) := by decide +kernel
theorem dX3_pan_31 : decode cX3_pan 31 = .ok (.invokevirtual 114, 3) := by decide +kernel
theorem dX3_pan_34 : decode cX3_pan 34 = .ok (.ireturn, 1) := by decide +kernel
theorem dX3_draw_0 : decode cX3_draw 0 = .ok (.aload_n 0, 1) := by decide +kernel
theorem dX3_draw_1 : decode cX3_draw 1 = .ok (.getfield 19, 3) := by decide +kernel
theorem dX3_draw_4 : decode cX3_draw 4 = .ok (.getfield 105, 3) := by decide +kernel
theorem dX3_draw_7 : decode cX3_draw 7 = .ok (.astore 4, 2) := by decide +kernel
theorem dX3_draw_9 : decode cX3_draw 9 = .ok (.aload_n 0, 1) := by decide +kernel
theorem dX3_draw_10 : decode cX3_draw 10 = .ok (.getfield 19, 3) := by decide +kernel
theorem dX3_draw_13 : decode cX3_draw 13 = .ok (.getfield 129, 3) := by decide +kernel
theorem dX3_draw_16 : decode cX3_draw 16 = .ok (.astore 5, 2) := by decide +kernel
theorem dX3_draw_18 : decode cX3_draw 18 = .ok (.aload 4, 2) := by decide +kernel
theorem dX3_draw_20 : decode cX3_draw 20 = .ok (.iload_n 1, 1) := by decide +kernel
theorem dX3_draw_21 : decode cX3_draw 21 = .ok (.invokevirtual 115, 3) := by decide +kernel
theorem dX3_draw_24 : decode cX3_draw 24 = .ok (.ifCond .eq 12, 3) := by decide +kernel
theorem dX3_draw_27 : decode cX3_draw 27 = .ok (.aload 5, 2) := by decide +kernel
theorem dX3_draw_29 : decode cX3_draw 29 = .ok (.iload_n 2, 1) := by decide +kernel
theorem dX3_draw_30 : decode cX3_draw 30 = .ok (.invokevirtual 115, 3) := by decide +kernel
theorem dX3_draw_33 : decode cX3_draw 33 = .ok (.ifCond .ne 13, 3) := by decide +kernel
theorem dX3_draw_36 : decode cX3_draw 36 = .ok (.new 30, 3) := by decide +kernel
theorem dX3_draw_39 : decode cX3_draw 39 = .ok (.dup, 1) := by decide +kernel
theorem dX3_draw_40 : decode cX3_draw 40 = .ok (.ldc 134, 2) := by decide +kernel
theorem dX3_draw_42 : decode cX3_draw 42 = .ok (.invokespecial 34, 3) := by decide +kernel
theorem dX3_draw_45 : decode cX3_draw 45 = .ok (.athrow, 1) := by decide +kernel
theorem dX3_draw_46 : decode cX3_draw 46 = .ok (.iload_n 3, 1) := by decide +kernel
theorem dX3_draw_47 : decode cX3_draw 47 = .ok (.iconst 1, 1) := by decide +kernel
theorem dX3_draw_48 : decode cX3_draw 48 = .ok (.sipush 150, 3) := by decide +kernel
theorem dX3_draw_51 : decode cX3_draw 51 = .ok (.invokestatic 26, 3) := by decide +kernel
theorem dX3_draw_54 : decode cX3_draw 54 = .ok (.ifCond .ne 13, 3) := by decide +kernel
theorem dX3_draw_57 : decode cX3_draw 57 = .ok (.new 37, 3) := by decide +kernel
theorem dX3_draw_60 : decode cX3_draw 60 = .ok (.dup, 1) := by decide +kernel
theorem dX3_draw_61 : decode cX3_draw 61 = .ok (.ldc 136, 2) := by decide +kernel
theorem dX3_draw_63 : decode cX3_draw 63 = .ok (.invokespecial 41, 3) := by decide +kernel
theorem dX3_draw_66 : decode cX3_draw 66 = .ok (.athrow, 1) := by decide +kernel
theorem dX3_draw_67 : decode cX3_draw 67 = .ok (.aload 4, 2) := by decide +kernel
theorem dX3_draw_69 : decode cX3_draw 69 = .ok (.getfield 121, 3) := by decide +kernel
theorem dX3_draw_72 : decode cX3_draw 72 = .ok (.iload_n 1, 1) := by decide +kernel
theorem dX3_draw_73 : decode cX3_draw 73 = .ok (.iaload, 1) := by decide +kernel
theorem dX3_draw_74 : decode cX3_draw 74 = .ok (.istore 6, 2) := by decide +kernel
theorem dX3_draw_76 : decode cX3_draw 76 = .ok (.iload 6, 2) := by decide +kernel
theorem dX3_draw_78 : decode cX3_draw 78 = .ok (.iload_n 3, 1) := by decide +kernel
theorem dX3_draw_79 : decode cX3_draw 79 = .ok (.if_icmp .lt 18, 3) := by decide +kernel
theorem dX3_draw_82 : decode cX3_draw 82 = .ok (.aload 5, 2) := by decide +kernel
theorem dX3_draw_84 : decode cX3_draw 84 = .ok (.getfield 121, 3) := by decide +kernel
theorem dX3_draw_87 : decode cX3_draw 87 = .ok (.iload_n 2, 1) := by decide +kernel
theorem dX3_draw_88 : decode cX3_draw 88 = .ok (.iaload, 1) := by decide +kernel
theorem dX3_draw_89 : decode cX3_draw 89 = .ok (.iload_n 3, 1) := by decide +kernel
theorem dX3_draw_90 : decode cX3_draw 90 = .ok (.iadd, 1) := by decide +kernel
theorem dX3_draw_91 : decode cX3_draw 91 = .ok (.sipush 150, 3) := by decide +kernel
theorem dX3_draw_94 : decode cX3_draw 94 = .ok (.if_icmp .le 13, 3) := by decide +kernel
theorem dX3_draw_97 : decode cX3_draw 97 = .ok (.new 75, 3) := by decide +kernel
theorem dX3_draw_100 : decode cX3_draw 100 = .ok (.dup, 1) := by decide +kernel
theorem dX3_draw_101 : decode cX3_draw 101 = .ok (.ldc 138, 2) := by decide +kernel
theorem dX3_draw_103 : decode cX3_draw 103 = .ok (.invokespecial 79, 3) := by decide +kernel
theorem dX3_draw_106 : decode cX3_draw 106 = .ok (.athrow, 1) := by decide +kernel
theorem dX3_draw_107 : decode cX3_draw 107 = .ok (.aload 4, 2) := by decide +kernel
theorem dX3_draw_109 : decode cX3_draw 109 = .ok (.getfield 126, 3) := by decide +kernel
theorem dX3_draw_112 : decode cX3_draw 112 = .ok (.iload_n 1, 1) := by decide +kernel
theorem dX3_draw_113 : decode cX3_draw 113 = .ok (.iaload, 1) := by decide +kernel
theorem dX3_draw_114 : decode cX3_draw 114 = .ok (.iload_n 3, 1) := by decide +kernel
theorem dX3_draw_115 : decode cX3_draw 115 = .ok (.imul, 1) := by decide +kernel
theorem dX3_draw_116 : decode cX3_draw 116 = .ok (.iload 6, 2) := by decide +kernel
theorem dX3_draw_118 : decode cX3_draw 118 = .ok (.idiv, 1) := by decide +kernel
theorem dX3_draw_119 : decode cX3_draw 119 = .ok (.istore 7, 2) := by decide +kernel
theorem dX3_draw_121 : decode cX3_draw 121 = .ok (.aload 4, 2) := by decide +kernel
theorem dX3_draw_123 : decode cX3_draw 123 = .ok (.getfield 121, 3) := by decide +kernel
theorem dX3_draw_126 : decode cX3_draw 126 = .ok (.iload_n 1, 1) := by decide +kernel
theorem dX3_draw_127 : decode cX3_draw 127 = .ok (.dup2, 1) := by decide +kernel
theorem dX3_draw_128 : decode cX3_draw 128 = .ok (.iaload, 1) := by decide +kernel
theorem dX3_draw_129 : decode cX3_draw 129 = .ok (.iload_n 3, 1) := by decide +kernel
theorem dX3_draw_130 : decode cX3_draw 130 = .ok (.isub, 1) := by decide +kernel
theorem dX3_draw_131 : decode cX3_draw 131 = .ok (.iastore, 1) := by decide +kernel
theorem dX3_draw_132 : decode cX3_draw 132 = .ok (.aload 4, 2) := by decide +kernel
theorem dX3_draw_134 : decode cX3_draw 134 = .ok (.getfield 126, 3) := by decide +kernel
theorem dX3_draw_137 : decode cX3_draw 137 = .ok (.iload_n 1, 1) := by decide +kernel
theorem dX3_draw_138 : decode cX3_draw 138 = .ok (.dup2, 1) := by decide +kernel
theorem dX3_draw_139 : decode cX3_draw 139 = .ok (.iaload, 1) := by decide +kernel
theorem dX3_draw_140 : decode cX3_draw 140 = .ok (.iload 7, 2) := by decide +kernel
theorem dX3_draw_142 : decode cX3_draw 142 = .ok (.isub, 1) := by decide +kernel
theorem dX3_draw_143 : decode cX3_draw 143 = .ok (.iastore, 1) := by decide +kernel
theorem dX3_draw_144 : decode cX3_draw 144 = .ok (.aload 5, 2) := by decide +kernel
theorem dX3_draw_146 : decode cX3_draw 146 = .ok (.getfield 121, 3) := by decide +kernel
theorem dX3_draw_149 : decode cX3_draw 149 = .ok (.iload_n 2, 1) := by decide +kernel
theorem dX3_draw_150 : decode cX3_draw 150 = .ok (.dup2, 1) := by decide +kernel
theorem dX3_draw_151 : decode cX3_draw 151 = .ok (.iaload, 1) := by decide +kernel
theorem dX3_draw_152 : decode cX3_draw 152 = .ok (.iload_n 3, 1) := by decide +kernel
theorem dX3_draw_153 : decode cX3_draw 153 = .ok (.iadd, 1) := by decide +kernel
theorem dX3_draw_154 : decode cX3_draw 154 = .ok (.iastore, 1) := by decide +kernel
theorem dX3_draw_155 : decode cX3_draw 155 = .ok (.aload 5, 2) := by decide +kernel
theorem dX3_draw_157 : decode cX3_draw 157 = .ok (.getfield 126, 3) := by decide +kernel
theorem dX3_draw_160 : decode cX3_draw 160 = .ok (.iload_n 2, 1) := by decide +kernel
theorem dX3_draw_161 : decode cX3_draw 161 = .ok (.dup2, 1) := by decide +kernel
theorem dX3_draw_162 : decode cX3_draw 162 = .ok (.iaload, 1) := by decide +kernel
theorem dX3_draw_163 : decode cX3_draw 163 = .ok (.iload 7, 2) := by decide +kernel
theorem dX3_draw_165 : decode cX3_draw 165 = .ok (.iadd, 1) := by decide +kernel
theorem dX3_draw_166 : decode cX3_draw 166 = .ok (.iastore, 1) := by decide +kernel
theorem dX3_draw_167 : decode cX3_draw 167 = .ok (.iload 7, 2) := by decide +kernel
theorem dX3_draw_169 : decode cX3_draw 169 = .ok (.ireturn, 1) := by decide +kernel
theorem dX3_boil_0 : decode cX3_boil 0 = .ok (.aload_n 0, 1) := by decide +kernel
theorem dX3_boil_1 : decode cX3_boil 1 = .ok (.getfield 19, 3) := by decide +kernel
theorem dX3_boil_4 : decode cX3_boil 4 = .ok (.getfield 129, 3) := by decide +kernel
theorem dX3_boil_7 : decode cX3_boil 7 = .ok (.iload_n 1, 1) := by decide +kernel
theorem dX3_boil_8 : decode cX3_boil 8 = .ok (.invokevirtual 115, 3) := by decide +kernel
theorem dX3_boil_11 : decode cX3_boil 11 = .ok (.ifCond .ne 13, 3) := by decide +kernel
theorem dX3_boil_14 : decode cX3_boil 14 = .ok (.new 30, 3) := by decide +kernel
theorem dX3_boil_17 : decode cX3_boil 17 = .ok (.dup, 1) := by decide +kernel
theorem dX3_boil_18 : decode cX3_boil 18 = .ok (.ldc 140, 2) := by decide +kernel
theorem dX3_boil_20 : decode cX3_boil 20 = .ok (.invokespecial 34, 3) := by decide +kernel
theorem dX3_boil_23 : decode cX3_boil 23 = .ok (.athrow, 1) := by decide +kernel
theorem dX3_boil_24 : decode cX3_boil 24 = .ok (.aload_n 0, 1) := by decide +kernel
theorem dX3_boil_25 : decode cX3_boil 25 = .ok (.getfield 19, 3) := by decide +kernel
theorem dX3_boil_28 : decode cX3_boil 28 = .ok (.getfield 129, 3) := by decide +kernel
theorem dX3_boil_31 : decode cX3_boil 31 = .ok (.getfield 142, 3) := by decide +kernel
theorem dX3_boil_34 : decode cX3_boil 34 = .ok (.iload_n 1, 1) := by decide +kernel
theorem dX3_boil_35 : decode cX3_boil 35 = .ok (.aload_n 0, 1) := by decide +kernel
theorem dX3_boil_36 : decode cX3_boil 36 = .ok (.getfield 19, 3) := by decide +kernel
theorem dX3_boil_39 : decode cX3_boil 39 = .ok (.getfield 129, 3) := by decide +kernel
theorem dX3_boil_42 : decode cX3_boil 42 = .ok (.getfield 142, 3) := by decide +kernel
theorem dX3_boil_45 : decode cX3_boil 45 = .ok (.iload_n 1, 1) := by decide +kernel
theorem dX3_boil_46 : decode cX3_boil 46 = .ok (.baload, 1) := by decide +kernel
theorem dX3_boil_47 : decode cX3_boil 47 = .ok (.ifCond .ne 7, 3) := by decide +kernel
theorem dX3_boil_50 : decode cX3_boil 50 = .ok (.iconst 1, 1) := by decide +kernel
theorem dX3_boil_51 : decode cX3_boil 51 = .ok (.goto 4, 3) := by decide +kernel
theorem dX3_boil_54 : decode cX3_boil 54 = .ok (.iconst 0, 1) := by decide +kernel
theorem dX3_boil_55 : decode cX3_boil 55 = .ok (.bastore, 1) := by decide +kernel
theorem dX3_boil_56 : decode cX3_boil 56 = .ok (.aload_n 0, 1) := by decide +kernel
theorem dX3_boil_57 : decode cX3_boil 57 = .ok (.getfield 19, 3) := by decide +kernel
theorem dX3_boil_60 : decode cX3_boil 60 = .ok (.getfield 129, 3) := by decide +kernel
theorem dX3_boil_63 : decode cX3_boil 63 = .ok (.getfield 142, 3) := by decide +kernel
theorem dX3_boil_66 : decode cX3_boil 66 = .ok (.iload_n 1, 1) := by decide +kernel
theorem dX3_boil_67 : decode cX3_boil 67 = .ok (.baload, 1) := by decide +kernel
theorem dX3_boil_68 : decode cX3_boil 68 = .ok (.ireturn, 1) := by decide +kernel
theorem dX3_pour_0 : decode cX3_pour 0 = .ok (.aload_n 0, 1) := by decide +kernel
theorem dX3_pour_1 : decode cX3_pour 1 = .ok (.getfield 19, 3) := by decide +kernel
theorem dX3_pour_4 : decode cX3_pour 4 = .ok (.getfield 129, 3) := by decide +kernel
theorem dX3_pour_7 : decode cX3_pour 7 = .ok (.iload_n 1, 1) := by decide +kernel
theorem dX3_pour_8 : decode cX3_pour 8 = .ok (.invokevirtual 115, 3) := by decide +kernel
theorem dX3_pour_11 : decode cX3_pour 11 = .ok (.ifCond .ne 13, 3) := by decide +kernel
theorem dX3_pour_14 : decode cX3_pour 14 = .ok (.new 30, 3) := by decide +kernel
theorem dX3_pour_17 : decode cX3_pour 17 = .ok (.dup, 1) := by decide +kernel
theorem dX3_pour_18 : decode cX3_pour 18 = .ok (.ldc 140, 2) := by decide +kernel
theorem dX3_pour_20 : decode cX3_pour 20 = .ok (.invokespecial 34, 3) := by decide +kernel
theorem dX3_pour_23 : decode cX3_pour 23 = .ok (.athrow, 1) := by decide +kernel
theorem dX3_pour_24 : decode cX3_pour 24 = .ok (.iload_n 2, 1) := by decide +kernel
theorem dX3_pour_25 : decode cX3_pour 25 = .ok (.iconst 1, 1) := by decide +kernel
theorem dX3_pour_26 : decode cX3_pour 26 = .ok (.bipush 20, 2) := by decide +kernel
theorem dX3_pour_28 : decode cX3_pour 28 = .ok (.invokestatic 26, 3) := by decide +kernel
theorem dX3_pour_31 : decode cX3_pour 31 = .ok (.ifCond .ne 13, 3) := by decide +kernel
theorem dX3_pour_34 : decode cX3_pour 34 = .ok (.new 37, 3) := by decide +kernel
theorem dX3_pour_37 : decode cX3_pour 37 = .ok (.dup, 1) := by decide +kernel
theorem dX3_pour_38 : decode cX3_pour 38 = .ok (.ldc 145, 2) := by decide +kernel
theorem dX3_pour_40 : decode cX3_pour 40 = .ok (.invokespecial 41, 3) := by decide +kernel
theorem dX3_pour_43 : decode cX3_pour 43 = .ok (.athrow, 1) := by decide +kernel
theorem dX3_pour_44 : decode cX3_pour 44 = .ok (.aload_n 0, 1) := by decide +kernel
theorem dX3_pour_45 : decode cX3_pour 45 = .ok (.getfield 19, 3) := by decide +kernel
theorem dX3_pour_48 : decode cX3_pour 48 = .ok (.getfield 52, 3) := by decide +kernel
theorem dX3_pour_51 : decode cX3_pour 51 = .ok (.iload_n 2, 1) := by decide +kernel
theorem dX3_pour_52 : decode cX3_pour 52 = .ok (.if_icmp .lt 18, 3) := by decide +kernel
theorem dX3_pour_55 : decode cX3_pour 55 = .ok (.aload_n 0, 1) := by decide +kernel
theorem dX3_pour_56 : decode cX3_pour 56 = .ok (.getfield 19, 3) := by decide +kernel
theorem dX3_pour_59 : decode cX3_pour 59 = .ok (.getfield 129, 3) := by decide +kernel
theorem dX3_pour_62 : decode cX3_pour 62 = .ok (.getfield 126, 3) := by decide +kernel
theorem dX3_pour_65 : decode cX3_pour 65 = .ok (.iload_n 1, 1) := by decide +kernel
theorem dX3_pour_66 : decode cX3_pour 66 = .ok (.iaload, 1) := by decide +kernel
theorem dX3_pour_67 : decode cX3_pour 67 = .ok (.ifCond .ne 13, 3) := by decide +kernel
theorem dX3_pour_70 : decode cX3_pour 70 = .ok (.new 75, 3) := by decide +kernel
theorem dX3_pour_73 : decode cX3_pour 73 = .ok (.dup, 1) := by decide +kernel
theorem dX3_pour_74 : decode cX3_pour 74 = .ok (.ldc 147, 2) := by decide +kernel
theorem dX3_pour_76 : decode cX3_pour 76 = .ok (.invokespecial 79, 3) := by decide +kernel
theorem dX3_pour_79 : decode cX3_pour 79 = .ok (.athrow, 1) := by decide +kernel
theorem dX3_pour_80 : decode cX3_pour 80 = .ok (.aload_n 0, 1) := by decide +kernel
theorem dX3_pour_81 : decode cX3_pour 81 = .ok (.iload_n 1, 1) := by decide +kernel
theorem dX3_pour_82 : decode cX3_pour 82 = .ok (.iload_n 2, 1) := by decide +kernel
theorem dX3_pour_83 : decode cX3_pour 83 = .ok (.invokevirtual 149, 3) := by decide +kernel
theorem dX3_pour_86 : decode cX3_pour 86 = .ok (.istore_n 3, 1) := by decide +kernel
theorem dX3_pour_87 : decode cX3_pour 87 = .ok (.aload_n 0, 1) := by decide +kernel
theorem dX3_pour_88 : decode cX3_pour 88 = .ok (.getfield 19, 3) := by decide +kernel
theorem dX3_pour_91 : decode cX3_pour 91 = .ok (.getfield 129, 3) := by decide +kernel
theorem dX3_pour_94 : decode cX3_pour 94 = .ok (.iload_n 1, 1) := by decide +kernel
theorem dX3_pour_95 : decode cX3_pour 95 = .ok (.invokevirtual 152, 3) := by decide +kernel
theorem dX3_pour_98 : decode cX3_pour 98 = .ok (.iconst 1, 1) := by decide +kernel
theorem dX3_pour_99 : decode cX3_pour 99 = .ok (.if_icmp .ne 19, 3) := by decide +kernel
theorem dX3_pour_102 : decode cX3_pour 102 = .ok (.aload_n 0, 1) := by decide +kernel
theorem dX3_pour_103 : decode cX3_pour 103 = .ok (.getfield 19, 3) := by decide +kernel
theorem dX3_pour_106 : decode cX3_pour 106 = .ok (.dup, 1) := by decide +kernel
theorem dX3_pour_107 : decode cX3_pour 107 = .ok (.getfield 155, 3) := by decide +kernel
theorem dX3_pour_110 : decode cX3_pour 110 = .ok (.iload_n 3, 1) := by decide +kernel
theorem dX3_pour_111 : decode cX3_pour 111 = .ok (.iadd, 1) := by decide +kernel
theorem dX3_pour_112 : decode cX3_pour 112 = .ok (.putfield 155, 3) := by decide +kernel
theorem dX3_pour_115 : decode cX3_pour 115 = .ok (.goto 16, 3) := by decide +kernel
theorem dX3_pour_118 : decode cX3_pour 118 = .ok (.aload_n 0, 1) := by decide +kernel
theorem dX3_pour_119 : decode cX3_pour 119 = .ok (.getfield 19, 3) := by decide +kernel
theorem dX3_pour_122 : decode cX3_pour 122 = .ok (.dup, 1) := by decide +kernel
theorem dX3_pour_123 : decode cX3_pour 123 = .ok (.getfield 158, 3) := by decide +kernel
theorem dX3_pour_126 : decode cX3_pour 126 = .ok (.iload_n 3, 1) := by decide +kernel
theorem dX3_pour_127 : decode cX3_pour 127 = .ok (.iadd, 1) := by decide +kernel
theorem dX3_pour_128 : decode cX3_pour 128 = .ok (.putfield 158, 3) := by decide +kernel
theorem dX3_pour_131 : decode cX3_pour 131 = .ok (.aload_n 0, 1) := by decide +kernel
theorem dX3_pour_132 : decode cX3_pour 132 = .ok (.getfield 19, 3) := by decide +kernel
theorem dX3_pour_135 : decode cX3_pour 135 = .ok (.dup, 1) := by decide +kernel
theorem dX3_pour_136 : decode cX3_pour 136 = .ok (.getfield 52, 3) := by decide +kernel
theorem dX3_pour_139 : decode cX3_pour 139 = .ok (.iload_n 2, 1) := by decide +kernel
theorem dX3_pour_140 : decode cX3_pour 140 = .ok (.isub, 1) := by decide +kernel
theorem dX3_pour_141 : decode cX3_pour 141 = .ok (.putfield 52, 3) := by decide +kernel
theorem dX3_pour_144 : decode cX3_pour 144 = .ok (.aload_n 0, 1) := by decide +kernel
theorem dX3_pour_145 : decode cX3_pour 145 = .ok (.getfield 19, 3) := by decide +kernel
theorem dX3_pour_148 : decode cX3_pour 148 = .ok (.getfield 129, 3) := by decide +kernel
theorem dX3_pour_151 : decode cX3_pour 151 = .ok (.iload_n 1, 1) := by decide +kernel
theorem dX3_pour_152 : decode cX3_pour 152 = .ok (.invokevirtual 161, 3) := by decide +kernel
theorem dX3_pour_155 : decode cX3_pour 155 = .ok (.iload_n 3, 1) := by decide +kernel
theorem dX3_pour_156 : decode cX3_pour 156 = .ok (.ireturn, 1) := by decide +kernel
theorem dX3_clamp_0 : decode cX3_clamp 0 = .ok (.aload_n 0, 1) := by decide +kernel
theorem dX3_clamp_1 : decode cX3_clamp 1 = .ok (.getfield 19, 3) := by decide +kernel
theorem dX3_clamp_4 : decode cX3_clamp 4 = .ok (.getfield 65, 3) := by decide +kernel
theorem dX3_clamp_7 : decode cX3_clamp 7 = .ok (.iload_n 1, 1) := by decide +kernel
theorem dX3_clamp_8 : decode cX3_clamp 8 = .ok (.invokevirtual 84, 3) := by decide +kernel
theorem dX3_clamp_11 : decode cX3_clamp 11 = .ok (.ifCond .eq 12, 3) := by decide +kernel
theorem dX3_clamp_14 : decode cX3_clamp 14 = .ok (.iload_n 2, 1) := by decide +kernel
theorem dX3_clamp_15 : decode cX3_clamp 15 = .ok (.iconst 0, 1) := by decide +kernel
theorem dX3_clamp_16 : decode cX3_clamp 16 = .ok (.iconst 3, 1) := by decide +kernel
theorem dX3_clamp_17 : decode cX3_clamp 17 = .ok (.invokestatic 26, 3) := by decide +kernel
theorem dX3_clamp_20 : decode cX3_clamp 20 = .ok (.ifCond .ne 13, 3) := by decide +kernel
theorem dX3_clamp_23 : decode cX3_clamp 23 = .ok (.new 30, 3) := by decide +kernel
theorem dX3_clamp_26 : decode cX3_clamp 26 = .ok (.dup, 1) := by decide +kernel
theorem dX3_clamp_27 : decode cX3_clamp 27 = .ok (.ldc 165, 2) := by decide +kernel
theorem dX3_clamp_29 : decode cX3_clamp 29 = .ok (.invokespecial 34, 3) := by decide +kernel
theorem dX3_clamp_32 : decode cX3_clamp 32 = .ok (.athrow, 1) := by decide +kernel
theorem dX3_clamp_33 : decode cX3_clamp 33 = .ok (.aload_n 0, 1) := by decide +kernel
theorem dX3_clamp_34 : decode cX3_clamp 34 = .ok (.getfield 19, 3) := by decide +kernel
theorem dX3_clamp_37 : decode cX3_clamp 37 = .ok (.getfield 65, 3) := by decide +kernel
theorem dX3_clamp_40 : decode cX3_clamp 40 = .ok (.iload_n 1, 1) := by decide +kernel
theorem dX3_clamp_41 : decode cX3_clamp 41 = .ok (.iload_n 2, 1) := by decide +kernel
theorem dX3_clamp_42 : decode cX3_clamp 42 = .ok (.invokevirtual 167, 3) := by decide +kernel
theorem dX3_clamp_45 : decode cX3_clamp 45 = .ok (.ireturn, 1) := by decide +kernel
theorem dX3_pit_0 : decode cX3_pit 0 = .ok (.aload_n 0, 1) := by decide +kernel
theorem dX3_pit_1 : decode cX3_pit 1 = .ok (.getfield 19, 3) := by decide +kernel
theorem dX3_pit_4 : decode cX3_pit 4 = .ok (.getfield 105, 3) := by decide +kernel
theorem dX3_pit_7 : decode cX3_pit 7 = .ok (.iload_n 1, 1) := by decide +kernel
theorem dX3_pit_8 : decode cX3_pit 8 = .ok (.invokevirtual 115, 3) := by decide +kernel
theorem dX3_pit_11 : decode cX3_pit 11 = .ok (.ifCond .eq 12, 3) := by decide +kernel
theorem dX3_pit_14 : decode cX3_pit 14 = .ok (.iload_n 2, 1) := by decide +kernel
theorem dX3_pit_15 : decode cX3_pit 15 = .ok (.iconst 0, 1) := by decide +kernel
theorem dX3_pit_16 : decode cX3_pit 16 = .ok (.iconst 3, 1) := by decide +kernel
theorem dX3_pit_17 : decode cX3_pit 17 = .ok (.invokestatic 26, 3) := by decide +kernel
theorem dX3_pit_20 : decode cX3_pit 20 = .ok (.ifCond .ne 13, 3) := by decide +kernel
theorem dX3_pit_23 : decode cX3_pit 23 = .ok (.new 30, 3) := by decide +kernel
theorem dX3_pit_26 : decode cX3_pit 26 = .ok (.dup, 1) := by decide +kernel
theorem dX3_pit_27 : decode cX3_pit 27 = .ok (.ldc 170, 2) := by decide +kernel
theorem dX3_pit_29 : decode cX3_pit 29 = .ok (.invokespecial 34, 3) := by decide +kernel
theorem dX3_pit_32 : decode cX3_pit 32 = .ok (.athrow, 1) := by decide +kernel
theorem dX3_pit_33 : decode cX3_pit 33 = .ok (.aload_n 0, 1) := by decide +kernel
theorem dX3_pit_34 : decode cX3_pit 34 = .ok (.getfield 19, 3) := by decide +kernel
theorem dX3_pit_37 : decode cX3_pit 37 = .ok (.getfield 105, 3) := by decide +kernel
theorem dX3_pit_40 : decode cX3_pit 40 = .ok (.iload_n 1, 1) := by decide +kernel
theorem dX3_pit_41 : decode cX3_pit 41 = .ok (.iload_n 2, 1) := by decide +kernel
theorem dX3_pit_42 : decode cX3_pit 42 = .ok (.invokevirtual 172, 3) := by decide +kernel
theorem dX3_pit_45 : decode cX3_pit 45 = .ok (.ireturn, 1) := by decide +kernel
theorem dX3_about_0 : decode cX3_about 0 = .ok (.aload_n 0, 1) := by decide +kernel
theorem dX3_about_1 : decode cX3_about 1 = .ok (.getfield 19, 3) := by decide +kernel
theorem dX3_about_4 : decode cX3_about 4 = .ok (.getfield 129, 3) := by decide +kernel
theorem dX3_about_7 : decode cX3_about 7 = .ok (.iload_n 1, 1) := by decide +kernel
theorem dX3_about_8 : decode cX3_about 8 = .ok (.invokevirtual 115, 3) := by decide +kernel
theorem dX3_about_11 : decode cX3_about 11 = .ok (.ifCond .eq 12, 3) := by decide +kernel
theorem dX3_about_14 : decode cX3_about 14 = .ok (.iload_n 2, 1) := by decide +kernel
theorem dX3_about_15 : decode cX3_about 15 = .ok (.iconst 0, 1) := by decide +kernel
theorem dX3_about_16 : decode cX3_about 16 = .ok (.iconst 4, 1) := by decide +kernel
theorem dX3_about_17 : decode cX3_about 17 = .ok (.invokestatic 26, 3) := by decide +kernel
theorem dX3_about_20 : decode cX3_about 20 = .ok (.ifCond .ne 13, 3) := by decide +kernel
theorem dX3_about_23 : decode cX3_about 23 = .ok (.new 30, 3) := by decide +kernel
theorem dX3_about_26 : decode cX3_about 26 = .ok (.dup, 1) := by decide +kernel
theorem dX3_about_27 : decode cX3_about 27 = .ok (.ldc 173, 2) := by decide +kernel
theorem dX3_about_29 : decode cX3_about 29 = .ok (.invokespecial 34, 3) := by decide +kernel
theorem dX3_about_32 : decode cX3_about 32 = .ok (.athrow, 1) := by decide +kernel
theorem dX3_about_33 : decode cX3_about 33 = .ok (.aload_n 0, 1) := by decide +kernel
theorem dX3_about_34 : decode cX3_about 34 = .ok (.getfield 19, 3) := by decide +kernel
theorem dX3_about_37 : decode cX3_about 37 = .ok (.getfield 129, 3) := by decide +kernel
theorem dX3_about_40 : decode cX3_about 40 = .ok (.iload_n 1, 1) := by decide +kernel
theorem dX3_about_41 : decode cX3_about 41 = .ok (.iload_n 2, 1) := by decide +kernel
theorem dX3_about_42 : decode cX3_about 42 = .ok (.invokevirtual 172, 3) := by decide +kernel
theorem dX3_about_45 : decode cX3_about 45 = .ok (.ireturn, 1) := by decide +kernel
theorem dX3_count_0 : decode cX3_count 0 = .ok (.iload_n 1, 1) := by decide +kernel
theorem dX3_count_1 : decode cX3_count 1 = .ok (.iconst 0, 1) := by decide +kernel
theorem dX3_count_2 : decode cX3_count 2 = .ok (.bipush 9, 2) := by decide +kernel
theorem dX3_count_4 : decode cX3_count 4 = .ok (.invokestatic 26, 3) := by decide +kernel
theorem dX3_count_7 : decode cX3_count 7 = .ok (.ifCond .ne 13, 3) := by decide +kernel
theorem dX3_count_10 : decode cX3_count 10 = .ok (.new 30, 3) := by decide +kernel
theorem dX3_count_13 : decode cX3_count 13 = .ok (.dup, 1) := by decide +kernel
theorem dX3_count_14 : decode cX3_count 14 = .ok (.ldc 175, 2) := by decide +kernel
theorem dX3_count_16 : decode cX3_count 16 = .ok (.invokespecial 34, 3) := by decide +kernel
theorem dX3_count_19 : decode cX3_count 19 = .ok (.athrow, 1) := by decide +kernel
theorem dX3_count_20 : decode cX3_count 20 = .ok (.aload_n 0, 1) := by decide +kernel
theorem dX3_count_21 : decode cX3_count 21 = .ok (.aload_n 0, 1) := by decide +kernel
theorem dX3_count_22 : decode cX3_count 22 = .ok (.getfield 19, 3) := by decide +kernel
theorem dX3_count_25 : decode cX3_count 25 = .ok (.iload_n 1, 1) := by decide +kernel
theorem dX3_count_26 : decode cX3_count 26 = .ok (.invokevirtual 177, 3) := by decide +kernel
theorem dX3_count_29 : decode cX3_count 29 = .ok (.ireturn, 1) := by decide +kernel
theorem dX3_pass_0 : decode cX3_pass 0 = .ok (.iload_n 1, 1) := by decide +kernel
theorem dX3_pass_1 : decode cX3_pass 1 = .ok (.iconst 1, 1) := by decide +kernel
theorem dX3_pass_2 : decode cX3_pass 2 = .ok (.bipush 60, 2) := by decide +kernel
theorem dX3_pass_4 : decode cX3_pass 4 = .ok (.invokestatic 26, 3) := by decide +kernel
theorem dX3_pass_7 : decode cX3_pass 7 = .ok (.ifCond .ne 13, 3) := by decide +kernel
theorem dX3_pass_10 : decode cX3_pass 10 = .ok (.new 37, 3) := by decide +kernel
theorem dX3_pass_13 : decode cX3_pass 13 = .ok (.dup, 1) := by decide +kernel
theorem dX3_pass_14 : decode cX3_pass 14 = .ok (.ldc 181, 2) := by decide +kernel
theorem dX3_pass_16 : decode cX3_pass 16 = .ok (.invokespecial 41, 3) := by decide +kernel
theorem dX3_pass_19 : decode cX3_pass 19 = .ok (.athrow, 1) := by decide +kernel
theorem dX3_pass_20 : decode cX3_pass 20 = .ok (.aload_n 0, 1) := by decide +kernel
theorem dX3_pass_21 : decode cX3_pass 21 = .ok (.getfield 19, 3) := by decide +kernel
theorem dX3_pass_24 : decode cX3_pass 24 = .ok (.getfield 183, 3) := by decide +kernel
theorem dX3_pass_27 : decode cX3_pass 27 = .ok (.istore_n 2, 1) := by decide +kernel
theorem dX3_pass_28 : decode cX3_pass 28 = .ok (.aload_n 0, 1) := by decide +kernel
theorem dX3_pass_29 : decode cX3_pass 29 = .ok (.aload_n 0, 1) := by decide +kernel
theorem dX3_pass_30 : decode cX3_pass 30 = .ok (.getfield 19, 3) := by decide +kernel
theorem dX3_pass_33 : decode cX3_pass 33 = .ok (.iload_n 1, 1) := by decide +kernel
theorem dX3_pass_34 : decode cX3_pass 34 = .ok (.invokevirtual 186, 3) := by decide +kernel
theorem dX3_pass_37 : decode cX3_pass 37 = .ok (.aload_n 0, 1) := by decide +kernel
theorem dX3_pass_38 : decode cX3_pass 38 = .ok (.getfield 19, 3) := by decide +kernel
theorem dX3_pass_41 : decode cX3_pass 41 = .ok (.getfield 183, 3) := by decide +kernel
theorem dX3_pass_44 : decode cX3_pass 44 = .ok (.iload_n 2, 1) := by decide +kernel
theorem dX3_pass_45 : decode cX3_pass 45 = .ok (.isub, 1) := by decide +kernel
theorem dX3_pass_46 : decode cX3_pass 46 = .ok (.ireturn, 1) := by decide +kernel
theorem dX3_right_0 : decode cX3_right 0 = .ok (.aload_n 0, 1) := by decide +kernel
theorem dX3_right_1 : decode cX3_right 1 = .ok (.getfield 19, 3) := by decide +kernel
theorem dX3_right_4 : decode cX3_right 4 = .ok (.getfield 129, 3) := by decide +kernel
theorem dX3_right_7 : decode cX3_right 7 = .ok (.iload_n 1, 1) := by decide +kernel
theorem dX3_right_8 : decode cX3_right 8 = .ok (.invokevirtual 115, 3) := by decide +kernel
theorem dX3_right_11 : decode cX3_right 11 = .ok (.ifCond .ne 13, 3) := by decide +kernel
theorem dX3_right_14 : decode cX3_right 14 = .ok (.new 30, 3) := by decide +kernel
theorem dX3_right_17 : decode cX3_right 17 = .ok (.dup, 1) := by decide +kernel
theorem dX3_right_18 : decode cX3_right 18 = .ok (.ldc 140, 2) := by decide +kernel
theorem dX3_right_20 : decode cX3_right 20 = .ok (.invokespecial 34, 3) := by decide +kernel
theorem dX3_right_23 : decode cX3_right 23 = .ok (.athrow, 1) := by decide +kernel
theorem dX3_right_24 : decode cX3_right 24 = .ok (.aload_n 0, 1) := by decide +kernel
theorem dX3_right_25 : decode cX3_right 25 = .ok (.getfield 23, 3) := by decide +kernel
theorem dX3_right_28 : decode cX3_right 28 = .ok (.aload_n 0, 1) := by decide +kernel
theorem dX3_right_29 : decode cX3_right 29 = .ok (.getfield 19, 3) := by decide +kernel
theorem dX3_right_32 : decode cX3_right 32 = .ok (.invokevirtual 190, 3) := by decide +kernel
theorem dX3_right_35 : decode cX3_right 35 = .ok (.iconst 0, 1) := by decide +kernel
theorem dX3_right_36 : decode cX3_right 36 = .ok (.istore_n 2, 1) := by decide +kernel
theorem dX3_right_37 : decode cX3_right 37 = .ok (.iload_n 2, 1) := by decide +kernel
theorem dX3_right_38 : decode cX3_right 38 = .ok (.bipush 60, 2) := by decide +kernel
theorem dX3_right_40 : decode cX3_right 40 = .ok (.if_icmp .gt 35, 3) := by decide +kernel
theorem dX3_right_43 : decode cX3_right 43 = .ok (.aload_n 0, 1) := by decide +kernel
theorem dX3_right_44 : decode cX3_right 44 = .ok (.getfield 23, 3) := by decide +kernel
theorem dX3_right_47 : decode cX3_right 47 = .ok (.getfield 129, 3) := by decide +kernel
theorem dX3_right_50 : decode cX3_right 50 = .ok (.iload_n 1, 1) := by decide +kernel
theorem dX3_right_51 : decode cX3_right 51 = .ok (.invokevirtual 152, 3) := by decide +kernel
theorem dX3_right_54 : decode cX3_right 54 = .ok (.iconst 1, 1) := by decide +kernel
theorem dX3_right_55 : decode cX3_right 55 = .ok (.if_icmp .ne 5, 3) := by decide +kernel
theorem dX3_right_58 : decode cX3_right 58 = .ok (.iload_n 2, 1) := by decide +kernel
theorem dX3_right_59 : decode cX3_right 59 = .ok (.ireturn, 1) := by decide +kernel
theorem dX3_right_60 : decode cX3_right 60 = .ok (.aload_n 0, 1) := by decide +kernel
theorem dX3_right_61 : decode cX3_right 61 = .ok (.aload_n 0, 1) := by decide +kernel
theorem dX3_right_62 : decode cX3_right 62 = .ok (.getfield 23, 3) := by decide +kernel
theorem dX3_right_65 : decode cX3_right 65 = .ok (.iconst 1, 1) := by decide +kernel
theorem dX3_right_66 : decode cX3_right 66 = .ok (.invokevirtual 186, 3) := by decide +kernel
theorem dX3_right_69 : decode cX3_right 69 = .ok (.iinc 2 1, 3) := by decide +kernel
theorem dX3_right_72 : decode cX3_right 72 = .ok (.goto (-35), 3) := by decide +kernel
theorem dX3_right_75 : decode cX3_right 75 = .ok (.iconst (-1), 1) := by decide +kernel
theorem dX3_right_76 : decode cX3_right 76 = .ok (.ireturn, 1) := by decide +kernel
theorem dX3_foresee_0 : decode cX3_foresee 0 = .ok (.iload_n 1, 1) := by decide +kernel
theorem dX3_foresee_1 : decode cX3_foresee 1 = .ok (.iconst 1, 1) := by decide +kernel
theorem dX3_foresee_2 : decode cX3_foresee 2 = .ok (.bipush 60, 2) := by decide +kernel
theorem dX3_foresee_4 : decode cX3_foresee 4 = .ok (.invokestatic 26, 3) := by decide +kernel
theorem dX3_foresee_7 : decode cX3_foresee 7 = .ok (.ifCond .ne 13, 3) := by decide +kernel
theorem dX3_foresee_10 : decode cX3_foresee 10 = .ok (.new 37, 3) := by decide +kernel
theorem dX3_foresee_13 : decode cX3_foresee 13 = .ok (.dup, 1) := by decide +kernel
theorem dX3_foresee_14 : decode cX3_foresee 14 = .ok (.ldc 181, 2) := by decide +kernel
theorem dX3_foresee_16 : decode cX3_foresee 16 = .ok (.invokespecial 41, 3) := by decide +kernel
theorem dX3_foresee_19 : decode cX3_foresee 19 = .ok (.athrow, 1) := by decide +kernel
theorem dX3_foresee_20 : decode cX3_foresee 20 = .ok (.iload_n 2, 1) := by decide +kernel
theorem dX3_foresee_21 : decode cX3_foresee 21 = .ok (.iconst 2, 1) := by decide +kernel
theorem dX3_foresee_22 : decode cX3_foresee 22 = .ok (.if_icmp .eq 23, 3) := by decide +kernel
theorem dX3_foresee_25 : decode cX3_foresee 25 = .ok (.iload_n 2, 1) := by decide +kernel
theorem dX3_foresee_26 : decode cX3_foresee 26 = .ok (.iconst 4, 1) := by decide +kernel
theorem dX3_foresee_27 : decode cX3_foresee 27 = .ok (.bipush 7, 2) := by decide +kernel
theorem dX3_foresee_29 : decode cX3_foresee 29 = .ok (.invokestatic 26, 3) := by decide +kernel
theorem dX3_foresee_32 : decode cX3_foresee 32 = .ok (.ifCond .ne 13, 3) := by decide +kernel
theorem dX3_foresee_35 : decode cX3_foresee 35 = .ok (.new 30, 3) := by decide +kernel
theorem dX3_foresee_38 : decode cX3_foresee 38 = .ok (.dup, 1) := by decide +kernel
theorem dX3_foresee_39 : decode cX3_foresee 39 = .ok (.ldc 194, 2) := by decide +kernel
theorem dX3_foresee_41 : decode cX3_foresee 41 = .ok (.invokespecial 34, 3) := by decide +kernel
theorem dX3_foresee_44 : decode cX3_foresee 44 = .ok (.athrow, 1) := by decide +kernel
theorem dX3_foresee_45 : decode cX3_foresee 45 = .ok (.aload_n 0, 1) := by decide +kernel
theorem dX3_foresee_46 : decode cX3_foresee 46 = .ok (.getfield 23, 3) := by decide +kernel
theorem dX3_foresee_49 : decode cX3_foresee 49 = .ok (.aload_n 0, 1) := by decide +kernel
theorem dX3_foresee_50 : decode cX3_foresee 50 = .ok (.getfield 19, 3) := by decide +kernel
theorem dX3_foresee_53 : decode cX3_foresee 53 = .ok (.invokevirtual 190, 3) := by decide +kernel
theorem dX3_foresee_56 : decode cX3_foresee 56 = .ok (.aload_n 0, 1) := by decide +kernel
theorem dX3_foresee_57 : decode cX3_foresee 57 = .ok (.aload_n 0, 1) := by decide +kernel
theorem dX3_foresee_58 : decode cX3_foresee 58 = .ok (.getfield 23, 3) := by decide +kernel
theorem dX3_foresee_61 : decode cX3_foresee 61 = .ok (.iload_n 1, 1) := by decide +kernel
theorem dX3_foresee_62 : decode cX3_foresee 62 = .ok (.invokevirtual 186, 3) := by decide +kernel
theorem dX3_foresee_65 : decode cX3_foresee 65 = .ok (.aload_n 0, 1) := by decide +kernel
theorem dX3_foresee_66 : decode cX3_foresee 66 = .ok (.aload_n 0, 1) := by decide +kernel
theorem dX3_foresee_67 : decode cX3_foresee 67 = .ok (.getfield 23, 3) := by decide +kernel
theorem dX3_foresee_70 : decode cX3_foresee 70 = .ok (.iload_n 2, 1) := by decide +kernel
theorem dX3_foresee_71 : decode cX3_foresee 71 = .ok (.invokevirtual 177, 3) := by decide +kernel
theorem dX3_foresee_74 : decode cX3_foresee 74 = .ok (.ireturn, 1) := by decide +kernel
theorem dX3_barrels_0 : decode cX3_barrels 0 = .ok (.aload_n 0, 1) := by decide +kernel
theorem dX3_barrels_1 : decode cX3_barrels 1 = .ok (.getfield 19, 3) := by decide +kernel
theorem dX3_barrels_4 : decode cX3_barrels 4 = .ok (.getfield 129, 3) := by decide +kernel
theorem dX3_barrels_7 : decode cX3_barrels 7 = .ok (.iload_n 1, 1) := by decide +kernel
theorem dX3_barrels_8 : decode cX3_barrels 8 = .ok (.invokevirtual 115, 3) := by decide +kernel
theorem dX3_barrels_11 : decode cX3_barrels 11 = .ok (.ifCond .ne 13, 3) := by decide +kernel
theorem dX3_barrels_14 : decode cX3_barrels 14 = .ok (.new 30, 3) := by decide +kernel
theorem dX3_barrels_17 : decode cX3_barrels 17 = .ok (.dup, 1) := by decide +kernel
theorem dX3_barrels_18 : decode cX3_barrels 18 = .ok (.ldc 140, 2) := by decide +kernel
theorem dX3_barrels_20 : decode cX3_barrels 20 = .ok (.invokespecial 34, 3) := by decide +kernel
theorem dX3_barrels_23 : decode cX3_barrels 23 = .ok (.athrow, 1) := by decide +kernel
theorem dX3_barrels_24 : decode cX3_barrels 24 = .ok (.aload_n 0, 1) := by decide +kernel
theorem dX3_barrels_25 : decode cX3_barrels 25 = .ok (.getfield 19, 3) := by decide +kernel
theorem dX3_barrels_28 : decode cX3_barrels 28 = .ok (.getfield 129, 3) := by decide +kernel
theorem dX3_barrels_31 : decode cX3_barrels 31 = .ok (.getfield 126, 3) := by decide +kernel
theorem dX3_barrels_34 : decode cX3_barrels 34 = .ok (.iload_n 1, 1) := by decide +kernel
theorem dX3_barrels_35 : decode cX3_barrels 35 = .ok (.iaload, 1) := by decide +kernel
theorem dX3_barrels_36 : decode cX3_barrels 36 = .ok (.ifCond .ne 5, 3) := by decide +kernel
theorem dX3_barrels_39 : decode cX3_barrels 39 = .ok (.iconst (-1), 1) := by decide +kernel
theorem dX3_barrels_40 : decode cX3_barrels 40 = .ok (.ireturn, 1) := by decide +kernel
theorem dX3_barrels_41 : decode cX3_barrels 41 = .ok (.iconst 1, 1) := by decide +kernel
theorem dX3_barrels_42 : decode cX3_barrels 42 = .ok (.istore_n 2, 1) := by decide +kernel
theorem dX3_barrels_43 : decode cX3_barrels 43 = .ok (.iconst 2, 1) := by decide +kernel
theorem dX3_barrels_44 : decode cX3_barrels 44 = .ok (.istore_n 3, 1) := by decide +kernel
theorem dX3_barrels_45 : decode cX3_barrels 45 = .ok (.iload_n 3, 1) := by decide +kernel
theorem dX3_barrels_46 : decode cX3_barrels 46 = .ok (.bipush 20, 2) := by decide +kernel
theorem dX3_barrels_48 : decode cX3_barrels 48 = .ok (.if_icmp .gt 26, 3) := by decide +kernel
theorem dX3_barrels_51 : decode cX3_barrels 51 = .ok (.aload_n 0, 1) := by decide +kernel
theorem dX3_barrels_52 : decode cX3_barrels 52 = .ok (.iload_n 1, 1) := by decide +kernel
theorem dX3_barrels_53 : decode cX3_barrels 53 = .ok (.iload_n 3, 1) := by decide +kernel
theorem dX3_barrels_54 : decode cX3_barrels 54 = .ok (.invokevirtual 149, 3) := by decide +kernel
theorem dX3_barrels_57 : decode cX3_barrels 57 = .ok (.aload_n 0, 1) := by decide +kernel
theorem dX3_barrels_58 : decode cX3_barrels 58 = .ok (.iload_n 1, 1) := by decide +kernel
theorem dX3_barrels_59 : decode cX3_barrels 59 = .ok (.iload_n 2, 1) := by decide +kernel
theorem dX3_barrels_60 : decode cX3_barrels 60 = .ok (.invokevirtual 149, 3) := by decide +kernel
theorem dX3_barrels_63 : decode cX3_barrels 63 = .ok (.if_icmp .le 5, 3) := by decide +kernel
theorem dX3_barrels_66 : decode cX3_barrels 66 = .ok (.iload_n 3, 1) := by decide +kernel
theorem dX3_barrels_67 : decode cX3_barrels 67 = .ok (.istore_n 2, 1) := by decide +kernel
theorem dX3_barrels_68 : decode cX3_barrels 68 = .ok (.iinc 3 1, 3) := by decide +kernel
theorem dX3_barrels_71 : decode cX3_barrels 71 = .ok (.goto (-26), 3) := by decide +kernel
theorem dX3_barrels_74 : decode cX3_barrels 74 = .ok (.iload_n 2, 1) := by decide +kernel
theorem dX3_barrels_75 : decode cX3_barrels 75 = .ok (.ireturn, 1) := by decide +kernel
theorem dX3_dry_0 : decode cX3_dry 0 = .ok (.aload_n 0, 1) := by decide +kernel
theorem dX3_dry_1 : decode cX3_dry 1 = .ok (.getfield 19, 3) := by decide +kernel
theorem dX3_dry_4 : decode cX3_dry 4 = .ok (.getfield 105, 3) := by decide +kernel
theorem dX3_dry_7 : decode cX3_dry 7 = .ok (.iload_n 1, 1) := by decide +kernel
theorem dX3_dry_8 : decode cX3_dry 8 = .ok (.invokevirtual 115, 3) := by decide +kernel
theorem dX3_dry_11 : decode cX3_dry 11 = .ok (.ifCond .ne 13, 3) := by decide +kernel
theorem dX3_dry_14 : decode cX3_dry 14 = .ok (.new 30, 3) := by decide +kernel
theorem dX3_dry_17 : decode cX3_dry 17 = .ok (.dup, 1) := by decide +kernel
theorem dX3_dry_18 : decode cX3_dry 18 = .ok (.ldc 196, 2) := by decide +kernel
theorem dX3_dry_20 : decode cX3_dry 20 = .ok (.invokespecial 34, 3) := by decide +kernel
theorem dX3_dry_23 : decode cX3_dry 23 = .ok (.athrow, 1) := by decide +kernel
theorem dX3_dry_24 : decode cX3_dry 24 = .ok (.aload_n 0, 1) := by decide +kernel
theorem dX3_dry_25 : decode cX3_dry 25 = .ok (.getfield 19, 3) := by decide +kernel
theorem dX3_dry_28 : decode cX3_dry 28 = .ok (.getfield 105, 3) := by decide +kernel
theorem dX3_dry_31 : decode cX3_dry 31 = .ok (.getfield 121, 3) := by decide +kernel
theorem dX3_dry_34 : decode cX3_dry 34 = .ok (.iload_n 1, 1) := by decide +kernel
theorem dX3_dry_35 : decode cX3_dry 35 = .ok (.iaload, 1) := by decide +kernel
theorem dX3_dry_36 : decode cX3_dry 36 = .ok (.istore_n 2, 1) := by decide +kernel
theorem dX3_dry_37 : decode cX3_dry 37 = .ok (.aload_n 0, 1) := by decide +kernel
theorem dX3_dry_38 : decode cX3_dry 38 = .ok (.getfield 19, 3) := by decide +kernel
theorem dX3_dry_41 : decode cX3_dry 41 = .ok (.getfield 105, 3) := by decide +kernel
theorem dX3_dry_44 : decode cX3_dry 44 = .ok (.getfield 126, 3) := by decide +kernel
theorem dX3_dry_47 : decode cX3_dry 47 = .ok (.iload_n 1, 1) := by decide +kernel
theorem dX3_dry_48 : decode cX3_dry 48 = .ok (.iaload, 1) := by decide +kernel
theorem dX3_dry_49 : decode cX3_dry 49 = .ok (.istore_n 3, 1) := by decide +kernel
theorem dX3_dry_50 : decode cX3_dry 50 = .ok (.iload_n 3, 1) := by decide +kernel
theorem dX3_dry_51 : decode cX3_dry 51 = .ok (.ifCond .ne 5, 3) := by decide +kernel
theorem dX3_dry_54 : decode cX3_dry 54 = .ok (.iconst (-1), 1) := by decide +kernel
theorem dX3_dry_55 : decode cX3_dry 55 = .ok (.ireturn, 1) := by decide +kernel
theorem dX3_dry_56 : decode cX3_dry 56 = .ok (.iconst 0, 1) := by decide +kernel
theorem dX3_dry_57 : decode cX3_dry 57 = .ok (.istore 4, 2) := by decide +kernel
theorem dX3_dry_59 : decode cX3_dry 59 = .ok (.iload 4, 2) := by decide +kernel
theorem dX3_dry_61 : decode cX3_dry 61 = .ok (.iload_n 2, 1) := by decide +kernel
theorem dX3_dry_62 : decode cX3_dry 62 = .ok (.if_icmp .ge 23, 3) := by decide +kernel
theorem dX3_dry_65 : decode cX3_dry 65 = .ok (.iload_n 2, 1) := by decide +kernel
theorem dX3_dry_66 : decode cX3_dry 66 = .ok (.iload 4, 2) := by decide +kernel
theorem dX3_dry_68 : decode cX3_dry 68 = .ok (.isub, 1) := by decide +kernel
theorem dX3_dry_69 : decode cX3_dry 69 = .ok (.iload_n 3, 1) := by decide +kernel
theorem dX3_dry_70 : decode cX3_dry 70 = .ok (.invokestatic 198, 3) := by decide +kernel
theorem dX3_dry_73 : decode cX3_dry 73 = .ok (.invokestatic 201, 3) := by decide +kernel
theorem dX3_dry_76 : decode cX3_dry 76 = .ok (.ifCond .ne 9, 3) := by decide +kernel
theorem dX3_dry_79 : decode cX3_dry 79 = .ok (.iinc 4 1, 3) := by decide +kernel
theorem dX3_dry_82 : decode cX3_dry 82 = .ok (.goto (-23), 3) := by decide +kernel
theorem dX3_dry_85 : decode cX3_dry 85 = .ok (.iload 4, 2) := by decide +kernel
theorem dX3_dry_87 : decode cX3_dry 87 = .ok (.ireturn, 1) := by decide +kernel
theorem dX3_mean_0 : decode cX3_mean 0 = .ok (.aload_n 0, 1) := by decide +kernel
theorem dX3_mean_1 : decode cX3_mean 1 = .ok (.getfield 19, 3) := by decide +kernel
theorem dX3_mean_4 : decode cX3_mean 4 = .ok (.getfield 105, 3) := by decide +kernel
theorem dX3_mean_7 : decode cX3_mean 7 = .ok (.invokevirtual 204, 3) := by decide +kernel
theorem dX3_mean_10 : decode cX3_mean 10 = .ok (.aload_n 0, 1) := by decide +kernel
theorem dX3_mean_11 : decode cX3_mean 11 = .ok (.getfield 19, 3) := by decide +kernel
theorem dX3_mean_14 : decode cX3_mean 14 = .ok (.getfield 129, 3) := by decide +kernel
theorem dX3_mean_17 : decode cX3_mean 17 = .ok (.invokevirtual 204, 3) := by decide +kernel
theorem dX3_mean_20 : decode cX3_mean 20 = .ok (.iadd, 1) := by decide +kernel
theorem dX3_mean_21 : decode cX3_mean 21 = .ok (.istore_n 1, 1) := by decide +kernel
theorem dX3_mean_22 : decode cX3_mean 22 = .ok (.iload_n 1, 1) := by decide +kernel
theorem dX3_mean_23 : decode cX3_mean 23 = .ok (.ifCond .ne 5, 3) := by decide +kernel
theorem dX3_mean_26 : decode cX3_mean 26 = .ok (.dconst 0, 1) := by decide +kernel
theorem dX3_mean_27 : decode cX3_mean 27 = .ok (.dreturn, 1) := by decide +kernel
theorem dX3_mean_28 : decode cX3_mean 28 = .ok (.aload_n 0, 1) := by decide +kernel
theorem dX3_mean_29 : decode cX3_mean 29 = .ok (.getfield 19, 3) := by decide +kernel
theorem dX3_mean_32 : decode cX3_mean 32 = .ok (.getfield 105, 3) := by decide +kernel
theorem dX3_mean_35 : decode cX3_mean 35 = .ok (.invokevirtual 208, 3) := by decide +kernel
theorem dX3_mean_38 : decode cX3_mean 38 = .ok (.aload_n 0, 1) := by decide +kernel
theorem dX3_mean_39 : decode cX3_mean 39 = .ok (.getfield 19, 3) := by decide +kernel
theorem dX3_mean_42 : decode cX3_mean 42 = .ok (.getfield 129, 3) := by decide +kernel
theorem dX3_mean_45 : decode cX3_mean 45 = .ok (.invokevirtual 208, 3) := by decide +kernel
theorem dX3_mean_48 : decode cX3_mean 48 = .ok (.iadd, 1) := by decide +kernel
theorem dX3_mean_49 : decode cX3_mean 49 = .ok (.i2d, 1) := by decide +kernel
theorem dX3_mean_50 : decode cX3_mean 50 = .ok (.iload_n 1, 1) := by decide +kernel
theorem dX3_mean_51 : decode cX3_mean 51 = .ok (.i2d, 1) := by decide +kernel
theorem dX3_mean_52 : decode cX3_mean 52 = .ok (.ddiv, 1) := by decide +kernel
theorem dX3_mean_53 : decode cX3_mean 53 = .ok (.dreturn, 1) := by decide +kernel
theorem dX3_digest_0 : decode cX3_digest 0 = .ok (.ldc2_w 211, 3) := by decide +kernel
theorem dX3_digest_3 : decode cX3_digest 3 = .ok (.lstore_n 1, 1) := by decide +kernel
theorem dX3_digest_4 : decode cX3_digest 4 = .ok (.iconst 0, 1) := by decide +kernel
theorem dX3_digest_5 : decode cX3_digest 5 = .ok (.istore_n 3, 1) := by decide +kernel
theorem dX3_digest_6 : decode cX3_digest 6 = .ok (.iload_n 3, 1) := by decide +kernel
theorem dX3_digest_7 : decode cX3_digest 7 = .ok (.bipush 10, 2) := by decide +kernel
theorem dX3_digest_9 : decode cX3_digest 9 = .ok (.if_icmp .ge 23, 3) := by decide +kernel
theorem dX3_digest_12 : decode cX3_digest 12 = .ok (.lload_n 1, 1) := by decide +kernel
theorem dX3_digest_13 : decode cX3_digest 13 = .ok (.aload_n 0, 1) := by decide +kernel
theorem dX3_digest_14 : decode cX3_digest 14 = .ok (.aload_n 0, 1) := by decide +kernel
theorem dX3_digest_15 : decode cX3_digest 15 = .ok (.getfield 19, 3) := by decide +kernel
theorem dX3_digest_18 : decode cX3_digest 18 = .ok (.iload_n 3, 1) := by decide +kernel
theorem dX3_digest_19 : decode cX3_digest 19 = .ok (.invokevirtual 177, 3) := by decide +kernel
theorem dX3_digest_22 : decode cX3_digest 22 = .ok (.invokestatic 213, 3) := by decide +kernel
theorem dX3_digest_25 : decode cX3_digest 25 = .ok (.lstore_n 1, 1) := by decide +kernel
theorem dX3_digest_26 : decode cX3_digest 26 = .ok (.iinc 3 1, 3) := by decide +kernel
theorem dX3_digest_29 : decode cX3_digest 29 = .ok (.goto (-23), 3) := by decide +kernel
theorem dX3_digest_32 : decode cX3_digest 32 = .ok (.aload_n 0, 1) := by decide +kernel
theorem dX3_digest_33 : decode cX3_digest 33 = .ok (.getfield 9, 3) := by decide +kernel
theorem dX3_digest_36 : decode cX3_digest 36 = .ok (.astore_n 3, 1) := by decide +kernel
theorem dX3_digest_37 : decode cX3_digest 37 = .ok (.aload_n 3, 1) := by decide +kernel
theorem dX3_digest_38 : decode cX3_digest 38 = .ok (.arraylength, 1) := by decide +kernel
theorem dX3_digest_39 : decode cX3_digest 39 = .ok (.istore 4, 2) := by decide +kernel
theorem dX3_digest_41 : decode cX3_digest 41 = .ok (.iconst 0, 1) := by decide +kernel
theorem dX3_digest_42 : decode cX3_digest 42 = .ok (.istore 5, 2) := by decide +kernel
theorem dX3_digest_44 : decode cX3_digest 44 = .ok (.iload 5, 2) := by decide +kernel
theorem dX3_digest_46 : decode cX3_digest 46 = .ok (.iload 4, 2) := by decide +kernel
theorem dX3_digest_48 : decode cX3_digest 48 = .ok (.if_icmp .ge 22, 3) := by decide +kernel
theorem dX3_digest_51 : decode cX3_digest 51 = .ok (.aload_n 3, 1) := by decide +kernel
theorem dX3_digest_52 : decode cX3_digest 52 = .ok (.iload 5, 2) := by decide +kernel
theorem dX3_digest_54 : decode cX3_digest 54 = .ok (.iaload, 1) := by decide +kernel
theorem dX3_digest_55 : decode cX3_digest 55 = .ok (.istore 6, 2) := by decide +kernel
theorem dX3_digest_57 : decode cX3_digest 57 = .ok (.lload_n 1, 1) := by decide +kernel
theorem dX3_digest_58 : decode cX3_digest 58 = .ok (.iload 6, 2) := by decide +kernel
theorem dX3_digest_60 : decode cX3_digest 60 = .ok (.invokestatic 213, 3) := by decide +kernel
theorem dX3_digest_63 : decode cX3_digest 63 = .ok (.lstore_n 1, 1) := by decide +kernel
theorem dX3_digest_64 : decode cX3_digest 64 = .ok (.iinc 5 1, 3) := by decide +kernel
theorem dX3_digest_67 : decode cX3_digest 67 = .ok (.goto (-23), 3) := by decide +kernel
theorem dX3_digest_70 : decode cX3_digest 70 = .ok (.aload_n 0, 1) := by decide +kernel
theorem dX3_digest_71 : decode cX3_digest 71 = .ok (.getfield 13, 3) := by decide +kernel
theorem dX3_digest_74 : decode cX3_digest 74 = .ok (.astore_n 3, 1) := by decide +kernel
theorem dX3_digest_75 : decode cX3_digest 75 = .ok (.aload_n 3, 1) := by decide +kernel
theorem dX3_digest_76 : decode cX3_digest 76 = .ok (.arraylength, 1) := by decide +kernel
theorem dX3_digest_77 : decode cX3_digest 77 = .ok (.istore 4, 2) := by decide +kernel
theorem dX3_digest_79 : decode cX3_digest 79 = .ok (.iconst 0, 1) := by decide +kernel
theorem dX3_digest_80 : decode cX3_digest 80 = .ok (.istore 5, 2) := by decide +kernel
theorem dX3_digest_82 : decode cX3_digest 82 = .ok (.iload 5, 2) := by decide +kernel
theorem dX3_digest_84 : decode cX3_digest 84 = .ok (.iload 4, 2) := by decide +kernel
theorem dX3_digest_86 : decode cX3_digest 86 = .ok (.if_icmp .ge 22, 3) := by decide +kernel
theorem dX3_digest_89 : decode cX3_digest 89 = .ok (.aload_n 3, 1) := by decide +kernel
theorem dX3_digest_90 : decode cX3_digest 90 = .ok (.iload 5, 2) := by decide +kernel
theorem dX3_digest_92 : decode cX3_digest 92 = .ok (.iaload, 1) := by decide +kernel
theorem dX3_digest_93 : decode cX3_digest 93 = .ok (.istore 6, 2) := by decide +kernel
theorem dX3_digest_95 : decode cX3_digest 95 = .ok (.lload_n 1, 1) := by decide +kernel
theorem dX3_digest_96 : decode cX3_digest 96 = .ok (.iload 6, 2) := by decide +kernel
theorem dX3_digest_98 : decode cX3_digest 98 = .ok (.invokestatic 213, 3) := by decide +kernel
theorem dX3_digest_101 : decode cX3_digest 101 = .ok (.lstore_n 1, 1) := by decide +kernel
theorem dX3_digest_102 : decode cX3_digest 102 = .ok (.iinc 5 1, 3) := by decide +kernel
theorem dX3_digest_105 : decode cX3_digest 105 = .ok (.goto (-23), 3) := by decide +kernel
theorem dX3_digest_108 : decode cX3_digest 108 = .ok (.iconst 0, 1) := by decide +kernel
theorem dX3_digest_109 : decode cX3_digest 109 = .ok (.istore_n 3, 1) := by decide +kernel
theorem dX3_digest_110 : decode cX3_digest 110 = .ok (.iload_n 3, 1) := by decide +kernel
theorem dX3_digest_111 : decode cX3_digest 111 = .ok (.aload_n 0, 1) := by decide +kernel
theorem dX3_digest_112 : decode cX3_digest 112 = .ok (.getfield 19, 3) := by decide +kernel
theorem dX3_digest_115 : decode cX3_digest 115 = .ok (.getfield 65, 3) := by decide +kernel
theorem dX3_digest_118 : decode cX3_digest 118 = .ok (.getfield 217, 3) := by decide +kernel
theorem dX3_digest_121 : decode cX3_digest 121 = .ok (.if_icmp .ge 42, 3) := by decide +kernel
theorem dX3_digest_124 : decode cX3_digest 124 = .ok (.iconst 0, 1) := by decide +kernel
theorem dX3_digest_125 : decode cX3_digest 125 = .ok (.istore 4, 2) := by decide +kernel
theorem dX3_digest_127 : decode cX3_digest 127 = .ok (.iload 4, 2) := by decide +kernel
theorem dX3_digest_129 : decode cX3_digest 129 = .ok (.iconst 4, 1) := by decide +kernel
theorem dX3_digest_130 : decode cX3_digest 130 = .ok (.if_icmp .ge 27, 3) := by decide +kernel
theorem dX3_digest_133 : decode cX3_digest 133 = .ok (.lload_n 1, 1) := by decide +kernel
theorem dX3_digest_134 : decode cX3_digest 134 = .ok (.aload_n 0, 1) := by decide +kernel
theorem dX3_digest_135 : decode cX3_digest 135 = .ok (.getfield 19, 3) := by decide +kernel
theorem dX3_digest_138 : decode cX3_digest 138 = .ok (.getfield 65, 3) := by decide +kernel
theorem dX3_digest_141 : decode cX3_digest 141 = .ok (.iload_n 3, 1) := by decide +kernel
theorem dX3_digest_142 : decode cX3_digest 142 = .ok (.iload 4, 2) := by decide +kernel
theorem dX3_digest_144 : decode cX3_digest 144 = .ok (.invokevirtual 167, 3) := by decide +kernel
theorem dX3_digest_147 : decode cX3_digest 147 = .ok (.invokestatic 213, 3) := by decide +kernel
theorem dX3_digest_150 : decode cX3_digest 150 = .ok (.lstore_n 1, 1) := by decide +kernel
theorem dX3_digest_151 : decode cX3_digest 151 = .ok (.iinc 4 1, 3) := by decide +kernel
theorem dX3_digest_154 : decode cX3_digest 154 = .ok (.goto (-27), 3) := by decide +kernel
theorem dX3_digest_157 : decode cX3_digest 157 = .ok (.iinc 3 1, 3) := by decide +kernel
theorem dX3_digest_160 : decode cX3_digest 160 = .ok (.goto (-50), 3) := by decide +kernel
theorem dX3_digest_163 : decode cX3_digest 163 = .ok (.lload_n 1, 1) := by decide +kernel
theorem dX3_digest_164 : decode cX3_digest 164 = .ok (.aload_n 0, 1) := by decide +kernel
theorem dX3_digest_165 : decode cX3_digest 165 = .ok (.getfield 19, 3) := by decide +kernel
theorem dX3_digest_168 : decode cX3_digest 168 = .ok (.getfield 105, 3) := by decide +kernel
theorem dX3_digest_171 : decode cX3_digest 171 = .ok (.iconst 4, 1) := by decide +kernel
theorem dX3_digest_172 : decode cX3_digest 172 = .ok (.invokestatic 220, 3) := by decide +kernel
theorem dX3_digest_175 : decode cX3_digest 175 = .ok (.lstore_n 1, 1) := by decide +kernel
theorem dX3_digest_176 : decode cX3_digest 176 = .ok (.lload_n 1, 1) := by decide +kernel
theorem dX3_digest_177 : decode cX3_digest 177 = .ok (.aload_n 0, 1) := by decide +kernel
theorem dX3_digest_178 : decode cX3_digest 178 = .ok (.getfield 19, 3) := by decide +kernel
theorem dX3_digest_181 : decode cX3_digest 181 = .ok (.getfield 129, 3) := by decide +kernel
theorem dX3_digest_184 : decode cX3_digest 184 = .ok (.iconst 5, 1) := by decide +kernel
theorem dX3_digest_185 : decode cX3_digest 185 = .ok (.invokestatic 220, 3) := by decide +kernel
theorem dX3_digest_188 : decode cX3_digest 188 = .ok (.lreturn, 1) := by decide +kernel
theorem dX3_within_0 : decode cX3_within 0 = .ok (.iload_n 0, 1) := by decide +kernel
theorem dX3_within_1 : decode cX3_within 1 = .ok (.iload_n 1, 1) := by decide +kernel
theorem dX3_within_2 : decode cX3_within 2 = .ok (.if_icmp .lt 12, 3) := by decide +kernel
theorem dX3_within_5 : decode cX3_within 5 = .ok (.iload_n 0, 1) := by decide +kernel
theorem dX3_within_6 : decode cX3_within 6 = .ok (.iload_n 2, 1) := by decide +kernel
theorem dX3_within_7 : decode cX3_within 7 = .ok (.if_icmp .gt 7, 3) := by decide +kernel
theorem dX3_within_10 : decode cX3_within 10 = .ok (.iconst 1, 1) := by decide +kernel
theorem dX3_within_11 : decode cX3_within 11 = .ok (.goto 4, 3) := by decide +kernel
theorem dX3_within_14 : decode cX3_within 14 = .ok (.iconst 0, 1) := by decide +kernel
theorem dX3_within_15 : decode cX3_within 15 = .ok (.ireturn, 1) := by decide +kernel
theorem dX3_strengthOf_0 : decode cX3_strengthOf 0 = .ok (.iload_n 0, 1) := by decide +kernel
theorem dX3_strengthOf_1 : decode cX3_strengthOf 1 = .ok (.iload_n 1, 1) := by decide +kernel
theorem dX3_strengthOf_2 : decode cX3_strengthOf 2 = .ok (.iadd, 1) := by decide +kernel
theorem dX3_strengthOf_3 : decode cX3_strengthOf 3 = .ok (.istore_n 2, 1) := by decide +kernel
theorem dX3_strengthOf_4 : decode cX3_strengthOf 4 = .ok (.iload_n 2, 1) := by decide +kernel
theorem dX3_strengthOf_5 : decode cX3_strengthOf 5 = .ok (.ifCond .gt 7, 3) := by decide +kernel
theorem dX3_strengthOf_8 : decode cX3_strengthOf 8 = .ok (.iconst 0, 1) := by decide +kernel
theorem dX3_strengthOf_9 : decode cX3_strengthOf 9 = .ok (.goto 9, 3) := by decide +kernel
theorem dX3_strengthOf_12 : decode cX3_strengthOf 12 = .ok (.bipush 100, 2) := by decide +kernel
theorem dX3_strengthOf_14 : decode cX3_strengthOf 14 = .ok (.iload_n 1, 1) := by decide +kernel
theorem dX3_strengthOf_15 : decode cX3_strengthOf 15 = .ok (.imul, 1) := by decide +kernel
theorem dX3_strengthOf_16 : decode cX3_strengthOf 16 = .ok (.iload_n 2, 1) := by decide +kernel
theorem dX3_strengthOf_17 : decode cX3_strengthOf 17 = .ok (.idiv, 1) := by decide +kernel
theorem dX3_strengthOf_18 : decode cX3_strengthOf 18 = .ok (.ireturn, 1) := by decide +kernel
theorem dX3_eggBy_0 : decode cX3_eggBy 0 = .ok (.iload_n 0, 1) := by decide +kernel
theorem dX3_eggBy_1 : decode cX3_eggBy 1 = .ok (.bipush 20, 2) := by decide +kernel
theorem dX3_eggBy_3 : decode cX3_eggBy 3 = .ok (.if_icmp .ge 5, 3) := by decide +kernel
theorem dX3_eggBy_6 : decode cX3_eggBy 6 = .ok (.iconst 0, 1) := by decide +kernel
theorem dX3_eggBy_7 : decode cX3_eggBy 7 = .ok (.ireturn, 1) := by decide +kernel
theorem dX3_eggBy_8 : decode cX3_eggBy 8 = .ok (.iload_n 0, 1) := by decide +kernel
theorem dX3_eggBy_9 : decode cX3_eggBy 9 = .ok (.bipush 35, 2) := by decide +kernel
theorem dX3_eggBy_11 : decode cX3_eggBy 11 = .ok (.if_icmp .ge 7, 3) := by decide +kernel
theorem dX3_eggBy_14 : decode cX3_eggBy 14 = .ok (.iconst 1, 1) := by decide +kernel
theorem dX3_eggBy_15 : decode cX3_eggBy 15 = .ok (.goto 4, 3) := by decide +kernel
theorem dX3_eggBy_18 : decode cX3_eggBy 18 = .ok (.iconst 2, 1) := by decide +kernel
theorem dX3_eggBy_19 : decode cX3_eggBy 19 = .ok (.ireturn, 1) := by decide +kernel
theorem dX3_crystalsByBarrel_0 : decode cX3_crystalsByBarrel 0 = .ok (.iload_n 0, 1) := by decide +kernel
theorem dX3_crystalsByBarrel_1 : decode cX3_crystalsByBarrel 1 = .ok (.ifCond .ne 5, 3) := by decide +kernel
theorem dX3_crystalsByBarrel_4 : decode cX3_crystalsByBarrel 4 = .ok (.iconst 2, 1) := by decide +kernel
theorem dX3_crystalsByBarrel_5 : decode cX3_crystalsByBarrel 5 = .ok (.ireturn, 1) := by decide +kernel
theorem dX3_crystalsByBarrel_6 : decode cX3_crystalsByBarrel 6 = .ok (.iload_n 0, 1) := by decide +kernel
theorem dX3_crystalsByBarrel_7 : decode cX3_crystalsByBarrel 7 = .ok (.iconst 1, 1) := by decide +kernel
theorem dX3_crystalsByBarrel_8 : decode cX3_crystalsByBarrel 8 = .ok (.if_icmp .ne 7, 3) := by decide +kernel
theorem dX3_crystalsByBarrel_11 : decode cX3_crystalsByBarrel 11 = .ok (.iconst 5, 1) := by decide +kernel
theorem dX3_crystalsByBarrel_12 : decode cX3_crystalsByBarrel 12 = .ok (.goto 4, 3) := by decide +kernel
theorem dX3_crystalsByBarrel_15 : decode cX3_crystalsByBarrel 15 = .ok (.iconst 3, 1) := by decide +kernel
theorem dX3_crystalsByBarrel_16 : decode cX3_crystalsByBarrel 16 = .ok (.ireturn, 1) := by decide +kernel
theorem dX3_crystalsOf_0 : decode cX3_crystalsOf 0 = .ok (.aload_n 0, 1) := by decide +kernel
theorem dX3_crystalsOf_1 : decode cX3_crystalsOf 1 = .ok (.getfield 19, 3) := by decide +kernel
theorem dX3_crystalsOf_4 : decode cX3_crystalsOf 4 = .ok (.getfield 129, 3) := by decide +kernel
theorem dX3_crystalsOf_7 : decode cX3_crystalsOf 7 = .ok (.getfield 126, 3) := by decide +kernel
theorem dX3_crystalsOf_10 : decode cX3_crystalsOf 10 = .ok (.iload_n 1, 1) := by decide +kernel
theorem dX3_crystalsOf_11 : decode cX3_crystalsOf 11 = .ok (.iaload, 1) := by decide +kernel
theorem dX3_crystalsOf_12 : decode cX3_crystalsOf 12 = .ok (.aload_n 0, 1) := by decide +kernel
theorem dX3_crystalsOf_13 : decode cX3_crystalsOf 13 = .ok (.getfield 19, 3) := by decide +kernel
theorem dX3_crystalsOf_16 : decode cX3_crystalsOf 16 = .ok (.getfield 129, 3) := by decide +kernel
theorem dX3_crystalsOf_19 : decode cX3_crystalsOf 19 = .ok (.iload_n 1, 1) := by decide +kernel
theorem dX3_crystalsOf_20 : decode cX3_crystalsOf 20 = .ok (.invokevirtual 152, 3) := by decide +kernel
theorem dX3_crystalsOf_23 : decode cX3_crystalsOf 23 = .ok (.invokestatic 224, 3) := by decide +kernel
theorem dX3_crystalsOf_26 : decode cX3_crystalsOf 26 = .ok (.iload_n 2, 1) := by decide +kernel
theorem dX3_crystalsOf_27 : decode cX3_crystalsOf 27 = .ok (.imul, 1) := by decide +kernel
theorem dX3_crystalsOf_28 : decode cX3_crystalsOf 28 = .ok (.invokestatic 46, 3) := by decide +kernel
theorem dX3_crystalsOf_31 : decode cX3_crystalsOf 31 = .ok (.ireturn, 1) := by decide +kernel
theorem dX3_rainOf_0 : decode cX3_rainOf 0 = .ok (.aload_n 0, 1) := by decide +kernel
theorem dX3_rainOf_1 : decode cX3_rainOf 1 = .ok (.getfield 9, 3) := by decide +kernel
theorem dX3_rainOf_4 : decode cX3_rainOf 4 = .ok (.iload_n 1, 1) := by decide +kernel
theorem dX3_rainOf_5 : decode cX3_rainOf 5 = .ok (.bipush 6, 2) := by decide +kernel
theorem dX3_rainOf_7 : decode cX3_rainOf 7 = .ok (.invokestatic 227, 3) := by decide +kernel
theorem dX3_rainOf_10 : decode cX3_rainOf 10 = .ok (.iaload, 1) := by decide +kernel
theorem dX3_rainOf_11 : decode cX3_rainOf 11 = .ok (.ireturn, 1) := by decide +kernel
theorem dX3_shipOf_0 : decode cX3_shipOf 0 = .ok (.aload_n 0, 1) := by decide +kernel
theorem dX3_shipOf_1 : decode cX3_shipOf 1 = .ok (.getfield 13, 3) := by decide +kernel
theorem dX3_shipOf_4 : decode cX3_shipOf 4 = .ok (.iload_n 1, 1) := by decide +kernel
theorem dX3_shipOf_5 : decode cX3_shipOf 5 = .ok (.bipush 7, 2) := by decide +kernel
theorem dX3_shipOf_7 : decode cX3_shipOf 7 = .ok (.invokestatic 227, 3) := by decide +kernel
theorem dX3_shipOf_10 : decode cX3_shipOf 10 = .ok (.iaload, 1) := by decide +kernel
theorem dX3_shipOf_11 : decode cX3_shipOf 11 = .ok (.ireturn, 1) := by decide +kernel
theorem dX3_goOn_0 : decode cX3_goOn 0 = .ok (.iconst 0, 1) := by decide +kernel
theorem dX3_goOn_1 : decode cX3_goOn 1 = .ok (.istore_n 3, 1) := by decide +kernel
theorem dX3_goOn_2 : decode cX3_goOn 2 = .ok (.iload_n 3, 1) := by decide +kernel
theorem dX3_goOn_3 : decode cX3_goOn 3 = .ok (.iload_n 2, 1) := by decide +kernel
theorem dX3_goOn_4 : decode cX3_goOn 4 = .ok (.if_icmp .ge 29, 3) := by decide +kernel
theorem dX3_goOn_7 : decode cX3_goOn 7 = .ok (.aload_n 1, 1) := by decide +kernel
theorem dX3_goOn_8 : decode cX3_goOn 8 = .ok (.aload_n 0, 1) := by decide +kernel
theorem dX3_goOn_9 : decode cX3_goOn 9 = .ok (.aload_n 1, 1) := by decide +kernel
theorem dX3_goOn_10 : decode cX3_goOn 10 = .ok (.getfield 230, 3) := by decide +kernel
theorem dX3_goOn_13 : decode cX3_goOn 13 = .ok (.invokevirtual 233, 3) := by decide +kernel
theorem dX3_goOn_16 : decode cX3_goOn 16 = .ok (.aload_n 0, 1) := by decide +kernel
theorem dX3_goOn_17 : decode cX3_goOn 17 = .ok (.aload_n 1, 1) := by decide +kernel
theorem dX3_goOn_18 : decode cX3_goOn 18 = .ok (.getfield 230, 3) := by decide +kernel
theorem dX3_goOn_21 : decode cX3_goOn 21 = .ok (.invokevirtual 236, 3) := by decide +kernel
theorem dX3_goOn_24 : decode cX3_goOn 24 = .ok (.invokevirtual 239, 3) := by decide +kernel
theorem dX3_goOn_27 : decode cX3_goOn 27 = .ok (.iinc 3 1, 3) := by decide +kernel
theorem dX3_goOn_30 : decode cX3_goOn 30 = .ok (.goto (-28), 3) := by decide +kernel
theorem dX3_goOn_33 : decode cX3_goOn 33 = .ok (.return_, 1) := by decide +kernel
theorem dX3_countIn_0 : decode cX3_countIn 0 = .ok (.iload_n 2, 1) := by decide +kernel
theorem dX3_countIn_1 : decode cX3_countIn 1 = .ok (.tableswitch 114 0 8 #[51, 56, 65, 70, 75, 80, 85, 90, 98], 51) := by decide +kernel
theorem dX3_countIn_52 : decode cX3_countIn 52 = .ok (.aload_n 1, 1) := by decide +kernel
theorem dX3_countIn_53 : decode cX3_countIn 53 = .ok (.getfield 230, 3) := by decide +kernel
theorem dX3_countIn_56 : decode cX3_countIn 56 = .ok (.ireturn, 1) := by decide +kernel
theorem dX3_countIn_57 : decode cX3_countIn 57 = .ok (.aload_n 0, 1) := by decide +kernel
theorem dX3_countIn_58 : decode cX3_countIn 58 = .ok (.aload_n 1, 1) := by decide +kernel
theorem dX3_countIn_59 : decode cX3_countIn 59 = .ok (.getfield 230, 3) := by decide +kernel
theorem dX3_countIn_62 : decode cX3_countIn 62 = .ok (.invokevirtual 233, 3) := by decide +kernel
theorem dX3_countIn_65 : decode cX3_countIn 65 = .ok (.ireturn, 1) := by decide +kernel
theorem dX3_countIn_66 : decode cX3_countIn 66 = .ok (.aload_n 1, 1) := by decide +kernel
theorem dX3_countIn_67 : decode cX3_countIn 67 = .ok (.getfield 42, 3) := by decide +kernel
theorem dX3_countIn_70 : decode cX3_countIn 70 = .ok (.ireturn, 1) := by decide +kernel
theorem dX3_countIn_71 : decode cX3_countIn 71 = .ok (.aload_n 1, 1) := by decide +kernel
theorem dX3_countIn_72 : decode cX3_countIn 72 = .ok (.getfield 52, 3) := by decide +kernel
theorem dX3_countIn_75 : decode cX3_countIn 75 = .ok (.ireturn, 1) := by decide +kernel
theorem dX3_countIn_76 : decode cX3_countIn 76 = .ok (.aload_n 1, 1) := by decide +kernel
theorem dX3_countIn_77 : decode cX3_countIn 77 = .ok (.getfield 155, 3) := by decide +kernel
theorem dX3_countIn_80 : decode cX3_countIn 80 = .ok (.ireturn, 1) := by decide +kernel
theorem dX3_countIn_81 : decode cX3_countIn 81 = .ok (.aload_n 1, 1) := by decide +kernel
theorem dX3_countIn_82 : decode cX3_countIn 82 = .ok (.getfield 158, 3) := by decide +kernel
theorem dX3_countIn_85 : decode cX3_countIn 85 = .ok (.ireturn, 1) := by decide +kernel
theorem dX3_countIn_86 : decode cX3_countIn 86 = .ok (.aload_n 1, 1) := by decide +kernel
theorem dX3_countIn_87 : decode cX3_countIn 87 = .ok (.getfield 183, 3) := by decide +kernel
theorem dX3_countIn_90 : decode cX3_countIn 90 = .ok (.ireturn, 1) := by decide +kernel
theorem dX3_countIn_91 : decode cX3_countIn 91 = .ok (.aload_n 1, 1) := by decide +kernel
theorem dX3_countIn_92 : decode cX3_countIn 92 = .ok (.getfield 65, 3) := by decide +kernel
theorem dX3_countIn_95 : decode cX3_countIn 95 = .ok (.invokevirtual 243, 3) := by decide +kernel
theorem dX3_countIn_98 : decode cX3_countIn 98 = .ok (.ireturn, 1) := by decide +kernel
theorem dX3_countIn_99 : decode cX3_countIn 99 = .ok (.aload_n 1, 1) := by decide +kernel
theorem dX3_countIn_100 : decode cX3_countIn 100 = .ok (.getfield 105, 3) := by decide +kernel
theorem dX3_countIn_103 : decode cX3_countIn 103 = .ok (.invokevirtual 246, 3) := by decide +kernel
theorem dX3_countIn_106 : decode cX3_countIn 106 = .ok (.aload_n 1, 1) := by decide +kernel
theorem dX3_countIn_107 : decode cX3_countIn 107 = .ok (.getfield 129, 3) := by decide +kernel
theorem dX3_countIn_110 : decode cX3_countIn 110 = .ok (.invokevirtual 246, 3) := by decide +kernel
theorem dX3_countIn_113 : decode cX3_countIn 113 = .ok (.iadd, 1) := by decide +kernel
theorem dX3_countIn_114 : decode cX3_countIn 114 = .ok (.ireturn, 1) := by decide +kernel
theorem dX3_countIn_115 : decode cX3_countIn 115 = .ok (.aload_n 1, 1) := by decide +kernel
theorem dX3_countIn_116 : decode cX3_countIn 116 = .ok (.getfield 249, 3) := by decide +kernel
theorem dX3_countIn_119 : decode cX3_countIn 119 = .ok (.ireturn, 1) := by decide +kernel
theorem dX3_mix_0 : decode cX3_mix 0 = .ok (.lload_n 0, 1) := by decide +kernel
theorem dX3_mix_1 : decode cX3_mix 1 = .ok (.ldc2_w 252, 3) := by decide +kernel
theorem dX3_mix_4 : decode cX3_mix 4 = .ok (.lmul, 1) := by decide +kernel
theorem dX3_mix_5 : decode cX3_mix 5 = .ok (.iload_n 2, 1) := by decide +kernel
theorem dX3_mix_6 : decode cX3_mix 6 = .ok (.i2l, 1) := by decide +kernel
theorem dX3_mix_7 : decode cX3_mix 7 = .ok (.ladd, 1) := by decide +kernel
theorem dX3_mix_8 : decode cX3_mix 8 = .ok (.lreturn, 1) := by decide +kernel
theorem dX3_mixLiquors_0 : decode cX3_mixLiquors 0 = .ok (.lload_n 0, 1) := by decide +kernel
theorem dX3_mixLiquors_1 : decode cX3_mixLiquors 1 = .ok (.lstore 4, 2) := by decide +kernel
theorem dX3_mixLiquors_3 : decode cX3_mixLiquors 3 = .ok (.iconst 0, 1) := by decide +kernel
theorem dX3_mixLiquors_4 : decode cX3_mixLiquors 4 = .ok (.istore 6, 2) := by decide +kernel
theorem dX3_mixLiquors_6 : decode cX3_mixLiquors 6 = .ok (.iload 6, 2) := by decide +kernel
theorem dX3_mixLiquors_8 : decode cX3_mixLiquors 8 = .ok (.aload_n 2, 1) := by decide +kernel
theorem dX3_mixLiquors_9 : decode cX3_mixLiquors 9 = .ok (.getfield 254, 3) := by decide +kernel
theorem dX3_mixLiquors_12 : decode cX3_mixLiquors 12 = .ok (.if_icmp .ge 39, 3) := by decide +kernel
theorem dX3_mixLiquors_15 : decode cX3_mixLiquors 15 = .ok (.iconst 0, 1) := by decide +kernel
theorem dX3_mixLiquors_16 : decode cX3_mixLiquors 16 = .ok (.istore 7, 2) := by decide +kernel
theorem dX3_mixLiquors_18 : decode cX3_mixLiquors 18 = .ok (.iload 7, 2) := by decide +kernel
theorem dX3_mixLiquors_20 : decode cX3_mixLiquors 20 = .ok (.iload_n 3, 1) := by decide +kernel
theorem dX3_mixLiquors_21 : decode cX3_mixLiquors 21 = .ok (.if_icmp .ge 24, 3) := by decide +kernel
theorem dX3_mixLiquors_24 : decode cX3_mixLiquors 24 = .ok (.lload 4, 2) := by decide +kernel
theorem dX3_mixLiquors_26 : decode cX3_mixLiquors 26 = .ok (.aload_n 2, 1) := by decide +kernel
theorem dX3_mixLiquors_27 : decode cX3_mixLiquors 27 = .ok (.iload 6, 2) := by decide +kernel
theorem dX3_mixLiquors_29 : decode cX3_mixLiquors 29 = .ok (.iload 7, 2) := by decide +kernel
theorem dX3_mixLiquors_31 : decode cX3_mixLiquors 31 = .ok (.invokevirtual 172, 3) := by decide +kernel
theorem dX3_mixLiquors_34 : decode cX3_mixLiquors 34 = .ok (.invokestatic 213, 3) := by decide +kernel
theorem dX3_mixLiquors_37 : decode cX3_mixLiquors 37 = .ok (.lstore 4, 2) := by decide +kernel
theorem dX3_mixLiquors_39 : decode cX3_mixLiquors 39 = .ok (.iinc 7 1, 3) := by decide +kernel
theorem dX3_mixLiquors_42 : decode cX3_mixLiquors 42 = .ok (.goto (-24), 3) := by decide +kernel
theorem dX3_mixLiquors_45 : decode cX3_mixLiquors 45 = .ok (.iinc 6 1, 3) := by decide +kernel
theorem dX3_mixLiquors_48 : decode cX3_mixLiquors 48 = .ok (.goto (-42), 3) := by decide +kernel
theorem dX3_mixLiquors_51 : decode cX3_mixLiquors 51 = .ok (.lload 4, 2) := by decide +kernel
theorem dX3_mixLiquors_53 : decode cX3_mixLiquors 53 = .ok (.lreturn, 1) := by decide +kernel
theorem dX4_init_0 : decode cX4_init 0 = .ok (.aload_n 0, 1) := by decide +kernel
theorem dX4_init_1 : decode cX4_init 1 = .ok (.invokespecial 1, 3) := by decide +kernel
theorem dX4_init_4 : decode cX4_init 4 = .ok (.aload_n 0, 1) := by decide +kernel
theorem dX4_init_5 : decode cX4_init 5 = .ok (.bipush 7, 2) := by decide +kernel
theorem dX4_init_7 : decode cX4_init 7 = .ok (.newarray .int, 2) := by decide +kernel
theorem dX4_init_9 : decode cX4_init 9 = .ok (.putfield 7, 3) := by decide +kernel
theorem dX4_init_12 : decode cX4_init 12 = .ok (.aload_n 0, 1) := by decide +kernel
theorem dX4_init_13 : decode cX4_init 13 = .ok (.bipush 6, 2) := by decide +kernel
theorem dX4_init_15 : decode cX4_init 15 = .ok (.newarray .int, 2) := by decide +kernel
theorem dX4_init_17 : decode cX4_init 17 = .ok (.putfield 13, 3) := by decide +kernel
theorem dX4_init_20 : decode cX4_init 20 = .ok (.aload_n 0, 1) := by decide +kernel
theorem dX4_init_21 : decode cX4_init 21 = .ok (.bipush 7, 2) := by decide +kernel
theorem dX4_init_23 : decode cX4_init 23 = .ok (.newarray .int, 2) := by decide +kernel
theorem dX4_init_25 : decode cX4_init 25 = .ok (.putfield 16, 3) := by decide +kernel
theorem dX4_init_28 : decode cX4_init 28 = .ok (.aload_n 0, 1) := by decide +kernel
theorem dX4_init_29 : decode cX4_init 29 = .ok (.bipush 16, 2) := by decide +kernel
theorem dX4_init_31 : decode cX4_init 31 = .ok (.newarray .int, 2) := by decide +kernel
theorem dX4_init_33 : decode cX4_init 33 = .ok (.putfield 19, 3) := by decide +kernel
theorem dX4_init_36 : decode cX4_init 36 = .ok (.aload_n 0, 1) := by decide +kernel
theorem dX4_init_37 : decode cX4_init 37 = .ok (.bipush 8, 2) := by decide +kernel
theorem dX4_init_39 : decode cX4_init 39 = .ok (.newarray .int, 2) := by decide +kernel
theorem dX4_init_41 : decode cX4_init 41 = .ok (.putfield 22, 3) := by decide +kernel
theorem dX4_init_44 : decode cX4_init 44 = .ok (.aload_n 0, 1) := by decide +kernel
theorem dX4_init_45 : decode cX4_init 45 = .ok (.bipush 9, 2) := by decide +kernel
theorem dX4_init_47 : decode cX4_init 47 = .ok (.newarray .int, 2) := by decide +kernel
theorem dX4_init_49 : decode cX4_init 49 = .ok (.putfield 25, 3) := by decide +kernel
theorem dX4_init_52 : decode cX4_init 52 = .ok (.return_, 1) := by decide +kernel
theorem dX4_thrown_0 : decode cX4_thrown 0 = .ok (.aload_n 0, 1) := by decide +kernel
theorem dX4_thrown_1 : decode cX4_thrown 1 = .ok (.getfield 28, 3) := by decide +kernel
theorem dX4_thrown_4 : decode cX4_thrown 4 = .ok (.ireturn, 1) := by decide +kernel
theorem dX4_fail_0 : decode cX4_fail 0 = .ok (.aload_n 0, 1) := by decide +kernel
theorem dX4_fail_1 : decode cX4_fail 1 = .ok (.iload_n 1, 1) := by decide +kernel
theorem dX4_fail_2 : decode cX4_fail 2 = .ok (.putfield 28, 3) := by decide +kernel
theorem dX4_fail_5 : decode cX4_fail 5 = .ok (.iconst 0, 1) := by decide +kernel
theorem dX4_fail_6 : decode cX4_fail 6 = .ok (.ireturn, 1) := by decide +kernel
theorem dX4_isIn_0 : decode cX4_isIn 0 = .ok (.iload_n 0, 1) := by decide +kernel
theorem dX4_isIn_1 : decode cX4_isIn 1 = .ok (.iload_n 1, 1) := by decide +kernel
theorem dX4_isIn_2 : decode cX4_isIn 2 = .ok (.if_icmp .lt 12, 3) := by decide +kernel
theorem dX4_isIn_5 : decode cX4_isIn 5 = .ok (.iload_n 0, 1) := by decide +kernel
theorem dX4_isIn_6 : decode cX4_isIn 6 = .ok (.iload_n 2, 1) := by decide +kernel
theorem dX4_isIn_7 : decode cX4_isIn 7 = .ok (.if_icmp .gt 7, 3) := by decide +kernel
theorem dX4_isIn_10 : decode cX4_isIn 10 = .ok (.iconst 1, 1) := by decide +kernel
theorem dX4_isIn_11 : decode cX4_isIn 11 = .ok (.goto 4, 3) := by decide +kernel
theorem dX4_isIn_14 : decode cX4_isIn 14 = .ok (.iconst 0, 1) := by decide +kernel
theorem dX4_isIn_15 : decode cX4_isIn 15 = .ok (.ireturn, 1) := by decide +kernel
theorem dX4_isClamp_0 : decode cX4_isClamp 0 = .ok (.iload_n 1, 1) := by decide +kernel
theorem dX4_isClamp_1 : decode cX4_isClamp 1 = .ok (.iconst 0, 1) := by decide +kernel
theorem dX4_isClamp_2 : decode cX4_isClamp 2 = .ok (.aload_n 0, 1) := by decide +kernel
theorem dX4_isClamp_3 : decode cX4_isClamp 3 = .ok (.getfield 32, 3) := by decide +kernel
theorem dX4_isClamp_6 : decode cX4_isClamp 6 = .ok (.iconst 1, 1) := by decide +kernel
theorem dX4_isClamp_7 : decode cX4_isClamp 7 = .ok (.isub, 1) := by decide +kernel
theorem dX4_isClamp_8 : decode cX4_isClamp 8 = .ok (.invokestatic 35, 3) := by decide +kernel
theorem dX4_isClamp_11 : decode cX4_isClamp 11 = .ok (.ireturn, 1) := by decide +kernel
theorem dX4_isPit_0 : decode cX4_isPit 0 = .ok (.iload_n 1, 1) := by decide +kernel
theorem dX4_isPit_1 : decode cX4_isPit 1 = .ok (.iconst 0, 1) := by decide +kernel
theorem dX4_isPit_2 : decode cX4_isPit 2 = .ok (.aload_n 0, 1) := by decide +kernel
theorem dX4_isPit_3 : decode cX4_isPit 3 = .ok (.getfield 39, 3) := by decide +kernel
theorem dX4_isPit_6 : decode cX4_isPit 6 = .ok (.iconst 1, 1) := by decide +kernel
theorem dX4_isPit_7 : decode cX4_isPit 7 = .ok (.isub, 1) := by decide +kernel
theorem dX4_isPit_8 : decode cX4_isPit 8 = .ok (.invokestatic 35, 3) := by decide +kernel
theorem dX4_isPit_11 : decode cX4_isPit 11 = .ok (.ireturn, 1) := by decide +kernel
theorem dX4_isPan_0 : decode cX4_isPan 0 = .ok (.iload_n 1, 1) := by decide +kernel
theorem dX4_isPan_1 : decode cX4_isPan 1 = .ok (.iconst 0, 1) := by decide +kernel
theorem dX4_isPan_2 : decode cX4_isPan 2 = .ok (.aload_n 0, 1) := by decide +kernel
theorem dX4_isPan_3 : decode cX4_isPan 3 = .ok (.getfield 42, 3) := by decide +kernel
theorem dX4_isPan_6 : decode cX4_isPan 6 = .ok (.iconst 1, 1) := by decide +kernel
theorem dX4_isPan_7 : decode cX4_isPan 7 = .ok (.isub, 1) := by decide +kernel
theorem dX4_isPan_8 : decode cX4_isPan 8 = .ok (.invokestatic 35, 3) := by decide +kernel
theorem dX4_isPan_11 : decode cX4_isPan 11 = .ok (.ireturn, 1) := by decide +kernel
theorem dX4_bring_0 : decode cX4_bring 0 = .ok (.aload_n 0, 1) := by decide +kernel
theorem dX4_bring_1 : decode cX4_bring 1 = .ok (.iconst 0, 1) := by decide +kernel
theorem dX4_bring_2 : decode cX4_bring 2 = .ok (.putfield 28, 3) := by decide +kernel
theorem dX4_bring_5 : decode cX4_bring 5 = .ok (.iload_n 1, 1) := by decide +kernel
theorem dX4_bring_6 : decode cX4_bring 6 = .ok (.iconst 0, 1) := by decide +kernel
theorem dX4_bring_7 : decode cX4_bring 7 = .ok (.iconst 1, 1) := by decide +kernel
theorem dX4_bring_8 : decode cX4_bring 8 = .ok (.invokestatic 35, 3) := by decide +kernel
theorem dX4_bring_11 : decode cX4_bring 11 = .ok (.ifCond .ne 9, 3) := by decide +kernel
theorem dX4_bring_14 : decode cX4_bring 14 = .ok (.aload_n 0, 1) := by decide +kernel
theorem dX4_bring_15 : decode cX4_bring 15 = .ok (.iconst 1, 1) := by decide +kernel
theorem dX4_bring_16 : decode cX4_bring 16 = .ok (.invokevirtual 45, 3) := by decide +kernel
theorem dX4_bring_19 : decode cX4_bring 19 = .ok (.ireturn, 1) := by decide +kernel
theorem dX4_bring_20 : decode cX4_bring 20 = .ok (.iload_n 2, 1) := by decide +kernel
theorem dX4_bring_21 : decode cX4_bring 21 = .ok (.iconst 1, 1) := by decide +kernel
theorem dX4_bring_22 : decode cX4_bring 22 = .ok (.sipush 500, 3) := by decide +kernel
theorem dX4_bring_25 : decode cX4_bring 25 = .ok (.invokestatic 35, 3) := by decide +kernel
theorem dX4_bring_28 : decode cX4_bring 28 = .ok (.ifCond .ne 9, 3) := by decide +kernel
theorem dX4_bring_31 : decode cX4_bring 31 = .ok (.aload_n 0, 1) := by decide +kernel
theorem dX4_bring_32 : decode cX4_bring 32 = .ok (.iconst 2, 1) := by decide +kernel
theorem dX4_bring_33 : decode cX4_bring 33 = .ok (.invokevirtual 45, 3) := by decide +kernel
theorem dX4_bring_36 : decode cX4_bring 36 = .ok (.ireturn, 1) := by decide +kernel
theorem dX4_bring_37 : decode cX4_bring 37 = .ok (.aload_n 0, 1) := by decide +kernel
theorem dX4_bring_38 : decode cX4_bring 38 = .ok (.getfield 7, 3) := by decide +kernel
theorem dX4_bring_41 : decode cX4_bring 41 = .ok (.iconst 1, 1) := by decide +kernel
theorem dX4_bring_42 : decode cX4_bring 42 = .ok (.iload_n 1, 1) := by decide +kernel
theorem dX4_bring_43 : decode cX4_bring 43 = .ok (.iadd, 1) := by decide +kernel
theorem dX4_bring_44 : decode cX4_bring 44 = .ok (.iload_n 1, 1) := by decide +kernel
theorem dX4_bring_45 : decode cX4_bring 45 = .ok (.ifCond .ne 9, 3) := by decide +kernel
theorem dX4_bring_48 : decode cX4_bring 48 = .ok (.sipush 500, 3) := by decide +kernel
theorem dX4_bring_51 : decode cX4_bring 51 = .ok (.goto 5, 3) := by decide +kernel
theorem dX4_bring_54 : decode cX4_bring 54 = .ok (.bipush 99, 2) := by decide +kernel
theorem dX4_bring_56 : decode cX4_bring 56 = .ok (.aload_n 0, 1) := by decide +kernel
theorem dX4_bring_57 : decode cX4_bring 57 = .ok (.getfield 7, 3) := by decide +kernel
theorem dX4_bring_60 : decode cX4_bring 60 = .ok (.iconst 1, 1) := by decide +kernel
theorem dX4_bring_61 : decode cX4_bring 61 = .ok (.iload_n 1, 1) := by decide +kernel
theorem dX4_bring_62 : decode cX4_bring 62 = .ok (.iadd, 1) := by decide +kernel
theorem dX4_bring_63 : decode cX4_bring 63 = .ok (.iaload, 1) := by decide +kernel
theorem dX4_bring_64 : decode cX4_bring 64 = .ok (.iload_n 2, 1) := by decide +kernel
theorem dX4_bring_65 : decode cX4_bring 65 = .ok (.iadd, 1) := by decide +kernel
theorem dX4_bring_66 : decode cX4_bring 66 = .ok (.invokestatic 49, 3) := by decide +kernel
theorem dX4_bring_69 : decode cX4_bring 69 = .ok (.iastore, 1) := by decide +kernel
theorem dX4_bring_70 : decode cX4_bring 70 = .ok (.aload_n 0, 1) := by decide +kernel
theorem dX4_bring_71 : decode cX4_bring 71 = .ok (.getfield 7, 3) := by decide +kernel
theorem dX4_bring_74 : decode cX4_bring 74 = .ok (.iconst 1, 1) := by decide +kernel
theorem dX4_bring_75 : decode cX4_bring 75 = .ok (.iload_n 1, 1) := by decide +kernel
theorem dX4_bring_76 : decode cX4_bring 76 = .ok (.iadd, 1) := by decide +kernel
theorem dX4_bring_77 : decode cX4_bring 77 = .ok (.iaload, 1) := by decide +kernel
theorem dX4_bring_78 : decode cX4_bring 78 = .ok (.ireturn, 1) := by decide +kernel
theorem dX4_setRain_0 : decode cX4_setRain 0 = .ok (.aload_n 0, 1) := by decide +kernel
theorem dX4_setRain_1 : decode cX4_setRain 1 = .ok (.iconst 0, 1) := by decide +kernel
theorem dX4_setRain_2 : decode cX4_setRain 2 = .ok (.putfield 28, 3) := by decide +kernel
theorem dX4_setRain_5 : decode cX4_setRain 5 = .ok (.iload_n 1, 1) := by decide +kernel
theorem dX4_setRain_6 : decode cX4_setRain 6 = .ok (.iconst 0, 1) := by decide +kernel
theorem dX4_setRain_7 : decode cX4_setRain 7 = .ok (.iconst 5, 1) := by decide +kernel
theorem dX4_setRain_8 : decode cX4_setRain 8 = .ok (.invokestatic 35, 3) := by decide +kernel
theorem dX4_setRain_11 : decode cX4_setRain 11 = .ok (.ifCond .ne 9, 3) := by decide +kernel
theorem dX4_setRain_14 : decode cX4_setRain 14 = .ok (.aload_n 0, 1) := by decide +kernel
theorem dX4_setRain_15 : decode cX4_setRain 15 = .ok (.iconst 1, 1) := by decide +kernel
theorem dX4_setRain_16 : decode cX4_setRain 16 = .ok (.invokevirtual 45, 3) := by decide +kernel
theorem dX4_setRain_19 : decode cX4_setRain 19 = .ok (.ireturn, 1) := by decide +kernel
theorem dX4_setRain_20 : decode cX4_setRain 20 = .ok (.iload_n 2, 1) := by decide +kernel
theorem dX4_setRain_21 : decode cX4_setRain 21 = .ok (.iconst 0, 1) := by decide +kernel
theorem dX4_setRain_22 : decode cX4_setRain 22 = .ok (.bipush 9, 2) := by decide +kernel
theorem dX4_setRain_24 : decode cX4_setRain 24 = .ok (.invokestatic 35, 3) := by decide +kernel
theorem dX4_setRain_27 : decode cX4_setRain 27 = .ok (.ifCond .ne 9, 3) := by decide +kernel
theorem dX4_setRain_30 : decode cX4_setRain 30 = .ok (.aload_n 0, 1) := by decide +kernel
theorem dX4_setRain_31 : decode cX4_setRain 31 = .ok (.iconst 2, 1) := by decide +kernel
theorem dX4_setRain_32 : decode cX4_setRain 32 = .ok (.invokevirtual 45, 3) := by decide +kernel
theorem dX4_setRain_35 : decode cX4_setRain 35 = .ok (.ireturn, 1) := by decide +kernel
theorem dX4_setRain_36 : decode cX4_setRain 36 = .ok (.aload_n 0, 1) := by decide +kernel
theorem dX4_setRain_37 : decode cX4_setRain 37 = .ok (.getfield 13, 3) := by decide +kernel
theorem dX4_setRain_40 : decode cX4_setRain 40 = .ok (.iload_n 1, 1) := by decide +kernel
theorem dX4_setRain_41 : decode cX4_setRain 41 = .ok (.iaload, 1) := by decide +kernel
theorem dX4_setRain_42 : decode cX4_setRain 42 = .ok (.istore_n 3, 1) := by decide +kernel
theorem dX4_setRain_43 : decode cX4_setRain 43 = .ok (.aload_n 0, 1) := by decide +kernel
theorem dX4_setRain_44 : decode cX4_setRain 44 = .ok (.getfield 13, 3) := by decide +kernel
theorem dX4_setRain_47 : decode cX4_setRain 47 = .ok (.iload_n 1, 1) := by decide +kernel
theorem dX4_setRain_48 : decode cX4_setRain 48 = .ok (.iload_n 2, 1) := by decide +kernel
theorem dX4_setRain_49 : decode cX4_setRain 49 = .ok (.iastore, 1) := by decide +kernel
theorem dX4_setRain_50 : decode cX4_setRain 50 = .ok (.iload_n 3, 1) := by decide +kernel
theorem dX4_setRain_51 : decode cX4_setRain 51 = .ok (.ireturn, 1) := by decide +kernel
theorem dX4_setShip_0 : decode cX4_setShip 0 = .ok (.aload_n 0, 1) := by decide +kernel
theorem dX4_setShip_1 : decode cX4_setShip 1 = .ok (.iconst 0, 1) := by decide +kernel
theorem dX4_setShip_2 : decode cX4_setShip 2 = .ok (.putfield 28, 3) := by decide +kernel
theorem dX4_setShip_5 : decode cX4_setShip 5 = .ok (.iload_n 1, 1) := by decide +kernel
theorem dX4_setShip_6 : decode cX4_setShip 6 = .ok (.iconst 0, 1) := by decide +kernel
theorem dX4_setShip_7 : decode cX4_setShip 7 = .ok (.bipush 6, 2) := by decide +kernel
theorem dX4_setShip_9 : decode cX4_setShip 9 = .ok (.invokestatic 35, 3) := by decide +kernel
theorem dX4_setShip_12 : decode cX4_setShip 12 = .ok (.ifCond .ne 9, 3) := by decide +kernel
theorem dX4_setShip_15 : decode cX4_setShip 15 = .ok (.aload_n 0, 1) := by decide +kernel
theorem dX4_setShip_16 : decode cX4_setShip 16 = .ok (.iconst 1, 1) := by decide +kernel
theorem dX4_setShip_17 : decode cX4_setShip 17 = .ok (.invokevirtual 45, 3) := by decide +kernel
theorem dX4_setShip_20 : decode cX4_setShip 20 = .ok (.ireturn, 1) := by decide +kernel
theorem dX4_setShip_21 : decode cX4_setShip 21 = .ok (.iload_n 2, 1) := by decide +kernel
theorem dX4_setShip_22 : decode cX4_setShip 22 = .ok (.iconst 0, 1) := by decide +kernel
theorem dX4_setShip_23 : decode cX4_setShip 23 = .ok (.bipush 60, 2) := by decide +kernel
theorem dX4_setShip_25 : decode cX4_setShip 25 = .ok (.invokestatic 35, 3) := by decide +kernel
theorem dX4_setShip_28 : decode cX4_setShip 28 = .ok (.ifCond .ne 9, 3) := by decide +kernel
theorem dX4_setShip_31 : decode cX4_setShip 31 = .ok (.aload_n 0, 1) := by decide +kernel
theorem dX4_setShip_32 : decode cX4_setShip 32 = .ok (.iconst 2, 1) := by decide +kernel
theorem dX4_setShip_33 : decode cX4_setShip 33 = .ok (.invokevirtual 45, 3) := by decide +kernel
theorem dX4_setShip_36 : decode cX4_setShip 36 = .ok (.ireturn, 1) := by decide +kernel
theorem dX4_setShip_37 : decode cX4_setShip 37 = .ok (.aload_n 0, 1) := by decide +kernel
theorem dX4_setShip_38 : decode cX4_setShip 38 = .ok (.getfield 16, 3) := by decide +kernel
theorem dX4_setShip_41 : decode cX4_setShip 41 = .ok (.iload_n 1, 1) := by decide +kernel
theorem dX4_setShip_42 : decode cX4_setShip 42 = .ok (.iaload, 1) := by decide +kernel
theorem dX4_setShip_43 : decode cX4_setShip 43 = .ok (.istore_n 3, 1) := by decide +kernel
theorem dX4_setShip_44 : decode cX4_setShip 44 = .ok (.aload_n 0, 1) := by decide +kernel
theorem dX4_setShip_45 : decode cX4_setShip 45 = .ok (.getfield 16, 3) := by decide +kernel
theorem dX4_setShip_48 : decode cX4_setShip 48 = .ok (.iload_n 1, 1) := by decide +kernel
theorem dX4_setShip_49 : decode cX4_setShip 49 = .ok (.iload_n 2, 1) := by decide +kernel
theorem dX4_setShip_50 : decode cX4_setShip 50 = .ok (.iastore, 1) := by decide +kernel
theorem dX4_setShip_51 : decode cX4_setShip 51 = .ok (.iload_n 3, 1) := by decide +kernel
theorem dX4_setShip_52 : decode cX4_setShip 52 = .ok (.ireturn, 1) := by decide +kernel
theorem dX4_pile_0 : decode cX4_pile 0 = .ok (.aload_n 0, 1) := by decide +kernel
theorem dX4_pile_1 : decode cX4_pile 1 = .ok (.iconst 0, 1) := by decide +kernel
theorem dX4_pile_2 : decode cX4_pile 2 = .ok (.putfield 28, 3) := by decide +kernel
theorem dX4_pile_5 : decode cX4_pile 5 = .ok (.iload_n 1, 1) := by decide +kernel
theorem dX4_pile_6 : decode cX4_pile 6 = .ok (.iconst 1, 1) := by decide +kernel
theorem dX4_pile_7 : decode cX4_pile 7 = .ok (.sipush 200, 3) := by decide +kernel
theorem dX4_pile_10 : decode cX4_pile 10 = .ok (.invokestatic 35, 3) := by decide +kernel
theorem dX4_pile_13 : decode cX4_pile 13 = .ok (.ifCond .ne 9, 3) := by decide +kernel
theorem dX4_pile_16 : decode cX4_pile 16 = .ok (.aload_n 0, 1) := by decide +kernel
theorem dX4_pile_17 : decode cX4_pile 17 = .ok (.iconst 1, 1) := by decide +kernel
theorem dX4_pile_18 : decode cX4_pile 18 = .ok (.invokevirtual 45, 3) := by decide +kernel
theorem dX4_pile_21 : decode cX4_pile 21 = .ok (.ireturn, 1) := by decide +kernel
theorem dX4_pile_22 : decode cX4_pile 22 = .ok (.aload_n 0, 1) := by decide +kernel
theorem dX4_pile_23 : decode cX4_pile 23 = .ok (.getfield 32, 3) := by decide +kernel
theorem dX4_pile_26 : decode cX4_pile 26 = .ok (.iconst 4, 1) := by decide +kernel
theorem dX4_pile_27 : decode cX4_pile 27 = .ok (.if_icmp .ne 9, 3) := by decide +kernel
theorem dX4_pile_30 : decode cX4_pile 30 = .ok (.aload_n 0, 1) := by decide +kernel
theorem dX4_pile_31 : decode cX4_pile 31 = .ok (.iconst 2, 1) := by decide +kernel
theorem dX4_pile_32 : decode cX4_pile 32 = .ok (.invokevirtual 45, 3) := by decide +kernel
theorem dX4_pile_35 : decode cX4_pile 35 = .ok (.ireturn, 1) := by decide +kernel
theorem dX4_pile_36 : decode cX4_pile 36 = .ok (.aload_n 0, 1) := by decide +kernel
theorem dX4_pile_37 : decode cX4_pile 37 = .ok (.getfield 19, 3) := by decide +kernel
theorem dX4_pile_40 : decode cX4_pile 40 = .ok (.iconst 4, 1) := by decide +kernel
theorem dX4_pile_41 : decode cX4_pile 41 = .ok (.aload_n 0, 1) := by decide +kernel
theorem dX4_pile_42 : decode cX4_pile 42 = .ok (.getfield 32, 3) := by decide +kernel
theorem dX4_pile_45 : decode cX4_pile 45 = .ok (.imul, 1) := by decide +kernel
theorem dX4_pile_46 : decode cX4_pile 46 = .ok (.iload_n 1, 1) := by decide +kernel
theorem dX4_pile_47 : decode cX4_pile 47 = .ok (.iastore, 1) := by decide +kernel
theorem dX4_pile_48 : decode cX4_pile 48 = .ok (.aload_n 0, 1) := by decide +kernel
theorem dX4_pile_49 : decode cX4_pile 49 = .ok (.dup, 1) := by decide +kernel
theorem dX4_pile_50 : decode cX4_pile 50 = .ok (.getfield 32, 3) := by decide +kernel
theorem dX4_pile_53 : decode cX4_pile 53 = .ok (.iconst 1, 1) := by decide +kernel
theorem dX4_pile_54 : decode cX4_pile 54 = .ok (.iadd, 1) := by decide +kernel
theorem dX4_pile_55 : decode cX4_pile 55 = .ok (.putfield 32, 3) := by decide +kernel
theorem dX4_pile_58 : decode cX4_pile 58 = .ok (.aload_n 0, 1) := by decide +kernel
theorem dX4_pile_59 : decode cX4_pile 59 = .ok (.getfield 32, 3) := by decide +kernel
theorem dX4_pile_62 : decode cX4_pile 62 = .ok (.iconst 1, 1) := by decide +kernel
theorem dX4_pile_63 : decode cX4_pile 63 = .ok (.isub, 1) := by decide +kernel
theorem dX4_pile_64 : decode cX4_pile 64 = .ok (.ireturn, 1) := by decide +kernel
theorem dX4_light_0 : decode cX4_light 0 = .ok (.aload_n 0, 1) := by decide +kernel
theorem dX4_light_1 : decode cX4_light 1 = .ok (.iconst 0, 1) := by decide +kernel
theorem dX4_light_2 : decode cX4_light 2 = .ok (.putfield 28, 3) := by decide +kernel
theorem dX4_light_5 : decode cX4_light 5 = .ok (.aload_n 0, 1) := by decide +kernel
theorem dX4_light_6 : decode cX4_light 6 = .ok (.iload_n 1, 1) := by decide +kernel
theorem dX4_light_7 : decode cX4_light 7 = .ok (.invokevirtual 55, 3) := by decide +kernel
theorem dX4_light_10 : decode cX4_light 10 = .ok (.ifCond .ne 9, 3) := by decide +kernel
theorem dX4_light_13 : decode cX4_light 13 = .ok (.aload_n 0, 1) := by decide +kernel
theorem dX4_light_14 : decode cX4_light 14 = .ok (.iconst 1, 1) := by decide +kernel
theorem dX4_light_15 : decode cX4_light 15 = .ok (.invokevirtual 45, 3) := by decide +kernel
theorem dX4_light_18 : decode cX4_light 18 = .ok (.ireturn, 1) := by decide +kernel
theorem dX4_light_19 : decode cX4_light 19 = .ok (.iload_n 2, 1) := by decide +kernel
theorem dX4_light_20 : decode cX4_light 20 = .ok (.iconst 1, 1) := by decide +kernel
theorem dX4_light_21 : decode cX4_light 21 = .ok (.bipush 60, 2) := by decide +kernel
theorem dX4_light_23 : decode cX4_light 23 = .ok (.invokestatic 35, 3) := by decide +kernel
theorem dX4_light_26 : decode cX4_light 26 = .ok (.ifCond .ne 9, 3) := by decide +kernel
theorem dX4_light_29 : decode cX4_light 29 = .ok (.aload_n 0, 1) := by decide +kernel
theorem dX4_light_30 : decode cX4_light 30 = .ok (.iconst 2, 1) := by decide +kernel
theorem dX4_light_31 : decode cX4_light 31 = .ok (.invokevirtual 45, 3) := by decide +kernel
theorem dX4_light_34 : decode cX4_light 34 = .ok (.ireturn, 1) := by decide +kernel
theorem dX4_light_35 : decode cX4_light 35 = .ok (.iconst 4, 1) := by decide +kernel
theorem dX4_light_36 : decode cX4_light 36 = .ok (.iload_n 1, 1) := by decide +kernel
theorem dX4_light_37 : decode cX4_light 37 = .ok (.imul, 1) := by decide +kernel
theorem dX4_light_38 : decode cX4_light 38 = .ok (.istore_n 3, 1) := by decide +kernel
theorem dX4_light_39 : decode cX4_light 39 = .ok (.aload_n 0, 1) := by decide +kernel
theorem dX4_light_40 : decode cX4_light 40 = .ok (.getfield 7, 3) := by decide +kernel
theorem dX4_light_43 : decode cX4_light 43 = .ok (.iconst 1, 1) := by decide +kernel
theorem dX4_light_44 : decode cX4_light 44 = .ok (.iaload, 1) := by decide +kernel
theorem dX4_light_45 : decode cX4_light 45 = .ok (.iload_n 2, 1) := by decide +kernel
theorem dX4_light_46 : decode cX4_light 46 = .ok (.if_icmp .lt 12, 3) := by decide +kernel
theorem dX4_light_49 : decode cX4_light 49 = .ok (.aload_n 0, 1) := by decide +kernel
theorem dX4_light_50 : decode cX4_light 50 = .ok (.getfield 19, 3) := by decide +kernel
theorem dX4_light_53 : decode cX4_light 53 = .ok (.iload_n 3, 1) := by decide +kernel
theorem dX4_light_54 : decode cX4_light 54 = .ok (.iaload, 1) := by decide +kernel
theorem dX4_light_55 : decode cX4_light 55 = .ok (.ifCond .ne 9, 3) := by decide +kernel
theorem dX4_light_58 : decode cX4_light 58 = .ok (.aload_n 0, 1) := by decide +kernel
theorem dX4_light_59 : decode cX4_light 59 = .ok (.iconst 3, 1) := by decide +kernel
theorem dX4_light_60 : decode cX4_light 60 = .ok (.invokevirtual 45, 3) := by decide +kernel
theorem dX4_light_63 : decode cX4_light 63 = .ok (.ireturn, 1) := by decide +kernel
theorem dX4_light_64 : decode cX4_light 64 = .ok (.aload_n 0, 1) := by decide +kernel
theorem dX4_light_65 : decode cX4_light 65 = .ok (.getfield 7, 3) := by decide +kernel
theorem dX4_light_68 : decode cX4_light 68 = .ok (.iconst 1, 1) := by decide +kernel
theorem dX4_light_69 : decode cX4_light 69 = .ok (.dup2, 1) := by decide +kernel
theorem dX4_light_70 : decode cX4_light 70 = .ok (.iaload, 1) := by decide +kernel
theorem dX4_light_71 : decode cX4_light 71 = .ok (.iload_n 2, 1) := by decide +kernel
theorem dX4_light_72 : decode cX4_light 72 = .ok (.isub, 1) := by decide +kernel
theorem dX4_light_73 : decode cX4_light 73 = .ok (.iastore, 1) := by decide +kernel
theorem dX4_light_74 : decode cX4_light 74 = .ok (.aload_n 0, 1) := by decide +kernel
theorem dX4_light_75 : decode cX4_light 75 = .ok (.getfield 19, 3) := by decide +kernel
theorem dX4_light_78 : decode cX4_light 78 = .ok (.iload_n 3, 1) := by decide +kernel
theorem dX4_light_79 : decode cX4_light 79 = .ok (.iconst 1, 1) := by decide +kernel
theorem dX4_light_80 : decode cX4_light 80 = .ok (.iadd, 1) := by decide +kernel
theorem dX4_light_81 : decode cX4_light 81 = .ok (.bipush 60, 2) := by decide +kernel
theorem dX4_light_83 : decode cX4_light 83 = .ok (.aload_n 0, 1) := by decide +kernel
theorem dX4_light_84 : decode cX4_light 84 = .ok (.getfield 19, 3) := by decide +kernel
theorem dX4_light_87 : decode cX4_light 87 = .ok (.iload_n 3, 1) := by decide +kernel
theorem dX4_light_88 : decode cX4_light 88 = .ok (.iconst 1, 1) := by decide +kernel
theorem dX4_light_89 : decode cX4_light 89 = .ok (.iadd, 1) := by decide +kernel
theorem dX4_light_90 : decode cX4_light 90 = .ok (.iaload, 1) := by decide +kernel
theorem dX4_light_91 : decode cX4_light 91 = .ok (.iload_n 2, 1) := by decide +kernel
theorem dX4_light_92 : decode cX4_light 92 = .ok (.iadd, 1) := by decide +kernel
theorem dX4_light_93 : decode cX4_light 93 = .ok (.invokestatic 49, 3) := by decide +kernel
theorem dX4_light_96 : decode cX4_light 96 = .ok (.iastore, 1) := by decide +kernel
theorem dX4_light_97 : decode cX4_light 97 = .ok (.aload_n 0, 1) := by decide +kernel
theorem dX4_light_98 : decode cX4_light 98 = .ok (.getfield 19, 3) := by decide +kernel
theorem dX4_light_101 : decode cX4_light 101 = .ok (.iload_n 3, 1) := by decide +kernel
theorem dX4_light_102 : decode cX4_light 102 = .ok (.iconst 3, 1) := by decide +kernel
theorem dX4_light_103 : decode cX4_light 103 = .ok (.iadd, 1) := by decide +kernel
theorem dX4_light_104 : decode cX4_light 104 = .ok (.iconst 1, 1) := by decide +kernel
theorem dX4_light_105 : decode cX4_light 105 = .ok (.iastore, 1) := by decide +kernel
theorem dX4_light_106 : decode cX4_light 106 = .ok (.aload_n 0, 1) := by decide +kernel
theorem dX4_light_107 : decode cX4_light 107 = .ok (.getfield 19, 3) := by decide +kernel
theorem dX4_light_110 : decode cX4_light 110 = .ok (.iload_n 3, 1) := by decide +kernel
theorem dX4_light_111 : decode cX4_light 111 = .ok (.iconst 1, 1) := by decide +kernel
theorem dX4_light_112 : decode cX4_light 112 = .ok (.iadd, 1) := by decide +kernel
theorem dX4_light_113 : decode cX4_light 113 = .ok (.iaload, 1) := by decide +kernel
theorem dX4_light_114 : decode cX4_light 114 = .ok (.ireturn, 1) := by decide +kernel
theorem dX4_dig_0 : decode cX4_dig 0 = .ok (.aload_n 0, 1) := by decide +kernel
theorem dX4_dig_1 : decode cX4_dig 1 = .ok (.iconst 0, 1) := by decide +kernel
theorem dX4_dig_2 : decode cX4_dig 2 = .ok (.putfield 28, 3) := by decide +kernel
theorem dX4_dig_5 : decode cX4_dig 5 = .ok (.iload_n 1, 1) := by decide +kernel
theorem dX4_dig_6 : decode cX4_dig 6 = .ok (.iconst 0, 1) := by decide +kernel
theorem dX4_dig_7 : decode cX4_dig 7 = .ok (.sipush 400, 3) := by decide +kernel
theorem dX4_dig_10 : decode cX4_dig 10 = .ok (.invokestatic 35, 3) := by decide +kernel
theorem dX4_dig_13 : decode cX4_dig 13 = .ok (.ifCond .ne 9, 3) := by decide +kernel
theorem dX4_dig_16 : decode cX4_dig 16 = .ok (.aload_n 0, 1) := by decide +kernel
theorem dX4_dig_17 : decode cX4_dig 17 = .ok (.iconst 1, 1) := by decide +kernel
theorem dX4_dig_18 : decode cX4_dig 18 = .ok (.invokevirtual 45, 3) := by decide +kernel
theorem dX4_dig_21 : decode cX4_dig 21 = .ok (.ireturn, 1) := by decide +kernel
theorem dX4_dig_22 : decode cX4_dig 22 = .ok (.aload_n 0, 1) := by decide +kernel
theorem dX4_dig_23 : decode cX4_dig 23 = .ok (.getfield 39, 3) := by decide +kernel
theorem dX4_dig_26 : decode cX4_dig 26 = .ok (.iconst 4, 1) := by decide +kernel
theorem dX4_dig_27 : decode cX4_dig 27 = .ok (.if_icmp .ne 9, 3) := by decide +kernel
theorem dX4_dig_30 : decode cX4_dig 30 = .ok (.aload_n 0, 1) := by decide +kernel
theorem dX4_dig_31 : decode cX4_dig 31 = .ok (.iconst 2, 1) := by decide +kernel
theorem dX4_dig_32 : decode cX4_dig 32 = .ok (.invokevirtual 45, 3) := by decide +kernel
theorem dX4_dig_35 : decode cX4_dig 35 = .ok (.ireturn, 1) := by decide +kernel
theorem dX4_dig_36 : decode cX4_dig 36 = .ok (.aload_n 0, 1) := by decide +kernel
theorem dX4_dig_37 : decode cX4_dig 37 = .ok (.getfield 22, 3) := by decide +kernel
theorem dX4_dig_40 : decode cX4_dig 40 = .ok (.iconst 2, 1) := by decide +kernel
theorem dX4_dig_41 : decode cX4_dig 41 = .ok (.aload_n 0, 1) := by decide +kernel
theorem dX4_dig_42 : decode cX4_dig 42 = .ok (.getfield 39, 3) := by decide +kernel
theorem dX4_dig_45 : decode cX4_dig 45 = .ok (.imul, 1) := by decide +kernel
theorem dX4_dig_46 : decode cX4_dig 46 = .ok (.iload_n 1, 1) := by decide +kernel
theorem dX4_dig_47 : decode cX4_dig 47 = .ok (.iastore, 1) := by decide +kernel
theorem dX4_dig_48 : decode cX4_dig 48 = .ok (.aload_n 0, 1) := by decide +kernel
theorem dX4_dig_49 : decode cX4_dig 49 = .ok (.dup, 1) := by decide +kernel
theorem dX4_dig_50 : decode cX4_dig 50 = .ok (.getfield 39, 3) := by decide +kernel
theorem dX4_dig_53 : decode cX4_dig 53 = .ok (.iconst 1, 1) := by decide +kernel
theorem dX4_dig_54 : decode cX4_dig 54 = .ok (.iadd, 1) := by decide +kernel
theorem dX4_dig_55 : decode cX4_dig 55 = .ok (.putfield 39, 3) := by decide +kernel
theorem dX4_dig_58 : decode cX4_dig 58 = .ok (.aload_n 0, 1) := by decide +kernel
theorem dX4_dig_59 : decode cX4_dig 59 = .ok (.getfield 39, 3) := by decide +kernel
theorem dX4_dig_62 : decode cX4_dig 62 = .ok (.iconst 1, 1) := by decide +kernel
theorem dX4_dig_63 : decode cX4_dig 63 = .ok (.isub, 1) := by decide +kernel
theorem dX4_dig_64 : decode cX4_dig 64 = .ok (.ireturn, 1) := by decide +kernel
theorem dX4_steep_0 : decode cX4_steep 0 = .ok (.aload_n 0, 1) := by decide +kernel
theorem dX4_steep_1 : decode cX4_steep 1 = .ok (.iconst 0, 1) := by decide +kernel
theorem dX4_steep_2 : decode cX4_steep 2 = .ok (.putfield 28, 3) := by decide +kernel
theorem dX4_steep_5 : decode cX4_steep 5 = .ok (.aload_n 0, 1) := by decide +kernel
theorem dX4_steep_6 : decode cX4_steep 6 = .ok (.iload_n 1, 1) := by decide +kernel
theorem dX4_steep_7 : decode cX4_steep 7 = .ok (.invokevirtual 55, 3) := by decide +kernel
theorem dX4_steep_10 : decode cX4_steep 10 = .ok (.ifCond .eq 11, 3) := by decide +kernel
theorem dX4_steep_13 : decode cX4_steep 13 = .ok (.aload_n 0, 1) := by decide +kernel
theorem dX4_steep_14 : decode cX4_steep 14 = .ok (.iload_n 2, 1) := by decide +kernel
theorem dX4_steep_15 : decode cX4_steep 15 = .ok (.invokevirtual 59, 3) := by decide +kernel
theorem dX4_steep_18 : decode cX4_steep 18 = .ok (.ifCond .ne 9, 3) := by decide +kernel
theorem dX4_steep_21 : decode cX4_steep 21 = .ok (.aload_n 0, 1) := by decide +kernel
theorem dX4_steep_22 : decode cX4_steep 22 = .ok (.iconst 1, 1) := by decide +kernel
theorem dX4_steep_23 : decode cX4_steep 23 = .ok (.invokevirtual 45, 3) := by decide +kernel
theorem dX4_steep_26 : decode cX4_steep 26 = .ok (.ireturn, 1) := by decide +kernel
theorem dX4_steep_27 : decode cX4_steep 27 = .ok (.iconst 4, 1) := by decide +kernel
theorem dX4_steep_28 : decode cX4_steep 28 = .ok (.iload_n 1, 1) := by decide +kernel
theorem dX4_steep_29 : decode cX4_steep 29 = .ok (.imul, 1) := by decide +kernel
theorem dX4_steep_30 : decode cX4_steep 30 = .ok (.istore_n 3, 1) := by decide +kernel
theorem dX4_steep_31 : decode cX4_steep 31 = .ok (.iconst 2, 1) := by decide +kernel
theorem dX4_steep_32 : decode cX4_steep 32 = .ok (.iload_n 2, 1) := by decide +kernel
theorem dX4_steep_33 : decode cX4_steep 33 = .ok (.imul, 1) := by decide +kernel
theorem dX4_steep_34 : decode cX4_steep 34 = .ok (.istore 4, 2) := by decide +kernel
theorem dX4_steep_36 : decode cX4_steep 36 = .ok (.aload_n 0, 1) := by decide +kernel
theorem dX4_steep_37 : decode cX4_steep 37 = .ok (.getfield 19, 3) := by decide +kernel
theorem dX4_steep_40 : decode cX4_steep 40 = .ok (.iload_n 3, 1) := by decide +kernel
theorem dX4_steep_41 : decode cX4_steep 41 = .ok (.iconst 2, 1) := by decide +kernel
theorem dX4_steep_42 : decode cX4_steep 42 = .ok (.iadd, 1) := by decide +kernel
theorem dX4_steep_43 : decode cX4_steep 43 = .ok (.iaload, 1) := by decide +kernel
theorem dX4_steep_44 : decode cX4_steep 44 = .ok (.ifCond .eq 25, 3) := by decide +kernel
theorem dX4_steep_47 : decode cX4_steep 47 = .ok (.aload_n 0, 1) := by decide +kernel
theorem dX4_steep_48 : decode cX4_steep 48 = .ok (.getfield 19, 3) := by decide +kernel
theorem dX4_steep_51 : decode cX4_steep 51 = .ok (.iload_n 3, 1) := by decide +kernel
theorem dX4_steep_52 : decode cX4_steep 52 = .ok (.iconst 3, 1) := by decide +kernel
theorem dX4_steep_53 : decode cX4_steep 53 = .ok (.iadd, 1) := by decide +kernel
theorem dX4_steep_54 : decode cX4_steep 54 = .ok (.iaload, 1) := by decide +kernel
theorem dX4_steep_55 : decode cX4_steep 55 = .ok (.iconst 1, 1) := by decide +kernel
theorem dX4_steep_56 : decode cX4_steep 56 = .ok (.if_icmp .eq 13, 3) := by decide +kernel
theorem dX4_steep_59 : decode cX4_steep 59 = .ok (.aload_n 0, 1) := by decide +kernel
theorem dX4_steep_60 : decode cX4_steep 60 = .ok (.getfield 22, 3) := by decide +kernel
theorem dX4_steep_63 : decode cX4_steep 63 = .ok (.iload 4, 2) := by decide +kernel
theorem dX4_steep_65 : decode cX4_steep 65 = .ok (.iaload, 1) := by decide +kernel
theorem dX4_steep_66 : decode cX4_steep 66 = .ok (.ifCond .ne 9, 3) := by decide +kernel
theorem dX4_steep_69 : decode cX4_steep 69 = .ok (.aload_n 0, 1) := by decide +kernel
theorem dX4_steep_70 : decode cX4_steep 70 = .ok (.iconst 2, 1) := by decide +kernel
theorem dX4_steep_71 : decode cX4_steep 71 = .ok (.invokevirtual 45, 3) := by decide +kernel
theorem dX4_steep_74 : decode cX4_steep 74 = .ok (.ireturn, 1) := by decide +kernel
theorem dX4_steep_75 : decode cX4_steep 75 = .ok (.aload_n 0, 1) := by decide +kernel
theorem dX4_steep_76 : decode cX4_steep 76 = .ok (.getfield 22, 3) := by decide +kernel
theorem dX4_steep_79 : decode cX4_steep 79 = .ok (.iload 4, 2) := by decide +kernel
theorem dX4_steep_81 : decode cX4_steep 81 = .ok (.iconst 1, 1) := by decide +kernel
theorem dX4_steep_82 : decode cX4_steep 82 = .ok (.iadd, 1) := by decide +kernel
theorem dX4_steep_83 : decode cX4_steep 83 = .ok (.dup2, 1) := by decide +kernel
theorem dX4_steep_84 : decode cX4_steep 84 = .ok (.iaload, 1) := by decide +kernel
theorem dX4_steep_85 : decode cX4_steep 85 = .ok (.aload_n 0, 1) := by decide +kernel
theorem dX4_steep_86 : decode cX4_steep 86 = .ok (.getfield 19, 3) := by decide +kernel
theorem dX4_steep_89 : decode cX4_steep 89 = .ok (.iload_n 3, 1) := by decide +kernel
theorem dX4_steep_90 : decode cX4_steep 90 = .ok (.iconst 2, 1) := by decide +kernel
theorem dX4_steep_91 : decode cX4_steep 91 = .ok (.iadd, 1) := by decide +kernel
theorem dX4_steep_92 : decode cX4_steep 92 = .ok (.iaload, 1) := by decide +kernel
theorem dX4_steep_93 : decode cX4_steep 93 = .ok (.iconst 2, 1) := by decide +kernel
theorem dX4_steep_94 : decode cX4_steep 94 = .ok (.idiv, 1) := by decide +kernel
theorem dX4_steep_95 : decode cX4_steep 95 = .ok (.iadd, 1) := by decide +kernel
theorem dX4_steep_96 : decode cX4_steep 96 = .ok (.iastore, 1) := by decide +kernel
theorem dX4_steep_97 : decode cX4_steep 97 = .ok (.aload_n 0, 1) := by decide +kernel
theorem dX4_steep_98 : decode cX4_steep 98 = .ok (.getfield 19, 3) := by decide +kernel
theorem dX4_steep_101 : decode cX4_steep 101 = .ok (.iload_n 3, 1) := by decide +kernel
theorem dX4_steep_102 : decode cX4_steep 102 = .ok (.iconst 2, 1) := by decide +kernel
theorem dX4_steep_103 : decode cX4_steep 103 = .ok (.iadd, 1) := by decide +kernel
theorem dX4_steep_104 : decode cX4_steep 104 = .ok (.iconst 0, 1) := by decide +kernel
theorem dX4_steep_105 : decode cX4_steep 105 = .ok (.iastore, 1) := by decide +kernel
theorem dX4_steep_106 : decode cX4_steep 106 = .ok (.aload_n 0, 1) := by decide +kernel
theorem dX4_steep_107 : decode cX4_steep 107 = .ok (.getfield 22, 3) := by decide +kernel
theorem dX4_steep_110 : decode cX4_steep 110 = .ok (.iload 4, 2) := by decide +kernel
theorem dX4_steep_112 : decode cX4_steep 112 = .ok (.iconst 1, 1) := by decide +kernel
theorem dX4_steep_113 : decode cX4_steep 113 = .ok (.iadd, 1) := by decide +kernel
theorem dX4_steep_114 : decode cX4_steep 114 = .ok (.iaload, 1) := by decide +kernel
theorem dX4_steep_115 : decode cX4_steep 115 = .ok (.ireturn, 1) := by decide +kernel
theorem dX4_pan_0 : decode cX4_pan 0 = .ok (.aload_n 0, 1) := by decide +kernel
theorem dX4_pan_1 : decode cX4_pan 1 = .ok (.iconst 0, 1) := by decide +kernel
theorem dX4_pan_2 : decode cX4_pan 2 = .ok (.putfield 28, 3) := by decide +kernel
theorem dX4_pan_5 : decode cX4_pan 5 = .ok (.aload_n 0, 1) := by decide +kernel
theorem dX4_pan_6 : decode cX4_pan 6 = .ok (.getfield 42, 3) := by decide +kernel
theorem dX4_pan_9 : decode cX4_pan 9 = .ok (.iconst 3, 1) := by decide +kernel
theorem dX4_pan_10 : decode cX4_pan 10 = .ok (.if_icmp .ne 9, 3) := by decide +kernel
theorem dX4_pan_13 : decode cX4_pan 13 = .ok (.aload_n 0, 1) := by decide +kernel
theorem dX4_pan_14 : decode cX4_pan 14 = .ok (.iconst 1, 1) := by decide +kernel
theorem dX4_pan_15 : decode cX4_pan 15 = .ok (.invokevirtual 45, 3) := by decide +kernel
theorem dX4_pan_18 : decode cX4_pan 18 = .ok (.ireturn, 1) := by decide +kernel
theorem dX4_pan_19 : decode cX4_pan 19 = .ok (.aload_n 0, 1) := by decide +kernel
theorem dX4_pan_20 : decode cX4_pan 20 = .ok (.dup, 1) := by decide +kernel
theorem dX4_pan_21 : decode cX4_pan 21 = .ok (.getfield 42, 3) := by decide +kernel
theorem dX4_pan_24 : decode cX4_pan 24 = .ok (.iconst 1, 1) := by decide +kernel
theorem dX4_pan_25 : decode cX4_pan 25 = .ok (.iadd, 1) := by decide +kernel
theorem dX4_pan_26 : decode cX4_pan 26 = .ok (.putfield 42, 3) := by decide +kernel
theorem dX4_pan_29 : decode cX4_pan 29 = .ok (.aload_n 0, 1) := by decide +kernel
theorem dX4_pan_30 : decode cX4_pan 30 = .ok (.getfield 42, 3) := by decide +kernel
theorem dX4_pan_33 : decode cX4_pan 33 = .ok (.iconst 1, 1) := by decide +kernel
theorem dX4_pan_34 : decode cX4_pan 34 = .ok (.isub, 1) := by decide +kernel
theorem dX4_pan_35 : decode cX4_pan 35 = .ok (.ireturn, 1) := by decide +kernel
theorem dX4_draw_0 : decode cX4_draw 0 = .ok (.aload_n 0, 1) := by decide +kernel
theorem dX4_draw_1 : decode cX4_draw 1 = .ok (.iconst 0, 1) := by decide +kernel
theorem dX4_draw_2 : decode cX4_draw 2 = .ok (.putfield 28, 3) := by decide +kernel
theorem dX4_draw_5 : decode cX4_draw 5 = .ok (.aload_n 0, 1) := by decide +kernel
theorem dX4_draw_6 : decode cX4_draw 6 = .ok (.iload_n 1, 1) := by decide +kernel
theorem dX4_draw_7 : decode cX4_draw 7 = .ok (.invokevirtual 59, 3) := by decide +kernel
theorem dX4_draw_10 : decode cX4_draw 10 = .ok (.ifCond .eq 11, 3) := by decide +kernel
theorem dX4_draw_13 : decode cX4_draw 13 = .ok (.aload_n 0, 1) := by decide +kernel
theorem dX4_draw_14 : decode cX4_draw 14 = .ok (.iload_n 2, 1) := by decide +kernel
theorem dX4_draw_15 : decode cX4_draw 15 = .ok (.invokevirtual 62, 3) := by decide +kernel
theorem dX4_draw_18 : decode cX4_draw 18 = .ok (.ifCond .ne 9, 3) := by decide +kernel
theorem dX4_draw_21 : decode cX4_draw 21 = .ok (.aload_n 0, 1) := by decide +kernel
theorem dX4_draw_22 : decode cX4_draw 22 = .ok (.iconst 1, 1) := by decide +kernel
theorem dX4_draw_23 : decode cX4_draw 23 = .ok (.invokevirtual 45, 3) := by decide +kernel
theorem dX4_draw_26 : decode cX4_draw 26 = .ok (.ireturn, 1) := by decide +kernel
theorem dX4_draw_27 : decode cX4_draw 27 = .ok (.iload_n 3, 1) := by decide +kernel
theorem dX4_draw_28 : decode cX4_draw 28 = .ok (.iconst 1, 1) := by decide +kernel
theorem dX4_draw_29 : decode cX4_draw 29 = .ok (.sipush 150, 3) := by decide +kernel
theorem dX4_draw_32 : decode cX4_draw 32 = .ok (.invokestatic 35, 3) := by decide +kernel
theorem dX4_draw_35 : decode cX4_draw 35 = .ok (.ifCond .ne 9, 3) := by decide +kernel
theorem dX4_draw_38 : decode cX4_draw 38 = .ok (.aload_n 0, 1) := by decide +kernel
theorem dX4_draw_39 : decode cX4_draw 39 = .ok (.iconst 2, 1) := by decide +kernel
theorem dX4_draw_40 : decode cX4_draw 40 = .ok (.invokevirtual 45, 3) := by decide +kernel
theorem dX4_draw_43 : decode cX4_draw 43 = .ok (.ireturn, 1) := by decide +kernel
theorem dX4_draw_44 : decode cX4_draw 44 = .ok (.iconst 2, 1) := by decide +kernel
theorem dX4_draw_45 : decode cX4_draw 45 = .ok (.iload_n 1, 1) := by decide +kernel
theorem dX4_draw_46 : decode cX4_draw 46 = .ok (.imul, 1) := by decide +kernel
theorem dX4_draw_47 : decode cX4_draw 47 = .ok (.istore 4, 2) := by decide +kernel
theorem dX4_draw_49 : decode cX4_draw 49 = .ok (.iconst 3, 1) := by decide +kernel
theorem dX4_draw_50 : decode cX4_draw 50 = .ok (.iload_n 2, 1) := by decide +kernel
theorem dX4_draw_51 : decode cX4_draw 51 = .ok (.imul, 1) := by decide +kernel
theorem dX4_draw_52 : decode cX4_draw 52 = .ok (.istore 5, 2) := by decide +kernel
theorem dX4_draw_54 : decode cX4_draw 54 = .ok (.aload_n 0, 1) := by decide +kernel
theorem dX4_draw_55 : decode cX4_draw 55 = .ok (.getfield 22, 3) := by decide +kernel
theorem dX4_draw_58 : decode cX4_draw 58 = .ok (.iload 4, 2) := by decide +kernel
theorem dX4_draw_60 : decode cX4_draw 60 = .ok (.iaload, 1) := by decide +kernel
theorem dX4_draw_61 : decode cX4_draw 61 = .ok (.iload_n 3, 1) := by decide +kernel
theorem dX4_draw_62 : decode cX4_draw 62 = .ok (.if_icmp .lt 18, 3) := by decide +kernel
theorem dX4_draw_65 : decode cX4_draw 65 = .ok (.aload_n 0, 1) := by decide +kernel
theorem dX4_draw_66 : decode cX4_draw 66 = .ok (.getfield 25, 3) := by decide +kernel
theorem dX4_draw_69 : decode cX4_draw 69 = .ok (.iload 5, 2) := by decide +kernel
theorem dX4_draw_71 : decode cX4_draw 71 = .ok (.iaload, 1) := by decide +kernel
theorem dX4_draw_72 : decode cX4_draw 72 = .ok (.iload_n 3, 1) := by decide +kernel
theorem dX4_draw_73 : decode cX4_draw 73 = .ok (.iadd, 1) := by decide +kernel
theorem dX4_draw_74 : decode cX4_draw 74 = .ok (.sipush 150, 3) := by decide +kernel
theorem dX4_draw_77 : decode cX4_draw 77 = .ok (.if_icmp .le 9, 3) := by decide +kernel
theorem dX4_draw_80 : decode cX4_draw 80 = .ok (.aload_n 0, 1) := by decide +kernel
theorem dX4_draw_81 : decode cX4_draw 81 = .ok (.iconst 3, 1) := by decide +kernel
theorem dX4_draw_82 : decode cX4_draw 82 = .ok (.invokevirtual 45, 3) := by decide +kernel
theorem dX4_draw_85 : decode cX4_draw 85 = .ok (.ireturn, 1) := by decide +kernel
theorem dX4_draw_86 : decode cX4_draw 86 = .ok (.aload_n 0, 1) := by decide +kernel
theorem dX4_draw_87 : decode cX4_draw 87 = .ok (.getfield 22, 3) := by decide +kernel
theorem dX4_draw_90 : decode cX4_draw 90 = .ok (.iload 4, 2) := by decide +kernel
theorem dX4_draw_92 : decode cX4_draw 92 = .ok (.iconst 1, 1) := by decide +kernel
theorem dX4_draw_93 : decode cX4_draw 93 = .ok (.iadd, 1) := by decide +kernel
theorem dX4_draw_94 : decode cX4_draw 94 = .ok (.iaload, 1) := by decide +kernel
theorem dX4_draw_95 : decode cX4_draw 95 = .ok (.iload_n 3, 1) := by decide +kernel
theorem dX4_draw_96 : decode cX4_draw 96 = .ok (.imul, 1) := by decide +kernel
theorem dX4_draw_97 : decode cX4_draw 97 = .ok (.aload_n 0, 1) := by decide +kernel
theorem dX4_draw_98 : decode cX4_draw 98 = .ok (.getfield 22, 3) := by decide +kernel
theorem dX4_draw_101 : decode cX4_draw 101 = .ok (.iload 4, 2) := by decide +kernel
theorem dX4_draw_103 : decode cX4_draw 103 = .ok (.iaload, 1) := by decide +kernel
theorem dX4_draw_104 : decode cX4_draw 104 = .ok (.idiv, 1) := by decide +kernel
theorem dX4_draw_105 : decode cX4_draw 105 = .ok (.istore 6, 2) := by decide +kernel
theorem dX4_draw_107 : decode cX4_draw 107 = .ok (.aload_n 0, 1) := by decide +kernel
theorem dX4_draw_108 : decode cX4_draw 108 = .ok (.getfield 22, 3) := by decide +kernel
theorem dX4_draw_111 : decode cX4_draw 111 = .ok (.iload 4, 2) := by decide +kernel
theorem dX4_draw_113 : decode cX4_draw 113 = .ok (.dup2, 1) := by decide +kernel
theorem dX4_draw_114 : decode cX4_draw 114 = .ok (.iaload, 1) := by decide +kernel
theorem dX4_draw_115 : decode cX4_draw 115 = .ok (.iload_n 3, 1) := by decide +kernel
theorem dX4_draw_116 : decode cX4_draw 116 = .ok (.isub, 1) := by decide +kernel
theorem dX4_draw_117 : decode cX4_draw 117 = .ok (.iastore, 1) := by decide +kernel
theorem dX4_draw_118 : decode cX4_draw 118 = .ok (.aload_n 0, 1) := by decide +kernel
theorem dX4_draw_119 : decode cX4_draw 119 = .ok (.getfield 22, 3) := by decide +kernel
theorem dX4_draw_122 : decode cX4_draw 122 = .ok (.iload 4, 2) := by decide +kernel
theorem dX4_draw_124 : decode cX4_draw 124 = .ok (.iconst 1, 1) := by decide +kernel
theorem dX4_draw_125 : decode cX4_draw 125 = .ok (.iadd, 1) := by decide +kernel
theorem dX4_draw_126 : decode cX4_draw 126 = .ok (.dup2, 1) := by decide +kernel
theorem dX4_draw_127 : decode cX4_draw 127 = .ok (.iaload, 1) := by decide +kernel
theorem dX4_draw_128 : decode cX4_draw 128 = .ok (.iload 6, 2) := by decide +kernel
theorem dX4_draw_130 : decode cX4_draw 130 = .ok (.isub, 1) := by decide +kernel
theorem dX4_draw_131 : decode cX4_draw 131 = .ok (.iastore, 1) := by decide +kernel
theorem dX4_draw_132 : decode cX4_draw 132 = .ok (.aload_n 0, 1) := by decide +kernel
theorem dX4_draw_133 : decode cX4_draw 133 = .ok (.getfield 25, 3) := by decide +kernel
theorem dX4_draw_136 : decode cX4_draw 136 = .ok (.iload 5, 2) := by decide +kernel
theorem dX4_draw_138 : decode cX4_draw 138 = .ok (.dup2, 1) := by decide +kernel
theorem dX4_draw_139 : decode cX4_draw 139 = .ok (.iaload, 1) := by decide +kernel
theorem dX4_draw_140 : decode cX4_draw 140 = .ok (.iload_n 3, 1) := by decide +kernel
theorem dX4_draw_141 : decode cX4_draw 141 = .ok (.iadd, 1) := by decide +kernel
theorem dX4_draw_142 : decode cX4_draw 142 = .ok (.iastore, 1) := by decide +kernel
theorem dX4_draw_143 : decode cX4_draw 143 = .ok (.aload_n 0, 1) := by decide +kernel
theorem dX4_draw_144 : decode cX4_draw 144 = .ok (.getfield 25, 3) := by decide +kernel
theorem dX4_draw_147 : decode cX4_draw 147 = .ok (.iload 5, 2) := by decide +kernel
theorem dX4_draw_149 : decode cX4_draw 149 = .ok (.iconst 1, 1) := by decide +kernel
theorem dX4_draw_150 : decode cX4_draw 150 = .ok (.iadd, 1) := by decide +kernel
theorem dX4_draw_151 : decode cX4_draw 151 = .ok (.dup2, 1) := by decide +kernel
theorem dX4_draw_152 : decode cX4_draw 152 = .ok (.iaload, 1) := by decide +kernel
theorem dX4_draw_153 : decode cX4_draw 153 = .ok (.iload 6, 2) := by decide +kernel
theorem dX4_draw_155 : decode cX4_draw 155 = .ok (.iadd, 1) := by decide +kernel
theorem dX4_draw_156 : decode cX4_draw 156 = .ok (.iastore, 1) := by decide +kernel
theorem dX4_draw_157 : decode cX4_draw 157 = .ok (.iload 6, 2) := by decide +kernel
theorem dX4_draw_159 : decode cX4_draw 159 = .ok (.ireturn, 1) := by decide +kernel
theorem dX4_boil_0 : decode cX4_boil 0 = .ok (.aload_n 0, 1) := by decide +kernel
theorem dX4_boil_1 : decode cX4_boil 1 = .ok (.aload_n 0, 1) := by decide +kernel
theorem dX4_boil_2 : decode cX4_boil 2 = .ok (.iload_n 1, 1) := by decide +kernel
theorem dX4_boil_3 : decode cX4_boil 3 = .ok (.invokevirtual 62, 3) := by decide +kernel
theorem dX4_boil_6 : decode cX4_boil 6 = .ok (.ifCond .eq 7, 3) := by decide +kernel
theorem dX4_boil_9 : decode cX4_boil 9 = .ok (.iconst 0, 1) := by decide +kernel
theorem dX4_boil_10 : decode cX4_boil 10 = .ok (.goto 4, 3) := by decide +kernel
theorem dX4_boil_13 : decode cX4_boil 13 = .ok (.iconst 1, 1) := by decide +kernel
theorem dX4_boil_14 : decode cX4_boil 14 = .ok (.putfield 28, 3) := by decide +kernel
theorem dX4_boil_17 : decode cX4_boil 17 = .ok (.aload_n 0, 1) := by decide +kernel
theorem dX4_boil_18 : decode cX4_boil 18 = .ok (.getfield 28, 3) := by decide +kernel
theorem dX4_boil_21 : decode cX4_boil 21 = .ok (.ifCond .eq 5, 3) := by decide +kernel
theorem dX4_boil_24 : decode cX4_boil 24 = .ok (.iconst 0, 1) := by decide +kernel
theorem dX4_boil_25 : decode cX4_boil 25 = .ok (.ireturn, 1) := by decide +kernel
theorem dX4_boil_26 : decode cX4_boil 26 = .ok (.aload_n 0, 1) := by decide +kernel
theorem dX4_boil_27 : decode cX4_boil 27 = .ok (.getfield 25, 3) := by decide +kernel
theorem dX4_boil_30 : decode cX4_boil 30 = .ok (.iconst 3, 1) := by decide +kernel
theorem dX4_boil_31 : decode cX4_boil 31 = .ok (.iload_n 1, 1) := by decide +kernel
theorem dX4_boil_32 : decode cX4_boil 32 = .ok (.imul, 1) := by decide +kernel
theorem dX4_boil_33 : decode cX4_boil 33 = .ok (.iconst 2, 1) := by decide +kernel
theorem dX4_boil_34 : decode cX4_boil 34 = .ok (.iadd, 1) := by decide +kernel
theorem dX4_boil_35 : decode cX4_boil 35 = .ok (.iconst 1, 1) := by decide +kernel
theorem dX4_boil_36 : decode cX4_boil 36 = .ok (.aload_n 0, 1) := by decide +kernel
theorem dX4_boil_37 : decode cX4_boil 37 = .ok (.getfield 25, 3) := by decide +kernel
theorem dX4_boil_40 : decode cX4_boil 40 = .ok (.iconst 3, 1) := by decide +kernel
theorem dX4_boil_41 : decode cX4_boil 41 = .ok (.iload_n 1, 1) := by decide +kernel
theorem dX4_boil_42 : decode cX4_boil 42 = .ok (.imul, 1) := by decide +kernel
theorem dX4_boil_43 : decode cX4_boil 43 = .ok (.iconst 2, 1) := by decide +kernel
theorem dX4_boil_44 : decode cX4_boil 44 = .ok (.iadd, 1) := by decide +kernel
theorem dX4_boil_45 : decode cX4_boil 45 = .ok (.iaload, 1) := by decide +kernel
theorem dX4_boil_46 : decode cX4_boil 46 = .ok (.isub, 1) := by decide +kernel
theorem dX4_boil_47 : decode cX4_boil 47 = .ok (.iastore, 1) := by decide +kernel
theorem dX4_boil_48 : decode cX4_boil 48 = .ok (.aload_n 0, 1) := by decide +kernel
theorem dX4_boil_49 : decode cX4_boil 49 = .ok (.getfield 25, 3) := by decide +kernel
theorem dX4_boil_52 : decode cX4_boil 52 = .ok (.iconst 3, 1) := by decide +kernel
theorem dX4_boil_53 : decode cX4_boil 53 = .ok (.iload_n 1, 1) := by decide +kernel
theorem dX4_boil_54 : decode cX4_boil 54 = .ok (.imul, 1) := by decide +kernel
theorem dX4_boil_55 : decode cX4_boil 55 = .ok (.iconst 2, 1) := by decide +kernel
theorem dX4_boil_56 : decode cX4_boil 56 = .ok (.iadd, 1) := by decide +kernel
theorem dX4_boil_57 : decode cX4_boil 57 = .ok (.iaload, 1) := by decide +kernel
theorem dX4_boil_58 : decode cX4_boil 58 = .ok (.iconst 1, 1) := by decide +kernel
theorem dX4_boil_59 : decode cX4_boil 59 = .ok (.if_icmp .ne 7, 3) := by decide +kernel
theorem dX4_boil_62 : decode cX4_boil 62 = .ok (.iconst 1, 1) := by decide +kernel
theorem dX4_boil_63 : decode cX4_boil 63 = .ok (.goto 4, 3) := by decide +kernel
theorem dX4_boil_66 : decode cX4_boil 66 = .ok (.iconst 0, 1) := by decide +kernel
theorem dX4_boil_67 : decode cX4_boil 67 = .ok (.ireturn, 1) := by decide +kernel
theorem dX4_strength_0 : decode cX4_strength 0 = .ok (.iload_n 0, 1) := by decide +kernel
theorem dX4_strength_1 : decode cX4_strength 1 = .ok (.iload_n 1, 1) := by decide +kernel
theorem dX4_strength_2 : decode cX4_strength 2 = .ok (.iadd, 1) := by decide +kernel
theorem dX4_strength_3 : decode cX4_strength 3 = .ok (.ifCond .ne 7, 3) := by decide +kernel
theorem dX4_strength_6 : decode cX4_strength 6 = .ok (.iconst 0, 1) := by decide +kernel
theorem dX4_strength_7 : decode cX4_strength 7 = .ok (.goto 11, 3) := by decide +kernel
theorem dX4_strength_10 : decode cX4_strength 10 = .ok (.bipush 100, 2) := by decide +kernel
theorem dX4_strength_12 : decode cX4_strength 12 = .ok (.iload_n 1, 1) := by decide +kernel
theorem dX4_strength_13 : decode cX4_strength 13 = .ok (.imul, 1) := by decide +kernel
theorem dX4_strength_14 : decode cX4_strength 14 = .ok (.iload_n 0, 1) := by decide +kernel
theorem dX4_strength_15 : decode cX4_strength 15 = .ok (.iload_n 1, 1) := by decide +kernel
theorem dX4_strength_16 : decode cX4_strength 16 = .ok (.iadd, 1) := by decide +kernel
theorem dX4_strength_17 : decode cX4_strength 17 = .ok (.idiv, 1) := by decide +kernel
theorem dX4_strength_18 : decode cX4_strength 18 = .ok (.ireturn, 1) := by decide +kernel
theorem dX4_egg_0 : decode cX4_egg 0 = .ok (.iload_n 0, 1) := by decide +kernel
theorem dX4_egg_1 : decode cX4_egg 1 = .ok (.bipush 20, 2) := by decide +kernel
theorem dX4_egg_3 : decode cX4_egg 3 = .ok (.if_icmp .ge 7, 3) := by decide +kernel
theorem dX4_egg_6 : decode cX4_egg 6 = .ok (.iconst 0, 1) := by decide +kernel
theorem dX4_egg_7 : decode cX4_egg 7 = .ok (.goto 14, 3) := by decide +kernel
theorem dX4_egg_10 : decode cX4_egg 10 = .ok (.iload_n 0, 1) := by decide +kernel
theorem dX4_egg_11 : decode cX4_egg 11 = .ok (.bipush 35, 2) := by decide +kernel
theorem dX4_egg_13 : decode cX4_egg 13 = .ok (.if_icmp .ge 7, 3) := by decide +kernel
theorem dX4_egg_16 : decode cX4_egg 16 = .ok (.iconst 1, 1) := by decide +kernel
theorem dX4_egg_17 : decode cX4_egg 17 = .ok (.goto 4, 3) := by decide +kernel
theorem dX4_egg_20 : decode cX4_egg 20 = .ok (.iconst 2, 1) := by decide +kernel
theorem dX4_egg_21 : decode cX4_egg 21 = .ok (.ireturn, 1) := by decide +kernel
theorem dX4_panEgg_0 : decode cX4_panEgg 0 = .ok (.aload_n 0, 1) := by decide +kernel
theorem dX4_panEgg_1 : decode cX4_panEgg 1 = .ok (.getfield 25, 3) := by decide +kernel
theorem dX4_panEgg_4 : decode cX4_panEgg 4 = .ok (.iconst 3, 1) := by decide +kernel
theorem dX4_panEgg_5 : decode cX4_panEgg 5 = .ok (.iload_n 1, 1) := by decide +kernel
theorem dX4_panEgg_6 : decode cX4_panEgg 6 = .ok (.imul, 1) := by decide +kernel
theorem dX4_panEgg_7 : decode cX4_panEgg 7 = .ok (.iaload, 1) := by decide +kernel
theorem dX4_panEgg_8 : decode cX4_panEgg 8 = .ok (.aload_n 0, 1) := by decide +kernel
theorem dX4_panEgg_9 : decode cX4_panEgg 9 = .ok (.getfield 25, 3) := by decide +kernel
theorem dX4_panEgg_12 : decode cX4_panEgg 12 = .ok (.iconst 3, 1) := by decide +kernel
theorem dX4_panEgg_13 : decode cX4_panEgg 13 = .ok (.iload_n 1, 1) := by decide +kernel
theorem dX4_panEgg_14 : decode cX4_panEgg 14 = .ok (.imul, 1) := by decide +kernel
theorem dX4_panEgg_15 : decode cX4_panEgg 15 = .ok (.iconst 1, 1) := by decide +kernel
theorem dX4_panEgg_16 : decode cX4_panEgg 16 = .ok (.iadd, 1) := by decide +kernel
theorem dX4_panEgg_17 : decode cX4_panEgg 17 = .ok (.iaload, 1) := by decide +kernel
theorem dX4_panEgg_18 : decode cX4_panEgg 18 = .ok (.invokestatic 65, 3) := by decide +kernel
theorem dX4_panEgg_21 : decode cX4_panEgg 21 = .ok (.invokestatic 68, 3) := by decide +kernel
theorem dX4_panEgg_24 : decode cX4_panEgg 24 = .ok (.ireturn, 1) := by decide +kernel
theorem dX4_comes_0 : decode cX4_comes 0 = .ok (.aload_n 0, 1) := by decide +kernel
theorem dX4_comes_1 : decode cX4_comes 1 = .ok (.iload_n 1, 1) := by decide +kernel
theorem dX4_comes_2 : decode cX4_comes 2 = .ok (.invokevirtual 71, 3) := by decide +kernel
theorem dX4_comes_5 : decode cX4_comes 5 = .ok (.istore_n 3, 1) := by decide +kernel
theorem dX4_comes_6 : decode cX4_comes 6 = .ok (.aload_n 0, 1) := by decide +kernel
theorem dX4_comes_7 : decode cX4_comes 7 = .ok (.getfield 25, 3) := by decide +kernel
theorem dX4_comes_10 : decode cX4_comes 10 = .ok (.iconst 3, 1) := by decide +kernel
theorem dX4_comes_11 : decode cX4_comes 11 = .ok (.iload_n 1, 1) := by decide +kernel
theorem dX4_comes_12 : decode cX4_comes 12 = .ok (.imul, 1) := by decide +kernel
theorem dX4_comes_13 : decode cX4_comes 13 = .ok (.iconst 1, 1) := by decide +kernel
theorem dX4_comes_14 : decode cX4_comes 14 = .ok (.iadd, 1) := by decide +kernel
theorem dX4_comes_15 : decode cX4_comes 15 = .ok (.iaload, 1) := by decide +kernel
theorem dX4_comes_16 : decode cX4_comes 16 = .ok (.iload_n 2, 1) := by decide +kernel
theorem dX4_comes_17 : decode cX4_comes 17 = .ok (.iload_n 3, 1) := by decide +kernel
theorem dX4_comes_18 : decode cX4_comes 18 = .ok (.ifCond .ne 7, 3) := by decide +kernel
theorem dX4_comes_21 : decode cX4_comes 21 = .ok (.iconst 2, 1) := by decide +kernel
theorem dX4_comes_22 : decode cX4_comes 22 = .ok (.goto 13, 3) := by decide +kernel
theorem dX4_comes_25 : decode cX4_comes 25 = .ok (.iload_n 3, 1) := by decide +kernel
theorem dX4_comes_26 : decode cX4_comes 26 = .ok (.iconst 1, 1) := by decide +kernel
theorem dX4_comes_27 : decode cX4_comes 27 = .ok (.if_icmp .ne 7, 3) := by decide +kernel
theorem dX4_comes_30 : decode cX4_comes 30 = .ok (.iconst 5, 1) := by decide +kernel
theorem dX4_comes_31 : decode cX4_comes 31 = .ok (.goto 4, 3) := by decide +kernel
theorem dX4_comes_34 : decode cX4_comes 34 = .ok (.iconst 3, 1) := by decide +kernel
theorem dX4_comes_35 : decode cX4_comes 35 = .ok (.imul, 1) := by decide +kernel
theorem dX4_comes_36 : decode cX4_comes 36 = .ok (.invokestatic 49, 3) := by decide +kernel
theorem dX4_comes_39 : decode cX4_comes 39 = .ok (.ireturn, 1) := by decide +kernel
theorem dX4_pour_0 : decode cX4_pour 0 = .ok (.aload_n 0, 1) := by decide +kernel
theorem dX4_pour_1 : decode cX4_pour 1 = .ok (.iconst 0, 1) := by decide +kernel
theorem dX4_pour_2 : decode cX4_pour 2 = .ok (.putfield 28, 3) := by decide +kernel
theorem dX4_pour_5 : decode cX4_pour 5 = .ok (.aload_n 0, 1) := by decide +kernel
theorem dX4_pour_6 : decode cX4_pour 6 = .ok (.iload_n 1, 1) := by decide +kernel
theorem dX4_pour_7 : decode cX4_pour 7 = .ok (.invokevirtual 62, 3) := by decide +kernel
theorem dX4_pour_10 : decode cX4_pour 10 = .ok (.ifCond .ne 9, 3) := by decide +kernel
theorem dX4_pour_13 : decode cX4_pour 13 = .ok (.aload_n 0, 1) := by decide +kernel
theorem dX4_pour_14 : decode cX4_pour 14 = .ok (.iconst 1, 1) := by decide +kernel
theorem dX4_pour_15 : decode cX4_pour 15 = .ok (.invokevirtual 45, 3) := by decide +kernel
theorem dX4_pour_18 : decode cX4_pour 18 = .ok (.ireturn, 1) := by decide +kernel
theorem dX4_pour_19 : decode cX4_pour 19 = .ok (.iload_n 2, 1) := by decide +kernel
theorem dX4_pour_20 : decode cX4_pour 20 = .ok (.iconst 1, 1) := by decide +kernel
theorem dX4_pour_21 : decode cX4_pour 21 = .ok (.bipush 20, 2) := by decide +kernel
theorem dX4_pour_23 : decode cX4_pour 23 = .ok (.invokestatic 35, 3) := by decide +kernel
theorem dX4_pour_26 : decode cX4_pour 26 = .ok (.ifCond .ne 9, 3) := by decide +kernel
theorem dX4_pour_29 : decode cX4_pour 29 = .ok (.aload_n 0, 1) := by decide +kernel
theorem dX4_pour_30 : decode cX4_pour 30 = .ok (.iconst 2, 1) := by decide +kernel
theorem dX4_pour_31 : decode cX4_pour 31 = .ok (.invokevirtual 45, 3) := by decide +kernel
theorem dX4_pour_34 : decode cX4_pour 34 = .ok (.ireturn, 1) := by decide +kernel
theorem dX4_pour_35 : decode cX4_pour 35 = .ok (.iconst 3, 1) := by decide +kernel
theorem dX4_pour_36 : decode cX4_pour 36 = .ok (.iload_n 1, 1) := by decide +kernel
theorem dX4_pour_37 : decode cX4_pour 37 = .ok (.imul, 1) := by decide +kernel
theorem dX4_pour_38 : decode cX4_pour 38 = .ok (.istore_n 3, 1) := by decide +kernel
theorem dX4_pour_39 : decode cX4_pour 39 = .ok (.aload_n 0, 1) := by decide +kernel
theorem dX4_pour_40 : decode cX4_pour 40 = .ok (.getfield 7, 3) := by decide +kernel
theorem dX4_pour_43 : decode cX4_pour 43 = .ok (.iconst 2, 1) := by decide +kernel
theorem dX4_pour_44 : decode cX4_pour 44 = .ok (.iaload, 1) := by decide +kernel
theorem dX4_pour_45 : decode cX4_pour 45 = .ok (.iload_n 2, 1) := by decide +kernel
theorem dX4_pour_46 : decode cX4_pour 46 = .ok (.if_icmp .lt 14, 3) := by decide +kernel
theorem dX4_pour_49 : decode cX4_pour 49 = .ok (.aload_n 0, 1) := by decide +kernel
theorem dX4_pour_50 : decode cX4_pour 50 = .ok (.getfield 25, 3) := by decide +kernel
theorem dX4_pour_53 : decode cX4_pour 53 = .ok (.iload_n 3, 1) := by decide +kernel
theorem dX4_pour_54 : decode cX4_pour 54 = .ok (.iconst 1, 1) := by decide +kernel
theorem dX4_pour_55 : decode cX4_pour 55 = .ok (.iadd, 1) := by decide +kernel
theorem dX4_pour_56 : decode cX4_pour 56 = .ok (.iaload, 1) := by decide +kernel
theorem dX4_pour_57 : decode cX4_pour 57 = .ok (.ifCond .ne 9, 3) := by decide +kernel
theorem dX4_pour_60 : decode cX4_pour 60 = .ok (.aload_n 0, 1) := by decide +kernel
theorem dX4_pour_61 : decode cX4_pour 61 = .ok (.iconst 3, 1) := by decide +kernel
theorem dX4_pour_62 : decode cX4_pour 62 = .ok (.invokevirtual 45, 3) := by decide +kernel
theorem dX4_pour_65 : decode cX4_pour 65 = .ok (.ireturn, 1) := by decide +kernel
theorem dX4_pour_66 : decode cX4_pour 66 = .ok (.aload_n 0, 1) := by decide +kernel
theorem dX4_pour_67 : decode cX4_pour 67 = .ok (.iload_n 1, 1) := by decide +kernel
theorem dX4_pour_68 : decode cX4_pour 68 = .ok (.iload_n 2, 1) := by decide +kernel
theorem dX4_pour_69 : decode cX4_pour 69 = .ok (.invokevirtual 74, 3) := by decide +kernel
theorem dX4_pour_72 : decode cX4_pour 72 = .ok (.istore 4, 2) := by decide +kernel
theorem dX4_pour_74 : decode cX4_pour 74 = .ok (.aload_n 0, 1) := by decide +kernel
theorem dX4_pour_75 : decode cX4_pour 75 = .ok (.getfield 7, 3) := by decide +kernel
theorem dX4_pour_78 : decode cX4_pour 78 = .ok (.iconst 2, 1) := by decide +kernel
theorem dX4_pour_79 : decode cX4_pour 79 = .ok (.dup2, 1) := by decide +kernel
theorem dX4_pour_80 : decode cX4_pour 80 = .ok (.iaload, 1) := by decide +kernel
theorem dX4_pour_81 : decode cX4_pour 81 = .ok (.iload_n 2, 1) := by decide +kernel
theorem dX4_pour_82 : decode cX4_pour 82 = .ok (.isub, 1) := by decide +kernel
theorem dX4_pour_83 : decode cX4_pour 83 = .ok (.iastore, 1) := by decide +kernel
theorem dX4_pour_84 : decode cX4_pour 84 = .ok (.aload_n 0, 1) := by decide +kernel
theorem dX4_pour_85 : decode cX4_pour 85 = .ok (.getfield 7, 3) := by decide +kernel
theorem dX4_pour_88 : decode cX4_pour 88 = .ok (.aload_n 0, 1) := by decide +kernel
theorem dX4_pour_89 : decode cX4_pour 89 = .ok (.iload_n 1, 1) := by decide +kernel
theorem dX4_pour_90 : decode cX4_pour 90 = .ok (.invokevirtual 71, 3) := by decide +kernel
theorem dX4_pour_93 : decode cX4_pour 93 = .ok (.iconst 1, 1) := by decide +kernel
theorem dX4_pour_94 : decode cX4_pour 94 = .ok (.if_icmp .ne 7, 3) := by decide +kernel
theorem dX4_pour_97 : decode cX4_pour 97 = .ok (.iconst 3, 1) := by decide +kernel
theorem dX4_pour_98 : decode cX4_pour 98 = .ok (.goto 4, 3) := by decide +kernel
theorem dX4_pour_101 : decode cX4_pour 101 = .ok (.iconst 4, 1) := by decide +kernel
theorem dX4_pour_102 : decode cX4_pour 102 = .ok (.dup2, 1) := by decide +kernel
theorem dX4_pour_103 : decode cX4_pour 103 = .ok (.iaload, 1) := by decide +kernel
theorem dX4_pour_104 : decode cX4_pour 104 = .ok (.iload 4, 2) := by decide +kernel
theorem dX4_pour_106 : decode cX4_pour 106 = .ok (.iadd, 1) := by decide +kernel
theorem dX4_pour_107 : decode cX4_pour 107 = .ok (.iastore, 1) := by decide +kernel
theorem dX4_pour_108 : decode cX4_pour 108 = .ok (.iconst 0, 1) := by decide +kernel
theorem dX4_pour_109 : decode cX4_pour 109 = .ok (.istore 5, 2) := by decide +kernel
theorem dX4_pour_111 : decode cX4_pour 111 = .ok (.iload 5, 2) := by decide +kernel
theorem dX4_pour_113 : decode cX4_pour 113 = .ok (.iconst 3, 1) := by decide +kernel
theorem dX4_pour_114 : decode cX4_pour 114 = .ok (.if_icmp .ge 19, 3) := by decide +kernel
theorem dX4_pour_117 : decode cX4_pour 117 = .ok (.aload_n 0, 1) := by decide +kernel
theorem dX4_pour_118 : decode cX4_pour 118 = .ok (.getfield 25, 3) := by decide +kernel
theorem dX4_pour_121 : decode cX4_pour 121 = .ok (.iload_n 3, 1) := by decide +kernel
theorem dX4_pour_122 : decode cX4_pour 122 = .ok (.iload 5, 2) := by decide +kernel
theorem dX4_pour_124 : decode cX4_pour 124 = .ok (.iadd, 1) := by decide +kernel
theorem dX4_pour_125 : decode cX4_pour 125 = .ok (.iconst 0, 1) := by decide +kernel
theorem dX4_pour_126 : decode cX4_pour 126 = .ok (.iastore, 1) := by decide +kernel
theorem dX4_pour_127 : decode cX4_pour 127 = .ok (.iinc 5 1, 3) := by decide +kernel
theorem dX4_pour_130 : decode cX4_pour 130 = .ok (.goto (-19), 3) := by decide +kernel
theorem dX4_pour_133 : decode cX4_pour 133 = .ok (.iload 4, 2) := by decide +kernel
theorem dX4_pour_135 : decode cX4_pour 135 = .ok (.ireturn, 1) := by decide +kernel
theorem dX4_clamp_0 : decode cX4_clamp 0 = .ok (.aload_n 0, 1) := by decide +kernel
theorem dX4_clamp_1 : decode cX4_clamp 1 = .ok (.iconst 0, 1) := by decide +kernel
theorem dX4_clamp_2 : decode cX4_clamp 2 = .ok (.putfield 28, 3) := by decide +kernel
theorem dX4_clamp_5 : decode cX4_clamp 5 = .ok (.aload_n 0, 1) := by decide +kernel
theorem dX4_clamp_6 : decode cX4_clamp 6 = .ok (.iload_n 1, 1) := by decide +kernel
theorem dX4_clamp_7 : decode cX4_clamp 7 = .ok (.invokevirtual 55, 3) := by decide +kernel
theorem dX4_clamp_10 : decode cX4_clamp 10 = .ok (.ifCond .eq 25, 3) := by decide +kernel
theorem dX4_clamp_13 : decode cX4_clamp 13 = .ok (.iload_n 2, 1) := by decide +kernel
theorem dX4_clamp_14 : decode cX4_clamp 14 = .ok (.iconst 0, 1) := by decide +kernel
theorem dX4_clamp_15 : decode cX4_clamp 15 = .ok (.iconst 3, 1) := by decide +kernel
theorem dX4_clamp_16 : decode cX4_clamp 16 = .ok (.invokestatic 35, 3) := by decide +kernel
theorem dX4_clamp_19 : decode cX4_clamp 19 = .ok (.ifCond .eq 16, 3) := by decide +kernel
theorem dX4_clamp_22 : decode cX4_clamp 22 = .ok (.aload_n 0, 1) := by decide +kernel
theorem dX4_clamp_23 : decode cX4_clamp 23 = .ok (.getfield 19, 3) := by decide +kernel
theorem dX4_clamp_26 : decode cX4_clamp 26 = .ok (.iconst 4, 1) := by decide +kernel
theorem dX4_clamp_27 : decode cX4_clamp 27 = .ok (.iload_n 1, 1) := by decide +kernel
theorem dX4_clamp_28 : decode cX4_clamp 28 = .ok (.imul, 1) := by decide +kernel
theorem dX4_clamp_29 : decode cX4_clamp 29 = .ok (.iload_n 2, 1) := by decide +kernel
theorem dX4_clamp_30 : decode cX4_clamp 30 = .ok (.iadd, 1) := by decide +kernel
theorem dX4_clamp_31 : decode cX4_clamp 31 = .ok (.iaload, 1) := by decide +kernel
theorem dX4_clamp_32 : decode cX4_clamp 32 = .ok (.goto 8, 3) := by decide +kernel
theorem dX4_clamp_35 : decode cX4_clamp 35 = .ok (.aload_n 0, 1) := by decide +kernel
theorem dX4_clamp_36 : decode cX4_clamp 36 = .ok (.iconst 1, 1) := by decide +kernel
theorem dX4_clamp_37 : decode cX4_clamp 37 = .ok (.invokevirtual 45, 3) := by decide +kernel
theorem dX4_clamp_40 : decode cX4_clamp 40 = .ok (.ireturn, 1) := by decide +kernel
theorem dX4_told_0 : decode cX4_told 0 = .ok (.iload_n 2, 1) := by decide +kernel
theorem dX4_told_1 : decode cX4_told 1 = .ok (.ifCond .ne 7, 3) := by decide +kernel
theorem dX4_told_4 : decode cX4_told 4 = .ok (.iload_n 0, 1) := by decide +kernel
theorem dX4_told_5 : decode cX4_told 5 = .ok (.goto 33, 3) := by decide +kernel
theorem dX4_told_8 : decode cX4_told 8 = .ok (.iload_n 2, 1) := by decide +kernel
theorem dX4_told_9 : decode cX4_told 9 = .ok (.iconst 1, 1) := by decide +kernel
theorem dX4_told_10 : decode cX4_told 10 = .ok (.if_icmp .ne 7, 3) := by decide +kernel
theorem dX4_told_13 : decode cX4_told 13 = .ok (.iload_n 1, 1) := by decide +kernel
theorem dX4_told_14 : decode cX4_told 14 = .ok (.goto 24, 3) := by decide +kernel
theorem dX4_told_17 : decode cX4_told 17 = .ok (.iload_n 2, 1) := by decide +kernel
theorem dX4_told_18 : decode cX4_told 18 = .ok (.iconst 2, 1) := by decide +kernel
theorem dX4_told_19 : decode cX4_told 19 = .ok (.if_icmp .ne 11, 3) := by decide +kernel
theorem dX4_told_22 : decode cX4_told 22 = .ok (.iload_n 0, 1) := by decide +kernel
theorem dX4_told_23 : decode cX4_told 23 = .ok (.iload_n 1, 1) := by decide +kernel
theorem dX4_told_24 : decode cX4_told 24 = .ok (.invokestatic 65, 3) := by decide +kernel
theorem dX4_told_27 : decode cX4_told 27 = .ok (.goto 11, 3) := by decide +kernel
theorem dX4_told_30 : decode cX4_told 30 = .ok (.iload_n 0, 1) := by decide +kernel
theorem dX4_told_31 : decode cX4_told 31 = .ok (.iload_n 1, 1) := by decide +kernel
theorem dX4_told_32 : decode cX4_told 32 = .ok (.invokestatic 65, 3) := by decide +kernel
theorem dX4_told_35 : decode cX4_told 35 = .ok (.invokestatic 68, 3) := by decide +kernel
theorem dX4_told_38 : decode cX4_told 38 = .ok (.ireturn, 1) := by decide +kernel
theorem dX4_pitTold_0 : decode cX4_pitTold 0 = .ok (.aload_n 0, 1) := by decide +kernel
theorem dX4_pitTold_1 : decode cX4_pitTold 1 = .ok (.getfield 22, 3) := by decide +kernel
theorem dX4_pitTold_4 : decode cX4_pitTold 4 = .ok (.iconst 2, 1) := by decide +kernel
theorem dX4_pitTold_5 : decode cX4_pitTold 5 = .ok (.iload_n 1, 1) := by decide +kernel
theorem dX4_pitTold_6 : decode cX4_pitTold 6 = .ok (.imul, 1) := by decide +kernel
theorem dX4_pitTold_7 : decode cX4_pitTold 7 = .ok (.iaload, 1) := by decide +kernel
theorem dX4_pitTold_8 : decode cX4_pitTold 8 = .ok (.aload_n 0, 1) := by decide +kernel
theorem dX4_pitTold_9 : decode cX4_pitTold 9 = .ok (.getfield 22, 3) := by decide +kernel
theorem dX4_pitTold_12 : decode cX4_pitTold 12 = .ok (.iconst 2, 1) := by decide +kernel
theorem dX4_pitTold_13 : decode cX4_pitTold 13 = .ok (.iload_n 1, 1) := by decide +kernel
theorem dX4_pitTold_14 : decode cX4_pitTold 14 = .ok (.imul, 1) := by decide +kernel
theorem dX4_pitTold_15 : decode cX4_pitTold 15 = .ok (.iconst 1, 1) := by decide +kernel
theorem dX4_pitTold_16 : decode cX4_pitTold 16 = .ok (.iadd, 1) := by decide +kernel
theorem dX4_pitTold_17 : decode cX4_pitTold 17 = .ok (.iaload, 1) := by decide +kernel
theorem dX4_pitTold_18 : decode cX4_pitTold 18 = .ok (.iload_n 2, 1) := by decide +kernel
theorem dX4_pitTold_19 : decode cX4_pitTold 19 = .ok (.invokestatic 77, 3) := by decide +kernel
theorem dX4_pitTold_22 : decode cX4_pitTold 22 = .ok (.ireturn, 1) := by decide +kernel
theorem dX4_panTold_0 : decode cX4_panTold 0 = .ok (.iload_n 2, 1) := by decide +kernel
theorem dX4_panTold_1 : decode cX4_panTold 1 = .ok (.iconst 4, 1) := by decide +kernel
theorem dX4_panTold_2 : decode cX4_panTold 2 = .ok (.if_icmp .ne 16, 3) := by decide +kernel
theorem dX4_panTold_5 : decode cX4_panTold 5 = .ok (.aload_n 0, 1) := by decide +kernel
theorem dX4_panTold_6 : decode cX4_panTold 6 = .ok (.getfield 25, 3) := by decide +kernel
theorem dX4_panTold_9 : decode cX4_panTold 9 = .ok (.iconst 3, 1) := by decide +kernel
theorem dX4_panTold_10 : decode cX4_panTold 10 = .ok (.iload_n 1, 1) := by decide +kernel
theorem dX4_panTold_11 : decode cX4_panTold 11 = .ok (.imul, 1) := by decide +kernel
theorem dX4_panTold_12 : decode cX4_panTold 12 = .ok (.iconst 2, 1) := by decide +kernel
theorem dX4_panTold_13 : decode cX4_panTold 13 = .ok (.iadd, 1) := by decide +kernel
theorem dX4_panTold_14 : decode cX4_panTold 14 = .ok (.iaload, 1) := by decide +kernel
theorem dX4_panTold_15 : decode cX4_panTold 15 = .ok (.goto 25, 3) := by decide +kernel
theorem dX4_panTold_18 : decode cX4_panTold 18 = .ok (.aload_n 0, 1) := by decide +kernel
theorem dX4_panTold_19 : decode cX4_panTold 19 = .ok (.getfield 25, 3) := by decide +kernel
theorem dX4_panTold_22 : decode cX4_panTold 22 = .ok (.iconst 3, 1) := by decide +kernel
theorem dX4_panTold_23 : decode cX4_panTold 23 = .ok (.iload_n 1, 1) := by decide +kernel
theorem dX4_panTold_24 : decode cX4_panTold 24 = .ok (.imul, 1) := by decide +kernel
theorem dX4_panTold_25 : decode cX4_panTold 25 = .ok (.iaload, 1) := by decide +kernel
theorem dX4_panTold_26 : decode cX4_panTold 26 = .ok (.aload_n 0, 1) := by decide +kernel
theorem dX4_panTold_27 : decode cX4_panTold 27 = .ok (.getfield 25, 3) := by decide +kernel
theorem dX4_panTold_30 : decode cX4_panTold 30 = .ok (.iconst 3, 1) := by decide +kernel
theorem dX4_panTold_31 : decode cX4_panTold 31 = .ok (.iload_n 1, 1) := by decide +kernel
theorem dX4_panTold_32 : decode cX4_panTold 32 = .ok (.imul, 1) := by decide +kernel
theorem dX4_panTold_33 : decode cX4_panTold 33 = .ok (.iconst 1, 1) := by decide +kernel
theorem dX4_panTold_34 : decode cX4_panTold 34 = .ok (.iadd, 1) := by decide +kernel
theorem dX4_panTold_35 : decode cX4_panTold 35 = .ok (.iaload, 1) := by decide +kernel
theorem dX4_panTold_36 : decode cX4_panTold 36 = .ok (.iload_n 2, 1) := by decide +kernel
theorem dX4_panTold_37 : decode cX4_panTold 37 = .ok (.invokestatic 77, 3) := by decide +kernel
theorem dX4_panTold_40 : decode cX4_panTold 40 = .ok (.ireturn, 1) := by decide +kernel
theorem dX4_pit_0 : decode cX4_pit 0 = .ok (.aload_n 0, 1) := by decide +kernel
theorem dX4_pit_1 : decode cX4_pit 1 = .ok (.iconst 0, 1) := by decide +kernel
theorem dX4_pit_2 : decode cX4_pit 2 = .ok (.putfield 28, 3) := by decide +kernel
theorem dX4_pit_5 : decode cX4_pit 5 = .ok (.aload_n 0, 1) := by decide +kernel
theorem dX4_pit_6 : decode cX4_pit 6 = .ok (.iload_n 1, 1) := by decide +kernel
theorem dX4_pit_7 : decode cX4_pit 7 = .ok (.invokevirtual 59, 3) := by decide +kernel
theorem dX4_pit_10 : decode cX4_pit 10 = .ok (.ifCond .eq 21, 3) := by decide +kernel
theorem dX4_pit_13 : decode cX4_pit 13 = .ok (.iload_n 2, 1) := by decide +kernel
theorem dX4_pit_14 : decode cX4_pit 14 = .ok (.iconst 0, 1) := by decide +kernel
theorem dX4_pit_15 : decode cX4_pit 15 = .ok (.iconst 3, 1) := by decide +kernel
theorem dX4_pit_16 : decode cX4_pit 16 = .ok (.invokestatic 35, 3) := by decide +kernel
theorem dX4_pit_19 : decode cX4_pit 19 = .ok (.ifCond .eq 12, 3) := by decide +kernel
theorem dX4_pit_22 : decode cX4_pit 22 = .ok (.aload_n 0, 1) := by decide +kernel
theorem dX4_pit_23 : decode cX4_pit 23 = .ok (.iload_n 1, 1) := by decide +kernel
theorem dX4_pit_24 : decode cX4_pit 24 = .ok (.iload_n 2, 1) := by decide +kernel
theorem dX4_pit_25 : decode cX4_pit 25 = .ok (.invokevirtual 81, 3) := by decide +kernel
theorem dX4_pit_28 : decode cX4_pit 28 = .ok (.goto 8, 3) := by decide +kernel
theorem dX4_pit_31 : decode cX4_pit 31 = .ok (.aload_n 0, 1) := by decide +kernel
theorem dX4_pit_32 : decode cX4_pit 32 = .ok (.iconst 1, 1) := by decide +kernel
theorem dX4_pit_33 : decode cX4_pit 33 = .ok (.invokevirtual 45, 3) := by decide +kernel
theorem dX4_pit_36 : decode cX4_pit 36 = .ok (.ireturn, 1) := by decide +kernel
theorem dX4_about_0 : decode cX4_about 0 = .ok (.aload_n 0, 1) := by decide +kernel
theorem dX4_about_1 : decode cX4_about 1 = .ok (.iconst 0, 1) := by decide +kernel
theorem dX4_about_2 : decode cX4_about 2 = .ok (.putfield 28, 3) := by decide +kernel
theorem dX4_about_5 : decode cX4_about 5 = .ok (.aload_n 0, 1) := by decide +kernel
theorem dX4_about_6 : decode cX4_about 6 = .ok (.iload_n 1, 1) := by decide +kernel
theorem dX4_about_7 : decode cX4_about 7 = .ok (.invokevirtual 62, 3) := by decide +kernel
theorem dX4_about_10 : decode cX4_about 10 = .ok (.ifCond .eq 21, 3) := by decide +kernel
theorem dX4_about_13 : decode cX4_about 13 = .ok (.iload_n 2, 1) := by decide +kernel
theorem dX4_about_14 : decode cX4_about 14 = .ok (.iconst 0, 1) := by decide +kernel
theorem dX4_about_15 : decode cX4_about 15 = .ok (.iconst 4, 1) := by decide +kernel
theorem dX4_about_16 : decode cX4_about 16 = .ok (.invokestatic 35, 3) := by decide +kernel
theorem dX4_about_19 : decode cX4_about 19 = .ok (.ifCond .eq 12, 3) := by decide +kernel
theorem dX4_about_22 : decode cX4_about 22 = .ok (.aload_n 0, 1) := by decide +kernel
theorem dX4_about_23 : decode cX4_about 23 = .ok (.iload_n 1, 1) := by decide +kernel
theorem dX4_about_24 : decode cX4_about 24 = .ok (.iload_n 2, 1) := by decide +kernel
theorem dX4_about_25 : decode cX4_about 25 = .ok (.invokevirtual 84, 3) := by decide +kernel
theorem dX4_about_28 : decode cX4_about 28 = .ok (.goto 8, 3) := by decide +kernel
theorem dX4_about_31 : decode cX4_about 31 = .ok (.aload_n 0, 1) := by decide +kernel
theorem dX4_about_32 : decode cX4_about 32 = .ok (.iconst 1, 1) := by decide +kernel
theorem dX4_about_33 : decode cX4_about 33 = .ok (.invokevirtual 45, 3) := by decide +kernel
theorem dX4_about_36 : decode cX4_about 36 = .ok (.ireturn, 1) := by decide +kernel
theorem dX4_rain_0 : decode cX4_rain 0 = .ok (.aload_n 0, 1) := by decide +kernel
theorem dX4_rain_1 : decode cX4_rain 1 = .ok (.getfield 13, 3) := by decide +kernel
theorem dX4_rain_4 : decode cX4_rain 4 = .ok (.aload_n 0, 1) := by decide +kernel
theorem dX4_rain_5 : decode cX4_rain 5 = .ok (.getfield 7, 3) := by decide +kernel
theorem dX4_rain_8 : decode cX4_rain 8 = .ok (.iconst 0, 1) := by decide +kernel
theorem dX4_rain_9 : decode cX4_rain 9 = .ok (.iaload, 1) := by decide +kernel
theorem dX4_rain_10 : decode cX4_rain 10 = .ok (.bipush 6, 2) := by decide +kernel
theorem dX4_rain_12 : decode cX4_rain 12 = .ok (.irem, 1) := by decide +kernel
theorem dX4_rain_13 : decode cX4_rain 13 = .ok (.iaload, 1) := by decide +kernel
theorem dX4_rain_14 : decode cX4_rain 14 = .ok (.ireturn, 1) := by decide +kernel
theorem dX4_counted_0 : decode cX4_counted 0 = .ok (.iconst 0, 1) := by decide +kernel
theorem dX4_counted_1 : decode cX4_counted 1 = .ok (.istore_n 2, 1) := by decide +kernel
theorem dX4_counted_2 : decode cX4_counted 2 = .ok (.iload_n 1, 1) := by decide +kernel
theorem dX4_counted_3 : decode cX4_counted 3 = .ok (.tableswitch 164 0 9 #[53, 60, 164, 164, 164, 164, 164, 65, 96, 156], 53) := by decide +kernel
theorem dX4_counted_56 : decode cX4_counted 56 = .ok (.aload_n 0, 1) := by decide +kernel
theorem dX4_counted_57 : decode cX4_counted 57 = .ok (.getfield 7, 3) := by decide +kernel
theorem dX4_counted_60 : decode cX4_counted 60 = .ok (.iconst 0, 1) := by decide +kernel
theorem dX4_counted_61 : decode cX4_counted 61 = .ok (.iaload, 1) := by decide +kernel
theorem dX4_counted_62 : decode cX4_counted 62 = .ok (.ireturn, 1) := by decide +kernel
theorem dX4_counted_63 : decode cX4_counted 63 = .ok (.aload_n 0, 1) := by decide +kernel
theorem dX4_counted_64 : decode cX4_counted 64 = .ok (.invokevirtual 87, 3) := by decide +kernel
theorem dX4_counted_67 : decode cX4_counted 67 = .ok (.ireturn, 1) := by decide +kernel
theorem dX4_counted_68 : decode cX4_counted 68 = .ok (.iconst 0, 1) := by decide +kernel
theorem dX4_counted_69 : decode cX4_counted 69 = .ok (.istore_n 3, 1) := by decide +kernel
theorem dX4_counted_70 : decode cX4_counted 70 = .ok (.iload_n 3, 1) := by decide +kernel
theorem dX4_counted_71 : decode cX4_counted 71 = .ok (.aload_n 0, 1) := by decide +kernel
theorem dX4_counted_72 : decode cX4_counted 72 = .ok (.getfield 32, 3) := by decide +kernel
theorem dX4_counted_75 : decode cX4_counted 75 = .ok (.if_icmp .ge 22, 3) := by decide +kernel
theorem dX4_counted_78 : decode cX4_counted 78 = .ok (.iload_n 2, 1) := by decide +kernel
theorem dX4_counted_79 : decode cX4_counted 79 = .ok (.aload_n 0, 1) := by decide +kernel
theorem dX4_counted_80 : decode cX4_counted 80 = .ok (.getfield 19, 3) := by decide +kernel
theorem dX4_counted_83 : decode cX4_counted 83 = .ok (.iconst 4, 1) := by decide +kernel
theorem dX4_counted_84 : decode cX4_counted 84 = .ok (.iload_n 3, 1) := by decide +kernel
theorem dX4_counted_85 : decode cX4_counted 85 = .ok (.imul, 1) := by decide +kernel
theorem dX4_counted_86 : decode cX4_counted 86 = .ok (.iconst 3, 1) := by decide +kernel
theorem dX4_counted_87 : decode cX4_counted 87 = .ok (.iadd, 1) := by decide +kernel
theorem dX4_counted_88 : decode cX4_counted 88 = .ok (.iaload, 1) := by decide +kernel
theorem dX4_counted_89 : decode cX4_counted 89 = .ok (.iadd, 1) := by decide +kernel
theorem dX4_counted_90 : decode cX4_counted 90 = .ok (.istore_n 2, 1) := by decide +kernel
theorem dX4_counted_91 : decode cX4_counted 91 = .ok (.iinc 3 1, 3) := by decide +kernel
theorem dX4_counted_94 : decode cX4_counted 94 = .ok (.goto (-24), 3) := by decide +kernel
theorem dX4_counted_97 : decode cX4_counted 97 = .ok (.iload_n 2, 1) := by decide +kernel
theorem dX4_counted_98 : decode cX4_counted 98 = .ok (.ireturn, 1) := by decide +kernel
theorem dX4_counted_99 : decode cX4_counted 99 = .ok (.iconst 0, 1) := by decide +kernel
theorem dX4_counted_100 : decode cX4_counted 100 = .ok (.istore_n 3, 1) := by decide +kernel
theorem dX4_counted_101 : decode cX4_counted 101 = .ok (.iload_n 3, 1) := by decide +kernel
theorem dX4_counted_102 : decode cX4_counted 102 = .ok (.aload_n 0, 1) := by decide +kernel
theorem dX4_counted_103 : decode cX4_counted 103 = .ok (.getfield 39, 3) := by decide +kernel
theorem dX4_counted_106 : decode cX4_counted 106 = .ok (.if_icmp .ge 22, 3) := by decide +kernel
theorem dX4_counted_109 : decode cX4_counted 109 = .ok (.iload_n 2, 1) := by decide +kernel
theorem dX4_counted_110 : decode cX4_counted 110 = .ok (.aload_n 0, 1) := by decide +kernel
theorem dX4_counted_111 : decode cX4_counted 111 = .ok (.getfield 22, 3) := by decide +kernel
theorem dX4_counted_114 : decode cX4_counted 114 = .ok (.iconst 2, 1) := by decide +kernel
theorem dX4_counted_115 : decode cX4_counted 115 = .ok (.iload_n 3, 1) := by decide +kernel
theorem dX4_counted_116 : decode cX4_counted 116 = .ok (.imul, 1) := by decide +kernel
theorem dX4_counted_117 : decode cX4_counted 117 = .ok (.iconst 1, 1) := by decide +kernel
theorem dX4_counted_118 : decode cX4_counted 118 = .ok (.iadd, 1) := by decide +kernel
theorem dX4_counted_119 : decode cX4_counted 119 = .ok (.iaload, 1) := by decide +kernel
theorem dX4_counted_120 : decode cX4_counted 120 = .ok (.iadd, 1) := by decide +kernel
theorem dX4_counted_121 : decode cX4_counted 121 = .ok (.istore_n 2, 1) := by decide +kernel
theorem dX4_counted_122 : decode cX4_counted 122 = .ok (.iinc 3 1, 3) := by decide +kernel
theorem dX4_counted_125 : decode cX4_counted 125 = .ok (.goto (-24), 3) := by decide +kernel
theorem dX4_counted_128 : decode cX4_counted 128 = .ok (.iconst 0, 1) := by decide +kernel
theorem dX4_counted_129 : decode cX4_counted 129 = .ok (.istore_n 3, 1) := by decide +kernel
theorem dX4_counted_130 : decode cX4_counted 130 = .ok (.iload_n 3, 1) := by decide +kernel
theorem dX4_counted_131 : decode cX4_counted 131 = .ok (.aload_n 0, 1) := by decide +kernel
theorem dX4_counted_132 : decode cX4_counted 132 = .ok (.getfield 42, 3) := by decide +kernel
theorem dX4_counted_135 : decode cX4_counted 135 = .ok (.if_icmp .ge 22, 3) := by decide +kernel
theorem dX4_counted_138 : decode cX4_counted 138 = .ok (.iload_n 2, 1) := by decide +kernel
theorem dX4_counted_139 : decode cX4_counted 139 = .ok (.aload_n 0, 1) := by decide +kernel
theorem dX4_counted_140 : decode cX4_counted 140 = .ok (.getfield 25, 3) := by decide +kernel
theorem dX4_counted_143 : decode cX4_counted 143 = .ok (.iconst 3, 1) := by decide +kernel
theorem dX4_counted_144 : decode cX4_counted 144 = .ok (.iload_n 3, 1) := by decide +kernel
theorem dX4_counted_145 : decode cX4_counted 145 = .ok (.imul, 1) := by decide +kernel
theorem dX4_counted_146 : decode cX4_counted 146 = .ok (.iconst 1, 1) := by decide +kernel
theorem dX4_counted_147 : decode cX4_counted 147 = .ok (.iadd, 1) := by decide +kernel
theorem dX4_counted_148 : decode cX4_counted 148 = .ok (.iaload, 1) := by decide +kernel
theorem dX4_counted_149 : decode cX4_counted 149 = .ok (.iadd, 1) := by decide +kernel
theorem dX4_counted_150 : decode cX4_counted 150 = .ok (.istore_n 2, 1) := by decide +kernel
theorem dX4_counted_151 : decode cX4_counted 151 = .ok (.iinc 3 1, 3) := by decide +kernel
theorem dX4_counted_154 : decode cX4_counted 154 = .ok (.goto (-24), 3) := by decide +kernel
theorem dX4_counted_157 : decode cX4_counted 157 = .ok (.iload_n 2, 1) := by decide +kernel
theorem dX4_counted_158 : decode cX4_counted 158 = .ok (.ireturn, 1) := by decide +kernel
theorem dX4_counted_159 : decode cX4_counted 159 = .ok (.aload_n 0, 1) := by decide +kernel
theorem dX4_counted_160 : decode cX4_counted 160 = .ok (.getfield 7, 3) := by decide +kernel
theorem dX4_counted_163 : decode cX4_counted 163 = .ok (.bipush 6, 2) := by decide +kernel
theorem dX4_counted_165 : decode cX4_counted 165 = .ok (.iaload, 1) := by decide +kernel
theorem dX4_counted_166 : decode cX4_counted 166 = .ok (.ireturn, 1) := by decide +kernel
theorem dX4_counted_167 : decode cX4_counted 167 = .ok (.aload_n 0, 1) := by decide +kernel
theorem dX4_counted_168 : decode cX4_counted 168 = .ok (.getfield 7, 3) := by decide +kernel
theorem dX4_counted_171 : decode cX4_counted 171 = .ok (.iload_n 1, 1) := by decide +kernel
theorem dX4_counted_172 : decode cX4_counted 172 = .ok (.iconst 1, 1) := by decide +kernel
theorem dX4_counted_173 : decode cX4_counted 173 = .ok (.isub, 1) := by decide +kernel
theorem dX4_counted_174 : decode cX4_counted 174 = .ok (.iaload, 1) := by decide +kernel
theorem dX4_counted_175 : decode cX4_counted 175 = .ok (.ireturn, 1) := by decide +kernel
theorem dX4_count_0 : decode cX4_count 0 = .ok (.aload_n 0, 1) := by decide +kernel
theorem dX4_count_1 : decode cX4_count 1 = .ok (.iconst 0, 1) := by decide +kernel
theorem dX4_count_2 : decode cX4_count 2 = .ok (.putfield 28, 3) := by decide +kernel
theorem dX4_count_5 : decode cX4_count 5 = .ok (.iload_n 1, 1) := by decide +kernel
theorem dX4_count_6 : decode cX4_count 6 = .ok (.iconst 0, 1) := by decide +kernel
theorem dX4_count_7 : decode cX4_count 7 = .ok (.bipush 9, 2) := by decide +kernel
theorem dX4_count_9 : decode cX4_count 9 = .ok (.invokestatic 35, 3) := by decide +kernel
theorem dX4_count_12 : decode cX4_count 12 = .ok (.ifCond .eq 11, 3) := by decide +kernel
theorem dX4_count_15 : decode cX4_count 15 = .ok (.aload_n 0, 1) := by decide +kernel
theorem dX4_count_16 : decode cX4_count 16 = .ok (.iload_n 1, 1) := by decide +kernel
theorem dX4_count_17 : decode cX4_count 17 = .ok (.invokevirtual 91, 3) := by decide +kernel
theorem dX4_count_20 : decode cX4_count 20 = .ok (.goto 8, 3) := by decide +kernel
theorem dX4_count_23 : decode cX4_count 23 = .ok (.aload_n 0, 1) := by decide +kernel
theorem dX4_count_24 : decode cX4_count 24 = .ok (.iconst 1, 1) := by decide +kernel
theorem dX4_count_25 : decode cX4_count 25 = .ok (.invokevirtual 45, 3) := by decide +kernel
theorem dX4_count_28 : decode cX4_count 28 = .ok (.ireturn, 1) := by decide +kernel
theorem dX4_burn_0 : decode cX4_burn 0 = .ok (.aload_n 0, 1) := by decide +kernel
theorem dX4_burn_1 : decode cX4_burn 1 = .ok (.getfield 19, 3) := by decide +kernel
theorem dX4_burn_4 : decode cX4_burn 4 = .ok (.iload_n 1, 1) := by decide +kernel
theorem dX4_burn_5 : decode cX4_burn 5 = .ok (.iconst 3, 1) := by decide +kernel
theorem dX4_burn_6 : decode cX4_burn 6 = .ok (.iadd, 1) := by decide +kernel
theorem dX4_burn_7 : decode cX4_burn 7 = .ok (.iaload, 1) := by decide +kernel
theorem dX4_burn_8 : decode cX4_burn 8 = .ok (.ifCond .ne 4, 3) := by decide +kernel
theorem dX4_burn_11 : decode cX4_burn 11 = .ok (.return_, 1) := by decide +kernel
theorem dX4_burn_12 : decode cX4_burn 12 = .ok (.aload_n 0, 1) := by decide +kernel
theorem dX4_burn_13 : decode cX4_burn 13 = .ok (.getfield 19, 3) := by decide +kernel
theorem dX4_burn_16 : decode cX4_burn 16 = .ok (.iload_n 1, 1) := by decide +kernel
theorem dX4_burn_17 : decode cX4_burn 17 = .ok (.iaload, 1) := by decide +kernel
theorem dX4_burn_18 : decode cX4_burn 18 = .ok (.aload_n 0, 1) := by decide +kernel
theorem dX4_burn_19 : decode cX4_burn 19 = .ok (.invokevirtual 87, 3) := by decide +kernel
theorem dX4_burn_22 : decode cX4_burn 22 = .ok (.iconst 5, 1) := by decide +kernel
theorem dX4_burn_23 : decode cX4_burn 23 = .ok (.if_icmp .ge 8, 3) := by decide +kernel
theorem dX4_burn_26 : decode cX4_burn 26 = .ok (.bipush 8, 2) := by decide +kernel
theorem dX4_burn_28 : decode cX4_burn 28 = .ok (.goto 4, 3) := by decide +kernel
theorem dX4_burn_31 : decode cX4_burn 31 = .ok (.iconst 4, 1) := by decide +kernel
theorem dX4_burn_32 : decode cX4_burn 32 = .ok (.invokestatic 49, 3) := by decide +kernel
theorem dX4_burn_35 : decode cX4_burn 35 = .ok (.istore_n 2, 1) := by decide +kernel
theorem dX4_burn_36 : decode cX4_burn 36 = .ok (.aload_n 0, 1) := by decide +kernel
theorem dX4_burn_37 : decode cX4_burn 37 = .ok (.getfield 19, 3) := by decide +kernel
theorem dX4_burn_40 : decode cX4_burn 40 = .ok (.iload_n 1, 1) := by decide +kernel
theorem dX4_burn_41 : decode cX4_burn 41 = .ok (.dup2, 1) := by decide +kernel
theorem dX4_burn_42 : decode cX4_burn 42 = .ok (.iaload, 1) := by decide +kernel
theorem dX4_burn_43 : decode cX4_burn 43 = .ok (.iload_n 2, 1) := by decide +kernel
theorem dX4_burn_44 : decode cX4_burn 44 = .ok (.isub, 1) := by decide +kernel
theorem dX4_burn_45 : decode cX4_burn 45 = .ok (.iastore, 1) := by decide +kernel
theorem dX4_burn_46 : decode cX4_burn 46 = .ok (.aload_n 0, 1) := by decide +kernel
theorem dX4_burn_47 : decode cX4_burn 47 = .ok (.getfield 19, 3) := by decide +kernel
theorem dX4_burn_50 : decode cX4_burn 50 = .ok (.iload_n 1, 1) := by decide +kernel
theorem dX4_burn_51 : decode cX4_burn 51 = .ok (.iconst 1, 1) := by decide +kernel
theorem dX4_burn_52 : decode cX4_burn 52 = .ok (.iadd, 1) := by decide +kernel
theorem dX4_burn_53 : decode cX4_burn 53 = .ok (.iconst 0, 1) := by decide +kernel
theorem dX4_burn_54 : decode cX4_burn 54 = .ok (.aload_n 0, 1) := by decide +kernel
theorem dX4_burn_55 : decode cX4_burn 55 = .ok (.getfield 19, 3) := by decide +kernel
theorem dX4_burn_58 : decode cX4_burn 58 = .ok (.iload_n 1, 1) := by decide +kernel
theorem dX4_burn_59 : decode cX4_burn 59 = .ok (.iconst 1, 1) := by decide +kernel
theorem dX4_burn_60 : decode cX4_burn 60 = .ok (.iadd, 1) := by decide +kernel
theorem dX4_burn_61 : decode cX4_burn 61 = .ok (.iaload, 1) := by decide +kernel
theorem dX4_burn_62 : decode cX4_burn 62 = .ok (.iconst 2, 1) := by decide +kernel
theorem dX4_burn_63 : decode cX4_burn 63 = .ok (.isub, 1) := by decide +kernel
theorem dX4_burn_64 : decode cX4_burn 64 = .ok (.invokestatic 94, 3) := by decide +kernel
theorem dX4_burn_67 : decode cX4_burn 67 = .ok (.iastore, 1) := by decide +kernel
theorem dX4_burn_68 : decode cX4_burn 68 = .ok (.aload_n 0, 1) := by decide +kernel
theorem dX4_burn_69 : decode cX4_burn 69 = .ok (.getfield 19, 3) := by decide +kernel
theorem dX4_burn_72 : decode cX4_burn 72 = .ok (.iload_n 1, 1) := by decide +kernel
theorem dX4_burn_73 : decode cX4_burn 73 = .ok (.iconst 2, 1) := by decide +kernel
theorem dX4_burn_74 : decode cX4_burn 74 = .ok (.iadd, 1) := by decide +kernel
theorem dX4_burn_75 : decode cX4_burn 75 = .ok (.dup2, 1) := by decide +kernel
theorem dX4_burn_76 : decode cX4_burn 76 = .ok (.iaload, 1) := by decide +kernel
theorem dX4_burn_77 : decode cX4_burn 77 = .ok (.iload_n 2, 1) := by decide +kernel
theorem dX4_burn_78 : decode cX4_burn 78 = .ok (.iadd, 1) := by decide +kernel
theorem dX4_burn_79 : decode cX4_burn 79 = .ok (.iastore, 1) := by decide +kernel
theorem dX4_burn_80 : decode cX4_burn 80 = .ok (.aload_n 0, 1) := by decide +kernel
theorem dX4_burn_81 : decode cX4_burn 81 = .ok (.getfield 19, 3) := by decide +kernel
theorem dX4_burn_84 : decode cX4_burn 84 = .ok (.iload_n 1, 1) := by decide +kernel
theorem dX4_burn_85 : decode cX4_burn 85 = .ok (.iaload, 1) := by decide +kernel
theorem dX4_burn_86 : decode cX4_burn 86 = .ok (.ifCond .eq 14, 3) := by decide +kernel
theorem dX4_burn_89 : decode cX4_burn 89 = .ok (.aload_n 0, 1) := by decide +kernel
theorem dX4_burn_90 : decode cX4_burn 90 = .ok (.getfield 19, 3) := by decide +kernel
theorem dX4_burn_93 : decode cX4_burn 93 = .ok (.iload_n 1, 1) := by decide +kernel
theorem dX4_burn_94 : decode cX4_burn 94 = .ok (.iconst 1, 1) := by decide +kernel
theorem dX4_burn_95 : decode cX4_burn 95 = .ok (.iadd, 1) := by decide +kernel
theorem dX4_burn_96 : decode cX4_burn 96 = .ok (.iaload, 1) := by decide +kernel
theorem dX4_burn_97 : decode cX4_burn 97 = .ok (.ifCond .ne 12, 3) := by decide +kernel
theorem dX4_burn_100 : decode cX4_burn 100 = .ok (.aload_n 0, 1) := by decide +kernel
theorem dX4_burn_101 : decode cX4_burn 101 = .ok (.getfield 19, 3) := by decide +kernel
theorem dX4_burn_104 : decode cX4_burn 104 = .ok (.iload_n 1, 1) := by decide +kernel
theorem dX4_burn_105 : decode cX4_burn 105 = .ok (.iconst 3, 1) := by decide +kernel
theorem dX4_burn_106 : decode cX4_burn 106 = .ok (.iadd, 1) := by decide +kernel
theorem dX4_burn_107 : decode cX4_burn 107 = .ok (.iconst 0, 1) := by decide +kernel
theorem dX4_burn_108 : decode cX4_burn 108 = .ok (.iastore, 1) := by decide +kernel
theorem dX4_burn_109 : decode cX4_burn 109 = .ok (.return_, 1) := by decide +kernel
theorem dX4_cook_0 : decode cX4_cook 0 = .ok (.aload_n 0, 1) := by decide +kernel
theorem dX4_cook_1 : decode cX4_cook 1 = .ok (.getfield 25, 3) := by decide +kernel
theorem dX4_cook_4 : decode cX4_cook 4 = .ok (.iload_n 1, 1) := by decide +kernel
theorem dX4_cook_5 : decode cX4_cook 5 = .ok (.iconst 2, 1) := by decide +kernel
theorem dX4_cook_6 : decode cX4_cook 6 = .ok (.iadd, 1) := by decide +kernel
theorem dX4_cook_7 : decode cX4_cook 7 = .ok (.iaload, 1) := by decide +kernel
theorem dX4_cook_8 : decode cX4_cook 8 = .ok (.ifCond .ne 4, 3) := by decide +kernel
theorem dX4_cook_11 : decode cX4_cook 11 = .ok (.return_, 1) := by decide +kernel
theorem dX4_cook_12 : decode cX4_cook 12 = .ok (.aload_n 0, 1) := by decide +kernel
theorem dX4_cook_13 : decode cX4_cook 13 = .ok (.getfield 7, 3) := by decide +kernel
theorem dX4_cook_16 : decode cX4_cook 16 = .ok (.iconst 1, 1) := by decide +kernel
theorem dX4_cook_17 : decode cX4_cook 17 = .ok (.iaload, 1) := by decide +kernel
theorem dX4_cook_18 : decode cX4_cook 18 = .ok (.iconst 4, 1) := by decide +kernel
theorem dX4_cook_19 : decode cX4_cook 19 = .ok (.if_icmp .lt 12, 3) := by decide +kernel
theorem dX4_cook_22 : decode cX4_cook 22 = .ok (.aload_n 0, 1) := by decide +kernel
theorem dX4_cook_23 : decode cX4_cook 23 = .ok (.getfield 25, 3) := by decide +kernel
theorem dX4_cook_26 : decode cX4_cook 26 = .ok (.iload_n 1, 1) := by decide +kernel
theorem dX4_cook_27 : decode cX4_cook 27 = .ok (.iaload, 1) := by decide +kernel
theorem dX4_cook_28 : decode cX4_cook 28 = .ok (.ifCond .ne 13, 3) := by decide +kernel
theorem dX4_cook_31 : decode cX4_cook 31 = .ok (.aload_n 0, 1) := by decide +kernel
theorem dX4_cook_32 : decode cX4_cook 32 = .ok (.getfield 25, 3) := by decide +kernel
theorem dX4_cook_35 : decode cX4_cook 35 = .ok (.iload_n 1, 1) := by decide +kernel
theorem dX4_cook_36 : decode cX4_cook 36 = .ok (.iconst 2, 1) := by decide +kernel
theorem dX4_cook_37 : decode cX4_cook 37 = .ok (.iadd, 1) := by decide +kernel
theorem dX4_cook_38 : decode cX4_cook 38 = .ok (.iconst 0, 1) := by decide +kernel
theorem dX4_cook_39 : decode cX4_cook 39 = .ok (.iastore, 1) := by decide +kernel
theorem dX4_cook_40 : decode cX4_cook 40 = .ok (.return_, 1) := by decide +kernel
theorem dX4_cook_41 : decode cX4_cook 41 = .ok (.aload_n 0, 1) := by decide +kernel
theorem dX4_cook_42 : decode cX4_cook 42 = .ok (.getfield 7, 3) := by decide +kernel
theorem dX4_cook_45 : decode cX4_cook 45 = .ok (.iconst 1, 1) := by decide +kernel
theorem dX4_cook_46 : decode cX4_cook 46 = .ok (.dup2, 1) := by decide +kernel
theorem dX4_cook_47 : decode cX4_cook 47 = .ok (.iaload, 1) := by decide +kernel
theorem dX4_cook_48 : decode cX4_cook 48 = .ok (.iconst 4, 1) := by decide +kernel
theorem dX4_cook_49 : decode cX4_cook 49 = .ok (.isub, 1) := by decide +kernel
theorem dX4_cook_50 : decode cX4_cook 50 = .ok (.iastore, 1) := by decide +kernel
theorem dX4_cook_51 : decode cX4_cook 51 = .ok (.aload_n 0, 1) := by decide +kernel
theorem dX4_cook_52 : decode cX4_cook 52 = .ok (.getfield 25, 3) := by decide +kernel
theorem dX4_cook_55 : decode cX4_cook 55 = .ok (.iload_n 1, 1) := by decide +kernel
theorem dX4_cook_56 : decode cX4_cook 56 = .ok (.iconst 0, 1) := by decide +kernel
theorem dX4_cook_57 : decode cX4_cook 57 = .ok (.aload_n 0, 1) := by decide +kernel
theorem dX4_cook_58 : decode cX4_cook 58 = .ok (.getfield 25, 3) := by decide +kernel
theorem dX4_cook_61 : decode cX4_cook 61 = .ok (.iload_n 1, 1) := by decide +kernel
theorem dX4_cook_62 : decode cX4_cook 62 = .ok (.iaload, 1) := by decide +kernel
theorem dX4_cook_63 : decode cX4_cook 63 = .ok (.bipush 12, 2) := by decide +kernel
theorem dX4_cook_65 : decode cX4_cook 65 = .ok (.isub, 1) := by decide +kernel
theorem dX4_cook_66 : decode cX4_cook 66 = .ok (.invokestatic 94, 3) := by decide +kernel
theorem dX4_cook_69 : decode cX4_cook 69 = .ok (.iastore, 1) := by decide +kernel
theorem dX4_cook_70 : decode cX4_cook 70 = .ok (.return_, 1) := by decide +kernel
theorem dX4_dayOn_0 : decode cX4_dayOn 0 = .ok (.iconst 0, 1) := by decide +kernel
theorem dX4_dayOn_1 : decode cX4_dayOn 1 = .ok (.istore_n 1, 1) := by decide +kernel
theorem dX4_dayOn_2 : decode cX4_dayOn 2 = .ok (.iload_n 1, 1) := by decide +kernel
theorem dX4_dayOn_3 : decode cX4_dayOn 3 = .ok (.aload_n 0, 1) := by decide +kernel
theorem dX4_dayOn_4 : decode cX4_dayOn 4 = .ok (.getfield 32, 3) := by decide +kernel
theorem dX4_dayOn_7 : decode cX4_dayOn 7 = .ok (.if_icmp .ge 16, 3) := by decide +kernel
theorem dX4_dayOn_10 : decode cX4_dayOn 10 = .ok (.aload_n 0, 1) := by decide +kernel
theorem dX4_dayOn_11 : decode cX4_dayOn 11 = .ok (.iconst 4, 1) := by decide +kernel
theorem dX4_dayOn_12 : decode cX4_dayOn 12 = .ok (.iload_n 1, 1) := by decide +kernel
theorem dX4_dayOn_13 : decode cX4_dayOn 13 = .ok (.imul, 1) := by decide +kernel
theorem dX4_dayOn_14 : decode cX4_dayOn 14 = .ok (.invokevirtual 97, 3) := by decide +kernel
theorem dX4_dayOn_17 : decode cX4_dayOn 17 = .ok (.iinc 1 1, 3) := by decide +kernel
theorem dX4_dayOn_20 : decode cX4_dayOn 20 = .ok (.goto (-18), 3) := by decide +kernel
theorem dX4_dayOn_23 : decode cX4_dayOn 23 = .ok (.iconst 0, 1) := by decide +kernel
theorem dX4_dayOn_24 : decode cX4_dayOn 24 = .ok (.istore_n 1, 1) := by decide +kernel
theorem dX4_dayOn_25 : decode cX4_dayOn 25 = .ok (.iload_n 1, 1) := by decide +kernel
theorem dX4_dayOn_26 : decode cX4_dayOn 26 = .ok (.aload_n 0, 1) := by decide +kernel
theorem dX4_dayOn_27 : decode cX4_dayOn 27 = .ok (.getfield 39, 3) := by decide +kernel
theorem dX4_dayOn_30 : decode cX4_dayOn 30 = .ok (.if_icmp .ge 64, 3) := by decide +kernel
theorem dX4_dayOn_33 : decode cX4_dayOn 33 = .ok (.aload_n 0, 1) := by decide +kernel
theorem dX4_dayOn_34 : decode cX4_dayOn 34 = .ok (.getfield 22, 3) := by decide +kernel
theorem dX4_dayOn_37 : decode cX4_dayOn 37 = .ok (.iconst 2, 1) := by decide +kernel
theorem dX4_dayOn_38 : decode cX4_dayOn 38 = .ok (.iload_n 1, 1) := by decide +kernel
theorem dX4_dayOn_39 : decode cX4_dayOn 39 = .ok (.imul, 1) := by decide +kernel
theorem dX4_dayOn_40 : decode cX4_dayOn 40 = .ok (.iaload, 1) := by decide +kernel
theorem dX4_dayOn_41 : decode cX4_dayOn 41 = .ok (.ifCond .le 47, 3) := by decide +kernel
theorem dX4_dayOn_44 : decode cX4_dayOn 44 = .ok (.aload_n 0, 1) := by decide +kernel
theorem dX4_dayOn_45 : decode cX4_dayOn 45 = .ok (.getfield 22, 3) := by decide +kernel
theorem dX4_dayOn_48 : decode cX4_dayOn 48 = .ok (.iconst 2, 1) := by decide +kernel
theorem dX4_dayOn_49 : decode cX4_dayOn 49 = .ok (.iload_n 1, 1) := by decide +kernel
theorem dX4_dayOn_50 : decode cX4_dayOn 50 = .ok (.imul, 1) := by decide +kernel
theorem dX4_dayOn_51 : decode cX4_dayOn 51 = .ok (.iconst 0, 1) := by decide +kernel
theorem dX4_dayOn_52 : decode cX4_dayOn 52 = .ok (.sipush 400, 3) := by decide +kernel
theorem dX4_dayOn_55 : decode cX4_dayOn 55 = .ok (.aload_n 0, 1) := by decide +kernel
theorem dX4_dayOn_56 : decode cX4_dayOn 56 = .ok (.getfield 22, 3) := by decide +kernel
theorem dX4_dayOn_59 : decode cX4_dayOn 59 = .ok (.iconst 2, 1) := by decide +kernel
theorem dX4_dayOn_60 : decode cX4_dayOn 60 = .ok (.iload_n 1, 1) := by decide +kernel
theorem dX4_dayOn_61 : decode cX4_dayOn 61 = .ok (.imul, 1) := by decide +kernel
theorem dX4_dayOn_62 : decode cX4_dayOn 62 = .ok (.iaload, 1) := by decide +kernel
theorem dX4_dayOn_63 : decode cX4_dayOn 63 = .ok (.aload_n 0, 1) := by decide +kernel
theorem dX4_dayOn_64 : decode cX4_dayOn 64 = .ok (.invokevirtual 87, 3) := by decide +kernel
theorem dX4_dayOn_67 : decode cX4_dayOn 67 = .ok (.iadd, 1) := by decide +kernel
theorem dX4_dayOn_68 : decode cX4_dayOn 68 = .ok (.invokestatic 49, 3) := by decide +kernel
theorem dX4_dayOn_71 : decode cX4_dayOn 71 = .ok (.aload_n 0, 1) := by decide +kernel
theorem dX4_dayOn_72 : decode cX4_dayOn 72 = .ok (.invokevirtual 87, 3) := by decide +kernel
theorem dX4_dayOn_75 : decode cX4_dayOn 75 = .ok (.ifCond .ne 7, 3) := by decide +kernel
theorem dX4_dayOn_78 : decode cX4_dayOn 78 = .ok (.iconst 3, 1) := by decide +kernel
theorem dX4_dayOn_79 : decode cX4_dayOn 79 = .ok (.goto 4, 3) := by decide +kernel
theorem dX4_dayOn_82 : decode cX4_dayOn 82 = .ok (.iconst 0, 1) := by decide +kernel
theorem dX4_dayOn_83 : decode cX4_dayOn 83 = .ok (.isub, 1) := by decide +kernel
theorem dX4_dayOn_84 : decode cX4_dayOn 84 = .ok (.invokestatic 94, 3) := by decide +kernel
theorem dX4_dayOn_87 : decode cX4_dayOn 87 = .ok (.iastore, 1) := by decide +kernel
theorem dX4_dayOn_88 : decode cX4_dayOn 88 = .ok (.iinc 1 1, 3) := by decide +kernel
theorem dX4_dayOn_91 : decode cX4_dayOn 91 = .ok (.goto (-66), 3) := by decide +kernel
theorem dX4_dayOn_94 : decode cX4_dayOn 94 = .ok (.iconst 0, 1) := by decide +kernel
theorem dX4_dayOn_95 : decode cX4_dayOn 95 = .ok (.istore_n 1, 1) := by decide +kernel
theorem dX4_dayOn_96 : decode cX4_dayOn 96 = .ok (.iload_n 1, 1) := by decide +kernel
theorem dX4_dayOn_97 : decode cX4_dayOn 97 = .ok (.aload_n 0, 1) := by decide +kernel
theorem dX4_dayOn_98 : decode cX4_dayOn 98 = .ok (.getfield 42, 3) := by decide +kernel
theorem dX4_dayOn_101 : decode cX4_dayOn 101 = .ok (.if_icmp .ge 16, 3) := by decide +kernel
theorem dX4_dayOn_104 : decode cX4_dayOn 104 = .ok (.aload_n 0, 1) := by decide +kernel
theorem dX4_dayOn_105 : decode cX4_dayOn 105 = .ok (.iconst 3, 1) := by decide +kernel
theorem dX4_dayOn_106 : decode cX4_dayOn 106 = .ok (.iload_n 1, 1) := by decide +kernel
theorem dX4_dayOn_107 : decode cX4_dayOn 107 = .ok (.imul, 1) := by decide +kernel
theorem dX4_dayOn_108 : decode cX4_dayOn 108 = .ok (.invokevirtual 101, 3) := by decide +kernel
theorem dX4_dayOn_111 : decode cX4_dayOn 111 = .ok (.iinc 1 1, 3) := by decide +kernel
theorem dX4_dayOn_114 : decode cX4_dayOn 114 = .ok (.goto (-18), 3) := by decide +kernel
theorem dX4_dayOn_117 : decode cX4_dayOn 117 = .ok (.aload_n 0, 1) := by decide +kernel
theorem dX4_dayOn_118 : decode cX4_dayOn 118 = .ok (.getfield 16, 3) := by decide +kernel
theorem dX4_dayOn_121 : decode cX4_dayOn 121 = .ok (.aload_n 0, 1) := by decide +kernel
theorem dX4_dayOn_122 : decode cX4_dayOn 122 = .ok (.getfield 7, 3) := by decide +kernel
theorem dX4_dayOn_125 : decode cX4_dayOn 125 = .ok (.iconst 0, 1) := by decide +kernel
theorem dX4_dayOn_126 : decode cX4_dayOn 126 = .ok (.iaload, 1) := by decide +kernel
theorem dX4_dayOn_127 : decode cX4_dayOn 127 = .ok (.bipush 7, 2) := by decide +kernel
theorem dX4_dayOn_129 : decode cX4_dayOn 129 = .ok (.irem, 1) := by decide +kernel
theorem dX4_dayOn_130 : decode cX4_dayOn 130 = .ok (.iaload, 1) := by decide +kernel
theorem dX4_dayOn_131 : decode cX4_dayOn 131 = .ok (.istore_n 1, 1) := by decide +kernel
theorem dX4_dayOn_132 : decode cX4_dayOn 132 = .ok (.iload_n 1, 1) := by decide +kernel
theorem dX4_dayOn_133 : decode cX4_dayOn 133 = .ok (.aload_n 0, 1) := by decide +kernel
theorem dX4_dayOn_134 : decode cX4_dayOn 134 = .ok (.getfield 7, 3) := by decide +kernel
theorem dX4_dayOn_137 : decode cX4_dayOn 137 = .ok (.iconst 3, 1) := by decide +kernel
theorem dX4_dayOn_138 : decode cX4_dayOn 138 = .ok (.iaload, 1) := by decide +kernel
theorem dX4_dayOn_139 : decode cX4_dayOn 139 = .ok (.invokestatic 49, 3) := by decide +kernel
theorem dX4_dayOn_142 : decode cX4_dayOn 142 = .ok (.istore_n 2, 1) := by decide +kernel
theorem dX4_dayOn_143 : decode cX4_dayOn 143 = .ok (.iload_n 1, 1) := by decide +kernel
theorem dX4_dayOn_144 : decode cX4_dayOn 144 = .ok (.iload_n 2, 1) := by decide +kernel
theorem dX4_dayOn_145 : decode cX4_dayOn 145 = .ok (.isub, 1) := by decide +kernel
theorem dX4_dayOn_146 : decode cX4_dayOn 146 = .ok (.aload_n 0, 1) := by decide +kernel
theorem dX4_dayOn_147 : decode cX4_dayOn 147 = .ok (.getfield 7, 3) := by decide +kernel
theorem dX4_dayOn_150 : decode cX4_dayOn 150 = .ok (.iconst 4, 1) := by decide +kernel
theorem dX4_dayOn_151 : decode cX4_dayOn 151 = .ok (.iaload, 1) := by decide +kernel
theorem dX4_dayOn_152 : decode cX4_dayOn 152 = .ok (.invokestatic 49, 3) := by decide +kernel
theorem dX4_dayOn_155 : decode cX4_dayOn 155 = .ok (.istore_n 3, 1) := by decide +kernel
theorem dX4_dayOn_156 : decode cX4_dayOn 156 = .ok (.aload_n 0, 1) := by decide +kernel
theorem dX4_dayOn_157 : decode cX4_dayOn 157 = .ok (.getfield 7, 3) := by decide +kernel
theorem dX4_dayOn_160 : decode cX4_dayOn 160 = .ok (.iconst 3, 1) := by decide +kernel
theorem dX4_dayOn_161 : decode cX4_dayOn 161 = .ok (.dup2, 1) := by decide +kernel
theorem dX4_dayOn_162 : decode cX4_dayOn 162 = .ok (.iaload, 1) := by decide +kernel
theorem dX4_dayOn_163 : decode cX4_dayOn 163 = .ok (.iload_n 2, 1) := by decide +kernel
theorem dX4_dayOn_164 : decode cX4_dayOn 164 = .ok (.isub, 1) := by decide +kernel
theorem dX4_dayOn_165 : decode cX4_dayOn 165 = .ok (.iastore, 1) := by decide +kernel
theorem dX4_dayOn_166 : decode cX4_dayOn 166 = .ok (.aload_n 0, 1) := by decide +kernel
theorem dX4_dayOn_167 : decode cX4_dayOn 167 = .ok (.getfield 7, 3) := by decide +kernel
theorem dX4_dayOn_170 : decode cX4_dayOn 170 = .ok (.iconst 4, 1) := by decide +kernel
theorem dX4_dayOn_171 : decode cX4_dayOn 171 = .ok (.dup2, 1) := by decide +kernel
theorem dX4_dayOn_172 : decode cX4_dayOn 172 = .ok (.iaload, 1) := by decide +kernel
theorem dX4_dayOn_173 : decode cX4_dayOn 173 = .ok (.iload_n 3, 1) := by decide +kernel
theorem dX4_dayOn_174 : decode cX4_dayOn 174 = .ok (.isub, 1) := by decide +kernel
theorem dX4_dayOn_175 : decode cX4_dayOn 175 = .ok (.iastore, 1) := by decide +kernel
theorem dX4_dayOn_176 : decode cX4_dayOn 176 = .ok (.aload_n 0, 1) := by decide +kernel
theorem dX4_dayOn_177 : decode cX4_dayOn 177 = .ok (.getfield 7, 3) := by decide +kernel
theorem dX4_dayOn_180 : decode cX4_dayOn 180 = .ok (.iconst 5, 1) := by decide +kernel
theorem dX4_dayOn_181 : decode cX4_dayOn 181 = .ok (.dup2, 1) := by decide +kernel
theorem dX4_dayOn_182 : decode cX4_dayOn 182 = .ok (.iaload, 1) := by decide +kernel
theorem dX4_dayOn_183 : decode cX4_dayOn 183 = .ok (.iconst 5, 1) := by decide +kernel
theorem dX4_dayOn_184 : decode cX4_dayOn 184 = .ok (.iload_n 2, 1) := by decide +kernel
theorem dX4_dayOn_185 : decode cX4_dayOn 185 = .ok (.imul, 1) := by decide +kernel
theorem dX4_dayOn_186 : decode cX4_dayOn 186 = .ok (.iconst 2, 1) := by decide +kernel
theorem dX4_dayOn_187 : decode cX4_dayOn 187 = .ok (.iload_n 3, 1) := by decide +kernel
theorem dX4_dayOn_188 : decode cX4_dayOn 188 = .ok (.imul, 1) := by decide +kernel
theorem dX4_dayOn_189 : decode cX4_dayOn 189 = .ok (.iadd, 1) := by decide +kernel
theorem dX4_dayOn_190 : decode cX4_dayOn 190 = .ok (.iadd, 1) := by decide +kernel
theorem dX4_dayOn_191 : decode cX4_dayOn 191 = .ok (.iastore, 1) := by decide +kernel
theorem dX4_dayOn_192 : decode cX4_dayOn 192 = .ok (.aload_n 0, 1) := by decide +kernel
theorem dX4_dayOn_193 : decode cX4_dayOn 193 = .ok (.getfield 7, 3) := by decide +kernel
theorem dX4_dayOn_196 : decode cX4_dayOn 196 = .ok (.bipush 6, 2) := by decide +kernel
theorem dX4_dayOn_198 : decode cX4_dayOn 198 = .ok (.dup2, 1) := by decide +kernel
theorem dX4_dayOn_199 : decode cX4_dayOn 199 = .ok (.iaload, 1) := by decide +kernel
theorem dX4_dayOn_200 : decode cX4_dayOn 200 = .ok (.iload_n 2, 1) := by decide +kernel
theorem dX4_dayOn_201 : decode cX4_dayOn 201 = .ok (.iload_n 3, 1) := by decide +kernel
theorem dX4_dayOn_202 : decode cX4_dayOn 202 = .ok (.iadd, 1) := by decide +kernel
theorem dX4_dayOn_203 : decode cX4_dayOn 203 = .ok (.iadd, 1) := by decide +kernel
theorem dX4_dayOn_204 : decode cX4_dayOn 204 = .ok (.iastore, 1) := by decide +kernel
theorem dX4_dayOn_205 : decode cX4_dayOn 205 = .ok (.aload_n 0, 1) := by decide +kernel
theorem dX4_dayOn_206 : decode cX4_dayOn 206 = .ok (.getfield 7, 3) := by decide +kernel
theorem dX4_dayOn_209 : decode cX4_dayOn 209 = .ok (.iconst 0, 1) := by decide +kernel
theorem dX4_dayOn_210 : decode cX4_dayOn 210 = .ok (.dup2, 1) := by decide +kernel
theorem dX4_dayOn_211 : decode cX4_dayOn 211 = .ok (.iaload, 1) := by decide +kernel
theorem dX4_dayOn_212 : decode cX4_dayOn 212 = .ok (.iconst 1, 1) := by decide +kernel
theorem dX4_dayOn_213 : decode cX4_dayOn 213 = .ok (.iadd, 1) := by decide +kernel
theorem dX4_dayOn_214 : decode cX4_dayOn 214 = .ok (.iastore, 1) := by decide +kernel
theorem dX4_dayOn_215 : decode cX4_dayOn 215 = .ok (.return_, 1) := by decide +kernel
theorem dX4_daysOn_0 : decode cX4_daysOn 0 = .ok (.iconst 0, 1) := by decide +kernel
theorem dX4_daysOn_1 : decode cX4_daysOn 1 = .ok (.istore_n 2, 1) := by decide +kernel
theorem dX4_daysOn_2 : decode cX4_daysOn 2 = .ok (.iload_n 2, 1) := by decide +kernel
theorem dX4_daysOn_3 : decode cX4_daysOn 3 = .ok (.iload_n 1, 1) := by decide +kernel
theorem dX4_daysOn_4 : decode cX4_daysOn 4 = .ok (.if_icmp .ge 13, 3) := by decide +kernel
theorem dX4_daysOn_7 : decode cX4_daysOn 7 = .ok (.aload_n 0, 1) := by decide +kernel
theorem dX4_daysOn_8 : decode cX4_daysOn 8 = .ok (.invokevirtual 104, 3) := by decide +kernel
theorem dX4_daysOn_11 : decode cX4_daysOn 11 = .ok (.iinc 2 1, 3) := by decide +kernel
theorem dX4_daysOn_14 : decode cX4_daysOn 14 = .ok (.goto (-12), 3) := by decide +kernel
theorem dX4_daysOn_17 : decode cX4_daysOn 17 = .ok (.return_, 1) := by decide +kernel
theorem dX4_pass_0 : decode cX4_pass 0 = .ok (.aload_n 0, 1) := by decide +kernel
theorem dX4_pass_1 : decode cX4_pass 1 = .ok (.iconst 0, 1) := by decide +kernel
theorem dX4_pass_2 : decode cX4_pass 2 = .ok (.putfield 28, 3) := by decide +kernel
theorem dX4_pass_5 : decode cX4_pass 5 = .ok (.iload_n 1, 1) := by decide +kernel
theorem dX4_pass_6 : decode cX4_pass 6 = .ok (.iconst 1, 1) := by decide +kernel
theorem dX4_pass_7 : decode cX4_pass 7 = .ok (.bipush 60, 2) := by decide +kernel
theorem dX4_pass_9 : decode cX4_pass 9 = .ok (.invokestatic 35, 3) := by decide +kernel
theorem dX4_pass_12 : decode cX4_pass 12 = .ok (.ifCond .ne 9, 3) := by decide +kernel
theorem dX4_pass_15 : decode cX4_pass 15 = .ok (.aload_n 0, 1) := by decide +kernel
theorem dX4_pass_16 : decode cX4_pass 16 = .ok (.iconst 1, 1) := by decide +kernel
theorem dX4_pass_17 : decode cX4_pass 17 = .ok (.invokevirtual 45, 3) := by decide +kernel
theorem dX4_pass_20 : decode cX4_pass 20 = .ok (.ireturn, 1) := by decide +kernel
theorem dX4_pass_21 : decode cX4_pass 21 = .ok (.aload_n 0, 1) := by decide +kernel
theorem dX4_pass_22 : decode cX4_pass 22 = .ok (.getfield 7, 3) := by decide +kernel
theorem dX4_pass_25 : decode cX4_pass 25 = .ok (.iconst 5, 1) := by decide +kernel
theorem dX4_pass_26 : decode cX4_pass 26 = .ok (.iaload, 1) := by decide +kernel
theorem dX4_pass_27 : decode cX4_pass 27 = .ok (.istore_n 2, 1) := by decide +kernel
theorem dX4_pass_28 : decode cX4_pass 28 = .ok (.aload_n 0, 1) := by decide +kernel
theorem dX4_pass_29 : decode cX4_pass 29 = .ok (.iload_n 1, 1) := by decide +kernel
theorem dX4_pass_30 : decode cX4_pass 30 = .ok (.invokevirtual 107, 3) := by decide +kernel
theorem dX4_pass_33 : decode cX4_pass 33 = .ok (.aload_n 0, 1) := by decide +kernel
theorem dX4_pass_34 : decode cX4_pass 34 = .ok (.getfield 7, 3) := by decide +kernel
theorem dX4_pass_37 : decode cX4_pass 37 = .ok (.iconst 5, 1) := by decide +kernel
theorem dX4_pass_38 : decode cX4_pass 38 = .ok (.iaload, 1) := by decide +kernel
theorem dX4_pass_39 : decode cX4_pass 39 = .ok (.iload_n 2, 1) := by decide +kernel
theorem dX4_pass_40 : decode cX4_pass 40 = .ok (.isub, 1) := by decide +kernel
theorem dX4_pass_41 : decode cX4_pass 41 = .ok (.ireturn, 1) := by decide +kernel
theorem dX4_kept_0 : decode cX4_kept 0 = .ok (.iconst 4, 1) := by decide +kernel
theorem dX4_kept_1 : decode cX4_kept 1 = .ok (.anewarray 110, 3) := by decide +kernel
theorem dX4_kept_4 : decode cX4_kept 4 = .ok (.dup, 1) := by decide +kernel
theorem dX4_kept_5 : decode cX4_kept 5 = .ok (.iconst 0, 1) := by decide +kernel
theorem dX4_kept_6 : decode cX4_kept 6 = .ok (.aload_n 0, 1) := by decide +kernel
theorem dX4_kept_7 : decode cX4_kept 7 = .ok (.getfield 7, 3) := by decide +kernel
theorem dX4_kept_10 : decode cX4_kept 10 = .ok (.invokevirtual 111, 3) := by decide +kernel
theorem dX4_kept_13 : decode cX4_kept 13 = .ok (.checkcast 110, 3) := by decide +kernel
theorem dX4_kept_16 : decode cX4_kept 16 = .ok (.aastore, 1) := by decide +kernel
theorem dX4_kept_17 : decode cX4_kept 17 = .ok (.dup, 1) := by decide +kernel
theorem dX4_kept_18 : decode cX4_kept 18 = .ok (.iconst 1, 1) := by decide +kernel
theorem dX4_kept_19 : decode cX4_kept 19 = .ok (.aload_n 0, 1) := by decide +kernel
theorem dX4_kept_20 : decode cX4_kept 20 = .ok (.getfield 19, 3) := by decide +kernel
theorem dX4_kept_23 : decode cX4_kept 23 = .ok (.invokevirtual 111, 3) := by decide +kernel
theorem dX4_kept_26 : decode cX4_kept 26 = .ok (.checkcast 110, 3) := by decide +kernel
theorem dX4_kept_29 : decode cX4_kept 29 = .ok (.aastore, 1) := by decide +kernel
theorem dX4_kept_30 : decode cX4_kept 30 = .ok (.dup, 1) := by decide +kernel
theorem dX4_kept_31 : decode cX4_kept 31 = .ok (.iconst 2, 1) := by decide +kernel
theorem dX4_kept_32 : decode cX4_kept 32 = .ok (.aload_n 0, 1) := by decide +kernel
theorem dX4_kept_33 : decode cX4_kept 33 = .ok (.getfield 22, 3) := by decide +kernel
theorem dX4_kept_36 : decode cX4_kept 36 = .ok (.invokevirtual 111, 3) := by decide +kernel
theorem dX4_kept_39 : decode cX4_kept 39 = .ok (.checkcast 110, 3) := by decide +kernel
theorem dX4_kept_42 : decode cX4_kept 42 = .ok (.aastore, 1) := by decide +kernel
theorem dX4_kept_43 : decode cX4_kept 43 = .ok (.dup, 1) := by decide +kernel
theorem dX4_kept_44 : decode cX4_kept 44 = .ok (.iconst 3, 1) := by decide +kernel
theorem dX4_kept_45 : decode cX4_kept 45 = .ok (.aload_n 0, 1) := by decide +kernel
theorem dX4_kept_46 : decode cX4_kept 46 = .ok (.getfield 25, 3) := by decide +kernel
theorem dX4_kept_49 : decode cX4_kept 49 = .ok (.invokevirtual 111, 3) := by decide +kernel
theorem dX4_kept_52 : decode cX4_kept 52 = .ok (.checkcast 110, 3) := by decide +kernel
theorem dX4_kept_55 : decode cX4_kept 55 = .ok (.aastore, 1) := by decide +kernel
theorem dX4_kept_56 : decode cX4_kept 56 = .ok (.areturn, 1) := by decide +kernel
theorem dX4_bringBack_0 : decode cX4_bringBack 0 = .ok (.iconst 4, 1) := by decide +kernel
theorem dX4_bringBack_1 : decode cX4_bringBack 1 = .ok (.anewarray 110, 3) := by decide +kernel
theorem dX4_bringBack_4 : decode cX4_bringBack 4 = .ok (.dup, 1) := by decide +kernel
theorem dX4_bringBack_5 : decode cX4_bringBack 5 = .ok (.iconst 0, 1) := by decide +kernel
theorem dX4_bringBack_6 : decode cX4_bringBack 6 = .ok (.aload_n 0, 1) := by decide +kernel
theorem dX4_bringBack_7 : decode cX4_bringBack 7 = .ok (.getfield 7, 3) := by decide +kernel
theorem dX4_bringBack_10 : decode cX4_bringBack 10 = .ok (.aastore, 1) := by decide +kernel
theorem dX4_bringBack_11 : decode cX4_bringBack 11 = .ok (.dup, 1) := by decide +kernel
theorem dX4_bringBack_12 : decode cX4_bringBack 12 = .ok (.iconst 1, 1) := by decide +kernel
theorem dX4_bringBack_13 : decode cX4_bringBack 13 = .ok (.aload_n 0, 1) := by decide +kernel
theorem dX4_bringBack_14 : decode cX4_bringBack 14 = .ok (.getfield 19, 3) := by decide +kernel
theorem dX4_bringBack_17 : decode cX4_bringBack 17 = .ok (.aastore, 1) := by decide +kernel
theorem dX4_bringBack_18 : decode cX4_bringBack 18 = .ok (.dup, 1) := by decide +kernel
theorem dX4_bringBack_19 : decode cX4_bringBack 19 = .ok (.iconst 2, 1) := by decide +kernel
theorem dX4_bringBack_20 : decode cX4_bringBack 20 = .ok (.aload_n 0, 1) := by decide +kernel
theorem dX4_bringBack_21 : decode cX4_bringBack 21 = .ok (.getfield 22, 3) := by decide +kernel
theorem dX4_bringBack_24 : decode cX4_bringBack 24 = .ok (.aastore, 1) := by decide +kernel
theorem dX4_bringBack_25 : decode cX4_bringBack 25 = .ok (.dup, 1) := by decide +kernel
theorem dX4_bringBack_26 : decode cX4_bringBack 26 = .ok (.iconst 3, 1) := by decide +kernel
theorem dX4_bringBack_27 : decode cX4_bringBack 27 = .ok (.aload_n 0, 1) := by decide +kernel
theorem dX4_bringBack_28 : decode cX4_bringBack 28 = .ok (.getfield 25, 3) := by decide +kernel
theorem dX4_bringBack_31 : decode cX4_bringBack 31 = .ok (.aastore, 1) := by decide +kernel
theorem dX4_bringBack_32 : decode cX4_bringBack 32 = .ok (.astore_n 2, 1) := by decide +kernel
theorem dX4_bringBack_33 : decode cX4_bringBack 33 = .ok (.iconst 0, 1) := by decide +kernel
theorem dX4_bringBack_34 : decode cX4_bringBack 34 = .ok (.istore_n 3, 1) := by decide +kernel
theorem dX4_bringBack_35 : decode cX4_bringBack 35 = .ok (.iload_n 3, 1) := by decide +kernel
theorem dX4_bringBack_36 : decode cX4_bringBack 36 = .ok (.aload_n 2, 1) := by decide +kernel
theorem dX4_bringBack_37 : decode cX4_bringBack 37 = .ok (.arraylength, 1) := by decide +kernel
theorem dX4_bringBack_38 : decode cX4_bringBack 38 = .ok (.if_icmp .ge 24, 3) := by decide +kernel
theorem dX4_bringBack_41 : decode cX4_bringBack 41 = .ok (.aload_n 1, 1) := by decide +kernel
theorem dX4_bringBack_42 : decode cX4_bringBack 42 = .ok (.iload_n 3, 1) := by decide +kernel
theorem dX4_bringBack_43 : decode cX4_bringBack 43 = .ok (.aaload, 1) := by decide +kernel
theorem dX4_bringBack_44 : decode cX4_bringBack 44 = .ok (.iconst 0, 1) := by decide +kernel
theorem dX4_bringBack_45 : decode cX4_bringBack 45 = .ok (.aload_n 2, 1) := by decide +kernel
theorem dX4_bringBack_46 : decode cX4_bringBack 46 = .ok (.iload_n 3, 1) := by decide +kernel
theorem dX4_bringBack_47 : decode cX4_bringBack 47 = .ok (.aaload, 1) := by decide +kernel
theorem dX4_bringBack_48 : decode cX4_bringBack 48 = .ok (.iconst 0, 1) := by decide +kernel
theorem dX4_bringBack_49 : decode cX4_bringBack 49 = .ok (.aload_n 2, 1) := by decide +kernel
theorem dX4_bringBack_50 : decode cX4_bringBack 50 = .ok (.iload_n 3, 1) := by decide +kernel
theorem dX4_bringBack_51 : decode cX4_bringBack 51 = .ok (.aaload, 1) := by decide +kernel
theorem dX4_bringBack_52 : decode cX4_bringBack 52 = .ok (.arraylength, 1) := by decide +kernel
theorem dX4_bringBack_53 : decode cX4_bringBack 53 = .ok (.invokestatic 115, 3) := by decide +kernel
theorem dX4_bringBack_56 : decode cX4_bringBack 56 = .ok (.iinc 3 1, 3) := by decide +kernel
theorem dX4_bringBack_59 : decode cX4_bringBack 59 = .ok (.goto (-24), 3) := by decide +kernel
theorem dX4_bringBack_62 : decode cX4_bringBack 62 = .ok (.return_, 1) := by decide +kernel
theorem dX4_right_0 : decode cX4_right 0 = .ok (.aload_n 0, 1) := by decide +kernel
theorem dX4_right_1 : decode cX4_right 1 = .ok (.iconst 0, 1) := by decide +kernel
theorem dX4_right_2 : decode cX4_right 2 = .ok (.putfield 28, 3) := by decide +kernel
theorem dX4_right_5 : decode cX4_right 5 = .ok (.aload_n 0, 1) := by decide +kernel
theorem dX4_right_6 : decode cX4_right 6 = .ok (.iload_n 1, 1) := by decide +kernel
theorem dX4_right_7 : decode cX4_right 7 = .ok (.invokevirtual 62, 3) := by decide +kernel
theorem dX4_right_10 : decode cX4_right 10 = .ok (.ifCond .ne 9, 3) := by decide +kernel
theorem dX4_right_13 : decode cX4_right 13 = .ok (.aload_n 0, 1) := by decide +kernel
theorem dX4_right_14 : decode cX4_right 14 = .ok (.iconst 1, 1) := by decide +kernel
theorem dX4_right_15 : decode cX4_right 15 = .ok (.invokevirtual 45, 3) := by decide +kernel
theorem dX4_right_18 : decode cX4_right 18 = .ok (.ireturn, 1) := by decide +kernel
theorem dX4_right_19 : decode cX4_right 19 = .ok (.aload_n 0, 1) := by decide +kernel
theorem dX4_right_20 : decode cX4_right 20 = .ok (.invokevirtual 121, 3) := by decide +kernel
theorem dX4_right_23 : decode cX4_right 23 = .ok (.astore_n 2, 1) := by decide +kernel
theorem dX4_right_24 : decode cX4_right 24 = .ok (.iconst 0, 1) := by decide +kernel
theorem dX4_right_25 : decode cX4_right 25 = .ok (.istore_n 3, 1) := by decide +kernel
theorem dX4_right_26 : decode cX4_right 26 = .ok (.iload_n 3, 1) := by decide +kernel
theorem dX4_right_27 : decode cX4_right 27 = .ok (.bipush 60, 2) := by decide +kernel
theorem dX4_right_29 : decode cX4_right 29 = .ok (.if_icmp .ge 22, 3) := by decide +kernel
theorem dX4_right_32 : decode cX4_right 32 = .ok (.aload_n 0, 1) := by decide +kernel
theorem dX4_right_33 : decode cX4_right 33 = .ok (.iload_n 1, 1) := by decide +kernel
theorem dX4_right_34 : decode cX4_right 34 = .ok (.invokevirtual 71, 3) := by decide +kernel
theorem dX4_right_37 : decode cX4_right 37 = .ok (.iconst 1, 1) := by decide +kernel
theorem dX4_right_38 : decode cX4_right 38 = .ok (.if_icmp .eq 13, 3) := by decide +kernel
theorem dX4_right_41 : decode cX4_right 41 = .ok (.aload_n 0, 1) := by decide +kernel
theorem dX4_right_42 : decode cX4_right 42 = .ok (.invokevirtual 104, 3) := by decide +kernel
theorem dX4_right_45 : decode cX4_right 45 = .ok (.iinc 3 1, 3) := by decide +kernel
theorem dX4_right_48 : decode cX4_right 48 = .ok (.goto (-22), 3) := by decide +kernel
theorem dX4_right_51 : decode cX4_right 51 = .ok (.aload_n 0, 1) := by decide +kernel
theorem dX4_right_52 : decode cX4_right 52 = .ok (.iload_n 1, 1) := by decide +kernel
theorem dX4_right_53 : decode cX4_right 53 = .ok (.invokevirtual 71, 3) := by decide +kernel
theorem dX4_right_56 : decode cX4_right 56 = .ok (.iconst 1, 1) := by decide +kernel
theorem dX4_right_57 : decode cX4_right 57 = .ok (.if_icmp .eq 5, 3) := by decide +kernel
theorem dX4_right_60 : decode cX4_right 60 = .ok (.iconst (-1), 1) := by decide +kernel
theorem dX4_right_61 : decode cX4_right 61 = .ok (.istore_n 3, 1) := by decide +kernel
theorem dX4_right_62 : decode cX4_right 62 = .ok (.aload_n 0, 1) := by decide +kernel
theorem dX4_right_63 : decode cX4_right 63 = .ok (.aload_n 2, 1) := by decide +kernel
theorem dX4_right_64 : decode cX4_right 64 = .ok (.invokevirtual 125, 3) := by decide +kernel
theorem dX4_right_67 : decode cX4_right 67 = .ok (.iload_n 3, 1) := by decide +kernel
theorem dX4_right_68 : decode cX4_right 68 = .ok (.ireturn, 1) := by decide +kernel
theorem dX4_foresee_0 : decode cX4_foresee 0 = .ok (.aload_n 0, 1) := by decide +kernel
theorem dX4_foresee_1 : decode cX4_foresee 1 = .ok (.iconst 0, 1) := by decide +kernel
theorem dX4_foresee_2 : decode cX4_foresee 2 = .ok (.putfield 28, 3) := by decide +kernel
theorem dX4_foresee_5 : decode cX4_foresee 5 = .ok (.iload_n 1, 1) := by decide +kernel
theorem dX4_foresee_6 : decode cX4_foresee 6 = .ok (.iconst 1, 1) := by decide +kernel
theorem dX4_foresee_7 : decode cX4_foresee 7 = .ok (.bipush 60, 2) := by decide +kernel
theorem dX4_foresee_9 : decode cX4_foresee 9 = .ok (.invokestatic 35, 3) := by decide +kernel
theorem dX4_foresee_12 : decode cX4_foresee 12 = .ok (.ifCond .ne 9, 3) := by decide +kernel
theorem dX4_foresee_15 : decode cX4_foresee 15 = .ok (.aload_n 0, 1) := by decide +kernel
theorem dX4_foresee_16 : decode cX4_foresee 16 = .ok (.iconst 1, 1) := by decide +kernel
theorem dX4_foresee_17 : decode cX4_foresee 17 = .ok (.invokevirtual 45, 3) := by decide +kernel
theorem dX4_foresee_20 : decode cX4_foresee 20 = .ok (.ireturn, 1) := by decide +kernel
theorem dX4_foresee_21 : decode cX4_foresee 21 = .ok (.iload_n 2, 1) := by decide +kernel
theorem dX4_foresee_22 : decode cX4_foresee 22 = .ok (.iconst 2, 1) := by decide +kernel
theorem dX4_foresee_23 : decode cX4_foresee 23 = .ok (.if_icmp .eq 19, 3) := by decide +kernel
theorem dX4_foresee_26 : decode cX4_foresee 26 = .ok (.iload_n 2, 1) := by decide +kernel
theorem dX4_foresee_27 : decode cX4_foresee 27 = .ok (.iconst 4, 1) := by decide +kernel
theorem dX4_foresee_28 : decode cX4_foresee 28 = .ok (.bipush 7, 2) := by decide +kernel
theorem dX4_foresee_30 : decode cX4_foresee 30 = .ok (.invokestatic 35, 3) := by decide +kernel
theorem dX4_foresee_33 : decode cX4_foresee 33 = .ok (.ifCond .ne 9, 3) := by decide +kernel
theorem dX4_foresee_36 : decode cX4_foresee 36 = .ok (.aload_n 0, 1) := by decide +kernel
theorem dX4_foresee_37 : decode cX4_foresee 37 = .ok (.iconst 2, 1) := by decide +kernel
theorem dX4_foresee_38 : decode cX4_foresee 38 = .ok (.invokevirtual 45, 3) := by decide +kernel
theorem dX4_foresee_41 : decode cX4_foresee 41 = .ok (.ireturn, 1) := by decide +kernel
theorem dX4_foresee_42 : decode cX4_foresee 42 = .ok (.aload_n 0, 1) := by decide +kernel
theorem dX4_foresee_43 : decode cX4_foresee 43 = .ok (.invokevirtual 121, 3) := by decide +kernel
theorem dX4_foresee_46 : decode cX4_foresee 46 = .ok (.astore_n 3, 1) := by decide +kernel
theorem dX4_foresee_47 : decode cX4_foresee 47 = .ok (.aload_n 0, 1) := by decide +kernel
theorem dX4_foresee_48 : decode cX4_foresee 48 = .ok (.iload_n 1, 1) := by decide +kernel
theorem dX4_foresee_49 : decode cX4_foresee 49 = .ok (.invokevirtual 107, 3) := by decide +kernel
theorem dX4_foresee_52 : decode cX4_foresee 52 = .ok (.aload_n 0, 1) := by decide +kernel
theorem dX4_foresee_53 : decode cX4_foresee 53 = .ok (.iload_n 2, 1) := by decide +kernel
theorem dX4_foresee_54 : decode cX4_foresee 54 = .ok (.invokevirtual 91, 3) := by decide +kernel
theorem dX4_foresee_57 : decode cX4_foresee 57 = .ok (.istore 4, 2) := by decide +kernel
theorem dX4_foresee_59 : decode cX4_foresee 59 = .ok (.aload_n 0, 1) := by decide +kernel
theorem dX4_foresee_60 : decode cX4_foresee 60 = .ok (.aload_n 3, 1) := by decide +kernel
theorem dX4_foresee_61 : decode cX4_foresee 61 = .ok (.invokevirtual 125, 3) := by decide +kernel
theorem dX4_foresee_64 : decode cX4_foresee 64 = .ok (.iload 4, 2) := by decide +kernel
theorem dX4_foresee_66 : decode cX4_foresee 66 = .ok (.ireturn, 1) := by decide +kernel
theorem dX4_barrels_0 : decode cX4_barrels 0 = .ok (.aload_n 0, 1) := by decide +kernel
theorem dX4_barrels_1 : decode cX4_barrels 1 = .ok (.iconst 0, 1) := by decide +kernel
theorem dX4_barrels_2 : decode cX4_barrels 2 = .ok (.putfield 28, 3) := by decide +kernel
theorem dX4_barrels_5 : decode cX4_barrels 5 = .ok (.aload_n 0, 1) := by decide +kernel
theorem dX4_barrels_6 : decode cX4_barrels 6 = .ok (.iload_n 1, 1) := by decide +kernel
theorem dX4_barrels_7 : decode cX4_barrels 7 = .ok (.invokevirtual 62, 3) := by decide +kernel
theorem dX4_barrels_10 : decode cX4_barrels 10 = .ok (.ifCond .ne 9, 3) := by decide +kernel
theorem dX4_barrels_13 : decode cX4_barrels 13 = .ok (.aload_n 0, 1) := by decide +kernel
theorem dX4_barrels_14 : decode cX4_barrels 14 = .ok (.iconst 1, 1) := by decide +kernel
theorem dX4_barrels_15 : decode cX4_barrels 15 = .ok (.invokevirtual 45, 3) := by decide +kernel
theorem dX4_barrels_18 : decode cX4_barrels 18 = .ok (.ireturn, 1) := by decide +kernel
theorem dX4_barrels_19 : decode cX4_barrels 19 = .ok (.aload_n 0, 1) := by decide +kernel
theorem dX4_barrels_20 : decode cX4_barrels 20 = .ok (.getfield 25, 3) := by decide +kernel
theorem dX4_barrels_23 : decode cX4_barrels 23 = .ok (.iconst 3, 1) := by decide +kernel
theorem dX4_barrels_24 : decode cX4_barrels 24 = .ok (.iload_n 1, 1) := by decide +kernel
theorem dX4_barrels_25 : decode cX4_barrels 25 = .ok (.imul, 1) := by decide +kernel
theorem dX4_barrels_26 : decode cX4_barrels 26 = .ok (.iconst 1, 1) := by decide +kernel
theorem dX4_barrels_27 : decode cX4_barrels 27 = .ok (.iadd, 1) := by decide +kernel
theorem dX4_barrels_28 : decode cX4_barrels 28 = .ok (.iaload, 1) := by decide +kernel
theorem dX4_barrels_29 : decode cX4_barrels 29 = .ok (.ifCond .ne 5, 3) := by decide +kernel
theorem dX4_barrels_32 : decode cX4_barrels 32 = .ok (.iconst (-1), 1) := by decide +kernel
theorem dX4_barrels_33 : decode cX4_barrels 33 = .ok (.ireturn, 1) := by decide +kernel
theorem dX4_barrels_34 : decode cX4_barrels 34 = .ok (.iconst 1, 1) := by decide +kernel
theorem dX4_barrels_35 : decode cX4_barrels 35 = .ok (.istore_n 2, 1) := by decide +kernel
theorem dX4_barrels_36 : decode cX4_barrels 36 = .ok (.iconst 2, 1) := by decide +kernel
theorem dX4_barrels_37 : decode cX4_barrels 37 = .ok (.istore_n 3, 1) := by decide +kernel
theorem dX4_barrels_38 : decode cX4_barrels 38 = .ok (.iload_n 3, 1) := by decide +kernel
theorem dX4_barrels_39 : decode cX4_barrels 39 = .ok (.bipush 20, 2) := by decide +kernel
theorem dX4_barrels_41 : decode cX4_barrels 41 = .ok (.if_icmp .gt 26, 3) := by decide +kernel
theorem dX4_barrels_44 : decode cX4_barrels 44 = .ok (.aload_n 0, 1) := by decide +kernel
theorem dX4_barrels_45 : decode cX4_barrels 45 = .ok (.iload_n 1, 1) := by decide +kernel
theorem dX4_barrels_46 : decode cX4_barrels 46 = .ok (.iload_n 3, 1) := by decide +kernel
theorem dX4_barrels_47 : decode cX4_barrels 47 = .ok (.invokevirtual 74, 3) := by decide +kernel
theorem dX4_barrels_50 : decode cX4_barrels 50 = .ok (.aload_n 0, 1) := by decide +kernel
theorem dX4_barrels_51 : decode cX4_barrels 51 = .ok (.iload_n 1, 1) := by decide +kernel
theorem dX4_barrels_52 : decode cX4_barrels 52 = .ok (.iload_n 2, 1) := by decide +kernel
theorem dX4_barrels_53 : decode cX4_barrels 53 = .ok (.invokevirtual 74, 3) := by decide +kernel
theorem dX4_barrels_56 : decode cX4_barrels 56 = .ok (.if_icmp .le 5, 3) := by decide +kernel
theorem dX4_barrels_59 : decode cX4_barrels 59 = .ok (.iload_n 3, 1) := by decide +kernel
theorem dX4_barrels_60 : decode cX4_barrels 60 = .ok (.istore_n 2, 1) := by decide +kernel
theorem dX4_barrels_61 : decode cX4_barrels 61 = .ok (.iinc 3 1, 3) := by decide +kernel
theorem dX4_barrels_64 : decode cX4_barrels 64 = .ok (.goto (-26), 3) := by decide +kernel
theorem dX4_barrels_67 : decode cX4_barrels 67 = .ok (.iload_n 2, 1) := by decide +kernel
theorem dX4_barrels_68 : decode cX4_barrels 68 = .ok (.ireturn, 1) := by decide +kernel
theorem dX4_dry_0 : decode cX4_dry 0 = .ok (.aload_n 0, 1) := by decide +kernel
theorem dX4_dry_1 : decode cX4_dry 1 = .ok (.iconst 0, 1) := by decide +kernel
theorem dX4_dry_2 : decode cX4_dry 2 = .ok (.putfield 28, 3) := by decide +kernel
theorem dX4_dry_5 : decode cX4_dry 5 = .ok (.aload_n 0, 1) := by decide +kernel
theorem dX4_dry_6 : decode cX4_dry 6 = .ok (.iload_n 1, 1) := by decide +kernel
theorem dX4_dry_7 : decode cX4_dry 7 = .ok (.invokevirtual 59, 3) := by decide +kernel
theorem dX4_dry_10 : decode cX4_dry 10 = .ok (.ifCond .ne 9, 3) := by decide +kernel
theorem dX4_dry_13 : decode cX4_dry 13 = .ok (.aload_n 0, 1) := by decide +kernel
theorem dX4_dry_14 : decode cX4_dry 14 = .ok (.iconst 1, 1) := by decide +kernel
theorem dX4_dry_15 : decode cX4_dry 15 = .ok (.invokevirtual 45, 3) := by decide +kernel
theorem dX4_dry_18 : decode cX4_dry 18 = .ok (.ireturn, 1) := by decide +kernel
theorem dX4_dry_19 : decode cX4_dry 19 = .ok (.aload_n 0, 1) := by decide +kernel
theorem dX4_dry_20 : decode cX4_dry 20 = .ok (.getfield 22, 3) := by decide +kernel
theorem dX4_dry_23 : decode cX4_dry 23 = .ok (.iconst 2, 1) := by decide +kernel
theorem dX4_dry_24 : decode cX4_dry 24 = .ok (.iload_n 1, 1) := by decide +kernel
theorem dX4_dry_25 : decode cX4_dry 25 = .ok (.imul, 1) := by decide +kernel
theorem dX4_dry_26 : decode cX4_dry 26 = .ok (.iaload, 1) := by decide +kernel
theorem dX4_dry_27 : decode cX4_dry 27 = .ok (.istore_n 2, 1) := by decide +kernel
theorem dX4_dry_28 : decode cX4_dry 28 = .ok (.aload_n 0, 1) := by decide +kernel
theorem dX4_dry_29 : decode cX4_dry 29 = .ok (.getfield 22, 3) := by decide +kernel
theorem dX4_dry_32 : decode cX4_dry 32 = .ok (.iconst 2, 1) := by decide +kernel
theorem dX4_dry_33 : decode cX4_dry 33 = .ok (.iload_n 1, 1) := by decide +kernel
theorem dX4_dry_34 : decode cX4_dry 34 = .ok (.imul, 1) := by decide +kernel
theorem dX4_dry_35 : decode cX4_dry 35 = .ok (.iconst 1, 1) := by decide +kernel
theorem dX4_dry_36 : decode cX4_dry 36 = .ok (.iadd, 1) := by decide +kernel
theorem dX4_dry_37 : decode cX4_dry 37 = .ok (.iaload, 1) := by decide +kernel
theorem dX4_dry_38 : decode cX4_dry 38 = .ok (.istore_n 3, 1) := by decide +kernel
theorem dX4_dry_39 : decode cX4_dry 39 = .ok (.iload_n 3, 1) := by decide +kernel
theorem dX4_dry_40 : decode cX4_dry 40 = .ok (.ifCond .ne 5, 3) := by decide +kernel
theorem dX4_dry_43 : decode cX4_dry 43 = .ok (.iconst (-1), 1) := by decide +kernel
theorem dX4_dry_44 : decode cX4_dry 44 = .ok (.ireturn, 1) := by decide +kernel
theorem dX4_dry_45 : decode cX4_dry 45 = .ok (.iconst 0, 1) := by decide +kernel
theorem dX4_dry_46 : decode cX4_dry 46 = .ok (.istore 4, 2) := by decide +kernel
theorem dX4_dry_48 : decode cX4_dry 48 = .ok (.iload_n 2, 1) := by decide +kernel
theorem dX4_dry_49 : decode cX4_dry 49 = .ok (.iload 4, 2) := by decide +kernel
theorem dX4_dry_51 : decode cX4_dry 51 = .ok (.isub, 1) := by decide +kernel
theorem dX4_dry_52 : decode cX4_dry 52 = .ok (.iload_n 3, 1) := by decide +kernel
theorem dX4_dry_53 : decode cX4_dry 53 = .ok (.invokestatic 65, 3) := by decide +kernel
theorem dX4_dry_56 : decode cX4_dry 56 = .ok (.invokestatic 68, 3) := by decide +kernel
theorem dX4_dry_59 : decode cX4_dry 59 = .ok (.ifCond .ne 9, 3) := by decide +kernel
theorem dX4_dry_62 : decode cX4_dry 62 = .ok (.iinc 4 1, 3) := by decide +kernel
theorem dX4_dry_65 : decode cX4_dry 65 = .ok (.goto (-17), 3) := by decide +kernel
theorem dX4_dry_68 : decode cX4_dry 68 = .ok (.iload 4, 2) := by decide +kernel
theorem dX4_dry_70 : decode cX4_dry 70 = .ok (.ireturn, 1) := by decide +kernel
theorem dX4_mean_0 : decode cX4_mean 0 = .ok (.aload_n 0, 1) := by decide +kernel
theorem dX4_mean_1 : decode cX4_mean 1 = .ok (.iconst 0, 1) := by decide +kernel
theorem dX4_mean_2 : decode cX4_mean 2 = .ok (.putfield 28, 3) := by decide +kernel
theorem dX4_mean_5 : decode cX4_mean 5 = .ok (.iconst 0, 1) := by decide +kernel
theorem dX4_mean_6 : decode cX4_mean 6 = .ok (.istore_n 1, 1) := by decide +kernel
theorem dX4_mean_7 : decode cX4_mean 7 = .ok (.iconst 0, 1) := by decide +kernel
theorem dX4_mean_8 : decode cX4_mean 8 = .ok (.istore_n 2, 1) := by decide +kernel
theorem dX4_mean_9 : decode cX4_mean 9 = .ok (.iconst 0, 1) := by decide +kernel
theorem dX4_mean_10 : decode cX4_mean 10 = .ok (.istore_n 3, 1) := by decide +kernel
theorem dX4_mean_11 : decode cX4_mean 11 = .ok (.iload_n 3, 1) := by decide +kernel
theorem dX4_mean_12 : decode cX4_mean 12 = .ok (.aload_n 0, 1) := by decide +kernel
theorem dX4_mean_13 : decode cX4_mean 13 = .ok (.getfield 39, 3) := by decide +kernel
theorem dX4_mean_16 : decode cX4_mean 16 = .ok (.if_icmp .ge 48, 3) := by decide +kernel
theorem dX4_mean_19 : decode cX4_mean 19 = .ok (.iload_n 2, 1) := by decide +kernel
theorem dX4_mean_20 : decode cX4_mean 20 = .ok (.aload_n 0, 1) := by decide +kernel
theorem dX4_mean_21 : decode cX4_mean 21 = .ok (.getfield 22, 3) := by decide +kernel
theorem dX4_mean_24 : decode cX4_mean 24 = .ok (.iconst 2, 1) := by decide +kernel
theorem dX4_mean_25 : decode cX4_mean 25 = .ok (.iload_n 3, 1) := by decide +kernel
theorem dX4_mean_26 : decode cX4_mean 26 = .ok (.imul, 1) := by decide +kernel
theorem dX4_mean_27 : decode cX4_mean 27 = .ok (.iaload, 1) := by decide +kernel
theorem dX4_mean_28 : decode cX4_mean 28 = .ok (.aload_n 0, 1) := by decide +kernel
theorem dX4_mean_29 : decode cX4_mean 29 = .ok (.getfield 22, 3) := by decide +kernel
theorem dX4_mean_32 : decode cX4_mean 32 = .ok (.iconst 2, 1) := by decide +kernel
theorem dX4_mean_33 : decode cX4_mean 33 = .ok (.iload_n 3, 1) := by decide +kernel
theorem dX4_mean_34 : decode cX4_mean 34 = .ok (.imul, 1) := by decide +kernel
theorem dX4_mean_35 : decode cX4_mean 35 = .ok (.iconst 1, 1) := by decide +kernel
theorem dX4_mean_36 : decode cX4_mean 36 = .ok (.iadd, 1) := by decide +kernel
theorem dX4_mean_37 : decode cX4_mean 37 = .ok (.iaload, 1) := by decide +kernel
theorem dX4_mean_38 : decode cX4_mean 38 = .ok (.iadd, 1) := by decide +kernel
theorem dX4_mean_39 : decode cX4_mean 39 = .ok (.ifCond .le 7, 3) := by decide +kernel
theorem dX4_mean_42 : decode cX4_mean 42 = .ok (.iconst 1, 1) := by decide +kernel
theorem dX4_mean_43 : decode cX4_mean 43 = .ok (.goto 4, 3) := by decide +kernel
theorem dX4_mean_46 : decode cX4_mean 46 = .ok (.iconst 0, 1) := by decide +kernel
theorem dX4_mean_47 : decode cX4_mean 47 = .ok (.iadd, 1) := by decide +kernel
theorem dX4_mean_48 : decode cX4_mean 48 = .ok (.istore_n 2, 1) := by decide +kernel
theorem dX4_mean_49 : decode cX4_mean 49 = .ok (.iload_n 1, 1) := by decide +kernel
theorem dX4_mean_50 : decode cX4_mean 50 = .ok (.aload_n 0, 1) := by decide +kernel
theorem dX4_mean_51 : decode cX4_mean 51 = .ok (.iload_n 3, 1) := by decide +kernel
theorem dX4_mean_52 : decode cX4_mean 52 = .ok (.iconst 2, 1) := by decide +kernel
theorem dX4_mean_53 : decode cX4_mean 53 = .ok (.invokevirtual 81, 3) := by decide +kernel
theorem dX4_mean_56 : decode cX4_mean 56 = .ok (.iadd, 1) := by decide +kernel
theorem dX4_mean_57 : decode cX4_mean 57 = .ok (.istore_n 1, 1) := by decide +kernel
theorem dX4_mean_58 : decode cX4_mean 58 = .ok (.iinc 3 1, 3) := by decide +kernel
theorem dX4_mean_61 : decode cX4_mean 61 = .ok (.goto (-50), 3) := by decide +kernel
theorem dX4_mean_64 : decode cX4_mean 64 = .ok (.iconst 0, 1) := by decide +kernel
theorem dX4_mean_65 : decode cX4_mean 65 = .ok (.istore_n 3, 1) := by decide +kernel
theorem dX4_mean_66 : decode cX4_mean 66 = .ok (.iload_n 3, 1) := by decide +kernel
theorem dX4_mean_67 : decode cX4_mean 67 = .ok (.aload_n 0, 1) := by decide +kernel
theorem dX4_mean_68 : decode cX4_mean 68 = .ok (.getfield 42, 3) := by decide +kernel
theorem dX4_mean_71 : decode cX4_mean 71 = .ok (.if_icmp .ge 48, 3) := by decide +kernel
theorem dX4_mean_74 : decode cX4_mean 74 = .ok (.iload_n 2, 1) := by decide +kernel
theorem dX4_mean_75 : decode cX4_mean 75 = .ok (.aload_n 0, 1) := by decide +kernel
theorem dX4_mean_76 : decode cX4_mean 76 = .ok (.getfield 25, 3) := by decide +kernel
theorem dX4_mean_79 : decode cX4_mean 79 = .ok (.iconst 3, 1) := by decide +kernel
theorem dX4_mean_80 : decode cX4_mean 80 = .ok (.iload_n 3, 1) := by decide +kernel
theorem dX4_mean_81 : decode cX4_mean 81 = .ok (.imul, 1) := by decide +kernel
theorem dX4_mean_82 : decode cX4_mean 82 = .ok (.iaload, 1) := by decide +kernel
theorem dX4_mean_83 : decode cX4_mean 83 = .ok (.aload_n 0, 1) := by decide +kernel
theorem dX4_mean_84 : decode cX4_mean 84 = .ok (.getfield 25, 3) := by decide +kernel
theorem dX4_mean_87 : decode cX4_mean 87 = .ok (.iconst 3, 1) := by decide +kernel
theorem dX4_mean_88 : decode cX4_mean 88 = .ok (.iload_n 3, 1) := by decide +kernel
theorem dX4_mean_89 : decode cX4_mean 89 = .ok (.imul, 1) := by decide +kernel
theorem dX4_mean_90 : decode cX4_mean 90 = .ok (.iconst 1, 1) := by decide +kernel
theorem dX4_mean_91 : decode cX4_mean 91 = .ok (.iadd, 1) := by decide +kernel
theorem dX4_mean_92 : decode cX4_mean 92 = .ok (.iaload, 1) := by decide +kernel
theorem dX4_mean_93 : decode cX4_mean 93 = .ok (.iadd, 1) := by decide +kernel
theorem dX4_mean_94 : decode cX4_mean 94 = .ok (.ifCond .le 7, 3) := by decide +kernel
theorem dX4_mean_97 : decode cX4_mean 97 = .ok (.iconst 1, 1) := by decide +kernel
theorem dX4_mean_98 : decode cX4_mean 98 = .ok (.goto 4, 3) := by decide +kernel
theorem dX4_mean_101 : decode cX4_mean 101 = .ok (.iconst 0, 1) := by decide +kernel
theorem dX4_mean_102 : decode cX4_mean 102 = .ok (.iadd, 1) := by decide +kernel
theorem dX4_mean_103 : decode cX4_mean 103 = .ok (.istore_n 2, 1) := by decide +kernel
theorem dX4_mean_104 : decode cX4_mean 104 = .ok (.iload_n 1, 1) := by decide +kernel
theorem dX4_mean_105 : decode cX4_mean 105 = .ok (.aload_n 0, 1) := by decide +kernel
theorem dX4_mean_106 : decode cX4_mean 106 = .ok (.iload_n 3, 1) := by decide +kernel
theorem dX4_mean_107 : decode cX4_mean 107 = .ok (.iconst 2, 1) := by decide +kernel
theorem dX4_mean_108 : decode cX4_mean 108 = .ok (.invokevirtual 84, 3) := by decide +kernel
theorem dX4_mean_111 : decode cX4_mean 111 = .ok (.iadd, 1) := by decide +kernel
theorem dX4_mean_112 : decode cX4_mean 112 = .ok (.istore_n 1, 1) := by decide +kernel
theorem dX4_mean_113 : decode cX4_mean 113 = .ok (.iinc 3 1, 3) := by decide +kernel
theorem dX4_mean_116 : decode cX4_mean 116 = .ok (.goto (-50), 3) := by decide +kernel
theorem dX4_mean_119 : decode cX4_mean 119 = .ok (.iload_n 2, 1) := by decide +kernel
theorem dX4_mean_120 : decode cX4_mean 120 = .ok (.ifCond .ne 7, 3) := by decide +kernel
theorem dX4_mean_123 : decode cX4_mean 123 = .ok (.dconst 0, 1) := by decide +kernel
theorem dX4_mean_124 : decode cX4_mean 124 = .ok (.goto 8, 3) := by decide +kernel
theorem dX4_mean_127 : decode cX4_mean 127 = .ok (.iload_n 1, 1) := by decide +kernel
theorem dX4_mean_128 : decode cX4_mean 128 = .ok (.i2d, 1) := by decide +kernel
theorem dX4_mean_129 : decode cX4_mean 129 = .ok (.iload_n 2, 1) := by decide +kernel
theorem dX4_mean_130 : decode cX4_mean 130 = .ok (.i2d, 1) := by decide +kernel
theorem dX4_mean_131 : decode cX4_mean 131 = .ok (.ddiv, 1) := by decide +kernel
theorem dX4_mean_132 : decode cX4_mean 132 = .ok (.dreturn, 1) := by decide +kernel
theorem dX4_digest_0 : decode cX4_digest 0 = .ok (.aload_n 0, 1) := by decide +kernel
theorem dX4_digest_1 : decode cX4_digest 1 = .ok (.iconst 0, 1) := by decide +kernel
theorem dX4_digest_2 : decode cX4_digest 2 = .ok (.putfield 28, 3) := by decide +kernel
theorem dX4_digest_5 : decode cX4_digest 5 = .ok (.ldc2_w 129, 3) := by decide +kernel
theorem dX4_digest_8 : decode cX4_digest 8 = .ok (.lstore_n 1, 1) := by decide +kernel
theorem dX4_digest_9 : decode cX4_digest 9 = .ok (.iconst 0, 1) := by decide +kernel
theorem dX4_digest_10 : decode cX4_digest 10 = .ok (.istore_n 3, 1) := by decide +kernel
theorem dX4_digest_11 : decode cX4_digest 11 = .ok (.iload_n 3, 1) := by decide +kernel
theorem dX4_digest_12 : decode cX4_digest 12 = .ok (.bipush 10, 2) := by decide +kernel
theorem dX4_digest_14 : decode cX4_digest 14 = .ok (.if_icmp .ge 22, 3) := by decide +kernel
theorem dX4_digest_17 : decode cX4_digest 17 = .ok (.lload_n 1, 1) := by decide +kernel
theorem dX4_digest_18 : decode cX4_digest 18 = .ok (.ldc2_w 131, 3) := by decide +kernel
theorem dX4_digest_21 : decode cX4_digest 21 = .ok (.lmul, 1) := by decide +kernel
theorem dX4_digest_22 : decode cX4_digest 22 = .ok (.aload_n 0, 1) := by decide +kernel
theorem dX4_digest_23 : decode cX4_digest 23 = .ok (.iload_n 3, 1) := by decide +kernel
theorem dX4_digest_24 : decode cX4_digest 24 = .ok (.invokevirtual 91, 3) := by decide +kernel
theorem dX4_digest_27 : decode cX4_digest 27 = .ok (.i2l, 1) := by decide +kernel
theorem dX4_digest_28 : decode cX4_digest 28 = .ok (.ladd, 1) := by decide +kernel
theorem dX4_digest_29 : decode cX4_digest 29 = .ok (.lstore_n 1, 1) := by decide +kernel
theorem dX4_digest_30 : decode cX4_digest 30 = .ok (.iinc 3 1, 3) := by decide +kernel
theorem dX4_digest_33 : decode cX4_digest 33 = .ok (.goto (-22), 3) := by decide +kernel
theorem dX4_digest_36 : decode cX4_digest 36 = .ok (.aload_n 0, 1) := by decide +kernel
theorem dX4_digest_37 : decode cX4_digest 37 = .ok (.getfield 13, 3) := by decide +kernel
theorem dX4_digest_40 : decode cX4_digest 40 = .ok (.astore_n 3, 1) := by decide +kernel
theorem dX4_digest_41 : decode cX4_digest 41 = .ok (.aload_n 3, 1) := by decide +kernel
theorem dX4_digest_42 : decode cX4_digest 42 = .ok (.arraylength, 1) := by decide +kernel
theorem dX4_digest_43 : decode cX4_digest 43 = .ok (.istore 4, 2) := by decide +kernel
theorem dX4_digest_45 : decode cX4_digest 45 = .ok (.iconst 0, 1) := by decide +kernel
theorem dX4_digest_46 : decode cX4_digest 46 = .ok (.istore 5, 2) := by decide +kernel
theorem dX4_digest_48 : decode cX4_digest 48 = .ok (.iload 5, 2) := by decide +kernel
theorem dX4_digest_50 : decode cX4_digest 50 = .ok (.iload 4, 2) := by decide +kernel
theorem dX4_digest_52 : decode cX4_digest 52 = .ok (.if_icmp .ge 25, 3) := by decide +kernel
theorem dX4_digest_55 : decode cX4_digest 55 = .ok (.aload_n 3, 1) := by decide +kernel
theorem dX4_digest_56 : decode cX4_digest 56 = .ok (.iload 5, 2) := by decide +kernel
theorem dX4_digest_58 : decode cX4_digest 58 = .ok (.iaload, 1) := by decide +kernel
theorem dX4_digest_59 : decode cX4_digest 59 = .ok (.istore 6, 2) := by decide +kernel
theorem dX4_digest_61 : decode cX4_digest 61 = .ok (.lload_n 1, 1) := by decide +kernel
theorem dX4_digest_62 : decode cX4_digest 62 = .ok (.ldc2_w 131, 3) := by decide +kernel
theorem dX4_digest_65 : decode cX4_digest 65 = .ok (.lmul, 1) := by decide +kernel
theorem dX4_digest_66 : decode cX4_digest 66 = .ok (.iload 6, 2) := by decide +kernel
theorem dX4_digest_68 : decode cX4_digest 68 = .ok (.i2l, 1) := by decide +kernel
theorem dX4_digest_69 : decode cX4_digest 69 = .ok (.ladd, 1) := by decide +kernel
theorem dX4_digest_70 : decode cX4_digest 70 = .ok (.lstore_n 1, 1) := by decide +kernel
theorem dX4_digest_71 : decode cX4_digest 71 = .ok (.iinc 5 1, 3) := by decide +kernel
theorem dX4_digest_74 : decode cX4_digest 74 = .ok (.goto (-26), 3) := by decide +kernel
theorem dX4_digest_77 : decode cX4_digest 77 = .ok (.aload_n 0, 1) := by decide +kernel
theorem dX4_digest_78 : decode cX4_digest 78 = .ok (.getfield 16, 3) := by decide +kernel
theorem dX4_digest_81 : decode cX4_digest 81 = .ok (.astore_n 3, 1) := by decide +kernel
theorem dX4_digest_82 : decode cX4_digest 82 = .ok (.aload_n 3, 1) := by decide +kernel
theorem dX4_digest_83 : decode cX4_digest 83 = .ok (.arraylength, 1) := by decide +kernel
theorem dX4_digest_84 : decode cX4_digest 84 = .ok (.istore 4, 2) := by decide +kernel
theorem dX4_digest_86 : decode cX4_digest 86 = .ok (.iconst 0, 1) := by decide +kernel
theorem dX4_digest_87 : decode cX4_digest 87 = .ok (.istore 5, 2) := by decide +kernel
theorem dX4_digest_89 : decode cX4_digest 89 = .ok (.iload 5, 2) := by decide +kernel
theorem dX4_digest_91 : decode cX4_digest 91 = .ok (.iload 4, 2) := by decide +kernel
theorem dX4_digest_93 : decode cX4_digest 93 = .ok (.if_icmp .ge 25, 3) := by decide +kernel
theorem dX4_digest_96 : decode cX4_digest 96 = .ok (.aload_n 3, 1) := by decide +kernel
theorem dX4_digest_97 : decode cX4_digest 97 = .ok (.iload 5, 2) := by decide +kernel
theorem dX4_digest_99 : decode cX4_digest 99 = .ok (.iaload, 1) := by decide +kernel
theorem dX4_digest_100 : decode cX4_digest 100 = .ok (.istore 6, 2) := by decide +kernel
theorem dX4_digest_102 : decode cX4_digest 102 = .ok (.lload_n 1, 1) := by decide +kernel
theorem dX4_digest_103 : decode cX4_digest 103 = .ok (.ldc2_w 131, 3) := by decide +kernel
theorem dX4_digest_106 : decode cX4_digest 106 = .ok (.lmul, 1) := by decide +kernel
theorem dX4_digest_107 : decode cX4_digest 107 = .ok (.iload 6, 2) := by decide +kernel
theorem dX4_digest_109 : decode cX4_digest 109 = .ok (.i2l, 1) := by decide +kernel
theorem dX4_digest_110 : decode cX4_digest 110 = .ok (.ladd, 1) := by decide +kernel
theorem dX4_digest_111 : decode cX4_digest 111 = .ok (.lstore_n 1, 1) := by decide +kernel
theorem dX4_digest_112 : decode cX4_digest 112 = .ok (.iinc 5 1, 3) := by decide +kernel
theorem dX4_digest_115 : decode cX4_digest 115 = .ok (.goto (-26), 3) := by decide +kernel
theorem dX4_digest_118 : decode cX4_digest 118 = .ok (.iconst 0, 1) := by decide +kernel
theorem dX4_digest_119 : decode cX4_digest 119 = .ok (.istore_n 3, 1) := by decide +kernel
theorem dX4_digest_120 : decode cX4_digest 120 = .ok (.iload_n 3, 1) := by decide +kernel
theorem dX4_digest_121 : decode cX4_digest 121 = .ok (.iconst 4, 1) := by decide +kernel
theorem dX4_digest_122 : decode cX4_digest 122 = .ok (.aload_n 0, 1) := by decide +kernel
theorem dX4_digest_123 : decode cX4_digest 123 = .ok (.getfield 32, 3) := by decide +kernel
theorem dX4_digest_126 : decode cX4_digest 126 = .ok (.imul, 1) := by decide +kernel
theorem dX4_digest_127 : decode cX4_digest 127 = .ok (.if_icmp .ge 23, 3) := by decide +kernel
theorem dX4_digest_130 : decode cX4_digest 130 = .ok (.lload_n 1, 1) := by decide +kernel
theorem dX4_digest_131 : decode cX4_digest 131 = .ok (.ldc2_w 131, 3) := by decide +kernel
theorem dX4_digest_134 : decode cX4_digest 134 = .ok (.lmul, 1) := by decide +kernel
theorem dX4_digest_135 : decode cX4_digest 135 = .ok (.aload_n 0, 1) := by decide +kernel
theorem dX4_digest_136 : decode cX4_digest 136 = .ok (.getfield 19, 3) := by decide +kernel
theorem dX4_digest_139 : decode cX4_digest 139 = .ok (.iload_n 3, 1) := by decide +kernel
theorem dX4_digest_140 : decode cX4_digest 140 = .ok (.iaload, 1) := by decide +kernel
theorem dX4_digest_141 : decode cX4_digest 141 = .ok (.i2l, 1) := by decide +kernel
theorem dX4_digest_142 : decode cX4_digest 142 = .ok (.ladd, 1) := by decide +kernel
theorem dX4_digest_143 : decode cX4_digest 143 = .ok (.lstore_n 1, 1) := by decide +kernel
theorem dX4_digest_144 : decode cX4_digest 144 = .ok (.iinc 3 1, 3) := by decide +kernel
theorem dX4_digest_147 : decode cX4_digest 147 = .ok (.goto (-27), 3) := by decide +kernel
theorem dX4_digest_150 : decode cX4_digest 150 = .ok (.iconst 0, 1) := by decide +kernel
theorem dX4_digest_151 : decode cX4_digest 151 = .ok (.istore_n 3, 1) := by decide +kernel
theorem dX4_digest_152 : decode cX4_digest 152 = .ok (.iload_n 3, 1) := by decide +kernel
theorem dX4_digest_153 : decode cX4_digest 153 = .ok (.aload_n 0, 1) := by decide +kernel
theorem dX4_digest_154 : decode cX4_digest 154 = .ok (.getfield 39, 3) := by decide +kernel
theorem dX4_digest_157 : decode cX4_digest 157 = .ok (.if_icmp .ge 39, 3) := by decide +kernel
theorem dX4_digest_160 : decode cX4_digest 160 = .ok (.iconst 0, 1) := by decide +kernel
theorem dX4_digest_161 : decode cX4_digest 161 = .ok (.istore 4, 2) := by decide +kernel
theorem dX4_digest_163 : decode cX4_digest 163 = .ok (.iload 4, 2) := by decide +kernel
theorem dX4_digest_165 : decode cX4_digest 165 = .ok (.iconst 4, 1) := by decide +kernel
theorem dX4_digest_166 : decode cX4_digest 166 = .ok (.if_icmp .ge 24, 3) := by decide +kernel
theorem dX4_digest_169 : decode cX4_digest 169 = .ok (.lload_n 1, 1) := by decide +kernel
theorem dX4_digest_170 : decode cX4_digest 170 = .ok (.ldc2_w 131, 3) := by decide +kernel
theorem dX4_digest_173 : decode cX4_digest 173 = .ok (.lmul, 1) := by decide +kernel
theorem dX4_digest_174 : decode cX4_digest 174 = .ok (.aload_n 0, 1) := by decide +kernel
theorem dX4_digest_175 : decode cX4_digest 175 = .ok (.iload_n 3, 1) := by decide +kernel
theorem dX4_digest_176 : decode cX4_digest 176 = .ok (.iload 4, 2) := by decide +kernel
theorem dX4_digest_178 : decode cX4_digest 178 = .ok (.invokevirtual 81, 3) := by decide +kernel
theorem dX4_digest_181 : decode cX4_digest 181 = .ok (.i2l, 1) := by decide +kernel
theorem dX4_digest_182 : decode cX4_digest 182 = .ok (.ladd, 1) := by decide +kernel
theorem dX4_digest_183 : decode cX4_digest 183 = .ok (.lstore_n 1, 1) := by decide +kernel
theorem dX4_digest_184 : decode cX4_digest 184 = .ok (.iinc 4 1, 3) := by decide +kernel
theorem dX4_digest_187 : decode cX4_digest 187 = .ok (.goto (-24), 3) := by decide +kernel
theorem dX4_digest_190 : decode cX4_digest 190 = .ok (.iinc 3 1, 3) := by decide +kernel
theorem dX4_digest_193 : decode cX4_digest 193 = .ok (.goto (-41), 3) := by decide +kernel
theorem dX4_digest_196 : decode cX4_digest 196 = .ok (.iconst 0, 1) := by decide +kernel
theorem dX4_digest_197 : decode cX4_digest 197 = .ok (.istore_n 3, 1) := by decide +kernel
theorem dX4_digest_198 : decode cX4_digest 198 = .ok (.iload_n 3, 1) := by decide +kernel
theorem dX4_digest_199 : decode cX4_digest 199 = .ok (.aload_n 0, 1) := by decide +kernel
theorem dX4_digest_200 : decode cX4_digest 200 = .ok (.getfield 42, 3) := by decide +kernel
theorem dX4_digest_203 : decode cX4_digest 203 = .ok (.if_icmp .ge 39, 3) := by decide +kernel
theorem dX4_digest_206 : decode cX4_digest 206 = .ok (.iconst 0, 1) := by decide +kernel
theorem dX4_digest_207 : decode cX4_digest 207 = .ok (.istore 4, 2) := by decide +kernel
theorem dX4_digest_209 : decode cX4_digest 209 = .ok (.iload 4, 2) := by decide +kernel
theorem dX4_digest_211 : decode cX4_digest 211 = .ok (.iconst 5, 1) := by decide +kernel
theorem dX4_digest_212 : decode cX4_digest 212 = .ok (.if_icmp .ge 24, 3) := by decide +kernel
theorem dX4_digest_215 : decode cX4_digest 215 = .ok (.lload_n 1, 1) := by decide +kernel
theorem dX4_digest_216 : decode cX4_digest 216 = .ok (.ldc2_w 131, 3) := by decide +kernel
theorem dX4_digest_219 : decode cX4_digest 219 = .ok (.lmul, 1) := by decide +kernel
theorem dX4_digest_220 : decode cX4_digest 220 = .ok (.aload_n 0, 1) := by decide +kernel
theorem dX4_digest_221 : decode cX4_digest 221 = .ok (.iload_n 3, 1) := by decide +kernel
theorem dX4_digest_222 : decode cX4_digest 222 = .ok (.iload 4, 2) := by decide +kernel
theorem dX4_digest_224 : decode cX4_digest 224 = .ok (.invokevirtual 84, 3) := by decide +kernel
theorem dX4_digest_227 : decode cX4_digest 227 = .ok (.i2l, 1) := by decide +kernel
theorem dX4_digest_228 : decode cX4_digest 228 = .ok (.ladd, 1) := by decide +kernel
theorem dX4_digest_229 : decode cX4_digest 229 = .ok (.lstore_n 1, 1) := by decide +kernel
theorem dX4_digest_230 : decode cX4_digest 230 = .ok (.iinc 4 1, 3) := by decide +kernel
theorem dX4_digest_233 : decode cX4_digest 233 = .ok (.goto (-24), 3) := by decide +kernel
theorem dX4_digest_236 : decode cX4_digest 236 = .ok (.iinc 3 1, 3) := by decide +kernel
theorem dX4_digest_239 : decode cX4_digest 239 = .ok (.goto (-41), 3) := by decide +kernel
theorem dX4_digest_242 : decode cX4_digest 242 = .ok (.lload_n 1, 1) := by decide +kernel
theorem dX4_digest_243 : decode cX4_digest 243 = .ok (.lreturn, 1) := by decide +kernel
theorem dJ9_floorMod_7cf53_0 : decode cJ9_floorMod_7cf53 0 = .ok (.iload_n 0, 1) := by decide +kernel
theorem dJ9_floorMod_7cf53_1 : decode cJ9_floorMod_7cf53 1 = .ok (.iload_n 1, 1) := by decide +kernel
theorem dJ9_floorMod_7cf53_2 : decode cJ9_floorMod_7cf53 2 = .ok (.irem, 1) := by decide +kernel
theorem dJ9_floorMod_7cf53_3 : decode cJ9_floorMod_7cf53 3 = .ok (.istore_n 2, 1) := by decide +kernel
theorem dJ9_floorMod_7cf53_4 : decode cJ9_floorMod_7cf53 4 = .ok (.iload_n 0, 1) := by decide +kernel
theorem dJ9_floorMod_7cf53_5 : decode cJ9_floorMod_7cf53 5 = .ok (.iload_n 1, 1) := by decide +kernel
theorem dJ9_floorMod_7cf53_6 : decode cJ9_floorMod_7cf53 6 = .ok (.ixor, 1) := by decide +kernel
theorem dJ9_floorMod_7cf53_7 : decode cJ9_floorMod_7cf53 7 = .ok (.ifCond .ge 11, 3) := by decide +kernel
theorem dJ9_floorMod_7cf53_10 : decode cJ9_floorMod_7cf53 10 = .ok (.iload_n 2, 1) := by decide +kernel
theorem dJ9_floorMod_7cf53_11 : decode cJ9_floorMod_7cf53 11 = .ok (.ifCond .eq 7, 3) := by decide +kernel
theorem dJ9_floorMod_7cf53_14 : decode cJ9_floorMod_7cf53 14 = .ok (.iload_n 2, 1) := by decide +kernel
theorem dJ9_floorMod_7cf53_15 : decode cJ9_floorMod_7cf53 15 = .ok (.iload_n 1, 1) := by decide +kernel
theorem dJ9_floorMod_7cf53_16 : decode cJ9_floorMod_7cf53 16 = .ok (.iadd, 1) := by decide +kernel
theorem dJ9_floorMod_7cf53_17 : decode cJ9_floorMod_7cf53 17 = .ok (.ireturn, 1) := by decide +kernel
theorem dJ9_floorMod_7cf53_18 : decode cJ9_floorMod_7cf53 18 = .ok (.iload_n 2, 1) := by decide +kernel
theorem dJ9_floorMod_7cf53_19 : decode cJ9_floorMod_7cf53 19 = .ok (.ireturn, 1) := by decide +kernel
theorem dJ9_max_7cf53_0 : decode cJ9_max_7cf53 0 = .ok (.iload_n 0, 1) := by decide +kernel
theorem dJ9_max_7cf53_1 : decode cJ9_max_7cf53 1 = .ok (.iload_n 1, 1) := by decide +kernel
theorem dJ9_max_7cf53_2 : decode cJ9_max_7cf53 2 = .ok (.if_icmp .lt 7, 3) := by decide +kernel
theorem dJ9_max_7cf53_5 : decode cJ9_max_7cf53 5 = .ok (.iload_n 0, 1) := by decide +kernel
theorem dJ9_max_7cf53_6 : decode cJ9_max_7cf53 6 = .ok (.goto 4, 3) := by decide +kernel
theorem dJ9_max_7cf53_9 : decode cJ9_max_7cf53 9 = .ok (.iload_n 1, 1) := by decide +kernel
theorem dJ9_max_7cf53_10 : decode cJ9_max_7cf53 10 = .ok (.ireturn, 1) := by decide +kernel
theorem dJ9_min_7cf53_0 : decode cJ9_min_7cf53 0 = .ok (.iload_n 0, 1) := by decide +kernel
theorem dJ9_min_7cf53_1 : decode cJ9_min_7cf53 1 = .ok (.iload_n 1, 1) := by decide +kernel
theorem dJ9_min_7cf53_2 : decode cJ9_min_7cf53 2 = .ok (.if_icmp .gt 7, 3) := by decide +kernel
theorem dJ9_min_7cf53_5 : decode cJ9_min_7cf53 5 = .ok (.iload_n 0, 1) := by decide +kernel
theorem dJ9_min_7cf53_6 : decode cJ9_min_7cf53 6 = .ok (.goto 4, 3) := by decide +kernel
theorem dJ9_min_7cf53_9 : decode cJ9_min_7cf53 9 = .ok (.iload_n 1, 1) := by decide +kernel
theorem dJ9_min_7cf53_10 : decode cJ9_min_7cf53 10 = .ok (.ireturn, 1) := by decide +kernel
theorem dL_bring_0 : decode cL_bring 0 = .ok (.aload_n 3, 1) := by decide +kernel
theorem dL_bring_1 : decode cL_bring 1 = .ok (.iconst 0, 1) := by decide +kernel
theorem dL_bring_2 : decode cL_bring 2 = .ok (.aload_n 0, 1) := by decide +kernel
theorem dL_bring_3 : decode cL_bring 3 = .ok (.iload_n 1, 1) := by decide +kernel
theorem dL_bring_4 : decode cL_bring 4 = .ok (.iload_n 2, 1) := by decide +kernel
theorem dL_bring_5 : decode cL_bring 5 = .ok (.invokevirtual 7, 3) := by decide +kernel
theorem dL_bring_8 : decode cL_bring 8 = .ok (.i2l, 1) := by decide +kernel
theorem dL_bring_9 : decode cL_bring 9 = .ok (.lastore, 1) := by decide +kernel
theorem dL_bring_10 : decode cL_bring 10 = .ok (.goto 11, 3) := by decide +kernel
theorem dL_bring_13 : decode cL_bring 13 = .ok (.astore 4, 2) := by decide +kernel
theorem dL_bring_15 : decode cL_bring 15 = .ok (.iconst 1, 1) := by decide +kernel
theorem dL_bring_16 : decode cL_bring 16 = .ok (.ireturn, 1) := by decide +kernel
theorem dL_bring_17 : decode cL_bring 17 = .ok (.astore 4, 2) := by decide +kernel
theorem dL_bring_19 : decode cL_bring 19 = .ok (.iconst 2, 1) := by decide +kernel
theorem dL_bring_20 : decode cL_bring 20 = .ok (.ireturn, 1) := by decide +kernel
theorem dL_bring_21 : decode cL_bring 21 = .ok (.iconst 0, 1) := by decide +kernel
theorem dL_bring_22 : decode cL_bring 22 = .ok (.ireturn, 1) := by decide +kernel
theorem dL_setRain_0 : decode cL_setRain 0 = .ok (.aload_n 3, 1) := by decide +kernel
theorem dL_setRain_1 : decode cL_setRain 1 = .ok (.iconst 0, 1) := by decide +kernel
theorem dL_setRain_2 : decode cL_setRain 2 = .ok (.aload_n 0, 1) := by decide +kernel
theorem dL_setRain_3 : decode cL_setRain 3 = .ok (.iload_n 1, 1) := by decide +kernel
theorem dL_setRain_4 : decode cL_setRain 4 = .ok (.iload_n 2, 1) := by decide +kernel
theorem dL_setRain_5 : decode cL_setRain 5 = .ok (.invokevirtual 17, 3) := by decide +kernel
theorem dL_setRain_8 : decode cL_setRain 8 = .ok (.i2l, 1) := by decide +kernel
theorem dL_setRain_9 : decode cL_setRain 9 = .ok (.lastore, 1) := by decide +kernel
theorem dL_setRain_10 : decode cL_setRain 10 = .ok (.goto 11, 3) := by decide +kernel
theorem dL_setRain_13 : decode cL_setRain 13 = .ok (.astore 4, 2) := by decide +kernel
theorem dL_setRain_15 : decode cL_setRain 15 = .ok (.iconst 1, 1) := by decide +kernel
theorem dL_setRain_16 : decode cL_setRain 16 = .ok (.ireturn, 1) := by decide +kernel
theorem dL_setRain_17 : decode cL_setRain 17 = .ok (.astore 4, 2) := by decide +kernel
theorem dL_setRain_19 : decode cL_setRain 19 = .ok (.iconst 2, 1) := by decide +kernel
theorem dL_setRain_20 : decode cL_setRain 20 = .ok (.ireturn, 1) := by decide +kernel
theorem dL_setRain_21 : decode cL_setRain 21 = .ok (.iconst 0, 1) := by decide +kernel
theorem dL_setRain_22 : decode cL_setRain 22 = .ok (.ireturn, 1) := by decide +kernel
theorem dL_setShip_0 : decode cL_setShip 0 = .ok (.aload_n 3, 1) := by decide +kernel
theorem dL_setShip_1 : decode cL_setShip 1 = .ok (.iconst 0, 1) := by decide +kernel
theorem dL_setShip_2 : decode cL_setShip 2 = .ok (.aload_n 0, 1) := by decide +kernel
theorem dL_setShip_3 : decode cL_setShip 3 = .ok (.iload_n 1, 1) := by decide +kernel
theorem dL_setShip_4 : decode cL_setShip 4 = .ok (.iload_n 2, 1) := by decide +kernel
theorem dL_setShip_5 : decode cL_setShip 5 = .ok (.invokevirtual 20, 3) := by decide +kernel
theorem dL_setShip_8 : decode cL_setShip 8 = .ok (.i2l, 1) := by decide +kernel
theorem dL_setShip_9 : decode cL_setShip 9 = .ok (.lastore, 1) := by decide +kernel
theorem dL_setShip_10 : decode cL_setShip 10 = .ok (.goto 11, 3) := by decide +kernel
theorem dL_setShip_13 : decode cL_setShip 13 = .ok (.astore 4, 2) := by decide +kernel
theorem dL_setShip_15 : decode cL_setShip 15 = .ok (.iconst 1, 1) := by decide +kernel
theorem dL_setShip_16 : decode cL_setShip 16 = .ok (.ireturn, 1) := by decide +kernel
theorem dL_setShip_17 : decode cL_setShip 17 = .ok (.astore 4, 2) := by decide +kernel
theorem dL_setShip_19 : decode cL_setShip 19 = .ok (.iconst 2, 1) := by decide +kernel
theorem dL_setShip_20 : decode cL_setShip 20 = .ok (.ireturn, 1) := by decide +kernel
theorem dL_setShip_21 : decode cL_setShip 21 = .ok (.iconst 0, 1) := by decide +kernel
theorem dL_setShip_22 : decode cL_setShip 22 = .ok (.ireturn, 1) := by decide +kernel
theorem dL_pile_0 : decode cL_pile 0 = .ok (.aload_n 2, 1) := by decide +kernel
theorem dL_pile_1 : decode cL_pile 1 = .ok (.iconst 0, 1) := by decide +kernel
theorem dL_pile_2 : decode cL_pile 2 = .ok (.aload_n 0, 1) := by decide +kernel
theorem dL_pile_3 : decode cL_pile 3 = .ok (.iload_n 1, 1) := by decide +kernel
theorem dL_pile_4 : decode cL_pile 4 = .ok (.invokevirtual 23, 3) := by decide +kernel
theorem dL_pile_7 : decode cL_pile 7 = .ok (.i2l, 1) := by decide +kernel
theorem dL_pile_8 : decode cL_pile 8 = .ok (.lastore, 1) := by decide +kernel
theorem dL_pile_9 : decode cL_pile 9 = .ok (.goto 9, 3) := by decide +kernel
theorem dL_pile_12 : decode cL_pile 12 = .ok (.astore_n 3, 1) := by decide +kernel
theorem dL_pile_13 : decode cL_pile 13 = .ok (.iconst 1, 1) := by decide +kernel
theorem dL_pile_14 : decode cL_pile 14 = .ok (.ireturn, 1) := by decide +kernel
theorem dL_pile_15 : decode cL_pile 15 = .ok (.astore_n 3, 1) := by decide +kernel
theorem dL_pile_16 : decode cL_pile 16 = .ok (.iconst 2, 1) := by decide +kernel
theorem dL_pile_17 : decode cL_pile 17 = .ok (.ireturn, 1) := by decide +kernel
theorem dL_pile_18 : decode cL_pile 18 = .ok (.iconst 0, 1) := by decide +kernel
theorem dL_pile_19 : decode cL_pile 19 = .ok (.ireturn, 1) := by decide +kernel
theorem dL_light_0 : decode cL_light 0 = .ok (.aload_n 3, 1) := by decide +kernel
theorem dL_light_1 : decode cL_light 1 = .ok (.iconst 0, 1) := by decide +kernel
theorem dL_light_2 : decode cL_light 2 = .ok (.aload_n 0, 1) := by decide +kernel
theorem dL_light_3 : decode cL_light 3 = .ok (.iload_n 1, 1) := by decide +kernel
theorem dL_light_4 : decode cL_light 4 = .ok (.iload_n 2, 1) := by decide +kernel
theorem dL_light_5 : decode cL_light 5 = .ok (.invokevirtual 29, 3) := by decide +kernel
theorem dL_light_8 : decode cL_light 8 = .ok (.i2l, 1) := by decide +kernel
theorem dL_light_9 : decode cL_light 9 = .ok (.lastore, 1) := by decide +kernel
theorem dL_light_10 : decode cL_light 10 = .ok (.goto 15, 3) := by decide +kernel
theorem dL_light_13 : decode cL_light 13 = .ok (.astore 4, 2) := by decide +kernel
theorem dL_light_15 : decode cL_light 15 = .ok (.iconst 1, 1) := by decide +kernel
theorem dL_light_16 : decode cL_light 16 = .ok (.ireturn, 1) := by decide +kernel
theorem dL_light_17 : decode cL_light 17 = .ok (.astore 4, 2) := by decide +kernel
theorem dL_light_19 : decode cL_light 19 = .ok (.iconst 2, 1) := by decide +kernel
theorem dL_light_20 : decode cL_light 20 = .ok (.ireturn, 1) := by decide +kernel
theorem dL_light_21 : decode cL_light 21 = .ok (.astore 4, 2) := by decide +kernel
theorem dL_light_23 : decode cL_light 23 = .ok (.iconst 3, 1) := by decide +kernel
theorem dL_light_24 : decode cL_light 24 = .ok (.ireturn, 1) := by decide +kernel
theorem dL_light_25 : decode cL_light 25 = .ok (.iconst 0, 1) := by decide +kernel
theorem dL_light_26 : decode cL_light 26 = .ok (.ireturn, 1) := by decide +kernel
theorem dL_dig_0 : decode cL_dig 0 = .ok (.aload_n 2, 1) := by decide +kernel
theorem dL_dig_1 : decode cL_dig 1 = .ok (.iconst 0, 1) := by decide +kernel
theorem dL_dig_2 : decode cL_dig 2 = .ok (.aload_n 0, 1) := by decide +kernel
theorem dL_dig_3 : decode cL_dig 3 = .ok (.iload_n 1, 1) := by decide +kernel
theorem dL_dig_4 : decode cL_dig 4 = .ok (.invokevirtual 32, 3) := by decide +kernel
theorem dL_dig_7 : decode cL_dig 7 = .ok (.i2l, 1) := by decide +kernel
theorem dL_dig_8 : decode cL_dig 8 = .ok (.lastore, 1) := by decide +kernel
theorem dL_dig_9 : decode cL_dig 9 = .ok (.goto 9, 3) := by decide +kernel
theorem dL_dig_12 : decode cL_dig 12 = .ok (.astore_n 3, 1) := by decide +kernel
theorem dL_dig_13 : decode cL_dig 13 = .ok (.iconst 1, 1) := by decide +kernel
theorem dL_dig_14 : decode cL_dig 14 = .ok (.ireturn, 1) := by decide +kernel
theorem dL_dig_15 : decode cL_dig 15 = .ok (.astore_n 3, 1) := by decide +kernel
theorem dL_dig_16 : decode cL_dig 16 = .ok (.iconst 2, 1) := by decide +kernel
theorem dL_dig_17 : decode cL_dig 17 = .ok (.ireturn, 1) := by decide +kernel
theorem dL_dig_18 : decode cL_dig 18 = .ok (.iconst 0, 1) := by decide +kernel
theorem dL_dig_19 : decode cL_dig 19 = .ok (.ireturn, 1) := by decide +kernel
theorem dL_steep_0 : decode cL_steep 0 = .ok (.aload_n 3, 1) := by decide +kernel
theorem dL_steep_1 : decode cL_steep 1 = .ok (.iconst 0, 1) := by decide +kernel
theorem dL_steep_2 : decode cL_steep 2 = .ok (.aload_n 0, 1) := by decide +kernel
theorem dL_steep_3 : decode cL_steep 3 = .ok (.iload_n 1, 1) := by decide +kernel
theorem dL_steep_4 : decode cL_steep 4 = .ok (.iload_n 2, 1) := by decide +kernel
theorem dL_steep_5 : decode cL_steep 5 = .ok (.invokevirtual 35, 3) := by decide +kernel
theorem dL_steep_8 : decode cL_steep 8 = .ok (.i2l, 1) := by decide +kernel
theorem dL_steep_9 : decode cL_steep 9 = .ok (.lastore, 1) := by decide +kernel
theorem dL_steep_10 : decode cL_steep 10 = .ok (.goto 11, 3) := by decide +kernel
theorem dL_steep_13 : decode cL_steep 13 = .ok (.astore 4, 2) := by decide +kernel
theorem dL_steep_15 : decode cL_steep 15 = .ok (.iconst 1, 1) := by decide +kernel
theorem dL_steep_16 : decode cL_steep 16 = .ok (.ireturn, 1) := by decide +kernel
theorem dL_steep_17 : decode cL_steep 17 = .ok (.astore 4, 2) := by decide +kernel
theorem dL_steep_19 : decode cL_steep 19 = .ok (.iconst 2, 1) := by decide +kernel
theorem dL_steep_20 : decode cL_steep 20 = .ok (.ireturn, 1) := by decide +kernel
theorem dL_steep_21 : decode cL_steep 21 = .ok (.iconst 0, 1) := by decide +kernel
theorem dL_steep_22 : decode cL_steep 22 = .ok (.ireturn, 1) := by decide +kernel
theorem dL_pan_0 : decode cL_pan 0 = .ok (.aload_n 1, 1) := by decide +kernel
theorem dL_pan_1 : decode cL_pan 1 = .ok (.iconst 0, 1) := by decide +kernel
theorem dL_pan_2 : decode cL_pan 2 = .ok (.aload_n 0, 1) := by decide +kernel
theorem dL_pan_3 : decode cL_pan 3 = .ok (.invokevirtual 38, 3) := by decide +kernel
theorem dL_pan_6 : decode cL_pan 6 = .ok (.i2l, 1) := by decide +kernel
theorem dL_pan_7 : decode cL_pan 7 = .ok (.lastore, 1) := by decide +kernel
theorem dL_pan_8 : decode cL_pan 8 = .ok (.goto 6, 3) := by decide +kernel
theorem dL_pan_11 : decode cL_pan 11 = .ok (.astore_n 2, 1) := by decide +kernel
theorem dL_pan_12 : decode cL_pan 12 = .ok (.iconst 1, 1) := by decide +kernel
theorem dL_pan_13 : decode cL_pan 13 = .ok (.ireturn, 1) := by decide +kernel
theorem dL_pan_14 : decode cL_pan 14 = .ok (.iconst 0, 1) := by decide +kernel
theorem dL_pan_15 : decode cL_pan 15 = .ok (.ireturn, 1) := by decide +kernel
theorem dL_draw_0 : decode cL_draw 0 = .ok (.aload 4, 2) := by decide +kernel
theorem dL_draw_2 : decode cL_draw 2 = .ok (.iconst 0, 1) := by decide +kernel
theorem dL_draw_3 : decode cL_draw 3 = .ok (.aload_n 0, 1) := by decide +kernel
theorem dL_draw_4 : decode cL_draw 4 = .ok (.iload_n 1, 1) := by decide +kernel
theorem dL_draw_5 : decode cL_draw 5 = .ok (.iload_n 2, 1) := by decide +kernel
theorem dL_draw_6 : decode cL_draw 6 = .ok (.iload_n 3, 1) := by decide +kernel
theorem dL_draw_7 : decode cL_draw 7 = .ok (.invokevirtual 42, 3) := by decide +kernel
theorem dL_draw_10 : decode cL_draw 10 = .ok (.i2l, 1) := by decide +kernel
theorem dL_draw_11 : decode cL_draw 11 = .ok (.lastore, 1) := by decide +kernel
theorem dL_draw_12 : decode cL_draw 12 = .ok (.goto 15, 3) := by decide +kernel
theorem dL_draw_15 : decode cL_draw 15 = .ok (.astore 5, 2) := by decide +kernel
theorem dL_draw_17 : decode cL_draw 17 = .ok (.iconst 1, 1) := by decide +kernel
theorem dL_draw_18 : decode cL_draw 18 = .ok (.ireturn, 1) := by decide +kernel
theorem dL_draw_19 : decode cL_draw 19 = .ok (.astore 5, 2) := by decide +kernel
theorem dL_draw_21 : decode cL_draw 21 = .ok (.iconst 2, 1) := by decide +kernel
theorem dL_draw_22 : decode cL_draw 22 = .ok (.ireturn, 1) := by decide +kernel
theorem dL_draw_23 : decode cL_draw 23 = .ok (.astore 5, 2) := by decide +kernel
theorem dL_draw_25 : decode cL_draw 25 = .ok (.iconst 3, 1) := by decide +kernel
theorem dL_draw_26 : decode cL_draw 26 = .ok (.ireturn, 1) := by decide +kernel
theorem dL_draw_27 : decode cL_draw 27 = .ok (.iconst 0, 1) := by decide +kernel
theorem dL_draw_28 : decode cL_draw 28 = .ok (.ireturn, 1) := by decide +kernel
theorem dL_boil_0 : decode cL_boil 0 = .ok (.aload_n 2, 1) := by decide +kernel
theorem dL_boil_1 : decode cL_boil 1 = .ok (.iconst 0, 1) := by decide +kernel
theorem dL_boil_2 : decode cL_boil 2 = .ok (.aload_n 0, 1) := by decide +kernel
theorem dL_boil_3 : decode cL_boil 3 = .ok (.iload_n 1, 1) := by decide +kernel
theorem dL_boil_4 : decode cL_boil 4 = .ok (.invokevirtual 46, 3) := by decide +kernel
theorem dL_boil_7 : decode cL_boil 7 = .ok (.ifCond .eq 7, 3) := by decide +kernel
theorem dL_boil_10 : decode cL_boil 10 = .ok (.lconst 1, 1) := by decide +kernel
theorem dL_boil_11 : decode cL_boil 11 = .ok (.goto 4, 3) := by decide +kernel
theorem dL_boil_14 : decode cL_boil 14 = .ok (.lconst 0, 1) := by decide +kernel
theorem dL_boil_15 : decode cL_boil 15 = .ok (.lastore, 1) := by decide +kernel
theorem dL_boil_16 : decode cL_boil 16 = .ok (.goto 6, 3) := by decide +kernel
theorem dL_boil_19 : decode cL_boil 19 = .ok (.astore_n 3, 1) := by decide +kernel
theorem dL_boil_20 : decode cL_boil 20 = .ok (.iconst 1, 1) := by decide +kernel
theorem dL_boil_21 : decode cL_boil 21 = .ok (.ireturn, 1) := by decide +kernel
theorem dL_boil_22 : decode cL_boil 22 = .ok (.iconst 0, 1) := by decide +kernel
theorem dL_boil_23 : decode cL_boil 23 = .ok (.ireturn, 1) := by decide +kernel
theorem dL_pour_0 : decode cL_pour 0 = .ok (.aload_n 3, 1) := by decide +kernel
theorem dL_pour_1 : decode cL_pour 1 = .ok (.iconst 0, 1) := by decide +kernel
theorem dL_pour_2 : decode cL_pour 2 = .ok (.aload_n 0, 1) := by decide +kernel
theorem dL_pour_3 : decode cL_pour 3 = .ok (.iload_n 1, 1) := by decide +kernel
theorem dL_pour_4 : decode cL_pour 4 = .ok (.iload_n 2, 1) := by decide +kernel
theorem dL_pour_5 : decode cL_pour 5 = .ok (.invokevirtual 50, 3) := by decide +kernel
theorem dL_pour_8 : decode cL_pour 8 = .ok (.i2l, 1) := by decide +kernel
theorem dL_pour_9 : decode cL_pour 9 = .ok (.lastore, 1) := by decide +kernel
theorem dL_pour_10 : decode cL_pour 10 = .ok (.goto 15, 3) := by decide +kernel
theorem dL_pour_13 : decode cL_pour 13 = .ok (.astore 4, 2) := by decide +kernel
theorem dL_pour_15 : decode cL_pour 15 = .ok (.iconst 1, 1) := by decide +kernel
theorem dL_pour_16 : decode cL_pour 16 = .ok (.ireturn, 1) := by decide +kernel
theorem dL_pour_17 : decode cL_pour 17 = .ok (.astore 4, 2) := by decide +kernel
theorem dL_pour_19 : decode cL_pour 19 = .ok (.iconst 2, 1) := by decide +kernel
theorem dL_pour_20 : decode cL_pour 20 = .ok (.ireturn, 1) := by decide +kernel
theorem dL_pour_21 : decode cL_pour 21 = .ok (.astore 4, 2) := by decide +kernel
theorem dL_pour_23 : decode cL_pour 23 = .ok (.iconst 3, 1) := by decide +kernel
theorem dL_pour_24 : decode cL_pour 24 = .ok (.ireturn, 1) := by decide +kernel
theorem dL_pour_25 : decode cL_pour 25 = .ok (.iconst 0, 1) := by decide +kernel
theorem dL_pour_26 : decode cL_pour 26 = .ok (.ireturn, 1) := by decide +kernel
theorem dL_clamp_0 : decode cL_clamp 0 = .ok (.aload_n 3, 1) := by decide +kernel
theorem dL_clamp_1 : decode cL_clamp 1 = .ok (.iconst 0, 1) := by decide +kernel
theorem dL_clamp_2 : decode cL_clamp 2 = .ok (.aload_n 0, 1) := by decide +kernel
theorem dL_clamp_3 : decode cL_clamp 3 = .ok (.iload_n 1, 1) := by decide +kernel
theorem dL_clamp_4 : decode cL_clamp 4 = .ok (.iload_n 2, 1) := by decide +kernel
theorem dL_clamp_5 : decode cL_clamp 5 = .ok (.invokevirtual 53, 3) := by decide +kernel
theorem dL_clamp_8 : decode cL_clamp 8 = .ok (.i2l, 1) := by decide +kernel
theorem dL_clamp_9 : decode cL_clamp 9 = .ok (.lastore, 1) := by decide +kernel
theorem dL_clamp_10 : decode cL_clamp 10 = .ok (.goto 7, 3) := by decide +kernel
theorem dL_clamp_13 : decode cL_clamp 13 = .ok (.astore 4, 2) := by decide +kernel
theorem dL_clamp_15 : decode cL_clamp 15 = .ok (.iconst 1, 1) := by decide +kernel
theorem dL_clamp_16 : decode cL_clamp 16 = .ok (.ireturn, 1) := by decide +kernel
theorem dL_clamp_17 : decode cL_clamp 17 = .ok (.iconst 0, 1) := by decide +kernel
theorem dL_clamp_18 : decode cL_clamp 18 = .ok (.ireturn, 1) := by decide +kernel
theorem dL_pit_0 : decode cL_pit 0 = .ok (.aload_n 3, 1) := by decide +kernel
theorem dL_pit_1 : decode cL_pit 1 = .ok (.iconst 0, 1) := by decide +kernel
theorem dL_pit_2 : decode cL_pit 2 = .ok (.aload_n 0, 1) := by decide +kernel
theorem dL_pit_3 : decode cL_pit 3 = .ok (.iload_n 1, 1) := by decide +kernel
theorem dL_pit_4 : decode cL_pit 4 = .ok (.iload_n 2, 1) := by decide +kernel
theorem dL_pit_5 : decode cL_pit 5 = .ok (.invokevirtual 56, 3) := by decide +kernel
theorem dL_pit_8 : decode cL_pit 8 = .ok (.i2l, 1) := by decide +kernel
theorem dL_pit_9 : decode cL_pit 9 = .ok (.lastore, 1) := by decide +kernel
theorem dL_pit_10 : decode cL_pit 10 = .ok (.goto 7, 3) := by decide +kernel
theorem dL_pit_13 : decode cL_pit 13 = .ok (.astore 4, 2) := by decide +kernel
theorem dL_pit_15 : decode cL_pit 15 = .ok (.iconst 1, 1) := by decide +kernel
theorem dL_pit_16 : decode cL_pit 16 = .ok (.ireturn, 1) := by decide +kernel
theorem dL_pit_17 : decode cL_pit 17 = .ok (.iconst 0, 1) := by decide +kernel
theorem dL_pit_18 : decode cL_pit 18 = .ok (.ireturn, 1) := by decide +kernel
theorem dL_about_0 : decode cL_about 0 = .ok (.aload_n 3, 1) := by decide +kernel
theorem dL_about_1 : decode cL_about 1 = .ok (.iconst 0, 1) := by decide +kernel
theorem dL_about_2 : decode cL_about 2 = .ok (.aload_n 0, 1) := by decide +kernel
theorem dL_about_3 : decode cL_about 3 = .ok (.iload_n 1, 1) := by decide +kernel
theorem dL_about_4 : decode cL_about 4 = .ok (.iload_n 2, 1) := by decide +kernel
theorem dL_about_5 : decode cL_about 5 = .ok (.invokevirtual 59, 3) := by decide +kernel
theorem dL_about_8 : decode cL_about 8 = .ok (.i2l, 1) := by decide +kernel
theorem dL_about_9 : decode cL_about 9 = .ok (.lastore, 1) := by decide +kernel
theorem dL_about_10 : decode cL_about 10 = .ok (.goto 7, 3) := by decide +kernel
theorem dL_about_13 : decode cL_about 13 = .ok (.astore 4, 2) := by decide +kernel
theorem dL_about_15 : decode cL_about 15 = .ok (.iconst 1, 1) := by decide +kernel
theorem dL_about_16 : decode cL_about 16 = .ok (.ireturn, 1) := by decide +kernel
theorem dL_about_17 : decode cL_about 17 = .ok (.iconst 0, 1) := by decide +kernel
theorem dL_about_18 : decode cL_about 18 = .ok (.ireturn, 1) := by decide +kernel
theorem dL_count_0 : decode cL_count 0 = .ok (.aload_n 2, 1) := by decide +kernel
theorem dL_count_1 : decode cL_count 1 = .ok (.iconst 0, 1) := by decide +kernel
theorem dL_count_2 : decode cL_count 2 = .ok (.aload_n 0, 1) := by decide +kernel
theorem dL_count_3 : decode cL_count 3 = .ok (.iload_n 1, 1) := by decide +kernel
theorem dL_count_4 : decode cL_count 4 = .ok (.invokevirtual 62, 3) := by decide +kernel
theorem dL_count_7 : decode cL_count 7 = .ok (.i2l, 1) := by decide +kernel
theorem dL_count_8 : decode cL_count 8 = .ok (.lastore, 1) := by decide +kernel
theorem dL_count_9 : decode cL_count 9 = .ok (.goto 6, 3) := by decide +kernel
theorem dL_count_12 : decode cL_count 12 = .ok (.astore_n 3, 1) := by decide +kernel
theorem dL_count_13 : decode cL_count 13 = .ok (.iconst 1, 1) := by decide +kernel
theorem dL_count_14 : decode cL_count 14 = .ok (.ireturn, 1) := by decide +kernel
theorem dL_count_15 : decode cL_count 15 = .ok (.iconst 0, 1) := by decide +kernel
theorem dL_count_16 : decode cL_count 16 = .ok (.ireturn, 1) := by decide +kernel
theorem dL_pass_0 : decode cL_pass 0 = .ok (.aload_n 2, 1) := by decide +kernel
theorem dL_pass_1 : decode cL_pass 1 = .ok (.iconst 0, 1) := by decide +kernel
theorem dL_pass_2 : decode cL_pass 2 = .ok (.aload_n 0, 1) := by decide +kernel
theorem dL_pass_3 : decode cL_pass 3 = .ok (.iload_n 1, 1) := by decide +kernel
theorem dL_pass_4 : decode cL_pass 4 = .ok (.invokevirtual 65, 3) := by decide +kernel
theorem dL_pass_7 : decode cL_pass 7 = .ok (.i2l, 1) := by decide +kernel
theorem dL_pass_8 : decode cL_pass 8 = .ok (.lastore, 1) := by decide +kernel
theorem dL_pass_9 : decode cL_pass 9 = .ok (.goto 6, 3) := by decide +kernel
theorem dL_pass_12 : decode cL_pass 12 = .ok (.astore_n 3, 1) := by decide +kernel
theorem dL_pass_13 : decode cL_pass 13 = .ok (.iconst 1, 1) := by decide +kernel
theorem dL_pass_14 : decode cL_pass 14 = .ok (.ireturn, 1) := by decide +kernel
theorem dL_pass_15 : decode cL_pass 15 = .ok (.iconst 0, 1) := by decide +kernel
theorem dL_pass_16 : decode cL_pass 16 = .ok (.ireturn, 1) := by decide +kernel
theorem dL_right_0 : decode cL_right 0 = .ok (.aload_n 2, 1) := by decide +kernel
theorem dL_right_1 : decode cL_right 1 = .ok (.iconst 0, 1) := by decide +kernel
theorem dL_right_2 : decode cL_right 2 = .ok (.aload_n 0, 1) := by decide +kernel
theorem dL_right_3 : decode cL_right 3 = .ok (.iload_n 1, 1) := by decide +kernel
theorem dL_right_4 : decode cL_right 4 = .ok (.invokevirtual 68, 3) := by decide +kernel
theorem dL_right_7 : decode cL_right 7 = .ok (.i2l, 1) := by decide +kernel
theorem dL_right_8 : decode cL_right 8 = .ok (.lastore, 1) := by decide +kernel
theorem dL_right_9 : decode cL_right 9 = .ok (.goto 6, 3) := by decide +kernel
theorem dL_right_12 : decode cL_right 12 = .ok (.astore_n 3, 1) := by decide +kernel
theorem dL_right_13 : decode cL_right 13 = .ok (.iconst 1, 1) := by decide +kernel
theorem dL_right_14 : decode cL_right 14 = .ok (.ireturn, 1) := by decide +kernel
theorem dL_right_15 : decode cL_right 15 = .ok (.iconst 0, 1) := by decide +kernel
theorem dL_right_16 : decode cL_right 16 = .ok (.ireturn, 1) := by decide +kernel
theorem dL_foresee_0 : decode cL_foresee 0 = .ok (.aload_n 3, 1) := by decide +kernel
theorem dL_foresee_1 : decode cL_foresee 1 = .ok (.iconst 0, 1) := by decide +kernel
theorem dL_foresee_2 : decode cL_foresee 2 = .ok (.aload_n 0, 1) := by decide +kernel
theorem dL_foresee_3 : decode cL_foresee 3 = .ok (.iload_n 1, 1) := by decide +kernel
theorem dL_foresee_4 : decode cL_foresee 4 = .ok (.iload_n 2, 1) := by decide +kernel
theorem dL_foresee_5 : decode cL_foresee 5 = .ok (.invokevirtual 71, 3) := by decide +kernel
theorem dL_foresee_8 : decode cL_foresee 8 = .ok (.i2l, 1) := by decide +kernel
theorem dL_foresee_9 : decode cL_foresee 9 = .ok (.lastore, 1) := by decide +kernel
theorem dL_foresee_10 : decode cL_foresee 10 = .ok (.goto 11, 3) := by decide +kernel
theorem dL_foresee_13 : decode cL_foresee 13 = .ok (.astore 4, 2) := by decide +kernel
theorem dL_foresee_15 : decode cL_foresee 15 = .ok (.iconst 1, 1) := by decide +kernel
theorem dL_foresee_16 : decode cL_foresee 16 = .ok (.ireturn, 1) := by decide +kernel
theorem dL_foresee_17 : decode cL_foresee 17 = .ok (.astore 4, 2) := by decide +kernel
theorem dL_foresee_19 : decode cL_foresee 19 = .ok (.iconst 2, 1) := by decide +kernel
theorem dL_foresee_20 : decode cL_foresee 20 = .ok (.ireturn, 1) := by decide +kernel
theorem dL_foresee_21 : decode cL_foresee 21 = .ok (.iconst 0, 1) := by decide +kernel
theorem dL_foresee_22 : decode cL_foresee 22 = .ok (.ireturn, 1) := by decide +kernel
theorem dL_barrels_0 : decode cL_barrels 0 = .ok (.aload_n 2, 1) := by decide +kernel
theorem dL_barrels_1 : decode cL_barrels 1 = .ok (.iconst 0, 1) := by decide +kernel
theorem dL_barrels_2 : decode cL_barrels 2 = .ok (.aload_n 0, 1) := by decide +kernel
theorem dL_barrels_3 : decode cL_barrels 3 = .ok (.iload_n 1, 1) := by decide +kernel
theorem dL_barrels_4 : decode cL_barrels 4 = .ok (.invokevirtual 74, 3) := by decide +kernel
theorem dL_barrels_7 : decode cL_barrels 7 = .ok (.i2l, 1) := by decide +kernel
theorem dL_barrels_8 : decode cL_barrels 8 = .ok (.lastore, 1) := by decide +kernel
theorem dL_barrels_9 : decode cL_barrels 9 = .ok (.goto 6, 3) := by decide +kernel
theorem dL_barrels_12 : decode cL_barrels 12 = .ok (.astore_n 3, 1) := by decide +kernel
theorem dL_barrels_13 : decode cL_barrels 13 = .ok (.iconst 1, 1) := by decide +kernel
theorem dL_barrels_14 : decode cL_barrels 14 = .ok (.ireturn, 1) := by decide +kernel
theorem dL_barrels_15 : decode cL_barrels 15 = .ok (.iconst 0, 1) := by decide +kernel
theorem dL_barrels_16 : decode cL_barrels 16 = .ok (.ireturn, 1) := by decide +kernel
theorem dL_dry_0 : decode cL_dry 0 = .ok (.aload_n 2, 1) := by decide +kernel
theorem dL_dry_1 : decode cL_dry 1 = .ok (.iconst 0, 1) := by decide +kernel
theorem dL_dry_2 : decode cL_dry 2 = .ok (.aload_n 0, 1) := by decide +kernel
theorem dL_dry_3 : decode cL_dry 3 = .ok (.iload_n 1, 1) := by decide +kernel
theorem dL_dry_4 : decode cL_dry 4 = .ok (.invokevirtual 77, 3) := by decide +kernel
theorem dL_dry_7 : decode cL_dry 7 = .ok (.i2l, 1) := by decide +kernel
theorem dL_dry_8 : decode cL_dry 8 = .ok (.lastore, 1) := by decide +kernel
theorem dL_dry_9 : decode cL_dry 9 = .ok (.goto 6, 3) := by decide +kernel
theorem dL_dry_12 : decode cL_dry 12 = .ok (.astore_n 3, 1) := by decide +kernel
theorem dL_dry_13 : decode cL_dry 13 = .ok (.iconst 1, 1) := by decide +kernel
theorem dL_dry_14 : decode cL_dry 14 = .ok (.ireturn, 1) := by decide +kernel
theorem dL_dry_15 : decode cL_dry 15 = .ok (.iconst 0, 1) := by decide +kernel
theorem dL_dry_16 : decode cL_dry 16 = .ok (.ireturn, 1) := by decide +kernel
abbrev vwCl : List vw_C := [(RX0, TX0, 5), (RX1, TX1, 5), (RX2, TX2, 10), (RX3, TX3, 4), (RX4, TX4, 10)]
