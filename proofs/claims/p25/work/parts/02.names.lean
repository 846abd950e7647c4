/-! ===== BEGIN printed: names, fields, word lists, decode rows ===== -/
def RX0 : String := "AlumWorks$Clamps"
def TX0 : u_T := fun k => match k with
  | 0 => ("AlumWorks$Clamps", "shale", "[I", true)
  | 1 => ("AlumWorks$Clamps", "coal", "[I", true)
  | 2 => ("AlumWorks$Clamps", "burnt", "[I", true)
  | 3 => ("AlumWorks$Clamps", "burns", "[Z", true)
  | _ => ("AlumWorks$Clamps", "many", "I", false)
def tyX0 : Nat → FieldType := fun k => match k with
  | 0 => .array .int
  | 1 => .array .int
  | 2 => .array .int
  | 3 => .array .boolean
  | _ => .int
abbrev wsX00 : List Cond := u_ws RX0 TX0 5
theorem nmX0 : ∀ a, a < 5 → ∀ b, b < 5 → a ≠ b → (TX0 a).2.1 ≠ (TX0 b).2.1 := by decide +kernel
theorem tyX0_ok : ∀ k, k < 5 → parseFieldDescriptor (TX0 k).2.2.1 = some (tyX0 k) := by decide +kernel
abbrev cX0_init : ByteArray := prog_2_method_1_code
def yX0_init : MethodName := ⟨RX0, "<init>", "()V"⟩
abbrev cX0_has : ByteArray := prog_2_method_2_code
def yX0_has : MethodName := ⟨RX0, "has", "(I)Z"⟩
abbrev cX0_full : ByteArray := prog_2_method_3_code
def yX0_full : MethodName := ⟨RX0, "full", "()Z"⟩
abbrev cX0_add : ByteArray := prog_2_method_4_code
def yX0_add : MethodName := ⟨RX0, "add", "(I)I"⟩
abbrev cX0_tell : ByteArray := prog_2_method_5_code
def yX0_tell : MethodName := ⟨RX0, "tell", "(II)I"⟩
abbrev cX0_burning : ByteArray := prog_2_method_6_code
def yX0_burning : MethodName := ⟨RX0, "burning", "()I"⟩
abbrev cX0_burn : ByteArray := prog_2_method_7_code
def yX0_burn : MethodName := ⟨RX0, "burn", "(I)V"⟩
abbrev cX0_burnOne : ByteArray := prog_2_method_8_code
def yX0_burnOne : MethodName := ⟨RX0, "burnOne", "(II)V"⟩
abbrev cX0_copyOf : ByteArray := prog_2_method_9_code
def yX0_copyOf : MethodName := ⟨RX0, "copyOf", "(LAlumWorks$Clamps;)V"⟩
def RX1 : String := "AlumWorks$Liquors"
def TX1 : u_T := fun k => match k with
  | 0 => ("AlumWorks$Liquors", "water", "[I", true)
  | 1 => ("AlumWorks$Liquors", "alum", "[I", true)
  | 2 => ("AlumWorks$Liquors", "boils", "[Z", true)
  | 3 => ("AlumWorks$Liquors", "most", "I", true)
  | _ => ("AlumWorks$Liquors", "many", "I", false)
def tyX1 : Nat → FieldType := fun k => match k with
  | 0 => .array .int
  | 1 => .array .int
  | 2 => .array .boolean
  | 3 => .int
  | _ => .int
abbrev wsX10 : List Cond := u_ws RX1 TX1 5
theorem nmX1 : ∀ a, a < 5 → ∀ b, b < 5 → a ≠ b → (TX1 a).2.1 ≠ (TX1 b).2.1 := by decide +kernel
theorem tyX1_ok : ∀ k, k < 5 → parseFieldDescriptor (TX1 k).2.2.1 = some (tyX1 k) := by decide +kernel
abbrev cX1_init : ByteArray := prog_3_method_1_code
def yX1_init : MethodName := ⟨RX1, "<init>", "(I)V"⟩
abbrev cX1_has : ByteArray := prog_3_method_2_code
def yX1_has : MethodName := ⟨RX1, "has", "(I)Z"⟩
abbrev cX1_full : ByteArray := prog_3_method_3_code
def yX1_full : MethodName := ⟨RX1, "full", "()Z"⟩
abbrev cX1_add : ByteArray := prog_3_method_4_code
def yX1_add : MethodName := ⟨RX1, "add", "(I)I"⟩
abbrev cX1_empty : ByteArray := prog_3_method_5_code
def yX1_empty : MethodName := ⟨RX1, "empty", "(I)V"⟩
abbrev cX1_strength : ByteArray := prog_3_method_6_code
def yX1_strength : MethodName := ⟨RX1, "strength", "(I)I"⟩
abbrev cX1_egg : ByteArray := prog_3_method_7_code
def yX1_egg : MethodName := ⟨RX1, "egg", "(I)I"⟩
abbrev cX1_tell : ByteArray := prog_3_method_8_code
def yX1_tell : MethodName := ⟨RX1, "tell", "(II)I"⟩
abbrev cX1_allAlum : ByteArray := prog_3_method_9_code
def yX1_allAlum : MethodName := ⟨RX1, "allAlum", "()I"⟩
abbrev cX1_filled : ByteArray := prog_3_method_10_code
def yX1_filled : MethodName := ⟨RX1, "filled", "()I"⟩
abbrev cX1_strengths : ByteArray := prog_3_method_11_code
def yX1_strengths : MethodName := ⟨RX1, "strengths", "()I"⟩
abbrev cX1_takeWeather : ByteArray := prog_3_method_12_code
def yX1_takeWeather : MethodName := ⟨RX1, "takeWeather", "(I)V"⟩
abbrev cX1_copyOf : ByteArray := prog_3_method_13_code
def yX1_copyOf : MethodName := ⟨RX1, "copyOf", "(LAlumWorks$Liquors;)V"⟩
def RX2 : String := "AlumWorks$State"
def TX2 : u_T := fun k => match k with
  | 0 => ("AlumWorks$State", "clamps", "LAlumWorks$Clamps;", true)
  | 1 => ("AlumWorks$State", "pits", "LAlumWorks$Liquors;", true)
  | 2 => ("AlumWorks$State", "pans", "LAlumWorks$Liquors;", true)
  | 3 => ("AlumWorks$State", "day", "I", false)
  | 4 => ("AlumWorks$State", "coal", "I", false)
  | 5 => ("AlumWorks$State", "barrels", "I", false)
  | 6 => ("AlumWorks$State", "fine", "I", false)
  | 7 => ("AlumWorks$State", "coarse", "I", false)
  | 8 => ("AlumWorks$State", "coins", "I", false)
  | _ => ("AlumWorks$State", "shipped", "I", false)
def tyX2 : Nat → FieldType := fun k => match k with
  | 0 => .object "AlumWorks$Clamps"
  | 1 => .object "AlumWorks$Liquors"
  | 2 => .object "AlumWorks$Liquors"
  | 3 => .int
  | 4 => .int
  | 5 => .int
  | 6 => .int
  | 7 => .int
  | 8 => .int
  | _ => .int
abbrev wsX20 : List Cond := u_ws RX2 TX2 10
theorem nmX2 : ∀ a, a < 10 → ∀ b, b < 10 → a ≠ b → (TX2 a).2.1 ≠ (TX2 b).2.1 := by decide +kernel
theorem tyX2_ok : ∀ k, k < 10 → parseFieldDescriptor (TX2 k).2.2.1 = some (tyX2 k) := by decide +kernel
abbrev cX2_init : ByteArray := prog_4_method_1_code
def yX2_init : MethodName := ⟨RX2, "<init>", "()V"⟩
abbrev cX2_copyOf : ByteArray := prog_4_method_2_code
def yX2_copyOf : MethodName := ⟨RX2, "copyOf", "(LAlumWorks$State;)V"⟩
abbrev cX2_letDayGo : ByteArray := prog_4_method_3_code
def yX2_letDayGo : MethodName := ⟨RX2, "letDayGo", "(II)V"⟩
abbrev cX2_boilPans : ByteArray := prog_4_method_4_code
def yX2_boilPans : MethodName := ⟨RX2, "boilPans", "()V"⟩
abbrev cX2_loadShip : ByteArray := prog_4_method_5_code
def yX2_loadShip : MethodName := ⟨RX2, "loadShip", "(I)V"⟩
def RX3 : String := "AlumWorks"
def TX3 : u_T := fun k => match k with
  | 0 => ("AlumWorks", "rains", "[I", true)
  | 1 => ("AlumWorks", "ships", "[I", true)
  | 2 => ("AlumWorks", "now", "LAlumWorks$State;", true)
  | _ => ("AlumWorks", "ahead", "LAlumWorks$State;", true)
def tyX3 : Nat → FieldType := fun k => match k with
  | 0 => .array .int
  | 1 => .array .int
  | 2 => .object "AlumWorks$State"
  | _ => .object "AlumWorks$State"
abbrev wsX30 : List Cond := u_ws RX3 TX3 4
theorem nmX3 : ∀ a, a < 4 → ∀ b, b < 4 → a ≠ b → (TX3 a).2.1 ≠ (TX3 b).2.1 := by decide +kernel
theorem tyX3_ok : ∀ k, k < 4 → parseFieldDescriptor (TX3 k).2.2.1 = some (tyX3 k) := by decide +kernel
abbrev cX3_init : ByteArray := prog_1_method_1_code
def yX3_init : MethodName := ⟨RX3, "<init>", "()V"⟩
abbrev cX3_bring : ByteArray := prog_1_method_2_code
def yX3_bring : MethodName := ⟨RX3, "bring", "(II)I"⟩
abbrev cX3_setRain : ByteArray := prog_1_method_3_code
def yX3_setRain : MethodName := ⟨RX3, "setRain", "(II)I"⟩
abbrev cX3_setShip : ByteArray := prog_1_method_4_code
def yX3_setShip : MethodName := ⟨RX3, "setShip", "(II)I"⟩
abbrev cX3_pile : ByteArray := prog_1_method_5_code
def yX3_pile : MethodName := ⟨RX3, "pile", "(I)I"⟩
abbrev cX3_light : ByteArray := prog_1_method_6_code
def yX3_light : MethodName := ⟨RX3, "light", "(II)I"⟩
abbrev cX3_dig : ByteArray := prog_1_method_7_code
def yX3_dig : MethodName := ⟨RX3, "dig", "(I)I"⟩
abbrev cX3_steep : ByteArray := prog_1_method_8_code
def yX3_steep : MethodName := ⟨RX3, "steep", "(II)I"⟩
abbrev cX3_pan : ByteArray := prog_1_method_9_code
def yX3_pan : MethodName := ⟨RX3, "pan", "()I"⟩
abbrev cX3_draw : ByteArray := prog_1_method_10_code
def yX3_draw : MethodName := ⟨RX3, "draw", "(III)I"⟩
abbrev cX3_boil : ByteArray := prog_1_method_11_code
def yX3_boil : MethodName := ⟨RX3, "boil", "(I)Z"⟩
abbrev cX3_pour : ByteArray := prog_1_method_12_code
def yX3_pour : MethodName := ⟨RX3, "pour", "(II)I"⟩
abbrev cX3_clamp : ByteArray := prog_1_method_13_code
def yX3_clamp : MethodName := ⟨RX3, "clamp", "(II)I"⟩
abbrev cX3_pit : ByteArray := prog_1_method_14_code
def yX3_pit : MethodName := ⟨RX3, "pit", "(II)I"⟩
abbrev cX3_about : ByteArray := prog_1_method_15_code
def yX3_about : MethodName := ⟨RX3, "about", "(II)I"⟩
abbrev cX3_count : ByteArray := prog_1_method_16_code
def yX3_count : MethodName := ⟨RX3, "count", "(I)I"⟩
abbrev cX3_pass : ByteArray := prog_1_method_17_code
def yX3_pass : MethodName := ⟨RX3, "pass", "(I)I"⟩
abbrev cX3_right : ByteArray := prog_1_method_18_code
def yX3_right : MethodName := ⟨RX3, "right", "(I)I"⟩
abbrev cX3_foresee : ByteArray := prog_1_method_19_code
def yX3_foresee : MethodName := ⟨RX3, "foresee", "(II)I"⟩
abbrev cX3_barrels : ByteArray := prog_1_method_20_code
def yX3_barrels : MethodName := ⟨RX3, "barrels", "(I)I"⟩
abbrev cX3_dry : ByteArray := prog_1_method_21_code
def yX3_dry : MethodName := ⟨RX3, "dry", "(I)I"⟩
abbrev cX3_mean : ByteArray := prog_1_method_22_code
def yX3_mean : MethodName := ⟨RX3, "mean", "()D"⟩
abbrev cX3_within : ByteArray := prog_1_method_24_code
def yX3_within : MethodName := ⟨RX3, "within", "(III)Z"⟩
abbrev cX3_strengthOf : ByteArray := prog_1_method_25_code
def yX3_strengthOf : MethodName := ⟨RX3, "strengthOf", "(II)I"⟩
abbrev cX3_eggBy : ByteArray := prog_1_method_26_code
def yX3_eggBy : MethodName := ⟨RX3, "eggBy", "(I)I"⟩
abbrev cX3_crystalsByBarrel : ByteArray := prog_1_method_27_code
def yX3_crystalsByBarrel : MethodName := ⟨RX3, "crystalsByBarrel", "(I)I"⟩
abbrev cX3_crystalsOf : ByteArray := prog_1_method_28_code
def yX3_crystalsOf : MethodName := ⟨RX3, "crystalsOf", "(II)I"⟩
abbrev cX3_rainOf : ByteArray := prog_1_method_29_code
def yX3_rainOf : MethodName := ⟨RX3, "rainOf", "(I)I"⟩
abbrev cX3_shipOf : ByteArray := prog_1_method_30_code
def yX3_shipOf : MethodName := ⟨RX3, "shipOf", "(I)I"⟩
abbrev cX3_goOn : ByteArray := prog_1_method_31_code
def yX3_goOn : MethodName := ⟨RX3, "goOn", "(LAlumWorks$State;I)V"⟩
abbrev cX3_countIn : ByteArray := prog_1_method_32_code
def yX3_countIn : MethodName := ⟨RX3, "countIn", "(LAlumWorks$State;I)I"⟩
def RX4 : String := "AlumWorksLaw$Sim"
def TX4 : u_T := fun k => match k with
  | 0 => ("AlumWorksLaw$Sim", "rain", "[I", false)
  | 1 => ("AlumWorksLaw$Sim", "ship", "[I", false)
  | 2 => ("AlumWorksLaw$Sim", "clamps", "[[I", false)
  | 3 => ("AlumWorksLaw$Sim", "pits", "[[I", false)
  | 4 => ("AlumWorksLaw$Sim", "pans", "[[I", false)
  | 5 => ("AlumWorksLaw$Sim", "day", "I", false)
  | 6 => ("AlumWorksLaw$Sim", "coal", "I", false)
  | 7 => ("AlumWorksLaw$Sim", "urine", "I", false)
  | 8 => ("AlumWorksLaw$Sim", "fine", "I", false)
  | 9 => ("AlumWorksLaw$Sim", "coarse", "I", false)
  | 10 => ("AlumWorksLaw$Sim", "coins", "I", false)
  | _ => ("AlumWorksLaw$Sim", "took", "I", false)
def tyX4 : Nat → FieldType := fun k => match k with
  | 0 => .array .int
  | 1 => .array .int
  | 2 => .array (.array .int)
  | 3 => .array (.array .int)
  | 4 => .array (.array .int)
  | 5 => .int
  | 6 => .int
  | 7 => .int
  | 8 => .int
  | 9 => .int
  | 10 => .int
  | _ => .int
abbrev wsX40 : List Cond := u_ws RX4 TX4 12
theorem nmX4 : ∀ a, a < 12 → ∀ b, b < 12 → a ≠ b → (TX4 a).2.1 ≠ (TX4 b).2.1 := by decide +kernel
theorem tyX4_ok : ∀ k, k < 12 → parseFieldDescriptor (TX4 k).2.2.1 = some (tyX4 k) := by decide +kernel
abbrev cX4_init : ByteArray := prog_6_method_1_code
def yX4_init : MethodName := ⟨RX4, "<init>", "()V"⟩
abbrev cX4_more : ByteArray := prog_6_method_2_code
def yX4_more : MethodName := ⟨RX4, "more", "([[I[I)[[I"⟩
abbrev cX4_pass : ByteArray := prog_6_method_5_code
def yX4_pass : MethodName := ⟨RX4, "pass", "()I"⟩
abbrev cX4_strength : ByteArray := prog_6_method_6_code
def yX4_strength : MethodName := ⟨RX4, "strength", "([I)I"⟩
abbrev cX4_egg : ByteArray := prog_6_method_7_code
def yX4_egg : MethodName := ⟨RX4, "egg", "([I)I"⟩
abbrev cX4_comes : ByteArray := prog_6_method_8_code
def yX4_comes : MethodName := ⟨RX4, "comes", "([II)I"⟩
abbrev cX4_burning : ByteArray := prog_6_method_9_code
def yX4_burning : MethodName := ⟨RX4, "burning", "()I"⟩
abbrev cX4_isSame : ByteArray := prog_6_method_10_code
def yX4_isSame : MethodName := ⟨RX4, "isSame", "(LAlumWorks;)Z"⟩
def RX5 : String := "AlumWorksModel"
def TX5 : u_T := fun k => match k with
  | _ => ("", "", "", false)
def tyX5 : Nat → FieldType := fun k => match k with
  | _ => .int
abbrev wsX50 : List Cond := u_ws RX5 TX5 0
theorem nmX5 : ∀ a, a < 0 → ∀ b, b < 0 → a ≠ b → (TX5 a).2.1 ≠ (TX5 b).2.1 := by decide +kernel
theorem tyX5_ok : ∀ k, k < 0 → parseFieldDescriptor (TX5 k).2.2.1 = some (tyX5 k) := by decide +kernel
def RJ9 : String := "java/lang/Math"
def TJ9 : u_T := fun k => match k with
  | _ => ("", "", "", false)
def tyJ9 : Nat → FieldType := fun k => match k with
  | _ => .int
abbrev wsJ90 : List Cond := u_ws RJ9 TJ9 0
theorem nmJ9 : ∀ a, a < 0 → ∀ b, b < 0 → a ≠ b → (TJ9 a).2.1 ≠ (TJ9 b).2.1 := by decide +kernel
theorem tyJ9_ok : ∀ k, k < 0 → parseFieldDescriptor (TJ9 k).2.2.1 = some (tyJ9 k) := by decide +kernel
abbrev cJ9_floorMod_7cf53 : ByteArray := prog_12_method_50_code
def yJ9_floorMod_7cf53 : MethodName := ⟨RJ9, "floorMod", "(II)I"⟩
abbrev cJ9_max_7cf53 : ByteArray := prog_12_method_65_code
def yJ9_max_7cf53 : MethodName := ⟨RJ9, "max", "(II)I"⟩
abbrev cJ9_min_7cf53 : ByteArray := prog_12_method_69_code
def yJ9_min_7cf53 : MethodName := ⟨RJ9, "min", "(II)I"⟩
def RJ0 : String := "java/lang/String"
def TJ0 : u_T := fun k => match k with
  | _ => ("", "", "", false)
def tyJ0 : Nat → FieldType := fun k => match k with
  | _ => .int
abbrev wsJ00 : List Cond := u_ws RJ0 TJ0 0
theorem nmJ0 : ∀ a, a < 0 → ∀ b, b < 0 → a ≠ b → (TJ0 a).2.1 ≠ (TJ0 b).2.1 := by decide +kernel
theorem tyJ0_ok : ∀ k, k < 0 → parseFieldDescriptor (TJ0 k).2.2.1 = some (tyJ0 k) := by decide +kernel
def RL : String := "AlumWorksLaw"
abbrev cL_below : ByteArray := method_2_code
def yL_below : MethodName := ⟨RL, "below", "(II)I"⟩
abbrev cL_cell : ByteArray := method_3_code
def yL_cell : MethodName := ⟨RL, "cell", "([II)I"⟩
abbrev cL_act : ByteArray := method_4_code
def yL_act : MethodName := ⟨RL, "act", "(LAlumWorks;LAlumWorksLaw$Sim;I)Z"⟩
abbrev cL_build : ByteArray := method_5_code
def yL_build : MethodName := ⟨RL, "build", "(LAlumWorks;[I)LAlumWorksLaw$Sim;"⟩
abbrev cL_law : ByteArray := code
def yL_law : MethodName := ⟨RL, "law", "([I)Z"⟩
theorem dX0_init_0 : decode cX0_init 0 = .ok (.aload_n 0, 1) := by decide +kernel
theorem dX0_init_1 : decode cX0_init 1 = .ok (.invokespecial 3, 3) := by decide +kernel
theorem dX0_init_4 : decode cX0_init 4 = .ok (.aload_n 0, 1) := by decide +kernel
theorem dX0_init_5 : decode cX0_init 5 = .ok (.iconst 4, 1) := by decide +kernel
theorem dX0_init_6 : decode cX0_init 6 = .ok (.newarray .int, 2) := by decide +kernel
theorem dX0_init_8 : decode cX0_init 8 = .ok (.putfield 9, 3) := by decide +kernel
theorem dX0_init_11 : decode cX0_init 11 = .ok (.aload_n 0, 1) := by decide +kernel
theorem dX0_init_12 : decode cX0_init 12 = .ok (.iconst 4, 1) := by decide +kernel
theorem dX0_init_13 : decode cX0_init 13 = .ok (.newarray .int, 2) := by decide +kernel
theorem dX0_init_15 : decode cX0_init 15 = .ok (.putfield 15, 3) := by decide +kernel
theorem dX0_init_18 : decode cX0_init 18 = .ok (.aload_n 0, 1) := by decide +kernel
theorem dX0_init_19 : decode cX0_init 19 = .ok (.iconst 4, 1) := by decide +kernel
theorem dX0_init_20 : decode cX0_init 20 = .ok (.newarray .int, 2) := by decide +kernel
theorem dX0_init_22 : decode cX0_init 22 = .ok (.putfield 18, 3) := by decide +kernel
theorem dX0_init_25 : decode cX0_init 25 = .ok (.aload_n 0, 1) := by decide +kernel
theorem dX0_init_26 : decode cX0_init 26 = .ok (.iconst 4, 1) := by decide +kernel
theorem dX0_init_27 : decode cX0_init 27 = .ok (.newarray .boolean, 2) := by decide +kernel
theorem dX0_init_29 : decode cX0_init 29 = .ok (.putfield 21, 3) := by decide +kernel
theorem dX0_init_32 : decode cX0_init 32 = .ok (.aload_n 0, 1) := by decide +kernel
theorem dX0_init_33 : decode cX0_init 33 = .ok (.iconst 0, 1) := by decide +kernel
theorem dX0_init_34 : decode cX0_init 34 = .ok (.putfield 25, 3) := by decide +kernel
theorem dX0_init_37 : decode cX0_init 37 = .ok (.return_, 1) := by decide +kernel
theorem dX0_has_0 : decode cX0_has 0 = .ok (.iload_n 1, 1) := by decide +kernel
theorem dX0_has_1 : decode cX0_has 1 = .ok (.ifCond .lt 15, 3) := by decide +kernel
theorem dX0_has_4 : decode cX0_has 4 = .ok (.iload_n 1, 1) := by decide +kernel
theorem dX0_has_5 : decode cX0_has 5 = .ok (.aload_n 0, 1) := by decide +kernel
theorem dX0_has_6 : decode cX0_has 6 = .ok (.getfield 25, 3) := by decide +kernel
theorem dX0_has_9 : decode cX0_has 9 = .ok (.if_icmp .ge 7, 3) := by decide +kernel
theorem dX0_has_12 : decode cX0_has 12 = .ok (.iconst 1, 1) := by decide +kernel
theorem dX0_has_13 : decode cX0_has 13 = .ok (.goto 4, 3) := by decide +kernel
theorem dX0_has_16 : decode cX0_has 16 = .ok (.iconst 0, 1) := by decide +kernel
theorem dX0_has_17 : decode cX0_has 17 = .ok (.ireturn, 1) := by decide +kernel
theorem dX0_full_0 : decode cX0_full 0 = .ok (.aload_n 0, 1) := by decide +kernel
theorem dX0_full_1 : decode cX0_full 1 = .ok (.getfield 25, 3) := by decide +kernel
theorem dX0_full_4 : decode cX0_full 4 = .ok (.iconst 4, 1) := by decide +kernel
theorem dX0_full_5 : decode cX0_full 5 = .ok (.if_icmp .lt 7, 3) := by decide +kernel
theorem dX0_full_8 : decode cX0_full 8 = .ok (.iconst 1, 1) := by decide +kernel
theorem dX0_full_9 : decode cX0_full 9 = .ok (.goto 4, 3) := by decide +kernel
theorem dX0_full_12 : decode cX0_full 12 = .ok (.iconst 0, 1) := by decide +kernel
theorem dX0_full_13 : decode cX0_full 13 = .ok (.ireturn, 1) := by decide +kernel
theorem dX0_add_0 : decode cX0_add 0 = .ok (.aload_n 0, 1) := by decide +kernel
theorem dX0_add_1 : decode cX0_add 1 = .ok (.getfield 25, 3) := by decide +kernel
theorem dX0_add_4 : decode cX0_add 4 = .ok (.istore_n 2, 1) := by decide +kernel
theorem dX0_add_5 : decode cX0_add 5 = .ok (.aload_n 0, 1) := by decide +kernel
theorem dX0_add_6 : decode cX0_add 6 = .ok (.getfield 9, 3) := by decide +kernel
theorem dX0_add_9 : decode cX0_add 9 = .ok (.iload_n 2, 1) := by decide +kernel
theorem dX0_add_10 : decode cX0_add 10 = .ok (.iload_n 1, 1) := by decide +kernel
theorem dX0_add_11 : decode cX0_add 11 = .ok (.iastore, 1) := by decide +kernel
theorem dX0_add_12 : decode cX0_add 12 = .ok (.aload_n 0, 1) := by decide +kernel
theorem dX0_add_13 : decode cX0_add 13 = .ok (.dup, 1) := by decide +kernel
theorem dX0_add_14 : decode cX0_add 14 = .ok (.getfield 25, 3) := by decide +kernel
theorem dX0_add_17 : decode cX0_add 17 = .ok (.iconst 1, 1) := by decide +kernel
theorem dX0_add_18 : decode cX0_add 18 = .ok (.iadd, 1) := by decide +kernel
theorem dX0_add_19 : decode cX0_add 19 = .ok (.putfield 25, 3) := by decide +kernel
theorem dX0_add_22 : decode cX0_add 22 = .ok (.iload_n 2, 1) := by decide +kernel
theorem dX0_add_23 : decode cX0_add 23 = .ok (.ireturn, 1) := by decide +kernel
theorem dX0_tell_0 : decode cX0_tell 0 = .ok (.iload_n 2, 1) := by decide +kernel
theorem dX0_tell_1 : decode cX0_tell 1 = .ok (.tableswitch 48 0 2 #[27, 34, 41], 27) := by decide +kernel
theorem dX0_tell_28 : decode cX0_tell 28 = .ok (.aload_n 0, 1) := by decide +kernel
theorem dX0_tell_29 : decode cX0_tell 29 = .ok (.getfield 9, 3) := by decide +kernel
theorem dX0_tell_32 : decode cX0_tell 32 = .ok (.iload_n 1, 1) := by decide +kernel
theorem dX0_tell_33 : decode cX0_tell 33 = .ok (.iaload, 1) := by decide +kernel
theorem dX0_tell_34 : decode cX0_tell 34 = .ok (.ireturn, 1) := by decide +kernel
theorem dX0_tell_35 : decode cX0_tell 35 = .ok (.aload_n 0, 1) := by decide +kernel
theorem dX0_tell_36 : decode cX0_tell 36 = .ok (.getfield 15, 3) := by decide +kernel
theorem dX0_tell_39 : decode cX0_tell 39 = .ok (.iload_n 1, 1) := by decide +kernel
theorem dX0_tell_40 : decode cX0_tell 40 = .ok (.iaload, 1) := by decide +kernel
theorem dX0_tell_41 : decode cX0_tell 41 = .ok (.ireturn, 1) := by decide +kernel
theorem dX0_tell_42 : decode cX0_tell 42 = .ok (.aload_n 0, 1) := by decide +kernel
theorem dX0_tell_43 : decode cX0_tell 43 = .ok (.getfield 18, 3) := by decide +kernel
theorem dX0_tell_46 : decode cX0_tell 46 = .ok (.iload_n 1, 1) := by decide +kernel
theorem dX0_tell_47 : decode cX0_tell 47 = .ok (.iaload, 1) := by decide +kernel
theorem dX0_tell_48 : decode cX0_tell 48 = .ok (.ireturn, 1) := by decide +kernel
theorem dX0_tell_49 : decode cX0_tell 49 = .ok (.aload_n 0, 1) := by decide +kernel
theorem dX0_tell_50 : decode cX0_tell 50 = .ok (.getfield 21, 3) := by decide +kernel
theorem dX0_tell_53 : decode cX0_tell 53 = .ok (.iload_n 1, 1) := by decide +kernel
theorem dX0_tell_54 : decode cX0_tell 54 = .ok (.baload, 1) := by decide +kernel
theorem dX0_tell_55 : decode cX0_tell 55 = .ok (.ifCond .eq 7, 3) := by decide +kernel
theorem dX0_tell_58 : decode cX0_tell 58 = .ok (.iconst 1, 1) := by decide +kernel
theorem dX0_tell_59 : decode cX0_tell 59 = .ok (.goto 4, 3) := by decide +kernel
theorem dX0_tell_62 : decode cX0_tell 62 = .ok (.iconst 0, 1) := by decide +kernel
theorem dX0_tell_63 : decode cX0_tell 63 = .ok (.ireturn, 1) := by decide +kernel
theorem dX0_burning_0 : decode cX0_burning 0 = .ok (.iconst 0, 1) := by decide +kernel
theorem dX0_burning_1 : decode cX0_burning 1 = .ok (.istore_n 1, 1) := by decide +kernel
theorem dX0_burning_2 : decode cX0_burning 2 = .ok (.iconst 0, 1) := by decide +kernel
theorem dX0_burning_3 : decode cX0_burning 3 = .ok (.istore_n 2, 1) := by decide +kernel
theorem dX0_burning_4 : decode cX0_burning 4 = .ok (.iload_n 2, 1) := by decide +kernel
theorem dX0_burning_5 : decode cX0_burning 5 = .ok (.aload_n 0, 1) := by decide +kernel
theorem dX0_burning_6 : decode cX0_burning 6 = .ok (.getfield 25, 3) := by decide +kernel
theorem dX0_burning_9 : decode cX0_burning 9 = .ok (.if_icmp .ge 21, 3) := by decide +kernel
theorem dX0_burning_12 : decode cX0_burning 12 = .ok (.aload_n 0, 1) := by decide +kernel
theorem dX0_burning_13 : decode cX0_burning 13 = .ok (.getfield 21, 3) := by decide +kernel
theorem dX0_burning_16 : decode cX0_burning 16 = .ok (.iload_n 2, 1) := by decide +kernel
theorem dX0_burning_17 : decode cX0_burning 17 = .ok (.baload, 1) := by decide +kernel
theorem dX0_burning_18 : decode cX0_burning 18 = .ok (.ifCond .eq 6, 3) := by decide +kernel
theorem dX0_burning_21 : decode cX0_burning 21 = .ok (.iinc 1 1, 3) := by decide +kernel
theorem dX0_burning_24 : decode cX0_burning 24 = .ok (.iinc 2 1, 3) := by decide +kernel
theorem dX0_burning_27 : decode cX0_burning 27 = .ok (.goto (-23), 3) := by decide +kernel
theorem dX0_burning_30 : decode cX0_burning 30 = .ok (.iload_n 1, 1) := by decide +kernel
theorem dX0_burning_31 : decode cX0_burning 31 = .ok (.ireturn, 1) := by decide +kernel
theorem dX0_burn_0 : decode cX0_burn 0 = .ok (.iload_n 1, 1) := by decide +kernel
theorem dX0_burn_1 : decode cX0_burn 1 = .ok (.iconst 5, 1) := by decide +kernel
theorem dX0_burn_2 : decode cX0_burn 2 = .ok (.if_icmp .lt 7, 3) := by decide +kernel
theorem dX0_burn_5 : decode cX0_burn 5 = .ok (.iconst 4, 1) := by decide +kernel
theorem dX0_burn_6 : decode cX0_burn 6 = .ok (.goto 5, 3) := by decide +kernel
theorem dX0_burn_9 : decode cX0_burn 9 = .ok (.bipush 8, 2) := by decide +kernel
theorem dX0_burn_11 : decode cX0_burn 11 = .ok (.istore_n 2, 1) := by decide +kernel
theorem dX0_burn_12 : decode cX0_burn 12 = .ok (.iconst 0, 1) := by decide +kernel
theorem dX0_burn_13 : decode cX0_burn 13 = .ok (.istore_n 3, 1) := by decide +kernel
theorem dX0_burn_14 : decode cX0_burn 14 = .ok (.iload_n 3, 1) := by decide +kernel
theorem dX0_burn_15 : decode cX0_burn 15 = .ok (.aload_n 0, 1) := by decide +kernel
theorem dX0_burn_16 : decode cX0_burn 16 = .ok (.getfield 25, 3) := by decide +kernel
theorem dX0_burn_19 : decode cX0_burn 19 = .ok (.if_icmp .ge 24, 3) := by decide +kernel
theorem dX0_burn_22 : decode cX0_burn 22 = .ok (.aload_n 0, 1) := by decide +kernel
theorem dX0_burn_23 : decode cX0_burn 23 = .ok (.getfield 21, 3) := by decide +kernel
theorem dX0_burn_26 : decode cX0_burn 26 = .ok (.iload_n 3, 1) := by decide +kernel
theorem dX0_burn_27 : decode cX0_burn 27 = .ok (.baload, 1) := by decide +kernel
theorem dX0_burn_28 : decode cX0_burn 28 = .ok (.ifCond .eq 9, 3) := by decide +kernel
theorem dX0_burn_31 : decode cX0_burn 31 = .ok (.aload_n 0, 1) := by decide +kernel
theorem dX0_burn_32 : decode cX0_burn 32 = .ok (.iload_n 3, 1) := by decide +kernel
theorem dX0_burn_33 : decode cX0_burn 33 = .ok (.iload_n 2, 1) := by decide +kernel
theorem dX0_burn_34 : decode cX0_burn 34 = .ok (.invokevirtual 29, 3) := by decide +kernel
theorem dX0_burn_37 : decode cX0_burn 37 = .ok (.iinc 3 1, 3) := by decide +kernel
theorem dX0_burn_40 : decode cX0_burn 40 = .ok (.goto (-26), 3) := by decide +kernel
theorem dX0_burn_43 : decode cX0_burn 43 = .ok (.return_, 1) := by decide +kernel
theorem dX0_burnOne_0 : decode cX0_burnOne 0 = .ok (.iload_n 2, 1) := by decide +kernel
theorem dX0_burnOne_1 : decode cX0_burnOne 1 = .ok (.aload_n 0, 1) := by decide +kernel
theorem dX0_burnOne_2 : decode cX0_burnOne 2 = .ok (.getfield 9, 3) := by decide +kernel
theorem dX0_burnOne_5 : decode cX0_burnOne 5 = .ok (.iload_n 1, 1) := by decide +kernel
theorem dX0_burnOne_6 : decode cX0_burnOne 6 = .ok (.iaload, 1) := by decide +kernel
theorem dX0_burnOne_7 : decode cX0_burnOne 7 = .ok (.invokestatic 33, 3) := by decide +kernel
theorem dX0_burnOne_10 : decode cX0_burnOne 10 = .ok (.istore_n 3, 1) := by decide +kernel
theorem dX0_burnOne_11 : decode cX0_burnOne 11 = .ok (.aload_n 0, 1) := by decide +kernel
theorem dX0_burnOne_12 : decode cX0_burnOne 12 = .ok (.getfield 15, 3) := by decide +kernel
theorem dX0_burnOne_15 : decode cX0_burnOne 15 = .ok (.iload_n 1, 1) := by decide +kernel
theorem dX0_burnOne_16 : decode cX0_burnOne 16 = .ok (.iconst 0, 1) := by decide +kernel
theorem dX0_burnOne_17 : decode cX0_burnOne 17 = .ok (.aload_n 0, 1) := by decide +kernel
theorem dX0_burnOne_18 : decode cX0_burnOne 18 = .ok (.getfield 15, 3) := by decide +kernel
theorem dX0_burnOne_21 : decode cX0_burnOne 21 = .ok (.iload_n 1, 1) := by decide +kernel
theorem dX0_burnOne_22 : decode cX0_burnOne 22 = .ok (.iaload, 1) := by decide +kernel
theorem dX0_burnOne_23 : decode cX0_burnOne 23 = .ok (.iconst 2, 1) := by decide +kernel
theorem dX0_burnOne_24 : decode cX0_burnOne 24 = .ok (.isub, 1) := by decide +kernel
theorem dX0_burnOne_25 : decode cX0_burnOne 25 = .ok (.invokestatic 39, 3) := by decide +kernel
theorem dX0_burnOne_28 : decode cX0_burnOne 28 = .ok (.iastore, 1) := by decide +kernel
theorem dX0_burnOne_29 : decode cX0_burnOne 29 = .ok (.aload_n 0, 1) := by decide +kernel
theorem dX0_burnOne_30 : decode cX0_burnOne 30 = .ok (.getfield 9, 3) := by decide +kernel
theorem dX0_burnOne_33 : decode cX0_burnOne 33 = .ok (.iload_n 1, 1) := by decide +kernel
theorem dX0_burnOne_34 : decode cX0_burnOne 34 = .ok (.dup2, 1) := by decide +kernel
theorem dX0_burnOne_35 : decode cX0_burnOne 35 = .ok (.iaload, 1) := by decide +kernel
theorem dX0_burnOne_36 : decode cX0_burnOne 36 = .ok (.iload_n 3, 1) := by decide +kernel
theorem dX0_burnOne_37 : decode cX0_burnOne 37 = .ok (.isub, 1) := by decide +kernel
theorem dX0_burnOne_38 : decode cX0_burnOne 38 = .ok (.iastore, 1) := by decide +kernel
theorem dX0_burnOne_39 : decode cX0_burnOne 39 = .ok (.aload_n 0, 1) := by decide +kernel
theorem dX0_burnOne_40 : decode cX0_burnOne 40 = .ok (.getfield 18, 3) := by decide +kernel
theorem dX0_burnOne_43 : decode cX0_burnOne 43 = .ok (.iload_n 1, 1) := by decide +kernel
theorem dX0_burnOne_44 : decode cX0_burnOne 44 = .ok (.dup2, 1) := by decide +kernel
theorem dX0_burnOne_45 : decode cX0_burnOne 45 = .ok (.iaload, 1) := by decide +kernel
theorem dX0_burnOne_46 : decode cX0_burnOne 46 = .ok (.iload_n 3, 1) := by decide +kernel
theorem dX0_burnOne_47 : decode cX0_burnOne 47 = .ok (.iadd, 1) := by decide +kernel
theorem dX0_burnOne_48 : decode cX0_burnOne 48 = .ok (.iastore, 1) := by decide +kernel
theorem dX0_burnOne_49 : decode cX0_burnOne 49 = .ok (.aload_n 0, 1) := by decide +kernel
theorem dX0_burnOne_50 : decode cX0_burnOne 50 = .ok (.getfield 21, 3) := by decide +kernel
theorem dX0_burnOne_53 : decode cX0_burnOne 53 = .ok (.iload_n 1, 1) := by decide +kernel
theorem dX0_burnOne_54 : decode cX0_burnOne 54 = .ok (.aload_n 0, 1) := by decide +kernel
theorem dX0_burnOne_55 : decode cX0_burnOne 55 = .ok (.getfield 15, 3) := by decide +kernel
theorem dX0_burnOne_58 : decode cX0_burnOne 58 = .ok (.iload_n 1, 1) := by decide +kernel
theorem dX0_burnOne_59 : decode cX0_burnOne 59 = .ok (.iaload, 1) := by decide +kernel
theorem dX0_burnOne_60 : decode cX0_burnOne 60 = .ok (.ifCond .le 16, 3) := by decide +kernel
theorem dX0_burnOne_63 : decode cX0_burnOne 63 = .ok (.aload_n 0, 1) := by decide +kernel
theorem dX0_burnOne_64 : decode cX0_burnOne 64 = .ok (.getfield 9, 3) := by decide +kernel
theorem dX0_burnOne_67 : decode cX0_burnOne 67 = .ok (.iload_n 1, 1) := by decide +kernel
theorem dX0_burnOne_68 : decode cX0_burnOne 68 = .ok (.iaload, 1) := by decide +kernel
theorem dX0_burnOne_69 : decode cX0_burnOne 69 = .ok (.ifCond .le 7, 3) := by decide +kernel
theorem dX0_burnOne_72 : decode cX0_burnOne 72 = .ok (.iconst 1, 1) := by decide +kernel
theorem dX0_burnOne_73 : decode cX0_burnOne 73 = .ok (.goto 4, 3) := by decide +kernel
theorem dX0_burnOne_76 : decode cX0_burnOne 76 = .ok (.iconst 0, 1) := by decide +kernel
theorem dX0_burnOne_77 : decode cX0_burnOne 77 = .ok (.bastore, 1) := by decide +kernel
theorem dX0_burnOne_78 : decode cX0_burnOne 78 = .ok (.return_, 1) := by decide +kernel
theorem dX0_copyOf_0 : decode cX0_copyOf 0 = .ok (.aload_n 0, 1) := by decide +kernel
theorem dX0_copyOf_1 : decode cX0_copyOf 1 = .ok (.aload_n 1, 1) := by decide +kernel
theorem dX0_copyOf_2 : decode cX0_copyOf 2 = .ok (.getfield 25, 3) := by decide +kernel
theorem dX0_copyOf_5 : decode cX0_copyOf 5 = .ok (.putfield 25, 3) := by decide +kernel
theorem dX0_copyOf_8 : decode cX0_copyOf 8 = .ok (.iconst 0, 1) := by decide +kernel
theorem dX0_copyOf_9 : decode cX0_copyOf 9 = .ok (.istore_n 2, 1) := by decide +kernel
theorem dX0_copyOf_10 : decode cX0_copyOf 10 = .ok (.iload_n 2, 1) := by decide +kernel
theorem dX0_copyOf_11 : decode cX0_copyOf 11 = .ok (.aload_n 0, 1) := by decide +kernel
theorem dX0_copyOf_12 : decode cX0_copyOf 12 = .ok (.getfield 25, 3) := by decide +kernel
theorem dX0_copyOf_15 : decode cX0_copyOf 15 = .ok (.if_icmp .ge 57, 3) := by decide +kernel
theorem dX0_copyOf_18 : decode cX0_copyOf 18 = .ok (.aload_n 0, 1) := by decide +kernel
theorem dX0_copyOf_19 : decode cX0_copyOf 19 = .ok (.getfield 9, 3) := by decide +kernel
theorem dX0_copyOf_22 : decode cX0_copyOf 22 = .ok (.iload_n 2, 1) := by decide +kernel
theorem dX0_copyOf_23 : decode cX0_copyOf 23 = .ok (.aload_n 1, 1) := by decide +kernel
theorem dX0_copyOf_24 : decode cX0_copyOf 24 = .ok (.getfield 9, 3) := by decide +kernel
theorem dX0_copyOf_27 : decode cX0_copyOf 27 = .ok (.iload_n 2, 1) := by decide +kernel
theorem dX0_copyOf_28 : decode cX0_copyOf 28 = .ok (.iaload, 1) := by decide +kernel
theorem dX0_copyOf_29 : decode cX0_copyOf 29 = .ok (.iastore, 1) := by decide +kernel
theorem dX0_copyOf_30 : decode cX0_copyOf 30 = .ok (.aload_n 0, 1) := by decide +kernel
theorem dX0_copyOf_31 : decode cX0_copyOf 31 = .ok (.getfield 15, 3) := by decide +kernel
theorem dX0_copyOf_34 : decode cX0_copyOf 34 = .ok (.iload_n 2, 1) := by decide +kernel
theorem dX0_copyOf_35 : decode cX0_copyOf 35 = .ok (.aload_n 1, 1) := by decide +kernel
theorem dX0_copyOf_36 : decode cX0_copyOf 36 = .ok (.getfield 15, 3) := by decide +kernel
theorem dX0_copyOf_39 : decode cX0_copyOf 39 = .ok (.iload_n 2, 1) := by decide +kernel
theorem dX0_copyOf_40 : decode cX0_copyOf 40 = .ok (.iaload, 1) := by decide +kernel
theorem dX0_copyOf_41 : decode cX0_copyOf 41 = .ok (.iastore, 1) := by decide +kernel
theorem dX0_copyOf_42 : decode cX0_copyOf 42 = .ok (.aload_n 0, 1) := by decide +kernel
theorem dX0_copyOf_43 : decode cX0_copyOf 43 = .ok (.getfield 18, 3) := by decide +kernel
theorem dX0_copyOf_46 : decode cX0_copyOf 46 = .ok (.iload_n 2, 1) := by decide +kernel
theorem dX0_copyOf_47 : decode cX0_copyOf 47 = .ok (.aload_n 1, 1) := by decide +kernel
theorem dX0_copyOf_48 : decode cX0_copyOf 48 = .ok (.getfield 18, 3) := by decide +kernel
theorem dX0_copyOf_51 : decode cX0_copyOf 51 = .ok (.iload_n 2, 1) := by decide +kernel
theorem dX0_copyOf_52 : decode cX0_copyOf 52 = .ok (.iaload, 1) := by decide +kernel
theorem dX0_copyOf_53 : decode cX0_copyOf 53 = .ok (.iastore, 1) := by decide +kernel
theorem dX0_copyOf_54 : decode cX0_copyOf 54 = .ok (.aload_n 0, 1) := by decide +kernel
theorem dX0_copyOf_55 : decode cX0_copyOf 55 = .ok (.getfield 21, 3) := by decide +kernel
theorem dX0_copyOf_58 : decode cX0_copyOf 58 = .ok (.iload_n 2, 1) := by decide +kernel
theorem dX0_copyOf_59 : decode cX0_copyOf 59 = .ok (.aload_n 1, 1) := by decide +kernel
theorem dX0_copyOf_60 : decode cX0_copyOf 60 = .ok (.getfield 21, 3) := by decide +kernel
theorem dX0_copyOf_63 : decode cX0_copyOf 63 = .ok (.iload_n 2, 1) := by decide +kernel
theorem dX0_copyOf_64 : decode cX0_copyOf 64 = .ok (.baload, 1) := by decide +kernel
theorem dX0_copyOf_65 : decode cX0_copyOf 65 = .ok (.bastore, 1) := by decide +kernel
theorem dX0_copyOf_66 : decode cX0_copyOf 66 = .ok (.iinc 2 1, 3) := by decide +kernel
theorem dX0_copyOf_69 : decode cX0_copyOf 69 = .ok (.goto (-59), 3) := by decide +kernel
theorem dX0_copyOf_72 : decode cX0_copyOf 72 = .ok (.return_, 1) := by decide +kernel
theorem dX1_init_0 : decode cX1_init 0 = .ok (.aload_n 0, 1) := by decide +kernel
theorem dX1_init_1 : decode cX1_init 1 = .ok (.invokespecial 3, 3) := by decide +kernel
theorem dX1_init_4 : decode cX1_init 4 = .ok (.aload_n 0, 1) := by decide +kernel
theorem dX1_init_5 : decode cX1_init 5 = .ok (.iconst 4, 1) := by decide +kernel
theorem dX1_init_6 : decode cX1_init 6 = .ok (.newarray .int, 2) := by decide +kernel
theorem dX1_init_8 : decode cX1_init 8 = .ok (.putfield 9, 3) := by decide +kernel
theorem dX1_init_11 : decode cX1_init 11 = .ok (.aload_n 0, 1) := by decide +kernel
theorem dX1_init_12 : decode cX1_init 12 = .ok (.iconst 4, 1) := by decide +kernel
theorem dX1_init_13 : decode cX1_init 13 = .ok (.newarray .int, 2) := by decide +kernel
theorem dX1_init_15 : decode cX1_init 15 = .ok (.putfield 15, 3) := by decide +kernel
theorem dX1_init_18 : decode cX1_init 18 = .ok (.aload_n 0, 1) := by decide +kernel
theorem dX1_init_19 : decode cX1_init 19 = .ok (.iconst 4, 1) := by decide +kernel
theorem dX1_init_20 : decode cX1_init 20 = .ok (.newarray .boolean, 2) := by decide +kernel
theorem dX1_init_22 : decode cX1_init 22 = .ok (.putfield 18, 3) := by decide +kernel
theorem dX1_init_25 : decode cX1_init 25 = .ok (.aload_n 0, 1) := by decide +kernel
theorem dX1_init_26 : decode cX1_init 26 = .ok (.iconst 0, 1) := by decide +kernel
theorem dX1_init_27 : decode cX1_init 27 = .ok (.putfield 22, 3) := by decide +kernel
theorem dX1_init_30 : decode cX1_init 30 = .ok (.aload_n 0, 1) := by decide +kernel
theorem dX1_init_31 : decode cX1_init 31 = .ok (.iload_n 1, 1) := by decide +kernel
theorem dX1_init_32 : decode cX1_init 32 = .ok (.iconst 4, 1) := by decide +kernel
theorem dX1_init_33 : decode cX1_init 33 = .ok (.invokestatic 26, 3) := by decide +kernel
theorem dX1_init_36 : decode cX1_init 36 = .ok (.putfield 32, 3) := by decide +kernel
theorem dX1_init_39 : decode cX1_init 39 = .ok (.return_, 1) := by decide +kernel
theorem dX1_has_0 : decode cX1_has 0 = .ok (.iload_n 1, 1) := by decide +kernel
theorem dX1_has_1 : decode cX1_has 1 = .ok (.ifCond .lt 15, 3) := by decide +kernel
theorem dX1_has_4 : decode cX1_has 4 = .ok (.iload_n 1, 1) := by decide +kernel
theorem dX1_has_5 : decode cX1_has 5 = .ok (.aload_n 0, 1) := by decide +kernel
theorem dX1_has_6 : decode cX1_has 6 = .ok (.getfield 22, 3) := by decide +kernel
theorem dX1_has_9 : decode cX1_has 9 = .ok (.if_icmp .ge 7, 3) := by decide +kernel
theorem dX1_has_12 : decode cX1_has 12 = .ok (.iconst 1, 1) := by decide +kernel
theorem dX1_has_13 : decode cX1_has 13 = .ok (.goto 4, 3) := by decide +kernel
theorem dX1_has_16 : decode cX1_has 16 = .ok (.iconst 0, 1) := by decide +kernel
theorem dX1_has_17 : decode cX1_has 17 = .ok (.ireturn, 1) := by decide +kernel
theorem dX1_full_0 : decode cX1_full 0 = .ok (.aload_n 0, 1) := by decide +kernel
theorem dX1_full_1 : decode cX1_full 1 = .ok (.getfield 22, 3) := by decide +kernel
theorem dX1_full_4 : decode cX1_full 4 = .ok (.aload_n 0, 1) := by decide +kernel
theorem dX1_full_5 : decode cX1_full 5 = .ok (.getfield 32, 3) := by decide +kernel
theorem dX1_full_8 : decode cX1_full 8 = .ok (.if_icmp .lt 7, 3) := by decide +kernel
theorem dX1_full_11 : decode cX1_full 11 = .ok (.iconst 1, 1) := by decide +kernel
theorem dX1_full_12 : decode cX1_full 12 = .ok (.goto 4, 3) := by decide +kernel
theorem dX1_full_15 : decode cX1_full 15 = .ok (.iconst 0, 1) := by decide +kernel
theorem dX1_full_16 : decode cX1_full 16 = .ok (.ireturn, 1) := by decide +kernel
theorem dX1_add_0 : decode cX1_add 0 = .ok (.aload_n 0, 1) := by decide +kernel
theorem dX1_add_1 : decode cX1_add 1 = .ok (.getfield 22, 3) := by decide +kernel
theorem dX1_add_4 : decode cX1_add 4 = .ok (.istore_n 2, 1) := by decide +kernel
theorem dX1_add_5 : decode cX1_add 5 = .ok (.aload_n 0, 1) := by decide +kernel
theorem dX1_add_6 : decode cX1_add 6 = .ok (.getfield 9, 3) := by decide +kernel
theorem dX1_add_9 : decode cX1_add 9 = .ok (.iload_n 2, 1) := by decide +kernel
theorem dX1_add_10 : decode cX1_add 10 = .ok (.iload_n 1, 1) := by decide +kernel
theorem dX1_add_11 : decode cX1_add 11 = .ok (.iastore, 1) := by decide +kernel
theorem dX1_add_12 : decode cX1_add 12 = .ok (.aload_n 0, 1) := by decide +kernel
theorem dX1_add_13 : decode cX1_add 13 = .ok (.dup, 1) := by decide +kernel
theorem dX1_add_14 : decode cX1_add 14 = .ok (.getfield 22, 3) := by decide +kernel
theorem dX1_add_17 : decode cX1_add 17 = .ok (.iconst 1, 1) := by decide +kernel
theorem dX1_add_18 : decode cX1_add 18 = .ok (.iadd, 1) := by decide +kernel
theorem dX1_add_19 : decode cX1_add 19 = .ok (.putfield 22, 3) := by decide +kernel
theorem dX1_add_22 : decode cX1_add 22 = .ok (.iload_n 2, 1) := by decide +kernel
theorem dX1_add_23 : decode cX1_add 23 = .ok (.ireturn, 1) := by decide +kernel
theorem dX1_empty_0 : decode cX1_empty 0 = .ok (.aload_n 0, 1) := by decide +kernel
theorem dX1_empty_1 : decode cX1_empty 1 = .ok (.getfield 9, 3) := by decide +kernel
theorem dX1_empty_4 : decode cX1_empty 4 = .ok (.iload_n 1, 1) := by decide +kernel
theorem dX1_empty_5 : decode cX1_empty 5 = .ok (.iconst 0, 1) := by decide +kernel
theorem dX1_empty_6 : decode cX1_empty 6 = .ok (.iastore, 1) := by decide +kernel
theorem dX1_empty_7 : decode cX1_empty 7 = .ok (.aload_n 0, 1) := by decide +kernel
theorem dX1_empty_8 : decode cX1_empty 8 = .ok (.getfield 15, 3) := by decide +kernel
theorem dX1_empty_11 : decode cX1_empty 11 = .ok (.iload_n 1, 1) := by decide +kernel
theorem dX1_empty_12 : decode cX1_empty 12 = .ok (.iconst 0, 1) := by decide +kernel
theorem dX1_empty_13 : decode cX1_empty 13 = .ok (.iastore, 1) := by decide +kernel
theorem dX1_empty_14 : decode cX1_empty 14 = .ok (.aload_n 0, 1) := by decide +kernel
theorem dX1_empty_15 : decode cX1_empty 15 = .ok (.getfield 18, 3) := by decide +kernel
theorem dX1_empty_18 : decode cX1_empty 18 = .ok (.iload_n 1, 1) := by decide +kernel
theorem dX1_empty_19 : decode cX1_empty 19 = .ok (.iconst 0, 1) := by decide +kernel
theorem dX1_empty_20 : decode cX1_empty 20 = .ok (.bastore, 1) := by decide +kernel
theorem dX1_empty_21 : decode cX1_empty 21 = .ok (.return_, 1) := by decide +kernel
theorem dX1_strength_0 : decode cX1_strength 0 = .ok (.aload_n 0, 1) := by decide +kernel
theorem dX1_strength_1 : decode cX1_strength 1 = .ok (.getfield 9, 3) := by decide +kernel
theorem dX1_strength_4 : decode cX1_strength 4 = .ok (.iload_n 1, 1) := by decide +kernel
theorem dX1_strength_5 : decode cX1_strength 5 = .ok (.iaload, 1) := by decide +kernel
theorem dX1_strength_6 : decode cX1_strength 6 = .ok (.aload_n 0, 1) := by decide +kernel
theorem dX1_strength_7 : decode cX1_strength 7 = .ok (.getfield 15, 3) := by decide +kernel
theorem dX1_strength_10 : decode cX1_strength 10 = .ok (.iload_n 1, 1) := by decide +kernel
theorem dX1_strength_11 : decode cX1_strength 11 = .ok (.iaload, 1) := by decide +kernel
theorem dX1_strength_12 : decode cX1_strength 12 = .ok (.invokestatic 35, 3) := by decide +kernel
theorem dX1_strength_15 : decode cX1_strength 15 = .ok (.ireturn, 1) := by decide +kernel
theorem dX1_egg_0 : decode cX1_egg 0 = .ok (.aload_n 0, 1) := by decide +kernel
theorem dX1_egg_1 : decode cX1_egg 1 = .ok (.iload_n 1, 1) := by decide +kernel
theorem dX1_egg_2 : decode cX1_egg 2 = .ok (.invokevirtual 38, 3) := by decide +kernel
theorem dX1_egg_5 : decode cX1_egg 5 = .ok (.invokestatic 42, 3) := by decide +kernel
theorem dX1_egg_8 : decode cX1_egg 8 = .ok (.ireturn, 1) := by decide +kernel
theorem dX1_tell_0 : decode cX1_tell 0 = .ok (.iload_n 2, 1) := by decide +kernel
theorem dX1_tell_1 : decode cX1_tell 1 = .ok (.tableswitch 57 0 3 #[31, 38, 45, 51], 31) := by decide +kernel
theorem dX1_tell_32 : decode cX1_tell 32 = .ok (.aload_n 0, 1) := by decide +kernel
theorem dX1_tell_33 : decode cX1_tell 33 = .ok (.getfield 9, 3) := by decide +kernel
theorem dX1_tell_36 : decode cX1_tell 36 = .ok (.iload_n 1, 1) := by decide +kernel
theorem dX1_tell_37 : decode cX1_tell 37 = .ok (.iaload, 1) := by decide +kernel
theorem dX1_tell_38 : decode cX1_tell 38 = .ok (.ireturn, 1) := by decide +kernel
theorem dX1_tell_39 : decode cX1_tell 39 = .ok (.aload_n 0, 1) := by decide +kernel
theorem dX1_tell_40 : decode cX1_tell 40 = .ok (.getfield 15, 3) := by decide +kernel
theorem dX1_tell_43 : decode cX1_tell 43 = .ok (.iload_n 1, 1) := by decide +kernel
theorem dX1_tell_44 : decode cX1_tell 44 = .ok (.iaload, 1) := by decide +kernel
theorem dX1_tell_45 : decode cX1_tell 45 = .ok (.ireturn, 1) := by decide +kernel
theorem dX1_tell_46 : decode cX1_tell 46 = .ok (.aload_n 0, 1) := by decide +kernel
theorem dX1_tell_47 : decode cX1_tell 47 = .ok (.iload_n 1, 1) := by decide +kernel
theorem dX1_tell_48 : decode cX1_tell 48 = .ok (.invokevirtual 38, 3) := by decide +kernel
theorem dX1_tell_51 : decode cX1_tell 51 = .ok (.ireturn, 1) := by decide +kernel
theorem dX1_tell_52 : decode cX1_tell 52 = .ok (.aload_n 0, 1) := by decide +kernel
theorem dX1_tell_53 : decode cX1_tell 53 = .ok (.iload_n 1, 1) := by decide +kernel
theorem dX1_tell_54 : decode cX1_tell 54 = .ok (.invokevirtual 45, 3) := by decide +kernel
theorem dX1_tell_57 : decode cX1_tell 57 = .ok (.ireturn, 1) := by decide +kernel
theorem dX1_tell_58 : decode cX1_tell 58 = .ok (.aload_n 0, 1) := by decide +kernel
theorem dX1_tell_59 : decode cX1_tell 59 = .ok (.getfield 18, 3) := by decide +kernel
theorem dX1_tell_62 : decode cX1_tell 62 = .ok (.iload_n 1, 1) := by decide +kernel
theorem dX1_tell_63 : decode cX1_tell 63 = .ok (.baload, 1) := by decide +kernel
theorem dX1_tell_64 : decode cX1_tell 64 = .ok (.ifCond .eq 7, 3) := by decide +kernel
theorem dX1_tell_67 : decode cX1_tell 67 = .ok (.iconst 1, 1) := by decide +kernel
theorem dX1_tell_68 : decode cX1_tell 68 = .ok (.goto 4, 3) := by decide +kernel
theorem dX1_tell_71 : decode cX1_tell 71 = .ok (.iconst 0, 1) := by decide +kernel
theorem dX1_tell_72 : decode cX1_tell 72 = .ok (.ireturn, 1) := by decide +kernel
theorem dX1_allAlum_0 : decode cX1_allAlum 0 = .ok (.iconst 0, 1) := by decide +kernel
theorem dX1_allAlum_1 : decode cX1_allAlum 1 = .ok (.istore_n 1, 1) := by decide +kernel
theorem dX1_allAlum_2 : decode cX1_allAlum 2 = .ok (.iconst 0, 1) := by decide +kernel
theorem dX1_allAlum_3 : decode cX1_allAlum 3 = .ok (.istore_n 2, 1) := by decide +kernel
theorem dX1_allAlum_4 : decode cX1_allAlum 4 = .ok (.iload_n 2, 1) := by decide +kernel
theorem dX1_allAlum_5 : decode cX1_allAlum 5 = .ok (.aload_n 0, 1) := by decide +kernel
theorem dX1_allAlum_6 : decode cX1_allAlum 6 = .ok (.getfield 22, 3) := by decide +kernel
theorem dX1_allAlum_9 : decode cX1_allAlum 9 = .ok (.if_icmp .ge 18, 3) := by decide +kernel
theorem dX1_allAlum_12 : decode cX1_allAlum 12 = .ok (.iload_n 1, 1) := by decide +kernel
theorem dX1_allAlum_13 : decode cX1_allAlum 13 = .ok (.aload_n 0, 1) := by decide +kernel
theorem dX1_allAlum_14 : decode cX1_allAlum 14 = .ok (.getfield 15, 3) := by decide +kernel
theorem dX1_allAlum_17 : decode cX1_allAlum 17 = .ok (.iload_n 2, 1) := by decide +kernel
theorem dX1_allAlum_18 : decode cX1_allAlum 18 = .ok (.iaload, 1) := by decide +kernel
theorem dX1_allAlum_19 : decode cX1_allAlum 19 = .ok (.iadd, 1) := by decide +kernel
theorem dX1_allAlum_20 : decode cX1_allAlum 20 = .ok (.istore_n 1, 1) := by decide +kernel
theorem dX1_allAlum_21 : decode cX1_allAlum 21 = .ok (.iinc 2 1, 3) := by decide +kernel
theorem dX1_allAlum_24 : decode cX1_allAlum 24 = .ok (.goto (-20), 3) := by decide +kernel
theorem dX1_allAlum_27 : decode cX1_allAlum 27 = .ok (.iload_n 1, 1) := by decide +kernel
theorem dX1_allAlum_28 : decode cX1_allAlum 28 = .ok (.ireturn, 1) := by decide +kernel
theorem dX1_filled_0 : decode cX1_filled 0 = .ok (.iconst 0, 1) := by decide +kernel
theorem dX1_filled_1 : decode cX1_filled 1 = .ok (.istore_n 1, 1) := by decide +kernel
theorem dX1_filled_2 : decode cX1_filled 2 = .ok (.iconst 0, 1) := by decide +kernel
theorem dX1_filled_3 : decode cX1_filled 3 = .ok (.istore_n 2, 1) := by decide +kernel
theorem dX1_filled_4 : decode cX1_filled 4 = .ok (.iload_n 2, 1) := by decide +kernel
theorem dX1_filled_5 : decode cX1_filled 5 = .ok (.aload_n 0, 1) := by decide +kernel
theorem dX1_filled_6 : decode cX1_filled 6 = .ok (.getfield 22, 3) := by decide +kernel
theorem dX1_filled_9 : decode cX1_filled 9 = .ok (.if_icmp .ge 28, 3) := by decide +kernel
theorem dX1_filled_12 : decode cX1_filled 12 = .ok (.aload_n 0, 1) := by decide +kernel
theorem dX1_filled_13 : decode cX1_filled 13 = .ok (.getfield 9, 3) := by decide +kernel
theorem dX1_filled_16 : decode cX1_filled 16 = .ok (.iload_n 2, 1) := by decide +kernel
theorem dX1_filled_17 : decode cX1_filled 17 = .ok (.iaload, 1) := by decide +kernel
theorem dX1_filled_18 : decode cX1_filled 18 = .ok (.aload_n 0, 1) := by decide +kernel
theorem dX1_filled_19 : decode cX1_filled 19 = .ok (.getfield 15, 3) := by decide +kernel
theorem dX1_filled_22 : decode cX1_filled 22 = .ok (.iload_n 2, 1) := by decide +kernel
theorem dX1_filled_23 : decode cX1_filled 23 = .ok (.iaload, 1) := by decide +kernel
theorem dX1_filled_24 : decode cX1_filled 24 = .ok (.iadd, 1) := by decide +kernel
theorem dX1_filled_25 : decode cX1_filled 25 = .ok (.ifCond .le 6, 3) := by decide +kernel
theorem dX1_filled_28 : decode cX1_filled 28 = .ok (.iinc 1 1, 3) := by decide +kernel
theorem dX1_filled_31 : decode cX1_filled 31 = .ok (.iinc 2 1, 3) := by decide +kernel
theorem dX1_filled_34 : decode cX1_filled 34 = .ok (.goto (-30), 3) := by decide +kernel
theorem dX1_filled_37 : decode cX1_filled 37 = .ok (.iload_n 1, 1) := by decide +kernel
theorem dX1_filled_38 : decode cX1_filled 38 = .ok (.ireturn, 1) := by decide +kernel
theorem dX1_strengths_0 : decode cX1_strengths 0 = .ok (.iconst 0, 1) := by decide +kernel
theorem dX1_strengths_1 : decode cX1_strengths 1 = .ok (.istore_n 1, 1) := by decide +kernel
theorem dX1_strengths_2 : decode cX1_strengths 2 = .ok (.iconst 0, 1) := by decide +kernel
theorem dX1_strengths_3 : decode cX1_strengths 3 = .ok (.istore_n 2, 1) := by decide +kernel
theorem dX1_strengths_4 : decode cX1_strengths 4 = .ok (.iload_n 2, 1) := by decide +kernel
theorem dX1_strengths_5 : decode cX1_strengths 5 = .ok (.aload_n 0, 1) := by decide +kernel
theorem dX1_strengths_6 : decode cX1_strengths 6 = .ok (.getfield 22, 3) := by decide +kernel
theorem dX1_strengths_9 : decode cX1_strengths 9 = .ok (.if_icmp .ge 17, 3) := by decide +kernel
theorem dX1_strengths_12 : decode cX1_strengths 12 = .ok (.iload_n 1, 1) := by decide +kernel
theorem dX1_strengths_13 : decode cX1_strengths 13 = .ok (.aload_n 0, 1) := by decide +kernel
theorem dX1_strengths_14 : decode cX1_strengths 14 = .ok (.iload_n 2, 1) := by decide +kernel
theorem dX1_strengths_15 : decode cX1_strengths 15 = .ok (.invokevirtual 38, 3) := by decide +kernel
theorem dX1_strengths_18 : decode cX1_strengths 18 = .ok (.iadd, 1) := by decide +kernel
theorem dX1_strengths_19 : decode cX1_strengths 19 = .ok (.istore_n 1, 1) := by decide +kernel
theorem dX1_strengths_20 : decode cX1_strengths 20 = .ok (.iinc 2 1, 3) := by decide +kernel
theorem dX1_strengths_23 : decode cX1_strengths 23 = .ok (.goto (-19), 3) := by decide +kernel
theorem dX1_strengths_26 : decode cX1_strengths 26 = .ok (.iload_n 1, 1) := by decide +kernel
theorem dX1_strengths_27 : decode cX1_strengths 27 = .ok (.ireturn, 1) := by decide +kernel
theorem dX1_takeWeather_0 : decode cX1_takeWeather 0 = .ok (.iconst 0, 1) := by decide +kernel
theorem dX1_takeWeather_1 : decode cX1_takeWeather 1 = .ok (.istore_n 2, 1) := by decide +kernel
theorem dX1_takeWeather_2 : decode cX1_takeWeather 2 = .ok (.iload_n 2, 1) := by decide +kernel
theorem dX1_takeWeather_3 : decode cX1_takeWeather 3 = .ok (.aload_n 0, 1) := by decide +kernel
theorem dX1_takeWeather_4 : decode cX1_takeWeather 4 = .ok (.getfield 22, 3) := by decide +kernel
theorem dX1_takeWeather_7 : decode cX1_takeWeather 7 = .ok (.if_icmp .ge 54, 3) := by decide +kernel
theorem dX1_takeWeather_10 : decode cX1_takeWeather 10 = .ok (.aload_n 0, 1) := by decide +kernel
theorem dX1_takeWeather_11 : decode cX1_takeWeather 11 = .ok (.getfield 9, 3) := by decide +kernel
theorem dX1_takeWeather_14 : decode cX1_takeWeather 14 = .ok (.iload_n 2, 1) := by decide +kernel
theorem dX1_takeWeather_15 : decode cX1_takeWeather 15 = .ok (.iaload, 1) := by decide +kernel
theorem dX1_takeWeather_16 : decode cX1_takeWeather 16 = .ok (.ifCond .le 39, 3) := by decide +kernel
theorem dX1_takeWeather_19 : decode cX1_takeWeather 19 = .ok (.sipush 400, 3) := by decide +kernel
theorem dX1_takeWeather_22 : decode cX1_takeWeather 22 = .ok (.aload_n 0, 1) := by decide +kernel
theorem dX1_takeWeather_23 : decode cX1_takeWeather 23 = .ok (.getfield 9, 3) := by decide +kernel
theorem dX1_takeWeather_26 : decode cX1_takeWeather 26 = .ok (.iload_n 2, 1) := by decide +kernel
theorem dX1_takeWeather_27 : decode cX1_takeWeather 27 = .ok (.iaload, 1) := by decide +kernel
theorem dX1_takeWeather_28 : decode cX1_takeWeather 28 = .ok (.iload_n 1, 1) := by decide +kernel
theorem dX1_takeWeather_29 : decode cX1_takeWeather 29 = .ok (.iadd, 1) := by decide +kernel
theorem dX1_takeWeather_30 : decode cX1_takeWeather 30 = .ok (.invokestatic 26, 3) := by decide +kernel
theorem dX1_takeWeather_33 : decode cX1_takeWeather 33 = .ok (.istore_n 3, 1) := by decide +kernel
theorem dX1_takeWeather_34 : decode cX1_takeWeather 34 = .ok (.aload_n 0, 1) := by decide +kernel
theorem dX1_takeWeather_35 : decode cX1_takeWeather 35 = .ok (.getfield 9, 3) := by decide +kernel
theorem dX1_takeWeather_38 : decode cX1_takeWeather 38 = .ok (.iload_n 2, 1) := by decide +kernel
theorem dX1_takeWeather_39 : decode cX1_takeWeather 39 = .ok (.iload_n 1, 1) := by decide +kernel
theorem dX1_takeWeather_40 : decode cX1_takeWeather 40 = .ok (.ifCond .ne 13, 3) := by decide +kernel
theorem dX1_takeWeather_43 : decode cX1_takeWeather 43 = .ok (.iconst 0, 1) := by decide +kernel
theorem dX1_takeWeather_44 : decode cX1_takeWeather 44 = .ok (.iload_n 3, 1) := by decide +kernel
theorem dX1_takeWeather_45 : decode cX1_takeWeather 45 = .ok (.iconst 3, 1) := by decide +kernel
theorem dX1_takeWeather_46 : decode cX1_takeWeather 46 = .ok (.isub, 1) := by decide +kernel
theorem dX1_takeWeather_47 : decode cX1_takeWeather 47 = .ok (.invokestatic 48, 3) := by decide +kernel
theorem dX1_takeWeather_50 : decode cX1_takeWeather 50 = .ok (.goto 4, 3) := by decide +kernel
theorem dX1_takeWeather_53 : decode cX1_takeWeather 53 = .ok (.iload_n 3, 1) := by decide +kernel
theorem dX1_takeWeather_54 : decode cX1_takeWeather 54 = .ok (.iastore, 1) := by decide +kernel
theorem dX1_takeWeather_55 : decode cX1_takeWeather 55 = .ok (.iinc 2 1, 3) := by decide +kernel
theorem dX1_takeWeather_58 : decode cX1_takeWeather 58 = .ok (.goto (-56), 3) := by decide +kernel
theorem dX1_takeWeather_61 : decode cX1_takeWeather 61 = .ok (.return_, 1) := by decide +kernel
theorem dX1_copyOf_0 : decode cX1_copyOf 0 = .ok (.aload_n 0, 1) := by decide +kernel
theorem dX1_copyOf_1 : decode cX1_copyOf 1 = .ok (.aload_n 1, 1) := by decide +kernel
theorem dX1_copyOf_2 : decode cX1_copyOf 2 = .ok (.getfield 22, 3) := by decide +kernel
theorem dX1_copyOf_5 : decode cX1_copyOf 5 = .ok (.putfield 22, 3) := by decide +kernel
theorem dX1_copyOf_8 : decode cX1_copyOf 8 = .ok (.iconst 0, 1) := by decide +kernel
theorem dX1_copyOf_9 : decode cX1_copyOf 9 = .ok (.istore_n 2, 1) := by decide +kernel
theorem dX1_copyOf_10 : decode cX1_copyOf 10 = .ok (.iload_n 2, 1) := by decide +kernel
theorem dX1_copyOf_11 : decode cX1_copyOf 11 = .ok (.aload_n 0, 1) := by decide +kernel
theorem dX1_copyOf_12 : decode cX1_copyOf 12 = .ok (.getfield 22, 3) := by decide +kernel
theorem dX1_copyOf_15 : decode cX1_copyOf 15 = .ok (.if_icmp .ge 45, 3) := by decide +kernel
theorem dX1_copyOf_18 : decode cX1_copyOf 18 = .ok (.aload_n 0, 1) := by decide +kernel
theorem dX1_copyOf_19 : decode cX1_copyOf 19 = .ok (.getfield 9, 3) := by decide +kernel
theorem dX1_copyOf_22 : decode cX1_copyOf 22 = .ok (.iload_n 2, 1) := by decide +kernel
theorem dX1_copyOf_23 : decode cX1_copyOf 23 = .ok (.aload_n 1, 1) := by decide +kernel
theorem dX1_copyOf_24 : decode cX1_copyOf 24 = .ok (.getfield 9, 3) := by decide +kernel
theorem dX1_copyOf_27 : decode cX1_copyOf 27 = .ok (.iload_n 2, 1) := by decide +kernel
theorem dX1_copyOf_28 : decode cX1_copyOf 28 = .ok (.iaload, 1) := by decide +kernel
theorem dX1_copyOf_29 : decode cX1_copyOf 29 = .ok (.iastore, 1) := by decide +kernel
theorem dX1_copyOf_30 : decode cX1_copyOf 30 = .ok (.aload_n 0, 1) := by decide +kernel
theorem dX1_copyOf_31 : decode cX1_copyOf 31 = .ok (.getfield 15, 3) := by decide +kernel
theorem dX1_copyOf_34 : decode cX1_copyOf 34 = .ok (.iload_n 2, 1) := by decide +kernel
theorem dX1_copyOf_35 : decode cX1_copyOf 35 = .ok (.aload_n 1, 1) := by decide +kernel
theorem dX1_copyOf_36 : decode cX1_copyOf 36 = .ok (.getfield 15, 3) := by decide +kernel
theorem dX1_copyOf_39 : decode cX1_copyOf 39 = .ok (.iload_n 2, 1) := by decide +kernel
theorem dX1_copyOf_40 : decode cX1_copyOf 40 = .ok (.iaload, 1) := by decide +kernel
theorem dX1_copyOf_41 : decode cX1_copyOf 41 = .ok (.iastore, 1) := by decide +kernel
theorem dX1_copyOf_42 : decode cX1_copyOf 42 = .ok (.aload_n 0, 1) := by decide +kernel
theorem dX1_copyOf_43 : decode cX1_copyOf 43 = .ok (.getfield 18, 3) := by decide +kernel
theorem dX1_copyOf_46 : decode cX1_copyOf 46 = .ok (.iload_n 2, 1) := by decide +kernel
theorem dX1_copyOf_47 : decode cX1_copyOf 47 = .ok (.aload_n 1, 1) := by decide +kernel
theorem dX1_copyOf_48 : decode cX1_copyOf 48 = .ok (.getfield 18, 3) := by decide +kernel
theorem dX1_copyOf_51 : decode cX1_copyOf 51 = .ok (.iload_n 2, 1) := by decide +kernel
theorem dX1_copyOf_52 : decode cX1_copyOf 52 = .ok (.baload, 1) := by decide +kernel
theorem dX1_copyOf_53 : decode cX1_copyOf 53 = .ok (.bastore, 1) := by decide +kernel
theorem dX1_copyOf_54 : decode cX1_copyOf 54 = .ok (.iinc 2 1, 3) := by decide +kernel
theorem dX1_copyOf_57 : decode cX1_copyOf 57 = .ok (.goto (-47), 3) := by decide +kernel
theorem dX1_copyOf_60 : decode cX1_copyOf 60 = .ok (.return_, 1) := by decide +kernel
theorem dX2_init_0 : decode cX2_init 0 = .ok (.aload_n 0, 1) := by decide +kernel
theorem dX2_init_1 : decode cX2_init 1 = .ok (.invokespecial 3, 3) := by decide +kernel
theorem dX2_init_4 : decode cX2_init 4 = .ok (.aload_n 0, 1) := by decide +kernel
theorem dX2_init_5 : decode cX2_init 5 = .ok (.new 9, 3) := by decide +kernel
theorem dX2_init_8 : decode cX2_init 8 = .ok (.dup, 1) := by decide +kernel
theorem dX2_init_9 : decode cX2_init 9 = .ok (.invokespecial 11, 3) := by decide +kernel
theorem dX2_init_12 : decode cX2_init 12 = .ok (.putfield 12, 3) := by decide +kernel
theorem dX2_init_15 : decode cX2_init 15 = .ok (.aload_n 0, 1) := by decide +kernel
theorem dX2_init_16 : decode cX2_init 16 = .ok (.new 18, 3) := by decide +kernel
theorem dX2_init_19 : decode cX2_init 19 = .ok (.dup, 1) := by decide +kernel
theorem dX2_init_20 : decode cX2_init 20 = .ok (.iconst 4, 1) := by decide +kernel
theorem dX2_init_21 : decode cX2_init 21 = .ok (.invokespecial 20, 3) := by decide +kernel
theorem dX2_init_24 : decode cX2_init 24 = .ok (.putfield 23, 3) := by decide +kernel
theorem dX2_init_27 : decode cX2_init 27 = .ok (.aload_n 0, 1) := by decide +kernel
theorem dX2_init_28 : decode cX2_init 28 = .ok (.new 18, 3) := by decide +kernel
theorem dX2_init_31 : decode cX2_init 31 = .ok (.dup, 1) := by decide +kernel
theorem dX2_init_32 : decode cX2_init 32 = .ok (.iconst 3, 1) := by decide +kernel
theorem dX2_init_33 : decode cX2_init 33 = .ok (.invokespecial 20, 3) := by decide +kernel
theorem dX2_init_36 : decode cX2_init 36 = .ok (.putfield 27, 3) := by decide +kernel
theorem dX2_init_39 : decode cX2_init 39 = .ok (.aload_n 0, 1) := by decide +kernel
theorem dX2_init_40 : decode cX2_init 40 = .ok (.iconst 0, 1) := by decide +kernel
theorem dX2_init_41 : decode cX2_init 41 = .ok (.putfield 30, 3) := by decide +kernel
theorem dX2_init_44 : decode cX2_init 44 = .ok (.aload_n 0, 1) := by decide +kernel
theorem dX2_init_45 : decode cX2_init 45 = .ok (.iconst 0, 1) := by decide +kernel
theorem dX2_init_46 : decode cX2_init 46 = .ok (.putfield 34, 3) := by decide +kernel
theorem dX2_init_49 : decode cX2_init 49 = .ok (.aload_n 0, 1) := by decide +kernel
theorem dX2_init_50 : decode cX2_init 50 = .ok (.iconst 0, 1) := by decide +kernel
theorem dX2_init_51 : decode cX2_init 51 = .ok (.putfield 37, 3) := by decide +kernel
theorem dX2_init_54 : decode cX2_init 54 = .ok (.aload_n 0, 1) := by decide +kernel
theorem dX2_init_55 : decode cX2_init 55 = .ok (.iconst 0, 1) := by decide +kernel
theorem dX2_init_56 : decode cX2_init 56 = .ok (.putfield 40, 3) := by decide +kernel
theorem dX2_init_59 : decode cX2_init 59 = .ok (.aload_n 0, 1) := by decide +kernel
theorem dX2_init_60 : decode cX2_init 60 = .ok (.iconst 0, 1) := by decide +kernel
theorem dX2_init_61 : decode cX2_init 61 = .ok (.putfield 43, 3) := by decide +kernel
theorem dX2_init_64 : decode cX2_init 64 = .ok (.aload_n 0, 1) := by decide +kernel
theorem dX2_init_65 : decode cX2_init 65 = .ok (.iconst 0, 1) := by decide +kernel
theorem dX2_init_66 : decode cX2_init 66 = .ok (.putfield 46, 3) := by decide +kernel
theorem dX2_init_69 : decode cX2_init 69 = .ok (.aload_n 0, 1) := by decide +kernel
theorem dX2_init_70 : decode cX2_init 70 = .ok (.iconst 0, 1) := by decide +kernel
theorem dX2_init_71 : decode cX2_init 71 = .ok (.putfield 49, 3) := by decide +kernel
theorem dX2_init_74 : decode cX2_init 74 = .ok (.return_, 1) := by decide +kernel
theorem dX2_copyOf_0 : decode cX2_copyOf 0 = .ok (.aload_n 0, 1) := by decide +kernel
theorem dX2_copyOf_1 : decode cX2_copyOf 1 = .ok (.getfield 12, 3) := by decide +kernel
theorem dX2_copyOf_4 : decode cX2_copyOf 4 = .ok (.aload_n 1, 1) := by decide +kernel
theorem dX2_copyOf_5 : decode cX2_copyOf 5 = .ok (.getfield 12, 3) := by decide +kernel
theorem dX2_copyOf_8 : decode cX2_copyOf 8 = .ok (.invokevirtual 52, 3) := by decide +kernel
theorem dX2_copyOf_11 : decode cX2_copyOf 11 = .ok (.aload_n 0, 1) := by decide +kernel
theorem dX2_copyOf_12 : decode cX2_copyOf 12 = .ok (.getfield 23, 3) := by decide +kernel
theorem dX2_copyOf_15 : decode cX2_copyOf 15 = .ok (.aload_n 1, 1) := by decide +kernel
theorem dX2_copyOf_16 : decode cX2_copyOf 16 = .ok (.getfield 23, 3) := by decide +kernel
theorem dX2_copyOf_19 : decode cX2_copyOf 19 = .ok (.invokevirtual 56, 3) := by decide +kernel
theorem dX2_copyOf_22 : decode cX2_copyOf 22 = .ok (.aload_n 0, 1) := by decide +kernel
theorem dX2_copyOf_23 : decode cX2_copyOf 23 = .ok (.getfield 27, 3) := by decide +kernel
theorem dX2_copyOf_26 : decode cX2_copyOf 26 = .ok (.aload_n 1, 1) := by decide +kernel
theorem dX2_copyOf_27 : decode cX2_copyOf 27 = .ok (.getfield 27, 3) := by decide +kernel
theorem dX2_copyOf_30 : decode cX2_copyOf 30 = .ok (.invokevirtual 56, 3) := by decide +kernel
theorem dX2_copyOf_33 : decode cX2_copyOf 33 = .ok (.aload_n 0, 1) := by decide +kernel
theorem dX2_copyOf_34 : decode cX2_copyOf 34 = .ok (.aload_n 1, 1) := by decide +kernel
theorem dX2_copyOf_35 : decode cX2_copyOf 35 = .ok (.getfield 30, 3) := by decide +kernel
theorem dX2_copyOf_38 : decode cX2_copyOf 38 = .ok (.putfield 30, 3) := by decide +kernel
theorem dX2_copyOf_41 : decode cX2_copyOf 41 = .ok (.aload_n 0, 1) := by decide +kernel
theorem dX2_copyOf_42 : decode cX2_copyOf 42 = .ok (.aload_n 1, 1) := by decide +kernel
theorem dX2_copyOf_43 : decode cX2_copyOf 43 = .ok (.getfield 34, 3) := by decide +kernel
theorem dX2_copyOf_46 : decode cX2_copyOf 46 = .ok (.putfield 34, 3) := by decide +kernel
theorem dX2_copyOf_49 : decode cX2_copyOf 49 = .ok (.aload_n 0, 1) := by decide +kernel
theorem dX2_copyOf_50 : decode cX2_copyOf 50 = .ok (.aload_n 1, 1) := by decide +kernel
theorem dX2_copyOf_51 : decode cX2_copyOf 51 = .ok (.getfield 37, 3) := by decide +kernel
theorem dX2_copyOf_54 : decode cX2_copyOf 54 = .ok (.putfield 37, 3) := by decide +kernel
theorem dX2_copyOf_57 : decode cX2_copyOf 57 = .ok (.aload_n 0, 1) := by decide +kernel
theorem dX2_copyOf_58 : decode cX2_copyOf 58 = .ok (.aload_n 1, 1) := by decide +kernel
theorem dX2_copyOf_59 : decode cX2_copyOf 59 = .ok (.getfield 40, 3) := by decide +kernel
theorem dX2_copyOf_62 : decode cX2_copyOf 62 = .ok (.putfield 40, 3) := by decide +kernel
theorem dX2_copyOf_65 : decode cX2_copyOf 65 = .ok (.aload_n 0, 1) := by decide +kernel
theorem dX2_copyOf_66 : decode cX2_copyOf 66 = .ok (.aload_n 1, 1) := by decide +kernel
theorem dX2_copyOf_67 : decode cX2_copyOf 67 = .ok (.getfield 43, 3) := by decide +kernel
theorem dX2_copyOf_70 : decode cX2_copyOf 70 = .ok (.putfield 43, 3) := by decide +kernel
theorem dX2_copyOf_73 : decode cX2_copyOf 73 = .ok (.aload_n 0, 1) := by decide +kernel
theorem dX2_copyOf_74 : decode cX2_copyOf 74 = .ok (.aload_n 1, 1) := by decide +kernel
theorem dX2_copyOf_75 : decode cX2_copyOf 75 = .ok (.getfield 46, 3) := by decide +kernel
theorem dX2_copyOf_78 : decode cX2_copyOf 78 = .ok (.putfield 46, 3) := by decide +kernel
theorem dX2_copyOf_81 : decode cX2_copyOf 81 = .ok (.aload_n 0, 1) := by decide +kernel
theorem dX2_copyOf_82 : decode cX2_copyOf 82 = .ok (.aload_n 1, 1) := by decide +kernel
theorem dX2_copyOf_83 : decode cX2_copyOf 83 = .ok (.getfield 49, 3) := by decide +kernel
theorem dX2_copyOf_86 : decode cX2_copyOf 86 = .ok (.putfield 49, 3) := by decide +kernel
theorem dX2_copyOf_89 : decode cX2_copyOf 89 = .ok (.return_, 1) := by decide +kernel
theorem dX2_letDayGo_0 : decode cX2_letDayGo 0 = .ok (.aload_n 0, 1) := by decide +kernel
theorem dX2_letDayGo_1 : decode cX2_letDayGo 1 = .ok (.getfield 12, 3) := by decide +kernel
theorem dX2_letDayGo_4 : decode cX2_letDayGo 4 = .ok (.iload_n 1, 1) := by decide +kernel
theorem dX2_letDayGo_5 : decode cX2_letDayGo 5 = .ok (.invokevirtual 59, 3) := by decide +kernel
theorem dX2_letDayGo_8 : decode cX2_letDayGo 8 = .ok (.aload_n 0, 1) := by decide +kernel
theorem dX2_letDayGo_9 : decode cX2_letDayGo 9 = .ok (.getfield 23, 3) := by decide +kernel
theorem dX2_letDayGo_12 : decode cX2_letDayGo 12 = .ok (.iload_n 1, 1) := by decide +kernel
theorem dX2_letDayGo_13 : decode cX2_letDayGo 13 = .ok (.invokevirtual 62, 3) := by decide +kernel
theorem dX2_letDayGo_16 : decode cX2_letDayGo 16 = .ok (.aload_n 0, 1) := by decide +kernel
theorem dX2_letDayGo_17 : decode cX2_letDayGo 17 = .ok (.invokevirtual 65, 3) := by decide +kernel
theorem dX2_letDayGo_20 : decode cX2_letDayGo 20 = .ok (.aload_n 0, 1) := by decide +kernel
theorem dX2_letDayGo_21 : decode cX2_letDayGo 21 = .ok (.iload_n 2, 1) := by decide +kernel
theorem dX2_letDayGo_22 : decode cX2_letDayGo 22 = .ok (.invokevirtual 68, 3) := by decide +kernel
theorem dX2_letDayGo_25 : decode cX2_letDayGo 25 = .ok (.aload_n 0, 1) := by decide +kernel
theorem dX2_letDayGo_26 : decode cX2_letDayGo 26 = .ok (.dup, 1) := by decide +kernel
theorem dX2_letDayGo_27 : decode cX2_letDayGo 27 = .ok (.getfield 30, 3) := by decide +kernel
theorem dX2_letDayGo_30 : decode cX2_letDayGo 30 = .ok (.iconst 1, 1) := by decide +kernel
theorem dX2_letDayGo_31 : decode cX2_letDayGo 31 = .ok (.iadd, 1) := by decide +kernel
theorem dX2_letDayGo_32 : decode cX2_letDayGo 32 = .ok (.putfield 30, 3) := by decide +kernel
theorem dX2_letDayGo_35 : decode cX2_letDayGo 35 = .ok (.return_, 1) := by decide +kernel
theorem dX2_boilPans_0 : decode cX2_boilPans 0 = .ok (.iconst 0, 1) := by decide +kernel
theorem dX2_boilPans_1 : decode cX2_boilPans 1 = .ok (.istore_n 1, 1) := by decide +kernel
theorem dX2_boilPans_2 : decode cX2_boilPans 2 = .ok (.iload_n 1, 1) := by decide +kernel
theorem dX2_boilPans_3 : decode cX2_boilPans 3 = .ok (.aload_n 0, 1) := by decide +kernel
theorem dX2_boilPans_4 : decode cX2_boilPans 4 = .ok (.getfield 27, 3) := by decide +kernel
theorem dX2_boilPans_7 : decode cX2_boilPans 7 = .ok (.getfield 71, 3) := by decide +kernel
theorem dX2_boilPans_10 : decode cX2_boilPans 10 = .ok (.if_icmp .ge 92, 3) := by decide +kernel
theorem dX2_boilPans_13 : decode cX2_boilPans 13 = .ok (.aload_n 0, 1) := by decide +kernel
theorem dX2_boilPans_14 : decode cX2_boilPans 14 = .ok (.getfield 27, 3) := by decide +kernel
theorem dX2_boilPans_17 : decode cX2_boilPans 17 = .ok (.getfield 74, 3) := by decide +kernel
theorem dX2_boilPans_20 : decode cX2_boilPans 20 = .ok (.iload_n 1, 1) := by decide +kernel
theorem dX2_boilPans_21 : decode cX2_boilPans 21 = .ok (.baload, 1) := by decide +kernel
theorem dX2_boilPans_22 : decode cX2_boilPans 22 = .ok (.ifCond .ne 6, 3) := by decide +kernel
theorem dX2_boilPans_25 : decode cX2_boilPans 25 = .ok (.goto 71, 3) := by decide +kernel
theorem dX2_boilPans_28 : decode cX2_boilPans 28 = .ok (.aload_n 0, 1) := by decide +kernel
theorem dX2_boilPans_29 : decode cX2_boilPans 29 = .ok (.getfield 34, 3) := by decide +kernel
theorem dX2_boilPans_32 : decode cX2_boilPans 32 = .ok (.iconst 4, 1) := by decide +kernel
theorem dX2_boilPans_33 : decode cX2_boilPans 33 = .ok (.if_icmp .lt 15, 3) := by decide +kernel
theorem dX2_boilPans_36 : decode cX2_boilPans 36 = .ok (.aload_n 0, 1) := by decide +kernel
theorem dX2_boilPans_37 : decode cX2_boilPans 37 = .ok (.getfield 27, 3) := by decide +kernel
theorem dX2_boilPans_40 : decode cX2_boilPans 40 = .ok (.getfield 78, 3) := by decide +kernel
theorem dX2_boilPans_43 : decode cX2_boilPans 43 = .ok (.iload_n 1, 1) := by decide +kernel
theorem dX2_boilPans_44 : decode cX2_boilPans 44 = .ok (.iaload, 1) := by decide +kernel
theorem dX2_boilPans_45 : decode cX2_boilPans 45 = .ok (.ifCond .ne 16, 3) := by decide +kernel
theorem dX2_boilPans_48 : decode cX2_boilPans 48 = .ok (.aload_n 0, 1) := by decide +kernel
theorem dX2_boilPans_49 : decode cX2_boilPans 49 = .ok (.getfield 27, 3) := by decide +kernel
theorem dX2_boilPans_52 : decode cX2_boilPans 52 = .ok (.getfield 74, 3) := by decide +kernel
theorem dX2_boilPans_55 : decode cX2_boilPans 55 = .ok (.iload_n 1, 1) := by decide +kernel
theorem dX2_boilPans_56 : decode cX2_boilPans 56 = .ok (.iconst 0, 1) := by decide +kernel
theorem dX2_boilPans_57 : decode cX2_boilPans 57 = .ok (.bastore, 1) := by decide +kernel
theorem dX2_boilPans_58 : decode cX2_boilPans 58 = .ok (.goto 38, 3) := by decide +kernel
theorem dX2_boilPans_61 : decode cX2_boilPans 61 = .ok (.aload_n 0, 1) := by decide +kernel
theorem dX2_boilPans_62 : decode cX2_boilPans 62 = .ok (.dup, 1) := by decide +kernel
theorem dX2_boilPans_63 : decode cX2_boilPans 63 = .ok (.getfield 34, 3) := by decide +kernel
theorem dX2_boilPans_66 : decode cX2_boilPans 66 = .ok (.iconst 4, 1) := by decide +kernel
theorem dX2_boilPans_67 : decode cX2_boilPans 67 = .ok (.isub, 1) := by decide +kernel
theorem dX2_boilPans_68 : decode cX2_boilPans 68 = .ok (.putfield 34, 3) := by decide +kernel
theorem dX2_boilPans_71 : decode cX2_boilPans 71 = .ok (.aload_n 0, 1) := by decide +kernel
theorem dX2_boilPans_72 : decode cX2_boilPans 72 = .ok (.getfield 27, 3) := by decide +kernel
theorem dX2_boilPans_75 : decode cX2_boilPans 75 = .ok (.getfield 78, 3) := by decide +kernel
theorem dX2_boilPans_78 : decode cX2_boilPans 78 = .ok (.iload_n 1, 1) := by decide +kernel
theorem dX2_boilPans_79 : decode cX2_boilPans 79 = .ok (.iconst 0, 1) := by decide +kernel
theorem dX2_boilPans_80 : decode cX2_boilPans 80 = .ok (.aload_n 0, 1) := by decide +kernel
theorem dX2_boilPans_81 : decode cX2_boilPans 81 = .ok (.getfield 27, 3) := by decide +kernel
theorem dX2_boilPans_84 : decode cX2_boilPans 84 = .ok (.getfield 78, 3) := by decide +kernel
theorem dX2_boilPans_87 : decode cX2_boilPans 87 = .ok (.iload_n 1, 1) := by decide +kernel
theorem dX2_boilPans_88 : decode cX2_boilPans 88 = .ok (.iaload, 1) := by decide +kernel
theorem dX2_boilPans_89 : decode cX2_boilPans 89 = .ok (.bipush 12, 2) := by decide +kernel
theorem dX2_boilPans_91 : decode cX2_boilPans 91 = .ok (.isub, 1) := by decide +kernel
theorem dX2_boilPans_92 : decode cX2_boilPans 92 = .ok (.invokestatic 82, 3) := by decide +kernel
theorem dX2_boilPans_95 : decode cX2_boilPans 95 = .ok (.iastore, 1) := by decide +kernel
theorem dX2_boilPans_96 : decode cX2_boilPans 96 = .ok (.iinc 1 1, 3) := by decide +kernel
theorem dX2_boilPans_99 : decode cX2_boilPans 99 = .ok (.goto (-97), 3) := by decide +kernel
theorem dX2_boilPans_102 : decode cX2_boilPans 102 = .ok (.return_, 1) := by decide +kernel
theorem dX2_loadShip_0 : decode cX2_loadShip 0 = .ok (.iload_n 1, 1) := by decide +kernel
theorem dX2_loadShip_1 : decode cX2_loadShip 1 = .ok (.aload_n 0, 1) := by decide +kernel
theorem dX2_loadShip_2 : decode cX2_loadShip 2 = .ok (.getfield 40, 3) := by decide +kernel
theorem dX2_loadShip_5 : decode cX2_loadShip 5 = .ok (.invokestatic 88, 3) := by decide +kernel
theorem dX2_loadShip_8 : decode cX2_loadShip 8 = .ok (.istore_n 2, 1) := by decide +kernel
theorem dX2_loadShip_9 : decode cX2_loadShip 9 = .ok (.iload_n 1, 1) := by decide +kernel
theorem dX2_loadShip_10 : decode cX2_loadShip 10 = .ok (.iload_n 2, 1) := by decide +kernel
theorem dX2_loadShip_11 : decode cX2_loadShip 11 = .ok (.isub, 1) := by decide +kernel
theorem dX2_loadShip_12 : decode cX2_loadShip 12 = .ok (.aload_n 0, 1) := by decide +kernel
theorem dX2_loadShip_13 : decode cX2_loadShip 13 = .ok (.getfield 43, 3) := by decide +kernel
theorem dX2_loadShip_16 : decode cX2_loadShip 16 = .ok (.invokestatic 88, 3) := by decide +kernel
theorem dX2_loadShip_19 : decode cX2_loadShip 19 = .ok (.istore_n 3, 1) := by decide +kernel
theorem dX2_loadShip_20 : decode cX2_loadShip 20 = .ok (.aload_n 0, 1) := by decide +kernel
theorem dX2_loadShip_21 : decode cX2_loadShip 21 = .ok (.dup, 1) := by decide +kernel
theorem dX2_loadShip_22 : decode cX2_loadShip 22 = .ok (.getfield 40, 3) := by decide +kernel
theorem dX2_loadShip_25 : decode cX2_loadShip 25 = .ok (.iload_n 2, 1) := by decide +kernel
theorem dX2_loadShip_26 : decode cX2_loadShip 26 = .ok (.isub, 1) := by decide +kernel
theorem dX2_loadShip_27 : decode cX2_loadShip 27 = .ok (.putfield 40, 3) := by decide +kernel
theorem dX2_loadShip_30 : decode cX2_loadShip 30 = .ok (.aload_n 0, 1) := by decide +kernel
theorem dX2_loadShip_31 : decode cX2_loadShip 31 = .ok (.dup, 1) := by decide +kernel
theorem dX2_loadShip_32 : decode cX2_loadShip 32 = .ok (.getfield 43, 3) := by decide +kernel
theorem dX2_loadShip_35 : decode cX2_loadShip 35 = .ok (.iload_n 3, 1) := by decide +kernel
theorem dX2_loadShip_36 : decode cX2_loadShip 36 = .ok (.isub, 1) := by decide +kernel
theorem dX2_loadShip_37 : decode cX2_loadShip 37 = .ok (.putfield 43, 3) := by decide +kernel
theorem dX2_loadShip_40 : decode cX2_loadShip 40 = .ok (.aload_n 0, 1) := by decide +kernel
theorem dX2_loadShip_41 : decode cX2_loadShip 41 = .ok (.dup, 1) := by decide +kernel
theorem dX2_loadShip_42 : decode cX2_loadShip 42 = .ok (.getfield 46, 3) := by decide +kernel
theorem dX2_loadShip_45 : decode cX2_loadShip 45 = .ok (.iconst 5, 1) := by decide +kernel
theorem dX2_loadShip_46 : decode cX2_loadShip 46 = .ok (.iload_n 2, 1) := by decide +kernel
theorem dX2_loadShip_47 : decode cX2_loadShip 47 = .ok (.imul, 1) := by decide +kernel
theorem dX2_loadShip_48 : decode cX2_loadShip 48 = .ok (.iconst 2, 1) := by decide +kernel
theorem dX2_loadShip_49 : decode cX2_loadShip 49 = .ok (.iload_n 3, 1) := by decide +kernel
theorem dX2_loadShip_50 : decode cX2_loadShip 50 = .ok (.imul, 1) := by decide +kernel
theorem dX2_loadShip_51 : decode cX2_loadShip 51 = .ok (.iadd, 1) := by decide +kernel
theorem dX2_loadShip_52 : decode cX2_loadShip 52 = .ok (.iadd, 1) := by decide +kernel
theorem dX2_loadShip_53 : decode cX2_loadShip 53 = .ok (.putfield 46, 3) := by decide +kernel
theorem dX2_loadShip_56 : decode cX2_loadShip 56 = .ok (.aload_n 0, 1) := by decide +kernel
theorem dX2_loadShip_57 : decode cX2_loadShip 57 = .ok (.dup, 1) := by decide +kernel
theorem dX2_loadShip_58 : decode cX2_loadShip 58 = .ok (.getfield 49, 3) := by decide +kernel
theorem dX2_loadShip_61 : decode cX2_loadShip 61 = .ok (.iload_n 2, 1) := by decide +kernel
theorem dX2_loadShip_62 : decode cX2_loadShip 62 = .ok (.iload_n 3, 1) := by decide +kernel
theorem dX2_loadShip_63 : decode cX2_loadShip 63 = .ok (.iadd, 1) := by decide +kernel
theorem dX2_loadShip_64 : decode cX2_loadShip 64 = .ok (.iadd, 1) := by decide +kernel
theorem dX2_loadShip_65 : decode cX2_loadShip 65 = .ok (.putfield 49, 3) := by decide +kernel
theorem dX2_loadShip_68 : decode cX2_loadShip 68 = .ok (.return_, 1) := by decide +kernel
theorem dX3_init_0 : decode cX3_init 0 = .ok (.aload_n 0, 1) := by decide +kernel
theorem dX3_init_1 : decode cX3_init 1 = .ok (.invokespecial 1, 3) := by decide +kernel
theorem dX3_init_4 : decode cX3_init 4 = .ok (.aload_n 0, 1) := by decide +kernel
theorem dX3_init_5 : decode cX3_init 5 = .ok (.bipush 6, 2) := by decide +kernel
theorem dX3_init_7 : decode cX3_init 7 = .ok (.newarray .int, 2) := by decide +kernel
theorem dX3_init_9 : decode cX3_init 9 = .ok (.putfield 9, 3) := by decide +kernel
theorem dX3_init_12 : decode cX3_init 12 = .ok (.aload_n 0, 1) := by decide +kernel
theorem dX3_init_13 : decode cX3_init 13 = .ok (.bipush 7, 2) := by decide +kernel
theorem dX3_init_15 : decode cX3_init 15 = .ok (.newarray .int, 2) := by decide +kernel
theorem dX3_init_17 : decode cX3_init 17 = .ok (.putfield 13, 3) := by decide +kernel
theorem dX3_init_20 : decode cX3_init 20 = .ok (.aload_n 0, 1) := by decide +kernel
theorem dX3_init_21 : decode cX3_init 21 = .ok (.new 16, 3) := by decide +kernel
theorem dX3_init_24 : decode cX3_init 24 = .ok (.dup, 1) := by decide +kernel
theorem dX3_init_25 : decode cX3_init 25 = .ok (.invokespecial 18, 3) := by decide +kernel
theorem dX3_init_28 : decode cX3_init 28 = .ok (.putfield 19, 3) := by decide +kernel
theorem dX3_init_31 : decode cX3_init 31 = .ok (.aload_n 0, 1) := by decide +kernel
theorem dX3_init_32 : decode cX3_init 32 = .ok (.new 16, 3) := by decide +kernel
theorem dX3_init_35 : decode cX3_init 35 = .ok (.dup, 1) := by decide +kernel
theorem dX3_init_36 : decode cX3_init 36 = .ok (.invokespecial 18, 3) := by decide +kernel
theorem dX3_init_39 : decode cX3_init 39 = .ok (.putfield 23, 3) := by decide +kernel
theorem dX3_init_42 : decode cX3_init 42 = .ok (.return_, 1) := by decide +kernel
theorem dX3_bring_0 : decode cX3_bring 0 = .ok (.iload_n 1, 1) := by decide +kernel
theorem dX3_bring_1 : decode cX3_bring 1 = .ok (.iconst 0, 1) := by decide +kernel
theorem dX3_bring_2 : decode cX3_bring 2 = .ok (.iconst 1, 1) := by decide +kernel
theorem dX3_bring_3 : decode cX3_bring 3 = .ok (.invokestatic 26, 3) := by decide +kernel
theorem dX3_bring_6 : decode cX3_bring 6 = .ok (.ifCond .ne 13, 3) := by decide +kernel
theorem dX3_bring_9 : decode cX3_bring 9 = .ok (.new 30, 3) := by decide +kernel
theorem dX3_bring_12 : decode cX3_bring 12 = .ok (.dup, 1) := by decide +kernel
theorem dX3_bring_13 : decode cX3_bring 13 = .ok (.ldc 32, 2) := by decide +kernel
theorem dX3_bring_15 : decode cX3_bring 15 = .ok (.invokespecial 34, 3) := by decide +kernel
theorem dX3_bring_18 : decode cX3_bring 18 = .ok (.athrow, 1) := by decide +kernel
theorem dX3_bring_19 : decode cX3_bring 19 = .ok (.iload_n 2, 1) := by decide +kernel
theorem dX3_bring_20 : decode cX3_bring 20 = .ok (.iconst 1, 1) := by decide +kernel
theorem dX3_bring_21 : decode cX3_bring 21 = .ok (.sipush 500, 3) := by decide +kernel
theorem dX3_bring_24 : decode cX3_bring 24 = .ok (.invokestatic 26, 3) := by decide +kernel
theorem dX3_bring_27 : decode cX3_bring 27 = .ok (.ifCond .ne 13, 3) := by decide +kernel
theorem dX3_bring_30 : decode cX3_bring 30 = .ok (.new 37, 3) := by decide +kernel
theorem dX3_bring_33 : decode cX3_bring 33 = .ok (.dup, 1) := by decide +kernel
theorem dX3_bring_34 : decode cX3_bring 34 = .ok (.ldc 39, 2) := by decide +kernel
theorem dX3_bring_36 : decode cX3_bring 36 = .ok (.invokespecial 41, 3) := by decide +kernel
theorem dX3_bring_39 : decode cX3_bring 39 = .ok (.athrow, 1) := by decide +kernel
theorem dX3_bring_40 : decode cX3_bring 40 = .ok (.iload_n 1, 1) := by decide +kernel
theorem dX3_bring_41 : decode cX3_bring 41 = .ok (.ifCond .ne 33, 3) := by decide +kernel
theorem dX3_bring_44 : decode cX3_bring 44 = .ok (.aload_n 0, 1) := by decide +kernel
theorem dX3_bring_45 : decode cX3_bring 45 = .ok (.getfield 19, 3) := by decide +kernel
theorem dX3_bring_48 : decode cX3_bring 48 = .ok (.sipush 500, 3) := by decide +kernel
theorem dX3_bring_51 : decode cX3_bring 51 = .ok (.aload_n 0, 1) := by decide +kernel
theorem dX3_bring_52 : decode cX3_bring 52 = .ok (.getfield 19, 3) := by decide +kernel
theorem dX3_bring_55 : decode cX3_bring 55 = .ok (.getfield 42, 3) := by decide +kernel
theorem dX3_bring_58 : decode cX3_bring 58 = .ok (.iload_n 2, 1) := by decide +kernel
theorem dX3_bring_59 : decode cX3_bring 59 = .ok (.iadd, 1) := by decide +kernel
theorem dX3_bring_60 : decode cX3_bring 60 = .ok (.invokestatic 46, 3) := by decide +kernel
theorem dX3_bring_63 : decode cX3_bring 63 = .ok (.putfield 42, 3) := by decide +kernel
theorem dX3_bring_66 : decode cX3_bring 66 = .ok (.aload_n 0, 1) := by decide +kernel
theorem dX3_bring_67 : decode cX3_bring 67 = .ok (.getfield 19, 3) := by decide +kernel
theorem dX3_bring_70 : decode cX3_bring 70 = .ok (.getfield 42, 3) := by decide +kernel
theorem dX3_bring_73 : decode cX3_bring 73 = .ok (.ireturn, 1) := by decide +kernel
theorem dX3_bring_74 : decode cX3_bring 74 = .ok (.aload_n 0, 1) := by decide +kernel
theorem dX3_bring_75 : decode cX3_bring 75 = .ok (.getfield 19, 3) := by decide +kernel
theorem dX3_bring_78 : decode cX3_bring 78 = .ok (.bipush 99, 2) := by decide +kernel
theorem dX3_bring_80 : decode cX3_bring 80 = .ok (.aload_n 0, 1) := by decide +kernel
theorem dX3_bring_81 : decode cX3_bring 81 = .ok (.getfield 19, 3) := by decide +kernel
theorem dX3_bring_84 : decode cX3_bring 84 = .ok (.getfield 52, 3) := by decide +kernel
theorem dX3_bring_87 : decode cX3_bring 87 = .ok (.iload_n 2, 1) := by decide +kernel
theorem dX3_bring_88 : decode cX3_bring 88 = .ok (.iadd, 1) := by decide +kernel
theorem dX3_bring_89 : decode cX3_bring 89 = .ok (.invokestatic 46, 3) := by decide +kernel
theorem dX3_bring_92 : decode cX3_bring 92 = .ok (.putfield 52, 3) := by decide +kernel
theorem dX3_bring_95 : decode cX3_bring 95 = .ok (.aload_n 0, 1) := by decide +kernel
theorem dX3_bring_96 : decode cX3_bring 96 = .ok (.getfield 19, 3) := by decide +kernel
theorem dX3_bring_99 : decode cX3_bring 99 = .ok (.getfield 52, 3) := by decide +kernel
theorem dX3_bring_102 : decode cX3_bring 102 = .ok (.ireturn, 1) := by decide +kernel
theorem dX3_setRain_0 : decode cX3_setRain 0 = .ok (.iload_n 1, 1) := by decide +kernel
theorem dX3_setRain_1 : decode cX3_setRain 1 = .ok (.iconst 0, 1) := by decide +kernel
theorem dX3_setRain_2 : decode cX3_setRain 2 = .ok (.iconst 5, 1) := by decide +kernel
theorem dX3_setRain_3 : decode cX3_setRain 3 = .ok (.invokestatic 26, 3) := by decide +kernel
theorem dX3_setRain_6 : decode cX3_setRain 6 = .ok (.ifCond .ne 13, 3) := by decide +kernel
theorem dX3_setRain_9 : decode cX3_setRain 9 = .ok (.new 30, 3) := by decide +kernel
theorem dX3_setRain_12 : decode cX3_setRain 12 = .ok (.dup, 1) := by decide +kernel
theorem dX3_setRain_13 : decode cX3_setRain 13 = .ok (.ldc 55, 2) := by decide +kernel
theorem dX3_setRain_15 : decode cX3_setRain 15 = .ok (.invokespecial 34, 3) := by decide +kernel
theorem dX3_setRain_18 : decode cX3_setRain 18 = .ok (.athrow, 1) := by decide +kernel
theorem dX3_setRain_19 : decode cX3_setRain 19 = .ok (.iload_n 2, 1) := by decide +kernel
theorem dX3_setRain_20 : decode cX3_setRain 20 = .ok (.iconst 0, 1) := by decide +kernel
theorem dX3_setRain_21 : decode cX3_setRain 21 = .ok (.bipush 9, 2) := by decide +kernel
theorem dX3_setRain_23 : decode cX3_setRain 23 = .ok (.invokestatic 26, 3) := by decide +kernel
theorem dX3_setRain_26 : decode cX3_setRain 26 = .ok (.ifCond .ne 13, 3) := by decide +kernel
theorem dX3_setRain_29 : decode cX3_setRain 29 = .ok (.new 37, 3) := by decide +kernel
theorem dX3_setRain_32 : decode cX3_setRain 32 = .ok (.dup, 1) := by decide +kernel
theorem dX3_setRain_33 : decode cX3_setRain 33 = .ok (.ldc 57, 2) := by decide +kernel
theorem dX3_setRain_35 : decode cX3_setRain 35 = .ok (.invokespecial 41, 3) := by decide +kernel
theorem dX3_setRain_38 : decode cX3_setRain 38 = .ok (.athrow, 1) := by decide +kernel
theorem dX3_setRain_39 : decode cX3_setRain 39 = .ok (.aload_n 0, 1) := by decide +kernel
theorem dX3_setRain_40 : decode cX3_setRain 40 = .ok (.getfield 9, 3) := by decide +kernel
theorem dX3_setRain_43 : decode cX3_setRain 43 = .ok (.iload_n 1, 1) := by decide +kernel
theorem dX3_setRain_44 : decode cX3_setRain 44 = .ok (.iaload, 1) := by decide +kernel
theorem dX3_setRain_45 : decode cX3_setRain 45 = .ok (.istore_n 3, 1) := by decide +kernel
theorem dX3_setRain_46 : decode cX3_setRain 46 = .ok (.aload_n 0, 1) := by decide +kernel
theorem dX3_setRain_47 : decode cX3_setRain 47 = .ok (.getfield 9, 3) := by decide +kernel
theorem dX3_setRain_50 : decode cX3_setRain 50 = .ok (.iload_n 1, 1) := by decide +kernel
theorem dX3_setRain_51 : decode cX3_setRain 51 = .ok (.iload_n 2, 1) := by decide +kernel
theorem dX3_setRain_52 : decode cX3_setRain 52 = .ok (.iastore, 1) := by decide +kernel
theorem dX3_setRain_53 : decode cX3_setRain 53 = .ok (.iload_n 3, 1) := by decide +kernel
theorem dX3_setRain_54 : decode cX3_setRain 54 = .ok (.ireturn, 1) := by decide +kernel
theorem dX3_setShip_0 : decode cX3_setShip 0 = .ok (.iload_n 1, 1) := by decide +kernel
theorem dX3_setShip_1 : decode cX3_setShip 1 = .ok (.iconst 0, 1) := by decide +kernel
theorem dX3_setShip_2 : decode cX3_setShip 2 = .ok (.bipush 6, 2) := by decide +kernel
theorem dX3_setShip_4 : decode cX3_setShip 4 = .ok (.invokestatic 26, 3) := by decide +kernel
theorem dX3_setShip_7 : decode cX3_setShip 7 = .ok (.ifCond .ne 13, 3) := by decide +kernel
theorem dX3_setShip_10 : decode cX3_setShip 10 = .ok (.new 30, 3) := by decide +kernel
theorem dX3_setShip_13 : decode cX3_setShip 13 = .ok (.dup, 1) := by decide +kernel
theorem dX3_setShip_14 : decode cX3_setShip 14 = .ok (.ldc 59, 2) := by decide +kernel
theorem dX3_setShip_16 : decode cX3_setShip 16 = .ok (.invokespecial 34, 3) := by decide +kernel
theorem dX3_setShip_19 : decode cX3_setShip 19 = .ok (.athrow, 1) := by decide +kernel
theorem dX3_setShip_20 : decode cX3_setShip 20 = .ok (.iload_n 2, 1) := by decide +kernel
theorem dX3_setShip_21 : decode cX3_setShip 21 = .ok (.iconst 0, 1) := by decide +kernel
theorem dX3_setShip_22 : decode cX3_setShip 22 = .ok (.bipush 60, 2) := by decide +kernel
theorem dX3_setShip_24 : decode cX3_setShip 24 = .ok (.invokestatic 26, 3) := by decide +kernel
theorem dX3_setShip_27 : decode cX3_setShip 27 = .ok (.ifCond .ne 13, 3) := by decide +kernel
theorem dX3_setShip_30 : decode cX3_setShip 30 = .ok (.new 37, 3) := by decide +kernel
theorem dX3_setShip_33 : decode cX3_setShip 33 = .ok (.dup, 1) := by decide +kernel
theorem dX3_setShip_34 : decode cX3_setShip 34 = .ok (.ldc 61, 2) := by decide +kernel
theorem dX3_setShip_36 : decode cX3_setShip 36 = .ok (.invokespecial 41, 3) := by decide +kernel
theorem dX3_setShip_39 : decode cX3_setShip 39 = .ok (.athrow, 1) := by decide +kernel
theorem dX3_setShip_40 : decode cX3_setShip 40 = .ok (.aload_n 0, 1) := by decide +kernel
theorem dX3_setShip_41 : decode cX3_setShip 41 = .ok (.getfield 13, 3) := by decide +kernel
theorem dX3_setShip_44 : decode cX3_setShip 44 = .ok (.iload_n 1, 1) := by decide +kernel
theorem dX3_setShip_45 : decode cX3_setShip 45 = .ok (.iaload, 1) := by decide +kernel
theorem dX3_setShip_46 : decode cX3_setShip 46 = .ok (.istore_n 3, 1) := by decide +kernel
theorem dX3_setShip_47 : decode cX3_setShip 47 = .ok (.aload_n 0, 1) := by decide +kernel
theorem dX3_setShip_48 : decode cX3_setShip 48 = .ok (.getfield 13, 3) := by decide +kernel
theorem dX3_setShip_51 : decode cX3_setShip 51 = .ok (.iload_n 1, 1) := by decide +kernel
theorem dX3_setShip_52 : decode cX3_setShip 52 = .ok (.iload_n 2, 1) := by decide +kernel
theorem dX3_setShip_53 : decode cX3_setShip 53 = .ok (.iastore, 1) := by decide +kernel
theorem dX3_setShip_54 : decode cX3_setShip 54 = .ok (.iload_n 3, 1) := by decide +kernel
theorem dX3_setShip_55 : decode cX3_setShip 55 = .ok (.ireturn, 1) := by decide +kernel
theorem dX3_pile_0 : decode cX3_pile 0 = .ok (.iload_n 1, 1) := by decide +kernel
theorem dX3_pile_1 : decode cX3_pile 1 = .ok (.iconst 1, 1) := by decide +kernel
theorem dX3_pile_2 : decode cX3_pile 2 = .ok (.sipush 200, 3) := by decide +kernel
theorem dX3_pile_5 : decode cX3_pile 5 = .ok (.invokestatic 26, 3) := by decide +kernel
theorem dX3_pile_8 : decode cX3_pile 8 = .ok (.ifCond .ne 13, 3) := by decide +kernel
theorem dX3_pile_11 : decode cX3_pile 11 = .ok (.new 37, 3) := by decide +kernel
theorem dX3_pile_14 : decode cX3_pile 14 = .ok (.dup, 1) := by decide +kernel
theorem dX3_pile_15 : decode cX3_pile 15 = .ok (.ldc 63, 2) := by decide +kernel
theorem dX3_pile_17 : decode cX3_pile 17 = .ok (.invokespecial 41, 3) := by decide +kernel
theorem dX3_pile_20 : decode cX3_pile 20 = .ok (.athrow, 1) := by decide +kernel
theorem dX3_pile_21 : decode cX3_pile 21 = .ok (.aload_n 0, 1) := by decide +kernel
theorem dX3_pile_22 : decode cX3_pile 22 = .ok (.getfield 19, 3) := by decide +kernel
theorem dX3_pile_25 : decode cX3_pile 25 = .ok (.getfield 65, 3) := by decide +kernel
theorem dX3_pile_28 : decode cX3_pile 28 = .ok (.invokevirtual 69, 3) := by decide +kernel
theorem dX3_pile_31 : decode cX3_pile 31 = .ok (.ifCond .eq 13, 3) := by decide +kernel
theorem dX3_pile_34 : decode cX3_pile 34 = .ok (.new 75, 3) := by decide +kernel
theorem dX3_pile_37 : decode cX3_pile 37 = .ok (.dup, 1) := by decide +kernel
theorem dX3_pile_38 : decode cX3_pile 38 = .ok (.ldc 77, 2) := by decide +kernel
theorem dX3_pile_40 : decode cX3_pile 40 = .ok (.invokespecial 79, 3) := by decide +kernel
theorem dX3_pile_43 : decode cX3_pile 43 = .ok (.athrow, 1) := by decide +kernel
theorem dX3_pile_44 : decode cX3_pile 44 = .ok (.aload_n 0, 1) := by decide +kernel
theorem dX3_pile_45 : decode cX3_pile 45 = .ok (.getfield 19, 3) := by decide +kernel
theorem dX3_pile_48 : decode cX3_pile 48 = .ok (.getfield 65, 3) := by decide +kernel
theorem dX3_pile_51 : decode cX3_pile 51 = .ok (.iload_n 1, 1) := by decide +kernel
theorem dX3_pile_52 : decode cX3_pile 52 = .ok (.invokevirtual 80, 3) := by decide +kernel
theorem dX3_pile_55 : decode cX3_pile 55 = .ok (.ireturn, 1) := by decide +kernel
theorem dX3_light_0 : decode cX3_light 0 = .ok (.aload_n 0, 1) := by decide +kernel
theorem dX3_light_1 : decode cX3_light 1 = .ok (.getfield 19, 3) := by decide +kernel
theorem dX3_light_4 : decode cX3_light 4 = .ok (.getfield 65, 3) := by decide +kernel
theorem dX3_light_7 : decode cX3_light 7 = .ok (.astore_n 3, 1) := by decide +kernel
theorem dX3_light_8 : decode cX3_light 8 = .ok (.aload_n 3, 1) := by decide +kernel
theorem dX3_light_9 : decode cX3_light 9 = .ok (.iload_n 1, 1) := by decide +kernel
theorem dX3_light_10 : decode cX3_light 10 = .ok (.invokevirtual 84, 3) := by decide +kernel
theorem dX3_light_13 : decode cX3_light 13 = .ok (.ifCond .ne 13, 3) := by decide +kernel
theorem dX3_light_16 : decode cX3_light 16 = .ok (.new 30, 3) := by decide +kernel
theorem dX3_light_19 : decode cX3_light 19 = .ok (.dup, 1) := by decide +kernel
theorem dX3_light_20 : decode cX3_light 20 = .ok (.ldc 88, 2) := by decide +kernel
theorem dX3_light_22 : decode cX3_light 22 = .ok (.invokespecial 34, 3) := by decide +kernel
theorem dX3_light_25 : decode cX3_light 25 = .ok (.athrow, 1) := by decide +kernel
theorem dX3_light_26 : decode cX3_light 26 = .ok (.iload_n 2, 1) := by decide +kernel
theorem dX3_light_27 : decode cX3_light 27 = .ok (.iconst 1, 1) := by decide +kernel
theorem dX3_light_28 : decode cX3_light 28 = .ok (.bipush 60, 2) := by decide +kernel
theorem dX3_light_30 : decode cX3_light 30 = .ok (.invokestatic 26, 3) := by decide +kernel
theorem dX3_light_33 : decode cX3_light 33 = .ok (.ifCond .ne 13, 3) := by decide +kernel
theorem dX3_light_36 : decode cX3_light 36 = .ok (.new 37, 3) := by decide +kernel
theorem dX3_light_39 : decode cX3_light 39 = .ok (.dup, 1) := by decide +kernel
theorem dX3_light_40 : decode cX3_light 40 = .ok (.ldc 90, 2) := by decide +kernel
theorem dX3_light_42 : decode cX3_light 42 = .ok (.invokespecial 41, 3) := by decide +kernel
theorem dX3_light_45 : decode cX3_light 45 = .ok (.athrow, 1) := by decide +kernel
theorem dX3_light_46 : decode cX3_light 46 = .ok (.aload_n 0, 1) := by decide +kernel
theorem dX3_light_47 : decode cX3_light 47 = .ok (.getfield 19, 3) := by decide +kernel
theorem dX3_light_50 : decode cX3_light 50 = .ok (.getfield 42, 3) := by decide +kernel
theorem dX3_light_53 : decode cX3_light 53 = .ok (.iload_n 2, 1) := by decide +kernel
theorem dX3_light_54 : decode cX3_light 54 = .ok (.if_icmp .lt 12, 3) := by decide +kernel
theorem dX3_light_57 : decode cX3_light 57 = .ok (.aload_n 3, 1) := by decide +kernel
theorem dX3_light_58 : decode cX3_light 58 = .ok (.getfield 92, 3) := by decide +kernel
theorem dX3_light_61 : decode cX3_light 61 = .ok (.iload_n 1, 1) := by decide +kernel
theorem dX3_light_62 : decode cX3_light 62 = .ok (.iaload, 1) := by decide +kernel
theorem dX3_light_63 : decode cX3_light 63 = .ok (.ifCond .ne 13, 3) := by decide +kernel
theorem dX3_light_66 : decode cX3_light 66 = .ok (.new 75, 3) := by decide +kernel
theorem dX3_light_69 : decode cX3_light 69 = .ok (.dup, 1) := by decide +kernel
theorem dX3_light_70 : decode cX3_light 70 = .ok (.ldc 95, 2) := by decide +kernel
theorem dX3_light_72 : decode cX3_light 72 = .ok (.invokespecial 79, 3) := by decide +kernel
theorem dX3_light_75 : decode cX3_light 75 = .ok (.athrow, 1) := by decide +kernel
theorem dX3_light_76 : decode cX3_light 76 = .ok (.aload_n 0, 1) := by decide +kernel
theorem dX3_light_77 : decode cX3_light 77 = .ok (.getfield 19, 3) := by decide +kernel
theorem dX3_light_80 : decode cX3_light 80 = .ok (.dup, 1) := by decide +kernel
theorem dX3_light_81 : decode cX3_light 81 = .ok (.getfield 42, 3) := by decide +kernel
theorem dX3_light_84 : decode cX3_light 84 = .ok (.iload_n 2, 1) := by decide +kernel
theorem dX3_light_85 : decode cX3_light 85 = .ok (.isub, 1) := by decide +kernel
theorem dX3_light_86 : decode cX3_light 86 = .ok (.putfield 42, 3) := by decide +kernel
theorem dX3_light_89 : decode cX3_light 89 = .ok (.aload_n 3, 1) := by decide +kernel
theorem dX3_light_90 : decode cX3_light 90 = .ok (.getfield 97, 3) := by decide +kernel
theorem dX3_light_93 : decode cX3_light 93 = .ok (.iload_n 1, 1) := by decide +kernel
theorem dX3_light_94 : decode cX3_light 94 = .ok (.bipush 60, 2) := by decide +kernel
theorem dX3_light_96 : decode cX3_light 96 = .ok (.aload_n 3, 1) := by decide +kernel
theorem dX3_light_97 : decode cX3_light 97 = .ok (.getfield 97, 3) := by decide +kernel
theorem dX3_light_100 : decode cX3_light 100 = .ok (.iload_n 1, 1) := by decide +kernel
theorem dX3_light_101 : decode cX3_light 101 = .ok (.iaload, 1) := by decide +kernel
theorem dX3_light_102 : decode cX3_light 102 = .ok (.iload_n 2, 1) := by decide +kernel
theorem dX3_light_103 : decode cX3_light 103 = .ok (.iadd, 1) := by decide +kernel
theorem dX3_light_104 : decode cX3_light 104 = .ok (.invokestatic 46, 3) := by decide +kernel
theorem dX3_light_107 : decode cX3_light 107 = .ok (.iastore, 1) := by decide +kernel
theorem dX3_light_108 : decode cX3_light 108 = .ok (.aload_n 3, 1) := by decide +kernel
theorem dX3_light_109 : decode cX3_light 109 = .ok (.getfield 99, 3) := by decide +kernel
theorem dX3_light_112 : decode cX3_light 112 = .ok (.iload_n 1, 1) := by decide +kernel
theorem dX3_light_113 : decode cX3_light 113 = .ok (.iconst 1, 1) := by decide +kernel
theorem dX3_light_114 : decode cX3_light 114 = .ok (.bastore, 1) := by decide +kernel
theorem dX3_light_115 : decode cX3_light 115 = .ok (.aload_n 3, 1) := by decide +kernel
theorem dX3_light_116 : decode cX3_light 116 = .ok (.getfield 97, 3) := by decide +kernel
theorem dX3_light_119 : decode cX3_light 119 = .ok (.iload_n 1, 1) := by decide +kernel
theorem dX3_light_120 : decode cX3_light 120 = .ok (.iaload, 1) := by decide +kernel
theorem dX3_light_121 : decode cX3_light 121 = .ok (.ireturn, 1) := by decide +kernel
theorem dX3_dig_0 : decode cX3_dig 0 = .ok (.iload_n 1, 1) := by decide +kernel
theorem dX3_dig_1 : decode cX3_dig 1 = .ok (.iconst 0, 1) := by decide +kernel
theorem dX3_dig_2 : decode cX3_dig 2 = .ok (.sipush 400, 3) := by decide +kernel
theorem dX3_dig_5 : decode cX3_dig 5 = .ok (.invokestatic 26, 3) := by decide +kernel
theorem dX3_dig_8 : decode cX3_dig 8 = .ok (.ifCond .ne 13, 3) := by decide +kernel
theorem dX3_dig_11 : decode cX3_dig 11 = .ok (.new 37, 3) := by decide +kernel
theorem dX3_dig_14 : decode cX3_dig 14 = .ok (.dup, 1) := by decide +kernel
theorem dX3_dig_15 : decode cX3_dig 15 = .ok (.ldc 103, 2) := by decide +kernel
theorem dX3_dig_17 : decode cX3_dig 17 = .ok (.invokespecial 41, 3) := by decide +kernel
theorem dX3_dig_20 : decode cX3_dig 20 = .ok (.athrow, 1) := by decide +kernel
theorem dX3_dig_21 : decode cX3_dig 21 = .ok (.aload_n 0, 1) := by decide +kernel
theorem dX3_dig_22 : decode cX3_dig 22 = .ok (.getfield 19, 3) := by decide +kernel
theorem dX3_dig_25 : decode cX3_dig 25 = .ok (.getfield 105, 3) := by decide +kernel
theorem dX3_dig_28 : decode cX3_dig 28 = .ok (.invokevirtual 109, 3) := by decide +kernel
theorem dX3_dig_31 : decode cX3_dig 31 = .ok (.ifCond .eq 13, 3) := by decide +kernel
theorem dX3_dig_34 : decode cX3_dig 34 = .ok (.new 75, 3) := by decide +kernel
theorem dX3_dig_37 : decode cX3_dig 37 = .ok (.dup, 1) := by decide +kernel
theorem dX3_dig_38 : decode cX3_dig 38 = .ok (.ldc 112, 2) := by decide +kernel
theorem dX3_dig_40 : decode cX3_dig 40 = .ok (.invokespecial 79, 3) := by decide +kernel
theorem dX3_dig_43 : decode cX3_dig 43 = .ok (.athrow, 1) := by decide +kernel
theorem dX3_dig_44 : decode cX3_dig 44 = .ok (.aload_n 0, 1) := by decide +kernel
theorem dX3_dig_45 : decode cX3_dig 45 = .ok (.getfield 19, 3) := by decide +kernel
theorem dX3_dig_48 : decode cX3_dig 48 = .ok (.getfield 105, 3) := by decide +kernel
theorem dX3_dig_51 : decode cX3_dig 51 = .ok (.iload_n 1, 1) := by decide +kernel
theorem dX3_dig_52 : decode cX3_dig 52 = .ok (.invokevirtual 114, 3) := by decide +kernel
theorem dX3_dig_55 : decode cX3_dig 55 = .ok (.ireturn, 1) := by decide +kernel
theorem dX3_steep_0 : decode cX3_steep 0 = .ok (.aload_n 0, 1) := by decide +kernel
theorem dX3_steep_1 : decode cX3_steep 1 = .ok (.getfield 19, 3) := by decide +kernel
theorem dX3_steep_4 : decode cX3_steep 4 = .ok (.getfield 65, 3) := by decide +kernel
theorem dX3_steep_7 : decode cX3_steep 7 = .ok (.astore_n 3, 1) := by decide +kernel
theorem dX3_steep_8 : decode cX3_steep 8 = .ok (.aload_n 0, 1) := by decide +kernel
theorem dX3_steep_9 : decode cX3_steep 9 = .ok (.getfield 19, 3) := by decide +kernel
theorem dX3_steep_12 : decode cX3_steep 12 = .ok (.getfield 105, 3) := by decide +kernel
theorem dX3_steep_15 : decode cX3_steep 15 = .ok (.astore 4, 2) := by decide +kernel
theorem dX3_steep_17 : decode cX3_steep 17 = .ok (.aload_n 3, 1) := by decide +kernel
theorem dX3_steep_18 : decode cX3_steep 18 = .ok (.iload_n 1, 1) := by decide +kernel
theorem dX3_steep_19 : decode cX3_steep 19 = .ok (.invokevirtual 84, 3) := by decide +kernel
theorem dX3_steep_22 : decode cX3_steep 22 = .ok (.ifCond .eq 12, 3) := by decide +kernel
theorem dX3_steep_25 : decode cX3_steep 25 = .ok (.aload 4, 2) := by decide +kernel
theorem dX3_steep_27 : decode cX3_steep 27 = .ok (.iload_n 2, 1) := by decide +kernel
theorem dX3_steep_28 : decode cX3_steep 28 = .ok (.invokevirtual 115, 3) := by decide +kernel
theorem dX3_steep_31 : decode cX3_steep 31 = .ok (.ifCond .ne 13, 3) := by decide +kernel
theorem dX3_steep_34 : decode cX3_steep 34 = .ok (.new 30, 3) := by decide +kernel
theorem dX3_steep_37 : decode cX3_steep 37 = .ok (.dup, 1) := by decide +kernel
theorem dX3_steep_38 : decode cX3_steep 38 = .ok (.ldc 116, 2) := by decide +kernel
theorem dX3_steep_40 : decode cX3_steep 40 = .ok (.invokespecial 34, 3) := by decide +kernel
theorem dX3_steep_43 : decode cX3_steep 43 = .ok (.athrow, 1) := by decide +kernel
theorem dX3_steep_44 : decode cX3_steep 44 = .ok (.aload_n 3, 1) := by decide +kernel
theorem dX3_steep_45 : decode cX3_steep 45 = .ok (.getfield 118, 3) := by decide +kernel
theorem dX3_steep_48 : decode cX3_steep 48 = .ok (.iload_n 1, 1) := by decide +kernel
theorem dX3_steep_49 : decode cX3_steep 49 = .ok (.iaload, 1) := by decide +kernel
theorem dX3_steep_50 : decode cX3_steep 50 = .ok (.ifCond .eq 22, 3) := by decide +kernel
theorem dX3_steep_53 : decode cX3_steep 53 = .ok (.aload_n 3, 1) := by decide +kernel
theorem dX3_steep_54 : decode cX3_steep 54 = .ok (.getfield 99, 3) := by decide +kernel
theorem dX3_steep_57 : decode cX3_steep 57 = .ok (.iload_n 1, 1) := by decide +kernel
theorem dX3_steep_58 : decode cX3_steep 58 = .ok (.baload, 1) := by decide +kernel
theorem dX3_steep_59 : decode cX3_steep 59 = .ok (.ifCond .ne 13, 3) := by decide +kernel
theorem dX3_steep_62 : decode cX3_steep 62 = .ok (.aload 4, 2) := by decide +kernel
theorem dX3_steep_64 : decode cX3_steep 64 = .ok (.getfield 121, 3) := by decide +kernel
theorem dX3_steep_67 : decode cX3_steep 67 = .ok (.iload_n 2, 1) := by decide +kernel
theorem dX3_steep_68 : decode cX3_steep 68 = .ok (.iaload, 1) := by decide +kernel
theorem dX3_steep_69 : decode cX3_steep 69 = .ok (.ifCond .ne 13, 3) := by decide +kernel
theorem dX3_steep_72 : decode cX3_steep 72 = .ok (.new 75, 3) := by decide +kernel
theorem dX3_steep_75 : decode cX3_steep 75 = .ok (.dup, 1) := by decide +kernel
theorem dX3_steep_76 : decode cX3_steep 76 = .ok (.ldc 124, 2) := by decide +kernel
theorem dX3_steep_78 : decode cX3_steep 78 = .ok (.invokespecial 79, 3) := by decide +kernel
theorem dX3_steep_81 : decode cX3_steep 81 = .ok (.athrow, 1) := by decide +kernel
theorem dX3_steep_82 : decode cX3_steep 82 = .ok (.aload 4, 2) := by decide +kernel
theorem dX3_steep_84 : decode cX3_steep 84 = .ok (.getfield 126, 3) := by decide +kernel
theorem dX3_steep_87 : decode cX3_steep 87 = .ok (.iload_n 2, 1) := by decide +kernel
theorem dX3_steep_88 : decode cX3_steep 88 = .ok (.dup2, 1) := by decide +kernel
theorem dX3_steep_89 : decode cX3_steep 89 = .ok (.iaload, 1) := by decide +kernel
theorem dX3_steep_90 : decode cX3_steep 90 = .ok (.aload_n 3, 1) := by decide +kernel
theorem dX3_steep_91 : decode cX3_steep 91 = .ok (.getfield 118, 3) := by decide +kernel
theorem dX3_steep_94 : decode cX3_steep 94 = .ok (.iload_n 1, 1) := by decide +kernel
theorem dX3_steep_95 : decode cX3_steep 95 = .ok (.iaload, 1) := by decide +kernel
theorem dX3_steep_96 : decode cX3_steep 96 = .ok (.iconst 2, 1) := by decide +kernel
theorem dX3_steep_97 : decode cX3_steep 97 = .ok (.idiv, 1) := by decide +kernel
theorem dX3_steep_98 : decode cX3_steep 98 = .ok (.iadd, 1) := by decide +kernel
theorem dX3_steep_99 : decode cX3_steep 99 = .ok (.iastore, 1) := by decide +kernel
theorem dX3_steep_100 : decode cX3_steep 100 = .ok (.aload_n 3, 1) := by decide +kernel
theorem dX3_steep_101 : decode cX3_steep 101 = .ok (.getfield 118, 3) := by decide +kernel
theorem dX3_steep_104 : decode cX3_steep 104 = .ok (.iload_n 1, 1) := by decide +kernel
theorem dX3_steep_105 : decode cX3_steep 105 = .ok (.iconst 0, 1) := by decide +kernel
theorem dX3_steep_106 : decode cX3_steep 106 = .ok (.iastore, 1) := by decide +kernel
theorem dX3_steep_107 : decode cX3_steep 107 = .ok (.aload 4, 2) := by decide +kernel
theorem dX3_steep_109 : decode cX3_steep 109 = .ok (.getfield 126, 3) := by decide +kernel
theorem dX3_steep_112 : decode cX3_steep 112 = .ok (.iload_n 2, 1) := by decide +kernel
theorem dX3_steep_113 : decode cX3_steep 113 = .ok (.iaload, 1) := by decide +kernel
theorem dX3_steep_114 : decode cX3_steep 114 = .ok (.ireturn, 1) := by decide +kernel
theorem dX3_pan_0 : decode cX3_pan 0 = .ok (.aload_n 0, 1) := by decide +kernel
theorem dX3_pan_1 : decode cX3_pan 1 = .ok (.getfield 19, 3) := by decide +kernel
theorem dX3_pan_4 : decode cX3_pan 4 = .ok (.getfield 129, 3) := by decide +kernel
theorem dX3_pan_7 : decode cX3_pan 7 = .ok (.invokevirtual 109, 3) := by decide +kernel
theorem dX3_pan_10 : decode cX3_pan 10 = .ok (.ifCond .eq 13, 3) := by decide +kernel
theorem dX3_pan_13 : decode cX3_pan 13 = .ok (.new 75, 3) := by decide +kernel
theorem dX3_pan_16 : decode cX3_pan 16 = .ok (.dup, 1) := by decide +kernel
theorem dX3_pan_17 : decode cX3_pan 17 = .ok (.ldc 132, 2) := by decide +kernel
theorem dX3_pan_19 : decode cX3_pan 19 = .ok (.invokespecial 79, 3) := by decide +kernel
theorem dX3_pan_22 : decode cX3_pan 22 = .ok (.athrow, 1) := by decide +kernel
theorem dX3_pan_23 : decode cX3_pan 23 = .ok (.aload_n 0, 1) := by decide +kernel
theorem dX3_pan_24 : decode cX3_pan 24 = .ok (.getfield 19, 3) := by decide +kernel
theorem dX3_pan_27 : decode cX3_pan 27 = .ok (.getfield 129, 3) := by decide +kernel
theorem dX3_pan_30 : decode cX3_pan 30 = .ok (.iconst 0, 1) := by decide +kernel
theorem dX3_pan_31 : decode cX3_pan 31 = .ok (.invokevirtual 114, 3) := by decide +kernel
theorem dX3_pan_34 : decode cX3_pan 34 = .ok (.ireturn, 1) := by decide +kernel
theorem dX3_draw_0 : decode cX3_draw 0 = .ok (.aload_n 0, 1) := by decide +kernel
theorem dX3_draw_1 : decode cX3_draw 1 = .ok (.getfield 19, 3) := by decide +kernel
theorem dX3_draw_4 : decode cX3_draw 4 = .ok (.getfield 105, 3) := by decide +kernel
theorem dX3_draw_7 : decode cX3_draw 7 = .ok (.astore 4, 2) := by decide +kernel
theorem dX3_draw_9 : decode cX3_draw 9 = .ok (.aload_n 0, 1) := by decide +kernel
theorem dX3_draw_10 : decode cX3_draw 10 = .ok (.getfield 19, 3) := by decide +kernel
theorem dX3_draw_13 : decode cX3_draw 13 = .ok (.getfield 129, 3) := by decide +kernel
theorem dX3_draw_16 : decode cX3_draw 16 = .ok (.astore 5, 2) := by decide +kernel
theorem dX3_draw_18 : decode cX3_draw 18 = .ok (.aload 4, 2) := by decide +kernel
theorem dX3_draw_20 : decode cX3_draw 20 = .ok (.iload_n 1, 1) := by decide +kernel
theorem dX3_draw_21 : decode cX3_draw 21 = .ok (.invokevirtual 115, 3) := by decide +kernel
theorem dX3_draw_24 : decode cX3_draw 24 = .ok (.ifCond .eq 12, 3) := by decide +kernel
theorem dX3_draw_27 : decode cX3_draw 27 = .ok (.aload 5, 2) := by decide +kernel
theorem dX3_draw_29 : decode cX3_draw 29 = .ok (.iload_n 2, 1) := by decide +kernel
theorem dX3_draw_30 : decode cX3_draw 30 = .ok (.invokevirtual 115, 3) := by decide +kernel
theorem dX3_draw_33 : decode cX3_draw 33 = .ok (.ifCond .ne 13, 3) := by decide +kernel
theorem dX3_draw_36 : decode cX3_draw 36 = .ok (.new 30, 3) := by decide +kernel
theorem dX3_draw_39 : decode cX3_draw 39 = .ok (.dup, 1) := by decide +kernel
theorem dX3_draw_40 : decode cX3_draw 40 = .ok (.ldc 134, 2) := by decide +kernel
theorem dX3_draw_42 : decode cX3_draw 42 = .ok (.invokespecial 34, 3) := by decide +kernel
theorem dX3_draw_45 : decode cX3_draw 45 = .ok (.athrow, 1) := by decide +kernel
theorem dX3_draw_46 : decode cX3_draw 46 = .ok (.iload_n 3, 1) := by decide +kernel
theorem dX3_draw_47 : decode cX3_draw 47 = .ok (.iconst 1, 1) := by decide +kernel
theorem dX3_draw_48 : decode cX3_draw 48 = .ok (.sipush 150, 3) := by decide +kernel
theorem dX3_draw_51 : decode cX3_draw 51 = .ok (.invokestatic 26, 3) := by decide +kernel
theorem dX3_draw_54 : decode cX3_draw 54 = .ok (.ifCond .ne 13, 3) := by decide +kernel
theorem dX3_draw_57 : decode cX3_draw 57 = .ok (.new 37, 3) := by decide +kernel
theorem dX3_draw_60 : decode cX3_draw 60 = .ok (.dup, 1) := by decide +kernel
theorem dX3_draw_61 : decode cX3_draw 61 = .ok (.ldc 136, 2) := by decide +kernel
theorem dX3_draw_63 : decode cX3_draw 63 = .ok (.invokespecial 41, 3) := by decide +kernel
theorem dX3_draw_66 : decode cX3_draw 66 = .ok (.athrow, 1) := by decide +kernel
theorem dX3_draw_67 : decode cX3_draw 67 = .ok (.aload 4, 2) := by decide +kernel
theorem dX3_draw_69 : decode cX3_draw 69 = .ok (.getfield 121, 3) := by decide +kernel
theorem dX3_draw_72 : decode cX3_draw 72 = .ok (.iload_n 1, 1) := by decide +kernel
theorem dX3_draw_73 : decode cX3_draw 73 = .ok (.iaload, 1) := by decide +kernel
theorem dX3_draw_74 : decode cX3_draw 74 = .ok (.istore 6, 2) := by decide +kernel
theorem dX3_draw_76 : decode cX3_draw 76 = .ok (.iload 6, 2) := by decide +kernel
theorem dX3_draw_78 : decode cX3_draw 78 = .ok (.iload_n 3, 1) := by decide +kernel
theorem dX3_draw_79 : decode cX3_draw 79 = .ok (.if_icmp .lt 18, 3) := by decide +kernel
theorem dX3_draw_82 : decode cX3_draw 82 = .ok (.aload 5, 2) := by decide +kernel
theorem dX3_draw_84 : decode cX3_draw 84 = .ok (.getfield 121, 3) := by decide +kernel
theorem dX3_draw_87 : decode cX3_draw 87 = .ok (.iload_n 2, 1) := by decide +kernel
theorem dX3_draw_88 : decode cX3_draw 88 = .ok (.iaload, 1) := by decide +kernel
theorem dX3_draw_89 : decode cX3_draw 89 = .ok (.iload_n 3, 1) := by decide +kernel
theorem dX3_draw_90 : decode cX3_draw 90 = .ok (.iadd, 1) := by decide +kernel
theorem dX3_draw_91 : decode cX3_draw 91 = .ok (.sipush 150, 3) := by decide +kernel
theorem dX3_draw_94 : decode cX3_draw 94 = .ok (.if_icmp .le 13, 3) := by decide +kernel
theorem dX3_draw_97 : decode cX3_draw 97 = .ok (.new 75, 3) := by decide +kernel
theorem dX3_draw_100 : decode cX3_draw 100 = .ok (.dup, 1) := by decide +kernel
theorem dX3_draw_101 : decode cX3_draw 101 = .ok (.ldc 138, 2) := by decide +kernel
theorem dX3_draw_103 : decode cX3_draw 103 = .ok (.invokespecial 79, 3) := by decide +kernel
theorem dX3_draw_106 : decode cX3_draw 106 = .ok (.athrow, 1) := by decide +kernel
theorem dX3_draw_107 : decode cX3_draw 107 = .ok (.aload 4, 2) := by decide +kernel
theorem dX3_draw_109 : decode cX3_draw 109 = .ok (.getfield 126, 3) := by decide +kernel
theorem dX3_draw_112 : decode cX3_draw 112 = .ok (.iload_n 1, 1) := by decide +kernel
theorem dX3_draw_113 : decode cX3_draw 113 = .ok (.iaload, 1) := by decide +kernel
theorem dX3_draw_114 : decode cX3_draw 114 = .ok (.iload_n 3, 1) := by decide +kernel
theorem dX3_draw_115 : decode cX3_draw 115 = .ok (.imul, 1) := by decide +kernel
theorem dX3_draw_116 : decode cX3_draw 116 = .ok (.iload 6, 2) := by decide +kernel
theorem dX3_draw_118 : decode cX3_draw 118 = .ok (.idiv, 1) := by decide +kernel
theorem dX3_draw_119 : decode cX3_draw 119 = .ok (.istore 7, 2) := by decide +kernel
theorem dX3_draw_121 : decode cX3_draw 121 = .ok (.aload 4, 2) := by decide +kernel
theorem dX3_draw_123 : decode cX3_draw 123 = .ok (.getfield 121, 3) := by decide +kernel
theorem dX3_draw_126 : decode cX3_draw 126 = .ok (.iload_n 1, 1) := by decide +kernel
theorem dX3_draw_127 : decode cX3_draw 127 = .ok (.dup2, 1) := by decide +kernel
theorem dX3_draw_128 : decode cX3_draw 128 = .ok (.iaload, 1) := by decide +kernel
theorem dX3_draw_129 : decode cX3_draw 129 = .ok (.iload_n 3, 1) := by decide +kernel
theorem dX3_draw_130 : decode cX3_draw 130 = .ok (.isub, 1) := by decide +kernel
theorem dX3_draw_131 : decode cX3_draw 131 = .ok (.iastore, 1) := by decide +kernel
theorem dX3_draw_132 : decode cX3_draw 132 = .ok (.aload 4, 2) := by decide +kernel
theorem dX3_draw_134 : decode cX3_draw 134 = .ok (.getfield 126, 3) := by decide +kernel
theorem dX3_draw_137 : decode cX3_draw 137 = .ok (.iload_n 1, 1) := by decide +kernel
theorem dX3_draw_138 : decode cX3_draw 138 = .ok (.dup2, 1) := by decide +kernel
theorem dX3_draw_139 : decode cX3_draw 139 = .ok (.iaload, 1) := by decide +kernel
theorem dX3_draw_140 : decode cX3_draw 140 = .ok (.iload 7, 2) := by decide +kernel
theorem dX3_draw_142 : decode cX3_draw 142 = .ok (.isub, 1) := by decide +kernel
theorem dX3_draw_143 : decode cX3_draw 143 = .ok (.iastore, 1) := by decide +kernel
theorem dX3_draw_144 : decode cX3_draw 144 = .ok (.aload 5, 2) := by decide +kernel
theorem dX3_draw_146 : decode cX3_draw 146 = .ok (.getfield 121, 3) := by decide +kernel
theorem dX3_draw_149 : decode cX3_draw 149 = .ok (.iload_n 2, 1) := by decide +kernel
theorem dX3_draw_150 : decode cX3_draw 150 = .ok (.dup2, 1) := by decide +kernel
theorem dX3_draw_151 : decode cX3_draw 151 = .ok (.iaload, 1) := by decide +kernel
theorem dX3_draw_152 : decode cX3_draw 152 = .ok (.iload_n 3, 1) := by decide +kernel
theorem dX3_draw_153 : decode cX3_draw 153 = .ok (.iadd, 1) := by decide +kernel
theorem dX3_draw_154 : decode cX3_draw 154 = .ok (.iastore, 1) := by decide +kernel
theorem dX3_draw_155 : decode cX3_draw 155 = .ok (.aload 5, 2) := by decide +kernel
theorem dX3_draw_157 : decode cX3_draw 157 = .ok (.getfield 126, 3) := by decide +kernel
theorem dX3_draw_160 : decode cX3_draw 160 = .ok (.iload_n 2, 1) := by decide +kernel
theorem dX3_draw_161 : decode cX3_draw 161 = .ok (.dup2, 1) := by decide +kernel
theorem dX3_draw_162 : decode cX3_draw 162 = .ok (.iaload, 1) := by decide +kernel
theorem dX3_draw_163 : decode cX3_draw 163 = .ok (.iload 7, 2) := by decide +kernel
theorem dX3_draw_165 : decode cX3_draw 165 = .ok (.iadd, 1) := by decide +kernel
theorem dX3_draw_166 : decode cX3_draw 166 = .ok (.iastore, 1) := by decide +kernel
theorem dX3_draw_167 : decode cX3_draw 167 = .ok (.iload 7, 2) := by decide +kernel
theorem dX3_draw_169 : decode cX3_draw 169 = .ok (.ireturn, 1) := by decide +kernel
theorem dX3_boil_0 : decode cX3_boil 0 = .ok (.aload_n 0, 1) := by decide +kernel
theorem dX3_boil_1 : decode cX3_boil 1 = .ok (.getfield 19, 3) := by decide +kernel
theorem dX3_boil_4 : decode cX3_boil 4 = .ok (.getfield 129, 3) := by decide +kernel
theorem dX3_boil_7 : decode cX3_boil 7 = .ok (.iload_n 1, 1) := by decide +kernel
theorem dX3_boil_8 : decode cX3_boil 8 = .ok (.invokevirtual 115, 3) := by decide +kernel
theorem dX3_boil_11 : decode cX3_boil 11 = .ok (.ifCond .ne 13, 3) := by decide +kernel
theorem dX3_boil_14 : decode cX3_boil 14 = .ok (.new 30, 3) := by decide +kernel
theorem dX3_boil_17 : decode cX3_boil 17 = .ok (.dup, 1) := by decide +kernel
theorem dX3_boil_18 : decode cX3_boil 18 = .ok (.ldc 140, 2) := by decide +kernel
theorem dX3_boil_20 : decode cX3_boil 20 = .ok (.invokespecial 34, 3) := by decide +kernel
theorem dX3_boil_23 : decode cX3_boil 23 = .ok (.athrow, 1) := by decide +kernel
theorem dX3_boil_24 : decode cX3_boil 24 = .ok (.aload_n 0, 1) := by decide +kernel
theorem dX3_boil_25 : decode cX3_boil 25 = .ok (.getfield 19, 3) := by decide +kernel
theorem dX3_boil_28 : decode cX3_boil 28 = .ok (.getfield 129, 3) := by decide +kernel
theorem dX3_boil_31 : decode cX3_boil 31 = .ok (.getfield 142, 3) := by decide +kernel
theorem dX3_boil_34 : decode cX3_boil 34 = .ok (.iload_n 1, 1) := by decide +kernel
theorem dX3_boil_35 : decode cX3_boil 35 = .ok (.aload_n 0, 1) := by decide +kernel
theorem dX3_boil_36 : decode cX3_boil 36 = .ok (.getfield 19, 3) := by decide +kernel
theorem dX3_boil_39 : decode cX3_boil 39 = .ok (.getfield 129, 3) := by decide +kernel
theorem dX3_boil_42 : decode cX3_boil 42 = .ok (.getfield 142, 3) := by decide +kernel
theorem dX3_boil_45 : decode cX3_boil 45 = .ok (.iload_n 1, 1) := by decide +kernel
theorem dX3_boil_46 : decode cX3_boil 46 = .ok (.baload, 1) := by decide +kernel
theorem dX3_boil_47 : decode cX3_boil 47 = .ok (.ifCond .ne 7, 3) := by decide +kernel
theorem dX3_boil_50 : decode cX3_boil 50 = .ok (.iconst 1, 1) := by decide +kernel
theorem dX3_boil_51 : decode cX3_boil 51 = .ok (.goto 4, 3) := by decide +kernel
theorem dX3_boil_54 : decode cX3_boil 54 = .ok (.iconst 0, 1) := by decide +kernel
theorem dX3_boil_55 : decode cX3_boil 55 = .ok (.bastore, 1) := by decide +kernel
theorem dX3_boil_56 : decode cX3_boil 56 = .ok (.aload_n 0, 1) := by decide +kernel
theorem dX3_boil_57 : decode cX3_boil 57 = .ok (.getfield 19, 3) := by decide +kernel
theorem dX3_boil_60 : decode cX3_boil 60 = .ok (.getfield 129, 3) := by decide +kernel
theorem dX3_boil_63 : decode cX3_boil 63 = .ok (.getfield 142, 3) := by decide +kernel
theorem dX3_boil_66 : decode cX3_boil 66 = .ok (.iload_n 1, 1) := by decide +kernel
theorem dX3_boil_67 : decode cX3_boil 67 = .ok (.baload, 1) := by decide +kernel
theorem dX3_boil_68 : decode cX3_boil 68 = .ok (.ireturn, 1) := by decide +kernel
theorem dX3_pour_0 : decode cX3_pour 0 = .ok (.aload_n 0, 1) := by decide +kernel
theorem dX3_pour_1 : decode cX3_pour 1 = .ok (.getfield 19, 3) := by decide +kernel
theorem dX3_pour_4 : decode cX3_pour 4 = .ok (.getfield 129, 3) := by decide +kernel
theorem dX3_pour_7 : decode cX3_pour 7 = .ok (.iload_n 1, 1) := by decide +kernel
theorem dX3_pour_8 : decode cX3_pour 8 = .ok (.invokevirtual 115, 3) := by decide +kernel
theorem dX3_pour_11 : decode cX3_pour 11 = .ok (.ifCond .ne 13, 3) := by decide +kernel
theorem dX3_pour_14 : decode cX3_pour 14 = .ok (.new 30, 3) := by decide +kernel
theorem dX3_pour_17 : decode cX3_pour 17 = .ok (.dup, 1) := by decide +kernel
theorem dX3_pour_18 : decode cX3_pour 18 = .ok (.ldc 140, 2) := by decide +kernel
theorem dX3_pour_20 : decode cX3_pour 20 = .ok (.invokespecial 34, 3) := by decide +kernel
theorem dX3_pour_23 : decode cX3_pour 23 = .ok (.athrow, 1) := by decide +kernel
theorem dX3_pour_24 : decode cX3_pour 24 = .ok (.iload_n 2, 1) := by decide +kernel
theorem dX3_pour_25 : decode cX3_pour 25 = .ok (.iconst 1, 1) := by decide +kernel
theorem dX3_pour_26 : decode cX3_pour 26 = .ok (.bipush 20, 2) := by decide +kernel
theorem dX3_pour_28 : decode cX3_pour 28 = .ok (.invokestatic 26, 3) := by decide +kernel
theorem dX3_pour_31 : decode cX3_pour 31 = .ok (.ifCond .ne 13, 3) := by decide +kernel
theorem dX3_pour_34 : decode cX3_pour 34 = .ok (.new 37, 3) := by decide +kernel
theorem dX3_pour_37 : decode cX3_pour 37 = .ok (.dup, 1) := by decide +kernel
theorem dX3_pour_38 : decode cX3_pour 38 = .ok (.ldc 145, 2) := by decide +kernel
theorem dX3_pour_40 : decode cX3_pour 40 = .ok (.invokespecial 41, 3) := by decide +kernel
theorem dX3_pour_43 : decode cX3_pour 43 = .ok (.athrow, 1) := by decide +kernel
theorem dX3_pour_44 : decode cX3_pour 44 = .ok (.aload_n 0, 1) := by decide +kernel
theorem dX3_pour_45 : decode cX3_pour 45 = .ok (.getfield 19, 3) := by decide +kernel
theorem dX3_pour_48 : decode cX3_pour 48 = .ok (.getfield 52, 3) := by decide +kernel
theorem dX3_pour_51 : decode cX3_pour 51 = .ok (.iload_n 2, 1) := by decide +kernel
theorem dX3_pour_52 : decode cX3_pour 52 = .ok (.if_icmp .lt 18, 3) := by decide +kernel
theorem dX3_pour_55 : decode cX3_pour 55 = .ok (.aload_n 0, 1) := by decide +kernel
theorem dX3_pour_56 : decode cX3_pour 56 = .ok (.getfield 19, 3) := by decide +kernel
theorem dX3_pour_59 : decode cX3_pour 59 = .ok (.getfield 129, 3) := by decide +kernel
theorem dX3_pour_62 : decode cX3_pour 62 = .ok (.getfield 126, 3) := by decide +kernel
theorem dX3_pour_65 : decode cX3_pour 65 = .ok (.iload_n 1, 1) := by decide +kernel
theorem dX3_pour_66 : decode cX3_pour 66 = .ok (.iaload, 1) := by decide +kernel
theorem dX3_pour_67 : decode cX3_pour 67 = .ok (.ifCond .ne 13, 3) := by decide +kernel
theorem dX3_pour_70 : decode cX3_pour 70 = .ok (.new 75, 3) := by decide +kernel
theorem dX3_pour_73 : decode cX3_pour 73 = .ok (.dup, 1) := by decide +kernel
theorem dX3_pour_74 : decode cX3_pour 74 = .ok (.ldc 147, 2) := by decide +kernel
theorem dX3_pour_76 : decode cX3_pour 76 = .ok (.invokespecial 79, 3) := by decide +kernel
theorem dX3_pour_79 : decode cX3_pour 79 = .ok (.athrow, 1) := by decide +kernel
theorem dX3_pour_80 : decode cX3_pour 80 = .ok (.aload_n 0, 1) := by decide +kernel
theorem dX3_pour_81 : decode cX3_pour 81 = .ok (.iload_n 1, 1) := by decide +kernel
theorem dX3_pour_82 : decode cX3_pour 82 = .ok (.iload_n 2, 1) := by decide +kernel
theorem dX3_pour_83 : decode cX3_pour 83 = .ok (.invokevirtual 149, 3) := by decide +kernel
theorem dX3_pour_86 : decode cX3_pour 86 = .ok (.istore_n 3, 1) := by decide +kernel
theorem dX3_pour_87 : decode cX3_pour 87 = .ok (.aload_n 0, 1) := by decide +kernel
theorem dX3_pour_88 : decode cX3_pour 88 = .ok (.getfield 19, 3) := by decide +kernel
theorem dX3_pour_91 : decode cX3_pour 91 = .ok (.getfield 129, 3) := by decide +kernel
theorem dX3_pour_94 : decode cX3_pour 94 = .ok (.iload_n 1, 1) := by decide +kernel
theorem dX3_pour_95 : decode cX3_pour 95 = .ok (.invokevirtual 152, 3) := by decide +kernel
theorem dX3_pour_98 : decode cX3_pour 98 = .ok (.iconst 1, 1) := by decide +kernel
theorem dX3_pour_99 : decode cX3_pour 99 = .ok (.if_icmp .ne 19, 3) := by decide +kernel
theorem dX3_pour_102 : decode cX3_pour 102 = .ok (.aload_n 0, 1) := by decide +kernel
theorem dX3_pour_103 : decode cX3_pour 103 = .ok (.getfield 19, 3) := by decide +kernel
theorem dX3_pour_106 : decode cX3_pour 106 = .ok (.dup, 1) := by decide +kernel
theorem dX3_pour_107 : decode cX3_pour 107 = .ok (.getfield 155, 3) := by decide +kernel
theorem dX3_pour_110 : decode cX3_pour 110 = .ok (.iload_n 3, 1) := by decide +kernel
theorem dX3_pour_111 : decode cX3_pour 111 = .ok (.iadd, 1) := by decide +kernel
theorem dX3_pour_112 : decode cX3_pour 112 = .ok (.putfield 155, 3) := by decide +kernel
theorem dX3_pour_115 : decode cX3_pour 115 = .ok (.goto 16, 3) := by decide +kernel
theorem dX3_pour_118 : decode cX3_pour 118 = .ok (.aload_n 0, 1) := by decide +kernel
theorem dX3_pour_119 : decode cX3_pour 119 = .ok (.getfield 19, 3) := by decide +kernel
theorem dX3_pour_122 : decode cX3_pour 122 = .ok (.dup, 1) := by decide +kernel
theorem dX3_pour_123 : decode cX3_pour 123 = .ok (.getfield 158, 3) := by decide +kernel
theorem dX3_pour_126 : decode cX3_pour 126 = .ok (.iload_n 3, 1) := by decide +kernel
theorem dX3_pour_127 : decode cX3_pour 127 = .ok (.iadd, 1) := by decide +kernel
theorem dX3_pour_128 : decode cX3_pour 128 = .ok (.putfield 158, 3) := by decide +kernel
theorem dX3_pour_131 : decode cX3_pour 131 = .ok (.aload_n 0, 1) := by decide +kernel
theorem dX3_pour_132 : decode cX3_pour 132 = .ok (.getfield 19, 3) := by decide +kernel
theorem dX3_pour_135 : decode cX3_pour 135 = .ok (.dup, 1) := by decide +kernel
theorem dX3_pour_136 : decode cX3_pour 136 = .ok (.getfield 52, 3) := by decide +kernel
theorem dX3_pour_139 : decode cX3_pour 139 = .ok (.iload_n 2, 1) := by decide +kernel
theorem dX3_pour_140 : decode cX3_pour 140 = .ok (.isub, 1) := by decide +kernel
theorem dX3_pour_141 : decode cX3_pour 141 = .ok (.putfield 52, 3) := by decide +kernel
theorem dX3_pour_144 : decode cX3_pour 144 = .ok (.aload_n 0, 1) := by decide +kernel
theorem dX3_pour_145 : decode cX3_pour 145 = .ok (.getfield 19, 3) := by decide +kernel
theorem dX3_pour_148 : decode cX3_pour 148 = .ok (.getfield 129, 3) := by decide +kernel
theorem dX3_pour_151 : decode cX3_pour 151 = .ok (.iload_n 1, 1) := by decide +kernel
theorem dX3_pour_152 : decode cX3_pour 152 = .ok (.invokevirtual 161, 3) := by decide +kernel
theorem dX3_pour_155 : decode cX3_pour 155 = .ok (.iload_n 3, 1) := by decide +kernel
theorem dX3_pour_156 : decode cX3_pour 156 = .ok (.ireturn, 1) := by decide +kernel
theorem dX3_clamp_0 : decode cX3_clamp 0 = .ok (.aload_n 0, 1) := by decide +kernel
theorem dX3_clamp_1 : decode cX3_clamp 1 = .ok (.getfield 19, 3) := by decide +kernel
theorem dX3_clamp_4 : decode cX3_clamp 4 = .ok (.getfield 65, 3) := by decide +kernel
theorem dX3_clamp_7 : decode cX3_clamp 7 = .ok (.iload_n 1, 1) := by decide +kernel
theorem dX3_clamp_8 : decode cX3_clamp 8 = .ok (.invokevirtual 84, 3) := by decide +kernel
theorem dX3_clamp_11 : decode cX3_clamp 11 = .ok (.ifCond .eq 12, 3) := by decide +kernel
theorem dX3_clamp_14 : decode cX3_clamp 14 = .ok (.iload_n 2, 1) := by decide +kernel
theorem dX3_clamp_15 : decode cX3_clamp 15 = .ok (.iconst 0, 1) := by decide +kernel
theorem dX3_clamp_16 : decode cX3_clamp 16 = .ok (.iconst 3, 1) := by decide +kernel
theorem dX3_clamp_17 : decode cX3_clamp 17 = .ok (.invokestatic 26, 3) := by decide +kernel
theorem dX3_clamp_20 : decode cX3_clamp 20 = .ok (.ifCond .ne 13, 3) := by decide +kernel
theorem dX3_clamp_23 : decode cX3_clamp 23 = .ok (.new 30, 3) := by decide +kernel
theorem dX3_clamp_26 : decode cX3_clamp 26 = .ok (.dup, 1) := by decide +kernel
theorem dX3_clamp_27 : decode cX3_clamp 27 = .ok (.ldc 165, 2) := by decide +kernel
theorem dX3_clamp_29 : decode cX3_clamp 29 = .ok (.invokespecial 34, 3) := by decide +kernel
theorem dX3_clamp_32 : decode cX3_clamp 32 = .ok (.athrow, 1) := by decide +kernel
theorem dX3_clamp_33 : decode cX3_clamp 33 = .ok (.aload_n 0, 1) := by decide +kernel
theorem dX3_clamp_34 : decode cX3_clamp 34 = .ok (.getfield 19, 3) := by decide +kernel
theorem dX3_clamp_37 : decode cX3_clamp 37 = .ok (.getfield 65, 3) := by decide +kernel
theorem dX3_clamp_40 : decode cX3_clamp 40 = .ok (.iload_n 1, 1) := by decide +kernel
theorem dX3_clamp_41 : decode cX3_clamp 41 = .ok (.iload_n 2, 1) := by decide +kernel
theorem dX3_clamp_42 : decode cX3_clamp 42 = .ok (.invokevirtual 167, 3) := by decide +kernel
theorem dX3_clamp_45 : decode cX3_clamp 45 = .ok (.ireturn, 1) := by decide +kernel
theorem dX3_pit_0 : decode cX3_pit 0 = .ok (.aload_n 0, 1) := by decide +kernel
theorem dX3_pit_1 : decode cX3_pit 1 = .ok (.getfield 19, 3) := by decide +kernel
theorem dX3_pit_4 : decode cX3_pit 4 = .ok (.getfield 105, 3) := by decide +kernel
theorem dX3_pit_7 : decode cX3_pit 7 = .ok (.iload_n 1, 1) := by decide +kernel
theorem dX3_pit_8 : decode cX3_pit 8 = .ok (.invokevirtual 115, 3) := by decide +kernel
theorem dX3_pit_11 : decode cX3_pit 11 = .ok (.ifCond .eq 12, 3) := by decide +kernel
theorem dX3_pit_14 : decode cX3_pit 14 = .ok (.iload_n 2, 1) := by decide +kernel
theorem dX3_pit_15 : decode cX3_pit 15 = .ok (.iconst 0, 1) := by decide +kernel
theorem dX3_pit_16 : decode cX3_pit 16 = .ok (.iconst 3, 1) := by decide +kernel
theorem dX3_pit_17 : decode cX3_pit 17 = .ok (.invokestatic 26, 3) := by decide +kernel
theorem dX3_pit_20 : decode cX3_pit 20 = .ok (.ifCond .ne 13, 3) := by decide +kernel
theorem dX3_pit_23 : decode cX3_pit 23 = .ok (.new 30, 3) := by decide +kernel
theorem dX3_pit_26 : decode cX3_pit 26 = .ok (.dup, 1) := by decide +kernel
theorem dX3_pit_27 : decode cX3_pit 27 = .ok (.ldc 170, 2) := by decide +kernel
theorem dX3_pit_29 : decode cX3_pit 29 = .ok (.invokespecial 34, 3) := by decide +kernel
theorem dX3_pit_32 : decode cX3_pit 32 = .ok (.athrow, 1) := by decide +kernel
theorem dX3_pit_33 : decode cX3_pit 33 = .ok (.aload_n 0, 1) := by decide +kernel
theorem dX3_pit_34 : decode cX3_pit 34 = .ok (.getfield 19, 3) := by decide +kernel
theorem dX3_pit_37 : decode cX3_pit 37 = .ok (.getfield 105, 3) := by decide +kernel
theorem dX3_pit_40 : decode cX3_pit 40 = .ok (.iload_n 1, 1) := by decide +kernel
theorem dX3_pit_41 : decode cX3_pit 41 = .ok (.iload_n 2, 1) := by decide +kernel
theorem dX3_pit_42 : decode cX3_pit 42 = .ok (.invokevirtual 172, 3) := by decide +kernel
theorem dX3_pit_45 : decode cX3_pit 45 = .ok (.ireturn, 1) := by decide +kernel
theorem dX3_about_0 : decode cX3_about 0 = .ok (.aload_n 0, 1) := by decide +kernel
theorem dX3_about_1 : decode cX3_about 1 = .ok (.getfield 19, 3) := by decide +kernel
theorem dX3_about_4 : decode cX3_about 4 = .ok (.getfield 129, 3) := by decide +kernel
theorem dX3_about_7 : decode cX3_about 7 = .ok (.iload_n 1, 1) := by decide +kernel
theorem dX3_about_8 : decode cX3_about 8 = .ok (.invokevirtual 115, 3) := by decide +kernel
theorem dX3_about_11 : decode cX3_about 11 = .ok (.ifCond .eq 12, 3) := by decide +kernel
theorem dX3_about_14 : decode cX3_about 14 = .ok (.iload_n 2, 1) := by decide +kernel
theorem dX3_about_15 : decode cX3_about 15 = .ok (.iconst 0, 1) := by decide +kernel
theorem dX3_about_16 : decode cX3_about 16 = .ok (.iconst 4, 1) := by decide +kernel
theorem dX3_about_17 : decode cX3_about 17 = .ok (.invokestatic 26, 3) := by decide +kernel
theorem dX3_about_20 : decode cX3_about 20 = .ok (.ifCond .ne 13, 3) := by decide +kernel
theorem dX3_about_23 : decode cX3_about 23 = .ok (.new 30, 3) := by decide +kernel
theorem dX3_about_26 : decode cX3_about 26 = .ok (.dup, 1) := by decide +kernel
theorem dX3_about_27 : decode cX3_about 27 = .ok (.ldc 173, 2) := by decide +kernel
theorem dX3_about_29 : decode cX3_about 29 = .ok (.invokespecial 34, 3) := by decide +kernel
theorem dX3_about_32 : decode cX3_about 32 = .ok (.athrow, 1) := by decide +kernel
theorem dX3_about_33 : decode cX3_about 33 = .ok (.aload_n 0, 1) := by decide +kernel
theorem dX3_about_34 : decode cX3_about 34 = .ok (.getfield 19, 3) := by decide +kernel
theorem dX3_about_37 : decode cX3_about 37 = .ok (.getfield 129, 3) := by decide +kernel
theorem dX3_about_40 : decode cX3_about 40 = .ok (.iload_n 1, 1) := by decide +kernel
theorem dX3_about_41 : decode cX3_about 41 = .ok (.iload_n 2, 1) := by decide +kernel
theorem dX3_about_42 : decode cX3_about 42 = .ok (.invokevirtual 172, 3) := by decide +kernel
theorem dX3_about_45 : decode cX3_about 45 = .ok (.ireturn, 1) := by decide +kernel
theorem dX3_count_0 : decode cX3_count 0 = .ok (.iload_n 1, 1) := by decide +kernel
theorem dX3_count_1 : decode cX3_count 1 = .ok (.iconst 0, 1) := by decide +kernel
theorem dX3_count_2 : decode cX3_count 2 = .ok (.bipush 9, 2) := by decide +kernel
theorem dX3_count_4 : decode cX3_count 4 = .ok (.invokestatic 26, 3) := by decide +kernel
theorem dX3_count_7 : decode cX3_count 7 = .ok (.ifCond .ne 13, 3) := by decide +kernel
theorem dX3_count_10 : decode cX3_count 10 = .ok (.new 30, 3) := by decide +kernel
theorem dX3_count_13 : decode cX3_count 13 = .ok (.dup, 1) := by decide +kernel
theorem dX3_count_14 : decode cX3_count 14 = .ok (.ldc 175, 2) := by decide +kernel
theorem dX3_count_16 : decode cX3_count 16 = .ok (.invokespecial 34, 3) := by decide +kernel
theorem dX3_count_19 : decode cX3_count 19 = .ok (.athrow, 1) := by decide +kernel
theorem dX3_count_20 : decode cX3_count 20 = .ok (.aload_n 0, 1) := by decide +kernel
theorem dX3_count_21 : decode cX3_count 21 = .ok (.aload_n 0, 1) := by decide +kernel
theorem dX3_count_22 : decode cX3_count 22 = .ok (.getfield 19, 3) := by decide +kernel
theorem dX3_count_25 : decode cX3_count 25 = .ok (.iload_n 1, 1) := by decide +kernel
theorem dX3_count_26 : decode cX3_count 26 = .ok (.invokevirtual 177, 3) := by decide +kernel
theorem dX3_count_29 : decode cX3_count 29 = .ok (.ireturn, 1) := by decide +kernel
theorem dX3_pass_0 : decode cX3_pass 0 = .ok (.iload_n 1, 1) := by decide +kernel
theorem dX3_pass_1 : decode cX3_pass 1 = .ok (.iconst 1, 1) := by decide +kernel
theorem dX3_pass_2 : decode cX3_pass 2 = .ok (.bipush 60, 2) := by decide +kernel
theorem dX3_pass_4 : decode cX3_pass 4 = .ok (.invokestatic 26, 3) := by decide +kernel
theorem dX3_pass_7 : decode cX3_pass 7 = .ok (.ifCond .ne 13, 3) := by decide +kernel
theorem dX3_pass_10 : decode cX3_pass 10 = .ok (.new 37, 3) := by decide +kernel
theorem dX3_pass_13 : decode cX3_pass 13 = .ok (.dup, 1) := by decide +kernel
theorem dX3_pass_14 : decode cX3_pass 14 = .ok (.ldc 181, 2) := by decide +kernel
theorem dX3_pass_16 : decode cX3_pass 16 = .ok (.invokespecial 41, 3) := by decide +kernel
theorem dX3_pass_19 : decode cX3_pass 19 = .ok (.athrow, 1) := by decide +kernel
theorem dX3_pass_20 : decode cX3_pass 20 = .ok (.aload_n 0, 1) := by decide +kernel
theorem dX3_pass_21 : decode cX3_pass 21 = .ok (.getfield 19, 3) := by decide +kernel
theorem dX3_pass_24 : decode cX3_pass 24 = .ok (.getfield 183, 3) := by decide +kernel
theorem dX3_pass_27 : decode cX3_pass 27 = .ok (.istore_n 2, 1) := by decide +kernel
theorem dX3_pass_28 : decode cX3_pass 28 = .ok (.aload_n 0, 1) := by decide +kernel
theorem dX3_pass_29 : decode cX3_pass 29 = .ok (.aload_n 0, 1) := by decide +kernel
theorem dX3_pass_30 : decode cX3_pass 30 = .ok (.getfield 19, 3) := by decide +kernel
theorem dX3_pass_33 : decode cX3_pass 33 = .ok (.iload_n 1, 1) := by decide +kernel
theorem dX3_pass_34 : decode cX3_pass 34 = .ok (.invokevirtual 186, 3) := by decide +kernel
theorem dX3_pass_37 : decode cX3_pass 37 = .ok (.aload_n 0, 1) := by decide +kernel
theorem dX3_pass_38 : decode cX3_pass 38 = .ok (.getfield 19, 3) := by decide +kernel
theorem dX3_pass_41 : decode cX3_pass 41 = .ok (.getfield 183, 3) := by decide +kernel
theorem dX3_pass_44 : decode cX3_pass 44 = .ok (.iload_n 2, 1) := by decide +kernel
theorem dX3_pass_45 : decode cX3_pass 45 = .ok (.isub, 1) := by decide +kernel
theorem dX3_pass_46 : decode cX3_pass 46 = .ok (.ireturn, 1) := by decide +kernel
theorem dX3_right_0 : decode cX3_right 0 = .ok (.aload_n 0, 1) := by decide +kernel
theorem dX3_right_1 : decode cX3_right 1 = .ok (.getfield 19, 3) := by decide +kernel
theorem dX3_right_4 : decode cX3_right 4 = .ok (.getfield 129, 3) := by decide +kernel
theorem dX3_right_7 : decode cX3_right 7 = .ok (.iload_n 1, 1) := by decide +kernel
theorem dX3_right_8 : decode cX3_right 8 = .ok (.invokevirtual 115, 3) := by decide +kernel
theorem dX3_right_11 : decode cX3_right 11 = .ok (.ifCond .ne 13, 3) := by decide +kernel
theorem dX3_right_14 : decode cX3_right 14 = .ok (.new 30, 3) := by decide +kernel
theorem dX3_right_17 : decode cX3_right 17 = .ok (.dup, 1) := by decide +kernel
theorem dX3_right_18 : decode cX3_right 18 = .ok (.ldc 140, 2) := by decide +kernel
theorem dX3_right_20 : decode cX3_right 20 = .ok (.invokespecial 34, 3) := by decide +kernel
theorem dX3_right_23 : decode cX3_right 23 = .ok (.athrow, 1) := by decide +kernel
theorem dX3_right_24 : decode cX3_right 24 = .ok (.aload_n 0, 1) := by decide +kernel
theorem dX3_right_25 : decode cX3_right 25 = .ok (.getfield 23, 3) := by decide +kernel
theorem dX3_right_28 : decode cX3_right 28 = .ok (.aload_n 0, 1) := by decide +kernel
theorem dX3_right_29 : decode cX3_right 29 = .ok (.getfield 19, 3) := by decide +kernel
theorem dX3_right_32 : decode cX3_right 32 = .ok (.invokevirtual 190, 3) := by decide +kernel
theorem dX3_right_35 : decode cX3_right 35 = .ok (.iconst 0, 1) := by decide +kernel
theorem dX3_right_36 : decode cX3_right 36 = .ok (.istore_n 2, 1) := by decide +kernel
theorem dX3_right_37 : decode cX3_right 37 = .ok (.iload_n 2, 1) := by decide +kernel
theorem dX3_right_38 : decode cX3_right 38 = .ok (.bipush 60, 2) := by decide +kernel
theorem dX3_right_40 : decode cX3_right 40 = .ok (.if_icmp .gt 35, 3) := by decide +kernel
theorem dX3_right_43 : decode cX3_right 43 = .ok (.aload_n 0, 1) := by decide +kernel
theorem dX3_right_44 : decode cX3_right 44 = .ok (.getfield 23, 3) := by decide +kernel
theorem dX3_right_47 : decode cX3_right 47 = .ok (.getfield 129, 3) := by decide +kernel
theorem dX3_right_50 : decode cX3_right 50 = .ok (.iload_n 1, 1) := by decide +kernel
theorem dX3_right_51 : decode cX3_right 51 = .ok (.invokevirtual 152, 3) := by decide +kernel
theorem dX3_right_54 : decode cX3_right 54 = .ok (.iconst 1, 1) := by decide +kernel
theorem dX3_right_55 : decode cX3_right 55 = .ok (.if_icmp .ne 5, 3) := by decide +kernel
theorem dX3_right_58 : decode cX3_right 58 = .ok (.iload_n 2, 1) := by decide +kernel
theorem dX3_right_59 : decode cX3_right 59 = .ok (.ireturn, 1) := by decide +kernel
theorem dX3_right_60 : decode cX3_right 60 = .ok (.aload_n 0, 1) := by decide +kernel
theorem dX3_right_61 : decode cX3_right 61 = .ok (.aload_n 0, 1) := by decide +kernel
theorem dX3_right_62 : decode cX3_right 62 = .ok (.getfield 23, 3) := by decide +kernel
theorem dX3_right_65 : decode cX3_right 65 = .ok (.iconst 1, 1) := by decide +kernel
theorem dX3_right_66 : decode cX3_right 66 = .ok (.invokevirtual 186, 3) := by decide +kernel
theorem dX3_right_69 : decode cX3_right 69 = .ok (.iinc 2 1, 3) := by decide +kernel
theorem dX3_right_72 : decode cX3_right 72 = .ok (.goto (-35), 3) := by decide +kernel
theorem dX3_right_75 : decode cX3_right 75 = .ok (.iconst (-1), 1) := by decide +kernel
theorem dX3_right_76 : decode cX3_right 76 = .ok (.ireturn, 1) := by decide +kernel
theorem dX3_foresee_0 : decode cX3_foresee 0 = .ok (.iload_n 1, 1) := by decide +kernel
theorem dX3_foresee_1 : decode cX3_foresee 1 = .ok (.iconst 1, 1) := by decide +kernel
theorem dX3_foresee_2 : decode cX3_foresee 2 = .ok (.bipush 60, 2) := by decide +kernel
theorem dX3_foresee_4 : decode cX3_foresee 4 = .ok (.invokestatic 26, 3) := by decide +kernel
theorem dX3_foresee_7 : decode cX3_foresee 7 = .ok (.ifCond .ne 13, 3) := by decide +kernel
theorem dX3_foresee_10 : decode cX3_foresee 10 = .ok (.new 37, 3) := by decide +kernel
theorem dX3_foresee_13 : decode cX3_foresee 13 = .ok (.dup, 1) := by decide +kernel
theorem dX3_foresee_14 : decode cX3_foresee 14 = .ok (.ldc 181, 2) := by decide +kernel
theorem dX3_foresee_16 : decode cX3_foresee 16 = .ok (.invokespecial 41, 3) := by decide +kernel
theorem dX3_foresee_19 : decode cX3_foresee 19 = .ok (.athrow, 1) := by decide +kernel
theorem dX3_foresee_20 : decode cX3_foresee 20 = .ok (.iload_n 2, 1) := by decide +kernel
theorem dX3_foresee_21 : decode cX3_foresee 21 = .ok (.iconst 2, 1) := by decide +kernel
theorem dX3_foresee_22 : decode cX3_foresee 22 = .ok (.if_icmp .eq 23, 3) := by decide +kernel
theorem dX3_foresee_25 : decode cX3_foresee 25 = .ok (.iload_n 2, 1) := by decide +kernel
theorem dX3_foresee_26 : decode cX3_foresee 26 = .ok (.iconst 4, 1) := by decide +kernel
theorem dX3_foresee_27 : decode cX3_foresee 27 = .ok (.bipush 7, 2) := by decide +kernel
theorem dX3_foresee_29 : decode cX3_foresee 29 = .ok (.invokestatic 26, 3) := by decide +kernel
theorem dX3_foresee_32 : decode cX3_foresee 32 = .ok (.ifCond .ne 13, 3) := by decide +kernel
theorem dX3_foresee_35 : decode cX3_foresee 35 = .ok (.new 30, 3) := by decide +kernel
theorem dX3_foresee_38 : decode cX3_foresee 38 = .ok (.dup, 1) := by decide +kernel
theorem dX3_foresee_39 : decode cX3_foresee 39 = .ok (.ldc 194, 2) := by decide +kernel
theorem dX3_foresee_41 : decode cX3_foresee 41 = .ok (.invokespecial 34, 3) := by decide +kernel
theorem dX3_foresee_44 : decode cX3_foresee 44 = .ok (.athrow, 1) := by decide +kernel
theorem dX3_foresee_45 : decode cX3_foresee 45 = .ok (.aload_n 0, 1) := by decide +kernel
theorem dX3_foresee_46 : decode cX3_foresee 46 = .ok (.getfield 23, 3) := by decide +kernel
theorem dX3_foresee_49 : decode cX3_foresee 49 = .ok (.aload_n 0, 1) := by decide +kernel
theorem dX3_foresee_50 : decode cX3_foresee 50 = .ok (.getfield 19, 3) := by decide +kernel
theorem dX3_foresee_53 : decode cX3_foresee 53 = .ok (.invokevirtual 190, 3) := by decide +kernel
theorem dX3_foresee_56 : decode cX3_foresee 56 = .ok (.aload_n 0, 1) := by decide +kernel
theorem dX3_foresee_57 : decode cX3_foresee 57 = .ok (.aload_n 0, 1) := by decide +kernel
theorem dX3_foresee_58 : decode cX3_foresee 58 = .ok (.getfield 23, 3) := by decide +kernel
theorem dX3_foresee_61 : decode cX3_foresee 61 = .ok (.iload_n 1, 1) := by decide +kernel
theorem dX3_foresee_62 : decode cX3_foresee 62 = .ok (.invokevirtual 186, 3) := by decide +kernel
theorem dX3_foresee_65 : decode cX3_foresee 65 = .ok (.aload_n 0, 1) := by decide +kernel
theorem dX3_foresee_66 : decode cX3_foresee 66 = .ok (.aload_n 0, 1) := by decide +kernel
theorem dX3_foresee_67 : decode cX3_foresee 67 = .ok (.getfield 23, 3) := by decide +kernel
theorem dX3_foresee_70 : decode cX3_foresee 70 = .ok (.iload_n 2, 1) := by decide +kernel
theorem dX3_foresee_71 : decode cX3_foresee 71 = .ok (.invokevirtual 177, 3) := by decide +kernel
theorem dX3_foresee_74 : decode cX3_foresee 74 = .ok (.ireturn, 1) := by decide +kernel
theorem dX3_barrels_0 : decode cX3_barrels 0 = .ok (.aload_n 0, 1) := by decide +kernel
theorem dX3_barrels_1 : decode cX3_barrels 1 = .ok (.getfield 19, 3) := by decide +kernel
theorem dX3_barrels_4 : decode cX3_barrels 4 = .ok (.getfield 129, 3) := by decide +kernel
theorem dX3_barrels_7 : decode cX3_barrels 7 = .ok (.iload_n 1, 1) := by decide +kernel
theorem dX3_barrels_8 : decode cX3_barrels 8 = .ok (.invokevirtual 115, 3) := by decide +kernel
theorem dX3_barrels_11 : decode cX3_barrels 11 = .ok (.ifCond .ne 13, 3) := by decide +kernel
theorem dX3_barrels_14 : decode cX3_barrels 14 = .ok (.new 30, 3) := by decide +kernel
theorem dX3_barrels_17 : decode cX3_barrels 17 = .ok (.dup, 1) := by decide +kernel
theorem dX3_barrels_18 : decode cX3_barrels 18 = .ok (.ldc 140, 2) := by decide +kernel
theorem dX3_barrels_20 : decode cX3_barrels 20 = .ok (.invokespecial 34, 3) := by decide +kernel
theorem dX3_barrels_23 : decode cX3_barrels 23 = .ok (.athrow, 1) := by decide +kernel
theorem dX3_barrels_24 : decode cX3_barrels 24 = .ok (.aload_n 0, 1) := by decide +kernel
theorem dX3_barrels_25 : decode cX3_barrels 25 = .ok (.getfield 19, 3) := by decide +kernel
theorem dX3_barrels_28 : decode cX3_barrels 28 = .ok (.getfield 129, 3) := by decide +kernel
theorem dX3_barrels_31 : decode cX3_barrels 31 = .ok (.getfield 126, 3) := by decide +kernel
theorem dX3_barrels_34 : decode cX3_barrels 34 = .ok (.iload_n 1, 1) := by decide +kernel
theorem dX3_barrels_35 : decode cX3_barrels 35 = .ok (.iaload, 1) := by decide +kernel
theorem dX3_barrels_36 : decode cX3_barrels 36 = .ok (.ifCond .ne 5, 3) := by decide +kernel
theorem dX3_barrels_39 : decode cX3_barrels 39 = .ok (.iconst (-1), 1) := by decide +kernel
theorem dX3_barrels_40 : decode cX3_barrels 40 = .ok (.ireturn, 1) := by decide +kernel
theorem dX3_barrels_41 : decode cX3_barrels 41 = .ok (.iconst 1, 1) := by decide +kernel
theorem dX3_barrels_42 : decode cX3_barrels 42 = .ok (.istore_n 2, 1) := by decide +kernel
theorem dX3_barrels_43 : decode cX3_barrels 43 = .ok (.iconst 2, 1) := by decide +kernel
theorem dX3_barrels_44 : decode cX3_barrels 44 = .ok (.istore_n 3, 1) := by decide +kernel
theorem dX3_barrels_45 : decode cX3_barrels 45 = .ok (.iload_n 3, 1) := by decide +kernel
theorem dX3_barrels_46 : decode cX3_barrels 46 = .ok (.bipush 20, 2) := by decide +kernel
theorem dX3_barrels_48 : decode cX3_barrels 48 = .ok (.if_icmp .gt 26, 3) := by decide +kernel
theorem dX3_barrels_51 : decode cX3_barrels 51 = .ok (.aload_n 0, 1) := by decide +kernel
theorem dX3_barrels_52 : decode cX3_barrels 52 = .ok (.iload_n 1, 1) := by decide +kernel
theorem dX3_barrels_53 : decode cX3_barrels 53 = .ok (.iload_n 3, 1) := by decide +kernel
theorem dX3_barrels_54 : decode cX3_barrels 54 = .ok (.invokevirtual 149, 3) := by decide +kernel
theorem dX3_barrels_57 : decode cX3_barrels 57 = .ok (.aload_n 0, 1) := by decide +kernel
theorem dX3_barrels_58 : decode cX3_barrels 58 = .ok (.iload_n 1, 1) := by decide +kernel
theorem dX3_barrels_59 : decode cX3_barrels 59 = .ok (.iload_n 2, 1) := by decide +kernel
theorem dX3_barrels_60 : decode cX3_barrels 60 = .ok (.invokevirtual 149, 3) := by decide +kernel
theorem dX3_barrels_63 : decode cX3_barrels 63 = .ok (.if_icmp .le 5, 3) := by decide +kernel
theorem dX3_barrels_66 : decode cX3_barrels 66 = .ok (.iload_n 3, 1) := by decide +kernel
theorem dX3_barrels_67 : decode cX3_barrels 67 = .ok (.istore_n 2, 1) := by decide +kernel
theorem dX3_barrels_68 : decode cX3_barrels 68 = .ok (.iinc 3 1, 3) := by decide +kernel
theorem dX3_barrels_71 : decode cX3_barrels 71 = .ok (.goto (-26), 3) := by decide +kernel
theorem dX3_barrels_74 : decode cX3_barrels 74 = .ok (.iload_n 2, 1) := by decide +kernel
theorem dX3_barrels_75 : decode cX3_barrels 75 = .ok (.ireturn, 1) := by decide +kernel
theorem dX3_dry_0 : decode cX3_dry 0 = .ok (.aload_n 0, 1) := by decide +kernel
theorem dX3_dry_1 : decode cX3_dry 1 = .ok (.getfield 19, 3) := by decide +kernel
theorem dX3_dry_4 : decode cX3_dry 4 = .ok (.getfield 105, 3) := by decide +kernel
theorem dX3_dry_7 : decode cX3_dry 7 = .ok (.iload_n 1, 1) := by decide +kernel
theorem dX3_dry_8 : decode cX3_dry 8 = .ok (.invokevirtual 115, 3) := by decide +kernel
theorem dX3_dry_11 : decode cX3_dry 11 = .ok (.ifCond .ne 13, 3) := by decide +kernel
theorem dX3_dry_14 : decode cX3_dry 14 = .ok (.new 30, 3) := by decide +kernel
theorem dX3_dry_17 : decode cX3_dry 17 = .ok (.dup, 1) := by decide +kernel
theorem dX3_dry_18 : decode cX3_dry 18 = .ok (.ldc 196, 2) := by decide +kernel
theorem dX3_dry_20 : decode cX3_dry 20 = .ok (.invokespecial 34, 3) := by decide +kernel
theorem dX3_dry_23 : decode cX3_dry 23 = .ok (.athrow, 1) := by decide +kernel
theorem dX3_dry_24 : decode cX3_dry 24 = .ok (.aload_n 0, 1) := by decide +kernel
theorem dX3_dry_25 : decode cX3_dry 25 = .ok (.getfield 19, 3) := by decide +kernel
theorem dX3_dry_28 : decode cX3_dry 28 = .ok (.getfield 105, 3) := by decide +kernel
theorem dX3_dry_31 : decode cX3_dry 31 = .ok (.getfield 121, 3) := by decide +kernel
theorem dX3_dry_34 : decode cX3_dry 34 = .ok (.iload_n 1, 1) := by decide +kernel
theorem dX3_dry_35 : decode cX3_dry 35 = .ok (.iaload, 1) := by decide +kernel
theorem dX3_dry_36 : decode cX3_dry 36 = .ok (.istore_n 2, 1) := by decide +kernel
theorem dX3_dry_37 : decode cX3_dry 37 = .ok (.aload_n 0, 1) := by decide +kernel
theorem dX3_dry_38 : decode cX3_dry 38 = .ok (.getfield 19, 3) := by decide +kernel
theorem dX3_dry_41 : decode cX3_dry 41 = .ok (.getfield 105, 3) := by decide +kernel
theorem dX3_dry_44 : decode cX3_dry 44 = .ok (.getfield 126, 3) := by decide +kernel
theorem dX3_dry_47 : decode cX3_dry 47 = .ok (.iload_n 1, 1) := by decide +kernel
theorem dX3_dry_48 : decode cX3_dry 48 = .ok (.iaload, 1) := by decide +kernel
theorem dX3_dry_49 : decode cX3_dry 49 = .ok (.istore_n 3, 1) := by decide +kernel
theorem dX3_dry_50 : decode cX3_dry 50 = .ok (.iload_n 3, 1) := by decide +kernel
theorem dX3_dry_51 : decode cX3_dry 51 = .ok (.ifCond .ne 5, 3) := by decide +kernel
theorem dX3_dry_54 : decode cX3_dry 54 = .ok (.iconst (-1), 1) := by decide +kernel
theorem dX3_dry_55 : decode cX3_dry 55 = .ok (.ireturn, 1) := by decide +kernel
theorem dX3_dry_56 : decode cX3_dry 56 = .ok (.iconst 0, 1) := by decide +kernel
theorem dX3_dry_57 : decode cX3_dry 57 = .ok (.istore 4, 2) := by decide +kernel
theorem dX3_dry_59 : decode cX3_dry 59 = .ok (.iload 4, 2) := by decide +kernel
theorem dX3_dry_61 : decode cX3_dry 61 = .ok (.iload_n 2, 1) := by decide +kernel
theorem dX3_dry_62 : decode cX3_dry 62 = .ok (.if_icmp .ge 23, 3) := by decide +kernel
theorem dX3_dry_65 : decode cX3_dry 65 = .ok (.iload_n 2, 1) := by decide +kernel
theorem dX3_dry_66 : decode cX3_dry 66 = .ok (.iload 4, 2) := by decide +kernel
theorem dX3_dry_68 : decode cX3_dry 68 = .ok (.isub, 1) := by decide +kernel
theorem dX3_dry_69 : decode cX3_dry 69 = .ok (.iload_n 3, 1) := by decide +kernel
theorem dX3_dry_70 : decode cX3_dry 70 = .ok (.invokestatic 198, 3) := by decide +kernel
theorem dX3_dry_73 : decode cX3_dry 73 = .ok (.invokestatic 201, 3) := by decide +kernel
theorem dX3_dry_76 : decode cX3_dry 76 = .ok (.ifCond .ne 9, 3) := by decide +kernel
theorem dX3_dry_79 : decode cX3_dry 79 = .ok (.iinc 4 1, 3) := by decide +kernel
theorem dX3_dry_82 : decode cX3_dry 82 = .ok (.goto (-23), 3) := by decide +kernel
theorem dX3_dry_85 : decode cX3_dry 85 = .ok (.iload 4, 2) := by decide +kernel
theorem dX3_dry_87 : decode cX3_dry 87 = .ok (.ireturn, 1) := by decide +kernel
theorem dX3_mean_0 : decode cX3_mean 0 = .ok (.aload_n 0, 1) := by decide +kernel
theorem dX3_mean_1 : decode cX3_mean 1 = .ok (.getfield 19, 3) := by decide +kernel
theorem dX3_mean_4 : decode cX3_mean 4 = .ok (.getfield 105, 3) := by decide +kernel
theorem dX3_mean_7 : decode cX3_mean 7 = .ok (.invokevirtual 204, 3) := by decide +kernel
theorem dX3_mean_10 : decode cX3_mean 10 = .ok (.aload_n 0, 1) := by decide +kernel
theorem dX3_mean_11 : decode cX3_mean 11 = .ok (.getfield 19, 3) := by decide +kernel
theorem dX3_mean_14 : decode cX3_mean 14 = .ok (.getfield 129, 3) := by decide +kernel
theorem dX3_mean_17 : decode cX3_mean 17 = .ok (.invokevirtual 204, 3) := by decide +kernel
theorem dX3_mean_20 : decode cX3_mean 20 = .ok (.iadd, 1) := by decide +kernel
theorem dX3_mean_21 : decode cX3_mean 21 = .ok (.istore_n 1, 1) := by decide +kernel
theorem dX3_mean_22 : decode cX3_mean 22 = .ok (.iload_n 1, 1) := by decide +kernel
theorem dX3_mean_23 : decode cX3_mean 23 = .ok (.ifCond .ne 5, 3) := by decide +kernel
theorem dX3_mean_26 : decode cX3_mean 26 = .ok (.dconst 0, 1) := by decide +kernel
theorem dX3_mean_27 : decode cX3_mean 27 = .ok (.dreturn, 1) := by decide +kernel
theorem dX3_mean_28 : decode cX3_mean 28 = .ok (.aload_n 0, 1) := by decide +kernel
theorem dX3_mean_29 : decode cX3_mean 29 = .ok (.getfield 19, 3) := by decide +kernel
theorem dX3_mean_32 : decode cX3_mean 32 = .ok (.getfield 105, 3) := by decide +kernel
theorem dX3_mean_35 : decode cX3_mean 35 = .ok (.invokevirtual 208, 3) := by decide +kernel
theorem dX3_mean_38 : decode cX3_mean 38 = .ok (.aload_n 0, 1) := by decide +kernel
theorem dX3_mean_39 : decode cX3_mean 39 = .ok (.getfield 19, 3) := by decide +kernel
theorem dX3_mean_42 : decode cX3_mean 42 = .ok (.getfield 129, 3) := by decide +kernel
theorem dX3_mean_45 : decode cX3_mean 45 = .ok (.invokevirtual 208, 3) := by decide +kernel
theorem dX3_mean_48 : decode cX3_mean 48 = .ok (.iadd, 1) := by decide +kernel
theorem dX3_mean_49 : decode cX3_mean 49 = .ok (.i2d, 1) := by decide +kernel
theorem dX3_mean_50 : decode cX3_mean 50 = .ok (.iload_n 1, 1) := by decide +kernel
theorem dX3_mean_51 : decode cX3_mean 51 = .ok (.i2d, 1) := by decide +kernel
theorem dX3_mean_52 : decode cX3_mean 52 = .ok (.ddiv, 1) := by decide +kernel
theorem dX3_mean_53 : decode cX3_mean 53 = .ok (.dreturn, 1) := by decide +kernel
theorem dX3_within_0 : decode cX3_within 0 = .ok (.iload_n 0, 1) := by decide +kernel
theorem dX3_within_1 : decode cX3_within 1 = .ok (.iload_n 1, 1) := by decide +kernel
theorem dX3_within_2 : decode cX3_within 2 = .ok (.if_icmp .lt 12, 3) := by decide +kernel
theorem dX3_within_5 : decode cX3_within 5 = .ok (.iload_n 0, 1) := by decide +kernel
theorem dX3_within_6 : decode cX3_within 6 = .ok (.iload_n 2, 1) := by decide +kernel
theorem dX3_within_7 : decode cX3_within 7 = .ok (.if_icmp .gt 7, 3) := by decide +kernel
theorem dX3_within_10 : decode cX3_within 10 = .ok (.iconst 1, 1) := by decide +kernel
theorem dX3_within_11 : decode cX3_within 11 = .ok (.goto 4, 3) := by decide +kernel
theorem dX3_within_14 : decode cX3_within 14 = .ok (.iconst 0, 1) := by decide +kernel
theorem dX3_within_15 : decode cX3_within 15 = .ok (.ireturn, 1) := by decide +kernel
theorem dX3_strengthOf_0 : decode cX3_strengthOf 0 = .ok (.iload_n 0, 1) := by decide +kernel
theorem dX3_strengthOf_1 : decode cX3_strengthOf 1 = .ok (.iload_n 1, 1) := by decide +kernel
theorem dX3_strengthOf_2 : decode cX3_strengthOf 2 = .ok (.iadd, 1) := by decide +kernel
theorem dX3_strengthOf_3 : decode cX3_strengthOf 3 = .ok (.istore_n 2, 1) := by decide +kernel
theorem dX3_strengthOf_4 : decode cX3_strengthOf 4 = .ok (.iload_n 2, 1) := by decide +kernel
theorem dX3_strengthOf_5 : decode cX3_strengthOf 5 = .ok (.ifCond .gt 7, 3) := by decide +kernel
theorem dX3_strengthOf_8 : decode cX3_strengthOf 8 = .ok (.iconst 0, 1) := by decide +kernel
theorem dX3_strengthOf_9 : decode cX3_strengthOf 9 = .ok (.goto 9, 3) := by decide +kernel
theorem dX3_strengthOf_12 : decode cX3_strengthOf 12 = .ok (.bipush 100, 2) := by decide +kernel
theorem dX3_strengthOf_14 : decode cX3_strengthOf 14 = .ok (.iload_n 1, 1) := by decide +kernel
theorem dX3_strengthOf_15 : decode cX3_strengthOf 15 = .ok (.imul, 1) := by decide +kernel
theorem dX3_strengthOf_16 : decode cX3_strengthOf 16 = .ok (.iload_n 2, 1) := by decide +kernel
theorem dX3_strengthOf_17 : decode cX3_strengthOf 17 = .ok (.idiv, 1) := by decide +kernel
theorem dX3_strengthOf_18 : decode cX3_strengthOf 18 = .ok (.ireturn, 1) := by decide +kernel
theorem dX3_eggBy_0 : decode cX3_eggBy 0 = .ok (.iload_n 0, 1) := by decide +kernel
theorem dX3_eggBy_1 : decode cX3_eggBy 1 = .ok (.bipush 20, 2) := by decide +kernel
theorem dX3_eggBy_3 : decode cX3_eggBy 3 = .ok (.if_icmp .ge 5, 3) := by decide +kernel
theorem dX3_eggBy_6 : decode cX3_eggBy 6 = .ok (.iconst 0, 1) := by decide +kernel
theorem dX3_eggBy_7 : decode cX3_eggBy 7 = .ok (.ireturn, 1) := by decide +kernel
theorem dX3_eggBy_8 : decode cX3_eggBy 8 = .ok (.iload_n 0, 1) := by decide +kernel
theorem dX3_eggBy_9 : decode cX3_eggBy 9 = .ok (.bipush 35, 2) := by decide +kernel
theorem dX3_eggBy_11 : decode cX3_eggBy 11 = .ok (.if_icmp .ge 7, 3) := by decide +kernel
theorem dX3_eggBy_14 : decode cX3_eggBy 14 = .ok (.iconst 1, 1) := by decide +kernel
theorem dX3_eggBy_15 : decode cX3_eggBy 15 = .ok (.goto 4, 3) := by decide +kernel
theorem dX3_eggBy_18 : decode cX3_eggBy 18 = .ok (.iconst 2, 1) := by decide +kernel
theorem dX3_eggBy_19 : decode cX3_eggBy 19 = .ok (.ireturn, 1) := by decide +kernel
theorem dX3_crystalsByBarrel_0 : decode cX3_crystalsByBarrel 0 = .ok (.iload_n 0, 1) := by decide +kernel
theorem dX3_crystalsByBarrel_1 : decode cX3_crystalsByBarrel 1 = .ok (.ifCond .ne 5, 3) := by decide +kernel
theorem dX3_crystalsByBarrel_4 : decode cX3_crystalsByBarrel 4 = .ok (.iconst 2, 1) := by decide +kernel
theorem dX3_crystalsByBarrel_5 : decode cX3_crystalsByBarrel 5 = .ok (.ireturn, 1) := by decide +kernel
theorem dX3_crystalsByBarrel_6 : decode cX3_crystalsByBarrel 6 = .ok (.iload_n 0, 1) := by decide +kernel
theorem dX3_crystalsByBarrel_7 : decode cX3_crystalsByBarrel 7 = .ok (.iconst 1, 1) := by decide +kernel
theorem dX3_crystalsByBarrel_8 : decode cX3_crystalsByBarrel 8 = .ok (.if_icmp .ne 7, 3) := by decide +kernel
theorem dX3_crystalsByBarrel_11 : decode cX3_crystalsByBarrel 11 = .ok (.iconst 5, 1) := by decide +kernel
theorem dX3_crystalsByBarrel_12 : decode cX3_crystalsByBarrel 12 = .ok (.goto 4, 3) := by decide +kernel
theorem dX3_crystalsByBarrel_15 : decode cX3_crystalsByBarrel 15 = .ok (.iconst 3, 1) := by decide +kernel
theorem dX3_crystalsByBarrel_16 : decode cX3_crystalsByBarrel 16 = .ok (.ireturn, 1) := by decide +kernel
theorem dX3_crystalsOf_0 : decode cX3_crystalsOf 0 = .ok (.aload_n 0, 1) := by decide +kernel
theorem dX3_crystalsOf_1 : decode cX3_crystalsOf 1 = .ok (.getfield 19, 3) := by decide +kernel
theorem dX3_crystalsOf_4 : decode cX3_crystalsOf 4 = .ok (.getfield 129, 3) := by decide +kernel
theorem dX3_crystalsOf_7 : decode cX3_crystalsOf 7 = .ok (.getfield 126, 3) := by decide +kernel
theorem dX3_crystalsOf_10 : decode cX3_crystalsOf 10 = .ok (.iload_n 1, 1) := by decide +kernel
theorem dX3_crystalsOf_11 : decode cX3_crystalsOf 11 = .ok (.iaload, 1) := by decide +kernel
theorem dX3_crystalsOf_12 : decode cX3_crystalsOf 12 = .ok (.aload_n 0, 1) := by decide +kernel
theorem dX3_crystalsOf_13 : decode cX3_crystalsOf 13 = .ok (.getfield 19, 3) := by decide +kernel
theorem dX3_crystalsOf_16 : decode cX3_crystalsOf 16 = .ok (.getfield 129, 3) := by decide +kernel
theorem dX3_crystalsOf_19 : decode cX3_crystalsOf 19 = .ok (.iload_n 1, 1) := by decide +kernel
theorem dX3_crystalsOf_20 : decode cX3_crystalsOf 20 = .ok (.invokevirtual 152, 3) := by decide +kernel
theorem dX3_crystalsOf_23 : decode cX3_crystalsOf 23 = .ok (.invokestatic 224, 3) := by decide +kernel
theorem dX3_crystalsOf_26 : decode cX3_crystalsOf 26 = .ok (.iload_n 2, 1) := by decide +kernel
theorem dX3_crystalsOf_27 : decode cX3_crystalsOf 27 = .ok (.imul, 1) := by decide +kernel
theorem dX3_crystalsOf_28 : decode cX3_crystalsOf 28 = .ok (.invokestatic 46, 3) := by decide +kernel
theorem dX3_crystalsOf_31 : decode cX3_crystalsOf 31 = .ok (.ireturn, 1) := by decide +kernel
theorem dX3_rainOf_0 : decode cX3_rainOf 0 = .ok (.aload_n 0, 1) := by decide +kernel
theorem dX3_rainOf_1 : decode cX3_rainOf 1 = .ok (.getfield 9, 3) := by decide +kernel
theorem dX3_rainOf_4 : decode cX3_rainOf 4 = .ok (.iload_n 1, 1) := by decide +kernel
theorem dX3_rainOf_5 : decode cX3_rainOf 5 = .ok (.bipush 6, 2) := by decide +kernel
theorem dX3_rainOf_7 : decode cX3_rainOf 7 = .ok (.invokestatic 227, 3) := by decide +kernel
theorem dX3_rainOf_10 : decode cX3_rainOf 10 = .ok (.iaload, 1) := by decide +kernel
theorem dX3_rainOf_11 : decode cX3_rainOf 11 = .ok (.ireturn, 1) := by decide +kernel
theorem dX3_shipOf_0 : decode cX3_shipOf 0 = .ok (.aload_n 0, 1) := by decide +kernel
theorem dX3_shipOf_1 : decode cX3_shipOf 1 = .ok (.getfield 13, 3) := by decide +kernel
theorem dX3_shipOf_4 : decode cX3_shipOf 4 = .ok (.iload_n 1, 1) := by decide +kernel
theorem dX3_shipOf_5 : decode cX3_shipOf 5 = .ok (.bipush 7, 2) := by decide +kernel
theorem dX3_shipOf_7 : decode cX3_shipOf 7 = .ok (.invokestatic 227, 3) := by decide +kernel
theorem dX3_shipOf_10 : decode cX3_shipOf 10 = .ok (.iaload, 1) := by decide +kernel
theorem dX3_shipOf_11 : decode cX3_shipOf 11 = .ok (.ireturn, 1) := by decide +kernel
theorem dX3_goOn_0 : decode cX3_goOn 0 = .ok (.iconst 0, 1) := by decide +kernel
theorem dX3_goOn_1 : decode cX3_goOn 1 = .ok (.istore_n 3, 1) := by decide +kernel
theorem dX3_goOn_2 : decode cX3_goOn 2 = .ok (.iload_n 3, 1) := by decide +kernel
theorem dX3_goOn_3 : decode cX3_goOn 3 = .ok (.iload_n 2, 1) := by decide +kernel
theorem dX3_goOn_4 : decode cX3_goOn 4 = .ok (.if_icmp .ge 29, 3) := by decide +kernel
theorem dX3_goOn_7 : decode cX3_goOn 7 = .ok (.aload_n 1, 1) := by decide +kernel
theorem dX3_goOn_8 : decode cX3_goOn 8 = .ok (.aload_n 0, 1) := by decide +kernel
theorem dX3_goOn_9 : decode cX3_goOn 9 = .ok (.aload_n 1, 1) := by decide +kernel
theorem dX3_goOn_10 : decode cX3_goOn 10 = .ok (.getfield 230, 3) := by decide +kernel
theorem dX3_goOn_13 : decode cX3_goOn 13 = .ok (.invokevirtual 233, 3) := by decide +kernel
theorem dX3_goOn_16 : decode cX3_goOn 16 = .ok (.aload_n 0, 1) := by decide +kernel
theorem dX3_goOn_17 : decode cX3_goOn 17 = .ok (.aload_n 1, 1) := by decide +kernel
theorem dX3_goOn_18 : decode cX3_goOn 18 = .ok (.getfield 230, 3) := by decide +kernel
theorem dX3_goOn_21 : decode cX3_goOn 21 = .ok (.invokevirtual 236, 3) := by decide +kernel
theorem dX3_goOn_24 : decode cX3_goOn 24 = .ok (.invokevirtual 239, 3) := by decide +kernel
theorem dX3_goOn_27 : decode cX3_goOn 27 = .ok (.iinc 3 1, 3) := by decide +kernel
theorem dX3_goOn_30 : decode cX3_goOn 30 = .ok (.goto (-28), 3) := by decide +kernel
theorem dX3_goOn_33 : decode cX3_goOn 33 = .ok (.return_, 1) := by decide +kernel
theorem dX3_countIn_0 : decode cX3_countIn 0 = .ok (.iload_n 2, 1) := by decide +kernel
theorem dX3_countIn_1 : decode cX3_countIn 1 = .ok (.tableswitch 114 0 8 #[51, 56, 65, 70, 75, 80, 85, 90, 98], 51) := by decide +kernel
theorem dX3_countIn_52 : decode cX3_countIn 52 = .ok (.aload_n 1, 1) := by decide +kernel
theorem dX3_countIn_53 : decode cX3_countIn 53 = .ok (.getfield 230, 3) := by decide +kernel
theorem dX3_countIn_56 : decode cX3_countIn 56 = .ok (.ireturn, 1) := by decide +kernel
theorem dX3_countIn_57 : decode cX3_countIn 57 = .ok (.aload_n 0, 1) := by decide +kernel
theorem dX3_countIn_58 : decode cX3_countIn 58 = .ok (.aload_n 1, 1) := by decide +kernel
theorem dX3_countIn_59 : decode cX3_countIn 59 = .ok (.getfield 230, 3) := by decide +kernel
theorem dX3_countIn_62 : decode cX3_countIn 62 = .ok (.invokevirtual 233, 3) := by decide +kernel
theorem dX3_countIn_65 : decode cX3_countIn 65 = .ok (.ireturn, 1) := by decide +kernel
theorem dX3_countIn_66 : decode cX3_countIn 66 = .ok (.aload_n 1, 1) := by decide +kernel
theorem dX3_countIn_67 : decode cX3_countIn 67 = .ok (.getfield 42, 3) := by decide +kernel
theorem dX3_countIn_70 : decode cX3_countIn 70 = .ok (.ireturn, 1) := by decide +kernel
theorem dX3_countIn_71 : decode cX3_countIn 71 = .ok (.aload_n 1, 1) := by decide +kernel
theorem dX3_countIn_72 : decode cX3_countIn 72 = .ok (.getfield 52, 3) := by decide +kernel
theorem dX3_countIn_75 : decode cX3_countIn 75 = .ok (.ireturn, 1) := by decide +kernel
theorem dX3_countIn_76 : decode cX3_countIn 76 = .ok (.aload_n 1, 1) := by decide +kernel
theorem dX3_countIn_77 : decode cX3_countIn 77 = .ok (.getfield 155, 3) := by decide +kernel
theorem dX3_countIn_80 : decode cX3_countIn 80 = .ok (.ireturn, 1) := by decide +kernel
theorem dX3_countIn_81 : decode cX3_countIn 81 = .ok (.aload_n 1, 1) := by decide +kernel
theorem dX3_countIn_82 : decode cX3_countIn 82 = .ok (.getfield 158, 3) := by decide +kernel
theorem dX3_countIn_85 : decode cX3_countIn 85 = .ok (.ireturn, 1) := by decide +kernel
theorem dX3_countIn_86 : decode cX3_countIn 86 = .ok (.aload_n 1, 1) := by decide +kernel
theorem dX3_countIn_87 : decode cX3_countIn 87 = .ok (.getfield 183, 3) := by decide +kernel
theorem dX3_countIn_90 : decode cX3_countIn 90 = .ok (.ireturn, 1) := by decide +kernel
theorem dX3_countIn_91 : decode cX3_countIn 91 = .ok (.aload_n 1, 1) := by decide +kernel
theorem dX3_countIn_92 : decode cX3_countIn 92 = .ok (.getfield 65, 3) := by decide +kernel
theorem dX3_countIn_95 : decode cX3_countIn 95 = .ok (.invokevirtual 243, 3) := by decide +kernel
theorem dX3_countIn_98 : decode cX3_countIn 98 = .ok (.ireturn, 1) := by decide +kernel
theorem dX3_countIn_99 : decode cX3_countIn 99 = .ok (.aload_n 1, 1) := by decide +kernel
theorem dX3_countIn_100 : decode cX3_countIn 100 = .ok (.getfield 105, 3) := by decide +kernel
theorem dX3_countIn_103 : decode cX3_countIn 103 = .ok (.invokevirtual 246, 3) := by decide +kernel
theorem dX3_countIn_106 : decode cX3_countIn 106 = .ok (.aload_n 1, 1) := by decide +kernel
theorem dX3_countIn_107 : decode cX3_countIn 107 = .ok (.getfield 129, 3) := by decide +kernel
theorem dX3_countIn_110 : decode cX3_countIn 110 = .ok (.invokevirtual 246, 3) := by decide +kernel
theorem dX3_countIn_113 : decode cX3_countIn 113 = .ok (.iadd, 1) := by decide +kernel
theorem dX3_countIn_114 : decode cX3_countIn 114 = .ok (.ireturn, 1) := by decide +kernel
theorem dX3_countIn_115 : decode cX3_countIn 115 = .ok (.aload_n 1, 1) := by decide +kernel
theorem dX3_countIn_116 : decode cX3_countIn 116 = .ok (.getfield 249, 3) := by decide +kernel
theorem dX3_countIn_119 : decode cX3_countIn 119 = .ok (.ireturn, 1) := by decide +kernel
theorem dX4_init_0 : decode cX4_init 0 = .ok (.aload_n 0, 1) := by decide +kernel
theorem dX4_init_1 : decode cX4_init 1 = .ok (.invokespecial 1, 3) := by decide +kernel
theorem dX4_init_4 : decode cX4_init 4 = .ok (.aload_n 0, 1) := by decide +kernel
theorem dX4_init_5 : decode cX4_init 5 = .ok (.bipush 6, 2) := by decide +kernel
theorem dX4_init_7 : decode cX4_init 7 = .ok (.newarray .int, 2) := by decide +kernel
theorem dX4_init_9 : decode cX4_init 9 = .ok (.putfield 7, 3) := by decide +kernel
theorem dX4_init_12 : decode cX4_init 12 = .ok (.aload_n 0, 1) := by decide +kernel
theorem dX4_init_13 : decode cX4_init 13 = .ok (.bipush 7, 2) := by decide +kernel
theorem dX4_init_15 : decode cX4_init 15 = .ok (.newarray .int, 2) := by decide +kernel
theorem dX4_init_17 : decode cX4_init 17 = .ok (.putfield 13, 3) := by decide +kernel
theorem dX4_init_20 : decode cX4_init 20 = .ok (.aload_n 0, 1) := by decide +kernel
theorem dX4_init_21 : decode cX4_init 21 = .ok (.iconst 0, 1) := by decide +kernel
theorem dX4_init_22 : decode cX4_init 22 = .ok (.anewarray 16, 3) := by decide +kernel
theorem dX4_init_25 : decode cX4_init 25 = .ok (.putfield 17, 3) := by decide +kernel
theorem dX4_init_28 : decode cX4_init 28 = .ok (.aload_n 0, 1) := by decide +kernel
theorem dX4_init_29 : decode cX4_init 29 = .ok (.iconst 0, 1) := by decide +kernel
theorem dX4_init_30 : decode cX4_init 30 = .ok (.anewarray 16, 3) := by decide +kernel
theorem dX4_init_33 : decode cX4_init 33 = .ok (.putfield 21, 3) := by decide +kernel
theorem dX4_init_36 : decode cX4_init 36 = .ok (.aload_n 0, 1) := by decide +kernel
theorem dX4_init_37 : decode cX4_init 37 = .ok (.iconst 0, 1) := by decide +kernel
theorem dX4_init_38 : decode cX4_init 38 = .ok (.anewarray 16, 3) := by decide +kernel
theorem dX4_init_41 : decode cX4_init 41 = .ok (.putfield 24, 3) := by decide +kernel
theorem dX4_init_44 : decode cX4_init 44 = .ok (.return_, 1) := by decide +kernel
theorem dX4_more_0 : decode cX4_more 0 = .ok (.aload_n 0, 1) := by decide +kernel
theorem dX4_more_1 : decode cX4_more 1 = .ok (.arraylength, 1) := by decide +kernel
theorem dX4_more_2 : decode cX4_more 2 = .ok (.iconst 1, 1) := by decide +kernel
theorem dX4_more_3 : decode cX4_more 3 = .ok (.iadd, 1) := by decide +kernel
theorem dX4_more_4 : decode cX4_more 4 = .ok (.anewarray 16, 3) := by decide +kernel
theorem dX4_more_7 : decode cX4_more 7 = .ok (.astore_n 2, 1) := by decide +kernel
theorem dX4_more_8 : decode cX4_more 8 = .ok (.iconst 0, 1) := by decide +kernel
theorem dX4_more_9 : decode cX4_more 9 = .ok (.istore_n 3, 1) := by decide +kernel
theorem dX4_more_10 : decode cX4_more 10 = .ok (.iload_n 3, 1) := by decide +kernel
theorem dX4_more_11 : decode cX4_more 11 = .ok (.aload_n 0, 1) := by decide +kernel
theorem dX4_more_12 : decode cX4_more 12 = .ok (.arraylength, 1) := by decide +kernel
theorem dX4_more_13 : decode cX4_more 13 = .ok (.if_icmp .ge 15, 3) := by decide +kernel
theorem dX4_more_16 : decode cX4_more 16 = .ok (.aload_n 2, 1) := by decide +kernel
theorem dX4_more_17 : decode cX4_more 17 = .ok (.iload_n 3, 1) := by decide +kernel
theorem dX4_more_18 : decode cX4_more 18 = .ok (.aload_n 0, 1) := by decide +kernel
theorem dX4_more_19 : decode cX4_more 19 = .ok (.iload_n 3, 1) := by decide +kernel
theorem dX4_more_20 : decode cX4_more 20 = .ok (.aaload, 1) := by decide +kernel
theorem dX4_more_21 : decode cX4_more 21 = .ok (.aastore, 1) := by decide +kernel
theorem dX4_more_22 : decode cX4_more 22 = .ok (.iinc 3 1, 3) := by decide +kernel
theorem dX4_more_25 : decode cX4_more 25 = .ok (.goto (-15), 3) := by decide +kernel
theorem dX4_more_28 : decode cX4_more 28 = .ok (.aload_n 2, 1) := by decide +kernel
theorem dX4_more_29 : decode cX4_more 29 = .ok (.aload_n 0, 1) := by decide +kernel
theorem dX4_more_30 : decode cX4_more 30 = .ok (.arraylength, 1) := by decide +kernel
theorem dX4_more_31 : decode cX4_more 31 = .ok (.aload_n 1, 1) := by decide +kernel
theorem dX4_more_32 : decode cX4_more 32 = .ok (.aastore, 1) := by decide +kernel
theorem dX4_more_33 : decode cX4_more 33 = .ok (.aload_n 2, 1) := by decide +kernel
theorem dX4_more_34 : decode cX4_more 34 = .ok (.areturn, 1) := by decide +kernel
theorem dX4_pass_0 : decode cX4_pass 0 = .ok (.aload_n 0, 1) := by decide +kernel
theorem dX4_pass_1 : decode cX4_pass 1 = .ok (.getfield 7, 3) := by decide +kernel
theorem dX4_pass_4 : decode cX4_pass 4 = .ok (.aload_n 0, 1) := by decide +kernel
theorem dX4_pass_5 : decode cX4_pass 5 = .ok (.getfield 36, 3) := by decide +kernel
theorem dX4_pass_8 : decode cX4_pass 8 = .ok (.bipush 6, 2) := by decide +kernel
theorem dX4_pass_10 : decode cX4_pass 10 = .ok (.irem, 1) := by decide +kernel
theorem dX4_pass_11 : decode cX4_pass 11 = .ok (.iaload, 1) := by decide +kernel
theorem dX4_pass_12 : decode cX4_pass 12 = .ok (.istore_n 1, 1) := by decide +kernel
theorem dX4_pass_13 : decode cX4_pass 13 = .ok (.aload_n 0, 1) := by decide +kernel
theorem dX4_pass_14 : decode cX4_pass 14 = .ok (.getfield 17, 3) := by decide +kernel
theorem dX4_pass_17 : decode cX4_pass 17 = .ok (.astore_n 2, 1) := by decide +kernel
theorem dX4_pass_18 : decode cX4_pass 18 = .ok (.aload_n 2, 1) := by decide +kernel
theorem dX4_pass_19 : decode cX4_pass 19 = .ok (.arraylength, 1) := by decide +kernel
theorem dX4_pass_20 : decode cX4_pass 20 = .ok (.istore_n 3, 1) := by decide +kernel
theorem dX4_pass_21 : decode cX4_pass 21 = .ok (.iconst 0, 1) := by decide +kernel
theorem dX4_pass_22 : decode cX4_pass 22 = .ok (.istore 4, 2) := by decide +kernel
theorem dX4_pass_24 : decode cX4_pass 24 = .ok (.iload 4, 2) := by decide +kernel
theorem dX4_pass_26 : decode cX4_pass 26 = .ok (.iload_n 3, 1) := by decide +kernel
theorem dX4_pass_27 : decode cX4_pass 27 = .ok (.if_icmp .ge 118, 3) := by decide +kernel
theorem dX4_pass_30 : decode cX4_pass 30 = .ok (.aload_n 2, 1) := by decide +kernel
theorem dX4_pass_31 : decode cX4_pass 31 = .ok (.iload 4, 2) := by decide +kernel
theorem dX4_pass_33 : decode cX4_pass 33 = .ok (.aaload, 1) := by decide +kernel
theorem dX4_pass_34 : decode cX4_pass 34 = .ok (.astore 5, 2) := by decide +kernel
theorem dX4_pass_36 : decode cX4_pass 36 = .ok (.aload 5, 2) := by decide +kernel
theorem dX4_pass_38 : decode cX4_pass 38 = .ok (.iconst 3, 1) := by decide +kernel
theorem dX4_pass_39 : decode cX4_pass 39 = .ok (.iaload, 1) := by decide +kernel
theorem dX4_pass_40 : decode cX4_pass 40 = .ok (.ifCond .ne 6, 3) := by decide +kernel
theorem dX4_pass_43 : decode cX4_pass 43 = .ok (.goto 96, 3) := by decide +kernel
theorem dX4_pass_46 : decode cX4_pass 46 = .ok (.iconst 0, 1) := by decide +kernel
theorem dX4_pass_47 : decode cX4_pass 47 = .ok (.istore 6, 2) := by decide +kernel
theorem dX4_pass_49 : decode cX4_pass 49 = .ok (.iload 6, 2) := by decide +kernel
theorem dX4_pass_51 : decode cX4_pass 51 = .ok (.iload_n 1, 1) := by decide +kernel
theorem dX4_pass_52 : decode cX4_pass 52 = .ok (.iconst 4, 1) := by decide +kernel
theorem dX4_pass_53 : decode cX4_pass 53 = .ok (.if_icmp .le 7, 3) := by decide +kernel
theorem dX4_pass_56 : decode cX4_pass 56 = .ok (.iconst 4, 1) := by decide +kernel
theorem dX4_pass_57 : decode cX4_pass 57 = .ok (.goto 5, 3) := by decide +kernel
theorem dX4_pass_60 : decode cX4_pass 60 = .ok (.bipush 8, 2) := by decide +kernel
theorem dX4_pass_62 : decode cX4_pass 62 = .ok (.if_icmp .ge 32, 3) := by decide +kernel
theorem dX4_pass_65 : decode cX4_pass 65 = .ok (.aload 5, 2) := by decide +kernel
theorem dX4_pass_67 : decode cX4_pass 67 = .ok (.iconst 0, 1) := by decide +kernel
theorem dX4_pass_68 : decode cX4_pass 68 = .ok (.iaload, 1) := by decide +kernel
theorem dX4_pass_69 : decode cX4_pass 69 = .ok (.ifCond .le 25, 3) := by decide +kernel
theorem dX4_pass_72 : decode cX4_pass 72 = .ok (.aload 5, 2) := by decide +kernel
theorem dX4_pass_74 : decode cX4_pass 74 = .ok (.iconst 0, 1) := by decide +kernel
theorem dX4_pass_75 : decode cX4_pass 75 = .ok (.dup2, 1) := by decide +kernel
theorem dX4_pass_76 : decode cX4_pass 76 = .ok (.iaload, 1) := by decide +kernel
theorem dX4_pass_77 : decode cX4_pass 77 = .ok (.iconst 1, 1) := by decide +kernel
theorem dX4_pass_78 : decode cX4_pass 78 = .ok (.isub, 1) := by decide +kernel
theorem dX4_pass_79 : decode cX4_pass 79 = .ok (.iastore, 1) := by decide +kernel
theorem dX4_pass_80 : decode cX4_pass 80 = .ok (.aload 5, 2) := by decide +kernel
theorem dX4_pass_82 : decode cX4_pass 82 = .ok (.iconst 2, 1) := by decide +kernel
theorem dX4_pass_83 : decode cX4_pass 83 = .ok (.dup2, 1) := by decide +kernel
theorem dX4_pass_84 : decode cX4_pass 84 = .ok (.iaload, 1) := by decide +kernel
theorem dX4_pass_85 : decode cX4_pass 85 = .ok (.iconst 1, 1) := by decide +kernel
theorem dX4_pass_86 : decode cX4_pass 86 = .ok (.iadd, 1) := by decide +kernel
theorem dX4_pass_87 : decode cX4_pass 87 = .ok (.iastore, 1) := by decide +kernel
theorem dX4_pass_88 : decode cX4_pass 88 = .ok (.iinc 6 1, 3) := by decide +kernel
theorem dX4_pass_91 : decode cX4_pass 91 = .ok (.goto (-42), 3) := by decide +kernel
theorem dX4_pass_94 : decode cX4_pass 94 = .ok (.aload 5, 2) := by decide +kernel
theorem dX4_pass_96 : decode cX4_pass 96 = .ok (.iconst 1, 1) := by decide +kernel
theorem dX4_pass_97 : decode cX4_pass 97 = .ok (.aload 5, 2) := by decide +kernel
theorem dX4_pass_99 : decode cX4_pass 99 = .ok (.iconst 1, 1) := by decide +kernel
theorem dX4_pass_100 : decode cX4_pass 100 = .ok (.iaload, 1) := by decide +kernel
theorem dX4_pass_101 : decode cX4_pass 101 = .ok (.iconst 2, 1) := by decide +kernel
theorem dX4_pass_102 : decode cX4_pass 102 = .ok (.if_icmp .le 12, 3) := by decide +kernel
theorem dX4_pass_105 : decode cX4_pass 105 = .ok (.aload 5, 2) := by decide +kernel
theorem dX4_pass_107 : decode cX4_pass 107 = .ok (.iconst 1, 1) := by decide +kernel
theorem dX4_pass_108 : decode cX4_pass 108 = .ok (.iaload, 1) := by decide +kernel
theorem dX4_pass_109 : decode cX4_pass 109 = .ok (.iconst 2, 1) := by decide +kernel
theorem dX4_pass_110 : decode cX4_pass 110 = .ok (.isub, 1) := by decide +kernel
theorem dX4_pass_111 : decode cX4_pass 111 = .ok (.goto 4, 3) := by decide +kernel
theorem dX4_pass_114 : decode cX4_pass 114 = .ok (.iconst 0, 1) := by decide +kernel
theorem dX4_pass_115 : decode cX4_pass 115 = .ok (.iastore, 1) := by decide +kernel
theorem dX4_pass_116 : decode cX4_pass 116 = .ok (.aload 5, 2) := by decide +kernel
theorem dX4_pass_118 : decode cX4_pass 118 = .ok (.iconst 3, 1) := by decide +kernel
theorem dX4_pass_119 : decode cX4_pass 119 = .ok (.aload 5, 2) := by decide +kernel
theorem dX4_pass_121 : decode cX4_pass 121 = .ok (.iconst 0, 1) := by decide +kernel
theorem dX4_pass_122 : decode cX4_pass 122 = .ok (.iaload, 1) := by decide +kernel
theorem dX4_pass_123 : decode cX4_pass 123 = .ok (.ifCond .le 14, 3) := by decide +kernel
theorem dX4_pass_126 : decode cX4_pass 126 = .ok (.aload 5, 2) := by decide +kernel
theorem dX4_pass_128 : decode cX4_pass 128 = .ok (.iconst 1, 1) := by decide +kernel
theorem dX4_pass_129 : decode cX4_pass 129 = .ok (.iaload, 1) := by decide +kernel
theorem dX4_pass_130 : decode cX4_pass 130 = .ok (.ifCond .le 7, 3) := by decide +kernel
theorem dX4_pass_133 : decode cX4_pass 133 = .ok (.iconst 1, 1) := by decide +kernel
theorem dX4_pass_134 : decode cX4_pass 134 = .ok (.goto 4, 3) := by decide +kernel
theorem dX4_pass_137 : decode cX4_pass 137 = .ok (.iconst 0, 1) := by decide +kernel
theorem dX4_pass_138 : decode cX4_pass 138 = .ok (.iastore, 1) := by decide +kernel
theorem dX4_pass_139 : decode cX4_pass 139 = .ok (.iinc 4 1, 3) := by decide +kernel
theorem dX4_pass_142 : decode cX4_pass 142 = .ok (.goto (-118), 3) := by decide +kernel
theorem dX4_pass_145 : decode cX4_pass 145 = .ok (.aload_n 0, 1) := by decide +kernel
theorem dX4_pass_146 : decode cX4_pass 146 = .ok (.getfield 21, 3) := by decide +kernel
theorem dX4_pass_149 : decode cX4_pass 149 = .ok (.astore_n 2, 1) := by decide +kernel
theorem dX4_pass_150 : decode cX4_pass 150 = .ok (.aload_n 2, 1) := by decide +kernel
theorem dX4_pass_151 : decode cX4_pass 151 = .ok (.arraylength, 1) := by decide +kernel
theorem dX4_pass_152 : decode cX4_pass 152 = .ok (.istore_n 3, 1) := by decide +kernel
theorem dX4_pass_153 : decode cX4_pass 153 = .ok (.iconst 0, 1) := by decide +kernel
theorem dX4_pass_154 : decode cX4_pass 154 = .ok (.istore 4, 2) := by decide +kernel
theorem dX4_pass_156 : decode cX4_pass 156 = .ok (.iload 4, 2) := by decide +kernel
theorem dX4_pass_158 : decode cX4_pass 158 = .ok (.iload_n 3, 1) := by decide +kernel
theorem dX4_pass_159 : decode cX4_pass 159 = .ok (.if_icmp .ge 76, 3) := by decide +kernel
theorem dX4_pass_162 : decode cX4_pass 162 = .ok (.aload_n 2, 1) := by decide +kernel
theorem dX4_pass_163 : decode cX4_pass 163 = .ok (.iload 4, 2) := by decide +kernel
theorem dX4_pass_165 : decode cX4_pass 165 = .ok (.aaload, 1) := by decide +kernel
theorem dX4_pass_166 : decode cX4_pass 166 = .ok (.astore 5, 2) := by decide +kernel
theorem dX4_pass_168 : decode cX4_pass 168 = .ok (.aload 5, 2) := by decide +kernel
theorem dX4_pass_170 : decode cX4_pass 170 = .ok (.iconst 0, 1) := by decide +kernel
theorem dX4_pass_171 : decode cX4_pass 171 = .ok (.iaload, 1) := by decide +kernel
theorem dX4_pass_172 : decode cX4_pass 172 = .ok (.ifCond .ne 6, 3) := by decide +kernel
theorem dX4_pass_175 : decode cX4_pass 175 = .ok (.goto 54, 3) := by decide +kernel
theorem dX4_pass_178 : decode cX4_pass 178 = .ok (.aload 5, 2) := by decide +kernel
theorem dX4_pass_180 : decode cX4_pass 180 = .ok (.iconst 0, 1) := by decide +kernel
theorem dX4_pass_181 : decode cX4_pass 181 = .ok (.dup2, 1) := by decide +kernel
theorem dX4_pass_182 : decode cX4_pass 182 = .ok (.iaload, 1) := by decide +kernel
theorem dX4_pass_183 : decode cX4_pass 183 = .ok (.iload_n 1, 1) := by decide +kernel
theorem dX4_pass_184 : decode cX4_pass 184 = .ok (.iadd, 1) := by decide +kernel
theorem dX4_pass_185 : decode cX4_pass 185 = .ok (.iastore, 1) := by decide +kernel
theorem dX4_pass_186 : decode cX4_pass 186 = .ok (.aload 5, 2) := by decide +kernel
theorem dX4_pass_188 : decode cX4_pass 188 = .ok (.iconst 0, 1) := by decide +kernel
theorem dX4_pass_189 : decode cX4_pass 189 = .ok (.iaload, 1) := by decide +kernel
theorem dX4_pass_190 : decode cX4_pass 190 = .ok (.sipush 400, 3) := by decide +kernel
theorem dX4_pass_193 : decode cX4_pass 193 = .ok (.if_icmp .le 10, 3) := by decide +kernel
theorem dX4_pass_196 : decode cX4_pass 196 = .ok (.aload 5, 2) := by decide +kernel
theorem dX4_pass_198 : decode cX4_pass 198 = .ok (.iconst 0, 1) := by decide +kernel
theorem dX4_pass_199 : decode cX4_pass 199 = .ok (.sipush 400, 3) := by decide +kernel
theorem dX4_pass_202 : decode cX4_pass 202 = .ok (.iastore, 1) := by decide +kernel
theorem dX4_pass_203 : decode cX4_pass 203 = .ok (.iload_n 1, 1) := by decide +kernel
theorem dX4_pass_204 : decode cX4_pass 204 = .ok (.ifCond .ne 25, 3) := by decide +kernel
theorem dX4_pass_207 : decode cX4_pass 207 = .ok (.aload 5, 2) := by decide +kernel
theorem dX4_pass_209 : decode cX4_pass 209 = .ok (.iconst 0, 1) := by decide +kernel
theorem dX4_pass_210 : decode cX4_pass 210 = .ok (.aload 5, 2) := by decide +kernel
theorem dX4_pass_212 : decode cX4_pass 212 = .ok (.iconst 0, 1) := by decide +kernel
theorem dX4_pass_213 : decode cX4_pass 213 = .ok (.iaload, 1) := by decide +kernel
theorem dX4_pass_214 : decode cX4_pass 214 = .ok (.iconst 3, 1) := by decide +kernel
theorem dX4_pass_215 : decode cX4_pass 215 = .ok (.if_icmp .le 12, 3) := by decide +kernel
theorem dX4_pass_218 : decode cX4_pass 218 = .ok (.aload 5, 2) := by decide +kernel
theorem dX4_pass_220 : decode cX4_pass 220 = .ok (.iconst 0, 1) := by decide +kernel
theorem dX4_pass_221 : decode cX4_pass 221 = .ok (.iaload, 1) := by decide +kernel
theorem dX4_pass_222 : decode cX4_pass 222 = .ok (.iconst 3, 1) := by decide +kernel
theorem dX4_pass_223 : decode cX4_pass 223 = .ok (.isub, 1) := by decide +kernel
theorem dX4_pass_224 : decode cX4_pass 224 = .ok (.goto 4, 3) := by decide +kernel
theorem dX4_pass_227 : decode cX4_pass 227 = .ok (.iconst 0, 1) := by decide +kernel
theorem dX4_pass_228 : decode cX4_pass 228 = .ok (.iastore, 1) := by decide +kernel
theorem dX4_pass_229 : decode cX4_pass 229 = .ok (.iinc 4 1, 3) := by decide +kernel
theorem dX4_pass_232 : decode cX4_pass 232 = .ok (.goto (-76), 3) := by decide +kernel
theorem dX4_pass_235 : decode cX4_pass 235 = .ok (.aload_n 0, 1) := by decide +kernel
theorem dX4_pass_236 : decode cX4_pass 236 = .ok (.getfield 24, 3) := by decide +kernel
theorem dX4_pass_239 : decode cX4_pass 239 = .ok (.astore_n 2, 1) := by decide +kernel
theorem dX4_pass_240 : decode cX4_pass 240 = .ok (.aload_n 2, 1) := by decide +kernel
theorem dX4_pass_241 : decode cX4_pass 241 = .ok (.arraylength, 1) := by decide +kernel
theorem dX4_pass_242 : decode cX4_pass 242 = .ok (.istore_n 3, 1) := by decide +kernel
theorem dX4_pass_243 : decode cX4_pass 243 = .ok (.iconst 0, 1) := by decide +kernel
theorem dX4_pass_244 : decode cX4_pass 244 = .ok (.istore 4, 2) := by decide +kernel
theorem dX4_pass_246 : decode cX4_pass 246 = .ok (.iload 4, 2) := by decide +kernel
theorem dX4_pass_248 : decode cX4_pass 248 = .ok (.iload_n 3, 1) := by decide +kernel
theorem dX4_pass_249 : decode cX4_pass 249 = .ok (.if_icmp .ge 82, 3) := by decide +kernel
theorem dX4_pass_252 : decode cX4_pass 252 = .ok (.aload_n 2, 1) := by decide +kernel
theorem dX4_pass_253 : decode cX4_pass 253 = .ok (.iload 4, 2) := by decide +kernel
theorem dX4_pass_255 : decode cX4_pass 255 = .ok (.aaload, 1) := by decide +kernel
theorem dX4_pass_256 : decode cX4_pass 256 = .ok (.astore 5, 2) := by decide +kernel
theorem dX4_pass_258 : decode cX4_pass 258 = .ok (.aload 5, 2) := by decide +kernel
theorem dX4_pass_260 : decode cX4_pass 260 = .ok (.iconst 2, 1) := by decide +kernel
theorem dX4_pass_261 : decode cX4_pass 261 = .ok (.iaload, 1) := by decide +kernel
theorem dX4_pass_262 : decode cX4_pass 262 = .ok (.ifCond .ne 6, 3) := by decide +kernel
theorem dX4_pass_265 : decode cX4_pass 265 = .ok (.goto 60, 3) := by decide +kernel
theorem dX4_pass_268 : decode cX4_pass 268 = .ok (.aload 5, 2) := by decide +kernel
theorem dX4_pass_270 : decode cX4_pass 270 = .ok (.iconst 0, 1) := by decide +kernel
theorem dX4_pass_271 : decode cX4_pass 271 = .ok (.iaload, 1) := by decide +kernel
theorem dX4_pass_272 : decode cX4_pass 272 = .ok (.ifCond .eq 11, 3) := by decide +kernel
theorem dX4_pass_275 : decode cX4_pass 275 = .ok (.aload_n 0, 1) := by decide +kernel
theorem dX4_pass_276 : decode cX4_pass 276 = .ok (.getfield 40, 3) := by decide +kernel
theorem dX4_pass_279 : decode cX4_pass 279 = .ok (.iconst 4, 1) := by decide +kernel
theorem dX4_pass_280 : decode cX4_pass 280 = .ok (.if_icmp .ge 11, 3) := by decide +kernel
theorem dX4_pass_283 : decode cX4_pass 283 = .ok (.aload 5, 2) := by decide +kernel
theorem dX4_pass_285 : decode cX4_pass 285 = .ok (.iconst 2, 1) := by decide +kernel
theorem dX4_pass_286 : decode cX4_pass 286 = .ok (.iconst 0, 1) := by decide +kernel
theorem dX4_pass_287 : decode cX4_pass 287 = .ok (.iastore, 1) := by decide +kernel
theorem dX4_pass_288 : decode cX4_pass 288 = .ok (.goto 37, 3) := by decide +kernel
theorem dX4_pass_291 : decode cX4_pass 291 = .ok (.aload_n 0, 1) := by decide +kernel
theorem dX4_pass_292 : decode cX4_pass 292 = .ok (.dup, 1) := by decide +kernel
theorem dX4_pass_293 : decode cX4_pass 293 = .ok (.getfield 40, 3) := by decide +kernel
theorem dX4_pass_296 : decode cX4_pass 296 = .ok (.iconst 4, 1) := by decide +kernel
theorem dX4_pass_297 : decode cX4_pass 297 = .ok (.isub, 1) := by decide +kernel
theorem dX4_pass_298 : decode cX4_pass 298 = .ok (.putfield 40, 3) := by decide +kernel
theorem dX4_pass_301 : decode cX4_pass 301 = .ok (.aload 5, 2) := by decide +kernel
theorem dX4_pass_303 : decode cX4_pass 303 = .ok (.iconst 0, 1) := by decide +kernel
theorem dX4_pass_304 : decode cX4_pass 304 = .ok (.aload 5, 2) := by decide +kernel
theorem dX4_pass_306 : decode cX4_pass 306 = .ok (.iconst 0, 1) := by decide +kernel
theorem dX4_pass_307 : decode cX4_pass 307 = .ok (.iaload, 1) := by decide +kernel
theorem dX4_pass_308 : decode cX4_pass 308 = .ok (.bipush 12, 2) := by decide +kernel
theorem dX4_pass_310 : decode cX4_pass 310 = .ok (.if_icmp .le 13, 3) := by decide +kernel
theorem dX4_pass_313 : decode cX4_pass 313 = .ok (.aload 5, 2) := by decide +kernel
theorem dX4_pass_315 : decode cX4_pass 315 = .ok (.iconst 0, 1) := by decide +kernel
theorem dX4_pass_316 : decode cX4_pass 316 = .ok (.iaload, 1) := by decide +kernel
theorem dX4_pass_317 : decode cX4_pass 317 = .ok (.bipush 12, 2) := by decide +kernel
theorem dX4_pass_319 : decode cX4_pass 319 = .ok (.isub, 1) := by decide +kernel
theorem dX4_pass_320 : decode cX4_pass 320 = .ok (.goto 4, 3) := by decide +kernel
theorem dX4_pass_323 : decode cX4_pass 323 = .ok (.iconst 0, 1) := by decide +kernel
theorem dX4_pass_324 : decode cX4_pass 324 = .ok (.iastore, 1) := by decide +kernel
theorem dX4_pass_325 : decode cX4_pass 325 = .ok (.iinc 4 1, 3) := by decide +kernel
theorem dX4_pass_328 : decode cX4_pass 328 = .ok (.goto (-82), 3) := by decide +kernel
theorem dX4_pass_331 : decode cX4_pass 331 = .ok (.iconst 0, 1) := by decide +kernel
theorem dX4_pass_332 : decode cX4_pass 332 = .ok (.istore_n 2, 1) := by decide +kernel
theorem dX4_pass_333 : decode cX4_pass 333 = .ok (.iconst 0, 1) := by decide +kernel
theorem dX4_pass_334 : decode cX4_pass 334 = .ok (.istore_n 3, 1) := by decide +kernel
theorem dX4_pass_335 : decode cX4_pass 335 = .ok (.iload_n 3, 1) := by decide +kernel
theorem dX4_pass_336 : decode cX4_pass 336 = .ok (.aload_n 0, 1) := by decide +kernel
theorem dX4_pass_337 : decode cX4_pass 337 = .ok (.getfield 13, 3) := by decide +kernel
theorem dX4_pass_340 : decode cX4_pass 340 = .ok (.aload_n 0, 1) := by decide +kernel
theorem dX4_pass_341 : decode cX4_pass 341 = .ok (.getfield 36, 3) := by decide +kernel
theorem dX4_pass_344 : decode cX4_pass 344 = .ok (.bipush 7, 2) := by decide +kernel
theorem dX4_pass_346 : decode cX4_pass 346 = .ok (.irem, 1) := by decide +kernel
theorem dX4_pass_347 : decode cX4_pass 347 = .ok (.iaload, 1) := by decide +kernel
theorem dX4_pass_348 : decode cX4_pass 348 = .ok (.if_icmp .ge 76, 3) := by decide +kernel
theorem dX4_pass_351 : decode cX4_pass 351 = .ok (.aload_n 0, 1) := by decide +kernel
theorem dX4_pass_352 : decode cX4_pass 352 = .ok (.getfield 43, 3) := by decide +kernel
theorem dX4_pass_355 : decode cX4_pass 355 = .ok (.aload_n 0, 1) := by decide +kernel
theorem dX4_pass_356 : decode cX4_pass 356 = .ok (.getfield 46, 3) := by decide +kernel
theorem dX4_pass_359 : decode cX4_pass 359 = .ok (.iadd, 1) := by decide +kernel
theorem dX4_pass_360 : decode cX4_pass 360 = .ok (.ifCond .le 64, 3) := by decide +kernel
theorem dX4_pass_363 : decode cX4_pass 363 = .ok (.aload_n 0, 1) := by decide +kernel
theorem dX4_pass_364 : decode cX4_pass 364 = .ok (.dup, 1) := by decide +kernel
theorem dX4_pass_365 : decode cX4_pass 365 = .ok (.getfield 52, 3) := by decide +kernel
theorem dX4_pass_368 : decode cX4_pass 368 = .ok (.iconst 1, 1) := by decide +kernel
theorem dX4_pass_369 : decode cX4_pass 369 = .ok (.iadd, 1) := by decide +kernel
theorem dX4_pass_370 : decode cX4_pass 370 = .ok (.putfield 52, 3) := by decide +kernel
theorem dX4_pass_373 : decode cX4_pass 373 = .ok (.iload_n 2, 1) := by decide +kernel
theorem dX4_pass_374 : decode cX4_pass 374 = .ok (.aload_n 0, 1) := by decide +kernel
theorem dX4_pass_375 : decode cX4_pass 375 = .ok (.getfield 43, 3) := by decide +kernel
theorem dX4_pass_378 : decode cX4_pass 378 = .ok (.ifCond .le 7, 3) := by decide +kernel
theorem dX4_pass_381 : decode cX4_pass 381 = .ok (.iconst 5, 1) := by decide +kernel
theorem dX4_pass_382 : decode cX4_pass 382 = .ok (.goto 4, 3) := by decide +kernel
theorem dX4_pass_385 : decode cX4_pass 385 = .ok (.iconst 2, 1) := by decide +kernel
theorem dX4_pass_386 : decode cX4_pass 386 = .ok (.iadd, 1) := by decide +kernel
theorem dX4_pass_387 : decode cX4_pass 387 = .ok (.istore_n 2, 1) := by decide +kernel
theorem dX4_pass_388 : decode cX4_pass 388 = .ok (.aload_n 0, 1) := by decide +kernel
theorem dX4_pass_389 : decode cX4_pass 389 = .ok (.getfield 43, 3) := by decide +kernel
theorem dX4_pass_392 : decode cX4_pass 392 = .ok (.ifCond .le 16, 3) := by decide +kernel
theorem dX4_pass_395 : decode cX4_pass 395 = .ok (.aload_n 0, 1) := by decide +kernel
theorem dX4_pass_396 : decode cX4_pass 396 = .ok (.dup, 1) := by decide +kernel
theorem dX4_pass_397 : decode cX4_pass 397 = .ok (.getfield 43, 3) := by decide +kernel
theorem dX4_pass_400 : decode cX4_pass 400 = .ok (.iconst 1, 1) := by decide +kernel
theorem dX4_pass_401 : decode cX4_pass 401 = .ok (.isub, 1) := by decide +kernel
theorem dX4_pass_402 : decode cX4_pass 402 = .ok (.putfield 43, 3) := by decide +kernel
theorem dX4_pass_405 : decode cX4_pass 405 = .ok (.goto 13, 3) := by decide +kernel
theorem dX4_pass_408 : decode cX4_pass 408 = .ok (.aload_n 0, 1) := by decide +kernel
theorem dX4_pass_409 : decode cX4_pass 409 = .ok (.dup, 1) := by decide +kernel
theorem dX4_pass_410 : decode cX4_pass 410 = .ok (.getfield 46, 3) := by decide +kernel
theorem dX4_pass_413 : decode cX4_pass 413 = .ok (.iconst 1, 1) := by decide +kernel
theorem dX4_pass_414 : decode cX4_pass 414 = .ok (.isub, 1) := by decide +kernel
theorem dX4_pass_415 : decode cX4_pass 415 = .ok (.putfield 46, 3) := by decide +kernel
theorem dX4_pass_418 : decode cX4_pass 418 = .ok (.iinc 3 1, 3) := by decide +kernel
theorem dX4_pass_421 : decode cX4_pass 421 = .ok (.goto (-86), 3) := by decide +kernel
theorem dX4_pass_424 : decode cX4_pass 424 = .ok (.aload_n 0, 1) := by decide +kernel
theorem dX4_pass_425 : decode cX4_pass 425 = .ok (.dup, 1) := by decide +kernel
theorem dX4_pass_426 : decode cX4_pass 426 = .ok (.getfield 49, 3) := by decide +kernel
theorem dX4_pass_429 : decode cX4_pass 429 = .ok (.iload_n 2, 1) := by decide +kernel
theorem dX4_pass_430 : decode cX4_pass 430 = .ok (.iadd, 1) := by decide +kernel
theorem dX4_pass_431 : decode cX4_pass 431 = .ok (.putfield 49, 3) := by decide +kernel
theorem dX4_pass_434 : decode cX4_pass 434 = .ok (.aload_n 0, 1) := by decide +kernel
theorem dX4_pass_435 : decode cX4_pass 435 = .ok (.dup, 1) := by decide +kernel
theorem dX4_pass_436 : decode cX4_pass 436 = .ok (.getfield 36, 3) := by decide +kernel
theorem dX4_pass_439 : decode cX4_pass 439 = .ok (.iconst 1, 1) := by decide +kernel
theorem dX4_pass_440 : decode cX4_pass 440 = .ok (.iadd, 1) := by decide +kernel
theorem dX4_pass_441 : decode cX4_pass 441 = .ok (.putfield 36, 3) := by decide +kernel
theorem dX4_pass_444 : decode cX4_pass 444 = .ok (.iload_n 2, 1) := by decide +kernel
theorem dX4_pass_445 : decode cX4_pass 445 = .ok (.ireturn, 1) := by decide +kernel
theorem dX4_strength_0 : decode cX4_strength 0 = .ok (.aload_n 0, 1) := by decide +kernel
theorem dX4_strength_1 : decode cX4_strength 1 = .ok (.iconst 0, 1) := by decide +kernel
theorem dX4_strength_2 : decode cX4_strength 2 = .ok (.iaload, 1) := by decide +kernel
theorem dX4_strength_3 : decode cX4_strength 3 = .ok (.aload_n 0, 1) := by decide +kernel
theorem dX4_strength_4 : decode cX4_strength 4 = .ok (.iconst 1, 1) := by decide +kernel
theorem dX4_strength_5 : decode cX4_strength 5 = .ok (.iaload, 1) := by decide +kernel
theorem dX4_strength_6 : decode cX4_strength 6 = .ok (.iadd, 1) := by decide +kernel
theorem dX4_strength_7 : decode cX4_strength 7 = .ok (.ifCond .ne 7, 3) := by decide +kernel
theorem dX4_strength_10 : decode cX4_strength 10 = .ok (.iconst 0, 1) := by decide +kernel
theorem dX4_strength_11 : decode cX4_strength 11 = .ok (.goto 17, 3) := by decide +kernel
theorem dX4_strength_14 : decode cX4_strength 14 = .ok (.bipush 100, 2) := by decide +kernel
theorem dX4_strength_16 : decode cX4_strength 16 = .ok (.aload_n 0, 1) := by decide +kernel
theorem dX4_strength_17 : decode cX4_strength 17 = .ok (.iconst 1, 1) := by decide +kernel
theorem dX4_strength_18 : decode cX4_strength 18 = .ok (.iaload, 1) := by decide +kernel
theorem dX4_strength_19 : decode cX4_strength 19 = .ok (.imul, 1) := by decide +kernel
theorem dX4_strength_20 : decode cX4_strength 20 = .ok (.aload_n 0, 1) := by decide +kernel
theorem dX4_strength_21 : decode cX4_strength 21 = .ok (.iconst 0, 1) := by decide +kernel
theorem dX4_strength_22 : decode cX4_strength 22 = .ok (.iaload, 1) := by decide +kernel
theorem dX4_strength_23 : decode cX4_strength 23 = .ok (.aload_n 0, 1) := by decide +kernel
theorem dX4_strength_24 : decode cX4_strength 24 = .ok (.iconst 1, 1) := by decide +kernel
theorem dX4_strength_25 : decode cX4_strength 25 = .ok (.iaload, 1) := by decide +kernel
theorem dX4_strength_26 : decode cX4_strength 26 = .ok (.iadd, 1) := by decide +kernel
theorem dX4_strength_27 : decode cX4_strength 27 = .ok (.idiv, 1) := by decide +kernel
theorem dX4_strength_28 : decode cX4_strength 28 = .ok (.ireturn, 1) := by decide +kernel
theorem dX4_egg_0 : decode cX4_egg 0 = .ok (.aload_n 0, 1) := by decide +kernel
theorem dX4_egg_1 : decode cX4_egg 1 = .ok (.invokestatic 55, 3) := by decide +kernel
theorem dX4_egg_4 : decode cX4_egg 4 = .ok (.bipush 34, 2) := by decide +kernel
theorem dX4_egg_6 : decode cX4_egg 6 = .ok (.if_icmp .le 7, 3) := by decide +kernel
theorem dX4_egg_9 : decode cX4_egg 9 = .ok (.iconst 2, 1) := by decide +kernel
theorem dX4_egg_10 : decode cX4_egg 10 = .ok (.goto 17, 3) := by decide +kernel
theorem dX4_egg_13 : decode cX4_egg 13 = .ok (.aload_n 0, 1) := by decide +kernel
theorem dX4_egg_14 : decode cX4_egg 14 = .ok (.invokestatic 55, 3) := by decide +kernel
theorem dX4_egg_17 : decode cX4_egg 17 = .ok (.bipush 19, 2) := by decide +kernel
theorem dX4_egg_19 : decode cX4_egg 19 = .ok (.if_icmp .le 7, 3) := by decide +kernel
theorem dX4_egg_22 : decode cX4_egg 22 = .ok (.iconst 1, 1) := by decide +kernel
theorem dX4_egg_23 : decode cX4_egg 23 = .ok (.goto 4, 3) := by decide +kernel
theorem dX4_egg_26 : decode cX4_egg 26 = .ok (.iconst 0, 1) := by decide +kernel
theorem dX4_egg_27 : decode cX4_egg 27 = .ok (.ireturn, 1) := by decide +kernel
theorem dX4_comes_0 : decode cX4_comes 0 = .ok (.iload_n 1, 1) := by decide +kernel
theorem dX4_comes_1 : decode cX4_comes 1 = .ok (.aload_n 0, 1) := by decide +kernel
theorem dX4_comes_2 : decode cX4_comes 2 = .ok (.invokestatic 59, 3) := by decide +kernel
theorem dX4_comes_5 : decode cX4_comes 5 = .ok (.iconst 1, 1) := by decide +kernel
theorem dX4_comes_6 : decode cX4_comes 6 = .ok (.if_icmp .ne 7, 3) := by decide +kernel
theorem dX4_comes_9 : decode cX4_comes 9 = .ok (.iconst 5, 1) := by decide +kernel
theorem dX4_comes_10 : decode cX4_comes 10 = .ok (.goto 11, 3) := by decide +kernel
theorem dX4_comes_13 : decode cX4_comes 13 = .ok (.iconst 2, 1) := by decide +kernel
theorem dX4_comes_14 : decode cX4_comes 14 = .ok (.aload_n 0, 1) := by decide +kernel
theorem dX4_comes_15 : decode cX4_comes 15 = .ok (.invokestatic 59, 3) := by decide +kernel
theorem dX4_comes_18 : decode cX4_comes 18 = .ok (.iconst 2, 1) := by decide +kernel
theorem dX4_comes_19 : decode cX4_comes 19 = .ok (.idiv, 1) := by decide +kernel
theorem dX4_comes_20 : decode cX4_comes 20 = .ok (.iadd, 1) := by decide +kernel
theorem dX4_comes_21 : decode cX4_comes 21 = .ok (.imul, 1) := by decide +kernel
theorem dX4_comes_22 : decode cX4_comes 22 = .ok (.istore_n 2, 1) := by decide +kernel
theorem dX4_comes_23 : decode cX4_comes 23 = .ok (.iload_n 2, 1) := by decide +kernel
theorem dX4_comes_24 : decode cX4_comes 24 = .ok (.aload_n 0, 1) := by decide +kernel
theorem dX4_comes_25 : decode cX4_comes 25 = .ok (.iconst 1, 1) := by decide +kernel
theorem dX4_comes_26 : decode cX4_comes 26 = .ok (.iaload, 1) := by decide +kernel
theorem dX4_comes_27 : decode cX4_comes 27 = .ok (.if_icmp .ge 7, 3) := by decide +kernel
theorem dX4_comes_30 : decode cX4_comes 30 = .ok (.iload_n 2, 1) := by decide +kernel
theorem dX4_comes_31 : decode cX4_comes 31 = .ok (.goto 6, 3) := by decide +kernel
theorem dX4_comes_34 : decode cX4_comes 34 = .ok (.aload_n 0, 1) := by decide +kernel
theorem dX4_comes_35 : decode cX4_comes 35 = .ok (.iconst 1, 1) := by decide +kernel
theorem dX4_comes_36 : decode cX4_comes 36 = .ok (.iaload, 1) := by decide +kernel
theorem dX4_comes_37 : decode cX4_comes 37 = .ok (.ireturn, 1) := by decide +kernel
theorem dX4_burning_0 : decode cX4_burning 0 = .ok (.iconst 0, 1) := by decide +kernel
theorem dX4_burning_1 : decode cX4_burning 1 = .ok (.istore_n 1, 1) := by decide +kernel
theorem dX4_burning_2 : decode cX4_burning 2 = .ok (.aload_n 0, 1) := by decide +kernel
theorem dX4_burning_3 : decode cX4_burning 3 = .ok (.getfield 17, 3) := by decide +kernel
theorem dX4_burning_6 : decode cX4_burning 6 = .ok (.astore_n 2, 1) := by decide +kernel
theorem dX4_burning_7 : decode cX4_burning 7 = .ok (.aload_n 2, 1) := by decide +kernel
theorem dX4_burning_8 : decode cX4_burning 8 = .ok (.arraylength, 1) := by decide +kernel
theorem dX4_burning_9 : decode cX4_burning 9 = .ok (.istore_n 3, 1) := by decide +kernel
theorem dX4_burning_10 : decode cX4_burning 10 = .ok (.iconst 0, 1) := by decide +kernel
theorem dX4_burning_11 : decode cX4_burning 11 = .ok (.istore 4, 2) := by decide +kernel
theorem dX4_burning_13 : decode cX4_burning 13 = .ok (.iload 4, 2) := by decide +kernel
theorem dX4_burning_15 : decode cX4_burning 15 = .ok (.iload_n 3, 1) := by decide +kernel
theorem dX4_burning_16 : decode cX4_burning 16 = .ok (.if_icmp .ge 22, 3) := by decide +kernel
theorem dX4_burning_19 : decode cX4_burning 19 = .ok (.aload_n 2, 1) := by decide +kernel
theorem dX4_burning_20 : decode cX4_burning 20 = .ok (.iload 4, 2) := by decide +kernel
theorem dX4_burning_22 : decode cX4_burning 22 = .ok (.aaload, 1) := by decide +kernel
theorem dX4_burning_23 : decode cX4_burning 23 = .ok (.astore 5, 2) := by decide +kernel
theorem dX4_burning_25 : decode cX4_burning 25 = .ok (.iload_n 1, 1) := by decide +kernel
theorem dX4_burning_26 : decode cX4_burning 26 = .ok (.aload 5, 2) := by decide +kernel
theorem dX4_burning_28 : decode cX4_burning 28 = .ok (.iconst 3, 1) := by decide +kernel
theorem dX4_burning_29 : decode cX4_burning 29 = .ok (.iaload, 1) := by decide +kernel
theorem dX4_burning_30 : decode cX4_burning 30 = .ok (.iadd, 1) := by decide +kernel
theorem dX4_burning_31 : decode cX4_burning 31 = .ok (.istore_n 1, 1) := by decide +kernel
theorem dX4_burning_32 : decode cX4_burning 32 = .ok (.iinc 4 1, 3) := by decide +kernel
theorem dX4_burning_35 : decode cX4_burning 35 = .ok (.goto (-22), 3) := by decide +kernel
theorem dX4_burning_38 : decode cX4_burning 38 = .ok (.iload_n 1, 1) := by decide +kernel
theorem dX4_burning_39 : decode cX4_burning 39 = .ok (.ireturn, 1) := by decide +kernel
theorem dX4_isSame_0 : decode cX4_isSame 0 = .ok (.iconst 0, 1) := by decide +kernel
theorem dX4_isSame_1 : decode cX4_isSame 1 = .ok (.istore_n 2, 1) := by decide +kernel
theorem dX4_isSame_2 : decode cX4_isSame 2 = .ok (.iconst 0, 1) := by decide +kernel
theorem dX4_isSame_3 : decode cX4_isSame 3 = .ok (.istore_n 3, 1) := by decide +kernel
theorem dX4_isSame_4 : decode cX4_isSame 4 = .ok (.iconst 0, 1) := by decide +kernel
theorem dX4_isSame_5 : decode cX4_isSame 5 = .ok (.istore 4, 2) := by decide +kernel
theorem dX4_isSame_7 : decode cX4_isSame 7 = .ok (.iconst 0, 1) := by decide +kernel
theorem dX4_isSame_8 : decode cX4_isSame 8 = .ok (.istore 5, 2) := by decide +kernel
theorem dX4_isSame_10 : decode cX4_isSame 10 = .ok (.iload 5, 2) := by decide +kernel
theorem dX4_isSame_12 : decode cX4_isSame 12 = .ok (.aload_n 0, 1) := by decide +kernel
theorem dX4_isSame_13 : decode cX4_isSame 13 = .ok (.getfield 17, 3) := by decide +kernel
theorem dX4_isSame_16 : decode cX4_isSame 16 = .ok (.arraylength, 1) := by decide +kernel
theorem dX4_isSame_17 : decode cX4_isSame 17 = .ok (.if_icmp .ge 47, 3) := by decide +kernel
theorem dX4_isSame_20 : decode cX4_isSame 20 = .ok (.iconst 0, 1) := by decide +kernel
theorem dX4_isSame_21 : decode cX4_isSame 21 = .ok (.istore 6, 2) := by decide +kernel
theorem dX4_isSame_23 : decode cX4_isSame 23 = .ok (.iload 6, 2) := by decide +kernel
theorem dX4_isSame_25 : decode cX4_isSame 25 = .ok (.iconst 4, 1) := by decide +kernel
theorem dX4_isSame_26 : decode cX4_isSame 26 = .ok (.if_icmp .ge 32, 3) := by decide +kernel
theorem dX4_isSame_29 : decode cX4_isSame 29 = .ok (.aload_n 1, 1) := by decide +kernel
theorem dX4_isSame_30 : decode cX4_isSame 30 = .ok (.iload 5, 2) := by decide +kernel
theorem dX4_isSame_32 : decode cX4_isSame 32 = .ok (.iload 6, 2) := by decide +kernel
theorem dX4_isSame_34 : decode cX4_isSame 34 = .ok (.invokevirtual 62, 3) := by decide +kernel
theorem dX4_isSame_37 : decode cX4_isSame 37 = .ok (.aload_n 0, 1) := by decide +kernel
theorem dX4_isSame_38 : decode cX4_isSame 38 = .ok (.getfield 17, 3) := by decide +kernel
theorem dX4_isSame_41 : decode cX4_isSame 41 = .ok (.iload 5, 2) := by decide +kernel
theorem dX4_isSame_43 : decode cX4_isSame 43 = .ok (.aaload, 1) := by decide +kernel
theorem dX4_isSame_44 : decode cX4_isSame 44 = .ok (.iload 6, 2) := by decide +kernel
theorem dX4_isSame_46 : decode cX4_isSame 46 = .ok (.iaload, 1) := by decide +kernel
theorem dX4_isSame_47 : decode cX4_isSame 47 = .ok (.if_icmp .eq 5, 3) := by decide +kernel
theorem dX4_isSame_50 : decode cX4_isSame 50 = .ok (.iconst 0, 1) := by decide +kernel
theorem dX4_isSame_51 : decode cX4_isSame 51 = .ok (.ireturn, 1) := by decide +kernel
theorem dX4_isSame_52 : decode cX4_isSame 52 = .ok (.iinc 6 1, 3) := by decide +kernel
theorem dX4_isSame_55 : decode cX4_isSame 55 = .ok (.goto (-32), 3) := by decide +kernel
theorem dX4_isSame_58 : decode cX4_isSame 58 = .ok (.iinc 5 1, 3) := by decide +kernel
theorem dX4_isSame_61 : decode cX4_isSame 61 = .ok (.goto (-51), 3) := by decide +kernel
theorem dX4_isSame_64 : decode cX4_isSame 64 = .ok (.iconst 0, 1) := by decide +kernel
theorem dX4_isSame_65 : decode cX4_isSame 65 = .ok (.istore 5, 2) := by decide +kernel
theorem dX4_isSame_67 : decode cX4_isSame 67 = .ok (.iload 5, 2) := by decide +kernel
theorem dX4_isSame_69 : decode cX4_isSame 69 = .ok (.aload_n 0, 1) := by decide +kernel
theorem dX4_isSame_70 : decode cX4_isSame 70 = .ok (.getfield 21, 3) := by decide +kernel
theorem dX4_isSame_73 : decode cX4_isSame 73 = .ok (.arraylength, 1) := by decide +kernel
theorem dX4_isSame_74 : decode cX4_isSame 74 = .ok (.aload_n 0, 1) := by decide +kernel
theorem dX4_isSame_75 : decode cX4_isSame 75 = .ok (.getfield 24, 3) := by decide +kernel
theorem dX4_isSame_78 : decode cX4_isSame 78 = .ok (.arraylength, 1) := by decide +kernel
theorem dX4_isSame_79 : decode cX4_isSame 79 = .ok (.iadd, 1) := by decide +kernel
theorem dX4_isSame_80 : decode cX4_isSame 80 = .ok (.if_icmp .ge 210, 3) := by decide +kernel
theorem dX4_isSame_83 : decode cX4_isSame 83 = .ok (.iload 5, 2) := by decide +kernel
theorem dX4_isSame_85 : decode cX4_isSame 85 = .ok (.aload_n 0, 1) := by decide +kernel
theorem dX4_isSame_86 : decode cX4_isSame 86 = .ok (.getfield 21, 3) := by decide +kernel
theorem dX4_isSame_89 : decode cX4_isSame 89 = .ok (.arraylength, 1) := by decide +kernel
theorem dX4_isSame_90 : decode cX4_isSame 90 = .ok (.if_icmp .ge 7, 3) := by decide +kernel
theorem dX4_isSame_93 : decode cX4_isSame 93 = .ok (.iconst 1, 1) := by decide +kernel
theorem dX4_isSame_94 : decode cX4_isSame 94 = .ok (.goto 4, 3) := by decide +kernel
theorem dX4_isSame_97 : decode cX4_isSame 97 = .ok (.iconst 0, 1) := by decide +kernel
theorem dX4_isSame_98 : decode cX4_isSame 98 = .ok (.istore 6, 2) := by decide +kernel
theorem dX4_isSame_100 : decode cX4_isSame 100 = .ok (.iload 6, 2) := by decide +kernel
theorem dX4_isSame_102 : decode cX4_isSame 102 = .ok (.ifCond .eq 13, 3) := by decide +kernel
theorem dX4_isSame_105 : decode cX4_isSame 105 = .ok (.aload_n 0, 1) := by decide +kernel
theorem dX4_isSame_106 : decode cX4_isSame 106 = .ok (.getfield 21, 3) := by decide +kernel
theorem dX4_isSame_109 : decode cX4_isSame 109 = .ok (.iload 5, 2) := by decide +kernel
theorem dX4_isSame_111 : decode cX4_isSame 111 = .ok (.aaload, 1) := by decide +kernel
theorem dX4_isSame_112 : decode cX4_isSame 112 = .ok (.goto 16, 3) := by decide +kernel
theorem dX4_isSame_115 : decode cX4_isSame 115 = .ok (.aload_n 0, 1) := by decide +kernel
theorem dX4_isSame_116 : decode cX4_isSame 116 = .ok (.getfield 24, 3) := by decide +kernel
theorem dX4_isSame_119 : decode cX4_isSame 119 = .ok (.iload 5, 2) := by decide +kernel
theorem dX4_isSame_121 : decode cX4_isSame 121 = .ok (.aload_n 0, 1) := by decide +kernel
theorem dX4_isSame_122 : decode cX4_isSame 122 = .ok (.getfield 21, 3) := by decide +kernel
theorem dX4_isSame_125 : decode cX4_isSame 125 = .ok (.arraylength, 1) := by decide +kernel
theorem dX4_isSame_126 : decode cX4_isSame 126 = .ok (.isub, 1) := by decide +kernel
theorem dX4_isSame_127 : decode cX4_isSame 127 = .ok (.aaload, 1) := by decide +kernel
theorem dX4_isSame_128 : decode cX4_isSame 128 = .ok (.astore 7, 2) := by decide +kernel
theorem dX4_isSame_130 : decode cX4_isSame 130 = .ok (.iconst 5, 1) := by decide +kernel
theorem dX4_isSame_131 : decode cX4_isSame 131 = .ok (.newarray .int, 2) := by decide +kernel
theorem dX4_isSame_133 : decode cX4_isSame 133 = .ok (.dup, 1) := by decide +kernel
theorem dX4_isSame_134 : decode cX4_isSame 134 = .ok (.iconst 0, 1) := by decide +kernel
theorem dX4_isSame_135 : decode cX4_isSame 135 = .ok (.aload 7, 2) := by decide +kernel
theorem dX4_isSame_137 : decode cX4_isSame 137 = .ok (.iconst 0, 1) := by decide +kernel
theorem dX4_isSame_138 : decode cX4_isSame 138 = .ok (.iaload, 1) := by decide +kernel
theorem dX4_isSame_139 : decode cX4_isSame 139 = .ok (.iastore, 1) := by decide +kernel
theorem dX4_isSame_140 : decode cX4_isSame 140 = .ok (.dup, 1) := by decide +kernel
theorem dX4_isSame_141 : decode cX4_isSame 141 = .ok (.iconst 1, 1) := by decide +kernel
theorem dX4_isSame_142 : decode cX4_isSame 142 = .ok (.aload 7, 2) := by decide +kernel
theorem dX4_isSame_144 : decode cX4_isSame 144 = .ok (.iconst 1, 1) := by decide +kernel
theorem dX4_isSame_145 : decode cX4_isSame 145 = .ok (.iaload, 1) := by decide +kernel
theorem dX4_isSame_146 : decode cX4_isSame 146 = .ok (.iastore, 1) := by decide +kernel
theorem dX4_isSame_147 : decode cX4_isSame 147 = .ok (.dup, 1) := by decide +kernel
theorem dX4_isSame_148 : decode cX4_isSame 148 = .ok (.iconst 2, 1) := by decide +kernel
theorem dX4_isSame_149 : decode cX4_isSame 149 = .ok (.aload 7, 2) := by decide +kernel
theorem dX4_isSame_151 : decode cX4_isSame 151 = .ok (.invokestatic 55, 3) := by decide +kernel
theorem dX4_isSame_154 : decode cX4_isSame 154 = .ok (.iastore, 1) := by decide +kernel
theorem dX4_isSame_155 : decode cX4_isSame 155 = .ok (.dup, 1) := by decide +kernel
theorem dX4_isSame_156 : decode cX4_isSame 156 = .ok (.iconst 3, 1) := by decide +kernel
theorem dX4_isSame_157 : decode cX4_isSame 157 = .ok (.aload 7, 2) := by decide +kernel
theorem dX4_isSame_159 : decode cX4_isSame 159 = .ok (.invokestatic 59, 3) := by decide +kernel
theorem dX4_isSame_162 : decode cX4_isSame 162 = .ok (.iastore, 1) := by decide +kernel
theorem dX4_isSame_163 : decode cX4_isSame 163 = .ok (.dup, 1) := by decide +kernel
theorem dX4_isSame_164 : decode cX4_isSame 164 = .ok (.iconst 4, 1) := by decide +kernel
theorem dX4_isSame_165 : decode cX4_isSame 165 = .ok (.iload 6, 2) := by decide +kernel
theorem dX4_isSame_167 : decode cX4_isSame 167 = .ok (.ifCond .eq 7, 3) := by decide +kernel
theorem dX4_isSame_170 : decode cX4_isSame 170 = .ok (.iconst 0, 1) := by decide +kernel
theorem dX4_isSame_171 : decode cX4_isSame 171 = .ok (.goto 7, 3) := by decide +kernel
theorem dX4_isSame_174 : decode cX4_isSame 174 = .ok (.aload 7, 2) := by decide +kernel
theorem dX4_isSame_176 : decode cX4_isSame 176 = .ok (.iconst 2, 1) := by decide +kernel
theorem dX4_isSame_177 : decode cX4_isSame 177 = .ok (.iaload, 1) := by decide +kernel
theorem dX4_isSame_178 : decode cX4_isSame 178 = .ok (.iastore, 1) := by decide +kernel
theorem dX4_isSame_179 : decode cX4_isSame 179 = .ok (.astore 8, 2) := by decide +kernel
theorem dX4_isSame_181 : decode cX4_isSame 181 = .ok (.iconst 0, 1) := by decide +kernel
theorem dX4_isSame_182 : decode cX4_isSame 182 = .ok (.istore 9, 2) := by decide +kernel
theorem dX4_isSame_184 : decode cX4_isSame 184 = .ok (.iload 9, 2) := by decide +kernel
theorem dX4_isSame_186 : decode cX4_isSame 186 = .ok (.iload 6, 2) := by decide +kernel
theorem dX4_isSame_188 : decode cX4_isSame 188 = .ok (.ifCond .eq 7, 3) := by decide +kernel
theorem dX4_isSame_191 : decode cX4_isSame 191 = .ok (.iconst 4, 1) := by decide +kernel
theorem dX4_isSame_192 : decode cX4_isSame 192 = .ok (.goto 4, 3) := by decide +kernel
theorem dX4_isSame_195 : decode cX4_isSame 195 = .ok (.iconst 5, 1) := by decide +kernel
theorem dX4_isSame_196 : decode cX4_isSame 196 = .ok (.if_icmp .ge 49, 3) := by decide +kernel
theorem dX4_isSame_199 : decode cX4_isSame 199 = .ok (.iload 6, 2) := by decide +kernel
theorem dX4_isSame_201 : decode cX4_isSame 201 = .ok (.ifCond .eq 14, 3) := by decide +kernel
theorem dX4_isSame_204 : decode cX4_isSame 204 = .ok (.aload_n 1, 1) := by decide +kernel
theorem dX4_isSame_205 : decode cX4_isSame 205 = .ok (.iload 5, 2) := by decide +kernel
theorem dX4_isSame_207 : decode cX4_isSame 207 = .ok (.iload 9, 2) := by decide +kernel
theorem dX4_isSame_209 : decode cX4_isSame 209 = .ok (.invokevirtual 68, 3) := by decide +kernel
theorem dX4_isSame_212 : decode cX4_isSame 212 = .ok (.goto 17, 3) := by decide +kernel
theorem dX4_isSame_215 : decode cX4_isSame 215 = .ok (.aload_n 1, 1) := by decide +kernel
theorem dX4_isSame_216 : decode cX4_isSame 216 = .ok (.iload 5, 2) := by decide +kernel
theorem dX4_isSame_218 : decode cX4_isSame 218 = .ok (.aload_n 0, 1) := by decide +kernel
theorem dX4_isSame_219 : decode cX4_isSame 219 = .ok (.getfield 21, 3) := by decide +kernel
theorem dX4_isSame_222 : decode cX4_isSame 222 = .ok (.arraylength, 1) := by decide +kernel
theorem dX4_isSame_223 : decode cX4_isSame 223 = .ok (.isub, 1) := by decide +kernel
theorem dX4_isSame_224 : decode cX4_isSame 224 = .ok (.iload 9, 2) := by decide +kernel
theorem dX4_isSame_226 : decode cX4_isSame 226 = .ok (.invokevirtual 71, 3) := by decide +kernel
theorem dX4_isSame_229 : decode cX4_isSame 229 = .ok (.aload 8, 2) := by decide +kernel
theorem dX4_isSame_231 : decode cX4_isSame 231 = .ok (.iload 9, 2) := by decide +kernel
theorem dX4_isSame_233 : decode cX4_isSame 233 = .ok (.iaload, 1) := by decide +kernel
theorem dX4_isSame_234 : decode cX4_isSame 234 = .ok (.if_icmp .eq 5, 3) := by decide +kernel
theorem dX4_isSame_237 : decode cX4_isSame 237 = .ok (.iconst 0, 1) := by decide +kernel
theorem dX4_isSame_238 : decode cX4_isSame 238 = .ok (.ireturn, 1) := by decide +kernel
theorem dX4_isSame_239 : decode cX4_isSame 239 = .ok (.iinc 9 1, 3) := by decide +kernel
theorem dX4_isSame_242 : decode cX4_isSame 242 = .ok (.goto (-58), 3) := by decide +kernel
theorem dX4_isSame_245 : decode cX4_isSame 245 = .ok (.iload_n 2, 1) := by decide +kernel
theorem dX4_isSame_246 : decode cX4_isSame 246 = .ok (.aload 7, 2) := by decide +kernel
theorem dX4_isSame_248 : decode cX4_isSame 248 = .ok (.iconst 1, 1) := by decide +kernel
theorem dX4_isSame_249 : decode cX4_isSame 249 = .ok (.iaload, 1) := by decide +kernel
theorem dX4_isSame_250 : decode cX4_isSame 250 = .ok (.iadd, 1) := by decide +kernel
theorem dX4_isSame_251 : decode cX4_isSame 251 = .ok (.istore_n 2, 1) := by decide +kernel
theorem dX4_isSame_252 : decode cX4_isSame 252 = .ok (.iload_n 3, 1) := by decide +kernel
theorem dX4_isSame_253 : decode cX4_isSame 253 = .ok (.aload 7, 2) := by decide +kernel
theorem dX4_isSame_255 : decode cX4_isSame 255 = .ok (.invokestatic 55, 3) := by decide +kernel
theorem dX4_isSame_258 : decode cX4_isSame 258 = .ok (.iadd, 1) := by decide +kernel
theorem dX4_isSame_259 : decode cX4_isSame 259 = .ok (.istore_n 3, 1) := by decide +kernel
theorem dX4_isSame_260 : decode cX4_isSame 260 = .ok (.iload 4, 2) := by decide +kernel
theorem dX4_isSame_262 : decode cX4_isSame 262 = .ok (.aload 7, 2) := by decide +kernel
theorem dX4_isSame_264 : decode cX4_isSame 264 = .ok (.iconst 0, 1) := by decide +kernel
theorem dX4_isSame_265 : decode cX4_isSame 265 = .ok (.iaload, 1) := by decide +kernel
theorem dX4_isSame_266 : decode cX4_isSame 266 = .ok (.ifCond .gt 10, 3) := by decide +kernel
theorem dX4_isSame_269 : decode cX4_isSame 269 = .ok (.aload 7, 2) := by decide +kernel
theorem dX4_isSame_271 : decode cX4_isSame 271 = .ok (.iconst 1, 1) := by decide +kernel
theorem dX4_isSame_272 : decode cX4_isSame 272 = .ok (.iaload, 1) := by decide +kernel
theorem dX4_isSame_273 : decode cX4_isSame 273 = .ok (.ifCond .le 7, 3) := by decide +kernel
theorem dX4_isSame_276 : decode cX4_isSame 276 = .ok (.iconst 1, 1) := by decide +kernel
theorem dX4_isSame_277 : decode cX4_isSame 277 = .ok (.goto 4, 3) := by decide +kernel
theorem dX4_isSame_280 : decode cX4_isSame 280 = .ok (.iconst 0, 1) := by decide +kernel
theorem dX4_isSame_281 : decode cX4_isSame 281 = .ok (.iadd, 1) := by decide +kernel
theorem dX4_isSame_282 : decode cX4_isSame 282 = .ok (.istore 4, 2) := by decide +kernel
theorem dX4_isSame_284 : decode cX4_isSame 284 = .ok (.iinc 5 1, 3) := by decide +kernel
theorem dX4_isSame_287 : decode cX4_isSame 287 = .ok (.goto (-220), 3) := by decide +kernel
theorem dX4_isSame_290 : decode cX4_isSame 290 = .ok (.bipush 10, 2) := by decide +kernel
theorem dX4_isSame_292 : decode cX4_isSame 292 = .ok (.newarray .int, 2) := by decide +kernel
theorem dX4_isSame_294 : decode cX4_isSame 294 = .ok (.dup, 1) := by decide +kernel
theorem dX4_isSame_295 : decode cX4_isSame 295 = .ok (.iconst 0, 1) := by decide +kernel
theorem dX4_isSame_296 : decode cX4_isSame 296 = .ok (.aload_n 0, 1) := by decide +kernel
theorem dX4_isSame_297 : decode cX4_isSame 297 = .ok (.getfield 36, 3) := by decide +kernel
theorem dX4_isSame_300 : decode cX4_isSame 300 = .ok (.iastore, 1) := by decide +kernel
theorem dX4_isSame_301 : decode cX4_isSame 301 = .ok (.dup, 1) := by decide +kernel
theorem dX4_isSame_302 : decode cX4_isSame 302 = .ok (.iconst 1, 1) := by decide +kernel
theorem dX4_isSame_303 : decode cX4_isSame 303 = .ok (.aload_n 0, 1) := by decide +kernel
theorem dX4_isSame_304 : decode cX4_isSame 304 = .ok (.getfield 7, 3) := by decide +kernel
theorem dX4_isSame_307 : decode cX4_isSame 307 = .ok (.aload_n 0, 1) := by decide +kernel
theorem dX4_isSame_308 : decode cX4_isSame 308 = .ok (.getfield 36, 3) := by decide +kernel
theorem dX4_isSame_311 : decode cX4_isSame 311 = .ok (.bipush 6, 2) := by decide +kernel
theorem dX4_isSame_313 : decode cX4_isSame 313 = .ok (.irem, 1) := by decide +kernel
theorem dX4_isSame_314 : decode cX4_isSame 314 = .ok (.iaload, 1) := by decide +kernel
theorem dX4_isSame_315 : decode cX4_isSame 315 = .ok (.iastore, 1) := by decide +kernel
theorem dX4_isSame_316 : decode cX4_isSame 316 = .ok (.dup, 1) := by decide +kernel
theorem dX4_isSame_317 : decode cX4_isSame 317 = .ok (.iconst 2, 1) := by decide +kernel
theorem dX4_isSame_318 : decode cX4_isSame 318 = .ok (.aload_n 0, 1) := by decide +kernel
theorem dX4_isSame_319 : decode cX4_isSame 319 = .ok (.getfield 40, 3) := by decide +kernel
theorem dX4_isSame_322 : decode cX4_isSame 322 = .ok (.iastore, 1) := by decide +kernel
theorem dX4_isSame_323 : decode cX4_isSame 323 = .ok (.dup, 1) := by decide +kernel
theorem dX4_isSame_324 : decode cX4_isSame 324 = .ok (.iconst 3, 1) := by decide +kernel
theorem dX4_isSame_325 : decode cX4_isSame 325 = .ok (.aload_n 0, 1) := by decide +kernel
theorem dX4_isSame_326 : decode cX4_isSame 326 = .ok (.getfield 74, 3) := by decide +kernel
theorem dX4_isSame_329 : decode cX4_isSame 329 = .ok (.iastore, 1) := by decide +kernel
theorem dX4_isSame_330 : decode cX4_isSame 330 = .ok (.dup, 1) := by decide +kernel
theorem dX4_isSame_331 : decode cX4_isSame 331 = .ok (.iconst 4, 1) := by decide +kernel
theorem dX4_isSame_332 : decode cX4_isSame 332 = .ok (.aload_n 0, 1) := by decide +kernel
theorem dX4_isSame_333 : decode cX4_isSame 333 = .ok (.getfield 43, 3) := by decide +kernel
theorem dX4_isSame_336 : decode cX4_isSame 336 = .ok (.iastore, 1) := by decide +kernel
theorem dX4_isSame_337 : decode cX4_isSame 337 = .ok (.dup, 1) := by decide +kernel
theorem dX4_isSame_338 : decode cX4_isSame 338 = .ok (.iconst 5, 1) := by decide +kernel
theorem dX4_isSame_339 : decode cX4_isSame 339 = .ok (.aload_n 0, 1) := by decide +kernel
theorem dX4_isSame_340 : decode cX4_isSame 340 = .ok (.getfield 46, 3) := by decide +kernel
theorem dX4_isSame_343 : decode cX4_isSame 343 = .ok (.iastore, 1) := by decide +kernel
theorem dX4_isSame_344 : decode cX4_isSame 344 = .ok (.dup, 1) := by decide +kernel
theorem dX4_isSame_345 : decode cX4_isSame 345 = .ok (.bipush 6, 2) := by decide +kernel
theorem dX4_isSame_347 : decode cX4_isSame 347 = .ok (.aload_n 0, 1) := by decide +kernel
theorem dX4_isSame_348 : decode cX4_isSame 348 = .ok (.getfield 49, 3) := by decide +kernel
theorem dX4_isSame_351 : decode cX4_isSame 351 = .ok (.iastore, 1) := by decide +kernel
theorem dX4_isSame_352 : decode cX4_isSame 352 = .ok (.dup, 1) := by decide +kernel
theorem dX4_isSame_353 : decode cX4_isSame 353 = .ok (.bipush 7, 2) := by decide +kernel
theorem dX4_isSame_355 : decode cX4_isSame 355 = .ok (.aload_n 0, 1) := by decide +kernel
theorem dX4_isSame_356 : decode cX4_isSame 356 = .ok (.invokevirtual 77, 3) := by decide +kernel
theorem dX4_isSame_359 : decode cX4_isSame 359 = .ok (.iastore, 1) := by decide +kernel
theorem dX4_isSame_360 : decode cX4_isSame 360 = .ok (.dup, 1) := by decide +kernel
theorem dX4_isSame_361 : decode cX4_isSame 361 = .ok (.bipush 8, 2) := by decide +kernel
theorem dX4_isSame_363 : decode cX4_isSame 363 = .ok (.iload_n 2, 1) := by decide +kernel
theorem dX4_isSame_364 : decode cX4_isSame 364 = .ok (.iastore, 1) := by decide +kernel
theorem dX4_isSame_365 : decode cX4_isSame 365 = .ok (.dup, 1) := by decide +kernel
theorem dX4_isSame_366 : decode cX4_isSame 366 = .ok (.bipush 9, 2) := by decide +kernel
theorem dX4_isSame_368 : decode cX4_isSame 368 = .ok (.aload_n 0, 1) := by decide +kernel
theorem dX4_isSame_369 : decode cX4_isSame 369 = .ok (.getfield 52, 3) := by decide +kernel
theorem dX4_isSame_372 : decode cX4_isSame 372 = .ok (.iastore, 1) := by decide +kernel
theorem dX4_isSame_373 : decode cX4_isSame 373 = .ok (.astore 5, 2) := by decide +kernel
theorem dX4_isSame_375 : decode cX4_isSame 375 = .ok (.iconst 0, 1) := by decide +kernel
theorem dX4_isSame_376 : decode cX4_isSame 376 = .ok (.istore 6, 2) := by decide +kernel
theorem dX4_isSame_378 : decode cX4_isSame 378 = .ok (.iload 6, 2) := by decide +kernel
theorem dX4_isSame_380 : decode cX4_isSame 380 = .ok (.bipush 10, 2) := by decide +kernel
theorem dX4_isSame_382 : decode cX4_isSame 382 = .ok (.if_icmp .ge 25, 3) := by decide +kernel
theorem dX4_isSame_385 : decode cX4_isSame 385 = .ok (.aload_n 1, 1) := by decide +kernel
theorem dX4_isSame_386 : decode cX4_isSame 386 = .ok (.iload 6, 2) := by decide +kernel
theorem dX4_isSame_388 : decode cX4_isSame 388 = .ok (.invokevirtual 81, 3) := by decide +kernel
theorem dX4_isSame_391 : decode cX4_isSame 391 = .ok (.aload 5, 2) := by decide +kernel
theorem dX4_isSame_393 : decode cX4_isSame 393 = .ok (.iload 6, 2) := by decide +kernel
theorem dX4_isSame_395 : decode cX4_isSame 395 = .ok (.iaload, 1) := by decide +kernel
theorem dX4_isSame_396 : decode cX4_isSame 396 = .ok (.if_icmp .eq 5, 3) := by decide +kernel
theorem dX4_isSame_399 : decode cX4_isSame 399 = .ok (.iconst 0, 1) := by decide +kernel
theorem dX4_isSame_400 : decode cX4_isSame 400 = .ok (.ireturn, 1) := by decide +kernel
theorem dX4_isSame_401 : decode cX4_isSame 401 = .ok (.iinc 6 1, 3) := by decide +kernel
theorem dX4_isSame_404 : decode cX4_isSame 404 = .ok (.goto (-26), 3) := by decide +kernel
theorem dX4_isSame_407 : decode cX4_isSame 407 = .ok (.aload_n 1, 1) := by decide +kernel
theorem dX4_isSame_408 : decode cX4_isSame 408 = .ok (.invokevirtual 85, 3) := by decide +kernel
theorem dX4_isSame_411 : decode cX4_isSame 411 = .ok (.iload 4, 2) := by decide +kernel
theorem dX4_isSame_413 : decode cX4_isSame 413 = .ok (.ifCond .ne 7, 3) := by decide +kernel
theorem dX4_isSame_416 : decode cX4_isSame 416 = .ok (.dconst 0, 1) := by decide +kernel
theorem dX4_isSame_417 : decode cX4_isSame 417 = .ok (.goto 9, 3) := by decide +kernel
theorem dX4_isSame_420 : decode cX4_isSame 420 = .ok (.iload_n 3, 1) := by decide +kernel
theorem dX4_isSame_421 : decode cX4_isSame 421 = .ok (.i2d, 1) := by decide +kernel
theorem dX4_isSame_422 : decode cX4_isSame 422 = .ok (.iload 4, 2) := by decide +kernel
theorem dX4_isSame_424 : decode cX4_isSame 424 = .ok (.i2d, 1) := by decide +kernel
theorem dX4_isSame_425 : decode cX4_isSame 425 = .ok (.ddiv, 1) := by decide +kernel
theorem dX4_isSame_426 : decode cX4_isSame 426 = .ok (.dcmp .l, 1) := by decide +kernel
theorem dX4_isSame_427 : decode cX4_isSame 427 = .ok (.ifCond .ne 7, 3) := by decide +kernel
theorem dX4_isSame_430 : decode cX4_isSame 430 = .ok (.iconst 1, 1) := by decide +kernel
theorem dX4_isSame_431 : decode cX4_isSame 431 = .ok (.goto 4, 3) := by decide +kernel
theorem dX4_isSame_434 : decode cX4_isSame 434 = .ok (.iconst 0, 1) := by decide +kernel
theorem dX4_isSame_435 : decode cX4_isSame 435 = .ok (.ireturn, 1) := by decide +kernel
theorem dJ9_floorMod_7cf53_0 : decode cJ9_floorMod_7cf53 0 = .ok (.iload_n 0, 1) := by decide +kernel
theorem dJ9_floorMod_7cf53_1 : decode cJ9_floorMod_7cf53 1 = .ok (.iload_n 1, 1) := by decide +kernel
theorem dJ9_floorMod_7cf53_2 : decode cJ9_floorMod_7cf53 2 = .ok (.irem, 1) := by decide +kernel
theorem dJ9_floorMod_7cf53_3 : decode cJ9_floorMod_7cf53 3 = .ok (.istore_n 2, 1) := by decide +kernel
theorem dJ9_floorMod_7cf53_4 : decode cJ9_floorMod_7cf53 4 = .ok (.iload_n 0, 1) := by decide +kernel
theorem dJ9_floorMod_7cf53_5 : decode cJ9_floorMod_7cf53 5 = .ok (.iload_n 1, 1) := by decide +kernel
theorem dJ9_floorMod_7cf53_6 : decode cJ9_floorMod_7cf53 6 = .ok (.ixor, 1) := by decide +kernel
theorem dJ9_floorMod_7cf53_7 : decode cJ9_floorMod_7cf53 7 = .ok (.ifCond .ge 11, 3) := by decide +kernel
theorem dJ9_floorMod_7cf53_10 : decode cJ9_floorMod_7cf53 10 = .ok (.iload_n 2, 1) := by decide +kernel
theorem dJ9_floorMod_7cf53_11 : decode cJ9_floorMod_7cf53 11 = .ok (.ifCond .eq 7, 3) := by decide +kernel
theorem dJ9_floorMod_7cf53_14 : decode cJ9_floorMod_7cf53 14 = .ok (.iload_n 2, 1) := by decide +kernel
theorem dJ9_floorMod_7cf53_15 : decode cJ9_floorMod_7cf53 15 = .ok (.iload_n 1, 1) := by decide +kernel
theorem dJ9_floorMod_7cf53_16 : decode cJ9_floorMod_7cf53 16 = .ok (.iadd, 1) := by decide +kernel
theorem dJ9_floorMod_7cf53_17 : decode cJ9_floorMod_7cf53 17 = .ok (.ireturn, 1) := by decide +kernel
theorem dJ9_floorMod_7cf53_18 : decode cJ9_floorMod_7cf53 18 = .ok (.iload_n 2, 1) := by decide +kernel
theorem dJ9_floorMod_7cf53_19 : decode cJ9_floorMod_7cf53 19 = .ok (.ireturn, 1) := by decide +kernel
theorem dJ9_max_7cf53_0 : decode cJ9_max_7cf53 0 = .ok (.iload_n 0, 1) := by decide +kernel
theorem dJ9_max_7cf53_1 : decode cJ9_max_7cf53 1 = .ok (.iload_n 1, 1) := by decide +kernel
theorem dJ9_max_7cf53_2 : decode cJ9_max_7cf53 2 = .ok (.if_icmp .lt 7, 3) := by decide +kernel
theorem dJ9_max_7cf53_5 : decode cJ9_max_7cf53 5 = .ok (.iload_n 0, 1) := by decide +kernel
theorem dJ9_max_7cf53_6 : decode cJ9_max_7cf53 6 = .ok (.goto 4, 3) := by decide +kernel
theorem dJ9_max_7cf53_9 : decode cJ9_max_7cf53 9 = .ok (.iload_n 1, 1) := by decide +kernel
theorem dJ9_max_7cf53_10 : decode cJ9_max_7cf53 10 = .ok (.ireturn, 1) := by decide +kernel
theorem dJ9_min_7cf53_0 : decode cJ9_min_7cf53 0 = .ok (.iload_n 0, 1) := by decide +kernel
theorem dJ9_min_7cf53_1 : decode cJ9_min_7cf53 1 = .ok (.iload_n 1, 1) := by decide +kernel
theorem dJ9_min_7cf53_2 : decode cJ9_min_7cf53 2 = .ok (.if_icmp .gt 7, 3) := by decide +kernel
theorem dJ9_min_7cf53_5 : decode cJ9_min_7cf53 5 = .ok (.iload_n 0, 1) := by decide +kernel
theorem dJ9_min_7cf53_6 : decode cJ9_min_7cf53 6 = .ok (.goto 4, 3) := by decide +kernel
theorem dJ9_min_7cf53_9 : decode cJ9_min_7cf53 9 = .ok (.iload_n 1, 1) := by decide +kernel
theorem dJ9_min_7cf53_10 : decode cJ9_min_7cf53 10 = .ok (.ireturn, 1) := by decide +kernel
theorem dL_below_0 : decode cL_below 0 = .ok (.iload_n 0, 1) := by decide +kernel
theorem dL_below_1 : decode cL_below 1 = .ok (.ldc 7, 2) := by decide +kernel
theorem dL_below_3 : decode cL_below 3 = .ok (.iand, 1) := by decide +kernel
theorem dL_below_4 : decode cL_below 4 = .ok (.iload_n 1, 1) := by decide +kernel
theorem dL_below_5 : decode cL_below 5 = .ok (.irem, 1) := by decide +kernel
theorem dL_below_6 : decode cL_below 6 = .ok (.ireturn, 1) := by decide +kernel
theorem dL_cell_0 : decode cL_cell 0 = .ok (.iload_n 1, 1) := by decide +kernel
theorem dL_cell_1 : decode cL_cell 1 = .ok (.aload_n 0, 1) := by decide +kernel
theorem dL_cell_2 : decode cL_cell 2 = .ok (.arraylength, 1) := by decide +kernel
theorem dL_cell_3 : decode cL_cell 3 = .ok (.if_icmp .ge 9, 3) := by decide +kernel
theorem dL_cell_6 : decode cL_cell 6 = .ok (.aload_n 0, 1) := by decide +kernel
theorem dL_cell_7 : decode cL_cell 7 = .ok (.iload_n 1, 1) := by decide +kernel
theorem dL_cell_8 : decode cL_cell 8 = .ok (.iaload, 1) := by decide +kernel
theorem dL_cell_9 : decode cL_cell 9 = .ok (.goto 9, 3) := by decide +kernel
theorem dL_cell_12 : decode cL_cell 12 = .ok (.ldc 8, 2) := by decide +kernel
theorem dL_cell_14 : decode cL_cell 14 = .ok (.iload_n 1, 1) := by decide +kernel
theorem dL_cell_15 : decode cL_cell 15 = .ok (.iconst 3, 1) := by decide +kernel
theorem dL_cell_16 : decode cL_cell 16 = .ok (.iadd, 1) := by decide +kernel
theorem dL_cell_17 : decode cL_cell 17 = .ok (.imul, 1) := by decide +kernel
theorem dL_cell_18 : decode cL_cell 18 = .ok (.ireturn, 1) := by decide +kernel
theorem dL_act_0 : decode cL_act 0 = .ok (.aload_n 1, 1) := by decide +kernel
theorem dL_act_1 : decode cL_act 1 = .ok (.getfield 9, 3) := by decide +kernel
theorem dL_act_4 : decode cL_act 4 = .ok (.arraylength, 1) := by decide +kernel
theorem dL_act_5 : decode cL_act 5 = .ok (.istore_n 3, 1) := by decide +kernel
theorem dL_act_6 : decode cL_act 6 = .ok (.aload_n 1, 1) := by decide +kernel
theorem dL_act_7 : decode cL_act 7 = .ok (.getfield 15, 3) := by decide +kernel
theorem dL_act_10 : decode cL_act 10 = .ok (.arraylength, 1) := by decide +kernel
theorem dL_act_11 : decode cL_act 11 = .ok (.istore 4, 2) := by decide +kernel
theorem dL_act_13 : decode cL_act 13 = .ok (.aload_n 1, 1) := by decide +kernel
theorem dL_act_14 : decode cL_act 14 = .ok (.getfield 18, 3) := by decide +kernel
theorem dL_act_17 : decode cL_act 17 = .ok (.arraylength, 1) := by decide +kernel
theorem dL_act_18 : decode cL_act 18 = .ok (.istore 5, 2) := by decide +kernel
theorem dL_act_20 : decode cL_act 20 = .ok (.iload_n 3, 1) := by decide +kernel
theorem dL_act_21 : decode cL_act 21 = .ok (.ifCond .ne 7, 3) := by decide +kernel
theorem dL_act_24 : decode cL_act 24 = .ok (.aconst_null, 1) := by decide +kernel
theorem dL_act_25 : decode cL_act 25 = .ok (.goto 13, 3) := by decide +kernel
theorem dL_act_28 : decode cL_act 28 = .ok (.aload_n 1, 1) := by decide +kernel
theorem dL_act_29 : decode cL_act 29 = .ok (.getfield 9, 3) := by decide +kernel
theorem dL_act_32 : decode cL_act 32 = .ok (.iload_n 2, 1) := by decide +kernel
theorem dL_act_33 : decode cL_act 33 = .ok (.iload_n 3, 1) := by decide +kernel
theorem dL_act_34 : decode cL_act 34 = .ok (.invokestatic 21, 3) := by decide +kernel
theorem dL_act_37 : decode cL_act 37 = .ok (.aaload, 1) := by decide +kernel
theorem dL_act_38 : decode cL_act 38 = .ok (.astore 6, 2) := by decide +kernel
theorem dL_act_40 : decode cL_act 40 = .ok (.iload 4, 2) := by decide +kernel
theorem dL_act_42 : decode cL_act 42 = .ok (.ifCond .ne 7, 3) := by decide +kernel
theorem dL_act_45 : decode cL_act 45 = .ok (.aconst_null, 1) := by decide +kernel
theorem dL_act_46 : decode cL_act 46 = .ok (.goto 16, 3) := by decide +kernel
theorem dL_act_49 : decode cL_act 49 = .ok (.aload_n 1, 1) := by decide +kernel
theorem dL_act_50 : decode cL_act 50 = .ok (.getfield 15, 3) := by decide +kernel
theorem dL_act_53 : decode cL_act 53 = .ok (.iload_n 2, 1) := by decide +kernel
theorem dL_act_54 : decode cL_act 54 = .ok (.iconst 2, 1) := by decide +kernel
theorem dL_act_55 : decode cL_act 55 = .ok (.ishr, 1) := by decide +kernel
theorem dL_act_56 : decode cL_act 56 = .ok (.iload 4, 2) := by decide +kernel
theorem dL_act_58 : decode cL_act 58 = .ok (.invokestatic 21, 3) := by decide +kernel
theorem dL_act_61 : decode cL_act 61 = .ok (.aaload, 1) := by decide +kernel
theorem dL_act_62 : decode cL_act 62 = .ok (.astore 7, 2) := by decide +kernel
theorem dL_act_64 : decode cL_act 64 = .ok (.iload 5, 2) := by decide +kernel
theorem dL_act_66 : decode cL_act 66 = .ok (.ifCond .ne 7, 3) := by decide +kernel
theorem dL_act_69 : decode cL_act 69 = .ok (.aconst_null, 1) := by decide +kernel
theorem dL_act_70 : decode cL_act 70 = .ok (.goto 16, 3) := by decide +kernel
theorem dL_act_73 : decode cL_act 73 = .ok (.aload_n 1, 1) := by decide +kernel
theorem dL_act_74 : decode cL_act 74 = .ok (.getfield 18, 3) := by decide +kernel
theorem dL_act_77 : decode cL_act 77 = .ok (.iload_n 2, 1) := by decide +kernel
theorem dL_act_78 : decode cL_act 78 = .ok (.iconst 3, 1) := by decide +kernel
theorem dL_act_79 : decode cL_act 79 = .ok (.ishr, 1) := by decide +kernel
theorem dL_act_80 : decode cL_act 80 = .ok (.iload 5, 2) := by decide +kernel
theorem dL_act_82 : decode cL_act 82 = .ok (.invokestatic 21, 3) := by decide +kernel
theorem dL_act_85 : decode cL_act 85 = .ok (.aaload, 1) := by decide +kernel
theorem dL_act_86 : decode cL_act 86 = .ok (.astore 8, 2) := by decide +kernel
theorem dL_act_88 : decode cL_act 88 = .ok (.iload_n 2, 1) := by decide +kernel
theorem dL_act_89 : decode cL_act 89 = .ok (.bipush 9, 2) := by decide +kernel
theorem dL_act_91 : decode cL_act 91 = .ok (.ishr, 1) := by decide +kernel
theorem dL_act_92 : decode cL_act 92 = .ok (.bipush 19, 2) := by decide +kernel
theorem dL_act_94 : decode cL_act 94 = .ok (.invokestatic 21, 3) := by decide +kernel
theorem dL_act_97 : decode cL_act 97 = .ok (.tableswitch 882 0 16 #[83, 150, 225, 274, 274, 324, 372, 442, 498, 498, 498, 604, 604, 685, 685, 831, 831], 83) := by decide +kernel
theorem dL_act_180 : decode cL_act 180 = .ok (.iload_n 3, 1) := by decide +kernel
theorem dL_act_181 : decode cL_act 181 = .ok (.iconst 4, 1) := by decide +kernel
theorem dL_act_182 : decode cL_act 182 = .ok (.if_icmp .ne 5, 3) := by decide +kernel
theorem dL_act_185 : decode cL_act 185 = .ok (.iconst 1, 1) := by decide +kernel
theorem dL_act_186 : decode cL_act 186 = .ok (.ireturn, 1) := by decide +kernel
theorem dL_act_187 : decode cL_act 187 = .ok (.iconst 1, 1) := by decide +kernel
theorem dL_act_188 : decode cL_act 188 = .ok (.iload_n 2, 1) := by decide +kernel
theorem dL_act_189 : decode cL_act 189 = .ok (.iconst 2, 1) := by decide +kernel
theorem dL_act_190 : decode cL_act 190 = .ok (.ishr, 1) := by decide +kernel
theorem dL_act_191 : decode cL_act 191 = .ok (.sipush 200, 3) := by decide +kernel
theorem dL_act_194 : decode cL_act 194 = .ok (.invokestatic 21, 3) := by decide +kernel
theorem dL_act_197 : decode cL_act 197 = .ok (.iadd, 1) := by decide +kernel
theorem dL_act_198 : decode cL_act 198 = .ok (.istore 9, 2) := by decide +kernel
theorem dL_act_200 : decode cL_act 200 = .ok (.aload_n 1, 1) := by decide +kernel
theorem dL_act_201 : decode cL_act 201 = .ok (.aload_n 1, 1) := by decide +kernel
theorem dL_act_202 : decode cL_act 202 = .ok (.getfield 9, 3) := by decide +kernel
theorem dL_act_205 : decode cL_act 205 = .ok (.iconst 4, 1) := by decide +kernel
theorem dL_act_206 : decode cL_act 206 = .ok (.newarray .int, 2) := by decide +kernel
theorem dL_act_208 : decode cL_act 208 = .ok (.dup, 1) := by decide +kernel
theorem dL_act_209 : decode cL_act 209 = .ok (.iconst 0, 1) := by decide +kernel
theorem dL_act_210 : decode cL_act 210 = .ok (.iload 9, 2) := by decide +kernel
theorem dL_act_212 : decode cL_act 212 = .ok (.iastore, 1) := by decide +kernel
theorem dL_act_213 : decode cL_act 213 = .ok (.dup, 1) := by decide +kernel
theorem dL_act_214 : decode cL_act 214 = .ok (.iconst 1, 1) := by decide +kernel
theorem dL_act_215 : decode cL_act 215 = .ok (.iconst 0, 1) := by decide +kernel
theorem dL_act_216 : decode cL_act 216 = .ok (.iastore, 1) := by decide +kernel
theorem dL_act_217 : decode cL_act 217 = .ok (.dup, 1) := by decide +kernel
theorem dL_act_218 : decode cL_act 218 = .ok (.iconst 2, 1) := by decide +kernel
theorem dL_act_219 : decode cL_act 219 = .ok (.iconst 0, 1) := by decide +kernel
theorem dL_act_220 : decode cL_act 220 = .ok (.iastore, 1) := by decide +kernel
theorem dL_act_221 : decode cL_act 221 = .ok (.dup, 1) := by decide +kernel
theorem dL_act_222 : decode cL_act 222 = .ok (.iconst 3, 1) := by decide +kernel
theorem dL_act_223 : decode cL_act 223 = .ok (.iconst 0, 1) := by decide +kernel
theorem dL_act_224 : decode cL_act 224 = .ok (.iastore, 1) := by decide +kernel
theorem dL_act_225 : decode cL_act 225 = .ok (.invokestatic 27, 3) := by decide +kernel
theorem dL_act_228 : decode cL_act 228 = .ok (.putfield 9, 3) := by decide +kernel
theorem dL_act_231 : decode cL_act 231 = .ok (.aload_n 0, 1) := by decide +kernel
theorem dL_act_232 : decode cL_act 232 = .ok (.iload 9, 2) := by decide +kernel
theorem dL_act_234 : decode cL_act 234 = .ok (.invokevirtual 31, 3) := by decide +kernel
theorem dL_act_237 : decode cL_act 237 = .ok (.iload_n 3, 1) := by decide +kernel
theorem dL_act_238 : decode cL_act 238 = .ok (.if_icmp .ne 7, 3) := by decide +kernel
theorem dL_act_241 : decode cL_act 241 = .ok (.iconst 1, 1) := by decide +kernel
theorem dL_act_242 : decode cL_act 242 = .ok (.goto 4, 3) := by decide +kernel
theorem dL_act_245 : decode cL_act 245 = .ok (.iconst 0, 1) := by decide +kernel
theorem dL_act_246 : decode cL_act 246 = .ok (.ireturn, 1) := by decide +kernel
theorem dL_act_247 : decode cL_act 247 = .ok (.iload 4, 2) := by decide +kernel
theorem dL_act_249 : decode cL_act 249 = .ok (.iconst 4, 1) := by decide +kernel
theorem dL_act_250 : decode cL_act 250 = .ok (.if_icmp .ne 5, 3) := by decide +kernel
theorem dL_act_253 : decode cL_act 253 = .ok (.iconst 1, 1) := by decide +kernel
theorem dL_act_254 : decode cL_act 254 = .ok (.ireturn, 1) := by decide +kernel
theorem dL_act_255 : decode cL_act 255 = .ok (.iload_n 2, 1) := by decide +kernel
theorem dL_act_256 : decode cL_act 256 = .ok (.iconst 1, 1) := by decide +kernel
theorem dL_act_257 : decode cL_act 257 = .ok (.ishr, 1) := by decide +kernel
theorem dL_act_258 : decode cL_act 258 = .ok (.iload_n 2, 1) := by decide +kernel
theorem dL_act_259 : decode cL_act 259 = .ok (.bipush 6, 2) := by decide +kernel
theorem dL_act_261 : decode cL_act 261 = .ok (.ishr, 1) := by decide +kernel
theorem dL_act_262 : decode cL_act 262 = .ok (.iconst 2, 1) := by decide +kernel
theorem dL_act_263 : decode cL_act 263 = .ok (.invokestatic 21, 3) := by decide +kernel
theorem dL_act_266 : decode cL_act 266 = .ok (.ifCond .ne 9, 3) := by decide +kernel
theorem dL_act_269 : decode cL_act 269 = .ok (.sipush 401, 3) := by decide +kernel
theorem dL_act_272 : decode cL_act 272 = .ok (.goto 5, 3) := by decide +kernel
theorem dL_act_275 : decode cL_act 275 = .ok (.bipush 60, 2) := by decide +kernel
theorem dL_act_277 : decode cL_act 277 = .ok (.invokestatic 21, 3) := by decide +kernel
theorem dL_act_280 : decode cL_act 280 = .ok (.istore 10, 2) := by decide +kernel
theorem dL_act_282 : decode cL_act 282 = .ok (.aload_n 1, 1) := by decide +kernel
theorem dL_act_283 : decode cL_act 283 = .ok (.aload_n 1, 1) := by decide +kernel
theorem dL_act_284 : decode cL_act 284 = .ok (.getfield 15, 3) := by decide +kernel
theorem dL_act_287 : decode cL_act 287 = .ok (.iconst 2, 1) := by decide +kernel
theorem dL_act_288 : decode cL_act 288 = .ok (.newarray .int, 2) := by decide +kernel
theorem dL_act_290 : decode cL_act 290 = .ok (.dup, 1) := by decide +kernel
theorem dL_act_291 : decode cL_act 291 = .ok (.iconst 0, 1) := by decide +kernel
theorem dL_act_292 : decode cL_act 292 = .ok (.iload 10, 2) := by decide +kernel
theorem dL_act_294 : decode cL_act 294 = .ok (.iastore, 1) := by decide +kernel
theorem dL_act_295 : decode cL_act 295 = .ok (.dup, 1) := by decide +kernel
theorem dL_act_296 : decode cL_act 296 = .ok (.iconst 1, 1) := by decide +kernel
theorem dL_act_297 : decode cL_act 297 = .ok (.iconst 0, 1) := by decide +kernel
theorem dL_act_298 : decode cL_act 298 = .ok (.iastore, 1) := by decide +kernel
theorem dL_act_299 : decode cL_act 299 = .ok (.invokestatic 27, 3) := by decide +kernel
theorem dL_act_302 : decode cL_act 302 = .ok (.putfield 15, 3) := by decide +kernel
theorem dL_act_305 : decode cL_act 305 = .ok (.aload_n 0, 1) := by decide +kernel
theorem dL_act_306 : decode cL_act 306 = .ok (.iload 10, 2) := by decide +kernel
theorem dL_act_308 : decode cL_act 308 = .ok (.invokevirtual 37, 3) := by decide +kernel
theorem dL_act_311 : decode cL_act 311 = .ok (.iload 4, 2) := by decide +kernel
theorem dL_act_313 : decode cL_act 313 = .ok (.if_icmp .ne 7, 3) := by decide +kernel
theorem dL_act_316 : decode cL_act 316 = .ok (.iconst 1, 1) := by decide +kernel
theorem dL_act_317 : decode cL_act 317 = .ok (.goto 4, 3) := by decide +kernel
theorem dL_act_320 : decode cL_act 320 = .ok (.iconst 0, 1) := by decide +kernel
theorem dL_act_321 : decode cL_act 321 = .ok (.ireturn, 1) := by decide +kernel
theorem dL_act_322 : decode cL_act 322 = .ok (.iload 5, 2) := by decide +kernel
theorem dL_act_324 : decode cL_act 324 = .ok (.iconst 3, 1) := by decide +kernel
theorem dL_act_325 : decode cL_act 325 = .ok (.if_icmp .ne 5, 3) := by decide +kernel
theorem dL_act_328 : decode cL_act 328 = .ok (.iconst 1, 1) := by decide +kernel
theorem dL_act_329 : decode cL_act 329 = .ok (.ireturn, 1) := by decide +kernel
theorem dL_act_330 : decode cL_act 330 = .ok (.aload_n 1, 1) := by decide +kernel
theorem dL_act_331 : decode cL_act 331 = .ok (.aload_n 1, 1) := by decide +kernel
theorem dL_act_332 : decode cL_act 332 = .ok (.getfield 18, 3) := by decide +kernel
theorem dL_act_335 : decode cL_act 335 = .ok (.iconst 3, 1) := by decide +kernel
theorem dL_act_336 : decode cL_act 336 = .ok (.newarray .int, 2) := by decide +kernel
theorem dL_act_338 : decode cL_act 338 = .ok (.dup, 1) := by decide +kernel
theorem dL_act_339 : decode cL_act 339 = .ok (.iconst 0, 1) := by decide +kernel
theorem dL_act_340 : decode cL_act 340 = .ok (.iconst 0, 1) := by decide +kernel
theorem dL_act_341 : decode cL_act 341 = .ok (.iastore, 1) := by decide +kernel
theorem dL_act_342 : decode cL_act 342 = .ok (.dup, 1) := by decide +kernel
theorem dL_act_343 : decode cL_act 343 = .ok (.iconst 1, 1) := by decide +kernel
theorem dL_act_344 : decode cL_act 344 = .ok (.iconst 0, 1) := by decide +kernel
theorem dL_act_345 : decode cL_act 345 = .ok (.iastore, 1) := by decide +kernel
theorem dL_act_346 : decode cL_act 346 = .ok (.dup, 1) := by decide +kernel
theorem dL_act_347 : decode cL_act 347 = .ok (.iconst 2, 1) := by decide +kernel
theorem dL_act_348 : decode cL_act 348 = .ok (.iconst 0, 1) := by decide +kernel
theorem dL_act_349 : decode cL_act 349 = .ok (.iastore, 1) := by decide +kernel
theorem dL_act_350 : decode cL_act 350 = .ok (.invokestatic 27, 3) := by decide +kernel
theorem dL_act_353 : decode cL_act 353 = .ok (.putfield 18, 3) := by decide +kernel
theorem dL_act_356 : decode cL_act 356 = .ok (.aload_n 0, 1) := by decide +kernel
theorem dL_act_357 : decode cL_act 357 = .ok (.invokevirtual 40, 3) := by decide +kernel
theorem dL_act_360 : decode cL_act 360 = .ok (.iload 5, 2) := by decide +kernel
theorem dL_act_362 : decode cL_act 362 = .ok (.if_icmp .ne 7, 3) := by decide +kernel
theorem dL_act_365 : decode cL_act 365 = .ok (.iconst 1, 1) := by decide +kernel
theorem dL_act_366 : decode cL_act 366 = .ok (.goto 4, 3) := by decide +kernel
theorem dL_act_369 : decode cL_act 369 = .ok (.iconst 0, 1) := by decide +kernel
theorem dL_act_370 : decode cL_act 370 = .ok (.ireturn, 1) := by decide +kernel
theorem dL_act_371 : decode cL_act 371 = .ok (.iconst 1, 1) := by decide +kernel
theorem dL_act_372 : decode cL_act 372 = .ok (.iload_n 2, 1) := by decide +kernel
theorem dL_act_373 : decode cL_act 373 = .ok (.iconst 2, 1) := by decide +kernel
theorem dL_act_374 : decode cL_act 374 = .ok (.ishr, 1) := by decide +kernel
theorem dL_act_375 : decode cL_act 375 = .ok (.sipush 500, 3) := by decide +kernel
theorem dL_act_378 : decode cL_act 378 = .ok (.invokestatic 21, 3) := by decide +kernel
theorem dL_act_381 : decode cL_act 381 = .ok (.iadd, 1) := by decide +kernel
theorem dL_act_382 : decode cL_act 382 = .ok (.istore 11, 2) := by decide +kernel
theorem dL_act_384 : decode cL_act 384 = .ok (.aload_n 1, 1) := by decide +kernel
theorem dL_act_385 : decode cL_act 385 = .ok (.sipush 500, 3) := by decide +kernel
theorem dL_act_388 : decode cL_act 388 = .ok (.aload_n 1, 1) := by decide +kernel
theorem dL_act_389 : decode cL_act 389 = .ok (.getfield 44, 3) := by decide +kernel
theorem dL_act_392 : decode cL_act 392 = .ok (.iload 11, 2) := by decide +kernel
theorem dL_act_394 : decode cL_act 394 = .ok (.iadd, 1) := by decide +kernel
theorem dL_act_395 : decode cL_act 395 = .ok (.invokestatic 48, 3) := by decide +kernel
theorem dL_act_398 : decode cL_act 398 = .ok (.putfield 44, 3) := by decide +kernel
theorem dL_act_401 : decode cL_act 401 = .ok (.aload_n 0, 1) := by decide +kernel
theorem dL_act_402 : decode cL_act 402 = .ok (.iconst 0, 1) := by decide +kernel
theorem dL_act_403 : decode cL_act 403 = .ok (.iload 11, 2) := by decide +kernel
theorem dL_act_405 : decode cL_act 405 = .ok (.invokevirtual 53, 3) := by decide +kernel
theorem dL_act_408 : decode cL_act 408 = .ok (.aload_n 1, 1) := by decide +kernel
theorem dL_act_409 : decode cL_act 409 = .ok (.getfield 44, 3) := by decide +kernel
theorem dL_act_412 : decode cL_act 412 = .ok (.if_icmp .ne 7, 3) := by decide +kernel
theorem dL_act_415 : decode cL_act 415 = .ok (.iconst 1, 1) := by decide +kernel
theorem dL_act_416 : decode cL_act 416 = .ok (.goto 4, 3) := by decide +kernel
theorem dL_act_419 : decode cL_act 419 = .ok (.iconst 0, 1) := by decide +kernel
theorem dL_act_420 : decode cL_act 420 = .ok (.ireturn, 1) := by decide +kernel
theorem dL_act_421 : decode cL_act 421 = .ok (.iconst 1, 1) := by decide +kernel
theorem dL_act_422 : decode cL_act 422 = .ok (.iload_n 2, 1) := by decide +kernel
theorem dL_act_423 : decode cL_act 423 = .ok (.iconst 2, 1) := by decide +kernel
theorem dL_act_424 : decode cL_act 424 = .ok (.ishr, 1) := by decide +kernel
theorem dL_act_425 : decode cL_act 425 = .ok (.bipush 60, 2) := by decide +kernel
theorem dL_act_427 : decode cL_act 427 = .ok (.invokestatic 21, 3) := by decide +kernel
theorem dL_act_430 : decode cL_act 430 = .ok (.iadd, 1) := by decide +kernel
theorem dL_act_431 : decode cL_act 431 = .ok (.istore 12, 2) := by decide +kernel
theorem dL_act_433 : decode cL_act 433 = .ok (.aload_n 1, 1) := by decide +kernel
theorem dL_act_434 : decode cL_act 434 = .ok (.bipush 99, 2) := by decide +kernel
theorem dL_act_436 : decode cL_act 436 = .ok (.aload_n 1, 1) := by decide +kernel
theorem dL_act_437 : decode cL_act 437 = .ok (.getfield 56, 3) := by decide +kernel
theorem dL_act_440 : decode cL_act 440 = .ok (.iload 12, 2) := by decide +kernel
theorem dL_act_442 : decode cL_act 442 = .ok (.iadd, 1) := by decide +kernel
theorem dL_act_443 : decode cL_act 443 = .ok (.invokestatic 48, 3) := by decide +kernel
theorem dL_act_446 : decode cL_act 446 = .ok (.putfield 56, 3) := by decide +kernel
theorem dL_act_449 : decode cL_act 449 = .ok (.aload_n 0, 1) := by decide +kernel
theorem dL_act_450 : decode cL_act 450 = .ok (.iconst 1, 1) := by decide +kernel
theorem dL_act_451 : decode cL_act 451 = .ok (.iload 12, 2) := by decide +kernel
theorem dL_act_453 : decode cL_act 453 = .ok (.invokevirtual 53, 3) := by decide +kernel
theorem dL_act_456 : decode cL_act 456 = .ok (.aload_n 1, 1) := by decide +kernel
theorem dL_act_457 : decode cL_act 457 = .ok (.getfield 56, 3) := by decide +kernel
theorem dL_act_460 : decode cL_act 460 = .ok (.if_icmp .ne 7, 3) := by decide +kernel
theorem dL_act_463 : decode cL_act 463 = .ok (.iconst 1, 1) := by decide +kernel
theorem dL_act_464 : decode cL_act 464 = .ok (.goto 4, 3) := by decide +kernel
theorem dL_act_467 : decode cL_act 467 = .ok (.iconst 0, 1) := by decide +kernel
theorem dL_act_468 : decode cL_act 468 = .ok (.ireturn, 1) := by decide +kernel
theorem dL_act_469 : decode cL_act 469 = .ok (.iload_n 2, 1) := by decide +kernel
theorem dL_act_470 : decode cL_act 470 = .ok (.bipush 6, 2) := by decide +kernel
theorem dL_act_472 : decode cL_act 472 = .ok (.invokestatic 21, 3) := by decide +kernel
theorem dL_act_475 : decode cL_act 475 = .ok (.istore 13, 2) := by decide +kernel
theorem dL_act_477 : decode cL_act 477 = .ok (.aload_n 1, 1) := by decide +kernel
theorem dL_act_478 : decode cL_act 478 = .ok (.getfield 59, 3) := by decide +kernel
theorem dL_act_481 : decode cL_act 481 = .ok (.iload 13, 2) := by decide +kernel
theorem dL_act_483 : decode cL_act 483 = .ok (.iaload, 1) := by decide +kernel
theorem dL_act_484 : decode cL_act 484 = .ok (.istore 14, 2) := by decide +kernel
theorem dL_act_486 : decode cL_act 486 = .ok (.aload_n 1, 1) := by decide +kernel
theorem dL_act_487 : decode cL_act 487 = .ok (.getfield 59, 3) := by decide +kernel
theorem dL_act_490 : decode cL_act 490 = .ok (.iload 13, 2) := by decide +kernel
theorem dL_act_492 : decode cL_act 492 = .ok (.iload_n 2, 1) := by decide +kernel
theorem dL_act_493 : decode cL_act 493 = .ok (.iconst 3, 1) := by decide +kernel
theorem dL_act_494 : decode cL_act 494 = .ok (.ishr, 1) := by decide +kernel
theorem dL_act_495 : decode cL_act 495 = .ok (.iconst 2, 1) := by decide +kernel
theorem dL_act_496 : decode cL_act 496 = .ok (.invokestatic 21, 3) := by decide +kernel
theorem dL_act_499 : decode cL_act 499 = .ok (.ifCond .ne 7, 3) := by decide +kernel
theorem dL_act_502 : decode cL_act 502 = .ok (.iconst 0, 1) := by decide +kernel
theorem dL_act_503 : decode cL_act 503 = .ok (.goto 11, 3) := by decide +kernel
theorem dL_act_506 : decode cL_act 506 = .ok (.iload_n 2, 1) := by decide +kernel
theorem dL_act_507 : decode cL_act 507 = .ok (.iconst 4, 1) := by decide +kernel
theorem dL_act_508 : decode cL_act 508 = .ok (.ishr, 1) := by decide +kernel
theorem dL_act_509 : decode cL_act 509 = .ok (.bipush 10, 2) := by decide +kernel
theorem dL_act_511 : decode cL_act 511 = .ok (.invokestatic 21, 3) := by decide +kernel
theorem dL_act_514 : decode cL_act 514 = .ok (.iastore, 1) := by decide +kernel
theorem dL_act_515 : decode cL_act 515 = .ok (.aload_n 0, 1) := by decide +kernel
theorem dL_act_516 : decode cL_act 516 = .ok (.iload 13, 2) := by decide +kernel
theorem dL_act_518 : decode cL_act 518 = .ok (.aload_n 1, 1) := by decide +kernel
theorem dL_act_519 : decode cL_act 519 = .ok (.getfield 59, 3) := by decide +kernel
theorem dL_act_522 : decode cL_act 522 = .ok (.iload 13, 2) := by decide +kernel
theorem dL_act_524 : decode cL_act 524 = .ok (.iaload, 1) := by decide +kernel
theorem dL_act_525 : decode cL_act 525 = .ok (.invokevirtual 63, 3) := by decide +kernel
theorem dL_act_528 : decode cL_act 528 = .ok (.iload 14, 2) := by decide +kernel
theorem dL_act_530 : decode cL_act 530 = .ok (.if_icmp .ne 7, 3) := by decide +kernel
theorem dL_act_533 : decode cL_act 533 = .ok (.iconst 1, 1) := by decide +kernel
theorem dL_act_534 : decode cL_act 534 = .ok (.goto 4, 3) := by decide +kernel
theorem dL_act_537 : decode cL_act 537 = .ok (.iconst 0, 1) := by decide +kernel
theorem dL_act_538 : decode cL_act 538 = .ok (.ireturn, 1) := by decide +kernel
theorem dL_act_539 : decode cL_act 539 = .ok (.iload_n 2, 1) := by decide +kernel
theorem dL_act_540 : decode cL_act 540 = .ok (.bipush 7, 2) := by decide +kernel
theorem dL_act_542 : decode cL_act 542 = .ok (.invokestatic 21, 3) := by decide +kernel
theorem dL_act_545 : decode cL_act 545 = .ok (.istore 15, 2) := by decide +kernel
theorem dL_act_547 : decode cL_act 547 = .ok (.aload_n 1, 1) := by decide +kernel
theorem dL_act_548 : decode cL_act 548 = .ok (.getfield 66, 3) := by decide +kernel
theorem dL_act_551 : decode cL_act 551 = .ok (.iload 15, 2) := by decide +kernel
theorem dL_act_553 : decode cL_act 553 = .ok (.iaload, 1) := by decide +kernel
theorem dL_act_554 : decode cL_act 554 = .ok (.istore 16, 2) := by decide +kernel
theorem dL_act_556 : decode cL_act 556 = .ok (.aload_n 1, 1) := by decide +kernel
theorem dL_act_557 : decode cL_act 557 = .ok (.getfield 66, 3) := by decide +kernel
theorem dL_act_560 : decode cL_act 560 = .ok (.iload 15, 2) := by decide +kernel
theorem dL_act_562 : decode cL_act 562 = .ok (.iload_n 2, 1) := by decide +kernel
theorem dL_act_563 : decode cL_act 563 = .ok (.iconst 3, 1) := by decide +kernel
theorem dL_act_564 : decode cL_act 564 = .ok (.ishr, 1) := by decide +kernel
theorem dL_act_565 : decode cL_act 565 = .ok (.bipush 61, 2) := by decide +kernel
theorem dL_act_567 : decode cL_act 567 = .ok (.invokestatic 21, 3) := by decide +kernel
theorem dL_act_570 : decode cL_act 570 = .ok (.iastore, 1) := by decide +kernel
theorem dL_act_571 : decode cL_act 571 = .ok (.aload_n 0, 1) := by decide +kernel
theorem dL_act_572 : decode cL_act 572 = .ok (.iload 15, 2) := by decide +kernel
theorem dL_act_574 : decode cL_act 574 = .ok (.aload_n 1, 1) := by decide +kernel
theorem dL_act_575 : decode cL_act 575 = .ok (.getfield 66, 3) := by decide +kernel
theorem dL_act_578 : decode cL_act 578 = .ok (.iload 15, 2) := by decide +kernel
theorem dL_act_580 : decode cL_act 580 = .ok (.iaload, 1) := by decide +kernel
theorem dL_act_581 : decode cL_act 581 = .ok (.invokevirtual 69, 3) := by decide +kernel
theorem dL_act_584 : decode cL_act 584 = .ok (.iload 16, 2) := by decide +kernel
theorem dL_act_586 : decode cL_act 586 = .ok (.if_icmp .ne 7, 3) := by decide +kernel
theorem dL_act_589 : decode cL_act 589 = .ok (.iconst 1, 1) := by decide +kernel
theorem dL_act_590 : decode cL_act 590 = .ok (.goto 4, 3) := by decide +kernel
theorem dL_act_593 : decode cL_act 593 = .ok (.iconst 0, 1) := by decide +kernel
theorem dL_act_594 : decode cL_act 594 = .ok (.ireturn, 1) := by decide +kernel
theorem dL_act_595 : decode cL_act 595 = .ok (.iconst 1, 1) := by decide +kernel
theorem dL_act_596 : decode cL_act 596 = .ok (.iload_n 2, 1) := by decide +kernel
theorem dL_act_597 : decode cL_act 597 = .ok (.iconst 4, 1) := by decide +kernel
theorem dL_act_598 : decode cL_act 598 = .ok (.ishr, 1) := by decide +kernel
theorem dL_act_599 : decode cL_act 599 = .ok (.iload_n 2, 1) := by decide +kernel
theorem dL_act_600 : decode cL_act 600 = .ok (.bipush 6, 2) := by decide +kernel
theorem dL_act_602 : decode cL_act 602 = .ok (.ishr, 1) := by decide +kernel
theorem dL_act_603 : decode cL_act 603 = .ok (.iconst 2, 1) := by decide +kernel
theorem dL_act_604 : decode cL_act 604 = .ok (.invokestatic 21, 3) := by decide +kernel
theorem dL_act_607 : decode cL_act 607 = .ok (.ifCond .ne 8, 3) := by decide +kernel
theorem dL_act_610 : decode cL_act 610 = .ok (.bipush 60, 2) := by decide +kernel
theorem dL_act_612 : decode cL_act 612 = .ok (.goto 5, 3) := by decide +kernel
theorem dL_act_615 : decode cL_act 615 = .ok (.bipush 12, 2) := by decide +kernel
theorem dL_act_617 : decode cL_act 617 = .ok (.invokestatic 21, 3) := by decide +kernel
theorem dL_act_620 : decode cL_act 620 = .ok (.iadd, 1) := by decide +kernel
theorem dL_act_621 : decode cL_act 621 = .ok (.istore 17, 2) := by decide +kernel
theorem dL_act_623 : decode cL_act 623 = .ok (.iload_n 3, 1) := by decide +kernel
theorem dL_act_624 : decode cL_act 624 = .ok (.ifCond .eq 19, 3) := by decide +kernel
theorem dL_act_627 : decode cL_act 627 = .ok (.aload_n 1, 1) := by decide +kernel
theorem dL_act_628 : decode cL_act 628 = .ok (.getfield 44, 3) := by decide +kernel
theorem dL_act_631 : decode cL_act 631 = .ok (.iload 17, 2) := by decide +kernel
theorem dL_act_633 : decode cL_act 633 = .ok (.if_icmp .lt 10, 3) := by decide +kernel
theorem dL_act_636 : decode cL_act 636 = .ok (.aload 6, 2) := by decide +kernel
theorem dL_act_638 : decode cL_act 638 = .ok (.iconst 0, 1) := by decide +kernel
theorem dL_act_639 : decode cL_act 639 = .ok (.iaload, 1) := by decide +kernel
theorem dL_act_640 : decode cL_act 640 = .ok (.ifCond .ne 5, 3) := by decide +kernel
theorem dL_act_643 : decode cL_act 643 = .ok (.iconst 1, 1) := by decide +kernel
theorem dL_act_644 : decode cL_act 644 = .ok (.ireturn, 1) := by decide +kernel
theorem dL_act_645 : decode cL_act 645 = .ok (.aload_n 1, 1) := by decide +kernel
theorem dL_act_646 : decode cL_act 646 = .ok (.dup, 1) := by decide +kernel
theorem dL_act_647 : decode cL_act 647 = .ok (.getfield 44, 3) := by decide +kernel
theorem dL_act_650 : decode cL_act 650 = .ok (.iload 17, 2) := by decide +kernel
theorem dL_act_652 : decode cL_act 652 = .ok (.isub, 1) := by decide +kernel
theorem dL_act_653 : decode cL_act 653 = .ok (.putfield 44, 3) := by decide +kernel
theorem dL_act_656 : decode cL_act 656 = .ok (.aload 6, 2) := by decide +kernel
theorem dL_act_658 : decode cL_act 658 = .ok (.iconst 1, 1) := by decide +kernel
theorem dL_act_659 : decode cL_act 659 = .ok (.bipush 60, 2) := by decide +kernel
theorem dL_act_661 : decode cL_act 661 = .ok (.aload 6, 2) := by decide +kernel
theorem dL_act_663 : decode cL_act 663 = .ok (.iconst 1, 1) := by decide +kernel
theorem dL_act_664 : decode cL_act 664 = .ok (.iaload, 1) := by decide +kernel
theorem dL_act_665 : decode cL_act 665 = .ok (.iload 17, 2) := by decide +kernel
theorem dL_act_667 : decode cL_act 667 = .ok (.iadd, 1) := by decide +kernel
theorem dL_act_668 : decode cL_act 668 = .ok (.invokestatic 48, 3) := by decide +kernel
theorem dL_act_671 : decode cL_act 671 = .ok (.iastore, 1) := by decide +kernel
theorem dL_act_672 : decode cL_act 672 = .ok (.aload 6, 2) := by decide +kernel
theorem dL_act_674 : decode cL_act 674 = .ok (.iconst 3, 1) := by decide +kernel
theorem dL_act_675 : decode cL_act 675 = .ok (.iconst 1, 1) := by decide +kernel
theorem dL_act_676 : decode cL_act 676 = .ok (.iastore, 1) := by decide +kernel
theorem dL_act_677 : decode cL_act 677 = .ok (.aload_n 0, 1) := by decide +kernel
theorem dL_act_678 : decode cL_act 678 = .ok (.iload_n 2, 1) := by decide +kernel
theorem dL_act_679 : decode cL_act 679 = .ok (.iload_n 3, 1) := by decide +kernel
theorem dL_act_680 : decode cL_act 680 = .ok (.invokestatic 21, 3) := by decide +kernel
theorem dL_act_683 : decode cL_act 683 = .ok (.iload 17, 2) := by decide +kernel
theorem dL_act_685 : decode cL_act 685 = .ok (.invokevirtual 72, 3) := by decide +kernel
theorem dL_act_688 : decode cL_act 688 = .ok (.aload 6, 2) := by decide +kernel
theorem dL_act_690 : decode cL_act 690 = .ok (.iconst 1, 1) := by decide +kernel
theorem dL_act_691 : decode cL_act 691 = .ok (.iaload, 1) := by decide +kernel
theorem dL_act_692 : decode cL_act 692 = .ok (.if_icmp .ne 7, 3) := by decide +kernel
theorem dL_act_695 : decode cL_act 695 = .ok (.iconst 1, 1) := by decide +kernel
theorem dL_act_696 : decode cL_act 696 = .ok (.goto 4, 3) := by decide +kernel
theorem dL_act_699 : decode cL_act 699 = .ok (.iconst 0, 1) := by decide +kernel
theorem dL_act_700 : decode cL_act 700 = .ok (.ireturn, 1) := by decide +kernel
theorem dL_act_701 : decode cL_act 701 = .ok (.iload_n 3, 1) := by decide +kernel
theorem dL_act_702 : decode cL_act 702 = .ok (.ifCond .eq 30, 3) := by decide +kernel
theorem dL_act_705 : decode cL_act 705 = .ok (.iload 4, 2) := by decide +kernel
theorem dL_act_707 : decode cL_act 707 = .ok (.ifCond .eq 25, 3) := by decide +kernel
theorem dL_act_710 : decode cL_act 710 = .ok (.aload 6, 2) := by decide +kernel
theorem dL_act_712 : decode cL_act 712 = .ok (.iconst 2, 1) := by decide +kernel
theorem dL_act_713 : decode cL_act 713 = .ok (.iaload, 1) := by decide +kernel
theorem dL_act_714 : decode cL_act 714 = .ok (.ifCond .eq 18, 3) := by decide +kernel
theorem dL_act_717 : decode cL_act 717 = .ok (.aload 6, 2) := by decide +kernel
theorem dL_act_719 : decode cL_act 719 = .ok (.iconst 3, 1) := by decide +kernel
theorem dL_act_720 : decode cL_act 720 = .ok (.iaload, 1) := by decide +kernel
theorem dL_act_721 : decode cL_act 721 = .ok (.iconst 1, 1) := by decide +kernel
theorem dL_act_722 : decode cL_act 722 = .ok (.if_icmp .eq 10, 3) := by decide +kernel
theorem dL_act_725 : decode cL_act 725 = .ok (.aload 7, 2) := by decide +kernel
theorem dL_act_727 : decode cL_act 727 = .ok (.iconst 0, 1) := by decide +kernel
theorem dL_act_728 : decode cL_act 728 = .ok (.iaload, 1) := by decide +kernel
theorem dL_act_729 : decode cL_act 729 = .ok (.ifCond .ne 5, 3) := by decide +kernel
theorem dL_act_732 : decode cL_act 732 = .ok (.iconst 1, 1) := by decide +kernel
theorem dL_act_733 : decode cL_act 733 = .ok (.ireturn, 1) := by decide +kernel
theorem dL_act_734 : decode cL_act 734 = .ok (.aload 7, 2) := by decide +kernel
theorem dL_act_736 : decode cL_act 736 = .ok (.iconst 1, 1) := by decide +kernel
theorem dL_act_737 : decode cL_act 737 = .ok (.dup2, 1) := by decide +kernel
theorem dL_act_738 : decode cL_act 738 = .ok (.iaload, 1) := by decide +kernel
theorem dL_act_739 : decode cL_act 739 = .ok (.aload 6, 2) := by decide +kernel
theorem dL_act_741 : decode cL_act 741 = .ok (.iconst 2, 1) := by decide +kernel
theorem dL_act_742 : decode cL_act 742 = .ok (.iaload, 1) := by decide +kernel
theorem dL_act_743 : decode cL_act 743 = .ok (.iconst 2, 1) := by decide +kernel
theorem dL_act_744 : decode cL_act 744 = .ok (.idiv, 1) := by decide +kernel
theorem dL_act_745 : decode cL_act 745 = .ok (.iadd, 1) := by decide +kernel
theorem dL_act_746 : decode cL_act 746 = .ok (.iastore, 1) := by decide +kernel
theorem dL_act_747 : decode cL_act 747 = .ok (.aload 6, 2) := by decide +kernel
theorem dL_act_749 : decode cL_act 749 = .ok (.iconst 2, 1) := by decide +kernel
theorem dL_act_750 : decode cL_act 750 = .ok (.iconst 0, 1) := by decide +kernel
theorem dL_act_751 : decode cL_act 751 = .ok (.iastore, 1) := by decide +kernel
theorem dL_act_752 : decode cL_act 752 = .ok (.aload_n 0, 1) := by decide +kernel
theorem dL_act_753 : decode cL_act 753 = .ok (.iload_n 2, 1) := by decide +kernel
theorem dL_act_754 : decode cL_act 754 = .ok (.iload_n 3, 1) := by decide +kernel
theorem dL_act_755 : decode cL_act 755 = .ok (.invokestatic 21, 3) := by decide +kernel
theorem dL_act_758 : decode cL_act 758 = .ok (.iload_n 2, 1) := by decide +kernel
theorem dL_act_759 : decode cL_act 759 = .ok (.iconst 2, 1) := by decide +kernel
theorem dL_act_760 : decode cL_act 760 = .ok (.ishr, 1) := by decide +kernel
theorem dL_act_761 : decode cL_act 761 = .ok (.iload 4, 2) := by decide +kernel
theorem dL_act_763 : decode cL_act 763 = .ok (.invokestatic 21, 3) := by decide +kernel
theorem dL_act_766 : decode cL_act 766 = .ok (.invokevirtual 75, 3) := by decide +kernel
theorem dL_act_769 : decode cL_act 769 = .ok (.aload 7, 2) := by decide +kernel
theorem dL_act_771 : decode cL_act 771 = .ok (.iconst 1, 1) := by decide +kernel
theorem dL_act_772 : decode cL_act 772 = .ok (.iaload, 1) := by decide +kernel
theorem dL_act_773 : decode cL_act 773 = .ok (.if_icmp .ne 7, 3) := by decide +kernel
theorem dL_act_776 : decode cL_act 776 = .ok (.iconst 1, 1) := by decide +kernel
theorem dL_act_777 : decode cL_act 777 = .ok (.goto 4, 3) := by decide +kernel
theorem dL_act_780 : decode cL_act 780 = .ok (.iconst 0, 1) := by decide +kernel
theorem dL_act_781 : decode cL_act 781 = .ok (.ireturn, 1) := by decide +kernel
theorem dL_act_782 : decode cL_act 782 = .ok (.iconst 1, 1) := by decide +kernel
theorem dL_act_783 : decode cL_act 783 = .ok (.iload_n 2, 1) := by decide +kernel
theorem dL_act_784 : decode cL_act 784 = .ok (.iconst 4, 1) := by decide +kernel
theorem dL_act_785 : decode cL_act 785 = .ok (.ishr, 1) := by decide +kernel
theorem dL_act_786 : decode cL_act 786 = .ok (.iload_n 2, 1) := by decide +kernel
theorem dL_act_787 : decode cL_act 787 = .ok (.bipush 6, 2) := by decide +kernel
theorem dL_act_789 : decode cL_act 789 = .ok (.ishr, 1) := by decide +kernel
theorem dL_act_790 : decode cL_act 790 = .ok (.iconst 2, 1) := by decide +kernel
theorem dL_act_791 : decode cL_act 791 = .ok (.invokestatic 21, 3) := by decide +kernel
theorem dL_act_794 : decode cL_act 794 = .ok (.ifCond .ne 9, 3) := by decide +kernel
theorem dL_act_797 : decode cL_act 797 = .ok (.sipush 150, 3) := by decide +kernel
theorem dL_act_800 : decode cL_act 800 = .ok (.goto 5, 3) := by decide +kernel
theorem dL_act_803 : decode cL_act 803 = .ok (.bipush 30, 2) := by decide +kernel
theorem dL_act_805 : decode cL_act 805 = .ok (.invokestatic 21, 3) := by decide +kernel
theorem dL_act_808 : decode cL_act 808 = .ok (.iadd, 1) := by decide +kernel
theorem dL_act_809 : decode cL_act 809 = .ok (.istore 18, 2) := by decide +kernel
theorem dL_act_811 : decode cL_act 811 = .ok (.iload 4, 2) := by decide +kernel
theorem dL_act_813 : decode cL_act 813 = .ok (.ifCond .eq 30, 3) := by decide +kernel
theorem dL_act_816 : decode cL_act 816 = .ok (.iload 5, 2) := by decide +kernel
theorem dL_act_818 : decode cL_act 818 = .ok (.ifCond .eq 25, 3) := by decide +kernel
theorem dL_act_821 : decode cL_act 821 = .ok (.aload 7, 2) := by decide +kernel
theorem dL_act_823 : decode cL_act 823 = .ok (.iconst 0, 1) := by decide +kernel
theorem dL_act_824 : decode cL_act 824 = .ok (.iaload, 1) := by decide +kernel
theorem dL_act_825 : decode cL_act 825 = .ok (.iload 18, 2) := by decide +kernel
theorem dL_act_827 : decode cL_act 827 = .ok (.if_icmp .lt 16, 3) := by decide +kernel
theorem dL_act_830 : decode cL_act 830 = .ok (.aload 8, 2) := by decide +kernel
theorem dL_act_832 : decode cL_act 832 = .ok (.iconst 0, 1) := by decide +kernel
theorem dL_act_833 : decode cL_act 833 = .ok (.iaload, 1) := by decide +kernel
theorem dL_act_834 : decode cL_act 834 = .ok (.iload 18, 2) := by decide +kernel
theorem dL_act_836 : decode cL_act 836 = .ok (.iadd, 1) := by decide +kernel
theorem dL_act_837 : decode cL_act 837 = .ok (.sipush 150, 3) := by decide +kernel
theorem dL_act_840 : decode cL_act 840 = .ok (.if_icmp .le 5, 3) := by decide +kernel
theorem dL_act_843 : decode cL_act 843 = .ok (.iconst 1, 1) := by decide +kernel
theorem dL_act_844 : decode cL_act 844 = .ok (.ireturn, 1) := by decide +kernel
theorem dL_act_845 : decode cL_act 845 = .ok (.aload 7, 2) := by decide +kernel
theorem dL_act_847 : decode cL_act 847 = .ok (.iconst 1, 1) := by decide +kernel
theorem dL_act_848 : decode cL_act 848 = .ok (.iaload, 1) := by decide +kernel
theorem dL_act_849 : decode cL_act 849 = .ok (.iload 18, 2) := by decide +kernel
theorem dL_act_851 : decode cL_act 851 = .ok (.imul, 1) := by decide +kernel
theorem dL_act_852 : decode cL_act 852 = .ok (.aload 7, 2) := by decide +kernel
theorem dL_act_854 : decode cL_act 854 = .ok (.iconst 0, 1) := by decide +kernel
theorem dL_act_855 : decode cL_act 855 = .ok (.iaload, 1) := by decide +kernel
theorem dL_act_856 : decode cL_act 856 = .ok (.idiv, 1) := by decide +kernel
theorem dL_act_857 : decode cL_act 857 = .ok (.istore 19, 2) := by decide +kernel
theorem dL_act_859 : decode cL_act 859 = .ok (.aload 7, 2) := by decide +kernel
theorem dL_act_861 : decode cL_act 861 = .ok (.iconst 0, 1) := by decide +kernel
theorem dL_act_862 : decode cL_act 862 = .ok (.dup2, 1) := by decide +kernel
theorem dL_act_863 : decode cL_act 863 = .ok (.iaload, 1) := by decide +kernel
theorem dL_act_864 : decode cL_act 864 = .ok (.iload 18, 2) := by decide +kernel
theorem dL_act_866 : decode cL_act 866 = .ok (.isub, 1) := by decide +kernel
theorem dL_act_867 : decode cL_act 867 = .ok (.iastore, 1) := by decide +kernel
theorem dL_act_868 : decode cL_act 868 = .ok (.aload 7, 2) := by decide +kernel
theorem dL_act_870 : decode cL_act 870 = .ok (.iconst 1, 1) := by decide +kernel
theorem dL_act_871 : decode cL_act 871 = .ok (.dup2, 1) := by decide +kernel
theorem dL_act_872 : decode cL_act 872 = .ok (.iaload, 1) := by decide +kernel
theorem dL_act_873 : decode cL_act 873 = .ok (.iload 19, 2) := by decide +kernel
theorem dL_act_875 : decode cL_act 875 = .ok (.isub, 1) := by decide +kernel
theorem dL_act_876 : decode cL_act 876 = .ok (.iastore, 1) := by decide +kernel
theorem dL_act_877 : decode cL_act 877 = .ok (.aload 8, 2) := by decide +kernel
theorem dL_act_879 : decode cL_act 879 = .ok (.iconst 0, 1) := by decide +kernel
theorem dL_act_880 : decode cL_act 880 = .ok (.dup2, 1) := by decide +kernel
theorem dL_act_881 : decode cL_act 881 = .ok (.iaload, 1) := by decide +kernel
theorem dL_act_882 : decode cL_act 882 = .ok (.iload 18, 2) := by decide +kernel
theorem dL_act_884 : decode cL_act 884 = .ok (.iadd, 1) := by decide +kernel
theorem dL_act_885 : decode cL_act 885 = .ok (.iastore, 1) := by decide +kernel
theorem dL_act_886 : decode cL_act 886 = .ok (.aload 8, 2) := by decide +kernel
theorem dL_act_888 : decode cL_act 888 = .ok (.iconst 1, 1) := by decide +kernel
theorem dL_act_889 : decode cL_act 889 = .ok (.dup2, 1) := by decide +kernel
theorem dL_act_890 : decode cL_act 890 = .ok (.iaload, 1) := by decide +kernel
theorem dL_act_891 : decode cL_act 891 = .ok (.iload 19, 2) := by decide +kernel
theorem dL_act_893 : decode cL_act 893 = .ok (.iadd, 1) := by decide +kernel
theorem dL_act_894 : decode cL_act 894 = .ok (.iastore, 1) := by decide +kernel
theorem dL_act_895 : decode cL_act 895 = .ok (.aload_n 0, 1) := by decide +kernel
theorem dL_act_896 : decode cL_act 896 = .ok (.iload_n 2, 1) := by decide +kernel
theorem dL_act_897 : decode cL_act 897 = .ok (.iconst 2, 1) := by decide +kernel
theorem dL_act_898 : decode cL_act 898 = .ok (.ishr, 1) := by decide +kernel
theorem dL_act_899 : decode cL_act 899 = .ok (.iload 4, 2) := by decide +kernel
theorem dL_act_901 : decode cL_act 901 = .ok (.invokestatic 21, 3) := by decide +kernel
theorem dL_act_904 : decode cL_act 904 = .ok (.iload_n 2, 1) := by decide +kernel
theorem dL_act_905 : decode cL_act 905 = .ok (.iconst 3, 1) := by decide +kernel
theorem dL_act_906 : decode cL_act 906 = .ok (.ishr, 1) := by decide +kernel
theorem dL_act_907 : decode cL_act 907 = .ok (.iload 5, 2) := by decide +kernel
theorem dL_act_909 : decode cL_act 909 = .ok (.invokestatic 21, 3) := by decide +kernel
theorem dL_act_912 : decode cL_act 912 = .ok (.iload 18, 2) := by decide +kernel
theorem dL_act_914 : decode cL_act 914 = .ok (.invokevirtual 78, 3) := by decide +kernel
theorem dL_act_917 : decode cL_act 917 = .ok (.iload 19, 2) := by decide +kernel
theorem dL_act_919 : decode cL_act 919 = .ok (.if_icmp .ne 7, 3) := by decide +kernel
theorem dL_act_922 : decode cL_act 922 = .ok (.iconst 1, 1) := by decide +kernel
theorem dL_act_923 : decode cL_act 923 = .ok (.goto 4, 3) := by decide +kernel
theorem dL_act_926 : decode cL_act 926 = .ok (.iconst 0, 1) := by decide +kernel
theorem dL_act_927 : decode cL_act 927 = .ok (.ireturn, 1) := by decide +kernel
theorem dL_act_928 : decode cL_act 928 = .ok (.iload 5, 2) := by decide +kernel
theorem dL_act_930 : decode cL_act 930 = .ok (.ifCond .ne 5, 3) := by decide +kernel
theorem dL_act_933 : decode cL_act 933 = .ok (.iconst 1, 1) := by decide +kernel
theorem dL_act_934 : decode cL_act 934 = .ok (.ireturn, 1) := by decide +kernel
theorem dL_act_935 : decode cL_act 935 = .ok (.aload 8, 2) := by decide +kernel
theorem dL_act_937 : decode cL_act 937 = .ok (.iconst 2, 1) := by decide +kernel
theorem dL_act_938 : decode cL_act 938 = .ok (.iconst 1, 1) := by decide +kernel
theorem dL_act_939 : decode cL_act 939 = .ok (.aload 8, 2) := by decide +kernel
theorem dL_act_941 : decode cL_act 941 = .ok (.iconst 2, 1) := by decide +kernel
theorem dL_act_942 : decode cL_act 942 = .ok (.iaload, 1) := by decide +kernel
theorem dL_act_943 : decode cL_act 943 = .ok (.isub, 1) := by decide +kernel
theorem dL_act_944 : decode cL_act 944 = .ok (.iastore, 1) := by decide +kernel
theorem dL_act_945 : decode cL_act 945 = .ok (.aload_n 0, 1) := by decide +kernel
theorem dL_act_946 : decode cL_act 946 = .ok (.iload_n 2, 1) := by decide +kernel
theorem dL_act_947 : decode cL_act 947 = .ok (.iconst 3, 1) := by decide +kernel
theorem dL_act_948 : decode cL_act 948 = .ok (.ishr, 1) := by decide +kernel
theorem dL_act_949 : decode cL_act 949 = .ok (.iload 5, 2) := by decide +kernel
theorem dL_act_951 : decode cL_act 951 = .ok (.invokestatic 21, 3) := by decide +kernel
theorem dL_act_954 : decode cL_act 954 = .ok (.invokevirtual 82, 3) := by decide +kernel
theorem dL_act_957 : decode cL_act 957 = .ok (.aload 8, 2) := by decide +kernel
theorem dL_act_959 : decode cL_act 959 = .ok (.iconst 2, 1) := by decide +kernel
theorem dL_act_960 : decode cL_act 960 = .ok (.iaload, 1) := by decide +kernel
theorem dL_act_961 : decode cL_act 961 = .ok (.iconst 1, 1) := by decide +kernel
theorem dL_act_962 : decode cL_act 962 = .ok (.if_icmp .ne 7, 3) := by decide +kernel
theorem dL_act_965 : decode cL_act 965 = .ok (.iconst 1, 1) := by decide +kernel
theorem dL_act_966 : decode cL_act 966 = .ok (.goto 4, 3) := by decide +kernel
theorem dL_act_969 : decode cL_act 969 = .ok (.iconst 0, 1) := by decide +kernel
theorem dL_act_970 : decode cL_act 970 = .ok (.if_icmp .ne 7, 3) := by decide +kernel
theorem dL_act_973 : decode cL_act 973 = .ok (.iconst 1, 1) := by decide +kernel
theorem dL_act_974 : decode cL_act 974 = .ok (.goto 4, 3) := by decide +kernel
theorem dL_act_977 : decode cL_act 977 = .ok (.iconst 0, 1) := by decide +kernel
theorem dL_act_978 : decode cL_act 978 = .ok (.ireturn, 1) := by decide +kernel
theorem dL_act_979 : decode cL_act 979 = .ok (.iconst 1, 1) := by decide +kernel
theorem dL_act_980 : decode cL_act 980 = .ok (.iload_n 2, 1) := by decide +kernel
theorem dL_act_981 : decode cL_act 981 = .ok (.iconst 4, 1) := by decide +kernel
theorem dL_act_982 : decode cL_act 982 = .ok (.ishr, 1) := by decide +kernel
theorem dL_act_983 : decode cL_act 983 = .ok (.bipush 20, 2) := by decide +kernel
theorem dL_act_985 : decode cL_act 985 = .ok (.invokestatic 21, 3) := by decide +kernel
theorem dL_act_988 : decode cL_act 988 = .ok (.iadd, 1) := by decide +kernel
theorem dL_act_989 : decode cL_act 989 = .ok (.istore 20, 2) := by decide +kernel
theorem dL_act_991 : decode cL_act 991 = .ok (.iload 5, 2) := by decide +kernel
theorem dL_act_993 : decode cL_act 993 = .ok (.ifCond .eq 19, 3) := by decide +kernel
theorem dL_act_996 : decode cL_act 996 = .ok (.aload_n 1, 1) := by decide +kernel
theorem dL_act_997 : decode cL_act 997 = .ok (.getfield 56, 3) := by decide +kernel
theorem dL_act_1000 : decode cL_act 1000 = .ok (.iload 20, 2) := by decide +kernel
theorem dL_act_1002 : decode cL_act 1002 = .ok (.if_icmp .lt 10, 3) := by decide +kernel
theorem dL_act_1005 : decode cL_act 1005 = .ok (.aload 8, 2) := by decide +kernel
theorem dL_act_1007 : decode cL_act 1007 = .ok (.iconst 1, 1) := by decide +kernel
theorem dL_act_1008 : decode cL_act 1008 = .ok (.iaload, 1) := by decide +kernel
theorem dL_act_1009 : decode cL_act 1009 = .ok (.ifCond .ne 5, 3) := by decide +kernel
theorem dL_act_1012 : decode cL_act 1012 = .ok (.iconst 1, 1) := by decide +kernel
theorem dL_act_1013 : decode cL_act 1013 = .ok (.ireturn, 1) := by decide +kernel
theorem dL_act_1014 : decode cL_act 1014 = .ok (.aload 8, 2) := by decide +kernel
theorem dL_act_1016 : decode cL_act 1016 = .ok (.iload 20, 2) := by decide +kernel
theorem dL_act_1018 : decode cL_act 1018 = .ok (.invokestatic 86, 3) := by decide +kernel
theorem dL_act_1021 : decode cL_act 1021 = .ok (.istore 21, 2) := by decide +kernel
theorem dL_act_1023 : decode cL_act 1023 = .ok (.aload_n 1, 1) := by decide +kernel
theorem dL_act_1024 : decode cL_act 1024 = .ok (.dup, 1) := by decide +kernel
theorem dL_act_1025 : decode cL_act 1025 = .ok (.getfield 56, 3) := by decide +kernel
theorem dL_act_1028 : decode cL_act 1028 = .ok (.iload 20, 2) := by decide +kernel
theorem dL_act_1030 : decode cL_act 1030 = .ok (.isub, 1) := by decide +kernel
theorem dL_act_1031 : decode cL_act 1031 = .ok (.putfield 56, 3) := by decide +kernel
theorem dL_act_1034 : decode cL_act 1034 = .ok (.aload 8, 2) := by decide +kernel
theorem dL_act_1036 : decode cL_act 1036 = .ok (.invokestatic 90, 3) := by decide +kernel
theorem dL_act_1039 : decode cL_act 1039 = .ok (.iconst 1, 1) := by decide +kernel
theorem dL_act_1040 : decode cL_act 1040 = .ok (.if_icmp .ne 17, 3) := by decide +kernel
theorem dL_act_1043 : decode cL_act 1043 = .ok (.aload_n 1, 1) := by decide +kernel
theorem dL_act_1044 : decode cL_act 1044 = .ok (.dup, 1) := by decide +kernel
theorem dL_act_1045 : decode cL_act 1045 = .ok (.getfield 94, 3) := by decide +kernel
theorem dL_act_1048 : decode cL_act 1048 = .ok (.iload 21, 2) := by decide +kernel
theorem dL_act_1050 : decode cL_act 1050 = .ok (.iadd, 1) := by decide +kernel
theorem dL_act_1051 : decode cL_act 1051 = .ok (.putfield 94, 3) := by decide +kernel
theorem dL_act_1054 : decode cL_act 1054 = .ok (.goto 14, 3) := by decide +kernel
theorem dL_act_1057 : decode cL_act 1057 = .ok (.aload_n 1, 1) := by decide +kernel
theorem dL_act_1058 : decode cL_act 1058 = .ok (.dup, 1) := by decide +kernel
theorem dL_act_1059 : decode cL_act 1059 = .ok (.getfield 97, 3) := by decide +kernel
theorem dL_act_1062 : decode cL_act 1062 = .ok (.iload 21, 2) := by decide +kernel
theorem dL_act_1064 : decode cL_act 1064 = .ok (.iadd, 1) := by decide +kernel
theorem dL_act_1065 : decode cL_act 1065 = .ok (.putfield 97, 3) := by decide +kernel
theorem dL_act_1068 : decode cL_act 1068 = .ok (.iconst 0, 1) := by decide +kernel
theorem dL_act_1069 : decode cL_act 1069 = .ok (.istore 22, 2) := by decide +kernel
theorem dL_act_1071 : decode cL_act 1071 = .ok (.iload 22, 2) := by decide +kernel
theorem dL_act_1073 : decode cL_act 1073 = .ok (.iconst 3, 1) := by decide +kernel
theorem dL_act_1074 : decode cL_act 1074 = .ok (.if_icmp .ge 15, 3) := by decide +kernel
theorem dL_act_1077 : decode cL_act 1077 = .ok (.aload 8, 2) := by decide +kernel
theorem dL_act_1079 : decode cL_act 1079 = .ok (.iload 22, 2) := by decide +kernel
theorem dL_act_1081 : decode cL_act 1081 = .ok (.iconst 0, 1) := by decide +kernel
theorem dL_act_1082 : decode cL_act 1082 = .ok (.iastore, 1) := by decide +kernel
theorem dL_act_1083 : decode cL_act 1083 = .ok (.iinc 22 1, 3) := by decide +kernel
theorem dL_act_1086 : decode cL_act 1086 = .ok (.goto (-15), 3) := by decide +kernel
theorem dL_act_1089 : decode cL_act 1089 = .ok (.aload_n 0, 1) := by decide +kernel
theorem dL_act_1090 : decode cL_act 1090 = .ok (.iload_n 2, 1) := by decide +kernel
theorem dL_act_1091 : decode cL_act 1091 = .ok (.iconst 3, 1) := by decide +kernel
theorem dL_act_1092 : decode cL_act 1092 = .ok (.ishr, 1) := by decide +kernel
theorem dL_act_1093 : decode cL_act 1093 = .ok (.iload 5, 2) := by decide +kernel
theorem dL_act_1095 : decode cL_act 1095 = .ok (.invokestatic 21, 3) := by decide +kernel
theorem dL_act_1098 : decode cL_act 1098 = .ok (.iload 20, 2) := by decide +kernel
theorem dL_act_1100 : decode cL_act 1100 = .ok (.invokevirtual 100, 3) := by decide +kernel
theorem dL_act_1103 : decode cL_act 1103 = .ok (.iload 21, 2) := by decide +kernel
theorem dL_act_1105 : decode cL_act 1105 = .ok (.if_icmp .ne 7, 3) := by decide +kernel
theorem dL_act_1108 : decode cL_act 1108 = .ok (.iconst 1, 1) := by decide +kernel
theorem dL_act_1109 : decode cL_act 1109 = .ok (.goto 4, 3) := by decide +kernel
theorem dL_act_1112 : decode cL_act 1112 = .ok (.iconst 0, 1) := by decide +kernel
theorem dL_act_1113 : decode cL_act 1113 = .ok (.ireturn, 1) := by decide +kernel
theorem dL_build_0 : decode cL_build 0 = .ok (.new 10, 3) := by decide +kernel
theorem dL_build_3 : decode cL_build 3 = .ok (.dup, 1) := by decide +kernel
theorem dL_build_4 : decode cL_build 4 = .ok (.invokespecial 103, 3) := by decide +kernel
theorem dL_build_7 : decode cL_build 7 = .ok (.astore_n 2, 1) := by decide +kernel
theorem dL_build_8 : decode cL_build 8 = .ok (.iconst 0, 1) := by decide +kernel
theorem dL_build_9 : decode cL_build 9 = .ok (.istore_n 3, 1) := by decide +kernel
theorem dL_build_10 : decode cL_build 10 = .ok (.iload_n 3, 1) := by decide +kernel
theorem dL_build_11 : decode cL_build 11 = .ok (.bipush 34, 2) := by decide +kernel
theorem dL_build_13 : decode cL_build 13 = .ok (.if_icmp .ge 96, 3) := by decide +kernel
theorem dL_build_16 : decode cL_build 16 = .ok (.aload_n 0, 1) := by decide +kernel
theorem dL_build_17 : decode cL_build 17 = .ok (.aload_n 2, 1) := by decide +kernel
theorem dL_build_18 : decode cL_build 18 = .ok (.aload_n 1, 1) := by decide +kernel
theorem dL_build_19 : decode cL_build 19 = .ok (.iload_n 3, 1) := by decide +kernel
theorem dL_build_20 : decode cL_build 20 = .ok (.bipush 16, 2) := by decide +kernel
theorem dL_build_22 : decode cL_build 22 = .ok (.irem, 1) := by decide +kernel
theorem dL_build_23 : decode cL_build 23 = .ok (.invokestatic 104, 3) := by decide +kernel
theorem dL_build_26 : decode cL_build 26 = .ok (.iload_n 3, 1) := by decide +kernel
theorem dL_build_27 : decode cL_build 27 = .ok (.bipush 16, 2) := by decide +kernel
theorem dL_build_29 : decode cL_build 29 = .ok (.idiv, 1) := by decide +kernel
theorem dL_build_30 : decode cL_build 30 = .ok (.iconst 4, 1) := by decide +kernel
theorem dL_build_31 : decode cL_build 31 = .ok (.imul, 1) := by decide +kernel
theorem dL_build_32 : decode cL_build 32 = .ok (.ishr, 1) := by decide +kernel
theorem dL_build_33 : decode cL_build 33 = .ok (.sipush 199, 3) := by decide +kernel
theorem dL_build_36 : decode cL_build 36 = .ok (.iload_n 3, 1) := by decide +kernel
theorem dL_build_37 : decode cL_build 37 = .ok (.imul, 1) := by decide +kernel
theorem dL_build_38 : decode cL_build 38 = .ok (.iadd, 1) := by decide +kernel
theorem dL_build_39 : decode cL_build 39 = .ok (.iload_n 3, 1) := by decide +kernel
theorem dL_build_40 : decode cL_build 40 = .ok (.bipush 8, 2) := by decide +kernel
theorem dL_build_42 : decode cL_build 42 = .ok (.if_icmp .ge 25, 3) := by decide +kernel
theorem dL_build_45 : decode cL_build 45 = .ok (.sipush 512, 3) := by decide +kernel
theorem dL_build_48 : decode cL_build 48 = .ok (.iload_n 3, 1) := by decide +kernel
theorem dL_build_49 : decode cL_build 49 = .ok (.iconst 4, 1) := by decide +kernel
theorem dL_build_50 : decode cL_build 50 = .ok (.irem, 1) := by decide +kernel
theorem dL_build_51 : decode cL_build 51 = .ok (.iconst 3, 1) := by decide +kernel
theorem dL_build_52 : decode cL_build 52 = .ok (.if_icmp .ne 8, 3) := by decide +kernel
theorem dL_build_55 : decode cL_build 55 = .ok (.bipush 8, 2) := by decide +kernel
theorem dL_build_57 : decode cL_build 57 = .ok (.goto 6, 3) := by decide +kernel
theorem dL_build_60 : decode cL_build 60 = .ok (.iload_n 3, 1) := by decide +kernel
theorem dL_build_61 : decode cL_build 61 = .ok (.iconst 4, 1) := by decide +kernel
theorem dL_build_62 : decode cL_build 62 = .ok (.irem, 1) := by decide +kernel
theorem dL_build_63 : decode cL_build 63 = .ok (.imul, 1) := by decide +kernel
theorem dL_build_64 : decode cL_build 64 = .ok (.goto 4, 3) := by decide +kernel
theorem dL_build_67 : decode cL_build 67 = .ok (.iconst 0, 1) := by decide +kernel
theorem dL_build_68 : decode cL_build 68 = .ok (.iadd, 1) := by decide +kernel
theorem dL_build_69 : decode cL_build 69 = .ok (.invokestatic 107, 3) := by decide +kernel
theorem dL_build_72 : decode cL_build 72 = .ok (.ifCond .ne 5, 3) := by decide +kernel
theorem dL_build_75 : decode cL_build 75 = .ok (.aconst_null, 1) := by decide +kernel
theorem dL_build_76 : decode cL_build 76 = .ok (.areturn, 1) := by decide +kernel
theorem dL_build_77 : decode cL_build 77 = .ok (.iload_n 3, 1) := by decide +kernel
theorem dL_build_78 : decode cL_build 78 = .ok (.bipush 10, 2) := by decide +kernel
theorem dL_build_80 : decode cL_build 80 = .ok (.if_icmp .le 23, 3) := by decide +kernel
theorem dL_build_83 : decode cL_build 83 = .ok (.iload_n 3, 1) := by decide +kernel
theorem dL_build_84 : decode cL_build 84 = .ok (.iconst 4, 1) := by decide +kernel
theorem dL_build_85 : decode cL_build 85 = .ok (.irem, 1) := by decide +kernel
theorem dL_build_86 : decode cL_build 86 = .ok (.ifCond .ne 17, 3) := by decide +kernel
theorem dL_build_89 : decode cL_build 89 = .ok (.aload_n 0, 1) := by decide +kernel
theorem dL_build_90 : decode cL_build 90 = .ok (.iconst 1, 1) := by decide +kernel
theorem dL_build_91 : decode cL_build 91 = .ok (.invokevirtual 111, 3) := by decide +kernel
theorem dL_build_94 : decode cL_build 94 = .ok (.aload_n 2, 1) := by decide +kernel
theorem dL_build_95 : decode cL_build 95 = .ok (.invokevirtual 114, 3) := by decide +kernel
theorem dL_build_98 : decode cL_build 98 = .ok (.if_icmp .eq 5, 3) := by decide +kernel
theorem dL_build_101 : decode cL_build 101 = .ok (.aconst_null, 1) := by decide +kernel
theorem dL_build_102 : decode cL_build 102 = .ok (.areturn, 1) := by decide +kernel
theorem dL_build_103 : decode cL_build 103 = .ok (.iinc 3 1, 3) := by decide +kernel
theorem dL_build_106 : decode cL_build 106 = .ok (.goto (-96), 3) := by decide +kernel
theorem dL_build_109 : decode cL_build 109 = .ok (.aload_n 2, 1) := by decide +kernel
theorem dL_build_110 : decode cL_build 110 = .ok (.areturn, 1) := by decide +kernel
abbrev vwCl : List vw_C := [(RX0, TX0, 5), (RX1, TX1, 5), (RX2, TX2, 10), (RX3, TX3, 4), (RX4, TX4, 12)]
