def RX0 : String := "LifeLinks$Entry"
def TX0 : u_T := fun k => match k with
  | 0 => ("LifeLinks$Entry", "slot", "I", true)
  | 1 => ("LifeLinks$Entry", "name", "[I", true)
  | 2 => ("LifeLinks$Entry", "distances", "[I", true)
  | 3 => ("LifeLinks$Entry", "length", "I", false)
  | 4 => ("LifeLinks$Entry", "kind", "I", false)
  | 5 => ("LifeLinks$Entry", "year", "I", false)
  | 6 => ("LifeLinks$Entry", "age", "I", false)
  | 7 => ("LifeLinks$Entry", "partedSlots", "I", false)
  | 8 => ("LifeLinks$Entry", "bornFirst", "I", false)
  | _ => ("LifeLinks$Entry", "bornLast", "I", false)
def tyX0 : Nat → FieldType := fun k => match k with
  | 0 => .int
  | 1 => .array .int
  | 2 => .array .int
  | 3 => .int
  | 4 => .int
  | 5 => .int
  | 6 => .int
  | 7 => .int
  | 8 => .int
  | _ => .int
theorem nmX0 : ∀ a, a < 10 → ∀ b, b < 10 → a ≠ b → (TX0 a).2.1 ≠ (TX0 b).2.1 := by decide +kernel
theorem tyX0_ok : ∀ k, k < 10 → parseFieldDescriptor (TX0 k).2.2.1 = some (tyX0 k) := by decide +kernel
abbrev cX0_init : ByteArray := prog_2_method_1_code
def yX0_init : MethodName := ⟨RX0, "<init>", "(I)V"⟩
abbrev cX0_read : ByteArray := prog_2_method_2_code
def yX0_read : MethodName := ⟨RX0, "read", "(LLifeLinks$Page;LLifeLinks$Reader;)V"⟩
abbrev cX0_settleBorn : ByteArray := prog_2_method_3_code
def yX0_settleBorn : MethodName := ⟨RX0, "settleBorn", "(I)V"⟩
abbrev cX0_isPartedFrom : ByteArray := prog_2_method_4_code
def yX0_isPartedFrom : MethodName := ⟨RX0, "isPartedFrom", "(LLifeLinks$Entry;)Z"⟩
abbrev cX0_distanceTo : ByteArray := prog_2_method_5_code
def yX0_distanceTo : MethodName := ⟨RX0, "distanceTo", "(LLifeLinks$Entry;)I"⟩
abbrev cX0_likenessTo : ByteArray := prog_2_method_6_code
def yX0_likenessTo : MethodName := ⟨RX0, "likenessTo", "(LLifeLinks$Entry;)I"⟩
abbrev cX0_yearsWith : ByteArray := prog_2_method_7_code
def yX0_yearsWith : MethodName := ⟨RX0, "yearsWith", "(LLifeLinks$Entry;)I"⟩
abbrev cX0_isInWrongOrderWith : ByteArray := prog_2_method_8_code
def yX0_isInWrongOrderWith : MethodName := ⟨RX0, "isInWrongOrderWith", "(LLifeLinks$Entry;)Z"⟩
def RX1 : String := "LifeLinks$Life"
def TX1 : u_T := fun k => match k with
  | 0 => ("LifeLinks$Life", "members", "[I", true)
  | 1 => ("LifeLinks$Life", "size", "I", false)
  | 2 => ("LifeLinks$Life", "heads", "I", false)
  | 3 => ("LifeLinks$Life", "birth", "I", false)
  | 4 => ("LifeLinks$Life", "burial", "I", false)
  | 5 => ("LifeLinks$Life", "bornFirst", "I", false)
  | 6 => ("LifeLinks$Life", "bornLast", "I", false)
  | 7 => ("LifeLinks$Life", "lastYear", "I", false)
  | _ => ("LifeLinks$Life", "shaky", "Z", false)
def tyX1 : Nat → FieldType := fun k => match k with
  | 0 => .array .int
  | 1 => .int
  | 2 => .int
  | 3 => .int
  | 4 => .int
  | 5 => .int
  | 6 => .int
  | 7 => .int
  | _ => .boolean
theorem nmX1 : ∀ a, a < 9 → ∀ b, b < 9 → a ≠ b → (TX1 a).2.1 ≠ (TX1 b).2.1 := by decide +kernel
theorem tyX1_ok : ∀ k, k < 9 → parseFieldDescriptor (TX1 k).2.2.1 = some (tyX1 k) := by decide +kernel
abbrev cX1_init : ByteArray := prog_3_method_1_code
def yX1_init : MethodName := ⟨RX1, "<init>", "()V"⟩
abbrev cX1_clear : ByteArray := prog_3_method_2_code
def yX1_clear : MethodName := ⟨RX1, "clear", "()V"⟩
abbrev cX1_weddings : ByteArray := prog_3_method_3_code
def yX1_weddings : MethodName := ⟨RX1, "weddings", "()I"⟩
abbrev cX1_isBorn : ByteArray := prog_3_method_4_code
def yX1_isBorn : MethodName := ⟨RX1, "isBorn", "()Z"⟩
abbrev cX1_add : ByteArray := prog_3_method_5_code
def yX1_add : MethodName := ⟨RX1, "add", "(ILLifeLinks$Entry;)V"⟩
def RX2 : String := "LifeLinks$Lives"
def TX2 : u_T := fun k => match k with
  | 0 => ("LifeLinks$Lives", "all", "[LLifeLinks$Life;", true)
  | 1 => ("LifeLinks$Lives", "lifeOf", "[I", true)
  | 2 => ("LifeLinks$Lives", "size", "I", false)
  | 3 => ("LifeLinks$Lives", "byMatch", "I", false)
  | 4 => ("LifeLinks$Lives", "doubtful", "I", false)
  | _ => ("LifeLinks$Lives", "values", "[I", true)
def tyX2 : Nat → FieldType := fun k => match k with
  | 0 => .array (.object "LifeLinks$Life")
  | 1 => .array .int
  | 2 => .int
  | 3 => .int
  | 4 => .int
  | _ => .array .int
theorem nmX2 : ∀ a, a < 6 → ∀ b, b < 6 → a ≠ b → (TX2 a).2.1 ≠ (TX2 b).2.1 := by decide +kernel
theorem tyX2_ok : ∀ k, k < 6 → parseFieldDescriptor (TX2 k).2.2.1 = some (tyX2 k) := by decide +kernel
abbrev cX2_init : ByteArray := prog_4_method_1_code
def yX2_init : MethodName := ⟨RX2, "<init>", "()V"⟩
abbrev cX2_settle : ByteArray := prog_4_method_2_code
def yX2_settle : MethodName := ⟨RX2, "settle", "(LLifeLinks$Register;LLifeLinks$Pairs;LLifeLinks$Match;I)V"⟩
abbrev cX2_has : ByteArray := prog_4_method_3_code
def yX2_has : MethodName := ⟨RX2, "has", "(I)Z"⟩
abbrev cX2_countShaky : ByteArray := prog_4_method_4_code
def yX2_countShaky : MethodName := ⟨RX2, "countShaky", "()I"⟩
abbrev cX2_countSingle : ByteArray := prog_4_method_5_code
def yX2_countSingle : MethodName := ⟨RX2, "countSingle", "()I"⟩
abbrev cX2_openByMatch : ByteArray := prog_4_method_6_code
def yX2_openByMatch : MethodName := ⟨RX2, "openByMatch", "(LLifeLinks$Register;LLifeLinks$Match;)V"⟩
abbrev cX2_open : ByteArray := prog_4_method_7_code
def yX2_open : MethodName := ⟨RX2, "open", "()I"⟩
abbrev cX2_add : ByteArray := prog_4_method_8_code
def yX2_add : MethodName := ⟨RX2, "add", "(IILLifeLinks$Register;)V"⟩
abbrev cX2_isShaky : ByteArray := prog_4_method_9_code
def yX2_isShaky : MethodName := ⟨RX2, "isShaky", "(LLifeLinks$Life;LLifeLinks$Register;LLifeLinks$Pairs;I)Z"⟩
abbrev cX2_layWedding : ByteArray := prog_4_method_10_code
def yX2_layWedding : MethodName := ⟨RX2, "layWedding", "(ILLifeLinks$Register;LLifeLinks$Pairs;I)V"⟩
abbrev cX2_valueAt : ByteArray := prog_4_method_11_code
def yX2_valueAt : MethodName := ⟨RX2, "valueAt", "(ILLifeLinks$Life;LLifeLinks$Pairs;)I"⟩
abbrev cX2_hasRival : ByteArray := prog_4_method_12_code
def yX2_hasRival : MethodName := ⟨RX2, "hasRival", "(II)Z"⟩
def RX3 : String := "LifeLinks$Match"
def TX3 : u_T := fun k => match k with
  | 0 => ("LifeLinks$Match", "mates", "[I", true)
  | 1 => ("LifeLinks$Match", "pairs", "I", false)
  | 2 => ("LifeLinks$Match", "worth", "I", false)
  | 3 => ("LifeLinks$Match", "births", "[I", true)
  | 4 => ("LifeLinks$Match", "burials", "[I", true)
  | 5 => ("LifeLinks$Match", "birthCount", "I", false)
  | 6 => ("LifeLinks$Match", "burialCount", "I", false)
  | _ => ("LifeLinks$Match", "best", "[[I", true)
def tyX3 : Nat → FieldType := fun k => match k with
  | 0 => .array .int
  | 1 => .int
  | 2 => .int
  | 3 => .array .int
  | 4 => .array .int
  | 5 => .int
  | 6 => .int
  | _ => .array (.array .int)
theorem nmX3 : ∀ a, a < 8 → ∀ b, b < 8 → a ≠ b → (TX3 a).2.1 ≠ (TX3 b).2.1 := by decide +kernel
theorem tyX3_ok : ∀ k, k < 8 → parseFieldDescriptor (TX3 k).2.2.1 = some (tyX3 k) := by decide +kernel
abbrev cX3_init : ByteArray := prog_5_method_1_code
def yX3_init : MethodName := ⟨RX3, "<init>", "()V"⟩
abbrev cX3_settle : ByteArray := prog_5_method_2_code
def yX3_settle : MethodName := ⟨RX3, "settle", "(LLifeLinks$Register;LLifeLinks$Pairs;)V"⟩
abbrev cX3_list : ByteArray := prog_5_method_3_code
def yX3_list : MethodName := ⟨RX3, "list", "(LLifeLinks$Register;)V"⟩
abbrev cX3_bestFrom : ByteArray := prog_5_method_4_code
def yX3_bestFrom : MethodName := ⟨RX3, "bestFrom", "(IILLifeLinks$Pairs;)I"⟩
abbrev cX3_isFree : ByteArray := prog_5_method_5_code
def yX3_isFree : MethodName := ⟨RX3, "isFree", "(IIILLifeLinks$Pairs;)Z"⟩
abbrev cX3_worthWith : ByteArray := prog_5_method_6_code
def yX3_worthWith : MethodName := ⟨RX3, "worthWith", "(IIILLifeLinks$Pairs;)I"⟩
abbrev cX3_choose : ByteArray := prog_5_method_7_code
def yX3_choose : MethodName := ⟨RX3, "choose", "(LLifeLinks$Pairs;)V"⟩
def RX4 : String := "LifeLinks$Names"
def TX4 : u_T := fun k => match k with
  | 0 => ("LifeLinks$Names", "above", "[I", false)
  | _ => ("LifeLinks$Names", "row", "[I", false)
def tyX4 : Nat → FieldType := fun k => match k with
  | 0 => .array .int
  | _ => .array .int
theorem nmX4 : ∀ a, a < 2 → ∀ b, b < 2 → a ≠ b → (TX4 a).2.1 ≠ (TX4 b).2.1 := by decide +kernel
theorem tyX4_ok : ∀ k, k < 2 → parseFieldDescriptor (TX4 k).2.2.1 = some (tyX4 k) := by decide +kernel
abbrev cX4_init : ByteArray := prog_6_method_1_code
def yX4_init : MethodName := ⟨RX4, "<init>", "()V"⟩
abbrev cX4_distance : ByteArray := prog_6_method_2_code
def yX4_distance : MethodName := ⟨RX4, "distance", "(LLifeLinks$Entry;LLifeLinks$Entry;)I"⟩
abbrev cX4_costOfMaking : ByteArray := prog_6_method_3_code
def yX4_costOfMaking : MethodName := ⟨RX4, "costOfMaking", "(II)I"⟩
abbrev cX4_soundOf : ByteArray := prog_6_method_4_code
def yX4_soundOf : MethodName := ⟨RX4, "soundOf", "(I)I"⟩
def RX5 : String := "LifeLinks$Page"
def TX5 : u_T := fun k => match k with
  | 0 => ("LifeLinks$Page", "codes", "[I", true)
  | _ => ("LifeLinks$Page", "size", "I", false)
def tyX5 : Nat → FieldType := fun k => match k with
  | 0 => .array .int
  | _ => .int
theorem nmX5 : ∀ a, a < 2 → ∀ b, b < 2 → a ≠ b → (TX5 a).2.1 ≠ (TX5 b).2.1 := by decide +kernel
theorem tyX5_ok : ∀ k, k < 2 → parseFieldDescriptor (TX5 k).2.2.1 = some (tyX5 k) := by decide +kernel
abbrev cX5_init : ByteArray := prog_7_method_1_code
def yX5_init : MethodName := ⟨RX5, "<init>", "()V"⟩
abbrev cX5_put : ByteArray := prog_7_method_2_code
def yX5_put : MethodName := ⟨RX5, "put", "(I)V"⟩
def RX6 : String := "LifeLinks$Pairs"
def TX6 : u_T := fun k => match k with
  | 0 => ("LifeLinks$Pairs", "why", "[[I", true)
  | 1 => ("LifeLinks$Pairs", "worth", "[[I", true)
  | _ => ("LifeLinks$Pairs", "size", "I", false)
def tyX6 : Nat → FieldType := fun k => match k with
  | 0 => .array (.array .int)
  | 1 => .array (.array .int)
  | _ => .int
theorem nmX6 : ∀ a, a < 3 → ∀ b, b < 3 → a ≠ b → (TX6 a).2.1 ≠ (TX6 b).2.1 := by decide +kernel
theorem tyX6_ok : ∀ k, k < 3 → parseFieldDescriptor (TX6 k).2.2.1 = some (tyX6 k) := by decide +kernel
abbrev cX6_init : ByteArray := prog_8_method_1_code
def yX6_init : MethodName := ⟨RX6, "<init>", "()V"⟩
abbrev cX6_settle : ByteArray := prog_8_method_2_code
def yX6_settle : MethodName := ⟨RX6, "settle", "(LLifeLinks$Register;I)V"⟩
abbrev cX6_fit : ByteArray := prog_8_method_3_code
def yX6_fit : MethodName := ⟨RX6, "fit", "(II)Z"⟩
abbrev cX6_countFitting : ByteArray := prog_8_method_4_code
def yX6_countFitting : MethodName := ⟨RX6, "countFitting", "(I)I"⟩
abbrev cX6_bestFor : ByteArray := prog_8_method_5_code
def yX6_bestFor : MethodName := ⟨RX6, "bestFor", "(I)I"⟩
abbrev cX6_fitFirst : ByteArray := prog_8_method_6_code
def yX6_fitFirst : MethodName := ⟨RX6, "fitFirst", "(I[II)Z"⟩
abbrev cX6_meanWorth : ByteArray := prog_8_method_7_code
def yX6_meanWorth : MethodName := ⟨RX6, "meanWorth", "(I[II)I"⟩
abbrev cX6_settleTwo : ByteArray := prog_8_method_8_code
def yX6_settleTwo : MethodName := ⟨RX6, "settleTwo", "(LLifeLinks$Register;III)V"⟩
abbrev cX6_whyNot : ByteArray := prog_8_method_9_code
def yX6_whyNot : MethodName := ⟨RX6, "whyNot", "(LLifeLinks$Entry;LLifeLinks$Entry;I)I"⟩
def RX7 : String := "LifeLinks$Reader"
def TX7 : u_T := fun k => match k with
  | 0 => ("LifeLinks$Reader", "ofKind", "[I", true)
  | 1 => ("LifeLinks$Reader", "entries", "I", false)
  | 2 => ("LifeLinks$Reader", "kind", "I", false)
  | 3 => ("LifeLinks$Reader", "nameStart", "I", false)
  | 4 => ("LifeLinks$Reader", "nameLength", "I", false)
  | 5 => ("LifeLinks$Reader", "year", "I", false)
  | 6 => ("LifeLinks$Reader", "age", "I", false)
  | 7 => ("LifeLinks$Reader", "state", "I", false)
  | 8 => ("LifeLinks$Reader", "taken", "I", false)
  | _ => ("LifeLinks$Reader", "figures", "I", false)
def tyX7 : Nat → FieldType := fun k => match k with
  | 0 => .array .int
  | 1 => .int
  | 2 => .int
  | 3 => .int
  | 4 => .int
  | 5 => .int
  | 6 => .int
  | 7 => .int
  | 8 => .int
  | _ => .int
theorem nmX7 : ∀ a, a < 10 → ∀ b, b < 10 → a ≠ b → (TX7 a).2.1 ≠ (TX7 b).2.1 := by decide +kernel
theorem tyX7_ok : ∀ k, k < 10 → parseFieldDescriptor (TX7 k).2.2.1 = some (tyX7 k) := by decide +kernel
abbrev cX7_init : ByteArray := prog_9_method_1_code
def yX7_init : MethodName := ⟨RX7, "<init>", "()V"⟩
abbrev cX7_start : ByteArray := prog_9_method_2_code
def yX7_start : MethodName := ⟨RX7, "start", "()V"⟩
abbrev cX7_takes : ByteArray := prog_9_method_3_code
def yX7_takes : MethodName := ⟨RX7, "takes", "(I)Z"⟩
abbrev cX7_isWhole : ByteArray := prog_9_method_4_code
def yX7_isWhole : MethodName := ⟨RX7, "isWhole", "()Z"⟩
abbrev cX7_startEntry : ByteArray := prog_9_method_5_code
def yX7_startEntry : MethodName := ⟨RX7, "startEntry", "()V"⟩
abbrev cX7_takesKind : ByteArray := prog_9_method_6_code
def yX7_takesKind : MethodName := ⟨RX7, "takesKind", "(I)Z"⟩
abbrev cX7_takesInName : ByteArray := prog_9_method_7_code
def yX7_takesInName : MethodName := ⟨RX7, "takesInName", "(I)Z"⟩
abbrev cX7_takesFigureOfYear : ByteArray := prog_9_method_8_code
def yX7_takesFigureOfYear : MethodName := ⟨RX7, "takesFigureOfYear", "(I)Z"⟩
abbrev cX7_takesBehindYear : ByteArray := prog_9_method_9_code
def yX7_takesBehindYear : MethodName := ⟨RX7, "takesBehindYear", "(I)Z"⟩
abbrev cX7_takesInAge : ByteArray := prog_9_method_10_code
def yX7_takesInAge : MethodName := ⟨RX7, "takesInAge", "(I)Z"⟩
abbrev cX7_ageGoesOnWith : ByteArray := prog_9_method_11_code
def yX7_ageGoesOnWith : MethodName := ⟨RX7, "ageGoesOnWith", "(I)Z"⟩
abbrev cX7_ageIsWhole : ByteArray := prog_9_method_12_code
def yX7_ageIsWhole : MethodName := ⟨RX7, "ageIsWhole", "()Z"⟩
def RX8 : String := "LifeLinks$Register"
def TX8 : u_T := fun k => match k with
  | 0 => ("LifeLinks$Register", "rows", "[LLifeLinks$Entry;", true)
  | 1 => ("LifeLinks$Register", "ofKind", "[I", true)
  | 2 => ("LifeLinks$Register", "size", "I", false)
  | _ => ("LifeLinks$Register", "struck", "I", false)
def tyX8 : Nat → FieldType := fun k => match k with
  | 0 => .array (.object "LifeLinks$Entry")
  | 1 => .array .int
  | 2 => .int
  | _ => .int
theorem nmX8 : ∀ a, a < 4 → ∀ b, b < 4 → a ≠ b → (TX8 a).2.1 ≠ (TX8 b).2.1 := by decide +kernel
theorem tyX8_ok : ∀ k, k < 4 → parseFieldDescriptor (TX8 k).2.2.1 = some (tyX8 k) := by decide +kernel
abbrev cX8_init : ByteArray := prog_10_method_1_code
def yX8_init : MethodName := ⟨RX8, "<init>", "()V"⟩
abbrev cX8_has : ByteArray := prog_10_method_2_code
def yX8_has : MethodName := ⟨RX8, "has", "(I)Z"⟩
abbrev cX8_hasRoomFor : ByteArray := prog_10_method_3_code
def yX8_hasRoomFor : MethodName := ⟨RX8, "hasRoomFor", "(LLifeLinks$Reader;)Z"⟩
abbrev cX8_add : ByteArray := prog_10_method_4_code
def yX8_add : MethodName := ⟨RX8, "add", "(LLifeLinks$Page;LLifeLinks$Reader;LLifeLinks$Names;)V"⟩
abbrev cX8_remove : ByteArray := prog_10_method_5_code
def yX8_remove : MethodName := ⟨RX8, "remove", "(I)V"⟩
abbrev cX8_turnParted : ByteArray := prog_10_method_6_code
def yX8_turnParted : MethodName := ⟨RX8, "turnParted", "(LLifeLinks$Entry;LLifeLinks$Entry;)Z"⟩
abbrev cX8_countParted : ByteArray := prog_10_method_7_code
def yX8_countParted : MethodName := ⟨RX8, "countParted", "()I"⟩
abbrev cX8_settleBorn : ByteArray := prog_10_method_8_code
def yX8_settleBorn : MethodName := ⟨RX8, "settleBorn", "(I)V"⟩
def RX9 : String := "LifeLinks"
def TX9 : u_T := fun k => match k with
  | 0 => ("LifeLinks", "page", "LLifeLinks$Page;", true)
  | 1 => ("LifeLinks", "reader", "LLifeLinks$Reader;", true)
  | 2 => ("LifeLinks", "names", "LLifeLinks$Names;", true)
  | 3 => ("LifeLinks", "register", "LLifeLinks$Register;", true)
  | 4 => ("LifeLinks", "pairs", "LLifeLinks$Pairs;", true)
  | 5 => ("LifeLinks", "match", "LLifeLinks$Match;", true)
  | 6 => ("LifeLinks", "lives", "LLifeLinks$Lives;", true)
  | 7 => ("LifeLinks", "least", "I", false)
  | 8 => ("LifeLinks", "slack", "I", false)
  | 9 => ("LifeLinks", "doubt", "I", false)
  | 10 => ("LifeLinks", "textsRead", "I", false)
  | _ => ("LifeLinks", "stale", "Z", false)
def tyX9 : Nat → FieldType := fun k => match k with
  | 0 => .object "LifeLinks$Page"
  | 1 => .object "LifeLinks$Reader"
  | 2 => .object "LifeLinks$Names"
  | 3 => .object "LifeLinks$Register"
  | 4 => .object "LifeLinks$Pairs"
  | 5 => .object "LifeLinks$Match"
  | 6 => .object "LifeLinks$Lives"
  | 7 => .int
  | 8 => .int
  | 9 => .int
  | 10 => .int
  | _ => .boolean
theorem nmX9 : ∀ a, a < 12 → ∀ b, b < 12 → a ≠ b → (TX9 a).2.1 ≠ (TX9 b).2.1 := by decide +kernel
theorem tyX9_ok : ∀ k, k < 12 → parseFieldDescriptor (TX9 k).2.2.1 = some (tyX9 k) := by decide +kernel
abbrev cX9_init : ByteArray := prog_1_method_1_code
def yX9_init : MethodName := ⟨RX9, "<init>", "()V"⟩
abbrev cX9_letter : ByteArray := prog_1_method_2_code
def yX9_letter : MethodName := ⟨RX9, "letter", "(I)I"⟩
abbrev cX9_blank : ByteArray := prog_1_method_3_code
def yX9_blank : MethodName := ⟨RX9, "blank", "()I"⟩
abbrev cX9_fault : ByteArray := prog_1_method_4_code
def yX9_fault : MethodName := ⟨RX9, "fault", "()I"⟩
abbrev cX9_enter : ByteArray := prog_1_method_5_code
def yX9_enter : MethodName := ⟨RX9, "enter", "()I"⟩
abbrev cX9_entry : ByteArray := prog_1_method_6_code
def yX9_entry : MethodName := ⟨RX9, "entry", "(II)I"⟩
abbrev cX9_sign : ByteArray := prog_1_method_7_code
def yX9_sign : MethodName := ⟨RX9, "sign", "(II)I"⟩
abbrev cX9_as : ByteArray := prog_1_method_8_code
def yX9_as : MethodName := ⟨RX9, "as", "(II)I"⟩
abbrev cX9_strike : ByteArray := prog_1_method_9_code
def yX9_strike : MethodName := ⟨RX9, "strike", "(I)I"⟩
abbrev cX9_age : ByteArray := prog_1_method_10_code
def yX9_age : MethodName := ⟨RX9, "age", "(II)I"⟩
abbrev cX9_part : ByteArray := prog_1_method_11_code
def yX9_part : MethodName := ⟨RX9, "part", "(II)I"⟩
abbrev cX9_bound : ByteArray := prog_1_method_12_code
def yX9_bound : MethodName := ⟨RX9, "bound", "(II)I"⟩
abbrev cX9_two : ByteArray := prog_1_method_13_code
def yX9_two : MethodName := ⟨RX9, "two", "(III)I"⟩
abbrev cX9_fits : ByteArray := prog_1_method_14_code
def yX9_fits : MethodName := ⟨RX9, "fits", "(I)I"⟩
abbrev cX9_nearest : ByteArray := prog_1_method_15_code
def yX9_nearest : MethodName := ⟨RX9, "nearest", "(I)I"⟩
abbrev cX9_lives : ByteArray := prog_1_method_16_code
def yX9_lives : MethodName := ⟨RX9, "lives", "(I)I"⟩
abbrev cX9_life : ByteArray := prog_1_method_17_code
def yX9_life : MethodName := ⟨RX9, "life", "(II)I"⟩
abbrev cX9_wedding : ByteArray := prog_1_method_18_code
def yX9_wedding : MethodName := ⟨RX9, "wedding", "(II)I"⟩
abbrev cX9_worth : ByteArray := prog_1_method_19_code
def yX9_worth : MethodName := ⟨RX9, "worth", "(II)I"⟩
abbrev cX9_mate : ByteArray := prog_1_method_20_code
def yX9_mate : MethodName := ⟨RX9, "mate", "(I)I"⟩
abbrev cX9_count : ByteArray := prog_1_method_21_code
def yX9_count : MethodName := ⟨RX9, "count", "(I)I"⟩
abbrev cX9_digest : ByteArray := prog_1_method_22_code
def yX9_digest : MethodName := ⟨RX9, "digest", "()J"⟩
abbrev cX9_leastAge : ByteArray := prog_1_method_23_code
def yX9_leastAge : MethodName := ⟨RX9, "leastAge", "(I)I"⟩
abbrev cX9_mayHaveAge : ByteArray := prog_1_method_24_code
def yX9_mayHaveAge : MethodName := ⟨RX9, "mayHaveAge", "(II)Z"⟩
abbrev cX9_areTwo : ByteArray := prog_1_method_25_code
def yX9_areTwo : MethodName := ⟨RX9, "areTwo", "(II)Z"⟩
abbrev cX9_addEntriesOfPage : ByteArray := prog_1_method_26_code
def yX9_addEntriesOfPage : MethodName := ⟨RX9, "addEntriesOfPage", "()V"⟩
abbrev cX9_settle : ByteArray := prog_1_method_27_code
def yX9_settle : MethodName := ⟨RX9, "settle", "()V"⟩
abbrev cX9_tellEntry : ByteArray := prog_1_method_28_code
def yX9_tellEntry : MethodName := ⟨RX9, "tellEntry", "(II)I"⟩
abbrev cX9_tellTwo : ByteArray := prog_1_method_29_code
def yX9_tellTwo : MethodName := ⟨RX9, "tellTwo", "(III)I"⟩
abbrev cX9_tellLives : ByteArray := prog_1_method_30_code
def yX9_tellLives : MethodName := ⟨RX9, "tellLives", "(I)I"⟩
abbrev cX9_tellLife : ByteArray := prog_1_method_31_code
def yX9_tellLife : MethodName := ⟨RX9, "tellLife", "(LLifeLinks$Life;I)I"⟩
abbrev cX9_mixed : ByteArray := prog_1_method_32_code
def yX9_mixed : MethodName := ⟨RX9, "mixed", "(JJ)J"⟩
abbrev cX9_mixEntries : ByteArray := prog_1_method_33_code
def yX9_mixEntries : MethodName := ⟨RX9, "mixEntries", "(J)J"⟩
abbrev cX9_mixTwos : ByteArray := prog_1_method_34_code
def yX9_mixTwos : MethodName := ⟨RX9, "mixTwos", "(J)J"⟩
abbrev cX9_mixLives : ByteArray := prog_1_method_35_code
def yX9_mixLives : MethodName := ⟨RX9, "mixLives", "(J)J"⟩
def RX10 : String := "LifeLinksModel"
def TX10 : u_T := fun k => match k with
  | 0 => ("LifeLinksModel", "pageLength", "I", false)
  | 1 => ("LifeLinksModel", "page", "[I", true)
  | 2 => ("LifeLinksModel", "entries", "I", false)
  | 3 => ("LifeLinksModel", "kind", "[I", true)
  | 4 => ("LifeLinksModel", "year", "[I", true)
  | 5 => ("LifeLinksModel", "ageOf", "[I", true)
  | 6 => ("LifeLinksModel", "length", "[I", true)
  | 7 => ("LifeLinksModel", "name", "[I", true)
  | 8 => ("LifeLinksModel", "parted", "[I", true)
  | 9 => ("LifeLinksModel", "bounds", "[I", true)
  | 10 => ("LifeLinksModel", "reads", "I", false)
  | 11 => ("LifeLinksModel", "struck", "I", false)
  | 12 => ("LifeLinksModel", "stage", "I", false)
  | 13 => ("LifeLinksModel", "newEntries", "I", false)
  | 14 => ("LifeLinksModel", "newKind", "[I", true)
  | 15 => ("LifeLinksModel", "newYear", "[I", true)
  | 16 => ("LifeLinksModel", "newAge", "[I", true)
  | 17 => ("LifeLinksModel", "newLength", "[I", true)
  | 18 => ("LifeLinksModel", "newName", "[I", true)
  | 19 => ("LifeLinksModel", "cost", "[I", true)
  | 20 => ("LifeLinksModel", "births", "I", false)
  | 21 => ("LifeLinksModel", "burials", "I", false)
  | 22 => ("LifeLinksModel", "birthAt", "[I", true)
  | 23 => ("LifeLinksModel", "burialAt", "[I", true)
  | 24 => ("LifeLinksModel", "best", "[I", true)
  | 25 => ("LifeLinksModel", "mateOf", "[I", true)
  | 26 => ("LifeLinksModel", "pairs", "I", false)
  | 27 => ("LifeLinksModel", "pairsWorth", "I", false)
  | 28 => ("LifeLinksModel", "lives", "I", false)
  | 29 => ("LifeLinksModel", "lifeBirth", "[I", true)
  | 30 => ("LifeLinksModel", "lifeBurial", "[I", true)
  | 31 => ("LifeLinksModel", "lifeWeddings", "[I", true)
  | 32 => ("LifeLinksModel", "lifeOf", "[I", true)
  | _ => ("LifeLinksModel", "h", "J", false)
def tyX10 : Nat → FieldType := fun k => match k with
  | 0 => .int
  | 1 => .array .int
  | 2 => .int
  | 3 => .array .int
  | 4 => .array .int
  | 5 => .array .int
  | 6 => .array .int
  | 7 => .array .int
  | 8 => .array .int
  | 9 => .array .int
  | 10 => .int
  | 11 => .int
  | 12 => .int
  | 13 => .int
  | 14 => .array .int
  | 15 => .array .int
  | 16 => .array .int
  | 17 => .array .int
  | 18 => .array .int
  | 19 => .array .int
  | 20 => .int
  | 21 => .int
  | 22 => .array .int
  | 23 => .array .int
  | 24 => .array .int
  | 25 => .array .int
  | 26 => .int
  | 27 => .int
  | 28 => .int
  | 29 => .array .int
  | 30 => .array .int
  | 31 => .array .int
  | 32 => .array .int
  | _ => .long
theorem nmX10 : ∀ a, a < 34 → ∀ b, b < 34 → a ≠ b → (TX10 a).2.1 ≠ (TX10 b).2.1 := by decide +kernel
theorem tyX10_ok : ∀ k, k < 34 → parseFieldDescriptor (TX10 k).2.2.1 = some (tyX10 k) := by decide +kernel
abbrev cX10_init : ByteArray := prog_12_method_1_code
def yX10_init : MethodName := ⟨RX10, "<init>", "()V"⟩
abbrev cX10_within : ByteArray := prog_12_method_3_code
def yX10_within : MethodName := ⟨RX10, "within", "(III)Z"⟩
abbrev cX10_letter : ByteArray := prog_12_method_4_code
def yX10_letter : MethodName := ⟨RX10, "letter", "(I)I"⟩
abbrev cX10_blank : ByteArray := prog_12_method_5_code
def yX10_blank : MethodName := ⟨RX10, "blank", "()I"⟩
abbrev cX10_goes : ByteArray := prog_12_method_6_code
def yX10_goes : MethodName := ⟨RX10, "goes", "(ZI)Z"⟩
abbrev cX10_takesKind : ByteArray := prog_12_method_7_code
def yX10_takesKind : MethodName := ⟨RX10, "takesKind", "(I)Z"⟩
abbrev cX10_takesName : ByteArray := prog_12_method_8_code
def yX10_takesName : MethodName := ⟨RX10, "takesName", "(II)Z"⟩
abbrev cX10_takesYear : ByteArray := prog_12_method_9_code
def yX10_takesYear : MethodName := ⟨RX10, "takesYear", "(II)Z"⟩
abbrev cX10_takesAge : ByteArray := prog_12_method_10_code
def yX10_takesAge : MethodName := ⟨RX10, "takesAge", "(II)Z"⟩
abbrev cX10_takesEnd : ByteArray := prog_12_method_11_code
def yX10_takesEnd : MethodName := ⟨RX10, "takesEnd", "(II)Z"⟩
abbrev cX10_takes : ByteArray := prog_12_method_12_code
def yX10_takes : MethodName := ⟨RX10, "takes", "(I)Z"⟩
abbrev cX10_read : ByteArray := prog_12_method_13_code
def yX10_read : MethodName := ⟨RX10, "read", "()I"⟩
abbrev cX10_fault : ByteArray := prog_12_method_14_code
def yX10_fault : MethodName := ⟨RX10, "fault", "()I"⟩
abbrev cX10_ofKind : ByteArray := prog_12_method_15_code
def yX10_ofKind : MethodName := ⟨RX10, "ofKind", "(I)I"⟩
abbrev cX10_newOfKind : ByteArray := prog_12_method_16_code
def yX10_newOfKind : MethodName := ⟨RX10, "newOfKind", "(I)I"⟩
abbrev cX10_isRoom : ByteArray := prog_12_method_17_code
def yX10_isRoom : MethodName := ⟨RX10, "isRoom", "()Z"⟩
abbrev cX10_enter : ByteArray := prog_12_method_18_code
def yX10_enter : MethodName := ⟨RX10, "enter", "()I"⟩
abbrev cX10_groupOf : ByteArray := prog_12_method_19_code
def yX10_groupOf : MethodName := ⟨RX10, "groupOf", "(I)I"⟩
abbrev cX10_changeOf : ByteArray := prog_12_method_20_code
def yX10_changeOf : MethodName := ⟨RX10, "changeOf", "(II)I"⟩
abbrev cX10_lesser : ByteArray := prog_12_method_21_code
def yX10_lesser : MethodName := ⟨RX10, "lesser", "(II)I"⟩
abbrev cX10_greater : ByteArray := prog_12_method_22_code
def yX10_greater : MethodName := ⟨RX10, "greater", "(II)I"⟩
abbrev cX10_distance : ByteArray := prog_12_method_23_code
def yX10_distance : MethodName := ⟨RX10, "distance", "(II)I"⟩
abbrev cX10_likeness : ByteArray := prog_12_method_24_code
def yX10_likeness : MethodName := ⟨RX10, "likeness", "(II)I"⟩
abbrev cX10_firstBorn : ByteArray := prog_12_method_25_code
def yX10_firstBorn : MethodName := ⟨RX10, "firstBorn", "(I)I"⟩
abbrev cX10_lastBorn : ByteArray := prog_12_method_26_code
def yX10_lastBorn : MethodName := ⟨RX10, "lastBorn", "(I)I"⟩
abbrev cX10_yearsOf : ByteArray := prog_12_method_27_code
def yX10_yearsOf : MethodName := ⟨RX10, "yearsOf", "(II)I"⟩
abbrev cX10_isParted : ByteArray := prog_12_method_28_code
def yX10_isParted : MethodName := ⟨RX10, "isParted", "(II)Z"⟩
abbrev cX10_isOutOfOrder : ByteArray := prog_12_method_29_code
def yX10_isOutOfOrder : MethodName := ⟨RX10, "isOutOfOrder", "(II)Z"⟩
abbrev cX10_why : ByteArray := prog_12_method_30_code
def yX10_why : MethodName := ⟨RX10, "why", "(II)I"⟩
abbrev cX10_isFit : ByteArray := prog_12_method_31_code
def yX10_isFit : MethodName := ⟨RX10, "isFit", "(II)Z"⟩
abbrev cX10_worthOf : ByteArray := prog_12_method_32_code
def yX10_worthOf : MethodName := ⟨RX10, "worthOf", "(II)I"⟩
abbrev cX10_isEntry : ByteArray := prog_12_method_33_code
def yX10_isEntry : MethodName := ⟨RX10, "isEntry", "(I)Z"⟩
abbrev cX10_twoNow : ByteArray := prog_12_method_34_code
def yX10_twoNow : MethodName := ⟨RX10, "twoNow", "(III)I"⟩
abbrev cX10_two : ByteArray := prog_12_method_35_code
def yX10_two : MethodName := ⟨RX10, "two", "(III)I"⟩
abbrev cX10_fitsNow : ByteArray := prog_12_method_36_code
def yX10_fitsNow : MethodName := ⟨RX10, "fitsNow", "(I)I"⟩
abbrev cX10_fits : ByteArray := prog_12_method_37_code
def yX10_fits : MethodName := ⟨RX10, "fits", "(I)I"⟩
abbrev cX10_nearestNow : ByteArray := prog_12_method_38_code
def yX10_nearestNow : MethodName := ⟨RX10, "nearestNow", "(I)I"⟩
abbrev cX10_nearest : ByteArray := prog_12_method_39_code
def yX10_nearest : MethodName := ⟨RX10, "nearest", "(I)I"⟩
abbrev cX10_listKinds : ByteArray := prog_12_method_40_code
def yX10_listKinds : MethodName := ⟨RX10, "listKinds", "()V"⟩
abbrev cX10_bestWith : ByteArray := prog_12_method_41_code
def yX10_bestWith : MethodName := ⟨RX10, "bestWith", "(III)I"⟩
abbrev cX10_layBest : ByteArray := prog_12_method_42_code
def yX10_layBest : MethodName := ⟨RX10, "layBest", "()V"⟩
abbrev cX10_layPairs : ByteArray := prog_12_method_43_code
def yX10_layPairs : MethodName := ⟨RX10, "layPairs", "()V"⟩
abbrev cX10_beginLife : ByteArray := prog_12_method_44_code
def yX10_beginLife : MethodName := ⟨RX10, "beginLife", "(II)V"⟩
abbrev cX10_layFirstLives : ByteArray := prog_12_method_45_code
def yX10_layFirstLives : MethodName := ⟨RX10, "layFirstLives", "()V"⟩
abbrev cX10_isOf : ByteArray := prog_12_method_46_code
def yX10_isOf : MethodName := ⟨RX10, "isOf", "(II)Z"⟩
abbrev cX10_canGo : ByteArray := prog_12_method_47_code
def yX10_canGo : MethodName := ⟨RX10, "canGo", "(II)Z"⟩
abbrev cX10_worthAt : ByteArray := prog_12_method_48_code
def yX10_worthAt : MethodName := ⟨RX10, "worthAt", "(II)I"⟩
abbrev cX10_bestLife : ByteArray := prog_12_method_49_code
def yX10_bestLife : MethodName := ⟨RX10, "bestLife", "(I)I"⟩
abbrev cX10_isInDoubt : ByteArray := prog_12_method_50_code
def yX10_isInDoubt : MethodName := ⟨RX10, "isInDoubt", "(II)Z"⟩
abbrev cX10_layLives : ByteArray := prog_12_method_51_code
def yX10_layLives : MethodName := ⟨RX10, "layLives", "()V"⟩
abbrev cX10_layWedding : ByteArray := prog_12_method_52_code
def yX10_layWedding : MethodName := ⟨RX10, "layWedding", "(I)V"⟩
abbrev cX10_isShaky : ByteArray := prog_12_method_53_code
def yX10_isShaky : MethodName := ⟨RX10, "isShaky", "(I)Z"⟩
abbrev cX10_entriesOf : ByteArray := prog_12_method_54_code
def yX10_entriesOf : MethodName := ⟨RX10, "entriesOf", "(I)I"⟩
abbrev cX10_doubtful : ByteArray := prog_12_method_55_code
def yX10_doubtful : MethodName := ⟨RX10, "doubtful", "()I"⟩
abbrev cX10_shakyMany : ByteArray := prog_12_method_56_code
def yX10_shakyMany : MethodName := ⟨RX10, "shakyMany", "()I"⟩
abbrev cX10_onlyMany : ByteArray := prog_12_method_57_code
def yX10_onlyMany : MethodName := ⟨RX10, "onlyMany", "()I"⟩
abbrev cX10_livesNow : ByteArray := prog_12_method_58_code
def yX10_livesNow : MethodName := ⟨RX10, "livesNow", "(I)I"⟩
abbrev cX10_lives : ByteArray := prog_12_method_59_code
def yX10_lives : MethodName := ⟨RX10, "lives", "(I)I"⟩
abbrev cX10_bornOf : ByteArray := prog_12_method_60_code
def yX10_bornOf : MethodName := ⟨RX10, "bornOf", "(IZ)I"⟩
abbrev cX10_lastYear : ByteArray := prog_12_method_61_code
def yX10_lastYear : MethodName := ⟨RX10, "lastYear", "(I)I"⟩
abbrev cX10_lifeNow : ByteArray := prog_12_method_62_code
def yX10_lifeNow : MethodName := ⟨RX10, "lifeNow", "(II)I"⟩
abbrev cX10_life : ByteArray := prog_12_method_63_code
def yX10_life : MethodName := ⟨RX10, "life", "(II)I"⟩
abbrev cX10_weddingAt : ByteArray := prog_12_method_64_code
def yX10_weddingAt : MethodName := ⟨RX10, "weddingAt", "(II)I"⟩
abbrev cX10_wedding : ByteArray := prog_12_method_65_code
def yX10_wedding : MethodName := ⟨RX10, "wedding", "(II)I"⟩
abbrev cX10_worth : ByteArray := prog_12_method_66_code
def yX10_worth : MethodName := ⟨RX10, "worth", "(II)I"⟩
abbrev cX10_mate : ByteArray := prog_12_method_67_code
def yX10_mate : MethodName := ⟨RX10, "mate", "(I)I"⟩
abbrev cX10_entryNow : ByteArray := prog_12_method_68_code
def yX10_entryNow : MethodName := ⟨RX10, "entryNow", "(II)I"⟩
abbrev cX10_entryTold : ByteArray := prog_12_method_69_code
def yX10_entryTold : MethodName := ⟨RX10, "entryTold", "(II)I"⟩
abbrev cX10_entry : ByteArray := prog_12_method_70_code
def yX10_entry : MethodName := ⟨RX10, "entry", "(II)I"⟩
abbrev cX10_sign : ByteArray := prog_12_method_71_code
def yX10_sign : MethodName := ⟨RX10, "sign", "(II)I"⟩
abbrev cX10_as : ByteArray := prog_12_method_72_code
def yX10_as : MethodName := ⟨RX10, "as", "(II)I"⟩
abbrev cX10_without : ByteArray := prog_12_method_73_code
def yX10_without : MethodName := ⟨RX10, "without", "(II)I"⟩
abbrev cX10_strike : ByteArray := prog_12_method_74_code
def yX10_strike : MethodName := ⟨RX10, "strike", "(I)I"⟩
abbrev cX10_isAge : ByteArray := prog_12_method_75_code
def yX10_isAge : MethodName := ⟨RX10, "isAge", "(II)Z"⟩
abbrev cX10_age : ByteArray := prog_12_method_76_code
def yX10_age : MethodName := ⟨RX10, "age", "(II)I"⟩
abbrev cX10_part : ByteArray := prog_12_method_77_code
def yX10_part : MethodName := ⟨RX10, "part", "(II)I"⟩
abbrev cX10_bound : ByteArray := prog_12_method_78_code
def yX10_bound : MethodName := ⟨RX10, "bound", "(II)I"⟩
abbrev cX10_partedMany : ByteArray := prog_12_method_79_code
def yX10_partedMany : MethodName := ⟨RX10, "partedMany", "()I"⟩
abbrev cX10_howMany : ByteArray := prog_12_method_80_code
def yX10_howMany : MethodName := ⟨RX10, "howMany", "(I)I"⟩
abbrev cX10_count : ByteArray := prog_12_method_81_code
def yX10_count : MethodName := ⟨RX10, "count", "(I)I"⟩
abbrev cX10_mix : ByteArray := prog_12_method_82_code
def yX10_mix : MethodName := ⟨RX10, "mix", "(J)V"⟩
abbrev cX10_mixEntries : ByteArray := prog_12_method_83_code
def yX10_mixEntries : MethodName := ⟨RX10, "mixEntries", "()V"⟩
abbrev cX10_mixLives : ByteArray := prog_12_method_84_code
def yX10_mixLives : MethodName := ⟨RX10, "mixLives", "()V"⟩
abbrev cX10_digest : ByteArray := prog_12_method_85_code
def yX10_digest : MethodName := ⟨RX10, "digest", "()J"⟩
def RJ6 : String := "java/lang/Integer"
abbrev cJ6_bitCount_0f7a4 : ByteArray := prog_13_method_49_code
def yJ6_bitCount_0f7a4 : MethodName := ⟨RJ6, "bitCount", "(I)I"⟩
def RJ9 : String := "java/lang/Math"
abbrev cJ9_max_7cf53 : ByteArray := prog_14_method_65_code
def yJ9_max_7cf53 : MethodName := ⟨RJ9, "max", "(II)I"⟩
abbrev cJ9_min_7cf53 : ByteArray := prog_14_method_69_code
def yJ9_min_7cf53 : MethodName := ⟨RJ9, "min", "(II)I"⟩
def RJ0 : String := "java/lang/String"
abbrev cJ0_length_8abf5 : ByteArray := prog_15_method_54_code
def yJ0_length_8abf5 : MethodName := ⟨RJ0, "length", "()I"⟩
abbrev cJ0_charAt_5068e : ByteArray := prog_15_method_56_code
def yJ0_charAt_5068e : MethodName := ⟨RJ0, "charAt", "(I)C"⟩
abbrev cJ0_coder_7d493 : ByteArray := prog_15_method_152_code
def yJ0_coder_7d493 : MethodName := ⟨RJ0, "coder", "()B"⟩
abbrev cJ0_isLatin1_aae02 : ByteArray := prog_15_method_154_code
def yJ0_isLatin1_aae02 : MethodName := ⟨RJ0, "isLatin1", "()Z"⟩
abbrev cJ0_checkIndex_df160 : ByteArray := prog_15_method_155_code
def yJ0_checkIndex_df160 : MethodName := ⟨RJ0, "checkIndex", "(II)V"⟩
def RJ1 : String := "java/lang/StringLatin1"
abbrev cJ1_charAt_3b067 : ByteArray := prog_16_method_2_code
def yJ1_charAt_3b067 : MethodName := ⟨RJ1, "charAt", "([BI)C"⟩
def RJ2 : String := "java/lang/StringUTF16"
abbrev cJ2_getChar_3b067 : ByteArray := prog_17_method_5_code
def yJ2_getChar_3b067 : MethodName := ⟨RJ2, "getChar", "([BI)C"⟩
abbrev cJ2_length_9d52b : ByteArray := prog_17_method_6_code
def yJ2_length_9d52b : MethodName := ⟨RJ2, "length", "([B)I"⟩
abbrev cJ2_charAt_3b067 : ByteArray := prog_17_method_83_code
def yJ2_charAt_3b067 : MethodName := ⟨RJ2, "charAt", "([BI)C"⟩
abbrev cJ2_checkIndex_2214a : ByteArray := prog_17_method_91_code
def yJ2_checkIndex_2214a : MethodName := ⟨RJ2, "checkIndex", "(I[B)V"⟩
def RJ3 : String := "jdk/internal/util/Preconditions"
abbrev cJ3_checkIndex_8e157 : ByteArray := prog_18_method_11_code
def yJ3_checkIndex_8e157 : MethodName := ⟨RJ3, "checkIndex", "(IILjava/util/function/BiFunction;)I"⟩
def RL : String := "LifeLinksLaw"
abbrev cL_law : ByteArray := code
def yL_law : MethodName := ⟨RL, "law", "([I)Z"⟩
abbrev vwCl : List vw_C := [(RX0, TX0, 10), (RX1, TX1, 9), (RX2, TX2, 6), (RX3, TX3, 8), (RX4, TX4, 2), (RX5, TX5, 2), (RX6, TX6, 3), (RX7, TX7, 10), (RX8, TX8, 4), (RX9, TX9, 12), (RX10, TX10, 34)]
/-- the words that every method may use: those of the tables that stay -/
def WS : List Cond := lw_tbl.filter goodWord
theorem WS_tbl {w : Cond} (h : w ∈ WS) : w ∈ lw_tbl := (List.mem_filter.mp h).1
theorem WS_good {w : Cond} (h : w ∈ WS) : goodWord w = true := (List.mem_filter.mp h).2
theorem wd {w : Cond} (i : Nat) (h : lw_tbl[i]? = some w) (g : goodWord w = true) : w ∈ WS := List.mem_filter.mpr ⟨List.mem_of_getElem? h, g⟩
theorem wdl {l : List Cond} (ps : List Nat) (h : l = ps.filterMap (fun i => lw_tbl[i]?)) (g : l.all goodWord = true) : ∀ w ∈ l, w ∈ WS := by
  intro w hw
  have h2 := List.all_eq_true.mp g w hw
  rw [h] at hw
  obtain ⟨i, -, hi⟩ := List.mem_filterMap.mp hw
  exact wd i hi h2
theorem in_t1 {w : Cond} (h : w ∈ tables_1_1) : w ∈ tables_1 := by
  unfold tables_1
  simp only [List.mem_append]
  simp [h]
theorem wt1 {w : Cond} (i : Nat) (h : tables_1_1[i]? = some w) (g : goodWord w = true) : w ∈ WS := List.mem_filter.mpr ⟨List.mem_append_right _ (in_t1 (List.mem_of_getElem? h)), g⟩
theorem in_t2 {w : Cond} (h : w ∈ tables_1_2) : w ∈ tables_1 := by
  unfold tables_1
  simp only [List.mem_append]
  simp [h]
theorem wt2 {w : Cond} (i : Nat) (h : tables_1_2[i]? = some w) (g : goodWord w = true) : w ∈ WS := List.mem_filter.mpr ⟨List.mem_append_right _ (in_t2 (List.mem_of_getElem? h)), g⟩
theorem in_t3 {w : Cond} (h : w ∈ tables_1_3) : w ∈ tables_1 := by
  unfold tables_1
  simp only [List.mem_append]
  simp [h]
theorem wt3 {w : Cond} (i : Nat) (h : tables_1_3[i]? = some w) (g : goodWord w = true) : w ∈ WS := List.mem_filter.mpr ⟨List.mem_append_right _ (in_t3 (List.mem_of_getElem? h)), g⟩
theorem in_t4 {w : Cond} (h : w ∈ tables_1_4) : w ∈ tables_1 := by
  unfold tables_1
  simp only [List.mem_append]
  simp [h]
theorem wt4 {w : Cond} (i : Nat) (h : tables_1_4[i]? = some w) (g : goodWord w = true) : w ∈ WS := List.mem_filter.mpr ⟨List.mem_append_right _ (in_t4 (List.mem_of_getElem? h)), g⟩
theorem in_t5 {w : Cond} (h : w ∈ tables_1_5) : w ∈ tables_1 := by
  unfold tables_1
  simp only [List.mem_append]
  simp [h]
theorem wt5 {w : Cond} (i : Nat) (h : tables_1_5[i]? = some w) (g : goodWord w = true) : w ∈ WS := List.mem_filter.mpr ⟨List.mem_append_right _ (in_t5 (List.mem_of_getElem? h)), g⟩
theorem in_t6 {w : Cond} (h : w ∈ tables_1_6) : w ∈ tables_1 := by
  unfold tables_1
  simp only [List.mem_append]
  simp [h]
theorem wt6 {w : Cond} (i : Nat) (h : tables_1_6[i]? = some w) (g : goodWord w = true) : w ∈ WS := List.mem_filter.mpr ⟨List.mem_append_right _ (in_t6 (List.mem_of_getElem? h)), g⟩
theorem wp1 {w : Cond} (i : Nat) (h : (k2_sels lw_privs_1)[i]? = some w) (g : goodWord w = true) : w ∈ WS := by
  have h1 := List.mem_of_getElem? h
  obtain ⟨q, hq, rfl⟩ := List.mem_map.mp h1
  refine List.mem_filter.mpr ⟨List.mem_append_left _ (List.mem_map.mpr ⟨q, ?_, rfl⟩), g⟩
  unfold lw_privs
  simp only [List.mem_append]
  simp [hq]
theorem wp2 {w : Cond} (i : Nat) (h : (k2_sels lw_privs_2)[i]? = some w) (g : goodWord w = true) : w ∈ WS := by
  have h1 := List.mem_of_getElem? h
  obtain ⟨q, hq, rfl⟩ := List.mem_map.mp h1
  refine List.mem_filter.mpr ⟨List.mem_append_left _ (List.mem_map.mpr ⟨q, ?_, rfl⟩), g⟩
  unfold lw_privs
  simp only [List.mem_append]
  simp [hq]
theorem wp3 {w : Cond} (i : Nat) (h : (k2_sels lw_privs_3)[i]? = some w) (g : goodWord w = true) : w ∈ WS := by
  have h1 := List.mem_of_getElem? h
  obtain ⟨q, hq, rfl⟩ := List.mem_map.mp h1
  refine List.mem_filter.mpr ⟨List.mem_append_left _ (List.mem_map.mpr ⟨q, ?_, rfl⟩), g⟩
  unfold lw_privs
  simp only [List.mem_append]
  simp [hq]
theorem wp4 {w : Cond} (i : Nat) (h : (k2_sels lw_privs_4)[i]? = some w) (g : goodWord w = true) : w ∈ WS := by
  have h1 := List.mem_of_getElem? h
  obtain ⟨q, hq, rfl⟩ := List.mem_map.mp h1
  refine List.mem_filter.mpr ⟨List.mem_append_left _ (List.mem_map.mpr ⟨q, ?_, rfl⟩), g⟩
  unfold lw_privs
  simp only [List.mem_append]
  simp [hq]
theorem wp5 {w : Cond} (i : Nat) (h : (k2_sels lw_privs_5)[i]? = some w) (g : goodWord w = true) : w ∈ WS := by
  have h1 := List.mem_of_getElem? h
  obtain ⟨q, hq, rfl⟩ := List.mem_map.mp h1
  refine List.mem_filter.mpr ⟨List.mem_append_left _ (List.mem_map.mpr ⟨q, ?_, rfl⟩), g⟩
  unfold lw_privs
  simp only [List.mem_append]
  simp [hq]
theorem wp6 {w : Cond} (i : Nat) (h : (k2_sels lw_privs_6)[i]? = some w) (g : goodWord w = true) : w ∈ WS := by
  have h1 := List.mem_of_getElem? h
  obtain ⟨q, hq, rfl⟩ := List.mem_map.mp h1
  refine List.mem_filter.mpr ⟨List.mem_append_left _ (List.mem_map.mpr ⟨q, ?_, rfl⟩), g⟩
  unfold lw_privs
  simp only [List.mem_append]
  simp [hq]
theorem inX0 : ∀ w ∈ u_ws RX0 TX0 10, w ∈ WS := wdl [229, 231, 233, 235, 237, 239, 241, 243, 245, 247] (by decide +kernel) (by decide +kernel)
theorem inX1 : ∀ w ∈ u_ws RX1 TX1 9, w ∈ WS := wdl [368, 370, 372, 374, 376, 378, 380, 382, 384] (by decide +kernel) (by decide +kernel)
theorem inX2 : ∀ w ∈ u_ws RX2 TX2 6, w ∈ WS := wdl [398, 400, 402, 404, 406, 408] (by decide +kernel) (by decide +kernel)
theorem inX3 : ∀ w ∈ u_ws RX3 TX3 8, w ∈ WS := wdl [314, 316, 318, 320, 322, 324, 326, 328] (by decide +kernel) (by decide +kernel)
theorem inX4 : ∀ w ∈ u_ws RX4 TX4 2, w ∈ WS := wdl [181, 183] (by decide +kernel) (by decide +kernel)
theorem inX5 : ∀ w ∈ u_ws RX5 TX5 2, w ∈ WS := wdl [122, 124] (by decide +kernel) (by decide +kernel)
theorem inX6 : ∀ w ∈ u_ws RX6 TX6 3, w ∈ WS := wdl [288, 290, 292] (by decide +kernel) (by decide +kernel)
theorem inX7 : ∀ w ∈ u_ws RX7 TX7 10, w ∈ WS := wdl [152, 154, 156, 158, 160, 162, 164, 166, 168, 170] (by decide +kernel) (by decide +kernel)
theorem inX8 : ∀ w ∈ u_ws RX8 TX8 4, w ∈ WS := wdl [264, 266, 268, 270] (by decide +kernel) (by decide +kernel)
theorem inX9 : ∀ w ∈ u_ws RX9 TX9 12, w ∈ WS := wdl [423, 425, 427, 429, 431, 433, 435, 437, 439, 441, 443, 445] (by decide +kernel) (by decide +kernel)
theorem inX10 : ∀ w ∈ u_ws RX10 TX10 34, w ∈ WS := wdl [929, 931, 933, 935, 937, 939, 941, 943, 945, 947, 949, 951, 953, 955, 957, 959, 961, 963, 965, 967, 969, 971, 973, 975, 977, 979, 981, 983, 985, 987, 989, 991, 993, 995] (by decide +kernel) (by decide +kernel)
