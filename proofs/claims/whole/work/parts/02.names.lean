def RX0 : String := "SinEaters$Page"
def TX0 : u_T := fun k => match k with
  | 0 => ("SinEaters$Page", "letters", "[I", true)
  | _ => ("SinEaters$Page", "length", "I", false)
def tyX0 : Nat → FieldType := fun k => match k with
  | 0 => .array .int
  | _ => .int
theorem nmX0 : ∀ a, a < 2 → ∀ b, b < 2 → a ≠ b → (TX0 a).2.1 ≠ (TX0 b).2.1 := by decide +kernel
theorem tyX0_ok : ∀ k, k < 2 → parseFieldDescriptor (TX0 k).2.2.1 = some (tyX0 k) := by decide +kernel
abbrev cX0_init : ByteArray := prog_2_method_1_code
def yX0_init : MethodName := ⟨RX0, "<init>", "()V"⟩
abbrev cX0_write : ByteArray := prog_2_method_2_code
def yX0_write : MethodName := ⟨RX0, "write", "(I)Z"⟩
abbrev cX0_letterAt : ByteArray := prog_2_method_3_code
def yX0_letterAt : MethodName := ⟨RX0, "letterAt", "(I)I"⟩
abbrev cX0_digitAt : ByteArray := prog_2_method_4_code
def yX0_digitAt : MethodName := ⟨RX0, "digitAt", "(I)I"⟩
abbrev cX0_eatersEnd : ByteArray := prog_2_method_5_code
def yX0_eatersEnd : MethodName := ⟨RX0, "eatersEnd", "()I"⟩
abbrev cX0_faultPlace : ByteArray := prog_2_method_6_code
def yX0_faultPlace : MethodName := ⟨RX0, "faultPlace", "()I"⟩
abbrev cX0_fitsEaters : ByteArray := prog_2_method_7_code
def yX0_fitsEaters : MethodName := ⟨RX0, "fitsEaters", "(I)Z"⟩
abbrev cX0_fitsLoaves : ByteArray := prog_2_method_8_code
def yX0_fitsLoaves : MethodName := ⟨RX0, "fitsLoaves", "(II)Z"⟩
abbrev cX0_isValley : ByteArray := prog_2_method_9_code
def yX0_isValley : MethodName := ⟨RX0, "isValley", "()Z"⟩
def RX1 : String := "SinEaters$Plan"
def TX1 : u_T := fun k => match k with
  | 0 => ("SinEaters$Plan", "tried", "[I", true)
  | 1 => ("SinEaters$Plan", "best", "[I", true)
  | 2 => ("SinEaters$Plan", "most", "I", false)
  | _ => ("SinEaters$Plan", "found", "Z", false)
def tyX1 : Nat → FieldType := fun k => match k with
  | 0 => .array .int
  | 1 => .array .int
  | 2 => .int
  | _ => .boolean
theorem nmX1 : ∀ a, a < 4 → ∀ b, b < 4 → a ≠ b → (TX1 a).2.1 ≠ (TX1 b).2.1 := by decide +kernel
theorem tyX1_ok : ∀ k, k < 4 → parseFieldDescriptor (TX1 k).2.2.1 = some (tyX1 k) := by decide +kernel
abbrev cX1_init : ByteArray := prog_3_method_1_code
def yX1_init : MethodName := ⟨RX1, "<init>", "()V"⟩
abbrev cX1_start : ByteArray := prog_3_method_2_code
def yX1_start : MethodName := ⟨RX1, "start", "()V"⟩
abbrev cX1_keep : ByteArray := prog_3_method_3_code
def yX1_keep : MethodName := ⟨RX1, "keep", "(I)V"⟩
def RX2 : String := "SinEaters$Valley"
def TX2 : u_T := fun k => match k with
  | 0 => ("SinEaters$Valley", "eaters", "I", false)
  | 1 => ("SinEaters$Valley", "living", "I", false)
  | 2 => ("SinEaters$Valley", "kinds", "[I", true)
  | 3 => ("SinEaters$Valley", "hunger", "[I", true)
  | 4 => ("SinEaters$Valley", "carried", "[I", true)
  | 5 => ("SinEaters$Valley", "paid", "[I", true)
  | 6 => ("SinEaters$Valley", "loaves", "I", false)
  | 7 => ("SinEaters$Valley", "eaten", "I", false)
  | 8 => ("SinEaters$Valley", "deeds", "[I", true)
  | 9 => ("SinEaters$Valley", "hidden", "[I", true)
  | 10 => ("SinEaters$Valley", "wintersPassed", "I", false)
  | 11 => ("SinEaters$Valley", "said", "I", false)
  | 12 => ("SinEaters$Valley", "saidLoaves", "[I", true)
  | 13 => ("SinEaters$Valley", "saidMuch", "[I", true)
  | _ => ("SinEaters$Valley", "saidMore", "I", false)
def tyX2 : Nat → FieldType := fun k => match k with
  | 0 => .int
  | 1 => .int
  | 2 => .array .int
  | 3 => .array .int
  | 4 => .array .int
  | 5 => .array .int
  | 6 => .int
  | 7 => .int
  | 8 => .array .int
  | 9 => .array .int
  | 10 => .int
  | 11 => .int
  | 12 => .array .int
  | 13 => .array .int
  | _ => .int
theorem nmX2 : ∀ a, a < 15 → ∀ b, b < 15 → a ≠ b → (TX2 a).2.1 ≠ (TX2 b).2.1 := by decide +kernel
theorem tyX2_ok : ∀ k, k < 15 → parseFieldDescriptor (TX2 k).2.2.1 = some (tyX2 k) := by decide +kernel
abbrev cX2_init : ByteArray := prog_4_method_1_code
def yX2_init : MethodName := ⟨RX2, "<init>", "()V"⟩
abbrev cX2_isRead : ByteArray := prog_4_method_2_code
def yX2_isRead : MethodName := ⟨RX2, "isRead", "()Z"⟩
abbrev cX2_isEater : ByteArray := prog_4_method_3_code
def yX2_isEater : MethodName := ⟨RX2, "isEater", "(I)Z"⟩
abbrev cX2_isLoaf : ByteArray := prog_4_method_4_code
def yX2_isLoaf : MethodName := ⟨RX2, "isLoaf", "(I)Z"⟩
abbrev cX2_isAlive : ByteArray := prog_4_method_5_code
def yX2_isAlive : MethodName := ⟨RX2, "isAlive", "(I)Z"⟩
abbrev cX2_wasEaten : ByteArray := prog_4_method_6_code
def yX2_wasEaten : MethodName := ⟨RX2, "wasEaten", "(I)Z"⟩
abbrev cX2_readFrom : ByteArray := prog_4_method_7_code
def yX2_readFrom : MethodName := ⟨RX2, "readFrom", "(LSinEaters$Page;)V"⟩
abbrev cX2_copyFrom : ByteArray := prog_4_method_8_code
def yX2_copyFrom : MethodName := ⟨RX2, "copyFrom", "(LSinEaters$Valley;)V"⟩
abbrev cX2_wouldTake : ByteArray := prog_4_method_9_code
def yX2_wouldTake : MethodName := ⟨RX2, "wouldTake", "(II)Z"⟩
abbrev cX2_takeWhole : ByteArray := prog_4_method_10_code
def yX2_takeWhole : MethodName := ⟨RX2, "takeWhole", "(II)V"⟩
abbrev cX2_takeHalves : ByteArray := prog_4_method_11_code
def yX2_takeHalves : MethodName := ⟨RX2, "takeHalves", "(III)V"⟩
abbrev cX2_takePart : ByteArray := prog_4_method_12_code
def yX2_takePart : MethodName := ⟨RX2, "takePart", "(III)V"⟩
abbrev cX2_giveBack : ByteArray := prog_4_method_13_code
def yX2_giveBack : MethodName := ⟨RX2, "giveBack", "(III)V"⟩
abbrev cX2_passWinter : ByteArray := prog_4_method_14_code
def yX2_passWinter : MethodName := ⟨RX2, "passWinter", "()V"⟩
abbrev cX2_makeLoafOf : ByteArray := prog_4_method_15_code
def yX2_makeLoafOf : MethodName := ⟨RX2, "makeLoafOf", "(I)I"⟩
abbrev cX2_takenNow : ByteArray := prog_4_method_16_code
def yX2_takenNow : MethodName := ⟨RX2, "takenNow", "(I)I"⟩
abbrev cX2_bestFed : ByteArray := prog_4_method_17_code
def yX2_bestFed : MethodName := ⟨RX2, "bestFed", "(I)I"⟩
abbrev cX2_canTakeAll : ByteArray := prog_4_method_18_code
def yX2_canTakeAll : MethodName := ⟨RX2, "canTakeAll", "(II)Z"⟩
abbrev cX2_deedsOf : ByteArray := prog_4_method_19_code
def yX2_deedsOf : MethodName := ⟨RX2, "deedsOf", "(I)I"⟩
abbrev cX2_addSaid : ByteArray := prog_4_method_20_code
def yX2_addSaid : MethodName := ⟨RX2, "addSaid", "(IIZ)V"⟩
abbrev cX2_bakedInto : ByteArray := prog_4_method_21_code
def yX2_bakedInto : MethodName := ⟨RX2, "bakedInto", "(I)I"⟩
abbrev cX2_allSaidHolds : ByteArray := prog_4_method_22_code
def yX2_allSaidHolds : MethodName := ⟨RX2, "allSaidHolds", "(II)Z"⟩
abbrev cX2_carriedOf : ByteArray := prog_4_method_23_code
def yX2_carriedOf : MethodName := ⟨RX2, "carriedOf", "(III)I"⟩
def RX3 : String := "SinEaters"
def TX3 : u_T := fun k => match k with
  | 0 => ("SinEaters", "page", "LSinEaters$Page;", true)
  | 1 => ("SinEaters", "now", "LSinEaters$Valley;", true)
  | 2 => ("SinEaters", "kept", "LSinEaters$Valley;", true)
  | 3 => ("SinEaters", "trial", "LSinEaters$Valley;", true)
  | 4 => ("SinEaters", "plan", "LSinEaters$Plan;", true)
  | 5 => ("SinEaters", "imageKept", "Z", false)
  | 6 => ("SinEaters", "valleysRead", "I", false)
  | _ => ("SinEaters", "spreadsDone", "I", false)
def tyX3 : Nat → FieldType := fun k => match k with
  | 0 => .object "SinEaters$Page"
  | 1 => .object "SinEaters$Valley"
  | 2 => .object "SinEaters$Valley"
  | 3 => .object "SinEaters$Valley"
  | 4 => .object "SinEaters$Plan"
  | 5 => .boolean
  | 6 => .int
  | _ => .int
theorem nmX3 : ∀ a, a < 8 → ∀ b, b < 8 → a ≠ b → (TX3 a).2.1 ≠ (TX3 b).2.1 := by decide +kernel
theorem tyX3_ok : ∀ k, k < 8 → parseFieldDescriptor (TX3 k).2.2.1 = some (tyX3 k) := by decide +kernel
abbrev cX3_init : ByteArray := prog_1_method_1_code
def yX3_init : MethodName := ⟨RX3, "<init>", "()V"⟩
abbrev cX3_letter : ByteArray := prog_1_method_2_code
def yX3_letter : MethodName := ⟨RX3, "letter", "(I)I"⟩
abbrev cX3_blank : ByteArray := prog_1_method_3_code
def yX3_blank : MethodName := ⟨RX3, "blank", "()I"⟩
abbrev cX3_fault : ByteArray := prog_1_method_4_code
def yX3_fault : MethodName := ⟨RX3, "fault", "()I"⟩
abbrev cX3_valley : ByteArray := prog_1_method_5_code
def yX3_valley : MethodName := ⟨RX3, "valley", "()I"⟩
abbrev cX3_about : ByteArray := prog_1_method_6_code
def yX3_about : MethodName := ⟨RX3, "about", "(II)I"⟩
abbrev cX3_as : ByteArray := prog_1_method_7_code
def yX3_as : MethodName := ⟨RX3, "as", "(II)I"⟩
abbrev cX3_loaf : ByteArray := prog_1_method_8_code
def yX3_loaf : MethodName := ⟨RX3, "loaf", "(II)I"⟩
abbrev cX3_eat : ByteArray := prog_1_method_9_code
def yX3_eat : MethodName := ⟨RX3, "eat", "(II)I"⟩
abbrev cX3_halve : ByteArray := prog_1_method_10_code
def yX3_halve : MethodName := ⟨RX3, "halve", "(III)I"⟩
abbrev cX3_winter : ByteArray := prog_1_method_11_code
def yX3_winter : MethodName := ⟨RX3, "winter", "()I"⟩
abbrev cX3_die : ByteArray := prog_1_method_12_code
def yX3_die : MethodName := ⟨RX3, "die", "(I)I"⟩
abbrev cX3_spread : ByteArray := prog_1_method_13_code
def yX3_spread : MethodName := ⟨RX3, "spread", "(I)I"⟩
abbrev cX3_say : ByteArray := prog_1_method_14_code
def yX3_say : MethodName := ⟨RX3, "say", "(IIZ)I"⟩
abbrev cX3_forget : ByteArray := prog_1_method_15_code
def yX3_forget : MethodName := ⟨RX3, "forget", "()I"⟩
abbrev cX3_winters : ByteArray := prog_1_method_16_code
def yX3_winters : MethodName := ⟨RX3, "winters", "(III)I"⟩
abbrev cX3_image : ByteArray := prog_1_method_17_code
def yX3_image : MethodName := ⟨RX3, "image", "()I"⟩
abbrev cX3_restore : ByteArray := prog_1_method_18_code
def yX3_restore : MethodName := ⟨RX3, "restore", "()I"⟩
abbrev cX3_count : ByteArray := prog_1_method_19_code
def yX3_count : MethodName := ⟨RX3, "count", "(I)I"⟩
abbrev cX3_digest : ByteArray := prog_1_method_20_code
def yX3_digest : MethodName := ⟨RX3, "digest", "()J"⟩
abbrev cX3_aboutEater : ByteArray := prog_1_method_21_code
def yX3_aboutEater : MethodName := ⟨RX3, "aboutEater", "(II)I"⟩
abbrev cX3_aboutLoaf : ByteArray := prog_1_method_22_code
def yX3_aboutLoaf : MethodName := ⟨RX3, "aboutLoaf", "(II)I"⟩
abbrev cX3_playWinters : ByteArray := prog_1_method_23_code
def yX3_playWinters : MethodName := ⟨RX3, "playWinters", "(II)I"⟩
abbrev cX3_nextSeed : ByteArray := prog_1_method_24_code
def yX3_nextSeed : MethodName := ⟨RX3, "nextSeed", "(I)I"⟩
abbrev cX3_drawn : ByteArray := prog_1_method_25_code
def yX3_drawn : MethodName := ⟨RX3, "drawn", "(II)I"⟩
abbrev cX3_tryLoavesFrom : ByteArray := prog_1_method_26_code
def yX3_tryLoavesFrom : MethodName := ⟨RX3, "tryLoavesFrom", "(IILSinEaters$Valley;LSinEaters$Plan;)V"⟩
abbrev cX3_bestQuestion : ByteArray := prog_1_method_27_code
def yX3_bestQuestion : MethodName := ⟨RX3, "bestQuestion", "(II)I"⟩
abbrev cX3_leftAtWorst : ByteArray := prog_1_method_28_code
def yX3_leftAtWorst : MethodName := ⟨RX3, "leftAtWorst", "(III)I"⟩
abbrev cX3_kindOf : ByteArray := prog_1_method_29_code
def yX3_kindOf : MethodName := ⟨RX3, "kindOf", "(I)I"⟩
abbrev cX3_isSuch : ByteArray := prog_1_method_30_code
def yX3_isSuch : MethodName := ⟨RX3, "isSuch", "(II)Z"⟩
abbrev cX3_stomachs : ByteArray := prog_1_method_31_code
def yX3_stomachs : MethodName := ⟨RX3, "stomachs", "(III)Z"⟩
abbrev cX3_carriedBy : ByteArray := prog_1_method_32_code
def yX3_carriedBy : MethodName := ⟨RX3, "carriedBy", "(II)I"⟩
abbrev cX3_roundedUpHalf : ByteArray := prog_1_method_33_code
def yX3_roundedUpHalf : MethodName := ⟨RX3, "roundedUpHalf", "(I)I"⟩
abbrev cX3_lessHungry : ByteArray := prog_1_method_34_code
def yX3_lessHungry : MethodName := ⟨RX3, "lessHungry", "(II)I"⟩
abbrev cX3_isDigit : ByteArray := prog_1_method_35_code
def yX3_isDigit : MethodName := ⟨RX3, "isDigit", "(I)Z"⟩
abbrev cX3_hasBit : ByteArray := prog_1_method_36_code
def yX3_hasBit : MethodName := ⟨RX3, "hasBit", "(II)Z"⟩
abbrev cX3_sumOf : ByteArray := prog_1_method_37_code
def yX3_sumOf : MethodName := ⟨RX3, "sumOf", "([I)I"⟩
abbrev cX3_greatestOf : ByteArray := prog_1_method_38_code
def yX3_greatestOf : MethodName := ⟨RX3, "greatestOf", "([I)I"⟩
abbrev cX3_copyRow : ByteArray := prog_1_method_39_code
def yX3_copyRow : MethodName := ⟨RX3, "copyRow", "([I[I)V"⟩
def RX4 : String := "SinEatersModel"
def TX4 : u_T := fun k => match k with
  | 0 => ("SinEatersModel", "valleys", "I", false)
  | 1 => ("SinEatersModel", "eaters", "I", false)
  | 2 => ("SinEatersModel", "kindOf", "[I", true)
  | 3 => ("SinEatersModel", "hungerOf", "[I", true)
  | 4 => ("SinEatersModel", "lives", "[Z", true)
  | 5 => ("SinEatersModel", "carriesOf", "[I", true)
  | 6 => ("SinEatersModel", "paidOf", "[I", true)
  | 7 => ("SinEatersModel", "loaves", "I", false)
  | 8 => ("SinEatersModel", "deedsOf", "[I", true)
  | 9 => ("SinEatersModel", "hiddenOf", "[I", true)
  | 10 => ("SinEatersModel", "eaten", "I", false)
  | 11 => ("SinEatersModel", "winters", "I", false)
  | 12 => ("SinEatersModel", "said", "I", false)
  | 13 => ("SinEatersModel", "saidLoaves", "[I", true)
  | 14 => ("SinEatersModel", "saidMuch", "[I", true)
  | 15 => ("SinEatersModel", "saidMore", "[I", true)
  | 16 => ("SinEatersModel", "asks", "I", false)
  | 17 => ("SinEatersModel", "pageLength", "I", false)
  | 18 => ("SinEatersModel", "page", "[B", true)
  | 19 => ("SinEatersModel", "isWhole", "Z", false)
  | 20 => ("SinEatersModel", "newMany", "I", false)
  | 21 => ("SinEatersModel", "newLoaves", "I", false)
  | 22 => ("SinEatersModel", "savedHunger", "[I", true)
  | 23 => ("SinEatersModel", "savedCarries", "[I", true)
  | 24 => ("SinEatersModel", "savedPaid", "[I", true)
  | 25 => ("SinEatersModel", "savedEaten", "I", false)
  | 26 => ("SinEatersModel", "seedNow", "J", false)
  | 27 => ("SinEatersModel", "isKept", "Z", false)
  | 28 => ("SinEatersModel", "keptValley", "I", false)
  | 29 => ("SinEatersModel", "keptLoaves", "I", false)
  | 30 => ("SinEatersModel", "keptEaten", "I", false)
  | 31 => ("SinEatersModel", "keptWinters", "I", false)
  | 32 => ("SinEatersModel", "keptSaid", "I", false)
  | 33 => ("SinEatersModel", "keptHunger", "[I", true)
  | 34 => ("SinEatersModel", "keptLives", "[Z", true)
  | 35 => ("SinEatersModel", "keptCarries", "[I", true)
  | 36 => ("SinEatersModel", "keptPaid", "[I", true)
  | 37 => ("SinEatersModel", "keptSaidLoaves", "[I", true)
  | 38 => ("SinEatersModel", "keptMuch", "[I", true)
  | 39 => ("SinEatersModel", "keptMore", "[I", true)
  | _ => ("SinEatersModel", "h", "J", false)
def tyX4 : Nat → FieldType := fun k => match k with
  | 0 => .int
  | 1 => .int
  | 2 => .array .int
  | 3 => .array .int
  | 4 => .array .boolean
  | 5 => .array .int
  | 6 => .array .int
  | 7 => .int
  | 8 => .array .int
  | 9 => .array .int
  | 10 => .int
  | 11 => .int
  | 12 => .int
  | 13 => .array .int
  | 14 => .array .int
  | 15 => .array .int
  | 16 => .int
  | 17 => .int
  | 18 => .array .byte
  | 19 => .boolean
  | 20 => .int
  | 21 => .int
  | 22 => .array .int
  | 23 => .array .int
  | 24 => .array .int
  | 25 => .int
  | 26 => .long
  | 27 => .boolean
  | 28 => .int
  | 29 => .int
  | 30 => .int
  | 31 => .int
  | 32 => .int
  | 33 => .array .int
  | 34 => .array .boolean
  | 35 => .array .int
  | 36 => .array .int
  | 37 => .array .int
  | 38 => .array .int
  | 39 => .array .int
  | _ => .long
theorem nmX4 : ∀ a, a < 41 → ∀ b, b < 41 → a ≠ b → (TX4 a).2.1 ≠ (TX4 b).2.1 := by decide +kernel
theorem tyX4_ok : ∀ k, k < 41 → parseFieldDescriptor (TX4 k).2.2.1 = some (tyX4 k) := by decide +kernel
abbrev cX4_init : ByteArray := prog_6_method_1_code
def yX4_init : MethodName := ⟨RX4, "<init>", "()V"⟩
abbrev cX4_within : ByteArray := prog_6_method_3_code
def yX4_within : MethodName := ⟨RX4, "within", "(III)Z"⟩
abbrev cX4_isIn : ByteArray := prog_6_method_4_code
def yX4_isIn : MethodName := ⟨RX4, "isIn", "(II)Z"⟩
abbrev cX4_letter : ByteArray := prog_6_method_5_code
def yX4_letter : MethodName := ⟨RX4, "letter", "(I)I"⟩
abbrev cX4_blank : ByteArray := prog_6_method_6_code
def yX4_blank : MethodName := ⟨RX4, "blank", "()I"⟩
abbrev cX4_kindBy : ByteArray := prog_6_method_7_code
def yX4_kindBy : MethodName := ⟨RX4, "kindBy", "(I)I"⟩
abbrev cX4_isFigure : ByteArray := prog_6_method_8_code
def yX4_isFigure : MethodName := ⟨RX4, "isFigure", "(I)Z"⟩
abbrev cX4_readLoaves : ByteArray := prog_6_method_9_code
def yX4_readLoaves : MethodName := ⟨RX4, "readLoaves", "(I)I"⟩
abbrev cX4_read : ByteArray := prog_6_method_10_code
def yX4_read : MethodName := ⟨RX4, "read", "()I"⟩
abbrev cX4_fault : ByteArray := prog_6_method_11_code
def yX4_fault : MethodName := ⟨RX4, "fault", "()I"⟩
abbrev cX4_valley : ByteArray := prog_6_method_12_code
def yX4_valley : MethodName := ⟨RX4, "valley", "()I"⟩
abbrev cX4_isEater : ByteArray := prog_6_method_13_code
def yX4_isEater : MethodName := ⟨RX4, "isEater", "(I)Z"⟩
abbrev cX4_isLoaf : ByteArray := prog_6_method_14_code
def yX4_isLoaf : MethodName := ⟨RX4, "isLoaf", "(I)Z"⟩
abbrev cX4_would : ByteArray := prog_6_method_15_code
def yX4_would : MethodName := ⟨RX4, "would", "(II)Z"⟩
abbrev cX4_takes : ByteArray := prog_6_method_16_code
def yX4_takes : MethodName := ⟨RX4, "takes", "(II)V"⟩
abbrev cX4_tires : ByteArray := prog_6_method_17_code
def yX4_tires : MethodName := ⟨RX4, "tires", "(II)V"⟩
abbrev cX4_eats : ByteArray := prog_6_method_18_code
def yX4_eats : MethodName := ⟨RX4, "eats", "(II)V"⟩
abbrev cX4_carriesAll : ByteArray := prog_6_method_19_code
def yX4_carriesAll : MethodName := ⟨RX4, "carriesAll", "()I"⟩
abbrev cX4_passWinter : ByteArray := prog_6_method_20_code
def yX4_passWinter : MethodName := ⟨RX4, "passWinter", "()V"⟩
abbrev cX4_save : ByteArray := prog_6_method_21_code
def yX4_save : MethodName := ⟨RX4, "save", "()V"⟩
abbrev cX4_load : ByteArray := prog_6_method_22_code
def yX4_load : MethodName := ⟨RX4, "load", "()V"⟩
abbrev cX4_wouldBits : ByteArray := prog_6_method_23_code
def yX4_wouldBits : MethodName := ⟨RX4, "wouldBits", "(I)I"⟩
abbrev cX4_paidBy : ByteArray := prog_6_method_24_code
def yX4_paidBy : MethodName := ⟨RX4, "paidBy", "(II)I"⟩
abbrev cX4_fedNow : ByteArray := prog_6_method_25_code
def yX4_fedNow : MethodName := ⟨RX4, "fedNow", "(IZ)I"⟩
abbrev cX4_eaterNow : ByteArray := prog_6_method_26_code
def yX4_eaterNow : MethodName := ⟨RX4, "eaterNow", "(II)I"⟩
abbrev cX4_about : ByteArray := prog_6_method_27_code
def yX4_about : MethodName := ⟨RX4, "about", "(II)I"⟩
abbrev cX4_as : ByteArray := prog_6_method_28_code
def yX4_as : MethodName := ⟨RX4, "as", "(II)I"⟩
abbrev cX4_loafNow : ByteArray := prog_6_method_29_code
def yX4_loafNow : MethodName := ⟨RX4, "loafNow", "(II)I"⟩
abbrev cX4_loaf : ByteArray := prog_6_method_30_code
def yX4_loaf : MethodName := ⟨RX4, "loaf", "(II)I"⟩
abbrev cX4_eat : ByteArray := prog_6_method_31_code
def yX4_eat : MethodName := ⟨RX4, "eat", "(II)I"⟩
abbrev cX4_halve : ByteArray := prog_6_method_32_code
def yX4_halve : MethodName := ⟨RX4, "halve", "(III)I"⟩
abbrev cX4_winter : ByteArray := prog_6_method_33_code
def yX4_winter : MethodName := ⟨RX4, "winter", "()I"⟩
abbrev cX4_die : ByteArray := prog_6_method_34_code
def yX4_die : MethodName := ⟨RX4, "die", "(I)I"⟩
abbrev cX4_leftMany : ByteArray := prog_6_method_35_code
def yX4_leftMany : MethodName := ⟨RX4, "leftMany", "()I"⟩
abbrev cX4_most : ByteArray := prog_6_method_36_code
def yX4_most : MethodName := ⟨RX4, "most", "()I"⟩
abbrev cX4_mostBy : ByteArray := prog_6_method_37_code
def yX4_mostBy : MethodName := ⟨RX4, "mostBy", "(II)I"⟩
abbrev cX4_spreadNow : ByteArray := prog_6_method_38_code
def yX4_spreadNow : MethodName := ⟨RX4, "spreadNow", "(I)I"⟩
abbrev cX4_spread : ByteArray := prog_6_method_39_code
def yX4_spread : MethodName := ⟨RX4, "spread", "(I)I"⟩
abbrev cX4_say : ByteArray := prog_6_method_40_code
def yX4_say : MethodName := ⟨RX4, "say", "(IIZ)I"⟩
abbrev cX4_forget : ByteArray := prog_6_method_41_code
def yX4_forget : MethodName := ⟨RX4, "forget", "()I"⟩
abbrev cX4_muchOf : ByteArray := prog_6_method_42_code
def yX4_muchOf : MethodName := ⟨RX4, "muchOf", "(I)I"⟩
abbrev cX4_isSaid : ByteArray := prog_6_method_43_code
def yX4_isSaid : MethodName := ⟨RX4, "isSaid", "()Z"⟩
abbrev cX4_bakedNow : ByteArray := prog_6_method_44_code
def yX4_bakedNow : MethodName := ⟨RX4, "bakedNow", "(I)I"⟩
abbrev cX4_askNow : ByteArray := prog_6_method_45_code
def yX4_askNow : MethodName := ⟨RX4, "askNow", "(I)I"⟩
abbrev cX4_draw : ByteArray := prog_6_method_46_code
def yX4_draw : MethodName := ⟨RX4, "draw", "(I)I"⟩
abbrev cX4_wintersNow : ByteArray := prog_6_method_47_code
def yX4_wintersNow : MethodName := ⟨RX4, "wintersNow", "(III)I"⟩
abbrev cX4_winters : ByteArray := prog_6_method_48_code
def yX4_winters : MethodName := ⟨RX4, "winters", "(III)I"⟩
abbrev cX4_image : ByteArray := prog_6_method_49_code
def yX4_image : MethodName := ⟨RX4, "image", "()I"⟩
abbrev cX4_restore : ByteArray := prog_6_method_50_code
def yX4_restore : MethodName := ⟨RX4, "restore", "()I"⟩
abbrev cX4_living : ByteArray := prog_6_method_51_code
def yX4_living : MethodName := ⟨RX4, "living", "()I"⟩
abbrev cX4_paidAll : ByteArray := prog_6_method_52_code
def yX4_paidAll : MethodName := ⟨RX4, "paidAll", "()I"⟩
abbrev cX4_howMany : ByteArray := prog_6_method_53_code
def yX4_howMany : MethodName := ⟨RX4, "howMany", "(I)I"⟩
abbrev cX4_count : ByteArray := prog_6_method_54_code
def yX4_count : MethodName := ⟨RX4, "count", "(I)I"⟩
abbrev cX4_mix : ByteArray := prog_6_method_55_code
def yX4_mix : MethodName := ⟨RX4, "mix", "(J)V"⟩
abbrev cX4_digest : ByteArray := prog_6_method_56_code
def yX4_digest : MethodName := ⟨RX4, "digest", "()J"⟩
def RJ11 : String := "java/lang/Character"
abbrev cJ11_isValidCodePoint_9a6ad : ByteArray := prog_7_method_11_code
def yJ11_isValidCodePoint_9a6ad : MethodName := ⟨RJ11, "isValidCodePoint", "(I)Z"⟩
abbrev cJ11_highSurrogate_5068e : ByteArray := prog_7_method_28_code
def yJ11_highSurrogate_5068e : MethodName := ⟨RJ11, "highSurrogate", "(I)C"⟩
abbrev cJ11_lowSurrogate_5068e : ByteArray := prog_7_method_29_code
def yJ11_lowSurrogate_5068e : MethodName := ⟨RJ11, "lowSurrogate", "(I)C"⟩
def RJ6 : String := "java/lang/Integer"
abbrev cJ6_bitCount_0f7a4 : ByteArray := prog_8_method_49_code
def yJ6_bitCount_0f7a4 : MethodName := ⟨RJ6, "bitCount", "(I)I"⟩
def RJ9 : String := "java/lang/Math"
abbrev cJ9_max_7cf53 : ByteArray := prog_9_method_65_code
def yJ9_max_7cf53 : MethodName := ⟨RJ9, "max", "(II)I"⟩
abbrev cJ9_min_7cf53 : ByteArray := prog_9_method_69_code
def yJ9_min_7cf53 : MethodName := ⟨RJ9, "min", "(II)I"⟩
def RJ0 : String := "java/lang/String"
abbrev cJ0_length_8abf5 : ByteArray := prog_10_method_54_code
def yJ0_length_8abf5 : MethodName := ⟨RJ0, "length", "()I"⟩
abbrev cJ0_indexOf_0f7a4 : ByteArray := prog_10_method_79_code
def yJ0_indexOf_0f7a4 : MethodName := ⟨RJ0, "indexOf", "(I)I"⟩
abbrev cJ0_indexOf_7cf53 : ByteArray := prog_10_method_80_code
def yJ0_indexOf_7cf53 : MethodName := ⟨RJ0, "indexOf", "(II)I"⟩
abbrev cJ0_coder_7d493 : ByteArray := prog_10_method_152_code
def yJ0_coder_7d493 : MethodName := ⟨RJ0, "coder", "()B"⟩
abbrev cJ0_isLatin1_aae02 : ByteArray := prog_10_method_154_code
def yJ0_isLatin1_aae02 : MethodName := ⟨RJ0, "isLatin1", "()Z"⟩
abbrev cJ0_checkBoundsBeginEnd_23922 : ByteArray := prog_10_method_158_code
def yJ0_checkBoundsBeginEnd_23922 : MethodName := ⟨RJ0, "checkBoundsBeginEnd", "(III)V"⟩
def RJ1 : String := "java/lang/StringLatin1"
abbrev cJ1_canEncode_9a6ad : ByteArray := prog_11_method_4_code
def yJ1_canEncode_9a6ad : MethodName := ⟨RJ1, "canEncode", "(I)Z"⟩
abbrev cJ1_indexOf_4cfef : ByteArray := prog_11_method_22_code
def yJ1_indexOf_4cfef : MethodName := ⟨RJ1, "indexOf", "([BIII)I"⟩
abbrev cJ1_indexOfChar_4cfef : ByteArray := prog_11_method_23_code
def yJ1_indexOfChar_4cfef : MethodName := ⟨RJ1, "indexOfChar", "([BIII)I"⟩
def RJ2 : String := "java/lang/StringUTF16"
abbrev cJ2_getChar_3b067 : ByteArray := prog_12_method_5_code
def yJ2_getChar_3b067 : MethodName := ⟨RJ2, "getChar", "([BI)C"⟩
abbrev cJ2_length_9d52b : ByteArray := prog_12_method_6_code
def yJ2_length_9d52b : MethodName := ⟨RJ2, "length", "([B)I"⟩
abbrev cJ2_indexOf_4cfef : ByteArray := prog_12_method_40_code
def yJ2_indexOf_4cfef : MethodName := ⟨RJ2, "indexOf", "([BIII)I"⟩
abbrev cJ2_indexOfChar_4cfef : ByteArray := prog_12_method_47_code
def yJ2_indexOfChar_4cfef : MethodName := ⟨RJ2, "indexOfChar", "([BIII)I"⟩
abbrev cJ2_indexOfCharUnsafe_4cfef : ByteArray := prog_12_method_48_code
def yJ2_indexOfCharUnsafe_4cfef : MethodName := ⟨RJ2, "indexOfCharUnsafe", "([BIII)I"⟩
abbrev cJ2_indexOfSupplementary_4cfef : ByteArray := prog_12_method_49_code
def yJ2_indexOfSupplementary_4cfef : MethodName := ⟨RJ2, "indexOfSupplementary", "([BIII)I"⟩
abbrev cJ2_checkBoundsBeginEnd_d044e : ByteArray := prog_12_method_93_code
def yJ2_checkBoundsBeginEnd_d044e : MethodName := ⟨RJ2, "checkBoundsBeginEnd", "(II[B)V"⟩
def RJ10 : String := "java/lang/System"
def RJ3 : String := "jdk/internal/util/Preconditions"
abbrev cJ3_checkFromToIndex_8c36e : ByteArray := prog_14_method_12_code
def yJ3_checkFromToIndex_8c36e : MethodName := ⟨RJ3, "checkFromToIndex", "(IIILjava/util/function/BiFunction;)I"⟩
def RL : String := "SinEatersLaw"
abbrev cL_law : ByteArray := code
def yL_law : MethodName := ⟨RL, "law", "([I)Z"⟩
theorem dX0_init_0 : decode cX0_init 0 = .ok (.aload_n 0, 1) := by decide +kernel
theorem dX0_init_1 : decode cX0_init 1 = .ok (.invokespecial 3, 3) := by decide +kernel
theorem dX0_init_4 : decode cX0_init 4 = .ok (.aload_n 0, 1) := by decide +kernel
theorem dX0_init_5 : decode cX0_init 5 = .ok (.bipush 24, 2) := by decide +kernel
theorem dX0_init_7 : decode cX0_init 7 = .ok (.newarray .int, 2) := by decide +kernel
theorem dX0_init_9 : decode cX0_init 9 = .ok (.putfield 9, 3) := by decide +kernel
theorem dX0_init_12 : decode cX0_init 12 = .ok (.return_, 1) := by decide +kernel
theorem dX0_write_0 : decode cX0_write 0 = .ok (.aload_n 0, 1) := by decide +kernel
theorem dX0_write_1 : decode cX0_write 1 = .ok (.getfield 15, 3) := by decide +kernel
theorem dX0_write_4 : decode cX0_write 4 = .ok (.ifCond .lt 15, 3) := by decide +kernel
theorem dX0_write_7 : decode cX0_write 7 = .ok (.aload_n 0, 1) := by decide +kernel
theorem dX0_write_8 : decode cX0_write 8 = .ok (.getfield 15, 3) := by decide +kernel
theorem dX0_write_11 : decode cX0_write 11 = .ok (.aload_n 0, 1) := by decide +kernel
theorem dX0_write_12 : decode cX0_write 12 = .ok (.getfield 9, 3) := by decide +kernel
theorem dX0_write_15 : decode cX0_write 15 = .ok (.arraylength, 1) := by decide +kernel
theorem dX0_write_16 : decode cX0_write 16 = .ok (.if_icmp .lt 5, 3) := by decide +kernel
theorem dX0_write_19 : decode cX0_write 19 = .ok (.iconst 0, 1) := by decide +kernel
theorem dX0_write_20 : decode cX0_write 20 = .ok (.ireturn, 1) := by decide +kernel
theorem dX0_write_21 : decode cX0_write 21 = .ok (.aload_n 0, 1) := by decide +kernel
theorem dX0_write_22 : decode cX0_write 22 = .ok (.getfield 9, 3) := by decide +kernel
theorem dX0_write_25 : decode cX0_write 25 = .ok (.aload_n 0, 1) := by decide +kernel
theorem dX0_write_26 : decode cX0_write 26 = .ok (.getfield 15, 3) := by decide +kernel
theorem dX0_write_29 : decode cX0_write 29 = .ok (.iload_n 1, 1) := by decide +kernel
theorem dX0_write_30 : decode cX0_write 30 = .ok (.iastore, 1) := by decide +kernel
theorem dX0_write_31 : decode cX0_write 31 = .ok (.aload_n 0, 1) := by decide +kernel
theorem dX0_write_32 : decode cX0_write 32 = .ok (.dup, 1) := by decide +kernel
theorem dX0_write_33 : decode cX0_write 33 = .ok (.getfield 15, 3) := by decide +kernel
theorem dX0_write_36 : decode cX0_write 36 = .ok (.iconst 1, 1) := by decide +kernel
theorem dX0_write_37 : decode cX0_write 37 = .ok (.iadd, 1) := by decide +kernel
theorem dX0_write_38 : decode cX0_write 38 = .ok (.putfield 15, 3) := by decide +kernel
theorem dX0_write_41 : decode cX0_write 41 = .ok (.iconst 1, 1) := by decide +kernel
theorem dX0_write_42 : decode cX0_write 42 = .ok (.ireturn, 1) := by decide +kernel
theorem dX0_letterAt_0 : decode cX0_letterAt 0 = .ok (.iload_n 1, 1) := by decide +kernel
theorem dX0_letterAt_1 : decode cX0_letterAt 1 = .ok (.ifCond .lt 29, 3) := by decide +kernel
theorem dX0_letterAt_4 : decode cX0_letterAt 4 = .ok (.iload_n 1, 1) := by decide +kernel
theorem dX0_letterAt_5 : decode cX0_letterAt 5 = .ok (.aload_n 0, 1) := by decide +kernel
theorem dX0_letterAt_6 : decode cX0_letterAt 6 = .ok (.getfield 15, 3) := by decide +kernel
theorem dX0_letterAt_9 : decode cX0_letterAt 9 = .ok (.if_icmp .ge 21, 3) := by decide +kernel
theorem dX0_letterAt_12 : decode cX0_letterAt 12 = .ok (.iload_n 1, 1) := by decide +kernel
theorem dX0_letterAt_13 : decode cX0_letterAt 13 = .ok (.aload_n 0, 1) := by decide +kernel
theorem dX0_letterAt_14 : decode cX0_letterAt 14 = .ok (.getfield 9, 3) := by decide +kernel
theorem dX0_letterAt_17 : decode cX0_letterAt 17 = .ok (.arraylength, 1) := by decide +kernel
theorem dX0_letterAt_18 : decode cX0_letterAt 18 = .ok (.if_icmp .ge 12, 3) := by decide +kernel
theorem dX0_letterAt_21 : decode cX0_letterAt 21 = .ok (.aload_n 0, 1) := by decide +kernel
theorem dX0_letterAt_22 : decode cX0_letterAt 22 = .ok (.getfield 9, 3) := by decide +kernel
theorem dX0_letterAt_25 : decode cX0_letterAt 25 = .ok (.iload_n 1, 1) := by decide +kernel
theorem dX0_letterAt_26 : decode cX0_letterAt 26 = .ok (.iaload, 1) := by decide +kernel
theorem dX0_letterAt_27 : decode cX0_letterAt 27 = .ok (.goto 4, 3) := by decide +kernel
theorem dX0_letterAt_30 : decode cX0_letterAt 30 = .ok (.iconst 0, 1) := by decide +kernel
theorem dX0_letterAt_31 : decode cX0_letterAt 31 = .ok (.ireturn, 1) := by decide +kernel
theorem dX0_digitAt_0 : decode cX0_digitAt 0 = .ok (.aload_n 0, 1) := by decide +kernel
theorem dX0_digitAt_1 : decode cX0_digitAt 1 = .ok (.iload_n 1, 1) := by decide +kernel
theorem dX0_digitAt_2 : decode cX0_digitAt 2 = .ok (.invokevirtual 19, 3) := by decide +kernel
theorem dX0_digitAt_5 : decode cX0_digitAt 5 = .ok (.bipush 48, 2) := by decide +kernel
theorem dX0_digitAt_7 : decode cX0_digitAt 7 = .ok (.isub, 1) := by decide +kernel
theorem dX0_digitAt_8 : decode cX0_digitAt 8 = .ok (.ireturn, 1) := by decide +kernel
theorem dX0_eatersEnd_0 : decode cX0_eatersEnd 0 = .ok (.iconst 0, 1) := by decide +kernel
theorem dX0_eatersEnd_1 : decode cX0_eatersEnd 1 = .ok (.istore_n 1, 1) := by decide +kernel
theorem dX0_eatersEnd_2 : decode cX0_eatersEnd 2 = .ok (.iload_n 1, 1) := by decide +kernel
theorem dX0_eatersEnd_3 : decode cX0_eatersEnd 3 = .ok (.aload_n 0, 1) := by decide +kernel
theorem dX0_eatersEnd_4 : decode cX0_eatersEnd 4 = .ok (.getfield 15, 3) := by decide +kernel
theorem dX0_eatersEnd_7 : decode cX0_eatersEnd 7 = .ok (.if_icmp .ge 21, 3) := by decide +kernel
theorem dX0_eatersEnd_10 : decode cX0_eatersEnd 10 = .ok (.aload_n 0, 1) := by decide +kernel
theorem dX0_eatersEnd_11 : decode cX0_eatersEnd 11 = .ok (.iload_n 1, 1) := by decide +kernel
theorem dX0_eatersEnd_12 : decode cX0_eatersEnd 12 = .ok (.invokevirtual 19, 3) := by decide +kernel
theorem dX0_eatersEnd_15 : decode cX0_eatersEnd 15 = .ok (.bipush 59, 2) := by decide +kernel
theorem dX0_eatersEnd_17 : decode cX0_eatersEnd 17 = .ok (.if_icmp .ne 5, 3) := by decide +kernel
theorem dX0_eatersEnd_20 : decode cX0_eatersEnd 20 = .ok (.iload_n 1, 1) := by decide +kernel
theorem dX0_eatersEnd_21 : decode cX0_eatersEnd 21 = .ok (.ireturn, 1) := by decide +kernel
theorem dX0_eatersEnd_22 : decode cX0_eatersEnd 22 = .ok (.iinc 1 1, 3) := by decide +kernel
theorem dX0_eatersEnd_25 : decode cX0_eatersEnd 25 = .ok (.goto (-23), 3) := by decide +kernel
theorem dX0_eatersEnd_28 : decode cX0_eatersEnd 28 = .ok (.iconst (-1), 1) := by decide +kernel
theorem dX0_eatersEnd_29 : decode cX0_eatersEnd 29 = .ok (.ireturn, 1) := by decide +kernel
theorem dX0_faultPlace_0 : decode cX0_faultPlace 0 = .ok (.aload_n 0, 1) := by decide +kernel
theorem dX0_faultPlace_1 : decode cX0_faultPlace 1 = .ok (.invokevirtual 23, 3) := by decide +kernel
theorem dX0_faultPlace_4 : decode cX0_faultPlace 4 = .ok (.istore_n 1, 1) := by decide +kernel
theorem dX0_faultPlace_5 : decode cX0_faultPlace 5 = .ok (.iconst 0, 1) := by decide +kernel
theorem dX0_faultPlace_6 : decode cX0_faultPlace 6 = .ok (.istore_n 2, 1) := by decide +kernel
theorem dX0_faultPlace_7 : decode cX0_faultPlace 7 = .ok (.iload_n 2, 1) := by decide +kernel
theorem dX0_faultPlace_8 : decode cX0_faultPlace 8 = .ok (.aload_n 0, 1) := by decide +kernel
theorem dX0_faultPlace_9 : decode cX0_faultPlace 9 = .ok (.getfield 15, 3) := by decide +kernel
theorem dX0_faultPlace_12 : decode cX0_faultPlace 12 = .ok (.if_icmp .ge 40, 3) := by decide +kernel
theorem dX0_faultPlace_15 : decode cX0_faultPlace 15 = .ok (.iload_n 1, 1) := by decide +kernel
theorem dX0_faultPlace_16 : decode cX0_faultPlace 16 = .ok (.iconst (-1), 1) := by decide +kernel
theorem dX0_faultPlace_17 : decode cX0_faultPlace 17 = .ok (.if_icmp .eq 8, 3) := by decide +kernel
theorem dX0_faultPlace_20 : decode cX0_faultPlace 20 = .ok (.iload_n 2, 1) := by decide +kernel
theorem dX0_faultPlace_21 : decode cX0_faultPlace 21 = .ok (.iload_n 1, 1) := by decide +kernel
theorem dX0_faultPlace_22 : decode cX0_faultPlace 22 = .ok (.if_icmp .gt 11, 3) := by decide +kernel
theorem dX0_faultPlace_25 : decode cX0_faultPlace 25 = .ok (.aload_n 0, 1) := by decide +kernel
theorem dX0_faultPlace_26 : decode cX0_faultPlace 26 = .ok (.iload_n 2, 1) := by decide +kernel
theorem dX0_faultPlace_27 : decode cX0_faultPlace 27 = .ok (.invokevirtual 27, 3) := by decide +kernel
theorem dX0_faultPlace_30 : decode cX0_faultPlace 30 = .ok (.goto 9, 3) := by decide +kernel
theorem dX0_faultPlace_33 : decode cX0_faultPlace 33 = .ok (.aload_n 0, 1) := by decide +kernel
theorem dX0_faultPlace_34 : decode cX0_faultPlace 34 = .ok (.iload_n 2, 1) := by decide +kernel
theorem dX0_faultPlace_35 : decode cX0_faultPlace 35 = .ok (.iload_n 1, 1) := by decide +kernel
theorem dX0_faultPlace_36 : decode cX0_faultPlace 36 = .ok (.invokevirtual 31, 3) := by decide +kernel
theorem dX0_faultPlace_39 : decode cX0_faultPlace 39 = .ok (.istore_n 3, 1) := by decide +kernel
theorem dX0_faultPlace_40 : decode cX0_faultPlace 40 = .ok (.iload_n 3, 1) := by decide +kernel
theorem dX0_faultPlace_41 : decode cX0_faultPlace 41 = .ok (.ifCond .ne 5, 3) := by decide +kernel
theorem dX0_faultPlace_44 : decode cX0_faultPlace 44 = .ok (.iload_n 2, 1) := by decide +kernel
theorem dX0_faultPlace_45 : decode cX0_faultPlace 45 = .ok (.ireturn, 1) := by decide +kernel
theorem dX0_faultPlace_46 : decode cX0_faultPlace 46 = .ok (.iinc 2 1, 3) := by decide +kernel
theorem dX0_faultPlace_49 : decode cX0_faultPlace 49 = .ok (.goto (-42), 3) := by decide +kernel
theorem dX0_faultPlace_52 : decode cX0_faultPlace 52 = .ok (.aload_n 0, 1) := by decide +kernel
theorem dX0_faultPlace_53 : decode cX0_faultPlace 53 = .ok (.getfield 15, 3) := by decide +kernel
theorem dX0_faultPlace_56 : decode cX0_faultPlace 56 = .ok (.ireturn, 1) := by decide +kernel
theorem dX0_fitsEaters_0 : decode cX0_fitsEaters 0 = .ok (.aload_n 0, 1) := by decide +kernel
theorem dX0_fitsEaters_1 : decode cX0_fitsEaters 1 = .ok (.iload_n 1, 1) := by decide +kernel
theorem dX0_fitsEaters_2 : decode cX0_fitsEaters 2 = .ok (.invokevirtual 19, 3) := by decide +kernel
theorem dX0_fitsEaters_5 : decode cX0_fitsEaters 5 = .ok (.istore_n 2, 1) := by decide +kernel
theorem dX0_fitsEaters_6 : decode cX0_fitsEaters 6 = .ok (.iload_n 1, 1) := by decide +kernel
theorem dX0_fitsEaters_7 : decode cX0_fitsEaters 7 = .ok (.iconst 3, 1) := by decide +kernel
theorem dX0_fitsEaters_8 : decode cX0_fitsEaters 8 = .ok (.idiv, 1) := by decide +kernel
theorem dX0_fitsEaters_9 : decode cX0_fitsEaters 9 = .ok (.iconst 1, 1) := by decide +kernel
theorem dX0_fitsEaters_10 : decode cX0_fitsEaters 10 = .ok (.iadd, 1) := by decide +kernel
theorem dX0_fitsEaters_11 : decode cX0_fitsEaters 11 = .ok (.istore_n 3, 1) := by decide +kernel
theorem dX0_fitsEaters_12 : decode cX0_fitsEaters 12 = .ok (.iload_n 1, 1) := by decide +kernel
theorem dX0_fitsEaters_13 : decode cX0_fitsEaters 13 = .ok (.iconst 3, 1) := by decide +kernel
theorem dX0_fitsEaters_14 : decode cX0_fitsEaters 14 = .ok (.irem, 1) := by decide +kernel
theorem dX0_fitsEaters_15 : decode cX0_fitsEaters 15 = .ok (.lookupswitch 43 #[(0, 25), (1, 38)], 25) := by decide +kernel
theorem dX0_fitsEaters_40 : decode cX0_fitsEaters 40 = .ok (.iload_n 2, 1) := by decide +kernel
theorem dX0_fitsEaters_41 : decode cX0_fitsEaters 41 = .ok (.invokestatic 35, 3) := by decide +kernel
theorem dX0_fitsEaters_44 : decode cX0_fitsEaters 44 = .ok (.ifCond .lt 7, 3) := by decide +kernel
theorem dX0_fitsEaters_47 : decode cX0_fitsEaters 47 = .ok (.iconst 1, 1) := by decide +kernel
theorem dX0_fitsEaters_48 : decode cX0_fitsEaters 48 = .ok (.goto 4, 3) := by decide +kernel
theorem dX0_fitsEaters_51 : decode cX0_fitsEaters 51 = .ok (.iconst 0, 1) := by decide +kernel
theorem dX0_fitsEaters_52 : decode cX0_fitsEaters 52 = .ok (.ireturn, 1) := by decide +kernel
theorem dX0_fitsEaters_53 : decode cX0_fitsEaters 53 = .ok (.iload_n 2, 1) := by decide +kernel
theorem dX0_fitsEaters_54 : decode cX0_fitsEaters 54 = .ok (.invokestatic 38, 3) := by decide +kernel
theorem dX0_fitsEaters_57 : decode cX0_fitsEaters 57 = .ok (.ireturn, 1) := by decide +kernel
theorem dX0_fitsEaters_58 : decode cX0_fitsEaters 58 = .ok (.iload_n 2, 1) := by decide +kernel
theorem dX0_fitsEaters_59 : decode cX0_fitsEaters 59 = .ok (.bipush 44, 2) := by decide +kernel
theorem dX0_fitsEaters_61 : decode cX0_fitsEaters 61 = .ok (.if_icmp .ne 8, 3) := by decide +kernel
theorem dX0_fitsEaters_64 : decode cX0_fitsEaters 64 = .ok (.iload_n 3, 1) := by decide +kernel
theorem dX0_fitsEaters_65 : decode cX0_fitsEaters 65 = .ok (.iconst 4, 1) := by decide +kernel
theorem dX0_fitsEaters_66 : decode cX0_fitsEaters 66 = .ok (.if_icmp .lt 19, 3) := by decide +kernel
theorem dX0_fitsEaters_69 : decode cX0_fitsEaters 69 = .ok (.iload_n 2, 1) := by decide +kernel
theorem dX0_fitsEaters_70 : decode cX0_fitsEaters 70 = .ok (.bipush 59, 2) := by decide +kernel
theorem dX0_fitsEaters_72 : decode cX0_fitsEaters 72 = .ok (.if_icmp .ne 17, 3) := by decide +kernel
theorem dX0_fitsEaters_75 : decode cX0_fitsEaters 75 = .ok (.iload_n 3, 1) := by decide +kernel
theorem dX0_fitsEaters_76 : decode cX0_fitsEaters 76 = .ok (.iconst 2, 1) := by decide +kernel
theorem dX0_fitsEaters_77 : decode cX0_fitsEaters 77 = .ok (.if_icmp .lt 12, 3) := by decide +kernel
theorem dX0_fitsEaters_80 : decode cX0_fitsEaters 80 = .ok (.iload_n 3, 1) := by decide +kernel
theorem dX0_fitsEaters_81 : decode cX0_fitsEaters 81 = .ok (.iconst 4, 1) := by decide +kernel
theorem dX0_fitsEaters_82 : decode cX0_fitsEaters 82 = .ok (.if_icmp .gt 7, 3) := by decide +kernel
theorem dX0_fitsEaters_85 : decode cX0_fitsEaters 85 = .ok (.iconst 1, 1) := by decide +kernel
theorem dX0_fitsEaters_86 : decode cX0_fitsEaters 86 = .ok (.goto 4, 3) := by decide +kernel
theorem dX0_fitsEaters_89 : decode cX0_fitsEaters 89 = .ok (.iconst 0, 1) := by decide +kernel
theorem dX0_fitsEaters_90 : decode cX0_fitsEaters 90 = .ok (.ireturn, 1) := by decide +kernel
theorem dX0_fitsLoaves_0 : decode cX0_fitsLoaves 0 = .ok (.iload_n 1, 1) := by decide +kernel
theorem dX0_fitsLoaves_1 : decode cX0_fitsLoaves 1 = .ok (.iload_n 2, 1) := by decide +kernel
theorem dX0_fitsLoaves_2 : decode cX0_fitsLoaves 2 = .ok (.isub, 1) := by decide +kernel
theorem dX0_fitsLoaves_3 : decode cX0_fitsLoaves 3 = .ok (.bipush 10, 2) := by decide +kernel
theorem dX0_fitsLoaves_5 : decode cX0_fitsLoaves 5 = .ok (.if_icmp .gt 18, 3) := by decide +kernel
theorem dX0_fitsLoaves_8 : decode cX0_fitsLoaves 8 = .ok (.aload_n 0, 1) := by decide +kernel
theorem dX0_fitsLoaves_9 : decode cX0_fitsLoaves 9 = .ok (.iload_n 1, 1) := by decide +kernel
theorem dX0_fitsLoaves_10 : decode cX0_fitsLoaves 10 = .ok (.invokevirtual 19, 3) := by decide +kernel
theorem dX0_fitsLoaves_13 : decode cX0_fitsLoaves 13 = .ok (.invokestatic 38, 3) := by decide +kernel
theorem dX0_fitsLoaves_16 : decode cX0_fitsLoaves 16 = .ok (.ifCond .eq 7, 3) := by decide +kernel
theorem dX0_fitsLoaves_19 : decode cX0_fitsLoaves 19 = .ok (.iconst 1, 1) := by decide +kernel
theorem dX0_fitsLoaves_20 : decode cX0_fitsLoaves 20 = .ok (.goto 4, 3) := by decide +kernel
theorem dX0_fitsLoaves_23 : decode cX0_fitsLoaves 23 = .ok (.iconst 0, 1) := by decide +kernel
theorem dX0_fitsLoaves_24 : decode cX0_fitsLoaves 24 = .ok (.ireturn, 1) := by decide +kernel
theorem dX0_isValley_0 : decode cX0_isValley 0 = .ok (.aload_n 0, 1) := by decide +kernel
theorem dX0_isValley_1 : decode cX0_isValley 1 = .ok (.invokevirtual 23, 3) := by decide +kernel
theorem dX0_isValley_4 : decode cX0_isValley 4 = .ok (.istore_n 1, 1) := by decide +kernel
theorem dX0_isValley_5 : decode cX0_isValley 5 = .ok (.aload_n 0, 1) := by decide +kernel
theorem dX0_isValley_6 : decode cX0_isValley 6 = .ok (.getfield 15, 3) := by decide +kernel
theorem dX0_isValley_9 : decode cX0_isValley 9 = .ok (.iconst 1, 1) := by decide +kernel
theorem dX0_isValley_10 : decode cX0_isValley 10 = .ok (.isub, 1) := by decide +kernel
theorem dX0_isValley_11 : decode cX0_isValley 11 = .ok (.iload_n 1, 1) := by decide +kernel
theorem dX0_isValley_12 : decode cX0_isValley 12 = .ok (.isub, 1) := by decide +kernel
theorem dX0_isValley_13 : decode cX0_isValley 13 = .ok (.istore_n 2, 1) := by decide +kernel
theorem dX0_isValley_14 : decode cX0_isValley 14 = .ok (.iload_n 1, 1) := by decide +kernel
theorem dX0_isValley_15 : decode cX0_isValley 15 = .ok (.iconst (-1), 1) := by decide +kernel
theorem dX0_isValley_16 : decode cX0_isValley 16 = .ok (.if_icmp .eq 29, 3) := by decide +kernel
theorem dX0_isValley_19 : decode cX0_isValley 19 = .ok (.aload_n 0, 1) := by decide +kernel
theorem dX0_isValley_20 : decode cX0_isValley 20 = .ok (.invokevirtual 41, 3) := by decide +kernel
theorem dX0_isValley_23 : decode cX0_isValley 23 = .ok (.aload_n 0, 1) := by decide +kernel
theorem dX0_isValley_24 : decode cX0_isValley 24 = .ok (.getfield 15, 3) := by decide +kernel
theorem dX0_isValley_27 : decode cX0_isValley 27 = .ok (.if_icmp .ne 18, 3) := by decide +kernel
theorem dX0_isValley_30 : decode cX0_isValley 30 = .ok (.iload_n 2, 1) := by decide +kernel
theorem dX0_isValley_31 : decode cX0_isValley 31 = .ok (.iconst 2, 1) := by decide +kernel
theorem dX0_isValley_32 : decode cX0_isValley 32 = .ok (.if_icmp .lt 13, 3) := by decide +kernel
theorem dX0_isValley_35 : decode cX0_isValley 35 = .ok (.iload_n 2, 1) := by decide +kernel
theorem dX0_isValley_36 : decode cX0_isValley 36 = .ok (.iconst 2, 1) := by decide +kernel
theorem dX0_isValley_37 : decode cX0_isValley 37 = .ok (.irem, 1) := by decide +kernel
theorem dX0_isValley_38 : decode cX0_isValley 38 = .ok (.ifCond .ne 7, 3) := by decide +kernel
theorem dX0_isValley_41 : decode cX0_isValley 41 = .ok (.iconst 1, 1) := by decide +kernel
theorem dX0_isValley_42 : decode cX0_isValley 42 = .ok (.goto 4, 3) := by decide +kernel
theorem dX0_isValley_45 : decode cX0_isValley 45 = .ok (.iconst 0, 1) := by decide +kernel
theorem dX0_isValley_46 : decode cX0_isValley 46 = .ok (.ireturn, 1) := by decide +kernel
theorem dX1_init_0 : decode cX1_init 0 = .ok (.aload_n 0, 1) := by decide +kernel
theorem dX1_init_1 : decode cX1_init 1 = .ok (.invokespecial 3, 3) := by decide +kernel
theorem dX1_init_4 : decode cX1_init 4 = .ok (.aload_n 0, 1) := by decide +kernel
theorem dX1_init_5 : decode cX1_init 5 = .ok (.bipush 8, 2) := by decide +kernel
theorem dX1_init_7 : decode cX1_init 7 = .ok (.newarray .int, 2) := by decide +kernel
theorem dX1_init_9 : decode cX1_init 9 = .ok (.putfield 9, 3) := by decide +kernel
theorem dX1_init_12 : decode cX1_init 12 = .ok (.aload_n 0, 1) := by decide +kernel
theorem dX1_init_13 : decode cX1_init 13 = .ok (.bipush 8, 2) := by decide +kernel
theorem dX1_init_15 : decode cX1_init 15 = .ok (.newarray .int, 2) := by decide +kernel
theorem dX1_init_17 : decode cX1_init 17 = .ok (.putfield 15, 3) := by decide +kernel
theorem dX1_init_20 : decode cX1_init 20 = .ok (.return_, 1) := by decide +kernel
theorem dX1_start_0 : decode cX1_start 0 = .ok (.iconst 0, 1) := by decide +kernel
theorem dX1_start_1 : decode cX1_start 1 = .ok (.istore_n 1, 1) := by decide +kernel
theorem dX1_start_2 : decode cX1_start 2 = .ok (.iload_n 1, 1) := by decide +kernel
theorem dX1_start_3 : decode cX1_start 3 = .ok (.bipush 8, 2) := by decide +kernel
theorem dX1_start_5 : decode cX1_start 5 = .ok (.if_icmp .ge 16, 3) := by decide +kernel
theorem dX1_start_8 : decode cX1_start 8 = .ok (.aload_n 0, 1) := by decide +kernel
theorem dX1_start_9 : decode cX1_start 9 = .ok (.getfield 9, 3) := by decide +kernel
theorem dX1_start_12 : decode cX1_start 12 = .ok (.iload_n 1, 1) := by decide +kernel
theorem dX1_start_13 : decode cX1_start 13 = .ok (.iconst (-1), 1) := by decide +kernel
theorem dX1_start_14 : decode cX1_start 14 = .ok (.iastore, 1) := by decide +kernel
theorem dX1_start_15 : decode cX1_start 15 = .ok (.iinc 1 1, 3) := by decide +kernel
theorem dX1_start_18 : decode cX1_start 18 = .ok (.goto (-16), 3) := by decide +kernel
theorem dX1_start_21 : decode cX1_start 21 = .ok (.aload_n 0, 1) := by decide +kernel
theorem dX1_start_22 : decode cX1_start 22 = .ok (.iconst 0, 1) := by decide +kernel
theorem dX1_start_23 : decode cX1_start 23 = .ok (.putfield 18, 3) := by decide +kernel
theorem dX1_start_26 : decode cX1_start 26 = .ok (.return_, 1) := by decide +kernel
theorem dX1_keep_0 : decode cX1_keep 0 = .ok (.aload_n 0, 1) := by decide +kernel
theorem dX1_keep_1 : decode cX1_keep 1 = .ok (.iload_n 1, 1) := by decide +kernel
theorem dX1_keep_2 : decode cX1_keep 2 = .ok (.putfield 22, 3) := by decide +kernel
theorem dX1_keep_5 : decode cX1_keep 5 = .ok (.aload_n 0, 1) := by decide +kernel
theorem dX1_keep_6 : decode cX1_keep 6 = .ok (.iconst 1, 1) := by decide +kernel
theorem dX1_keep_7 : decode cX1_keep 7 = .ok (.putfield 18, 3) := by decide +kernel
theorem dX1_keep_10 : decode cX1_keep 10 = .ok (.aload_n 0, 1) := by decide +kernel
theorem dX1_keep_11 : decode cX1_keep 11 = .ok (.getfield 9, 3) := by decide +kernel
theorem dX1_keep_14 : decode cX1_keep 14 = .ok (.aload_n 0, 1) := by decide +kernel
theorem dX1_keep_15 : decode cX1_keep 15 = .ok (.getfield 15, 3) := by decide +kernel
theorem dX1_keep_18 : decode cX1_keep 18 = .ok (.invokestatic 26, 3) := by decide +kernel
theorem dX1_keep_21 : decode cX1_keep 21 = .ok (.return_, 1) := by decide +kernel
theorem dX2_init_0 : decode cX2_init 0 = .ok (.aload_n 0, 1) := by decide +kernel
theorem dX2_init_1 : decode cX2_init 1 = .ok (.invokespecial 3, 3) := by decide +kernel
theorem dX2_init_4 : decode cX2_init 4 = .ok (.aload_n 0, 1) := by decide +kernel
theorem dX2_init_5 : decode cX2_init 5 = .ok (.iconst 4, 1) := by decide +kernel
theorem dX2_init_6 : decode cX2_init 6 = .ok (.newarray .int, 2) := by decide +kernel
theorem dX2_init_8 : decode cX2_init 8 = .ok (.putfield 9, 3) := by decide +kernel
theorem dX2_init_11 : decode cX2_init 11 = .ok (.aload_n 0, 1) := by decide +kernel
theorem dX2_init_12 : decode cX2_init 12 = .ok (.iconst 4, 1) := by decide +kernel
theorem dX2_init_13 : decode cX2_init 13 = .ok (.newarray .int, 2) := by decide +kernel
theorem dX2_init_15 : decode cX2_init 15 = .ok (.putfield 15, 3) := by decide +kernel
theorem dX2_init_18 : decode cX2_init 18 = .ok (.aload_n 0, 1) := by decide +kernel
theorem dX2_init_19 : decode cX2_init 19 = .ok (.iconst 4, 1) := by decide +kernel
theorem dX2_init_20 : decode cX2_init 20 = .ok (.newarray .int, 2) := by decide +kernel
theorem dX2_init_22 : decode cX2_init 22 = .ok (.putfield 18, 3) := by decide +kernel
theorem dX2_init_25 : decode cX2_init 25 = .ok (.aload_n 0, 1) := by decide +kernel
theorem dX2_init_26 : decode cX2_init 26 = .ok (.iconst 4, 1) := by decide +kernel
theorem dX2_init_27 : decode cX2_init 27 = .ok (.newarray .int, 2) := by decide +kernel
theorem dX2_init_29 : decode cX2_init 29 = .ok (.putfield 21, 3) := by decide +kernel
theorem dX2_init_32 : decode cX2_init 32 = .ok (.aload_n 0, 1) := by decide +kernel
theorem dX2_init_33 : decode cX2_init 33 = .ok (.bipush 8, 2) := by decide +kernel
theorem dX2_init_35 : decode cX2_init 35 = .ok (.newarray .int, 2) := by decide +kernel
theorem dX2_init_37 : decode cX2_init 37 = .ok (.putfield 24, 3) := by decide +kernel
theorem dX2_init_40 : decode cX2_init 40 = .ok (.aload_n 0, 1) := by decide +kernel
theorem dX2_init_41 : decode cX2_init 41 = .ok (.bipush 8, 2) := by decide +kernel
theorem dX2_init_43 : decode cX2_init 43 = .ok (.newarray .int, 2) := by decide +kernel
theorem dX2_init_45 : decode cX2_init 45 = .ok (.putfield 27, 3) := by decide +kernel
theorem dX2_init_48 : decode cX2_init 48 = .ok (.aload_n 0, 1) := by decide +kernel
theorem dX2_init_49 : decode cX2_init 49 = .ok (.bipush 6, 2) := by decide +kernel
theorem dX2_init_51 : decode cX2_init 51 = .ok (.newarray .int, 2) := by decide +kernel
theorem dX2_init_53 : decode cX2_init 53 = .ok (.putfield 30, 3) := by decide +kernel
theorem dX2_init_56 : decode cX2_init 56 = .ok (.aload_n 0, 1) := by decide +kernel
theorem dX2_init_57 : decode cX2_init 57 = .ok (.bipush 6, 2) := by decide +kernel
theorem dX2_init_59 : decode cX2_init 59 = .ok (.newarray .int, 2) := by decide +kernel
theorem dX2_init_61 : decode cX2_init 61 = .ok (.putfield 33, 3) := by decide +kernel
theorem dX2_init_64 : decode cX2_init 64 = .ok (.return_, 1) := by decide +kernel
theorem dX2_isRead_0 : decode cX2_isRead 0 = .ok (.aload_n 0, 1) := by decide +kernel
theorem dX2_isRead_1 : decode cX2_isRead 1 = .ok (.getfield 36, 3) := by decide +kernel
theorem dX2_isRead_4 : decode cX2_isRead 4 = .ok (.ifCond .le 7, 3) := by decide +kernel
theorem dX2_isRead_7 : decode cX2_isRead 7 = .ok (.iconst 1, 1) := by decide +kernel
theorem dX2_isRead_8 : decode cX2_isRead 8 = .ok (.goto 4, 3) := by decide +kernel
theorem dX2_isRead_11 : decode cX2_isRead 11 = .ok (.iconst 0, 1) := by decide +kernel
theorem dX2_isRead_12 : decode cX2_isRead 12 = .ok (.ireturn, 1) := by decide +kernel
theorem dX2_isEater_0 : decode cX2_isEater 0 = .ok (.iload_n 1, 1) := by decide +kernel
theorem dX2_isEater_1 : decode cX2_isEater 1 = .ok (.ifCond .lt 20, 3) := by decide +kernel
theorem dX2_isEater_4 : decode cX2_isEater 4 = .ok (.iload_n 1, 1) := by decide +kernel
theorem dX2_isEater_5 : decode cX2_isEater 5 = .ok (.aload_n 0, 1) := by decide +kernel
theorem dX2_isEater_6 : decode cX2_isEater 6 = .ok (.getfield 36, 3) := by decide +kernel
theorem dX2_isEater_9 : decode cX2_isEater 9 = .ok (.if_icmp .ge 12, 3) := by decide +kernel
theorem dX2_isEater_12 : decode cX2_isEater 12 = .ok (.iload_n 1, 1) := by decide +kernel
theorem dX2_isEater_13 : decode cX2_isEater 13 = .ok (.iconst 4, 1) := by decide +kernel
theorem dX2_isEater_14 : decode cX2_isEater 14 = .ok (.if_icmp .ge 7, 3) := by decide +kernel
theorem dX2_isEater_17 : decode cX2_isEater 17 = .ok (.iconst 1, 1) := by decide +kernel
theorem dX2_isEater_18 : decode cX2_isEater 18 = .ok (.goto 4, 3) := by decide +kernel
theorem dX2_isEater_21 : decode cX2_isEater 21 = .ok (.iconst 0, 1) := by decide +kernel
theorem dX2_isEater_22 : decode cX2_isEater 22 = .ok (.ireturn, 1) := by decide +kernel
theorem dX2_isLoaf_0 : decode cX2_isLoaf 0 = .ok (.iload_n 1, 1) := by decide +kernel
theorem dX2_isLoaf_1 : decode cX2_isLoaf 1 = .ok (.ifCond .lt 21, 3) := by decide +kernel
theorem dX2_isLoaf_4 : decode cX2_isLoaf 4 = .ok (.iload_n 1, 1) := by decide +kernel
theorem dX2_isLoaf_5 : decode cX2_isLoaf 5 = .ok (.aload_n 0, 1) := by decide +kernel
theorem dX2_isLoaf_6 : decode cX2_isLoaf 6 = .ok (.getfield 40, 3) := by decide +kernel
theorem dX2_isLoaf_9 : decode cX2_isLoaf 9 = .ok (.if_icmp .ge 13, 3) := by decide +kernel
theorem dX2_isLoaf_12 : decode cX2_isLoaf 12 = .ok (.iload_n 1, 1) := by decide +kernel
theorem dX2_isLoaf_13 : decode cX2_isLoaf 13 = .ok (.bipush 8, 2) := by decide +kernel
theorem dX2_isLoaf_15 : decode cX2_isLoaf 15 = .ok (.if_icmp .ge 7, 3) := by decide +kernel
theorem dX2_isLoaf_18 : decode cX2_isLoaf 18 = .ok (.iconst 1, 1) := by decide +kernel
theorem dX2_isLoaf_19 : decode cX2_isLoaf 19 = .ok (.goto 4, 3) := by decide +kernel
theorem dX2_isLoaf_22 : decode cX2_isLoaf 22 = .ok (.iconst 0, 1) := by decide +kernel
theorem dX2_isLoaf_23 : decode cX2_isLoaf 23 = .ok (.ireturn, 1) := by decide +kernel
theorem dX2_isAlive_0 : decode cX2_isAlive 0 = .ok (.aload_n 0, 1) := by decide +kernel
theorem dX2_isAlive_1 : decode cX2_isAlive 1 = .ok (.getfield 43, 3) := by decide +kernel
theorem dX2_isAlive_4 : decode cX2_isAlive 4 = .ok (.iload_n 1, 1) := by decide +kernel
theorem dX2_isAlive_5 : decode cX2_isAlive 5 = .ok (.invokestatic 46, 3) := by decide +kernel
theorem dX2_isAlive_8 : decode cX2_isAlive 8 = .ok (.ireturn, 1) := by decide +kernel
theorem dX2_wasEaten_0 : decode cX2_wasEaten 0 = .ok (.aload_n 0, 1) := by decide +kernel
theorem dX2_wasEaten_1 : decode cX2_wasEaten 1 = .ok (.getfield 50, 3) := by decide +kernel
theorem dX2_wasEaten_4 : decode cX2_wasEaten 4 = .ok (.iload_n 1, 1) := by decide +kernel
theorem dX2_wasEaten_5 : decode cX2_wasEaten 5 = .ok (.invokestatic 46, 3) := by decide +kernel
theorem dX2_wasEaten_8 : decode cX2_wasEaten 8 = .ok (.ireturn, 1) := by decide +kernel
theorem dX2_readFrom_0 : decode cX2_readFrom 0 = .ok (.aload_n 1, 1) := by decide +kernel
theorem dX2_readFrom_1 : decode cX2_readFrom 1 = .ok (.invokevirtual 53, 3) := by decide +kernel
theorem dX2_readFrom_4 : decode cX2_readFrom 4 = .ok (.istore_n 2, 1) := by decide +kernel
theorem dX2_readFrom_5 : decode cX2_readFrom 5 = .ok (.aload_n 0, 1) := by decide +kernel
theorem dX2_readFrom_6 : decode cX2_readFrom 6 = .ok (.iload_n 2, 1) := by decide +kernel
theorem dX2_readFrom_7 : decode cX2_readFrom 7 = .ok (.iconst 1, 1) := by decide +kernel
theorem dX2_readFrom_8 : decode cX2_readFrom 8 = .ok (.iadd, 1) := by decide +kernel
theorem dX2_readFrom_9 : decode cX2_readFrom 9 = .ok (.iconst 3, 1) := by decide +kernel
theorem dX2_readFrom_10 : decode cX2_readFrom 10 = .ok (.idiv, 1) := by decide +kernel
theorem dX2_readFrom_11 : decode cX2_readFrom 11 = .ok (.iconst 4, 1) := by decide +kernel
theorem dX2_readFrom_12 : decode cX2_readFrom 12 = .ok (.invokestatic 59, 3) := by decide +kernel
theorem dX2_readFrom_15 : decode cX2_readFrom 15 = .ok (.putfield 36, 3) := by decide +kernel
theorem dX2_readFrom_18 : decode cX2_readFrom 18 = .ok (.aload_n 0, 1) := by decide +kernel
theorem dX2_readFrom_19 : decode cX2_readFrom 19 = .ok (.aload_n 1, 1) := by decide +kernel
theorem dX2_readFrom_20 : decode cX2_readFrom 20 = .ok (.getfield 65, 3) := by decide +kernel
theorem dX2_readFrom_23 : decode cX2_readFrom 23 = .ok (.iconst 1, 1) := by decide +kernel
theorem dX2_readFrom_24 : decode cX2_readFrom 24 = .ok (.isub, 1) := by decide +kernel
theorem dX2_readFrom_25 : decode cX2_readFrom 25 = .ok (.iload_n 2, 1) := by decide +kernel
theorem dX2_readFrom_26 : decode cX2_readFrom 26 = .ok (.isub, 1) := by decide +kernel
theorem dX2_readFrom_27 : decode cX2_readFrom 27 = .ok (.iconst 2, 1) := by decide +kernel
theorem dX2_readFrom_28 : decode cX2_readFrom 28 = .ok (.idiv, 1) := by decide +kernel
theorem dX2_readFrom_29 : decode cX2_readFrom 29 = .ok (.bipush 8, 2) := by decide +kernel
theorem dX2_readFrom_31 : decode cX2_readFrom 31 = .ok (.invokestatic 59, 3) := by decide +kernel
theorem dX2_readFrom_34 : decode cX2_readFrom 34 = .ok (.putfield 40, 3) := by decide +kernel
theorem dX2_readFrom_37 : decode cX2_readFrom 37 = .ok (.aload_n 0, 1) := by decide +kernel
theorem dX2_readFrom_38 : decode cX2_readFrom 38 = .ok (.iconst 1, 1) := by decide +kernel
theorem dX2_readFrom_39 : decode cX2_readFrom 39 = .ok (.aload_n 0, 1) := by decide +kernel
theorem dX2_readFrom_40 : decode cX2_readFrom 40 = .ok (.getfield 36, 3) := by decide +kernel
theorem dX2_readFrom_43 : decode cX2_readFrom 43 = .ok (.ishl, 1) := by decide +kernel
theorem dX2_readFrom_44 : decode cX2_readFrom 44 = .ok (.iconst 1, 1) := by decide +kernel
theorem dX2_readFrom_45 : decode cX2_readFrom 45 = .ok (.isub, 1) := by decide +kernel
theorem dX2_readFrom_46 : decode cX2_readFrom 46 = .ok (.putfield 43, 3) := by decide +kernel
theorem dX2_readFrom_49 : decode cX2_readFrom 49 = .ok (.aload_n 0, 1) := by decide +kernel
theorem dX2_readFrom_50 : decode cX2_readFrom 50 = .ok (.iconst 0, 1) := by decide +kernel
theorem dX2_readFrom_51 : decode cX2_readFrom 51 = .ok (.putfield 50, 3) := by decide +kernel
theorem dX2_readFrom_54 : decode cX2_readFrom 54 = .ok (.aload_n 0, 1) := by decide +kernel
theorem dX2_readFrom_55 : decode cX2_readFrom 55 = .ok (.iconst 0, 1) := by decide +kernel
theorem dX2_readFrom_56 : decode cX2_readFrom 56 = .ok (.putfield 68, 3) := by decide +kernel
theorem dX2_readFrom_59 : decode cX2_readFrom 59 = .ok (.aload_n 0, 1) := by decide +kernel
theorem dX2_readFrom_60 : decode cX2_readFrom 60 = .ok (.iconst 0, 1) := by decide +kernel
theorem dX2_readFrom_61 : decode cX2_readFrom 61 = .ok (.putfield 71, 3) := by decide +kernel
theorem dX2_readFrom_64 : decode cX2_readFrom 64 = .ok (.iconst 0, 1) := by decide +kernel
theorem dX2_readFrom_65 : decode cX2_readFrom 65 = .ok (.istore_n 3, 1) := by decide +kernel
theorem dX2_readFrom_66 : decode cX2_readFrom 66 = .ok (.iload_n 3, 1) := by decide +kernel
theorem dX2_readFrom_67 : decode cX2_readFrom 67 = .ok (.iconst 4, 1) := by decide +kernel
theorem dX2_readFrom_68 : decode cX2_readFrom 68 = .ok (.if_icmp .ge 87, 3) := by decide +kernel
theorem dX2_readFrom_71 : decode cX2_readFrom 71 = .ok (.iload_n 3, 1) := by decide +kernel
theorem dX2_readFrom_72 : decode cX2_readFrom 72 = .ok (.aload_n 0, 1) := by decide +kernel
theorem dX2_readFrom_73 : decode cX2_readFrom 73 = .ok (.getfield 36, 3) := by decide +kernel
theorem dX2_readFrom_76 : decode cX2_readFrom 76 = .ok (.if_icmp .ge 7, 3) := by decide +kernel
theorem dX2_readFrom_79 : decode cX2_readFrom 79 = .ok (.iconst 1, 1) := by decide +kernel
theorem dX2_readFrom_80 : decode cX2_readFrom 80 = .ok (.goto 4, 3) := by decide +kernel
theorem dX2_readFrom_83 : decode cX2_readFrom 83 = .ok (.iconst 0, 1) := by decide +kernel
theorem dX2_readFrom_84 : decode cX2_readFrom 84 = .ok (.istore 4, 2) := by decide +kernel
theorem dX2_readFrom_86 : decode cX2_readFrom 86 = .ok (.aload_n 0, 1) := by decide +kernel
theorem dX2_readFrom_87 : decode cX2_readFrom 87 = .ok (.getfield 9, 3) := by decide +kernel
theorem dX2_readFrom_90 : decode cX2_readFrom 90 = .ok (.iload_n 3, 1) := by decide +kernel
theorem dX2_readFrom_91 : decode cX2_readFrom 91 = .ok (.iload 4, 2) := by decide +kernel
theorem dX2_readFrom_93 : decode cX2_readFrom 93 = .ok (.ifCond .eq 16, 3) := by decide +kernel
theorem dX2_readFrom_96 : decode cX2_readFrom 96 = .ok (.aload_n 1, 1) := by decide +kernel
theorem dX2_readFrom_97 : decode cX2_readFrom 97 = .ok (.iconst 3, 1) := by decide +kernel
theorem dX2_readFrom_98 : decode cX2_readFrom 98 = .ok (.iload_n 3, 1) := by decide +kernel
theorem dX2_readFrom_99 : decode cX2_readFrom 99 = .ok (.imul, 1) := by decide +kernel
theorem dX2_readFrom_100 : decode cX2_readFrom 100 = .ok (.invokevirtual 74, 3) := by decide +kernel
theorem dX2_readFrom_103 : decode cX2_readFrom 103 = .ok (.invokestatic 78, 3) := by decide +kernel
theorem dX2_readFrom_106 : decode cX2_readFrom 106 = .ok (.goto 4, 3) := by decide +kernel
theorem dX2_readFrom_109 : decode cX2_readFrom 109 = .ok (.iconst 0, 1) := by decide +kernel
theorem dX2_readFrom_110 : decode cX2_readFrom 110 = .ok (.iastore, 1) := by decide +kernel
theorem dX2_readFrom_111 : decode cX2_readFrom 111 = .ok (.aload_n 0, 1) := by decide +kernel
theorem dX2_readFrom_112 : decode cX2_readFrom 112 = .ok (.getfield 15, 3) := by decide +kernel
theorem dX2_readFrom_115 : decode cX2_readFrom 115 = .ok (.iload_n 3, 1) := by decide +kernel
theorem dX2_readFrom_116 : decode cX2_readFrom 116 = .ok (.iload 4, 2) := by decide +kernel
theorem dX2_readFrom_118 : decode cX2_readFrom 118 = .ok (.ifCond .eq 15, 3) := by decide +kernel
theorem dX2_readFrom_121 : decode cX2_readFrom 121 = .ok (.aload_n 1, 1) := by decide +kernel
theorem dX2_readFrom_122 : decode cX2_readFrom 122 = .ok (.iconst 3, 1) := by decide +kernel
theorem dX2_readFrom_123 : decode cX2_readFrom 123 = .ok (.iload_n 3, 1) := by decide +kernel
theorem dX2_readFrom_124 : decode cX2_readFrom 124 = .ok (.imul, 1) := by decide +kernel
theorem dX2_readFrom_125 : decode cX2_readFrom 125 = .ok (.iconst 1, 1) := by decide +kernel
theorem dX2_readFrom_126 : decode cX2_readFrom 126 = .ok (.iadd, 1) := by decide +kernel
theorem dX2_readFrom_127 : decode cX2_readFrom 127 = .ok (.invokevirtual 81, 3) := by decide +kernel
theorem dX2_readFrom_130 : decode cX2_readFrom 130 = .ok (.goto 4, 3) := by decide +kernel
theorem dX2_readFrom_133 : decode cX2_readFrom 133 = .ok (.iconst 0, 1) := by decide +kernel
theorem dX2_readFrom_134 : decode cX2_readFrom 134 = .ok (.iastore, 1) := by decide +kernel
theorem dX2_readFrom_135 : decode cX2_readFrom 135 = .ok (.aload_n 0, 1) := by decide +kernel
theorem dX2_readFrom_136 : decode cX2_readFrom 136 = .ok (.getfield 18, 3) := by decide +kernel
theorem dX2_readFrom_139 : decode cX2_readFrom 139 = .ok (.iload_n 3, 1) := by decide +kernel
theorem dX2_readFrom_140 : decode cX2_readFrom 140 = .ok (.iconst 0, 1) := by decide +kernel
theorem dX2_readFrom_141 : decode cX2_readFrom 141 = .ok (.iastore, 1) := by decide +kernel
theorem dX2_readFrom_142 : decode cX2_readFrom 142 = .ok (.aload_n 0, 1) := by decide +kernel
theorem dX2_readFrom_143 : decode cX2_readFrom 143 = .ok (.getfield 21, 3) := by decide +kernel
theorem dX2_readFrom_146 : decode cX2_readFrom 146 = .ok (.iload_n 3, 1) := by decide +kernel
theorem dX2_readFrom_147 : decode cX2_readFrom 147 = .ok (.iconst 0, 1) := by decide +kernel
theorem dX2_readFrom_148 : decode cX2_readFrom 148 = .ok (.iastore, 1) := by decide +kernel
theorem dX2_readFrom_149 : decode cX2_readFrom 149 = .ok (.iinc 3 1, 3) := by decide +kernel
theorem dX2_readFrom_152 : decode cX2_readFrom 152 = .ok (.goto (-86), 3) := by decide +kernel
theorem dX2_readFrom_155 : decode cX2_readFrom 155 = .ok (.iconst 0, 1) := by decide +kernel
theorem dX2_readFrom_156 : decode cX2_readFrom 156 = .ok (.istore_n 3, 1) := by decide +kernel
theorem dX2_readFrom_157 : decode cX2_readFrom 157 = .ok (.iload_n 3, 1) := by decide +kernel
theorem dX2_readFrom_158 : decode cX2_readFrom 158 = .ok (.bipush 8, 2) := by decide +kernel
theorem dX2_readFrom_160 : decode cX2_readFrom 160 = .ok (.if_icmp .ge 76, 3) := by decide +kernel
theorem dX2_readFrom_163 : decode cX2_readFrom 163 = .ok (.iload_n 3, 1) := by decide +kernel
theorem dX2_readFrom_164 : decode cX2_readFrom 164 = .ok (.aload_n 0, 1) := by decide +kernel
theorem dX2_readFrom_165 : decode cX2_readFrom 165 = .ok (.getfield 40, 3) := by decide +kernel
theorem dX2_readFrom_168 : decode cX2_readFrom 168 = .ok (.if_icmp .ge 7, 3) := by decide +kernel
theorem dX2_readFrom_171 : decode cX2_readFrom 171 = .ok (.iconst 1, 1) := by decide +kernel
theorem dX2_readFrom_172 : decode cX2_readFrom 172 = .ok (.goto 4, 3) := by decide +kernel
theorem dX2_readFrom_175 : decode cX2_readFrom 175 = .ok (.iconst 0, 1) := by decide +kernel
theorem dX2_readFrom_176 : decode cX2_readFrom 176 = .ok (.istore 4, 2) := by decide +kernel
theorem dX2_readFrom_178 : decode cX2_readFrom 178 = .ok (.aload_n 0, 1) := by decide +kernel
theorem dX2_readFrom_179 : decode cX2_readFrom 179 = .ok (.getfield 24, 3) := by decide +kernel
theorem dX2_readFrom_182 : decode cX2_readFrom 182 = .ok (.iload_n 3, 1) := by decide +kernel
theorem dX2_readFrom_183 : decode cX2_readFrom 183 = .ok (.iload 4, 2) := by decide +kernel
theorem dX2_readFrom_185 : decode cX2_readFrom 185 = .ok (.ifCond .eq 17, 3) := by decide +kernel
theorem dX2_readFrom_188 : decode cX2_readFrom 188 = .ok (.aload_n 1, 1) := by decide +kernel
theorem dX2_readFrom_189 : decode cX2_readFrom 189 = .ok (.iload_n 2, 1) := by decide +kernel
theorem dX2_readFrom_190 : decode cX2_readFrom 190 = .ok (.iconst 1, 1) := by decide +kernel
theorem dX2_readFrom_191 : decode cX2_readFrom 191 = .ok (.iadd, 1) := by decide +kernel
theorem dX2_readFrom_192 : decode cX2_readFrom 192 = .ok (.iconst 2, 1) := by decide +kernel
theorem dX2_readFrom_193 : decode cX2_readFrom 193 = .ok (.iload_n 3, 1) := by decide +kernel
theorem dX2_readFrom_194 : decode cX2_readFrom 194 = .ok (.imul, 1) := by decide +kernel
theorem dX2_readFrom_195 : decode cX2_readFrom 195 = .ok (.iadd, 1) := by decide +kernel
theorem dX2_readFrom_196 : decode cX2_readFrom 196 = .ok (.invokevirtual 81, 3) := by decide +kernel
theorem dX2_readFrom_199 : decode cX2_readFrom 199 = .ok (.goto 4, 3) := by decide +kernel
theorem dX2_readFrom_202 : decode cX2_readFrom 202 = .ok (.iconst 0, 1) := by decide +kernel
theorem dX2_readFrom_203 : decode cX2_readFrom 203 = .ok (.iastore, 1) := by decide +kernel
theorem dX2_readFrom_204 : decode cX2_readFrom 204 = .ok (.aload_n 0, 1) := by decide +kernel
theorem dX2_readFrom_205 : decode cX2_readFrom 205 = .ok (.getfield 27, 3) := by decide +kernel
theorem dX2_readFrom_208 : decode cX2_readFrom 208 = .ok (.iload_n 3, 1) := by decide +kernel
theorem dX2_readFrom_209 : decode cX2_readFrom 209 = .ok (.iload 4, 2) := by decide +kernel
theorem dX2_readFrom_211 : decode cX2_readFrom 211 = .ok (.ifCond .eq 17, 3) := by decide +kernel
theorem dX2_readFrom_214 : decode cX2_readFrom 214 = .ok (.aload_n 1, 1) := by decide +kernel
theorem dX2_readFrom_215 : decode cX2_readFrom 215 = .ok (.iload_n 2, 1) := by decide +kernel
theorem dX2_readFrom_216 : decode cX2_readFrom 216 = .ok (.iconst 2, 1) := by decide +kernel
theorem dX2_readFrom_217 : decode cX2_readFrom 217 = .ok (.iadd, 1) := by decide +kernel
theorem dX2_readFrom_218 : decode cX2_readFrom 218 = .ok (.iconst 2, 1) := by decide +kernel
theorem dX2_readFrom_219 : decode cX2_readFrom 219 = .ok (.iload_n 3, 1) := by decide +kernel
theorem dX2_readFrom_220 : decode cX2_readFrom 220 = .ok (.imul, 1) := by decide +kernel
theorem dX2_readFrom_221 : decode cX2_readFrom 221 = .ok (.iadd, 1) := by decide +kernel
theorem dX2_readFrom_222 : decode cX2_readFrom 222 = .ok (.invokevirtual 81, 3) := by decide +kernel
theorem dX2_readFrom_225 : decode cX2_readFrom 225 = .ok (.goto 4, 3) := by decide +kernel
theorem dX2_readFrom_228 : decode cX2_readFrom 228 = .ok (.iconst 0, 1) := by decide +kernel
theorem dX2_readFrom_229 : decode cX2_readFrom 229 = .ok (.iastore, 1) := by decide +kernel
theorem dX2_readFrom_230 : decode cX2_readFrom 230 = .ok (.iinc 3 1, 3) := by decide +kernel
theorem dX2_readFrom_233 : decode cX2_readFrom 233 = .ok (.goto (-76), 3) := by decide +kernel
theorem dX2_readFrom_236 : decode cX2_readFrom 236 = .ok (.return_, 1) := by decide +kernel
theorem dX2_copyFrom_0 : decode cX2_copyFrom 0 = .ok (.aload_n 0, 1) := by decide +kernel
theorem dX2_copyFrom_1 : decode cX2_copyFrom 1 = .ok (.aload_n 1, 1) := by decide +kernel
theorem dX2_copyFrom_2 : decode cX2_copyFrom 2 = .ok (.getfield 36, 3) := by decide +kernel
theorem dX2_copyFrom_5 : decode cX2_copyFrom 5 = .ok (.putfield 36, 3) := by decide +kernel
theorem dX2_copyFrom_8 : decode cX2_copyFrom 8 = .ok (.aload_n 0, 1) := by decide +kernel
theorem dX2_copyFrom_9 : decode cX2_copyFrom 9 = .ok (.aload_n 1, 1) := by decide +kernel
theorem dX2_copyFrom_10 : decode cX2_copyFrom 10 = .ok (.getfield 43, 3) := by decide +kernel
theorem dX2_copyFrom_13 : decode cX2_copyFrom 13 = .ok (.putfield 43, 3) := by decide +kernel
theorem dX2_copyFrom_16 : decode cX2_copyFrom 16 = .ok (.aload_n 0, 1) := by decide +kernel
theorem dX2_copyFrom_17 : decode cX2_copyFrom 17 = .ok (.aload_n 1, 1) := by decide +kernel
theorem dX2_copyFrom_18 : decode cX2_copyFrom 18 = .ok (.getfield 40, 3) := by decide +kernel
theorem dX2_copyFrom_21 : decode cX2_copyFrom 21 = .ok (.putfield 40, 3) := by decide +kernel
theorem dX2_copyFrom_24 : decode cX2_copyFrom 24 = .ok (.aload_n 0, 1) := by decide +kernel
theorem dX2_copyFrom_25 : decode cX2_copyFrom 25 = .ok (.aload_n 1, 1) := by decide +kernel
theorem dX2_copyFrom_26 : decode cX2_copyFrom 26 = .ok (.getfield 50, 3) := by decide +kernel
theorem dX2_copyFrom_29 : decode cX2_copyFrom 29 = .ok (.putfield 50, 3) := by decide +kernel
theorem dX2_copyFrom_32 : decode cX2_copyFrom 32 = .ok (.aload_n 0, 1) := by decide +kernel
theorem dX2_copyFrom_33 : decode cX2_copyFrom 33 = .ok (.aload_n 1, 1) := by decide +kernel
theorem dX2_copyFrom_34 : decode cX2_copyFrom 34 = .ok (.getfield 68, 3) := by decide +kernel
theorem dX2_copyFrom_37 : decode cX2_copyFrom 37 = .ok (.putfield 68, 3) := by decide +kernel
theorem dX2_copyFrom_40 : decode cX2_copyFrom 40 = .ok (.aload_n 0, 1) := by decide +kernel
theorem dX2_copyFrom_41 : decode cX2_copyFrom 41 = .ok (.aload_n 1, 1) := by decide +kernel
theorem dX2_copyFrom_42 : decode cX2_copyFrom 42 = .ok (.getfield 71, 3) := by decide +kernel
theorem dX2_copyFrom_45 : decode cX2_copyFrom 45 = .ok (.putfield 71, 3) := by decide +kernel
theorem dX2_copyFrom_48 : decode cX2_copyFrom 48 = .ok (.aload_n 1, 1) := by decide +kernel
theorem dX2_copyFrom_49 : decode cX2_copyFrom 49 = .ok (.getfield 9, 3) := by decide +kernel
theorem dX2_copyFrom_52 : decode cX2_copyFrom 52 = .ok (.aload_n 0, 1) := by decide +kernel
theorem dX2_copyFrom_53 : decode cX2_copyFrom 53 = .ok (.getfield 9, 3) := by decide +kernel
theorem dX2_copyFrom_56 : decode cX2_copyFrom 56 = .ok (.invokestatic 84, 3) := by decide +kernel
theorem dX2_copyFrom_59 : decode cX2_copyFrom 59 = .ok (.aload_n 1, 1) := by decide +kernel
theorem dX2_copyFrom_60 : decode cX2_copyFrom 60 = .ok (.getfield 15, 3) := by decide +kernel
theorem dX2_copyFrom_63 : decode cX2_copyFrom 63 = .ok (.aload_n 0, 1) := by decide +kernel
theorem dX2_copyFrom_64 : decode cX2_copyFrom 64 = .ok (.getfield 15, 3) := by decide +kernel
theorem dX2_copyFrom_67 : decode cX2_copyFrom 67 = .ok (.invokestatic 84, 3) := by decide +kernel
theorem dX2_copyFrom_70 : decode cX2_copyFrom 70 = .ok (.aload_n 1, 1) := by decide +kernel
theorem dX2_copyFrom_71 : decode cX2_copyFrom 71 = .ok (.getfield 18, 3) := by decide +kernel
theorem dX2_copyFrom_74 : decode cX2_copyFrom 74 = .ok (.aload_n 0, 1) := by decide +kernel
theorem dX2_copyFrom_75 : decode cX2_copyFrom 75 = .ok (.getfield 18, 3) := by decide +kernel
theorem dX2_copyFrom_78 : decode cX2_copyFrom 78 = .ok (.invokestatic 84, 3) := by decide +kernel
theorem dX2_copyFrom_81 : decode cX2_copyFrom 81 = .ok (.aload_n 1, 1) := by decide +kernel
theorem dX2_copyFrom_82 : decode cX2_copyFrom 82 = .ok (.getfield 21, 3) := by decide +kernel
theorem dX2_copyFrom_85 : decode cX2_copyFrom 85 = .ok (.aload_n 0, 1) := by decide +kernel
theorem dX2_copyFrom_86 : decode cX2_copyFrom 86 = .ok (.getfield 21, 3) := by decide +kernel
theorem dX2_copyFrom_89 : decode cX2_copyFrom 89 = .ok (.invokestatic 84, 3) := by decide +kernel
theorem dX2_copyFrom_92 : decode cX2_copyFrom 92 = .ok (.aload_n 1, 1) := by decide +kernel
theorem dX2_copyFrom_93 : decode cX2_copyFrom 93 = .ok (.getfield 24, 3) := by decide +kernel
theorem dX2_copyFrom_96 : decode cX2_copyFrom 96 = .ok (.aload_n 0, 1) := by decide +kernel
theorem dX2_copyFrom_97 : decode cX2_copyFrom 97 = .ok (.getfield 24, 3) := by decide +kernel
theorem dX2_copyFrom_100 : decode cX2_copyFrom 100 = .ok (.invokestatic 84, 3) := by decide +kernel
theorem dX2_copyFrom_103 : decode cX2_copyFrom 103 = .ok (.aload_n 1, 1) := by decide +kernel
theorem dX2_copyFrom_104 : decode cX2_copyFrom 104 = .ok (.getfield 27, 3) := by decide +kernel
theorem dX2_copyFrom_107 : decode cX2_copyFrom 107 = .ok (.aload_n 0, 1) := by decide +kernel
theorem dX2_copyFrom_108 : decode cX2_copyFrom 108 = .ok (.getfield 27, 3) := by decide +kernel
theorem dX2_copyFrom_111 : decode cX2_copyFrom 111 = .ok (.invokestatic 84, 3) := by decide +kernel
theorem dX2_copyFrom_114 : decode cX2_copyFrom 114 = .ok (.aload_n 1, 1) := by decide +kernel
theorem dX2_copyFrom_115 : decode cX2_copyFrom 115 = .ok (.getfield 30, 3) := by decide +kernel
theorem dX2_copyFrom_118 : decode cX2_copyFrom 118 = .ok (.aload_n 0, 1) := by decide +kernel
theorem dX2_copyFrom_119 : decode cX2_copyFrom 119 = .ok (.getfield 30, 3) := by decide +kernel
theorem dX2_copyFrom_122 : decode cX2_copyFrom 122 = .ok (.invokestatic 84, 3) := by decide +kernel
theorem dX2_copyFrom_125 : decode cX2_copyFrom 125 = .ok (.aload_n 1, 1) := by decide +kernel
theorem dX2_copyFrom_126 : decode cX2_copyFrom 126 = .ok (.getfield 33, 3) := by decide +kernel
theorem dX2_copyFrom_129 : decode cX2_copyFrom 129 = .ok (.aload_n 0, 1) := by decide +kernel
theorem dX2_copyFrom_130 : decode cX2_copyFrom 130 = .ok (.getfield 33, 3) := by decide +kernel
theorem dX2_copyFrom_133 : decode cX2_copyFrom 133 = .ok (.invokestatic 84, 3) := by decide +kernel
theorem dX2_copyFrom_136 : decode cX2_copyFrom 136 = .ok (.aload_n 0, 1) := by decide +kernel
theorem dX2_copyFrom_137 : decode cX2_copyFrom 137 = .ok (.aload_n 1, 1) := by decide +kernel
theorem dX2_copyFrom_138 : decode cX2_copyFrom 138 = .ok (.getfield 88, 3) := by decide +kernel
theorem dX2_copyFrom_141 : decode cX2_copyFrom 141 = .ok (.putfield 88, 3) := by decide +kernel
theorem dX2_copyFrom_144 : decode cX2_copyFrom 144 = .ok (.return_, 1) := by decide +kernel
theorem dX2_wouldTake_0 : decode cX2_wouldTake 0 = .ok (.aload_n 0, 1) := by decide +kernel
theorem dX2_wouldTake_1 : decode cX2_wouldTake 1 = .ok (.iload_n 1, 1) := by decide +kernel
theorem dX2_wouldTake_2 : decode cX2_wouldTake 2 = .ok (.invokevirtual 91, 3) := by decide +kernel
theorem dX2_wouldTake_5 : decode cX2_wouldTake 5 = .ok (.ifCond .eq 55, 3) := by decide +kernel
theorem dX2_wouldTake_8 : decode cX2_wouldTake 8 = .ok (.aload_n 0, 1) := by decide +kernel
theorem dX2_wouldTake_9 : decode cX2_wouldTake 9 = .ok (.iload_n 2, 1) := by decide +kernel
theorem dX2_wouldTake_10 : decode cX2_wouldTake 10 = .ok (.invokevirtual 95, 3) := by decide +kernel
theorem dX2_wouldTake_13 : decode cX2_wouldTake 13 = .ok (.ifCond .eq 47, 3) := by decide +kernel
theorem dX2_wouldTake_16 : decode cX2_wouldTake 16 = .ok (.aload_n 0, 1) := by decide +kernel
theorem dX2_wouldTake_17 : decode cX2_wouldTake 17 = .ok (.iload_n 1, 1) := by decide +kernel
theorem dX2_wouldTake_18 : decode cX2_wouldTake 18 = .ok (.invokevirtual 98, 3) := by decide +kernel
theorem dX2_wouldTake_21 : decode cX2_wouldTake 21 = .ok (.ifCond .eq 39, 3) := by decide +kernel
theorem dX2_wouldTake_24 : decode cX2_wouldTake 24 = .ok (.aload_n 0, 1) := by decide +kernel
theorem dX2_wouldTake_25 : decode cX2_wouldTake 25 = .ok (.iload_n 2, 1) := by decide +kernel
theorem dX2_wouldTake_26 : decode cX2_wouldTake 26 = .ok (.invokevirtual 101, 3) := by decide +kernel
theorem dX2_wouldTake_29 : decode cX2_wouldTake 29 = .ok (.ifCond .ne 31, 3) := by decide +kernel
theorem dX2_wouldTake_32 : decode cX2_wouldTake 32 = .ok (.aload_n 0, 1) := by decide +kernel
theorem dX2_wouldTake_33 : decode cX2_wouldTake 33 = .ok (.getfield 9, 3) := by decide +kernel
theorem dX2_wouldTake_36 : decode cX2_wouldTake 36 = .ok (.iload_n 1, 1) := by decide +kernel
theorem dX2_wouldTake_37 : decode cX2_wouldTake 37 = .ok (.iaload, 1) := by decide +kernel
theorem dX2_wouldTake_38 : decode cX2_wouldTake 38 = .ok (.aload_n 0, 1) := by decide +kernel
theorem dX2_wouldTake_39 : decode cX2_wouldTake 39 = .ok (.getfield 15, 3) := by decide +kernel
theorem dX2_wouldTake_42 : decode cX2_wouldTake 42 = .ok (.iload_n 1, 1) := by decide +kernel
theorem dX2_wouldTake_43 : decode cX2_wouldTake 43 = .ok (.iaload, 1) := by decide +kernel
theorem dX2_wouldTake_44 : decode cX2_wouldTake 44 = .ok (.aload_n 0, 1) := by decide +kernel
theorem dX2_wouldTake_45 : decode cX2_wouldTake 45 = .ok (.getfield 24, 3) := by decide +kernel
theorem dX2_wouldTake_48 : decode cX2_wouldTake 48 = .ok (.iload_n 2, 1) := by decide +kernel
theorem dX2_wouldTake_49 : decode cX2_wouldTake 49 = .ok (.iaload, 1) := by decide +kernel
theorem dX2_wouldTake_50 : decode cX2_wouldTake 50 = .ok (.invokestatic 104, 3) := by decide +kernel
theorem dX2_wouldTake_53 : decode cX2_wouldTake 53 = .ok (.ifCond .eq 7, 3) := by decide +kernel
theorem dX2_wouldTake_56 : decode cX2_wouldTake 56 = .ok (.iconst 1, 1) := by decide +kernel
theorem dX2_wouldTake_57 : decode cX2_wouldTake 57 = .ok (.goto 4, 3) := by decide +kernel
theorem dX2_wouldTake_60 : decode cX2_wouldTake 60 = .ok (.iconst 0, 1) := by decide +kernel
theorem dX2_wouldTake_61 : decode cX2_wouldTake 61 = .ok (.ireturn, 1) := by decide +kernel
theorem dX2_takeWhole_0 : decode cX2_takeWhole 0 = .ok (.aload_n 0, 1) := by decide +kernel
theorem dX2_takeWhole_1 : decode cX2_takeWhole 1 = .ok (.iload_n 1, 1) := by decide +kernel
theorem dX2_takeWhole_2 : decode cX2_takeWhole 2 = .ok (.invokevirtual 91, 3) := by decide +kernel
theorem dX2_takeWhole_5 : decode cX2_takeWhole 5 = .ok (.ifCond .eq 11, 3) := by decide +kernel
theorem dX2_takeWhole_8 : decode cX2_takeWhole 8 = .ok (.aload_n 0, 1) := by decide +kernel
theorem dX2_takeWhole_9 : decode cX2_takeWhole 9 = .ok (.iload_n 2, 1) := by decide +kernel
theorem dX2_takeWhole_10 : decode cX2_takeWhole 10 = .ok (.invokevirtual 95, 3) := by decide +kernel
theorem dX2_takeWhole_13 : decode cX2_takeWhole 13 = .ok (.ifCond .ne 4, 3) := by decide +kernel
theorem dX2_takeWhole_16 : decode cX2_takeWhole 16 = .ok (.return_, 1) := by decide +kernel
theorem dX2_takeWhole_17 : decode cX2_takeWhole 17 = .ok (.aload_n 0, 1) := by decide +kernel
theorem dX2_takeWhole_18 : decode cX2_takeWhole 18 = .ok (.iload_n 1, 1) := by decide +kernel
theorem dX2_takeWhole_19 : decode cX2_takeWhole 19 = .ok (.aload_n 0, 1) := by decide +kernel
theorem dX2_takeWhole_20 : decode cX2_takeWhole 20 = .ok (.getfield 24, 3) := by decide +kernel
theorem dX2_takeWhole_23 : decode cX2_takeWhole 23 = .ok (.iload_n 2, 1) := by decide +kernel
theorem dX2_takeWhole_24 : decode cX2_takeWhole 24 = .ok (.iaload, 1) := by decide +kernel
theorem dX2_takeWhole_25 : decode cX2_takeWhole 25 = .ok (.aload_n 0, 1) := by decide +kernel
theorem dX2_takeWhole_26 : decode cX2_takeWhole 26 = .ok (.getfield 24, 3) := by decide +kernel
theorem dX2_takeWhole_29 : decode cX2_takeWhole 29 = .ok (.iload_n 2, 1) := by decide +kernel
theorem dX2_takeWhole_30 : decode cX2_takeWhole 30 = .ok (.iaload, 1) := by decide +kernel
theorem dX2_takeWhole_31 : decode cX2_takeWhole 31 = .ok (.aload_n 0, 1) := by decide +kernel
theorem dX2_takeWhole_32 : decode cX2_takeWhole 32 = .ok (.getfield 27, 3) := by decide +kernel
theorem dX2_takeWhole_35 : decode cX2_takeWhole 35 = .ok (.iload_n 2, 1) := by decide +kernel
theorem dX2_takeWhole_36 : decode cX2_takeWhole 36 = .ok (.iaload, 1) := by decide +kernel
theorem dX2_takeWhole_37 : decode cX2_takeWhole 37 = .ok (.iadd, 1) := by decide +kernel
theorem dX2_takeWhole_38 : decode cX2_takeWhole 38 = .ok (.invokevirtual 108, 3) := by decide +kernel
theorem dX2_takeWhole_41 : decode cX2_takeWhole 41 = .ok (.aload_n 0, 1) := by decide +kernel
theorem dX2_takeWhole_42 : decode cX2_takeWhole 42 = .ok (.getfield 15, 3) := by decide +kernel
theorem dX2_takeWhole_45 : decode cX2_takeWhole 45 = .ok (.iload_n 1, 1) := by decide +kernel
theorem dX2_takeWhole_46 : decode cX2_takeWhole 46 = .ok (.aload_n 0, 1) := by decide +kernel
theorem dX2_takeWhole_47 : decode cX2_takeWhole 47 = .ok (.getfield 15, 3) := by decide +kernel
theorem dX2_takeWhole_50 : decode cX2_takeWhole 50 = .ok (.iload_n 1, 1) := by decide +kernel
theorem dX2_takeWhole_51 : decode cX2_takeWhole 51 = .ok (.iaload, 1) := by decide +kernel
theorem dX2_takeWhole_52 : decode cX2_takeWhole 52 = .ok (.iconst 2, 1) := by decide +kernel
theorem dX2_takeWhole_53 : decode cX2_takeWhole 53 = .ok (.invokestatic 112, 3) := by decide +kernel
theorem dX2_takeWhole_56 : decode cX2_takeWhole 56 = .ok (.iastore, 1) := by decide +kernel
theorem dX2_takeWhole_57 : decode cX2_takeWhole 57 = .ok (.aload_n 0, 1) := by decide +kernel
theorem dX2_takeWhole_58 : decode cX2_takeWhole 58 = .ok (.dup, 1) := by decide +kernel
theorem dX2_takeWhole_59 : decode cX2_takeWhole 59 = .ok (.getfield 50, 3) := by decide +kernel
theorem dX2_takeWhole_62 : decode cX2_takeWhole 62 = .ok (.iconst 1, 1) := by decide +kernel
theorem dX2_takeWhole_63 : decode cX2_takeWhole 63 = .ok (.iload_n 2, 1) := by decide +kernel
theorem dX2_takeWhole_64 : decode cX2_takeWhole 64 = .ok (.ishl, 1) := by decide +kernel
theorem dX2_takeWhole_65 : decode cX2_takeWhole 65 = .ok (.ior, 1) := by decide +kernel
theorem dX2_takeWhole_66 : decode cX2_takeWhole 66 = .ok (.putfield 50, 3) := by decide +kernel
theorem dX2_takeWhole_69 : decode cX2_takeWhole 69 = .ok (.return_, 1) := by decide +kernel
theorem dX2_takeHalves_0 : decode cX2_takeHalves 0 = .ok (.aload_n 0, 1) := by decide +kernel
theorem dX2_takeHalves_1 : decode cX2_takeHalves 1 = .ok (.iload_n 1, 1) := by decide +kernel
theorem dX2_takeHalves_2 : decode cX2_takeHalves 2 = .ok (.invokevirtual 91, 3) := by decide +kernel
theorem dX2_takeHalves_5 : decode cX2_takeHalves 5 = .ok (.ifCond .eq 19, 3) := by decide +kernel
theorem dX2_takeHalves_8 : decode cX2_takeHalves 8 = .ok (.aload_n 0, 1) := by decide +kernel
theorem dX2_takeHalves_9 : decode cX2_takeHalves 9 = .ok (.iload_n 2, 1) := by decide +kernel
theorem dX2_takeHalves_10 : decode cX2_takeHalves 10 = .ok (.invokevirtual 91, 3) := by decide +kernel
theorem dX2_takeHalves_13 : decode cX2_takeHalves 13 = .ok (.ifCond .eq 11, 3) := by decide +kernel
theorem dX2_takeHalves_16 : decode cX2_takeHalves 16 = .ok (.aload_n 0, 1) := by decide +kernel
theorem dX2_takeHalves_17 : decode cX2_takeHalves 17 = .ok (.iload_n 3, 1) := by decide +kernel
theorem dX2_takeHalves_18 : decode cX2_takeHalves 18 = .ok (.invokevirtual 95, 3) := by decide +kernel
theorem dX2_takeHalves_21 : decode cX2_takeHalves 21 = .ok (.ifCond .ne 4, 3) := by decide +kernel
theorem dX2_takeHalves_24 : decode cX2_takeHalves 24 = .ok (.return_, 1) := by decide +kernel
theorem dX2_takeHalves_25 : decode cX2_takeHalves 25 = .ok (.aload_n 0, 1) := by decide +kernel
theorem dX2_takeHalves_26 : decode cX2_takeHalves 26 = .ok (.getfield 24, 3) := by decide +kernel
theorem dX2_takeHalves_29 : decode cX2_takeHalves 29 = .ok (.iload_n 3, 1) := by decide +kernel
theorem dX2_takeHalves_30 : decode cX2_takeHalves 30 = .ok (.iaload, 1) := by decide +kernel
theorem dX2_takeHalves_31 : decode cX2_takeHalves 31 = .ok (.aload_n 0, 1) := by decide +kernel
theorem dX2_takeHalves_32 : decode cX2_takeHalves 32 = .ok (.getfield 27, 3) := by decide +kernel
theorem dX2_takeHalves_35 : decode cX2_takeHalves 35 = .ok (.iload_n 3, 1) := by decide +kernel
theorem dX2_takeHalves_36 : decode cX2_takeHalves 36 = .ok (.iaload, 1) := by decide +kernel
theorem dX2_takeHalves_37 : decode cX2_takeHalves 37 = .ok (.iadd, 1) := by decide +kernel
theorem dX2_takeHalves_38 : decode cX2_takeHalves 38 = .ok (.istore 4, 2) := by decide +kernel
theorem dX2_takeHalves_40 : decode cX2_takeHalves 40 = .ok (.aload_n 0, 1) := by decide +kernel
theorem dX2_takeHalves_41 : decode cX2_takeHalves 41 = .ok (.getfield 24, 3) := by decide +kernel
theorem dX2_takeHalves_44 : decode cX2_takeHalves 44 = .ok (.iload_n 3, 1) := by decide +kernel
theorem dX2_takeHalves_45 : decode cX2_takeHalves 45 = .ok (.iaload, 1) := by decide +kernel
theorem dX2_takeHalves_46 : decode cX2_takeHalves 46 = .ok (.invokestatic 115, 3) := by decide +kernel
theorem dX2_takeHalves_49 : decode cX2_takeHalves 49 = .ok (.istore 5, 2) := by decide +kernel
theorem dX2_takeHalves_51 : decode cX2_takeHalves 51 = .ok (.iload 4, 2) := by decide +kernel
theorem dX2_takeHalves_53 : decode cX2_takeHalves 53 = .ok (.invokestatic 115, 3) := by decide +kernel
theorem dX2_takeHalves_56 : decode cX2_takeHalves 56 = .ok (.istore 6, 2) := by decide +kernel
theorem dX2_takeHalves_58 : decode cX2_takeHalves 58 = .ok (.aload_n 0, 1) := by decide +kernel
theorem dX2_takeHalves_59 : decode cX2_takeHalves 59 = .ok (.iload_n 1, 1) := by decide +kernel
theorem dX2_takeHalves_60 : decode cX2_takeHalves 60 = .ok (.iload 5, 2) := by decide +kernel
theorem dX2_takeHalves_62 : decode cX2_takeHalves 62 = .ok (.iload 6, 2) := by decide +kernel
theorem dX2_takeHalves_64 : decode cX2_takeHalves 64 = .ok (.invokevirtual 108, 3) := by decide +kernel
theorem dX2_takeHalves_67 : decode cX2_takeHalves 67 = .ok (.aload_n 0, 1) := by decide +kernel
theorem dX2_takeHalves_68 : decode cX2_takeHalves 68 = .ok (.iload_n 2, 1) := by decide +kernel
theorem dX2_takeHalves_69 : decode cX2_takeHalves 69 = .ok (.aload_n 0, 1) := by decide +kernel
theorem dX2_takeHalves_70 : decode cX2_takeHalves 70 = .ok (.getfield 24, 3) := by decide +kernel
theorem dX2_takeHalves_73 : decode cX2_takeHalves 73 = .ok (.iload_n 3, 1) := by decide +kernel
theorem dX2_takeHalves_74 : decode cX2_takeHalves 74 = .ok (.iaload, 1) := by decide +kernel
theorem dX2_takeHalves_75 : decode cX2_takeHalves 75 = .ok (.iload 5, 2) := by decide +kernel
theorem dX2_takeHalves_77 : decode cX2_takeHalves 77 = .ok (.isub, 1) := by decide +kernel
theorem dX2_takeHalves_78 : decode cX2_takeHalves 78 = .ok (.iload 4, 2) := by decide +kernel
theorem dX2_takeHalves_80 : decode cX2_takeHalves 80 = .ok (.iload 6, 2) := by decide +kernel
theorem dX2_takeHalves_82 : decode cX2_takeHalves 82 = .ok (.isub, 1) := by decide +kernel
theorem dX2_takeHalves_83 : decode cX2_takeHalves 83 = .ok (.invokevirtual 108, 3) := by decide +kernel
theorem dX2_takeHalves_86 : decode cX2_takeHalves 86 = .ok (.aload_n 0, 1) := by decide +kernel
theorem dX2_takeHalves_87 : decode cX2_takeHalves 87 = .ok (.getfield 15, 3) := by decide +kernel
theorem dX2_takeHalves_90 : decode cX2_takeHalves 90 = .ok (.iload_n 1, 1) := by decide +kernel
theorem dX2_takeHalves_91 : decode cX2_takeHalves 91 = .ok (.aload_n 0, 1) := by decide +kernel
theorem dX2_takeHalves_92 : decode cX2_takeHalves 92 = .ok (.getfield 15, 3) := by decide +kernel
theorem dX2_takeHalves_95 : decode cX2_takeHalves 95 = .ok (.iload_n 1, 1) := by decide +kernel
theorem dX2_takeHalves_96 : decode cX2_takeHalves 96 = .ok (.iaload, 1) := by decide +kernel
theorem dX2_takeHalves_97 : decode cX2_takeHalves 97 = .ok (.iconst 1, 1) := by decide +kernel
theorem dX2_takeHalves_98 : decode cX2_takeHalves 98 = .ok (.invokestatic 112, 3) := by decide +kernel
theorem dX2_takeHalves_101 : decode cX2_takeHalves 101 = .ok (.iastore, 1) := by decide +kernel
theorem dX2_takeHalves_102 : decode cX2_takeHalves 102 = .ok (.aload_n 0, 1) := by decide +kernel
theorem dX2_takeHalves_103 : decode cX2_takeHalves 103 = .ok (.getfield 15, 3) := by decide +kernel
theorem dX2_takeHalves_106 : decode cX2_takeHalves 106 = .ok (.iload_n 2, 1) := by decide +kernel
theorem dX2_takeHalves_107 : decode cX2_takeHalves 107 = .ok (.aload_n 0, 1) := by decide +kernel
theorem dX2_takeHalves_108 : decode cX2_takeHalves 108 = .ok (.getfield 15, 3) := by decide +kernel
theorem dX2_takeHalves_111 : decode cX2_takeHalves 111 = .ok (.iload_n 2, 1) := by decide +kernel
theorem dX2_takeHalves_112 : decode cX2_takeHalves 112 = .ok (.iaload, 1) := by decide +kernel
theorem dX2_takeHalves_113 : decode cX2_takeHalves 113 = .ok (.iconst 1, 1) := by decide +kernel
theorem dX2_takeHalves_114 : decode cX2_takeHalves 114 = .ok (.invokestatic 112, 3) := by decide +kernel
theorem dX2_takeHalves_117 : decode cX2_takeHalves 117 = .ok (.iastore, 1) := by decide +kernel
theorem dX2_takeHalves_118 : decode cX2_takeHalves 118 = .ok (.aload_n 0, 1) := by decide +kernel
theorem dX2_takeHalves_119 : decode cX2_takeHalves 119 = .ok (.dup, 1) := by decide +kernel
theorem dX2_takeHalves_120 : decode cX2_takeHalves 120 = .ok (.getfield 50, 3) := by decide +kernel
theorem dX2_takeHalves_123 : decode cX2_takeHalves 123 = .ok (.iconst 1, 1) := by decide +kernel
theorem dX2_takeHalves_124 : decode cX2_takeHalves 124 = .ok (.iload_n 3, 1) := by decide +kernel
theorem dX2_takeHalves_125 : decode cX2_takeHalves 125 = .ok (.ishl, 1) := by decide +kernel
theorem dX2_takeHalves_126 : decode cX2_takeHalves 126 = .ok (.ior, 1) := by decide +kernel
theorem dX2_takeHalves_127 : decode cX2_takeHalves 127 = .ok (.putfield 50, 3) := by decide +kernel
theorem dX2_takeHalves_130 : decode cX2_takeHalves 130 = .ok (.return_, 1) := by decide +kernel
theorem dX2_takePart_0 : decode cX2_takePart 0 = .ok (.aload_n 0, 1) := by decide +kernel
theorem dX2_takePart_1 : decode cX2_takePart 1 = .ok (.iload_n 1, 1) := by decide +kernel
theorem dX2_takePart_2 : decode cX2_takePart 2 = .ok (.invokevirtual 91, 3) := by decide +kernel
theorem dX2_takePart_5 : decode cX2_takePart 5 = .ok (.ifCond .eq 32, 3) := by decide +kernel
theorem dX2_takePart_8 : decode cX2_takePart 8 = .ok (.aload_n 0, 1) := by decide +kernel
theorem dX2_takePart_9 : decode cX2_takePart 9 = .ok (.getfield 21, 3) := by decide +kernel
theorem dX2_takePart_12 : decode cX2_takePart 12 = .ok (.iload_n 1, 1) := by decide +kernel
theorem dX2_takePart_13 : decode cX2_takePart 13 = .ok (.dup2, 1) := by decide +kernel
theorem dX2_takePart_14 : decode cX2_takePart 14 = .ok (.iaload, 1) := by decide +kernel
theorem dX2_takePart_15 : decode cX2_takePart 15 = .ok (.iload_n 2, 1) := by decide +kernel
theorem dX2_takePart_16 : decode cX2_takePart 16 = .ok (.iadd, 1) := by decide +kernel
theorem dX2_takePart_17 : decode cX2_takePart 17 = .ok (.iastore, 1) := by decide +kernel
theorem dX2_takePart_18 : decode cX2_takePart 18 = .ok (.aload_n 0, 1) := by decide +kernel
theorem dX2_takePart_19 : decode cX2_takePart 19 = .ok (.getfield 18, 3) := by decide +kernel
theorem dX2_takePart_22 : decode cX2_takePart 22 = .ok (.iload_n 1, 1) := by decide +kernel
theorem dX2_takePart_23 : decode cX2_takePart 23 = .ok (.dup2, 1) := by decide +kernel
theorem dX2_takePart_24 : decode cX2_takePart 24 = .ok (.iaload, 1) := by decide +kernel
theorem dX2_takePart_25 : decode cX2_takePart 25 = .ok (.aload_n 0, 1) := by decide +kernel
theorem dX2_takePart_26 : decode cX2_takePart 26 = .ok (.getfield 9, 3) := by decide +kernel
theorem dX2_takePart_29 : decode cX2_takePart 29 = .ok (.iload_n 1, 1) := by decide +kernel
theorem dX2_takePart_30 : decode cX2_takePart 30 = .ok (.iaload, 1) := by decide +kernel
theorem dX2_takePart_31 : decode cX2_takePart 31 = .ok (.iload_n 3, 1) := by decide +kernel
theorem dX2_takePart_32 : decode cX2_takePart 32 = .ok (.invokestatic 118, 3) := by decide +kernel
theorem dX2_takePart_35 : decode cX2_takePart 35 = .ok (.iadd, 1) := by decide +kernel
theorem dX2_takePart_36 : decode cX2_takePart 36 = .ok (.iastore, 1) := by decide +kernel
theorem dX2_takePart_37 : decode cX2_takePart 37 = .ok (.return_, 1) := by decide +kernel
theorem dX2_giveBack_0 : decode cX2_giveBack 0 = .ok (.aload_n 0, 1) := by decide +kernel
theorem dX2_giveBack_1 : decode cX2_giveBack 1 = .ok (.iload_n 1, 1) := by decide +kernel
theorem dX2_giveBack_2 : decode cX2_giveBack 2 = .ok (.invokevirtual 91, 3) := by decide +kernel
theorem dX2_giveBack_5 : decode cX2_giveBack 5 = .ok (.ifCond .eq 11, 3) := by decide +kernel
theorem dX2_giveBack_8 : decode cX2_giveBack 8 = .ok (.aload_n 0, 1) := by decide +kernel
theorem dX2_giveBack_9 : decode cX2_giveBack 9 = .ok (.iload_n 2, 1) := by decide +kernel
theorem dX2_giveBack_10 : decode cX2_giveBack 10 = .ok (.invokevirtual 95, 3) := by decide +kernel
theorem dX2_giveBack_13 : decode cX2_giveBack 13 = .ok (.ifCond .ne 4, 3) := by decide +kernel
theorem dX2_giveBack_16 : decode cX2_giveBack 16 = .ok (.return_, 1) := by decide +kernel
theorem dX2_giveBack_17 : decode cX2_giveBack 17 = .ok (.aload_n 0, 1) := by decide +kernel
theorem dX2_giveBack_18 : decode cX2_giveBack 18 = .ok (.getfield 21, 3) := by decide +kernel
theorem dX2_giveBack_21 : decode cX2_giveBack 21 = .ok (.iload_n 1, 1) := by decide +kernel
theorem dX2_giveBack_22 : decode cX2_giveBack 22 = .ok (.dup2, 1) := by decide +kernel
theorem dX2_giveBack_23 : decode cX2_giveBack 23 = .ok (.iaload, 1) := by decide +kernel
theorem dX2_giveBack_24 : decode cX2_giveBack 24 = .ok (.aload_n 0, 1) := by decide +kernel
theorem dX2_giveBack_25 : decode cX2_giveBack 25 = .ok (.getfield 24, 3) := by decide +kernel
theorem dX2_giveBack_28 : decode cX2_giveBack 28 = .ok (.iload_n 2, 1) := by decide +kernel
theorem dX2_giveBack_29 : decode cX2_giveBack 29 = .ok (.iaload, 1) := by decide +kernel
theorem dX2_giveBack_30 : decode cX2_giveBack 30 = .ok (.isub, 1) := by decide +kernel
theorem dX2_giveBack_31 : decode cX2_giveBack 31 = .ok (.iastore, 1) := by decide +kernel
theorem dX2_giveBack_32 : decode cX2_giveBack 32 = .ok (.aload_n 0, 1) := by decide +kernel
theorem dX2_giveBack_33 : decode cX2_giveBack 33 = .ok (.getfield 18, 3) := by decide +kernel
theorem dX2_giveBack_36 : decode cX2_giveBack 36 = .ok (.iload_n 1, 1) := by decide +kernel
theorem dX2_giveBack_37 : decode cX2_giveBack 37 = .ok (.dup2, 1) := by decide +kernel
theorem dX2_giveBack_38 : decode cX2_giveBack 38 = .ok (.iaload, 1) := by decide +kernel
theorem dX2_giveBack_39 : decode cX2_giveBack 39 = .ok (.aload_n 0, 1) := by decide +kernel
theorem dX2_giveBack_40 : decode cX2_giveBack 40 = .ok (.getfield 9, 3) := by decide +kernel
theorem dX2_giveBack_43 : decode cX2_giveBack 43 = .ok (.iload_n 1, 1) := by decide +kernel
theorem dX2_giveBack_44 : decode cX2_giveBack 44 = .ok (.iaload, 1) := by decide +kernel
theorem dX2_giveBack_45 : decode cX2_giveBack 45 = .ok (.aload_n 0, 1) := by decide +kernel
theorem dX2_giveBack_46 : decode cX2_giveBack 46 = .ok (.getfield 24, 3) := by decide +kernel
theorem dX2_giveBack_49 : decode cX2_giveBack 49 = .ok (.iload_n 2, 1) := by decide +kernel
theorem dX2_giveBack_50 : decode cX2_giveBack 50 = .ok (.iaload, 1) := by decide +kernel
theorem dX2_giveBack_51 : decode cX2_giveBack 51 = .ok (.aload_n 0, 1) := by decide +kernel
theorem dX2_giveBack_52 : decode cX2_giveBack 52 = .ok (.getfield 27, 3) := by decide +kernel
theorem dX2_giveBack_55 : decode cX2_giveBack 55 = .ok (.iload_n 2, 1) := by decide +kernel
theorem dX2_giveBack_56 : decode cX2_giveBack 56 = .ok (.iaload, 1) := by decide +kernel
theorem dX2_giveBack_57 : decode cX2_giveBack 57 = .ok (.iadd, 1) := by decide +kernel
theorem dX2_giveBack_58 : decode cX2_giveBack 58 = .ok (.invokestatic 118, 3) := by decide +kernel
theorem dX2_giveBack_61 : decode cX2_giveBack 61 = .ok (.isub, 1) := by decide +kernel
theorem dX2_giveBack_62 : decode cX2_giveBack 62 = .ok (.iastore, 1) := by decide +kernel
theorem dX2_giveBack_63 : decode cX2_giveBack 63 = .ok (.aload_n 0, 1) := by decide +kernel
theorem dX2_giveBack_64 : decode cX2_giveBack 64 = .ok (.getfield 15, 3) := by decide +kernel
theorem dX2_giveBack_67 : decode cX2_giveBack 67 = .ok (.iload_n 1, 1) := by decide +kernel
theorem dX2_giveBack_68 : decode cX2_giveBack 68 = .ok (.iload_n 3, 1) := by decide +kernel
theorem dX2_giveBack_69 : decode cX2_giveBack 69 = .ok (.iastore, 1) := by decide +kernel
theorem dX2_giveBack_70 : decode cX2_giveBack 70 = .ok (.aload_n 0, 1) := by decide +kernel
theorem dX2_giveBack_71 : decode cX2_giveBack 71 = .ok (.dup, 1) := by decide +kernel
theorem dX2_giveBack_72 : decode cX2_giveBack 72 = .ok (.getfield 50, 3) := by decide +kernel
theorem dX2_giveBack_75 : decode cX2_giveBack 75 = .ok (.iconst 1, 1) := by decide +kernel
theorem dX2_giveBack_76 : decode cX2_giveBack 76 = .ok (.iload_n 2, 1) := by decide +kernel
theorem dX2_giveBack_77 : decode cX2_giveBack 77 = .ok (.ishl, 1) := by decide +kernel
theorem dX2_giveBack_78 : decode cX2_giveBack 78 = .ok (.iconst (-1), 1) := by decide +kernel
theorem dX2_giveBack_79 : decode cX2_giveBack 79 = .ok (.ixor, 1) := by decide +kernel
theorem dX2_giveBack_80 : decode cX2_giveBack 80 = .ok (.iand, 1) := by decide +kernel
theorem dX2_giveBack_81 : decode cX2_giveBack 81 = .ok (.putfield 50, 3) := by decide +kernel
theorem dX2_giveBack_84 : decode cX2_giveBack 84 = .ok (.return_, 1) := by decide +kernel
theorem dX2_passWinter_0 : decode cX2_passWinter 0 = .ok (.iconst 0, 1) := by decide +kernel
theorem dX2_passWinter_1 : decode cX2_passWinter 1 = .ok (.istore_n 1, 1) := by decide +kernel
theorem dX2_passWinter_2 : decode cX2_passWinter 2 = .ok (.iload_n 1, 1) := by decide +kernel
theorem dX2_passWinter_3 : decode cX2_passWinter 3 = .ok (.iconst 4, 1) := by decide +kernel
theorem dX2_passWinter_4 : decode cX2_passWinter 4 = .ok (.if_icmp .ge 61, 3) := by decide +kernel
theorem dX2_passWinter_7 : decode cX2_passWinter 7 = .ok (.aload_n 0, 1) := by decide +kernel
theorem dX2_passWinter_8 : decode cX2_passWinter 8 = .ok (.iload_n 1, 1) := by decide +kernel
theorem dX2_passWinter_9 : decode cX2_passWinter 9 = .ok (.invokevirtual 91, 3) := by decide +kernel
theorem dX2_passWinter_12 : decode cX2_passWinter 12 = .ok (.ifCond .eq 47, 3) := by decide +kernel
theorem dX2_passWinter_15 : decode cX2_passWinter 15 = .ok (.aload_n 0, 1) := by decide +kernel
theorem dX2_passWinter_16 : decode cX2_passWinter 16 = .ok (.iload_n 1, 1) := by decide +kernel
theorem dX2_passWinter_17 : decode cX2_passWinter 17 = .ok (.invokevirtual 98, 3) := by decide +kernel
theorem dX2_passWinter_20 : decode cX2_passWinter 20 = .ok (.ifCond .eq 39, 3) := by decide +kernel
theorem dX2_passWinter_23 : decode cX2_passWinter 23 = .ok (.aload_n 0, 1) := by decide +kernel
theorem dX2_passWinter_24 : decode cX2_passWinter 24 = .ok (.getfield 15, 3) := by decide +kernel
theorem dX2_passWinter_27 : decode cX2_passWinter 27 = .ok (.iload_n 1, 1) := by decide +kernel
theorem dX2_passWinter_28 : decode cX2_passWinter 28 = .ok (.aload_n 0, 1) := by decide +kernel
theorem dX2_passWinter_29 : decode cX2_passWinter 29 = .ok (.getfield 15, 3) := by decide +kernel
theorem dX2_passWinter_32 : decode cX2_passWinter 32 = .ok (.iload_n 1, 1) := by decide +kernel
theorem dX2_passWinter_33 : decode cX2_passWinter 33 = .ok (.iaload, 1) := by decide +kernel
theorem dX2_passWinter_34 : decode cX2_passWinter 34 = .ok (.iconst 3, 1) := by decide +kernel
theorem dX2_passWinter_35 : decode cX2_passWinter 35 = .ok (.iadd, 1) := by decide +kernel
theorem dX2_passWinter_36 : decode cX2_passWinter 36 = .ok (.bipush 9, 2) := by decide +kernel
theorem dX2_passWinter_38 : decode cX2_passWinter 38 = .ok (.invokestatic 59, 3) := by decide +kernel
theorem dX2_passWinter_41 : decode cX2_passWinter 41 = .ok (.iastore, 1) := by decide +kernel
theorem dX2_passWinter_42 : decode cX2_passWinter 42 = .ok (.aload_n 0, 1) := by decide +kernel
theorem dX2_passWinter_43 : decode cX2_passWinter 43 = .ok (.getfield 9, 3) := by decide +kernel
theorem dX2_passWinter_46 : decode cX2_passWinter 46 = .ok (.iload_n 1, 1) := by decide +kernel
theorem dX2_passWinter_47 : decode cX2_passWinter 47 = .ok (.iaload, 1) := by decide +kernel
theorem dX2_passWinter_48 : decode cX2_passWinter 48 = .ok (.iconst 4, 1) := by decide +kernel
theorem dX2_passWinter_49 : decode cX2_passWinter 49 = .ok (.if_icmp .ne 10, 3) := by decide +kernel
theorem dX2_passWinter_52 : decode cX2_passWinter 52 = .ok (.aload_n 0, 1) := by decide +kernel
theorem dX2_passWinter_53 : decode cX2_passWinter 53 = .ok (.getfield 18, 3) := by decide +kernel
theorem dX2_passWinter_56 : decode cX2_passWinter 56 = .ok (.iload_n 1, 1) := by decide +kernel
theorem dX2_passWinter_57 : decode cX2_passWinter 57 = .ok (.iconst 0, 1) := by decide +kernel
theorem dX2_passWinter_58 : decode cX2_passWinter 58 = .ok (.iastore, 1) := by decide +kernel
theorem dX2_passWinter_59 : decode cX2_passWinter 59 = .ok (.iinc 1 1, 3) := by decide +kernel
theorem dX2_passWinter_62 : decode cX2_passWinter 62 = .ok (.goto (-60), 3) := by decide +kernel
theorem dX2_passWinter_65 : decode cX2_passWinter 65 = .ok (.aload_n 0, 1) := by decide +kernel
theorem dX2_passWinter_66 : decode cX2_passWinter 66 = .ok (.dup, 1) := by decide +kernel
theorem dX2_passWinter_67 : decode cX2_passWinter 67 = .ok (.getfield 68, 3) := by decide +kernel
theorem dX2_passWinter_70 : decode cX2_passWinter 70 = .ok (.iconst 1, 1) := by decide +kernel
theorem dX2_passWinter_71 : decode cX2_passWinter 71 = .ok (.iadd, 1) := by decide +kernel
theorem dX2_passWinter_72 : decode cX2_passWinter 72 = .ok (.putfield 68, 3) := by decide +kernel
theorem dX2_passWinter_75 : decode cX2_passWinter 75 = .ok (.return_, 1) := by decide +kernel
theorem dX2_makeLoafOf_0 : decode cX2_makeLoafOf 0 = .ok (.aload_n 0, 1) := by decide +kernel
theorem dX2_makeLoafOf_1 : decode cX2_makeLoafOf 1 = .ok (.getfield 40, 3) := by decide +kernel
theorem dX2_makeLoafOf_4 : decode cX2_makeLoafOf 4 = .ok (.istore_n 2, 1) := by decide +kernel
theorem dX2_makeLoafOf_5 : decode cX2_makeLoafOf 5 = .ok (.aload_n 0, 1) := by decide +kernel
theorem dX2_makeLoafOf_6 : decode cX2_makeLoafOf 6 = .ok (.iload_n 1, 1) := by decide +kernel
theorem dX2_makeLoafOf_7 : decode cX2_makeLoafOf 7 = .ok (.invokevirtual 91, 3) := by decide +kernel
theorem dX2_makeLoafOf_10 : decode cX2_makeLoafOf 10 = .ok (.ifCond .eq 13, 3) := by decide +kernel
theorem dX2_makeLoafOf_13 : decode cX2_makeLoafOf 13 = .ok (.iload_n 2, 1) := by decide +kernel
theorem dX2_makeLoafOf_14 : decode cX2_makeLoafOf 14 = .ok (.ifCond .lt 9, 3) := by decide +kernel
theorem dX2_makeLoafOf_17 : decode cX2_makeLoafOf 17 = .ok (.iload_n 2, 1) := by decide +kernel
theorem dX2_makeLoafOf_18 : decode cX2_makeLoafOf 18 = .ok (.bipush 8, 2) := by decide +kernel
theorem dX2_makeLoafOf_20 : decode cX2_makeLoafOf 20 = .ok (.if_icmp .lt 5, 3) := by decide +kernel
theorem dX2_makeLoafOf_23 : decode cX2_makeLoafOf 23 = .ok (.iconst (-1), 1) := by decide +kernel
theorem dX2_makeLoafOf_24 : decode cX2_makeLoafOf 24 = .ok (.ireturn, 1) := by decide +kernel
theorem dX2_makeLoafOf_25 : decode cX2_makeLoafOf 25 = .ok (.aload_n 0, 1) := by decide +kernel
theorem dX2_makeLoafOf_26 : decode cX2_makeLoafOf 26 = .ok (.getfield 24, 3) := by decide +kernel
theorem dX2_makeLoafOf_29 : decode cX2_makeLoafOf 29 = .ok (.iload_n 2, 1) := by decide +kernel
theorem dX2_makeLoafOf_30 : decode cX2_makeLoafOf 30 = .ok (.aload_n 0, 1) := by decide +kernel
theorem dX2_makeLoafOf_31 : decode cX2_makeLoafOf 31 = .ok (.getfield 18, 3) := by decide +kernel
theorem dX2_makeLoafOf_34 : decode cX2_makeLoafOf 34 = .ok (.iload_n 1, 1) := by decide +kernel
theorem dX2_makeLoafOf_35 : decode cX2_makeLoafOf 35 = .ok (.iaload, 1) := by decide +kernel
theorem dX2_makeLoafOf_36 : decode cX2_makeLoafOf 36 = .ok (.bipush 9, 2) := by decide +kernel
theorem dX2_makeLoafOf_38 : decode cX2_makeLoafOf 38 = .ok (.invokestatic 59, 3) := by decide +kernel
theorem dX2_makeLoafOf_41 : decode cX2_makeLoafOf 41 = .ok (.iastore, 1) := by decide +kernel
theorem dX2_makeLoafOf_42 : decode cX2_makeLoafOf 42 = .ok (.aload_n 0, 1) := by decide +kernel
theorem dX2_makeLoafOf_43 : decode cX2_makeLoafOf 43 = .ok (.getfield 27, 3) := by decide +kernel
theorem dX2_makeLoafOf_46 : decode cX2_makeLoafOf 46 = .ok (.iload_n 2, 1) := by decide +kernel
theorem dX2_makeLoafOf_47 : decode cX2_makeLoafOf 47 = .ok (.aload_n 0, 1) := by decide +kernel
theorem dX2_makeLoafOf_48 : decode cX2_makeLoafOf 48 = .ok (.getfield 18, 3) := by decide +kernel
theorem dX2_makeLoafOf_51 : decode cX2_makeLoafOf 51 = .ok (.iload_n 1, 1) := by decide +kernel
theorem dX2_makeLoafOf_52 : decode cX2_makeLoafOf 52 = .ok (.iaload, 1) := by decide +kernel
theorem dX2_makeLoafOf_53 : decode cX2_makeLoafOf 53 = .ok (.aload_n 0, 1) := by decide +kernel
theorem dX2_makeLoafOf_54 : decode cX2_makeLoafOf 54 = .ok (.getfield 24, 3) := by decide +kernel
theorem dX2_makeLoafOf_57 : decode cX2_makeLoafOf 57 = .ok (.iload_n 2, 1) := by decide +kernel
theorem dX2_makeLoafOf_58 : decode cX2_makeLoafOf 58 = .ok (.iaload, 1) := by decide +kernel
theorem dX2_makeLoafOf_59 : decode cX2_makeLoafOf 59 = .ok (.isub, 1) := by decide +kernel
theorem dX2_makeLoafOf_60 : decode cX2_makeLoafOf 60 = .ok (.iastore, 1) := by decide +kernel
theorem dX2_makeLoafOf_61 : decode cX2_makeLoafOf 61 = .ok (.aload_n 0, 1) := by decide +kernel
theorem dX2_makeLoafOf_62 : decode cX2_makeLoafOf 62 = .ok (.dup, 1) := by decide +kernel
theorem dX2_makeLoafOf_63 : decode cX2_makeLoafOf 63 = .ok (.getfield 40, 3) := by decide +kernel
theorem dX2_makeLoafOf_66 : decode cX2_makeLoafOf 66 = .ok (.iconst 1, 1) := by decide +kernel
theorem dX2_makeLoafOf_67 : decode cX2_makeLoafOf 67 = .ok (.iadd, 1) := by decide +kernel
theorem dX2_makeLoafOf_68 : decode cX2_makeLoafOf 68 = .ok (.putfield 40, 3) := by decide +kernel
theorem dX2_makeLoafOf_71 : decode cX2_makeLoafOf 71 = .ok (.aload_n 0, 1) := by decide +kernel
theorem dX2_makeLoafOf_72 : decode cX2_makeLoafOf 72 = .ok (.getfield 18, 3) := by decide +kernel
theorem dX2_makeLoafOf_75 : decode cX2_makeLoafOf 75 = .ok (.iload_n 1, 1) := by decide +kernel
theorem dX2_makeLoafOf_76 : decode cX2_makeLoafOf 76 = .ok (.iconst 0, 1) := by decide +kernel
theorem dX2_makeLoafOf_77 : decode cX2_makeLoafOf 77 = .ok (.iastore, 1) := by decide +kernel
theorem dX2_makeLoafOf_78 : decode cX2_makeLoafOf 78 = .ok (.aload_n 0, 1) := by decide +kernel
theorem dX2_makeLoafOf_79 : decode cX2_makeLoafOf 79 = .ok (.dup, 1) := by decide +kernel
theorem dX2_makeLoafOf_80 : decode cX2_makeLoafOf 80 = .ok (.getfield 43, 3) := by decide +kernel
theorem dX2_makeLoafOf_83 : decode cX2_makeLoafOf 83 = .ok (.iconst 1, 1) := by decide +kernel
theorem dX2_makeLoafOf_84 : decode cX2_makeLoafOf 84 = .ok (.iload_n 1, 1) := by decide +kernel
theorem dX2_makeLoafOf_85 : decode cX2_makeLoafOf 85 = .ok (.ishl, 1) := by decide +kernel
theorem dX2_makeLoafOf_86 : decode cX2_makeLoafOf 86 = .ok (.iconst (-1), 1) := by decide +kernel
theorem dX2_makeLoafOf_87 : decode cX2_makeLoafOf 87 = .ok (.ixor, 1) := by decide +kernel
theorem dX2_makeLoafOf_88 : decode cX2_makeLoafOf 88 = .ok (.iand, 1) := by decide +kernel
theorem dX2_makeLoafOf_89 : decode cX2_makeLoafOf 89 = .ok (.putfield 43, 3) := by decide +kernel
theorem dX2_makeLoafOf_92 : decode cX2_makeLoafOf 92 = .ok (.iload_n 2, 1) := by decide +kernel
theorem dX2_makeLoafOf_93 : decode cX2_makeLoafOf 93 = .ok (.ireturn, 1) := by decide +kernel
theorem dX2_takenNow_0 : decode cX2_takenNow 0 = .ok (.iconst 0, 1) := by decide +kernel
theorem dX2_takenNow_1 : decode cX2_takenNow 1 = .ok (.istore_n 2, 1) := by decide +kernel
theorem dX2_takenNow_2 : decode cX2_takenNow 2 = .ok (.iconst 0, 1) := by decide +kernel
theorem dX2_takenNow_3 : decode cX2_takenNow 3 = .ok (.istore_n 3, 1) := by decide +kernel
theorem dX2_takenNow_4 : decode cX2_takenNow 4 = .ok (.iload_n 3, 1) := by decide +kernel
theorem dX2_takenNow_5 : decode cX2_takenNow 5 = .ok (.bipush 8, 2) := by decide +kernel
theorem dX2_takenNow_7 : decode cX2_takenNow 7 = .ok (.if_icmp .ge 24, 3) := by decide +kernel
theorem dX2_takenNow_10 : decode cX2_takenNow 10 = .ok (.aload_n 0, 1) := by decide +kernel
theorem dX2_takenNow_11 : decode cX2_takenNow 11 = .ok (.iload_n 1, 1) := by decide +kernel
theorem dX2_takenNow_12 : decode cX2_takenNow 12 = .ok (.iload_n 3, 1) := by decide +kernel
theorem dX2_takenNow_13 : decode cX2_takenNow 13 = .ok (.invokevirtual 121, 3) := by decide +kernel
theorem dX2_takenNow_16 : decode cX2_takenNow 16 = .ok (.ifCond .eq 9, 3) := by decide +kernel
theorem dX2_takenNow_19 : decode cX2_takenNow 19 = .ok (.iload_n 2, 1) := by decide +kernel
theorem dX2_takenNow_20 : decode cX2_takenNow 20 = .ok (.iconst 1, 1) := by decide +kernel
theorem dX2_takenNow_21 : decode cX2_takenNow 21 = .ok (.iload_n 3, 1) := by decide +kernel
theorem dX2_takenNow_22 : decode cX2_takenNow 22 = .ok (.ishl, 1) := by decide +kernel
theorem dX2_takenNow_23 : decode cX2_takenNow 23 = .ok (.ior, 1) := by decide +kernel
theorem dX2_takenNow_24 : decode cX2_takenNow 24 = .ok (.istore_n 2, 1) := by decide +kernel
theorem dX2_takenNow_25 : decode cX2_takenNow 25 = .ok (.iinc 3 1, 3) := by decide +kernel
theorem dX2_takenNow_28 : decode cX2_takenNow 28 = .ok (.goto (-24), 3) := by decide +kernel
theorem dX2_takenNow_31 : decode cX2_takenNow 31 = .ok (.iload_n 2, 1) := by decide +kernel
theorem dX2_takenNow_32 : decode cX2_takenNow 32 = .ok (.ireturn, 1) := by decide +kernel
theorem dX2_bestFed_0 : decode cX2_bestFed 0 = .ok (.aload_n 0, 1) := by decide +kernel
theorem dX2_bestFed_1 : decode cX2_bestFed 1 = .ok (.iload_n 1, 1) := by decide +kernel
theorem dX2_bestFed_2 : decode cX2_bestFed 2 = .ok (.invokevirtual 124, 3) := by decide +kernel
theorem dX2_bestFed_5 : decode cX2_bestFed 5 = .ok (.istore_n 2, 1) := by decide +kernel
theorem dX2_bestFed_6 : decode cX2_bestFed 6 = .ok (.iconst 0, 1) := by decide +kernel
theorem dX2_bestFed_7 : decode cX2_bestFed 7 = .ok (.istore_n 3, 1) := by decide +kernel
theorem dX2_bestFed_8 : decode cX2_bestFed 8 = .ok (.iconst 0, 1) := by decide +kernel
theorem dX2_bestFed_9 : decode cX2_bestFed 9 = .ok (.istore 4, 2) := by decide +kernel
theorem dX2_bestFed_11 : decode cX2_bestFed 11 = .ok (.iconst 1, 1) := by decide +kernel
theorem dX2_bestFed_12 : decode cX2_bestFed 12 = .ok (.istore 5, 2) := by decide +kernel
theorem dX2_bestFed_14 : decode cX2_bestFed 14 = .ok (.iload 5, 2) := by decide +kernel
theorem dX2_bestFed_16 : decode cX2_bestFed 16 = .ok (.iload_n 2, 1) := by decide +kernel
theorem dX2_bestFed_17 : decode cX2_bestFed 17 = .ok (.if_icmp .gt 50, 3) := by decide +kernel
theorem dX2_bestFed_20 : decode cX2_bestFed 20 = .ok (.iload 5, 2) := by decide +kernel
theorem dX2_bestFed_22 : decode cX2_bestFed 22 = .ok (.iload_n 2, 1) := by decide +kernel
theorem dX2_bestFed_23 : decode cX2_bestFed 23 = .ok (.iconst (-1), 1) := by decide +kernel
theorem dX2_bestFed_24 : decode cX2_bestFed 24 = .ok (.ixor, 1) := by decide +kernel
theorem dX2_bestFed_25 : decode cX2_bestFed 25 = .ok (.iand, 1) := by decide +kernel
theorem dX2_bestFed_26 : decode cX2_bestFed 26 = .ok (.ifCond .ne 35, 3) := by decide +kernel
theorem dX2_bestFed_29 : decode cX2_bestFed 29 = .ok (.aload_n 0, 1) := by decide +kernel
theorem dX2_bestFed_30 : decode cX2_bestFed 30 = .ok (.iload 5, 2) := by decide +kernel
theorem dX2_bestFed_32 : decode cX2_bestFed 32 = .ok (.invokevirtual 127, 3) := by decide +kernel
theorem dX2_bestFed_35 : decode cX2_bestFed 35 = .ok (.iload 4, 2) := by decide +kernel
theorem dX2_bestFed_37 : decode cX2_bestFed 37 = .ok (.if_icmp .le 24, 3) := by decide +kernel
theorem dX2_bestFed_40 : decode cX2_bestFed 40 = .ok (.aload_n 0, 1) := by decide +kernel
theorem dX2_bestFed_41 : decode cX2_bestFed 41 = .ok (.iload_n 1, 1) := by decide +kernel
theorem dX2_bestFed_42 : decode cX2_bestFed 42 = .ok (.iload 5, 2) := by decide +kernel
theorem dX2_bestFed_44 : decode cX2_bestFed 44 = .ok (.invokevirtual 130, 3) := by decide +kernel
theorem dX2_bestFed_47 : decode cX2_bestFed 47 = .ok (.ifCond .eq 14, 3) := by decide +kernel
theorem dX2_bestFed_50 : decode cX2_bestFed 50 = .ok (.iload 5, 2) := by decide +kernel
theorem dX2_bestFed_52 : decode cX2_bestFed 52 = .ok (.istore_n 3, 1) := by decide +kernel
theorem dX2_bestFed_53 : decode cX2_bestFed 53 = .ok (.aload_n 0, 1) := by decide +kernel
theorem dX2_bestFed_54 : decode cX2_bestFed 54 = .ok (.iload 5, 2) := by decide +kernel
theorem dX2_bestFed_56 : decode cX2_bestFed 56 = .ok (.invokevirtual 127, 3) := by decide +kernel
theorem dX2_bestFed_59 : decode cX2_bestFed 59 = .ok (.istore 4, 2) := by decide +kernel
theorem dX2_bestFed_61 : decode cX2_bestFed 61 = .ok (.iinc 5 1, 3) := by decide +kernel
theorem dX2_bestFed_64 : decode cX2_bestFed 64 = .ok (.goto (-50), 3) := by decide +kernel
theorem dX2_bestFed_67 : decode cX2_bestFed 67 = .ok (.iload_n 3, 1) := by decide +kernel
theorem dX2_bestFed_68 : decode cX2_bestFed 68 = .ok (.ireturn, 1) := by decide +kernel
theorem dX2_canTakeAll_0 : decode cX2_canTakeAll 0 = .ok (.aload_n 0, 1) := by decide +kernel
theorem dX2_canTakeAll_1 : decode cX2_canTakeAll 1 = .ok (.iload_n 1, 1) := by decide +kernel
theorem dX2_canTakeAll_2 : decode cX2_canTakeAll 2 = .ok (.invokevirtual 91, 3) := by decide +kernel
theorem dX2_canTakeAll_5 : decode cX2_canTakeAll 5 = .ok (.ifCond .ne 5, 3) := by decide +kernel
theorem dX2_canTakeAll_8 : decode cX2_canTakeAll 8 = .ok (.iconst 0, 1) := by decide +kernel
theorem dX2_canTakeAll_9 : decode cX2_canTakeAll 9 = .ok (.ireturn, 1) := by decide +kernel
theorem dX2_canTakeAll_10 : decode cX2_canTakeAll 10 = .ok (.aload_n 0, 1) := by decide +kernel
theorem dX2_canTakeAll_11 : decode cX2_canTakeAll 11 = .ok (.getfield 15, 3) := by decide +kernel
theorem dX2_canTakeAll_14 : decode cX2_canTakeAll 14 = .ok (.iload_n 1, 1) := by decide +kernel
theorem dX2_canTakeAll_15 : decode cX2_canTakeAll 15 = .ok (.iaload, 1) := by decide +kernel
theorem dX2_canTakeAll_16 : decode cX2_canTakeAll 16 = .ok (.istore_n 3, 1) := by decide +kernel
theorem dX2_canTakeAll_17 : decode cX2_canTakeAll 17 = .ok (.iconst 0, 1) := by decide +kernel
theorem dX2_canTakeAll_18 : decode cX2_canTakeAll 18 = .ok (.istore 4, 2) := by decide +kernel
theorem dX2_canTakeAll_20 : decode cX2_canTakeAll 20 = .ok (.iload 4, 2) := by decide +kernel
theorem dX2_canTakeAll_22 : decode cX2_canTakeAll 22 = .ok (.bipush 8, 2) := by decide +kernel
theorem dX2_canTakeAll_24 : decode cX2_canTakeAll 24 = .ok (.if_icmp .ge 55, 3) := by decide +kernel
theorem dX2_canTakeAll_27 : decode cX2_canTakeAll 27 = .ok (.aload_n 0, 1) := by decide +kernel
theorem dX2_canTakeAll_28 : decode cX2_canTakeAll 28 = .ok (.iload 4, 2) := by decide +kernel
theorem dX2_canTakeAll_30 : decode cX2_canTakeAll 30 = .ok (.invokevirtual 95, 3) := by decide +kernel
theorem dX2_canTakeAll_33 : decode cX2_canTakeAll 33 = .ok (.ifCond .eq 40, 3) := by decide +kernel
theorem dX2_canTakeAll_36 : decode cX2_canTakeAll 36 = .ok (.iload_n 2, 1) := by decide +kernel
theorem dX2_canTakeAll_37 : decode cX2_canTakeAll 37 = .ok (.iload 4, 2) := by decide +kernel
theorem dX2_canTakeAll_39 : decode cX2_canTakeAll 39 = .ok (.invokestatic 46, 3) := by decide +kernel
theorem dX2_canTakeAll_42 : decode cX2_canTakeAll 42 = .ok (.ifCond .eq 31, 3) := by decide +kernel
theorem dX2_canTakeAll_45 : decode cX2_canTakeAll 45 = .ok (.aload_n 0, 1) := by decide +kernel
theorem dX2_canTakeAll_46 : decode cX2_canTakeAll 46 = .ok (.getfield 9, 3) := by decide +kernel
theorem dX2_canTakeAll_49 : decode cX2_canTakeAll 49 = .ok (.iload_n 1, 1) := by decide +kernel
theorem dX2_canTakeAll_50 : decode cX2_canTakeAll 50 = .ok (.iaload, 1) := by decide +kernel
theorem dX2_canTakeAll_51 : decode cX2_canTakeAll 51 = .ok (.iload_n 3, 1) := by decide +kernel
theorem dX2_canTakeAll_52 : decode cX2_canTakeAll 52 = .ok (.aload_n 0, 1) := by decide +kernel
theorem dX2_canTakeAll_53 : decode cX2_canTakeAll 53 = .ok (.getfield 24, 3) := by decide +kernel
theorem dX2_canTakeAll_56 : decode cX2_canTakeAll 56 = .ok (.iload 4, 2) := by decide +kernel
theorem dX2_canTakeAll_58 : decode cX2_canTakeAll 58 = .ok (.iaload, 1) := by decide +kernel
theorem dX2_canTakeAll_59 : decode cX2_canTakeAll 59 = .ok (.invokestatic 104, 3) := by decide +kernel
theorem dX2_canTakeAll_62 : decode cX2_canTakeAll 62 = .ok (.ifCond .ne 5, 3) := by decide +kernel
theorem dX2_canTakeAll_65 : decode cX2_canTakeAll 65 = .ok (.iconst 0, 1) := by decide +kernel
theorem dX2_canTakeAll_66 : decode cX2_canTakeAll 66 = .ok (.ireturn, 1) := by decide +kernel
theorem dX2_canTakeAll_67 : decode cX2_canTakeAll 67 = .ok (.iload_n 3, 1) := by decide +kernel
theorem dX2_canTakeAll_68 : decode cX2_canTakeAll 68 = .ok (.iconst 2, 1) := by decide +kernel
theorem dX2_canTakeAll_69 : decode cX2_canTakeAll 69 = .ok (.invokestatic 112, 3) := by decide +kernel
theorem dX2_canTakeAll_72 : decode cX2_canTakeAll 72 = .ok (.istore_n 3, 1) := by decide +kernel
theorem dX2_canTakeAll_73 : decode cX2_canTakeAll 73 = .ok (.iinc 4 1, 3) := by decide +kernel
theorem dX2_canTakeAll_76 : decode cX2_canTakeAll 76 = .ok (.goto (-56), 3) := by decide +kernel
theorem dX2_canTakeAll_79 : decode cX2_canTakeAll 79 = .ok (.iconst 1, 1) := by decide +kernel
theorem dX2_canTakeAll_80 : decode cX2_canTakeAll 80 = .ok (.ireturn, 1) := by decide +kernel
theorem dX2_deedsOf_0 : decode cX2_deedsOf 0 = .ok (.iconst 0, 1) := by decide +kernel
theorem dX2_deedsOf_1 : decode cX2_deedsOf 1 = .ok (.istore_n 2, 1) := by decide +kernel
theorem dX2_deedsOf_2 : decode cX2_deedsOf 2 = .ok (.iconst 0, 1) := by decide +kernel
theorem dX2_deedsOf_3 : decode cX2_deedsOf 3 = .ok (.istore_n 3, 1) := by decide +kernel
theorem dX2_deedsOf_4 : decode cX2_deedsOf 4 = .ok (.iload_n 3, 1) := by decide +kernel
theorem dX2_deedsOf_5 : decode cX2_deedsOf 5 = .ok (.bipush 8, 2) := by decide +kernel
theorem dX2_deedsOf_7 : decode cX2_deedsOf 7 = .ok (.if_icmp .ge 34, 3) := by decide +kernel
theorem dX2_deedsOf_10 : decode cX2_deedsOf 10 = .ok (.aload_n 0, 1) := by decide +kernel
theorem dX2_deedsOf_11 : decode cX2_deedsOf 11 = .ok (.iload_n 3, 1) := by decide +kernel
theorem dX2_deedsOf_12 : decode cX2_deedsOf 12 = .ok (.invokevirtual 95, 3) := by decide +kernel
theorem dX2_deedsOf_15 : decode cX2_deedsOf 15 = .ok (.ifCond .eq 20, 3) := by decide +kernel
theorem dX2_deedsOf_18 : decode cX2_deedsOf 18 = .ok (.iload_n 1, 1) := by decide +kernel
theorem dX2_deedsOf_19 : decode cX2_deedsOf 19 = .ok (.iload_n 3, 1) := by decide +kernel
theorem dX2_deedsOf_20 : decode cX2_deedsOf 20 = .ok (.invokestatic 46, 3) := by decide +kernel
theorem dX2_deedsOf_23 : decode cX2_deedsOf 23 = .ok (.ifCond .eq 12, 3) := by decide +kernel
theorem dX2_deedsOf_26 : decode cX2_deedsOf 26 = .ok (.iload_n 2, 1) := by decide +kernel
theorem dX2_deedsOf_27 : decode cX2_deedsOf 27 = .ok (.aload_n 0, 1) := by decide +kernel
theorem dX2_deedsOf_28 : decode cX2_deedsOf 28 = .ok (.getfield 24, 3) := by decide +kernel
theorem dX2_deedsOf_31 : decode cX2_deedsOf 31 = .ok (.iload_n 3, 1) := by decide +kernel
theorem dX2_deedsOf_32 : decode cX2_deedsOf 32 = .ok (.iaload, 1) := by decide +kernel
theorem dX2_deedsOf_33 : decode cX2_deedsOf 33 = .ok (.iadd, 1) := by decide +kernel
theorem dX2_deedsOf_34 : decode cX2_deedsOf 34 = .ok (.istore_n 2, 1) := by decide +kernel
theorem dX2_deedsOf_35 : decode cX2_deedsOf 35 = .ok (.iinc 3 1, 3) := by decide +kernel
theorem dX2_deedsOf_38 : decode cX2_deedsOf 38 = .ok (.goto (-34), 3) := by decide +kernel
theorem dX2_deedsOf_41 : decode cX2_deedsOf 41 = .ok (.iload_n 2, 1) := by decide +kernel
theorem dX2_deedsOf_42 : decode cX2_deedsOf 42 = .ok (.ireturn, 1) := by decide +kernel
theorem dX2_addSaid_0 : decode cX2_addSaid 0 = .ok (.aload_n 0, 1) := by decide +kernel
theorem dX2_addSaid_1 : decode cX2_addSaid 1 = .ok (.getfield 71, 3) := by decide +kernel
theorem dX2_addSaid_4 : decode cX2_addSaid 4 = .ok (.ifCond .lt 77, 3) := by decide +kernel
theorem dX2_addSaid_7 : decode cX2_addSaid 7 = .ok (.aload_n 0, 1) := by decide +kernel
theorem dX2_addSaid_8 : decode cX2_addSaid 8 = .ok (.getfield 71, 3) := by decide +kernel
theorem dX2_addSaid_11 : decode cX2_addSaid 11 = .ok (.bipush 6, 2) := by decide +kernel
theorem dX2_addSaid_13 : decode cX2_addSaid 13 = .ok (.if_icmp .ge 68, 3) := by decide +kernel
theorem dX2_addSaid_16 : decode cX2_addSaid 16 = .ok (.aload_n 0, 1) := by decide +kernel
theorem dX2_addSaid_17 : decode cX2_addSaid 17 = .ok (.getfield 30, 3) := by decide +kernel
theorem dX2_addSaid_20 : decode cX2_addSaid 20 = .ok (.aload_n 0, 1) := by decide +kernel
theorem dX2_addSaid_21 : decode cX2_addSaid 21 = .ok (.getfield 71, 3) := by decide +kernel
theorem dX2_addSaid_24 : decode cX2_addSaid 24 = .ok (.iload_n 1, 1) := by decide +kernel
theorem dX2_addSaid_25 : decode cX2_addSaid 25 = .ok (.iastore, 1) := by decide +kernel
theorem dX2_addSaid_26 : decode cX2_addSaid 26 = .ok (.aload_n 0, 1) := by decide +kernel
theorem dX2_addSaid_27 : decode cX2_addSaid 27 = .ok (.getfield 33, 3) := by decide +kernel
theorem dX2_addSaid_30 : decode cX2_addSaid 30 = .ok (.aload_n 0, 1) := by decide +kernel
theorem dX2_addSaid_31 : decode cX2_addSaid 31 = .ok (.getfield 71, 3) := by decide +kernel
theorem dX2_addSaid_34 : decode cX2_addSaid 34 = .ok (.iload_n 2, 1) := by decide +kernel
theorem dX2_addSaid_35 : decode cX2_addSaid 35 = .ok (.iastore, 1) := by decide +kernel
theorem dX2_addSaid_36 : decode cX2_addSaid 36 = .ok (.aload_n 0, 1) := by decide +kernel
theorem dX2_addSaid_37 : decode cX2_addSaid 37 = .ok (.iload_n 3, 1) := by decide +kernel
theorem dX2_addSaid_38 : decode cX2_addSaid 38 = .ok (.ifCond .eq 17, 3) := by decide +kernel
theorem dX2_addSaid_41 : decode cX2_addSaid 41 = .ok (.aload_n 0, 1) := by decide +kernel
theorem dX2_addSaid_42 : decode cX2_addSaid 42 = .ok (.getfield 88, 3) := by decide +kernel
theorem dX2_addSaid_45 : decode cX2_addSaid 45 = .ok (.iconst 1, 1) := by decide +kernel
theorem dX2_addSaid_46 : decode cX2_addSaid 46 = .ok (.aload_n 0, 1) := by decide +kernel
theorem dX2_addSaid_47 : decode cX2_addSaid 47 = .ok (.getfield 71, 3) := by decide +kernel
theorem dX2_addSaid_50 : decode cX2_addSaid 50 = .ok (.ishl, 1) := by decide +kernel
theorem dX2_addSaid_51 : decode cX2_addSaid 51 = .ok (.ior, 1) := by decide +kernel
theorem dX2_addSaid_52 : decode cX2_addSaid 52 = .ok (.goto 16, 3) := by decide +kernel
theorem dX2_addSaid_55 : decode cX2_addSaid 55 = .ok (.aload_n 0, 1) := by decide +kernel
theorem dX2_addSaid_56 : decode cX2_addSaid 56 = .ok (.getfield 88, 3) := by decide +kernel
theorem dX2_addSaid_59 : decode cX2_addSaid 59 = .ok (.iconst 1, 1) := by decide +kernel
theorem dX2_addSaid_60 : decode cX2_addSaid 60 = .ok (.aload_n 0, 1) := by decide +kernel
theorem dX2_addSaid_61 : decode cX2_addSaid 61 = .ok (.getfield 71, 3) := by decide +kernel
theorem dX2_addSaid_64 : decode cX2_addSaid 64 = .ok (.ishl, 1) := by decide +kernel
theorem dX2_addSaid_65 : decode cX2_addSaid 65 = .ok (.iconst (-1), 1) := by decide +kernel
theorem dX2_addSaid_66 : decode cX2_addSaid 66 = .ok (.ixor, 1) := by decide +kernel
theorem dX2_addSaid_67 : decode cX2_addSaid 67 = .ok (.iand, 1) := by decide +kernel
theorem dX2_addSaid_68 : decode cX2_addSaid 68 = .ok (.putfield 88, 3) := by decide +kernel
theorem dX2_addSaid_71 : decode cX2_addSaid 71 = .ok (.aload_n 0, 1) := by decide +kernel
theorem dX2_addSaid_72 : decode cX2_addSaid 72 = .ok (.dup, 1) := by decide +kernel
theorem dX2_addSaid_73 : decode cX2_addSaid 73 = .ok (.getfield 71, 3) := by decide +kernel
theorem dX2_addSaid_76 : decode cX2_addSaid 76 = .ok (.iconst 1, 1) := by decide +kernel
theorem dX2_addSaid_77 : decode cX2_addSaid 77 = .ok (.iadd, 1) := by decide +kernel
theorem dX2_addSaid_78 : decode cX2_addSaid 78 = .ok (.putfield 71, 3) := by decide +kernel
theorem dX2_addSaid_81 : decode cX2_addSaid 81 = .ok (.return_, 1) := by decide +kernel
theorem dX2_bakedInto_0 : decode cX2_bakedInto 0 = .ok (.iconst 0, 1) := by decide +kernel
theorem dX2_bakedInto_1 : decode cX2_bakedInto 1 = .ok (.istore_n 2, 1) := by decide +kernel
theorem dX2_bakedInto_2 : decode cX2_bakedInto 2 = .ok (.iconst 0, 1) := by decide +kernel
theorem dX2_bakedInto_3 : decode cX2_bakedInto 3 = .ok (.istore_n 3, 1) := by decide +kernel
theorem dX2_bakedInto_4 : decode cX2_bakedInto 4 = .ok (.iload_n 3, 1) := by decide +kernel
theorem dX2_bakedInto_5 : decode cX2_bakedInto 5 = .ok (.bipush 9, 2) := by decide +kernel
theorem dX2_bakedInto_7 : decode cX2_bakedInto 7 = .ok (.if_icmp .gt 24, 3) := by decide +kernel
theorem dX2_bakedInto_10 : decode cX2_bakedInto 10 = .ok (.aload_n 0, 1) := by decide +kernel
theorem dX2_bakedInto_11 : decode cX2_bakedInto 11 = .ok (.iload_n 1, 1) := by decide +kernel
theorem dX2_bakedInto_12 : decode cX2_bakedInto 12 = .ok (.iload_n 3, 1) := by decide +kernel
theorem dX2_bakedInto_13 : decode cX2_bakedInto 13 = .ok (.invokevirtual 133, 3) := by decide +kernel
theorem dX2_bakedInto_16 : decode cX2_bakedInto 16 = .ok (.ifCond .eq 9, 3) := by decide +kernel
theorem dX2_bakedInto_19 : decode cX2_bakedInto 19 = .ok (.iload_n 2, 1) := by decide +kernel
theorem dX2_bakedInto_20 : decode cX2_bakedInto 20 = .ok (.iconst 1, 1) := by decide +kernel
theorem dX2_bakedInto_21 : decode cX2_bakedInto 21 = .ok (.iload_n 3, 1) := by decide +kernel
theorem dX2_bakedInto_22 : decode cX2_bakedInto 22 = .ok (.ishl, 1) := by decide +kernel
theorem dX2_bakedInto_23 : decode cX2_bakedInto 23 = .ok (.ior, 1) := by decide +kernel
theorem dX2_bakedInto_24 : decode cX2_bakedInto 24 = .ok (.istore_n 2, 1) := by decide +kernel
theorem dX2_bakedInto_25 : decode cX2_bakedInto 25 = .ok (.iinc 3 1, 3) := by decide +kernel
theorem dX2_bakedInto_28 : decode cX2_bakedInto 28 = .ok (.goto (-24), 3) := by decide +kernel
theorem dX2_bakedInto_31 : decode cX2_bakedInto 31 = .ok (.iload_n 2, 1) := by decide +kernel
theorem dX2_bakedInto_32 : decode cX2_bakedInto 32 = .ok (.ireturn, 1) := by decide +kernel
theorem dX2_allSaidHolds_0 : decode cX2_allSaidHolds 0 = .ok (.iconst 0, 1) := by decide +kernel
theorem dX2_allSaidHolds_1 : decode cX2_allSaidHolds 1 = .ok (.istore_n 3, 1) := by decide +kernel
theorem dX2_allSaidHolds_2 : decode cX2_allSaidHolds 2 = .ok (.iload_n 3, 1) := by decide +kernel
theorem dX2_allSaidHolds_3 : decode cX2_allSaidHolds 3 = .ok (.aload_n 0, 1) := by decide +kernel
theorem dX2_allSaidHolds_4 : decode cX2_allSaidHolds 4 = .ok (.getfield 71, 3) := by decide +kernel
theorem dX2_allSaidHolds_7 : decode cX2_allSaidHolds 7 = .ok (.if_icmp .ge 58, 3) := by decide +kernel
theorem dX2_allSaidHolds_10 : decode cX2_allSaidHolds 10 = .ok (.iload_n 3, 1) := by decide +kernel
theorem dX2_allSaidHolds_11 : decode cX2_allSaidHolds 11 = .ok (.bipush 6, 2) := by decide +kernel
theorem dX2_allSaidHolds_13 : decode cX2_allSaidHolds 13 = .ok (.if_icmp .ge 52, 3) := by decide +kernel
theorem dX2_allSaidHolds_16 : decode cX2_allSaidHolds 16 = .ok (.aload_n 0, 1) := by decide +kernel
theorem dX2_allSaidHolds_17 : decode cX2_allSaidHolds 17 = .ok (.aload_n 0, 1) := by decide +kernel
theorem dX2_allSaidHolds_18 : decode cX2_allSaidHolds 18 = .ok (.getfield 30, 3) := by decide +kernel
theorem dX2_allSaidHolds_21 : decode cX2_allSaidHolds 21 = .ok (.iload_n 3, 1) := by decide +kernel
theorem dX2_allSaidHolds_22 : decode cX2_allSaidHolds 22 = .ok (.iaload, 1) := by decide +kernel
theorem dX2_allSaidHolds_23 : decode cX2_allSaidHolds 23 = .ok (.iload_n 1, 1) := by decide +kernel
theorem dX2_allSaidHolds_24 : decode cX2_allSaidHolds 24 = .ok (.iload_n 2, 1) := by decide +kernel
theorem dX2_allSaidHolds_25 : decode cX2_allSaidHolds 25 = .ok (.invokevirtual 136, 3) := by decide +kernel
theorem dX2_allSaidHolds_28 : decode cX2_allSaidHolds 28 = .ok (.aload_n 0, 1) := by decide +kernel
theorem dX2_allSaidHolds_29 : decode cX2_allSaidHolds 29 = .ok (.getfield 33, 3) := by decide +kernel
theorem dX2_allSaidHolds_32 : decode cX2_allSaidHolds 32 = .ok (.iload_n 3, 1) := by decide +kernel
theorem dX2_allSaidHolds_33 : decode cX2_allSaidHolds 33 = .ok (.iaload, 1) := by decide +kernel
theorem dX2_allSaidHolds_34 : decode cX2_allSaidHolds 34 = .ok (.if_icmp .le 7, 3) := by decide +kernel
theorem dX2_allSaidHolds_37 : decode cX2_allSaidHolds 37 = .ok (.iconst 1, 1) := by decide +kernel
theorem dX2_allSaidHolds_38 : decode cX2_allSaidHolds 38 = .ok (.goto 4, 3) := by decide +kernel
theorem dX2_allSaidHolds_41 : decode cX2_allSaidHolds 41 = .ok (.iconst 0, 1) := by decide +kernel
theorem dX2_allSaidHolds_42 : decode cX2_allSaidHolds 42 = .ok (.istore 4, 2) := by decide +kernel
theorem dX2_allSaidHolds_44 : decode cX2_allSaidHolds 44 = .ok (.iload 4, 2) := by decide +kernel
theorem dX2_allSaidHolds_46 : decode cX2_allSaidHolds 46 = .ok (.aload_n 0, 1) := by decide +kernel
theorem dX2_allSaidHolds_47 : decode cX2_allSaidHolds 47 = .ok (.getfield 88, 3) := by decide +kernel
theorem dX2_allSaidHolds_50 : decode cX2_allSaidHolds 50 = .ok (.iload_n 3, 1) := by decide +kernel
theorem dX2_allSaidHolds_51 : decode cX2_allSaidHolds 51 = .ok (.invokestatic 46, 3) := by decide +kernel
theorem dX2_allSaidHolds_54 : decode cX2_allSaidHolds 54 = .ok (.if_icmp .eq 5, 3) := by decide +kernel
theorem dX2_allSaidHolds_57 : decode cX2_allSaidHolds 57 = .ok (.iconst 0, 1) := by decide +kernel
theorem dX2_allSaidHolds_58 : decode cX2_allSaidHolds 58 = .ok (.ireturn, 1) := by decide +kernel
theorem dX2_allSaidHolds_59 : decode cX2_allSaidHolds 59 = .ok (.iinc 3 1, 3) := by decide +kernel
theorem dX2_allSaidHolds_62 : decode cX2_allSaidHolds 62 = .ok (.goto (-60), 3) := by decide +kernel
theorem dX2_allSaidHolds_65 : decode cX2_allSaidHolds 65 = .ok (.iconst 1, 1) := by decide +kernel
theorem dX2_allSaidHolds_66 : decode cX2_allSaidHolds 66 = .ok (.ireturn, 1) := by decide +kernel
theorem dX2_carriedOf_0 : decode cX2_carriedOf 0 = .ok (.iconst 0, 1) := by decide +kernel
theorem dX2_carriedOf_1 : decode cX2_carriedOf 1 = .ok (.istore 4, 2) := by decide +kernel
theorem dX2_carriedOf_3 : decode cX2_carriedOf 3 = .ok (.iconst 0, 1) := by decide +kernel
theorem dX2_carriedOf_4 : decode cX2_carriedOf 4 = .ok (.istore 5, 2) := by decide +kernel
theorem dX2_carriedOf_6 : decode cX2_carriedOf 6 = .ok (.iload 5, 2) := by decide +kernel
theorem dX2_carriedOf_8 : decode cX2_carriedOf 8 = .ok (.bipush 8, 2) := by decide +kernel
theorem dX2_carriedOf_10 : decode cX2_carriedOf 10 = .ok (.if_icmp .ge 57, 3) := by decide +kernel
theorem dX2_carriedOf_13 : decode cX2_carriedOf 13 = .ok (.aload_n 0, 1) := by decide +kernel
theorem dX2_carriedOf_14 : decode cX2_carriedOf 14 = .ok (.iload 5, 2) := by decide +kernel
theorem dX2_carriedOf_16 : decode cX2_carriedOf 16 = .ok (.invokevirtual 95, 3) := by decide +kernel
theorem dX2_carriedOf_19 : decode cX2_carriedOf 19 = .ok (.ifCond .eq 42, 3) := by decide +kernel
theorem dX2_carriedOf_22 : decode cX2_carriedOf 22 = .ok (.iload_n 1, 1) := by decide +kernel
theorem dX2_carriedOf_23 : decode cX2_carriedOf 23 = .ok (.iload 5, 2) := by decide +kernel
theorem dX2_carriedOf_25 : decode cX2_carriedOf 25 = .ok (.invokestatic 46, 3) := by decide +kernel
theorem dX2_carriedOf_28 : decode cX2_carriedOf 28 = .ok (.ifCond .eq 33, 3) := by decide +kernel
theorem dX2_carriedOf_31 : decode cX2_carriedOf 31 = .ok (.iload 4, 2) := by decide +kernel
theorem dX2_carriedOf_33 : decode cX2_carriedOf 33 = .ok (.aload_n 0, 1) := by decide +kernel
theorem dX2_carriedOf_34 : decode cX2_carriedOf 34 = .ok (.getfield 24, 3) := by decide +kernel
theorem dX2_carriedOf_37 : decode cX2_carriedOf 37 = .ok (.iload 5, 2) := by decide +kernel
theorem dX2_carriedOf_39 : decode cX2_carriedOf 39 = .ok (.iaload, 1) := by decide +kernel
theorem dX2_carriedOf_40 : decode cX2_carriedOf 40 = .ok (.iload 5, 2) := by decide +kernel
theorem dX2_carriedOf_42 : decode cX2_carriedOf 42 = .ok (.iload_n 2, 1) := by decide +kernel
theorem dX2_carriedOf_43 : decode cX2_carriedOf 43 = .ok (.if_icmp .ne 7, 3) := by decide +kernel
theorem dX2_carriedOf_46 : decode cX2_carriedOf 46 = .ok (.iload_n 3, 1) := by decide +kernel
theorem dX2_carriedOf_47 : decode cX2_carriedOf 47 = .ok (.goto 10, 3) := by decide +kernel
theorem dX2_carriedOf_50 : decode cX2_carriedOf 50 = .ok (.aload_n 0, 1) := by decide +kernel
theorem dX2_carriedOf_51 : decode cX2_carriedOf 51 = .ok (.getfield 27, 3) := by decide +kernel
theorem dX2_carriedOf_54 : decode cX2_carriedOf 54 = .ok (.iload 5, 2) := by decide +kernel
theorem dX2_carriedOf_56 : decode cX2_carriedOf 56 = .ok (.iaload, 1) := by decide +kernel
theorem dX2_carriedOf_57 : decode cX2_carriedOf 57 = .ok (.iadd, 1) := by decide +kernel
theorem dX2_carriedOf_58 : decode cX2_carriedOf 58 = .ok (.iadd, 1) := by decide +kernel
theorem dX2_carriedOf_59 : decode cX2_carriedOf 59 = .ok (.istore 4, 2) := by decide +kernel
theorem dX2_carriedOf_61 : decode cX2_carriedOf 61 = .ok (.iinc 5 1, 3) := by decide +kernel
theorem dX2_carriedOf_64 : decode cX2_carriedOf 64 = .ok (.goto (-58), 3) := by decide +kernel
theorem dX2_carriedOf_67 : decode cX2_carriedOf 67 = .ok (.iload 4, 2) := by decide +kernel
theorem dX2_carriedOf_69 : decode cX2_carriedOf 69 = .ok (.ireturn, 1) := by decide +kernel
theorem dX3_init_0 : decode cX3_init 0 = .ok (.aload_n 0, 1) := by decide +kernel
theorem dX3_init_1 : decode cX3_init 1 = .ok (.invokespecial 1, 3) := by decide +kernel
theorem dX3_init_4 : decode cX3_init 4 = .ok (.aload_n 0, 1) := by decide +kernel
theorem dX3_init_5 : decode cX3_init 5 = .ok (.new 7, 3) := by decide +kernel
theorem dX3_init_8 : decode cX3_init 8 = .ok (.dup, 1) := by decide +kernel
theorem dX3_init_9 : decode cX3_init 9 = .ok (.invokespecial 9, 3) := by decide +kernel
theorem dX3_init_12 : decode cX3_init 12 = .ok (.putfield 10, 3) := by decide +kernel
theorem dX3_init_15 : decode cX3_init 15 = .ok (.aload_n 0, 1) := by decide +kernel
theorem dX3_init_16 : decode cX3_init 16 = .ok (.new 16, 3) := by decide +kernel
theorem dX3_init_19 : decode cX3_init 19 = .ok (.dup, 1) := by decide +kernel
theorem dX3_init_20 : decode cX3_init 20 = .ok (.invokespecial 18, 3) := by decide +kernel
theorem dX3_init_23 : decode cX3_init 23 = .ok (.putfield 19, 3) := by decide +kernel
theorem dX3_init_26 : decode cX3_init 26 = .ok (.aload_n 0, 1) := by decide +kernel
theorem dX3_init_27 : decode cX3_init 27 = .ok (.new 16, 3) := by decide +kernel
theorem dX3_init_30 : decode cX3_init 30 = .ok (.dup, 1) := by decide +kernel
theorem dX3_init_31 : decode cX3_init 31 = .ok (.invokespecial 18, 3) := by decide +kernel
theorem dX3_init_34 : decode cX3_init 34 = .ok (.putfield 23, 3) := by decide +kernel
theorem dX3_init_37 : decode cX3_init 37 = .ok (.aload_n 0, 1) := by decide +kernel
theorem dX3_init_38 : decode cX3_init 38 = .ok (.new 16, 3) := by decide +kernel
theorem dX3_init_41 : decode cX3_init 41 = .ok (.dup, 1) := by decide +kernel
theorem dX3_init_42 : decode cX3_init 42 = .ok (.invokespecial 18, 3) := by decide +kernel
theorem dX3_init_45 : decode cX3_init 45 = .ok (.putfield 26, 3) := by decide +kernel
theorem dX3_init_48 : decode cX3_init 48 = .ok (.aload_n 0, 1) := by decide +kernel
theorem dX3_init_49 : decode cX3_init 49 = .ok (.new 29, 3) := by decide +kernel
theorem dX3_init_52 : decode cX3_init 52 = .ok (.dup, 1) := by decide +kernel
theorem dX3_init_53 : decode cX3_init 53 = .ok (.invokespecial 31, 3) := by decide +kernel
theorem dX3_init_56 : decode cX3_init 56 = .ok (.putfield 32, 3) := by decide +kernel
theorem dX3_init_59 : decode cX3_init 59 = .ok (.return_, 1) := by decide +kernel
theorem dX3_letter_0 : decode cX3_letter 0 = .ok (.iload_n 1, 1) := by decide +kernel
theorem dX3_letter_1 : decode cX3_letter 1 = .ok (.bipush 32, 2) := by decide +kernel
theorem dX3_letter_3 : decode cX3_letter 3 = .ok (.if_icmp .lt 9, 3) := by decide +kernel
theorem dX3_letter_6 : decode cX3_letter 6 = .ok (.iload_n 1, 1) := by decide +kernel
theorem dX3_letter_7 : decode cX3_letter 7 = .ok (.bipush 126, 2) := by decide +kernel
theorem dX3_letter_9 : decode cX3_letter 9 = .ok (.if_icmp .le 6, 3) := by decide +kernel
theorem dX3_letter_12 : decode cX3_letter 12 = .ok (.bipush (-102), 2) := by decide +kernel
theorem dX3_letter_14 : decode cX3_letter 14 = .ok (.ireturn, 1) := by decide +kernel
theorem dX3_letter_15 : decode cX3_letter 15 = .ok (.aload_n 0, 1) := by decide +kernel
theorem dX3_letter_16 : decode cX3_letter 16 = .ok (.getfield 10, 3) := by decide +kernel
theorem dX3_letter_19 : decode cX3_letter 19 = .ok (.iload_n 1, 1) := by decide +kernel
theorem dX3_letter_20 : decode cX3_letter 20 = .ok (.invokevirtual 36, 3) := by decide +kernel
theorem dX3_letter_23 : decode cX3_letter 23 = .ok (.ifCond .eq 13, 3) := by decide +kernel
theorem dX3_letter_26 : decode cX3_letter 26 = .ok (.aload_n 0, 1) := by decide +kernel
theorem dX3_letter_27 : decode cX3_letter 27 = .ok (.getfield 10, 3) := by decide +kernel
theorem dX3_letter_30 : decode cX3_letter 30 = .ok (.getfield 40, 3) := by decide +kernel
theorem dX3_letter_33 : decode cX3_letter 33 = .ok (.goto 5, 3) := by decide +kernel
theorem dX3_letter_36 : decode cX3_letter 36 = .ok (.bipush (-104), 2) := by decide +kernel
theorem dX3_letter_38 : decode cX3_letter 38 = .ok (.ireturn, 1) := by decide +kernel
theorem dX3_blank_0 : decode cX3_blank 0 = .ok (.aload_n 0, 1) := by decide +kernel
theorem dX3_blank_1 : decode cX3_blank 1 = .ok (.getfield 10, 3) := by decide +kernel
theorem dX3_blank_4 : decode cX3_blank 4 = .ok (.getfield 40, 3) := by decide +kernel
theorem dX3_blank_7 : decode cX3_blank 7 = .ok (.istore_n 1, 1) := by decide +kernel
theorem dX3_blank_8 : decode cX3_blank 8 = .ok (.aload_n 0, 1) := by decide +kernel
theorem dX3_blank_9 : decode cX3_blank 9 = .ok (.getfield 10, 3) := by decide +kernel
theorem dX3_blank_12 : decode cX3_blank 12 = .ok (.iconst 0, 1) := by decide +kernel
theorem dX3_blank_13 : decode cX3_blank 13 = .ok (.putfield 40, 3) := by decide +kernel
theorem dX3_blank_16 : decode cX3_blank 16 = .ok (.iload_n 1, 1) := by decide +kernel
theorem dX3_blank_17 : decode cX3_blank 17 = .ok (.ireturn, 1) := by decide +kernel
theorem dX3_fault_0 : decode cX3_fault 0 = .ok (.aload_n 0, 1) := by decide +kernel
theorem dX3_fault_1 : decode cX3_fault 1 = .ok (.getfield 10, 3) := by decide +kernel
theorem dX3_fault_4 : decode cX3_fault 4 = .ok (.invokevirtual 44, 3) := by decide +kernel
theorem dX3_fault_7 : decode cX3_fault 7 = .ok (.ireturn, 1) := by decide +kernel
theorem dX3_valley_0 : decode cX3_valley 0 = .ok (.aload_n 0, 1) := by decide +kernel
theorem dX3_valley_1 : decode cX3_valley 1 = .ok (.getfield 10, 3) := by decide +kernel
theorem dX3_valley_4 : decode cX3_valley 4 = .ok (.invokevirtual 48, 3) := by decide +kernel
theorem dX3_valley_7 : decode cX3_valley 7 = .ok (.ifCond .ne 6, 3) := by decide +kernel
theorem dX3_valley_10 : decode cX3_valley 10 = .ok (.bipush (-103), 2) := by decide +kernel
theorem dX3_valley_12 : decode cX3_valley 12 = .ok (.ireturn, 1) := by decide +kernel
theorem dX3_valley_13 : decode cX3_valley 13 = .ok (.aload_n 0, 1) := by decide +kernel
theorem dX3_valley_14 : decode cX3_valley 14 = .ok (.getfield 19, 3) := by decide +kernel
theorem dX3_valley_17 : decode cX3_valley 17 = .ok (.aload_n 0, 1) := by decide +kernel
theorem dX3_valley_18 : decode cX3_valley 18 = .ok (.getfield 10, 3) := by decide +kernel
theorem dX3_valley_21 : decode cX3_valley 21 = .ok (.invokevirtual 52, 3) := by decide +kernel
theorem dX3_valley_24 : decode cX3_valley 24 = .ok (.aload_n 0, 1) := by decide +kernel
theorem dX3_valley_25 : decode cX3_valley 25 = .ok (.getfield 10, 3) := by decide +kernel
theorem dX3_valley_28 : decode cX3_valley 28 = .ok (.iconst 0, 1) := by decide +kernel
theorem dX3_valley_29 : decode cX3_valley 29 = .ok (.putfield 40, 3) := by decide +kernel
theorem dX3_valley_32 : decode cX3_valley 32 = .ok (.aload_n 0, 1) := by decide +kernel
theorem dX3_valley_33 : decode cX3_valley 33 = .ok (.iconst 0, 1) := by decide +kernel
theorem dX3_valley_34 : decode cX3_valley 34 = .ok (.putfield 56, 3) := by decide +kernel
theorem dX3_valley_37 : decode cX3_valley 37 = .ok (.aload_n 0, 1) := by decide +kernel
theorem dX3_valley_38 : decode cX3_valley 38 = .ok (.dup, 1) := by decide +kernel
theorem dX3_valley_39 : decode cX3_valley 39 = .ok (.getfield 60, 3) := by decide +kernel
theorem dX3_valley_42 : decode cX3_valley 42 = .ok (.iconst 1, 1) := by decide +kernel
theorem dX3_valley_43 : decode cX3_valley 43 = .ok (.iadd, 1) := by decide +kernel
theorem dX3_valley_44 : decode cX3_valley 44 = .ok (.putfield 60, 3) := by decide +kernel
theorem dX3_valley_47 : decode cX3_valley 47 = .ok (.aload_n 0, 1) := by decide +kernel
theorem dX3_valley_48 : decode cX3_valley 48 = .ok (.getfield 19, 3) := by decide +kernel
theorem dX3_valley_51 : decode cX3_valley 51 = .ok (.getfield 63, 3) := by decide +kernel
theorem dX3_valley_54 : decode cX3_valley 54 = .ok (.ireturn, 1) := by decide +kernel
theorem dX3_about_0 : decode cX3_about 0 = .ok (.aload_n 0, 1) := by decide +kernel
theorem dX3_about_1 : decode cX3_about 1 = .ok (.getfield 19, 3) := by decide +kernel
theorem dX3_about_4 : decode cX3_about 4 = .ok (.iload_n 1, 1) := by decide +kernel
theorem dX3_about_5 : decode cX3_about 5 = .ok (.invokevirtual 66, 3) := by decide +kernel
theorem dX3_about_8 : decode cX3_about 8 = .ok (.ifCond .ne 6, 3) := by decide +kernel
theorem dX3_about_11 : decode cX3_about 11 = .ok (.bipush (-101), 2) := by decide +kernel
theorem dX3_about_13 : decode cX3_about 13 = .ok (.ireturn, 1) := by decide +kernel
theorem dX3_about_14 : decode cX3_about 14 = .ok (.iload_n 2, 1) := by decide +kernel
theorem dX3_about_15 : decode cX3_about 15 = .ok (.ifCond .lt 9, 3) := by decide +kernel
theorem dX3_about_18 : decode cX3_about 18 = .ok (.iload_n 2, 1) := by decide +kernel
theorem dX3_about_19 : decode cX3_about 19 = .ok (.bipush 7, 2) := by decide +kernel
theorem dX3_about_21 : decode cX3_about 21 = .ok (.if_icmp .le 6, 3) := by decide +kernel
theorem dX3_about_24 : decode cX3_about 24 = .ok (.bipush (-102), 2) := by decide +kernel
theorem dX3_about_26 : decode cX3_about 26 = .ok (.ireturn, 1) := by decide +kernel
theorem dX3_about_27 : decode cX3_about 27 = .ok (.aload_n 0, 1) := by decide +kernel
theorem dX3_about_28 : decode cX3_about 28 = .ok (.iload_n 1, 1) := by decide +kernel
theorem dX3_about_29 : decode cX3_about 29 = .ok (.iload_n 2, 1) := by decide +kernel
theorem dX3_about_30 : decode cX3_about 30 = .ok (.invokevirtual 69, 3) := by decide +kernel
theorem dX3_about_33 : decode cX3_about 33 = .ok (.ireturn, 1) := by decide +kernel
theorem dX3_as_0 : decode cX3_as 0 = .ok (.aload_n 0, 1) := by decide +kernel
theorem dX3_as_1 : decode cX3_as 1 = .ok (.getfield 19, 3) := by decide +kernel
theorem dX3_as_4 : decode cX3_as 4 = .ok (.iload_n 1, 1) := by decide +kernel
theorem dX3_as_5 : decode cX3_as 5 = .ok (.invokevirtual 66, 3) := by decide +kernel
theorem dX3_as_8 : decode cX3_as 8 = .ok (.ifCond .ne 6, 3) := by decide +kernel
theorem dX3_as_11 : decode cX3_as 11 = .ok (.bipush (-101), 2) := by decide +kernel
theorem dX3_as_13 : decode cX3_as 13 = .ok (.ireturn, 1) := by decide +kernel
theorem dX3_as_14 : decode cX3_as 14 = .ok (.iload_n 2, 1) := by decide +kernel
theorem dX3_as_15 : decode cX3_as 15 = .ok (.ifCond .lt 8, 3) := by decide +kernel
theorem dX3_as_18 : decode cX3_as 18 = .ok (.iload_n 2, 1) := by decide +kernel
theorem dX3_as_19 : decode cX3_as 19 = .ok (.iconst 4, 1) := by decide +kernel
theorem dX3_as_20 : decode cX3_as 20 = .ok (.if_icmp .le 6, 3) := by decide +kernel
theorem dX3_as_23 : decode cX3_as 23 = .ok (.bipush (-102), 2) := by decide +kernel
theorem dX3_as_25 : decode cX3_as 25 = .ok (.ireturn, 1) := by decide +kernel
theorem dX3_as_26 : decode cX3_as 26 = .ok (.aload_n 0, 1) := by decide +kernel
theorem dX3_as_27 : decode cX3_as 27 = .ok (.getfield 19, 3) := by decide +kernel
theorem dX3_as_30 : decode cX3_as 30 = .ok (.getfield 73, 3) := by decide +kernel
theorem dX3_as_33 : decode cX3_as 33 = .ok (.iload_n 1, 1) := by decide +kernel
theorem dX3_as_34 : decode cX3_as 34 = .ok (.iaload, 1) := by decide +kernel
theorem dX3_as_35 : decode cX3_as 35 = .ok (.iload_n 2, 1) := by decide +kernel
theorem dX3_as_36 : decode cX3_as 36 = .ok (.invokestatic 77, 3) := by decide +kernel
theorem dX3_as_39 : decode cX3_as 39 = .ok (.ifCond .eq 7, 3) := by decide +kernel
theorem dX3_as_42 : decode cX3_as 42 = .ok (.iload_n 1, 1) := by decide +kernel
theorem dX3_as_43 : decode cX3_as 43 = .ok (.goto 4, 3) := by decide +kernel
theorem dX3_as_46 : decode cX3_as 46 = .ok (.iconst (-1), 1) := by decide +kernel
theorem dX3_as_47 : decode cX3_as 47 = .ok (.ireturn, 1) := by decide +kernel
theorem dX3_loaf_0 : decode cX3_loaf 0 = .ok (.aload_n 0, 1) := by decide +kernel
theorem dX3_loaf_1 : decode cX3_loaf 1 = .ok (.getfield 19, 3) := by decide +kernel
theorem dX3_loaf_4 : decode cX3_loaf 4 = .ok (.iload_n 1, 1) := by decide +kernel
theorem dX3_loaf_5 : decode cX3_loaf 5 = .ok (.invokevirtual 81, 3) := by decide +kernel
theorem dX3_loaf_8 : decode cX3_loaf 8 = .ok (.ifCond .ne 6, 3) := by decide +kernel
theorem dX3_loaf_11 : decode cX3_loaf 11 = .ok (.bipush (-101), 2) := by decide +kernel
theorem dX3_loaf_13 : decode cX3_loaf 13 = .ok (.ireturn, 1) := by decide +kernel
theorem dX3_loaf_14 : decode cX3_loaf 14 = .ok (.iload_n 2, 1) := by decide +kernel
theorem dX3_loaf_15 : decode cX3_loaf 15 = .ok (.ifCond .lt 8, 3) := by decide +kernel
theorem dX3_loaf_18 : decode cX3_loaf 18 = .ok (.iload_n 2, 1) := by decide +kernel
theorem dX3_loaf_19 : decode cX3_loaf 19 = .ok (.iconst 4, 1) := by decide +kernel
theorem dX3_loaf_20 : decode cX3_loaf 20 = .ok (.if_icmp .le 6, 3) := by decide +kernel
theorem dX3_loaf_23 : decode cX3_loaf 23 = .ok (.bipush (-102), 2) := by decide +kernel
theorem dX3_loaf_25 : decode cX3_loaf 25 = .ok (.ireturn, 1) := by decide +kernel
theorem dX3_loaf_26 : decode cX3_loaf 26 = .ok (.aload_n 0, 1) := by decide +kernel
theorem dX3_loaf_27 : decode cX3_loaf 27 = .ok (.iload_n 1, 1) := by decide +kernel
theorem dX3_loaf_28 : decode cX3_loaf 28 = .ok (.iload_n 2, 1) := by decide +kernel
theorem dX3_loaf_29 : decode cX3_loaf 29 = .ok (.invokevirtual 84, 3) := by decide +kernel
theorem dX3_loaf_32 : decode cX3_loaf 32 = .ok (.ireturn, 1) := by decide +kernel
theorem dX3_eat_0 : decode cX3_eat 0 = .ok (.aload_n 0, 1) := by decide +kernel
theorem dX3_eat_1 : decode cX3_eat 1 = .ok (.getfield 19, 3) := by decide +kernel
theorem dX3_eat_4 : decode cX3_eat 4 = .ok (.iload_n 1, 1) := by decide +kernel
theorem dX3_eat_5 : decode cX3_eat 5 = .ok (.invokevirtual 66, 3) := by decide +kernel
theorem dX3_eat_8 : decode cX3_eat 8 = .ok (.ifCond .eq 14, 3) := by decide +kernel
theorem dX3_eat_11 : decode cX3_eat 11 = .ok (.aload_n 0, 1) := by decide +kernel
theorem dX3_eat_12 : decode cX3_eat 12 = .ok (.getfield 19, 3) := by decide +kernel
theorem dX3_eat_15 : decode cX3_eat 15 = .ok (.iload_n 2, 1) := by decide +kernel
theorem dX3_eat_16 : decode cX3_eat 16 = .ok (.invokevirtual 81, 3) := by decide +kernel
theorem dX3_eat_19 : decode cX3_eat 19 = .ok (.ifCond .ne 6, 3) := by decide +kernel
theorem dX3_eat_22 : decode cX3_eat 22 = .ok (.bipush (-101), 2) := by decide +kernel
theorem dX3_eat_24 : decode cX3_eat 24 = .ok (.ireturn, 1) := by decide +kernel
theorem dX3_eat_25 : decode cX3_eat 25 = .ok (.aload_n 0, 1) := by decide +kernel
theorem dX3_eat_26 : decode cX3_eat 26 = .ok (.getfield 19, 3) := by decide +kernel
theorem dX3_eat_29 : decode cX3_eat 29 = .ok (.iload_n 1, 1) := by decide +kernel
theorem dX3_eat_30 : decode cX3_eat 30 = .ok (.iload_n 2, 1) := by decide +kernel
theorem dX3_eat_31 : decode cX3_eat 31 = .ok (.invokevirtual 87, 3) := by decide +kernel
theorem dX3_eat_34 : decode cX3_eat 34 = .ok (.ifCond .ne 6, 3) := by decide +kernel
theorem dX3_eat_37 : decode cX3_eat 37 = .ok (.bipush (-103), 2) := by decide +kernel
theorem dX3_eat_39 : decode cX3_eat 39 = .ok (.ireturn, 1) := by decide +kernel
theorem dX3_eat_40 : decode cX3_eat 40 = .ok (.aload_n 0, 1) := by decide +kernel
theorem dX3_eat_41 : decode cX3_eat 41 = .ok (.getfield 19, 3) := by decide +kernel
theorem dX3_eat_44 : decode cX3_eat 44 = .ok (.iload_n 1, 1) := by decide +kernel
theorem dX3_eat_45 : decode cX3_eat 45 = .ok (.iload_n 2, 1) := by decide +kernel
theorem dX3_eat_46 : decode cX3_eat 46 = .ok (.invokevirtual 90, 3) := by decide +kernel
theorem dX3_eat_49 : decode cX3_eat 49 = .ok (.aload_n 0, 1) := by decide +kernel
theorem dX3_eat_50 : decode cX3_eat 50 = .ok (.getfield 19, 3) := by decide +kernel
theorem dX3_eat_53 : decode cX3_eat 53 = .ok (.getfield 94, 3) := by decide +kernel
theorem dX3_eat_56 : decode cX3_eat 56 = .ok (.iload_n 1, 1) := by decide +kernel
theorem dX3_eat_57 : decode cX3_eat 57 = .ok (.iaload, 1) := by decide +kernel
theorem dX3_eat_58 : decode cX3_eat 58 = .ok (.ireturn, 1) := by decide +kernel
theorem dX3_halve_0 : decode cX3_halve 0 = .ok (.aload_n 0, 1) := by decide +kernel
theorem dX3_halve_1 : decode cX3_halve 1 = .ok (.getfield 19, 3) := by decide +kernel
theorem dX3_halve_4 : decode cX3_halve 4 = .ok (.iload_n 1, 1) := by decide +kernel
theorem dX3_halve_5 : decode cX3_halve 5 = .ok (.invokevirtual 66, 3) := by decide +kernel
theorem dX3_halve_8 : decode cX3_halve 8 = .ok (.ifCond .eq 30, 3) := by decide +kernel
theorem dX3_halve_11 : decode cX3_halve 11 = .ok (.aload_n 0, 1) := by decide +kernel
theorem dX3_halve_12 : decode cX3_halve 12 = .ok (.getfield 19, 3) := by decide +kernel
theorem dX3_halve_15 : decode cX3_halve 15 = .ok (.iload_n 2, 1) := by decide +kernel
theorem dX3_halve_16 : decode cX3_halve 16 = .ok (.invokevirtual 66, 3) := by decide +kernel
theorem dX3_halve_19 : decode cX3_halve 19 = .ok (.ifCond .eq 19, 3) := by decide +kernel
theorem dX3_halve_22 : decode cX3_halve 22 = .ok (.iload_n 1, 1) := by decide +kernel
theorem dX3_halve_23 : decode cX3_halve 23 = .ok (.iload_n 2, 1) := by decide +kernel
theorem dX3_halve_24 : decode cX3_halve 24 = .ok (.if_icmp .eq 14, 3) := by decide +kernel
theorem dX3_halve_27 : decode cX3_halve 27 = .ok (.aload_n 0, 1) := by decide +kernel
theorem dX3_halve_28 : decode cX3_halve 28 = .ok (.getfield 19, 3) := by decide +kernel
theorem dX3_halve_31 : decode cX3_halve 31 = .ok (.iload_n 3, 1) := by decide +kernel
theorem dX3_halve_32 : decode cX3_halve 32 = .ok (.invokevirtual 81, 3) := by decide +kernel
theorem dX3_halve_35 : decode cX3_halve 35 = .ok (.ifCond .ne 6, 3) := by decide +kernel
theorem dX3_halve_38 : decode cX3_halve 38 = .ok (.bipush (-101), 2) := by decide +kernel
theorem dX3_halve_40 : decode cX3_halve 40 = .ok (.ireturn, 1) := by decide +kernel
theorem dX3_halve_41 : decode cX3_halve 41 = .ok (.aload_n 0, 1) := by decide +kernel
theorem dX3_halve_42 : decode cX3_halve 42 = .ok (.getfield 19, 3) := by decide +kernel
theorem dX3_halve_45 : decode cX3_halve 45 = .ok (.iload_n 1, 1) := by decide +kernel
theorem dX3_halve_46 : decode cX3_halve 46 = .ok (.iload_n 3, 1) := by decide +kernel
theorem dX3_halve_47 : decode cX3_halve 47 = .ok (.invokevirtual 87, 3) := by decide +kernel
theorem dX3_halve_50 : decode cX3_halve 50 = .ok (.ifCond .eq 15, 3) := by decide +kernel
theorem dX3_halve_53 : decode cX3_halve 53 = .ok (.aload_n 0, 1) := by decide +kernel
theorem dX3_halve_54 : decode cX3_halve 54 = .ok (.getfield 19, 3) := by decide +kernel
theorem dX3_halve_57 : decode cX3_halve 57 = .ok (.iload_n 2, 1) := by decide +kernel
theorem dX3_halve_58 : decode cX3_halve 58 = .ok (.iload_n 3, 1) := by decide +kernel
theorem dX3_halve_59 : decode cX3_halve 59 = .ok (.invokevirtual 87, 3) := by decide +kernel
theorem dX3_halve_62 : decode cX3_halve 62 = .ok (.ifCond .ne 6, 3) := by decide +kernel
theorem dX3_halve_65 : decode cX3_halve 65 = .ok (.bipush (-103), 2) := by decide +kernel
theorem dX3_halve_67 : decode cX3_halve 67 = .ok (.ireturn, 1) := by decide +kernel
theorem dX3_halve_68 : decode cX3_halve 68 = .ok (.aload_n 0, 1) := by decide +kernel
theorem dX3_halve_69 : decode cX3_halve 69 = .ok (.getfield 19, 3) := by decide +kernel
theorem dX3_halve_72 : decode cX3_halve 72 = .ok (.iload_n 1, 1) := by decide +kernel
theorem dX3_halve_73 : decode cX3_halve 73 = .ok (.iload_n 2, 1) := by decide +kernel
theorem dX3_halve_74 : decode cX3_halve 74 = .ok (.iload_n 3, 1) := by decide +kernel
theorem dX3_halve_75 : decode cX3_halve 75 = .ok (.invokevirtual 97, 3) := by decide +kernel
theorem dX3_halve_78 : decode cX3_halve 78 = .ok (.aload_n 0, 1) := by decide +kernel
theorem dX3_halve_79 : decode cX3_halve 79 = .ok (.getfield 19, 3) := by decide +kernel
theorem dX3_halve_82 : decode cX3_halve 82 = .ok (.getfield 94, 3) := by decide +kernel
theorem dX3_halve_85 : decode cX3_halve 85 = .ok (.iload_n 1, 1) := by decide +kernel
theorem dX3_halve_86 : decode cX3_halve 86 = .ok (.iaload, 1) := by decide +kernel
theorem dX3_halve_87 : decode cX3_halve 87 = .ok (.aload_n 0, 1) := by decide +kernel
theorem dX3_halve_88 : decode cX3_halve 88 = .ok (.getfield 19, 3) := by decide +kernel
theorem dX3_halve_91 : decode cX3_halve 91 = .ok (.getfield 94, 3) := by decide +kernel
theorem dX3_halve_94 : decode cX3_halve 94 = .ok (.iload_n 2, 1) := by decide +kernel
theorem dX3_halve_95 : decode cX3_halve 95 = .ok (.iaload, 1) := by decide +kernel
theorem dX3_halve_96 : decode cX3_halve 96 = .ok (.iadd, 1) := by decide +kernel
theorem dX3_halve_97 : decode cX3_halve 97 = .ok (.ireturn, 1) := by decide +kernel
theorem dX3_winter_0 : decode cX3_winter 0 = .ok (.aload_n 0, 1) := by decide +kernel
theorem dX3_winter_1 : decode cX3_winter 1 = .ok (.getfield 19, 3) := by decide +kernel
theorem dX3_winter_4 : decode cX3_winter 4 = .ok (.invokevirtual 101, 3) := by decide +kernel
theorem dX3_winter_7 : decode cX3_winter 7 = .ok (.ifCond .ne 6, 3) := by decide +kernel
theorem dX3_winter_10 : decode cX3_winter 10 = .ok (.bipush (-103), 2) := by decide +kernel
theorem dX3_winter_12 : decode cX3_winter 12 = .ok (.ireturn, 1) := by decide +kernel
theorem dX3_winter_13 : decode cX3_winter 13 = .ok (.aload_n 0, 1) := by decide +kernel
theorem dX3_winter_14 : decode cX3_winter 14 = .ok (.getfield 19, 3) := by decide +kernel
theorem dX3_winter_17 : decode cX3_winter 17 = .ok (.invokevirtual 104, 3) := by decide +kernel
theorem dX3_winter_20 : decode cX3_winter 20 = .ok (.aload_n 0, 1) := by decide +kernel
theorem dX3_winter_21 : decode cX3_winter 21 = .ok (.getfield 19, 3) := by decide +kernel
theorem dX3_winter_24 : decode cX3_winter 24 = .ok (.getfield 94, 3) := by decide +kernel
theorem dX3_winter_27 : decode cX3_winter 27 = .ok (.invokestatic 107, 3) := by decide +kernel
theorem dX3_winter_30 : decode cX3_winter 30 = .ok (.ireturn, 1) := by decide +kernel
theorem dX3_die_0 : decode cX3_die 0 = .ok (.aload_n 0, 1) := by decide +kernel
theorem dX3_die_1 : decode cX3_die 1 = .ok (.getfield 19, 3) := by decide +kernel
theorem dX3_die_4 : decode cX3_die 4 = .ok (.iload_n 1, 1) := by decide +kernel
theorem dX3_die_5 : decode cX3_die 5 = .ok (.invokevirtual 66, 3) := by decide +kernel
theorem dX3_die_8 : decode cX3_die 8 = .ok (.ifCond .ne 6, 3) := by decide +kernel
theorem dX3_die_11 : decode cX3_die 11 = .ok (.bipush (-101), 2) := by decide +kernel
theorem dX3_die_13 : decode cX3_die 13 = .ok (.ireturn, 1) := by decide +kernel
theorem dX3_die_14 : decode cX3_die 14 = .ok (.aload_n 0, 1) := by decide +kernel
theorem dX3_die_15 : decode cX3_die 15 = .ok (.getfield 19, 3) := by decide +kernel
theorem dX3_die_18 : decode cX3_die 18 = .ok (.iload_n 1, 1) := by decide +kernel
theorem dX3_die_19 : decode cX3_die 19 = .ok (.invokevirtual 111, 3) := by decide +kernel
theorem dX3_die_22 : decode cX3_die 22 = .ok (.ifCond .ne 6, 3) := by decide +kernel
theorem dX3_die_25 : decode cX3_die 25 = .ok (.bipush (-103), 2) := by decide +kernel
theorem dX3_die_27 : decode cX3_die 27 = .ok (.ireturn, 1) := by decide +kernel
theorem dX3_die_28 : decode cX3_die 28 = .ok (.aload_n 0, 1) := by decide +kernel
theorem dX3_die_29 : decode cX3_die 29 = .ok (.getfield 19, 3) := by decide +kernel
theorem dX3_die_32 : decode cX3_die 32 = .ok (.getfield 63, 3) := by decide +kernel
theorem dX3_die_35 : decode cX3_die 35 = .ok (.bipush 8, 2) := by decide +kernel
theorem dX3_die_37 : decode cX3_die 37 = .ok (.if_icmp .lt 6, 3) := by decide +kernel
theorem dX3_die_40 : decode cX3_die 40 = .ok (.bipush (-104), 2) := by decide +kernel
theorem dX3_die_42 : decode cX3_die 42 = .ok (.ireturn, 1) := by decide +kernel
theorem dX3_die_43 : decode cX3_die 43 = .ok (.aload_n 0, 1) := by decide +kernel
theorem dX3_die_44 : decode cX3_die 44 = .ok (.getfield 19, 3) := by decide +kernel
theorem dX3_die_47 : decode cX3_die 47 = .ok (.iload_n 1, 1) := by decide +kernel
theorem dX3_die_48 : decode cX3_die 48 = .ok (.invokevirtual 114, 3) := by decide +kernel
theorem dX3_die_51 : decode cX3_die 51 = .ok (.ireturn, 1) := by decide +kernel
theorem dX3_spread_0 : decode cX3_spread 0 = .ok (.iload_n 1, 1) := by decide +kernel
theorem dX3_spread_1 : decode cX3_spread 1 = .ok (.bipush 10, 2) := by decide +kernel
theorem dX3_spread_3 : decode cX3_spread 3 = .ok (.isub, 1) := by decide +kernel
theorem dX3_spread_4 : decode cX3_spread 4 = .ok (.istore_n 2, 1) := by decide +kernel
theorem dX3_spread_5 : decode cX3_spread 5 = .ok (.iload_n 1, 1) := by decide +kernel
theorem dX3_spread_6 : decode cX3_spread 6 = .ok (.bipush 10, 2) := by decide +kernel
theorem dX3_spread_8 : decode cX3_spread 8 = .ok (.if_icmp .lt 13, 3) := by decide +kernel
theorem dX3_spread_11 : decode cX3_spread 11 = .ok (.iload_n 2, 1) := by decide +kernel
theorem dX3_spread_12 : decode cX3_spread 12 = .ok (.bipush 8, 2) := by decide +kernel
theorem dX3_spread_14 : decode cX3_spread 14 = .ok (.if_icmp .ge 7, 3) := by decide +kernel
theorem dX3_spread_17 : decode cX3_spread 17 = .ok (.iconst 1, 1) := by decide +kernel
theorem dX3_spread_18 : decode cX3_spread 18 = .ok (.goto 4, 3) := by decide +kernel
theorem dX3_spread_21 : decode cX3_spread 21 = .ok (.iconst 0, 1) := by decide +kernel
theorem dX3_spread_22 : decode cX3_spread 22 = .ok (.istore_n 3, 1) := by decide +kernel
theorem dX3_spread_23 : decode cX3_spread 23 = .ok (.iload_n 1, 1) := by decide +kernel
theorem dX3_spread_24 : decode cX3_spread 24 = .ok (.ifCond .eq 10, 3) := by decide +kernel
theorem dX3_spread_27 : decode cX3_spread 27 = .ok (.iload_n 3, 1) := by decide +kernel
theorem dX3_spread_28 : decode cX3_spread 28 = .ok (.ifCond .ne 6, 3) := by decide +kernel
theorem dX3_spread_31 : decode cX3_spread 31 = .ok (.bipush (-102), 2) := by decide +kernel
theorem dX3_spread_33 : decode cX3_spread 33 = .ok (.ireturn, 1) := by decide +kernel
theorem dX3_spread_34 : decode cX3_spread 34 = .ok (.aload_n 0, 1) := by decide +kernel
theorem dX3_spread_35 : decode cX3_spread 35 = .ok (.getfield 19, 3) := by decide +kernel
theorem dX3_spread_38 : decode cX3_spread 38 = .ok (.invokevirtual 101, 3) := by decide +kernel
theorem dX3_spread_41 : decode cX3_spread 41 = .ok (.ifCond .eq 12, 3) := by decide +kernel
theorem dX3_spread_44 : decode cX3_spread 44 = .ok (.aload_n 0, 1) := by decide +kernel
theorem dX3_spread_45 : decode cX3_spread 45 = .ok (.getfield 118, 3) := by decide +kernel
theorem dX3_spread_48 : decode cX3_spread 48 = .ok (.bipush 12, 2) := by decide +kernel
theorem dX3_spread_50 : decode cX3_spread 50 = .ok (.if_icmp .lt 6, 3) := by decide +kernel
theorem dX3_spread_53 : decode cX3_spread 53 = .ok (.bipush (-103), 2) := by decide +kernel
theorem dX3_spread_55 : decode cX3_spread 55 = .ok (.ireturn, 1) := by decide +kernel
theorem dX3_spread_56 : decode cX3_spread 56 = .ok (.aload_n 0, 1) := by decide +kernel
theorem dX3_spread_57 : decode cX3_spread 57 = .ok (.dup, 1) := by decide +kernel
theorem dX3_spread_58 : decode cX3_spread 58 = .ok (.getfield 118, 3) := by decide +kernel
theorem dX3_spread_61 : decode cX3_spread 61 = .ok (.iconst 1, 1) := by decide +kernel
theorem dX3_spread_62 : decode cX3_spread 62 = .ok (.iadd, 1) := by decide +kernel
theorem dX3_spread_63 : decode cX3_spread 63 = .ok (.putfield 118, 3) := by decide +kernel
theorem dX3_spread_66 : decode cX3_spread 66 = .ok (.aload_n 0, 1) := by decide +kernel
theorem dX3_spread_67 : decode cX3_spread 67 = .ok (.getfield 26, 3) := by decide +kernel
theorem dX3_spread_70 : decode cX3_spread 70 = .ok (.aload_n 0, 1) := by decide +kernel
theorem dX3_spread_71 : decode cX3_spread 71 = .ok (.getfield 19, 3) := by decide +kernel
theorem dX3_spread_74 : decode cX3_spread 74 = .ok (.invokevirtual 121, 3) := by decide +kernel
theorem dX3_spread_77 : decode cX3_spread 77 = .ok (.aload_n 0, 1) := by decide +kernel
theorem dX3_spread_78 : decode cX3_spread 78 = .ok (.getfield 32, 3) := by decide +kernel
theorem dX3_spread_81 : decode cX3_spread 81 = .ok (.invokevirtual 125, 3) := by decide +kernel
theorem dX3_spread_84 : decode cX3_spread 84 = .ok (.iconst 0, 1) := by decide +kernel
theorem dX3_spread_85 : decode cX3_spread 85 = .ok (.aload_n 0, 1) := by decide +kernel
theorem dX3_spread_86 : decode cX3_spread 86 = .ok (.getfield 26, 3) := by decide +kernel
theorem dX3_spread_89 : decode cX3_spread 89 = .ok (.getfield 94, 3) := by decide +kernel
theorem dX3_spread_92 : decode cX3_spread 92 = .ok (.invokestatic 128, 3) := by decide +kernel
theorem dX3_spread_95 : decode cX3_spread 95 = .ok (.aload_n 0, 1) := by decide +kernel
theorem dX3_spread_96 : decode cX3_spread 96 = .ok (.getfield 26, 3) := by decide +kernel
theorem dX3_spread_99 : decode cX3_spread 99 = .ok (.aload_n 0, 1) := by decide +kernel
theorem dX3_spread_100 : decode cX3_spread 100 = .ok (.getfield 32, 3) := by decide +kernel
theorem dX3_spread_103 : decode cX3_spread 103 = .ok (.invokestatic 131, 3) := by decide +kernel
theorem dX3_spread_106 : decode cX3_spread 106 = .ok (.aload_n 0, 1) := by decide +kernel
theorem dX3_spread_107 : decode cX3_spread 107 = .ok (.getfield 32, 3) := by decide +kernel
theorem dX3_spread_110 : decode cX3_spread 110 = .ok (.getfield 135, 3) := by decide +kernel
theorem dX3_spread_113 : decode cX3_spread 113 = .ok (.ifCond .ne 5, 3) := by decide +kernel
theorem dX3_spread_116 : decode cX3_spread 116 = .ok (.iconst (-1), 1) := by decide +kernel
theorem dX3_spread_117 : decode cX3_spread 117 = .ok (.ireturn, 1) := by decide +kernel
theorem dX3_spread_118 : decode cX3_spread 118 = .ok (.iload_n 3, 1) := by decide +kernel
theorem dX3_spread_119 : decode cX3_spread 119 = .ok (.ifCond .eq 15, 3) := by decide +kernel
theorem dX3_spread_122 : decode cX3_spread 122 = .ok (.aload_n 0, 1) := by decide +kernel
theorem dX3_spread_123 : decode cX3_spread 123 = .ok (.getfield 32, 3) := by decide +kernel
theorem dX3_spread_126 : decode cX3_spread 126 = .ok (.getfield 138, 3) := by decide +kernel
theorem dX3_spread_129 : decode cX3_spread 129 = .ok (.iload_n 2, 1) := by decide +kernel
theorem dX3_spread_130 : decode cX3_spread 130 = .ok (.iaload, 1) := by decide +kernel
theorem dX3_spread_131 : decode cX3_spread 131 = .ok (.goto 10, 3) := by decide +kernel
theorem dX3_spread_134 : decode cX3_spread 134 = .ok (.aload_n 0, 1) := by decide +kernel
theorem dX3_spread_135 : decode cX3_spread 135 = .ok (.getfield 32, 3) := by decide +kernel
theorem dX3_spread_138 : decode cX3_spread 138 = .ok (.getfield 141, 3) := by decide +kernel
theorem dX3_spread_141 : decode cX3_spread 141 = .ok (.ireturn, 1) := by decide +kernel
theorem dX3_say_0 : decode cX3_say 0 = .ok (.iload_n 1, 1) := by decide +kernel
theorem dX3_say_1 : decode cX3_say 1 = .ok (.ifCond .lt 26, 3) := by decide +kernel
theorem dX3_say_4 : decode cX3_say 4 = .ok (.iload_n 1, 1) := by decide +kernel
theorem dX3_say_5 : decode cX3_say 5 = .ok (.iconst 1, 1) := by decide +kernel
theorem dX3_say_6 : decode cX3_say 6 = .ok (.aload_n 0, 1) := by decide +kernel
theorem dX3_say_7 : decode cX3_say 7 = .ok (.getfield 19, 3) := by decide +kernel
theorem dX3_say_10 : decode cX3_say 10 = .ok (.getfield 63, 3) := by decide +kernel
theorem dX3_say_13 : decode cX3_say 13 = .ok (.ishl, 1) := by decide +kernel
theorem dX3_say_14 : decode cX3_say 14 = .ok (.if_icmp .ge 13, 3) := by decide +kernel
theorem dX3_say_17 : decode cX3_say 17 = .ok (.iload_n 2, 1) := by decide +kernel
theorem dX3_say_18 : decode cX3_say 18 = .ok (.ifCond .lt 9, 3) := by decide +kernel
theorem dX3_say_21 : decode cX3_say 21 = .ok (.iload_n 2, 1) := by decide +kernel
theorem dX3_say_22 : decode cX3_say 22 = .ok (.bipush 99, 2) := by decide +kernel
theorem dX3_say_24 : decode cX3_say 24 = .ok (.if_icmp .le 6, 3) := by decide +kernel
theorem dX3_say_27 : decode cX3_say 27 = .ok (.bipush (-102), 2) := by decide +kernel
theorem dX3_say_29 : decode cX3_say 29 = .ok (.ireturn, 1) := by decide +kernel
theorem dX3_say_30 : decode cX3_say 30 = .ok (.aload_n 0, 1) := by decide +kernel
theorem dX3_say_31 : decode cX3_say 31 = .ok (.getfield 19, 3) := by decide +kernel
theorem dX3_say_34 : decode cX3_say 34 = .ok (.invokevirtual 101, 3) := by decide +kernel
theorem dX3_say_37 : decode cX3_say 37 = .ok (.ifCond .ne 6, 3) := by decide +kernel
theorem dX3_say_40 : decode cX3_say 40 = .ok (.bipush (-103), 2) := by decide +kernel
theorem dX3_say_42 : decode cX3_say 42 = .ok (.ireturn, 1) := by decide +kernel
theorem dX3_say_43 : decode cX3_say 43 = .ok (.aload_n 0, 1) := by decide +kernel
theorem dX3_say_44 : decode cX3_say 44 = .ok (.getfield 19, 3) := by decide +kernel
theorem dX3_say_47 : decode cX3_say 47 = .ok (.getfield 144, 3) := by decide +kernel
theorem dX3_say_50 : decode cX3_say 50 = .ok (.bipush 6, 2) := by decide +kernel
theorem dX3_say_52 : decode cX3_say 52 = .ok (.if_icmp .lt 6, 3) := by decide +kernel
theorem dX3_say_55 : decode cX3_say 55 = .ok (.bipush (-104), 2) := by decide +kernel
theorem dX3_say_57 : decode cX3_say 57 = .ok (.ireturn, 1) := by decide +kernel
theorem dX3_say_58 : decode cX3_say 58 = .ok (.aload_n 0, 1) := by decide +kernel
theorem dX3_say_59 : decode cX3_say 59 = .ok (.getfield 19, 3) := by decide +kernel
theorem dX3_say_62 : decode cX3_say 62 = .ok (.iload_n 1, 1) := by decide +kernel
theorem dX3_say_63 : decode cX3_say 63 = .ok (.iload_n 2, 1) := by decide +kernel
theorem dX3_say_64 : decode cX3_say 64 = .ok (.iload_n 3, 1) := by decide +kernel
theorem dX3_say_65 : decode cX3_say 65 = .ok (.invokevirtual 147, 3) := by decide +kernel
theorem dX3_say_68 : decode cX3_say 68 = .ok (.aload_n 0, 1) := by decide +kernel
theorem dX3_say_69 : decode cX3_say 69 = .ok (.getfield 19, 3) := by decide +kernel
theorem dX3_say_72 : decode cX3_say 72 = .ok (.getfield 144, 3) := by decide +kernel
theorem dX3_say_75 : decode cX3_say 75 = .ok (.ireturn, 1) := by decide +kernel
theorem dX3_forget_0 : decode cX3_forget 0 = .ok (.aload_n 0, 1) := by decide +kernel
theorem dX3_forget_1 : decode cX3_forget 1 = .ok (.getfield 19, 3) := by decide +kernel
theorem dX3_forget_4 : decode cX3_forget 4 = .ok (.getfield 144, 3) := by decide +kernel
theorem dX3_forget_7 : decode cX3_forget 7 = .ok (.istore_n 1, 1) := by decide +kernel
theorem dX3_forget_8 : decode cX3_forget 8 = .ok (.aload_n 0, 1) := by decide +kernel
theorem dX3_forget_9 : decode cX3_forget 9 = .ok (.getfield 19, 3) := by decide +kernel
theorem dX3_forget_12 : decode cX3_forget 12 = .ok (.iconst 0, 1) := by decide +kernel
theorem dX3_forget_13 : decode cX3_forget 13 = .ok (.putfield 144, 3) := by decide +kernel
theorem dX3_forget_16 : decode cX3_forget 16 = .ok (.iload_n 1, 1) := by decide +kernel
theorem dX3_forget_17 : decode cX3_forget 17 = .ok (.ireturn, 1) := by decide +kernel
theorem dX3_winters_0 : decode cX3_winters 0 = .ok (.iload_n 1, 1) := by decide +kernel
theorem dX3_winters_1 : decode cX3_winters 1 = .ok (.iconst 1, 1) := by decide +kernel
theorem dX3_winters_2 : decode cX3_winters 2 = .ok (.if_icmp .lt 22, 3) := by decide +kernel
theorem dX3_winters_5 : decode cX3_winters 5 = .ok (.iload_n 1, 1) := by decide +kernel
theorem dX3_winters_6 : decode cX3_winters 6 = .ok (.bipush 60, 2) := by decide +kernel
theorem dX3_winters_8 : decode cX3_winters 8 = .ok (.if_icmp .gt 16, 3) := by decide +kernel
theorem dX3_winters_11 : decode cX3_winters 11 = .ok (.iload_n 2, 1) := by decide +kernel
theorem dX3_winters_12 : decode cX3_winters 12 = .ok (.ifCond .lt 12, 3) := by decide +kernel
theorem dX3_winters_15 : decode cX3_winters 15 = .ok (.iload_n 3, 1) := by decide +kernel
theorem dX3_winters_16 : decode cX3_winters 16 = .ok (.ifCond .lt 8, 3) := by decide +kernel
theorem dX3_winters_19 : decode cX3_winters 19 = .ok (.iload_n 3, 1) := by decide +kernel
theorem dX3_winters_20 : decode cX3_winters 20 = .ok (.iconst 2, 1) := by decide +kernel
theorem dX3_winters_21 : decode cX3_winters 21 = .ok (.if_icmp .le 6, 3) := by decide +kernel
theorem dX3_winters_24 : decode cX3_winters 24 = .ok (.bipush (-102), 2) := by decide +kernel
theorem dX3_winters_26 : decode cX3_winters 26 = .ok (.ireturn, 1) := by decide +kernel
theorem dX3_winters_27 : decode cX3_winters 27 = .ok (.aload_n 0, 1) := by decide +kernel
theorem dX3_winters_28 : decode cX3_winters 28 = .ok (.getfield 19, 3) := by decide +kernel
theorem dX3_winters_31 : decode cX3_winters 31 = .ok (.invokevirtual 101, 3) := by decide +kernel
theorem dX3_winters_34 : decode cX3_winters 34 = .ok (.ifCond .ne 6, 3) := by decide +kernel
theorem dX3_winters_37 : decode cX3_winters 37 = .ok (.bipush (-103), 2) := by decide +kernel
theorem dX3_winters_39 : decode cX3_winters 39 = .ok (.ireturn, 1) := by decide +kernel
theorem dX3_winters_40 : decode cX3_winters 40 = .ok (.aload_n 0, 1) := by decide +kernel
theorem dX3_winters_41 : decode cX3_winters 41 = .ok (.iload_n 1, 1) := by decide +kernel
theorem dX3_winters_42 : decode cX3_winters 42 = .ok (.iload_n 2, 1) := by decide +kernel
theorem dX3_winters_43 : decode cX3_winters 43 = .ok (.invokevirtual 151, 3) := by decide +kernel
theorem dX3_winters_46 : decode cX3_winters 46 = .ok (.istore 4, 2) := by decide +kernel
theorem dX3_winters_48 : decode cX3_winters 48 = .ok (.iload_n 3, 1) := by decide +kernel
theorem dX3_winters_49 : decode cX3_winters 49 = .ok (.lookupswitch 49 #[(0, 27), (1, 38)], 27) := by decide +kernel
theorem dX3_winters_76 : decode cX3_winters 76 = .ok (.aload_n 0, 1) := by decide +kernel
theorem dX3_winters_77 : decode cX3_winters 77 = .ok (.getfield 26, 3) := by decide +kernel
theorem dX3_winters_80 : decode cX3_winters 80 = .ok (.getfield 154, 3) := by decide +kernel
theorem dX3_winters_83 : decode cX3_winters 83 = .ok (.invokestatic 157, 3) := by decide +kernel
theorem dX3_winters_86 : decode cX3_winters 86 = .ok (.ireturn, 1) := by decide +kernel
theorem dX3_winters_87 : decode cX3_winters 87 = .ok (.aload_n 0, 1) := by decide +kernel
theorem dX3_winters_88 : decode cX3_winters 88 = .ok (.getfield 26, 3) := by decide +kernel
theorem dX3_winters_91 : decode cX3_winters 91 = .ok (.getfield 94, 3) := by decide +kernel
theorem dX3_winters_94 : decode cX3_winters 94 = .ok (.invokestatic 107, 3) := by decide +kernel
theorem dX3_winters_97 : decode cX3_winters 97 = .ok (.ireturn, 1) := by decide +kernel
theorem dX3_winters_98 : decode cX3_winters 98 = .ok (.iload 4, 2) := by decide +kernel
theorem dX3_winters_100 : decode cX3_winters 100 = .ok (.ireturn, 1) := by decide +kernel
theorem dX3_image_0 : decode cX3_image 0 = .ok (.aload_n 0, 1) := by decide +kernel
theorem dX3_image_1 : decode cX3_image 1 = .ok (.getfield 19, 3) := by decide +kernel
theorem dX3_image_4 : decode cX3_image 4 = .ok (.invokevirtual 101, 3) := by decide +kernel
theorem dX3_image_7 : decode cX3_image 7 = .ok (.ifCond .ne 6, 3) := by decide +kernel
theorem dX3_image_10 : decode cX3_image 10 = .ok (.bipush (-103), 2) := by decide +kernel
theorem dX3_image_12 : decode cX3_image 12 = .ok (.ireturn, 1) := by decide +kernel
theorem dX3_image_13 : decode cX3_image 13 = .ok (.aload_n 0, 1) := by decide +kernel
theorem dX3_image_14 : decode cX3_image 14 = .ok (.getfield 23, 3) := by decide +kernel
theorem dX3_image_17 : decode cX3_image 17 = .ok (.aload_n 0, 1) := by decide +kernel
theorem dX3_image_18 : decode cX3_image 18 = .ok (.getfield 19, 3) := by decide +kernel
theorem dX3_image_21 : decode cX3_image 21 = .ok (.invokevirtual 121, 3) := by decide +kernel
theorem dX3_image_24 : decode cX3_image 24 = .ok (.aload_n 0, 1) := by decide +kernel
theorem dX3_image_25 : decode cX3_image 25 = .ok (.iconst 1, 1) := by decide +kernel
theorem dX3_image_26 : decode cX3_image 26 = .ok (.putfield 56, 3) := by decide +kernel
theorem dX3_image_29 : decode cX3_image 29 = .ok (.aload_n 0, 1) := by decide +kernel
theorem dX3_image_30 : decode cX3_image 30 = .ok (.getfield 23, 3) := by decide +kernel
theorem dX3_image_33 : decode cX3_image 33 = .ok (.getfield 154, 3) := by decide +kernel
theorem dX3_image_36 : decode cX3_image 36 = .ok (.invokestatic 157, 3) := by decide +kernel
theorem dX3_image_39 : decode cX3_image 39 = .ok (.ireturn, 1) := by decide +kernel
theorem dX3_restore_0 : decode cX3_restore 0 = .ok (.aload_n 0, 1) := by decide +kernel
theorem dX3_restore_1 : decode cX3_restore 1 = .ok (.getfield 56, 3) := by decide +kernel
theorem dX3_restore_4 : decode cX3_restore 4 = .ok (.ifCond .ne 6, 3) := by decide +kernel
theorem dX3_restore_7 : decode cX3_restore 7 = .ok (.bipush (-103), 2) := by decide +kernel
theorem dX3_restore_9 : decode cX3_restore 9 = .ok (.ireturn, 1) := by decide +kernel
theorem dX3_restore_10 : decode cX3_restore 10 = .ok (.aload_n 0, 1) := by decide +kernel
theorem dX3_restore_11 : decode cX3_restore 11 = .ok (.getfield 19, 3) := by decide +kernel
theorem dX3_restore_14 : decode cX3_restore 14 = .ok (.aload_n 0, 1) := by decide +kernel
theorem dX3_restore_15 : decode cX3_restore 15 = .ok (.getfield 23, 3) := by decide +kernel
theorem dX3_restore_18 : decode cX3_restore 18 = .ok (.invokevirtual 121, 3) := by decide +kernel
theorem dX3_restore_21 : decode cX3_restore 21 = .ok (.aload_n 0, 1) := by decide +kernel
theorem dX3_restore_22 : decode cX3_restore 22 = .ok (.getfield 19, 3) := by decide +kernel
theorem dX3_restore_25 : decode cX3_restore 25 = .ok (.getfield 154, 3) := by decide +kernel
theorem dX3_restore_28 : decode cX3_restore 28 = .ok (.invokestatic 157, 3) := by decide +kernel
theorem dX3_restore_31 : decode cX3_restore 31 = .ok (.ireturn, 1) := by decide +kernel
theorem dX3_count_0 : decode cX3_count 0 = .ok (.iload_n 1, 1) := by decide +kernel
theorem dX3_count_1 : decode cX3_count 1 = .ok (.tableswitch 153 0 10 #[59, 67, 78, 86, 97, 108, 119, 127, 135, 143, 148], 59) := by decide +kernel
theorem dX3_count_60 : decode cX3_count 60 = .ok (.aload_n 0, 1) := by decide +kernel
theorem dX3_count_61 : decode cX3_count 61 = .ok (.getfield 19, 3) := by decide +kernel
theorem dX3_count_64 : decode cX3_count 64 = .ok (.getfield 162, 3) := by decide +kernel
theorem dX3_count_67 : decode cX3_count 67 = .ok (.ireturn, 1) := by decide +kernel
theorem dX3_count_68 : decode cX3_count 68 = .ok (.aload_n 0, 1) := by decide +kernel
theorem dX3_count_69 : decode cX3_count 69 = .ok (.getfield 19, 3) := by decide +kernel
theorem dX3_count_72 : decode cX3_count 72 = .ok (.getfield 165, 3) := by decide +kernel
theorem dX3_count_75 : decode cX3_count 75 = .ok (.invokestatic 157, 3) := by decide +kernel
theorem dX3_count_78 : decode cX3_count 78 = .ok (.ireturn, 1) := by decide +kernel
theorem dX3_count_79 : decode cX3_count 79 = .ok (.aload_n 0, 1) := by decide +kernel
theorem dX3_count_80 : decode cX3_count 80 = .ok (.getfield 19, 3) := by decide +kernel
theorem dX3_count_83 : decode cX3_count 83 = .ok (.getfield 63, 3) := by decide +kernel
theorem dX3_count_86 : decode cX3_count 86 = .ok (.ireturn, 1) := by decide +kernel
theorem dX3_count_87 : decode cX3_count 87 = .ok (.aload_n 0, 1) := by decide +kernel
theorem dX3_count_88 : decode cX3_count 88 = .ok (.getfield 19, 3) := by decide +kernel
theorem dX3_count_91 : decode cX3_count 91 = .ok (.getfield 154, 3) := by decide +kernel
theorem dX3_count_94 : decode cX3_count 94 = .ok (.invokestatic 157, 3) := by decide +kernel
theorem dX3_count_97 : decode cX3_count 97 = .ok (.ireturn, 1) := by decide +kernel
theorem dX3_count_98 : decode cX3_count 98 = .ok (.aload_n 0, 1) := by decide +kernel
theorem dX3_count_99 : decode cX3_count 99 = .ok (.getfield 19, 3) := by decide +kernel
theorem dX3_count_102 : decode cX3_count 102 = .ok (.getfield 94, 3) := by decide +kernel
theorem dX3_count_105 : decode cX3_count 105 = .ok (.invokestatic 107, 3) := by decide +kernel
theorem dX3_count_108 : decode cX3_count 108 = .ok (.ireturn, 1) := by decide +kernel
theorem dX3_count_109 : decode cX3_count 109 = .ok (.aload_n 0, 1) := by decide +kernel
theorem dX3_count_110 : decode cX3_count 110 = .ok (.getfield 19, 3) := by decide +kernel
theorem dX3_count_113 : decode cX3_count 113 = .ok (.getfield 168, 3) := by decide +kernel
theorem dX3_count_116 : decode cX3_count 116 = .ok (.invokestatic 107, 3) := by decide +kernel
theorem dX3_count_119 : decode cX3_count 119 = .ok (.ireturn, 1) := by decide +kernel
theorem dX3_count_120 : decode cX3_count 120 = .ok (.aload_n 0, 1) := by decide +kernel
theorem dX3_count_121 : decode cX3_count 121 = .ok (.getfield 19, 3) := by decide +kernel
theorem dX3_count_124 : decode cX3_count 124 = .ok (.getfield 171, 3) := by decide +kernel
theorem dX3_count_127 : decode cX3_count 127 = .ok (.ireturn, 1) := by decide +kernel
theorem dX3_count_128 : decode cX3_count 128 = .ok (.aload_n 0, 1) := by decide +kernel
theorem dX3_count_129 : decode cX3_count 129 = .ok (.getfield 19, 3) := by decide +kernel
theorem dX3_count_132 : decode cX3_count 132 = .ok (.getfield 144, 3) := by decide +kernel
theorem dX3_count_135 : decode cX3_count 135 = .ok (.ireturn, 1) := by decide +kernel
theorem dX3_count_136 : decode cX3_count 136 = .ok (.aload_n 0, 1) := by decide +kernel
theorem dX3_count_137 : decode cX3_count 137 = .ok (.getfield 10, 3) := by decide +kernel
theorem dX3_count_140 : decode cX3_count 140 = .ok (.getfield 40, 3) := by decide +kernel
theorem dX3_count_143 : decode cX3_count 143 = .ok (.ireturn, 1) := by decide +kernel
theorem dX3_count_144 : decode cX3_count 144 = .ok (.aload_n 0, 1) := by decide +kernel
theorem dX3_count_145 : decode cX3_count 145 = .ok (.getfield 60, 3) := by decide +kernel
theorem dX3_count_148 : decode cX3_count 148 = .ok (.ireturn, 1) := by decide +kernel
theorem dX3_count_149 : decode cX3_count 149 = .ok (.aload_n 0, 1) := by decide +kernel
theorem dX3_count_150 : decode cX3_count 150 = .ok (.getfield 118, 3) := by decide +kernel
theorem dX3_count_153 : decode cX3_count 153 = .ok (.ireturn, 1) := by decide +kernel
theorem dX3_count_154 : decode cX3_count 154 = .ok (.bipush (-102), 2) := by decide +kernel
theorem dX3_count_156 : decode cX3_count 156 = .ok (.ireturn, 1) := by decide +kernel
theorem dX3_digest_0 : decode cX3_digest 0 = .ok (.ldc2_w 174, 3) := by decide +kernel
theorem dX3_digest_3 : decode cX3_digest 3 = .ok (.lstore_n 1, 1) := by decide +kernel
theorem dX3_digest_4 : decode cX3_digest 4 = .ok (.iconst 0, 1) := by decide +kernel
theorem dX3_digest_5 : decode cX3_digest 5 = .ok (.istore_n 3, 1) := by decide +kernel
theorem dX3_digest_6 : decode cX3_digest 6 = .ok (.iload_n 3, 1) := by decide +kernel
theorem dX3_digest_7 : decode cX3_digest 7 = .ok (.aload_n 0, 1) := by decide +kernel
theorem dX3_digest_8 : decode cX3_digest 8 = .ok (.getfield 19, 3) := by decide +kernel
theorem dX3_digest_11 : decode cX3_digest 11 = .ok (.getfield 162, 3) := by decide +kernel
theorem dX3_digest_14 : decode cX3_digest 14 = .ok (.if_icmp .ge 40, 3) := by decide +kernel
theorem dX3_digest_17 : decode cX3_digest 17 = .ok (.iconst 0, 1) := by decide +kernel
theorem dX3_digest_18 : decode cX3_digest 18 = .ok (.istore 4, 2) := by decide +kernel
theorem dX3_digest_20 : decode cX3_digest 20 = .ok (.iload 4, 2) := by decide +kernel
theorem dX3_digest_22 : decode cX3_digest 22 = .ok (.bipush 7, 2) := by decide +kernel
theorem dX3_digest_24 : decode cX3_digest 24 = .ok (.if_icmp .gt 24, 3) := by decide +kernel
theorem dX3_digest_27 : decode cX3_digest 27 = .ok (.ldc2_w 176, 3) := by decide +kernel
theorem dX3_digest_30 : decode cX3_digest 30 = .ok (.lload_n 1, 1) := by decide +kernel
theorem dX3_digest_31 : decode cX3_digest 31 = .ok (.lmul, 1) := by decide +kernel
theorem dX3_digest_32 : decode cX3_digest 32 = .ok (.aload_n 0, 1) := by decide +kernel
theorem dX3_digest_33 : decode cX3_digest 33 = .ok (.iload_n 3, 1) := by decide +kernel
theorem dX3_digest_34 : decode cX3_digest 34 = .ok (.iload 4, 2) := by decide +kernel
theorem dX3_digest_36 : decode cX3_digest 36 = .ok (.invokevirtual 69, 3) := by decide +kernel
theorem dX3_digest_39 : decode cX3_digest 39 = .ok (.i2l, 1) := by decide +kernel
theorem dX3_digest_40 : decode cX3_digest 40 = .ok (.ladd, 1) := by decide +kernel
theorem dX3_digest_41 : decode cX3_digest 41 = .ok (.lstore_n 1, 1) := by decide +kernel
theorem dX3_digest_42 : decode cX3_digest 42 = .ok (.iinc 4 1, 3) := by decide +kernel
theorem dX3_digest_45 : decode cX3_digest 45 = .ok (.goto (-25), 3) := by decide +kernel
theorem dX3_digest_48 : decode cX3_digest 48 = .ok (.iinc 3 1, 3) := by decide +kernel
theorem dX3_digest_51 : decode cX3_digest 51 = .ok (.goto (-45), 3) := by decide +kernel
theorem dX3_digest_54 : decode cX3_digest 54 = .ok (.iconst 0, 1) := by decide +kernel
theorem dX3_digest_55 : decode cX3_digest 55 = .ok (.istore_n 3, 1) := by decide +kernel
theorem dX3_digest_56 : decode cX3_digest 56 = .ok (.iload_n 3, 1) := by decide +kernel
theorem dX3_digest_57 : decode cX3_digest 57 = .ok (.aload_n 0, 1) := by decide +kernel
theorem dX3_digest_58 : decode cX3_digest 58 = .ok (.getfield 19, 3) := by decide +kernel
theorem dX3_digest_61 : decode cX3_digest 61 = .ok (.getfield 63, 3) := by decide +kernel
theorem dX3_digest_64 : decode cX3_digest 64 = .ok (.if_icmp .ge 39, 3) := by decide +kernel
theorem dX3_digest_67 : decode cX3_digest 67 = .ok (.iconst 0, 1) := by decide +kernel
theorem dX3_digest_68 : decode cX3_digest 68 = .ok (.istore 4, 2) := by decide +kernel
theorem dX3_digest_70 : decode cX3_digest 70 = .ok (.iload 4, 2) := by decide +kernel
theorem dX3_digest_72 : decode cX3_digest 72 = .ok (.iconst 4, 1) := by decide +kernel
theorem dX3_digest_73 : decode cX3_digest 73 = .ok (.if_icmp .gt 24, 3) := by decide +kernel
theorem dX3_digest_76 : decode cX3_digest 76 = .ok (.ldc2_w 176, 3) := by decide +kernel
theorem dX3_digest_79 : decode cX3_digest 79 = .ok (.lload_n 1, 1) := by decide +kernel
theorem dX3_digest_80 : decode cX3_digest 80 = .ok (.lmul, 1) := by decide +kernel
theorem dX3_digest_81 : decode cX3_digest 81 = .ok (.aload_n 0, 1) := by decide +kernel
theorem dX3_digest_82 : decode cX3_digest 82 = .ok (.iload_n 3, 1) := by decide +kernel
theorem dX3_digest_83 : decode cX3_digest 83 = .ok (.iload 4, 2) := by decide +kernel
theorem dX3_digest_85 : decode cX3_digest 85 = .ok (.invokevirtual 84, 3) := by decide +kernel
theorem dX3_digest_88 : decode cX3_digest 88 = .ok (.i2l, 1) := by decide +kernel
theorem dX3_digest_89 : decode cX3_digest 89 = .ok (.ladd, 1) := by decide +kernel
theorem dX3_digest_90 : decode cX3_digest 90 = .ok (.lstore_n 1, 1) := by decide +kernel
theorem dX3_digest_91 : decode cX3_digest 91 = .ok (.iinc 4 1, 3) := by decide +kernel
theorem dX3_digest_94 : decode cX3_digest 94 = .ok (.goto (-24), 3) := by decide +kernel
theorem dX3_digest_97 : decode cX3_digest 97 = .ok (.iinc 3 1, 3) := by decide +kernel
theorem dX3_digest_100 : decode cX3_digest 100 = .ok (.goto (-44), 3) := by decide +kernel
theorem dX3_digest_103 : decode cX3_digest 103 = .ok (.iconst 0, 1) := by decide +kernel
theorem dX3_digest_104 : decode cX3_digest 104 = .ok (.istore_n 3, 1) := by decide +kernel
theorem dX3_digest_105 : decode cX3_digest 105 = .ok (.iload_n 3, 1) := by decide +kernel
theorem dX3_digest_106 : decode cX3_digest 106 = .ok (.aload_n 0, 1) := by decide +kernel
theorem dX3_digest_107 : decode cX3_digest 107 = .ok (.getfield 10, 3) := by decide +kernel
theorem dX3_digest_110 : decode cX3_digest 110 = .ok (.getfield 40, 3) := by decide +kernel
theorem dX3_digest_113 : decode cX3_digest 113 = .ok (.if_icmp .ge 25, 3) := by decide +kernel
theorem dX3_digest_116 : decode cX3_digest 116 = .ok (.ldc2_w 176, 3) := by decide +kernel
theorem dX3_digest_119 : decode cX3_digest 119 = .ok (.lload_n 1, 1) := by decide +kernel
theorem dX3_digest_120 : decode cX3_digest 120 = .ok (.lmul, 1) := by decide +kernel
theorem dX3_digest_121 : decode cX3_digest 121 = .ok (.aload_n 0, 1) := by decide +kernel
theorem dX3_digest_122 : decode cX3_digest 122 = .ok (.getfield 10, 3) := by decide +kernel
theorem dX3_digest_125 : decode cX3_digest 125 = .ok (.iload_n 3, 1) := by decide +kernel
theorem dX3_digest_126 : decode cX3_digest 126 = .ok (.invokevirtual 178, 3) := by decide +kernel
theorem dX3_digest_129 : decode cX3_digest 129 = .ok (.i2l, 1) := by decide +kernel
theorem dX3_digest_130 : decode cX3_digest 130 = .ok (.ladd, 1) := by decide +kernel
theorem dX3_digest_131 : decode cX3_digest 131 = .ok (.lstore_n 1, 1) := by decide +kernel
theorem dX3_digest_132 : decode cX3_digest 132 = .ok (.iinc 3 1, 3) := by decide +kernel
theorem dX3_digest_135 : decode cX3_digest 135 = .ok (.goto (-30), 3) := by decide +kernel
theorem dX3_digest_138 : decode cX3_digest 138 = .ok (.iconst 0, 1) := by decide +kernel
theorem dX3_digest_139 : decode cX3_digest 139 = .ok (.istore_n 3, 1) := by decide +kernel
theorem dX3_digest_140 : decode cX3_digest 140 = .ok (.iload_n 3, 1) := by decide +kernel
theorem dX3_digest_141 : decode cX3_digest 141 = .ok (.bipush 10, 2) := by decide +kernel
theorem dX3_digest_143 : decode cX3_digest 143 = .ok (.if_icmp .gt 22, 3) := by decide +kernel
theorem dX3_digest_146 : decode cX3_digest 146 = .ok (.ldc2_w 176, 3) := by decide +kernel
theorem dX3_digest_149 : decode cX3_digest 149 = .ok (.lload_n 1, 1) := by decide +kernel
theorem dX3_digest_150 : decode cX3_digest 150 = .ok (.lmul, 1) := by decide +kernel
theorem dX3_digest_151 : decode cX3_digest 151 = .ok (.aload_n 0, 1) := by decide +kernel
theorem dX3_digest_152 : decode cX3_digest 152 = .ok (.iload_n 3, 1) := by decide +kernel
theorem dX3_digest_153 : decode cX3_digest 153 = .ok (.invokevirtual 181, 3) := by decide +kernel
theorem dX3_digest_156 : decode cX3_digest 156 = .ok (.i2l, 1) := by decide +kernel
theorem dX3_digest_157 : decode cX3_digest 157 = .ok (.ladd, 1) := by decide +kernel
theorem dX3_digest_158 : decode cX3_digest 158 = .ok (.lstore_n 1, 1) := by decide +kernel
theorem dX3_digest_159 : decode cX3_digest 159 = .ok (.iinc 3 1, 3) := by decide +kernel
theorem dX3_digest_162 : decode cX3_digest 162 = .ok (.goto (-22), 3) := by decide +kernel
theorem dX3_digest_165 : decode cX3_digest 165 = .ok (.lload_n 1, 1) := by decide +kernel
theorem dX3_digest_166 : decode cX3_digest 166 = .ok (.lreturn, 1) := by decide +kernel
theorem dX3_aboutEater_0 : decode cX3_aboutEater 0 = .ok (.aload_n 0, 1) := by decide +kernel
theorem dX3_aboutEater_1 : decode cX3_aboutEater 1 = .ok (.getfield 19, 3) := by decide +kernel
theorem dX3_aboutEater_4 : decode cX3_aboutEater 4 = .ok (.iload_n 1, 1) := by decide +kernel
theorem dX3_aboutEater_5 : decode cX3_aboutEater 5 = .ok (.invokevirtual 66, 3) := by decide +kernel
theorem dX3_aboutEater_8 : decode cX3_aboutEater 8 = .ok (.ifCond .ne 6, 3) := by decide +kernel
theorem dX3_aboutEater_11 : decode cX3_aboutEater 11 = .ok (.bipush (-101), 2) := by decide +kernel
theorem dX3_aboutEater_13 : decode cX3_aboutEater 13 = .ok (.ireturn, 1) := by decide +kernel
theorem dX3_aboutEater_14 : decode cX3_aboutEater 14 = .ok (.iload_n 2, 1) := by decide +kernel
theorem dX3_aboutEater_15 : decode cX3_aboutEater 15 = .ok (.tableswitch 136 0 7 #[45, 55, 65, 82, 92, 102, 111, 127], 45) := by decide +kernel
theorem dX3_aboutEater_60 : decode cX3_aboutEater 60 = .ok (.aload_n 0, 1) := by decide +kernel
theorem dX3_aboutEater_61 : decode cX3_aboutEater 61 = .ok (.getfield 19, 3) := by decide +kernel
theorem dX3_aboutEater_64 : decode cX3_aboutEater 64 = .ok (.getfield 73, 3) := by decide +kernel
theorem dX3_aboutEater_67 : decode cX3_aboutEater 67 = .ok (.iload_n 1, 1) := by decide +kernel
theorem dX3_aboutEater_68 : decode cX3_aboutEater 68 = .ok (.iaload, 1) := by decide +kernel
theorem dX3_aboutEater_69 : decode cX3_aboutEater 69 = .ok (.ireturn, 1) := by decide +kernel
theorem dX3_aboutEater_70 : decode cX3_aboutEater 70 = .ok (.aload_n 0, 1) := by decide +kernel
theorem dX3_aboutEater_71 : decode cX3_aboutEater 71 = .ok (.getfield 19, 3) := by decide +kernel
theorem dX3_aboutEater_74 : decode cX3_aboutEater 74 = .ok (.getfield 184, 3) := by decide +kernel
theorem dX3_aboutEater_77 : decode cX3_aboutEater 77 = .ok (.iload_n 1, 1) := by decide +kernel
theorem dX3_aboutEater_78 : decode cX3_aboutEater 78 = .ok (.iaload, 1) := by decide +kernel
theorem dX3_aboutEater_79 : decode cX3_aboutEater 79 = .ok (.ireturn, 1) := by decide +kernel
theorem dX3_aboutEater_80 : decode cX3_aboutEater 80 = .ok (.aload_n 0, 1) := by decide +kernel
theorem dX3_aboutEater_81 : decode cX3_aboutEater 81 = .ok (.getfield 19, 3) := by decide +kernel
theorem dX3_aboutEater_84 : decode cX3_aboutEater 84 = .ok (.iload_n 1, 1) := by decide +kernel
theorem dX3_aboutEater_85 : decode cX3_aboutEater 85 = .ok (.invokevirtual 111, 3) := by decide +kernel
theorem dX3_aboutEater_88 : decode cX3_aboutEater 88 = .ok (.ifCond .eq 7, 3) := by decide +kernel
theorem dX3_aboutEater_91 : decode cX3_aboutEater 91 = .ok (.iconst 1, 1) := by decide +kernel
theorem dX3_aboutEater_92 : decode cX3_aboutEater 92 = .ok (.goto 4, 3) := by decide +kernel
theorem dX3_aboutEater_95 : decode cX3_aboutEater 95 = .ok (.iconst 0, 1) := by decide +kernel
theorem dX3_aboutEater_96 : decode cX3_aboutEater 96 = .ok (.ireturn, 1) := by decide +kernel
theorem dX3_aboutEater_97 : decode cX3_aboutEater 97 = .ok (.aload_n 0, 1) := by decide +kernel
theorem dX3_aboutEater_98 : decode cX3_aboutEater 98 = .ok (.getfield 19, 3) := by decide +kernel
theorem dX3_aboutEater_101 : decode cX3_aboutEater 101 = .ok (.getfield 94, 3) := by decide +kernel
theorem dX3_aboutEater_104 : decode cX3_aboutEater 104 = .ok (.iload_n 1, 1) := by decide +kernel
theorem dX3_aboutEater_105 : decode cX3_aboutEater 105 = .ok (.iaload, 1) := by decide +kernel
theorem dX3_aboutEater_106 : decode cX3_aboutEater 106 = .ok (.ireturn, 1) := by decide +kernel
theorem dX3_aboutEater_107 : decode cX3_aboutEater 107 = .ok (.aload_n 0, 1) := by decide +kernel
theorem dX3_aboutEater_108 : decode cX3_aboutEater 108 = .ok (.getfield 19, 3) := by decide +kernel
theorem dX3_aboutEater_111 : decode cX3_aboutEater 111 = .ok (.getfield 168, 3) := by decide +kernel
theorem dX3_aboutEater_114 : decode cX3_aboutEater 114 = .ok (.iload_n 1, 1) := by decide +kernel
theorem dX3_aboutEater_115 : decode cX3_aboutEater 115 = .ok (.iaload, 1) := by decide +kernel
theorem dX3_aboutEater_116 : decode cX3_aboutEater 116 = .ok (.ireturn, 1) := by decide +kernel
theorem dX3_aboutEater_117 : decode cX3_aboutEater 117 = .ok (.aload_n 0, 1) := by decide +kernel
theorem dX3_aboutEater_118 : decode cX3_aboutEater 118 = .ok (.getfield 19, 3) := by decide +kernel
theorem dX3_aboutEater_121 : decode cX3_aboutEater 121 = .ok (.iload_n 1, 1) := by decide +kernel
theorem dX3_aboutEater_122 : decode cX3_aboutEater 122 = .ok (.invokevirtual 187, 3) := by decide +kernel
theorem dX3_aboutEater_125 : decode cX3_aboutEater 125 = .ok (.ireturn, 1) := by decide +kernel
theorem dX3_aboutEater_126 : decode cX3_aboutEater 126 = .ok (.aload_n 0, 1) := by decide +kernel
theorem dX3_aboutEater_127 : decode cX3_aboutEater 127 = .ok (.getfield 19, 3) := by decide +kernel
theorem dX3_aboutEater_130 : decode cX3_aboutEater 130 = .ok (.aload_n 0, 1) := by decide +kernel
theorem dX3_aboutEater_131 : decode cX3_aboutEater 131 = .ok (.getfield 19, 3) := by decide +kernel
theorem dX3_aboutEater_134 : decode cX3_aboutEater 134 = .ok (.iload_n 1, 1) := by decide +kernel
theorem dX3_aboutEater_135 : decode cX3_aboutEater 135 = .ok (.invokevirtual 190, 3) := by decide +kernel
theorem dX3_aboutEater_138 : decode cX3_aboutEater 138 = .ok (.invokevirtual 193, 3) := by decide +kernel
theorem dX3_aboutEater_141 : decode cX3_aboutEater 141 = .ok (.ireturn, 1) := by decide +kernel
theorem dX3_aboutEater_142 : decode cX3_aboutEater 142 = .ok (.aload_n 0, 1) := by decide +kernel
theorem dX3_aboutEater_143 : decode cX3_aboutEater 143 = .ok (.getfield 19, 3) := by decide +kernel
theorem dX3_aboutEater_146 : decode cX3_aboutEater 146 = .ok (.iload_n 1, 1) := by decide +kernel
theorem dX3_aboutEater_147 : decode cX3_aboutEater 147 = .ok (.invokevirtual 190, 3) := by decide +kernel
theorem dX3_aboutEater_150 : decode cX3_aboutEater 150 = .ok (.ireturn, 1) := by decide +kernel
theorem dX3_aboutEater_151 : decode cX3_aboutEater 151 = .ok (.bipush (-102), 2) := by decide +kernel
theorem dX3_aboutEater_153 : decode cX3_aboutEater 153 = .ok (.ireturn, 1) := by decide +kernel
theorem dX3_aboutLoaf_0 : decode cX3_aboutLoaf 0 = .ok (.aload_n 0, 1) := by decide +kernel
theorem dX3_aboutLoaf_1 : decode cX3_aboutLoaf 1 = .ok (.getfield 19, 3) := by decide +kernel
theorem dX3_aboutLoaf_4 : decode cX3_aboutLoaf 4 = .ok (.iload_n 1, 1) := by decide +kernel
theorem dX3_aboutLoaf_5 : decode cX3_aboutLoaf 5 = .ok (.invokevirtual 81, 3) := by decide +kernel
theorem dX3_aboutLoaf_8 : decode cX3_aboutLoaf 8 = .ok (.ifCond .ne 6, 3) := by decide +kernel
theorem dX3_aboutLoaf_11 : decode cX3_aboutLoaf 11 = .ok (.bipush (-101), 2) := by decide +kernel
theorem dX3_aboutLoaf_13 : decode cX3_aboutLoaf 13 = .ok (.ireturn, 1) := by decide +kernel
theorem dX3_aboutLoaf_14 : decode cX3_aboutLoaf 14 = .ok (.iload_n 2, 1) := by decide +kernel
theorem dX3_aboutLoaf_15 : decode cX3_aboutLoaf 15 = .ok (.tableswitch 100 0 4 #[33, 43, 53, 70, 79], 33) := by decide +kernel
theorem dX3_aboutLoaf_48 : decode cX3_aboutLoaf 48 = .ok (.aload_n 0, 1) := by decide +kernel
theorem dX3_aboutLoaf_49 : decode cX3_aboutLoaf 49 = .ok (.getfield 19, 3) := by decide +kernel
theorem dX3_aboutLoaf_52 : decode cX3_aboutLoaf 52 = .ok (.getfield 196, 3) := by decide +kernel
theorem dX3_aboutLoaf_55 : decode cX3_aboutLoaf 55 = .ok (.iload_n 1, 1) := by decide +kernel
theorem dX3_aboutLoaf_56 : decode cX3_aboutLoaf 56 = .ok (.iaload, 1) := by decide +kernel
theorem dX3_aboutLoaf_57 : decode cX3_aboutLoaf 57 = .ok (.ireturn, 1) := by decide +kernel
theorem dX3_aboutLoaf_58 : decode cX3_aboutLoaf 58 = .ok (.aload_n 0, 1) := by decide +kernel
theorem dX3_aboutLoaf_59 : decode cX3_aboutLoaf 59 = .ok (.getfield 19, 3) := by decide +kernel
theorem dX3_aboutLoaf_62 : decode cX3_aboutLoaf 62 = .ok (.getfield 199, 3) := by decide +kernel
theorem dX3_aboutLoaf_65 : decode cX3_aboutLoaf 65 = .ok (.iload_n 1, 1) := by decide +kernel
theorem dX3_aboutLoaf_66 : decode cX3_aboutLoaf 66 = .ok (.iaload, 1) := by decide +kernel
theorem dX3_aboutLoaf_67 : decode cX3_aboutLoaf 67 = .ok (.ireturn, 1) := by decide +kernel
theorem dX3_aboutLoaf_68 : decode cX3_aboutLoaf 68 = .ok (.aload_n 0, 1) := by decide +kernel
theorem dX3_aboutLoaf_69 : decode cX3_aboutLoaf 69 = .ok (.getfield 19, 3) := by decide +kernel
theorem dX3_aboutLoaf_72 : decode cX3_aboutLoaf 72 = .ok (.iload_n 1, 1) := by decide +kernel
theorem dX3_aboutLoaf_73 : decode cX3_aboutLoaf 73 = .ok (.invokevirtual 202, 3) := by decide +kernel
theorem dX3_aboutLoaf_76 : decode cX3_aboutLoaf 76 = .ok (.ifCond .eq 7, 3) := by decide +kernel
theorem dX3_aboutLoaf_79 : decode cX3_aboutLoaf 79 = .ok (.iconst 1, 1) := by decide +kernel
theorem dX3_aboutLoaf_80 : decode cX3_aboutLoaf 80 = .ok (.goto 4, 3) := by decide +kernel
theorem dX3_aboutLoaf_83 : decode cX3_aboutLoaf 83 = .ok (.iconst 0, 1) := by decide +kernel
theorem dX3_aboutLoaf_84 : decode cX3_aboutLoaf 84 = .ok (.ireturn, 1) := by decide +kernel
theorem dX3_aboutLoaf_85 : decode cX3_aboutLoaf 85 = .ok (.aload_n 0, 1) := by decide +kernel
theorem dX3_aboutLoaf_86 : decode cX3_aboutLoaf 86 = .ok (.getfield 19, 3) := by decide +kernel
theorem dX3_aboutLoaf_89 : decode cX3_aboutLoaf 89 = .ok (.iload_n 1, 1) := by decide +kernel
theorem dX3_aboutLoaf_90 : decode cX3_aboutLoaf 90 = .ok (.invokevirtual 205, 3) := by decide +kernel
theorem dX3_aboutLoaf_93 : decode cX3_aboutLoaf 93 = .ok (.ireturn, 1) := by decide +kernel
theorem dX3_aboutLoaf_94 : decode cX3_aboutLoaf 94 = .ok (.aload_n 0, 1) := by decide +kernel
theorem dX3_aboutLoaf_95 : decode cX3_aboutLoaf 95 = .ok (.getfield 19, 3) := by decide +kernel
theorem dX3_aboutLoaf_98 : decode cX3_aboutLoaf 98 = .ok (.iload_n 1, 1) := by decide +kernel
theorem dX3_aboutLoaf_99 : decode cX3_aboutLoaf 99 = .ok (.invokevirtual 205, 3) := by decide +kernel
theorem dX3_aboutLoaf_102 : decode cX3_aboutLoaf 102 = .ok (.aload_n 0, 1) := by decide +kernel
theorem dX3_aboutLoaf_103 : decode cX3_aboutLoaf 103 = .ok (.getfield 19, 3) := by decide +kernel
theorem dX3_aboutLoaf_106 : decode cX3_aboutLoaf 106 = .ok (.getfield 196, 3) := by decide +kernel
theorem dX3_aboutLoaf_109 : decode cX3_aboutLoaf 109 = .ok (.iload_n 1, 1) := by decide +kernel
theorem dX3_aboutLoaf_110 : decode cX3_aboutLoaf 110 = .ok (.iaload, 1) := by decide +kernel
theorem dX3_aboutLoaf_111 : decode cX3_aboutLoaf 111 = .ok (.invokestatic 208, 3) := by decide +kernel
theorem dX3_aboutLoaf_114 : decode cX3_aboutLoaf 114 = .ok (.ireturn, 1) := by decide +kernel
theorem dX3_aboutLoaf_115 : decode cX3_aboutLoaf 115 = .ok (.bipush (-102), 2) := by decide +kernel
theorem dX3_aboutLoaf_117 : decode cX3_aboutLoaf 117 = .ok (.ireturn, 1) := by decide +kernel
theorem dX3_playWinters_0 : decode cX3_playWinters 0 = .ok (.aload_n 0, 1) := by decide +kernel
theorem dX3_playWinters_1 : decode cX3_playWinters 1 = .ok (.getfield 26, 3) := by decide +kernel
theorem dX3_playWinters_4 : decode cX3_playWinters 4 = .ok (.aload_n 0, 1) := by decide +kernel
theorem dX3_playWinters_5 : decode cX3_playWinters 5 = .ok (.getfield 19, 3) := by decide +kernel
theorem dX3_playWinters_8 : decode cX3_playWinters 8 = .ok (.invokevirtual 121, 3) := by decide +kernel
theorem dX3_playWinters_11 : decode cX3_playWinters 11 = .ok (.iload_n 2, 1) := by decide +kernel
theorem dX3_playWinters_12 : decode cX3_playWinters 12 = .ok (.istore_n 3, 1) := by decide +kernel
theorem dX3_playWinters_13 : decode cX3_playWinters 13 = .ok (.iconst 1, 1) := by decide +kernel
theorem dX3_playWinters_14 : decode cX3_playWinters 14 = .ok (.istore 4, 2) := by decide +kernel
theorem dX3_playWinters_16 : decode cX3_playWinters 16 = .ok (.iload 4, 2) := by decide +kernel
theorem dX3_playWinters_18 : decode cX3_playWinters 18 = .ok (.iload_n 1, 1) := by decide +kernel
theorem dX3_playWinters_19 : decode cX3_playWinters 19 = .ok (.if_icmp .gt 84, 3) := by decide +kernel
theorem dX3_playWinters_22 : decode cX3_playWinters 22 = .ok (.iload_n 3, 1) := by decide +kernel
theorem dX3_playWinters_23 : decode cX3_playWinters 23 = .ok (.invokestatic 211, 3) := by decide +kernel
theorem dX3_playWinters_26 : decode cX3_playWinters 26 = .ok (.istore_n 3, 1) := by decide +kernel
theorem dX3_playWinters_27 : decode cX3_playWinters 27 = .ok (.iload_n 3, 1) := by decide +kernel
theorem dX3_playWinters_28 : decode cX3_playWinters 28 = .ok (.aload_n 0, 1) := by decide +kernel
theorem dX3_playWinters_29 : decode cX3_playWinters 29 = .ok (.getfield 26, 3) := by decide +kernel
theorem dX3_playWinters_32 : decode cX3_playWinters 32 = .ok (.getfield 162, 3) := by decide +kernel
theorem dX3_playWinters_35 : decode cX3_playWinters 35 = .ok (.invokestatic 214, 3) := by decide +kernel
theorem dX3_playWinters_38 : decode cX3_playWinters 38 = .ok (.istore 5, 2) := by decide +kernel
theorem dX3_playWinters_40 : decode cX3_playWinters 40 = .ok (.iload_n 3, 1) := by decide +kernel
theorem dX3_playWinters_41 : decode cX3_playWinters 41 = .ok (.invokestatic 211, 3) := by decide +kernel
theorem dX3_playWinters_44 : decode cX3_playWinters 44 = .ok (.istore_n 3, 1) := by decide +kernel
theorem dX3_playWinters_45 : decode cX3_playWinters 45 = .ok (.iload_n 3, 1) := by decide +kernel
theorem dX3_playWinters_46 : decode cX3_playWinters 46 = .ok (.aload_n 0, 1) := by decide +kernel
theorem dX3_playWinters_47 : decode cX3_playWinters 47 = .ok (.getfield 26, 3) := by decide +kernel
theorem dX3_playWinters_50 : decode cX3_playWinters 50 = .ok (.getfield 63, 3) := by decide +kernel
theorem dX3_playWinters_53 : decode cX3_playWinters 53 = .ok (.invokestatic 214, 3) := by decide +kernel
theorem dX3_playWinters_56 : decode cX3_playWinters 56 = .ok (.istore 6, 2) := by decide +kernel
theorem dX3_playWinters_58 : decode cX3_playWinters 58 = .ok (.aload_n 0, 1) := by decide +kernel
theorem dX3_playWinters_59 : decode cX3_playWinters 59 = .ok (.getfield 26, 3) := by decide +kernel
theorem dX3_playWinters_62 : decode cX3_playWinters 62 = .ok (.iload 5, 2) := by decide +kernel
theorem dX3_playWinters_64 : decode cX3_playWinters 64 = .ok (.iload 6, 2) := by decide +kernel
theorem dX3_playWinters_66 : decode cX3_playWinters 66 = .ok (.invokevirtual 87, 3) := by decide +kernel
theorem dX3_playWinters_69 : decode cX3_playWinters 69 = .ok (.ifCond .eq 14, 3) := by decide +kernel
theorem dX3_playWinters_72 : decode cX3_playWinters 72 = .ok (.aload_n 0, 1) := by decide +kernel
theorem dX3_playWinters_73 : decode cX3_playWinters 73 = .ok (.getfield 26, 3) := by decide +kernel
theorem dX3_playWinters_76 : decode cX3_playWinters 76 = .ok (.iload 5, 2) := by decide +kernel
theorem dX3_playWinters_78 : decode cX3_playWinters 78 = .ok (.iload 6, 2) := by decide +kernel
theorem dX3_playWinters_80 : decode cX3_playWinters 80 = .ok (.invokevirtual 90, 3) := by decide +kernel
theorem dX3_playWinters_83 : decode cX3_playWinters 83 = .ok (.iload 4, 2) := by decide +kernel
theorem dX3_playWinters_85 : decode cX3_playWinters 85 = .ok (.iconst 3, 1) := by decide +kernel
theorem dX3_playWinters_86 : decode cX3_playWinters 86 = .ok (.irem, 1) := by decide +kernel
theorem dX3_playWinters_87 : decode cX3_playWinters 87 = .ok (.ifCond .ne 10, 3) := by decide +kernel
theorem dX3_playWinters_90 : decode cX3_playWinters 90 = .ok (.aload_n 0, 1) := by decide +kernel
theorem dX3_playWinters_91 : decode cX3_playWinters 91 = .ok (.getfield 26, 3) := by decide +kernel
theorem dX3_playWinters_94 : decode cX3_playWinters 94 = .ok (.invokevirtual 104, 3) := by decide +kernel
theorem dX3_playWinters_97 : decode cX3_playWinters 97 = .ok (.iinc 4 1, 3) := by decide +kernel
theorem dX3_playWinters_100 : decode cX3_playWinters 100 = .ok (.goto (-84), 3) := by decide +kernel
theorem dX3_playWinters_103 : decode cX3_playWinters 103 = .ok (.iload_n 3, 1) := by decide +kernel
theorem dX3_playWinters_104 : decode cX3_playWinters 104 = .ok (.ireturn, 1) := by decide +kernel
theorem dX3_nextSeed_0 : decode cX3_nextSeed 0 = .ok (.ldc2_w 217, 3) := by decide +kernel
theorem dX3_nextSeed_3 : decode cX3_nextSeed 3 = .ok (.iload_n 0, 1) := by decide +kernel
theorem dX3_nextSeed_4 : decode cX3_nextSeed 4 = .ok (.i2l, 1) := by decide +kernel
theorem dX3_nextSeed_5 : decode cX3_nextSeed 5 = .ok (.lmul, 1) := by decide +kernel
theorem dX3_nextSeed_6 : decode cX3_nextSeed 6 = .ok (.ldc2_w 219, 3) := by decide +kernel
theorem dX3_nextSeed_9 : decode cX3_nextSeed 9 = .ok (.ladd, 1) := by decide +kernel
theorem dX3_nextSeed_10 : decode cX3_nextSeed 10 = .ok (.ldc2_w 221, 3) := by decide +kernel
theorem dX3_nextSeed_13 : decode cX3_nextSeed 13 = .ok (.lrem, 1) := by decide +kernel
theorem dX3_nextSeed_14 : decode cX3_nextSeed 14 = .ok (.l2i, 1) := by decide +kernel
theorem dX3_nextSeed_15 : decode cX3_nextSeed 15 = .ok (.ireturn, 1) := by decide +kernel
theorem dX3_drawn_0 : decode cX3_drawn 0 = .ok (.iload_n 1, 1) := by decide +kernel
theorem dX3_drawn_1 : decode cX3_drawn 1 = .ok (.iconst 1, 1) := by decide +kernel
theorem dX3_drawn_2 : decode cX3_drawn 2 = .ok (.if_icmp .ge 7, 3) := by decide +kernel
theorem dX3_drawn_5 : decode cX3_drawn 5 = .ok (.iconst (-1), 1) := by decide +kernel
theorem dX3_drawn_6 : decode cX3_drawn 6 = .ok (.goto 9, 3) := by decide +kernel
theorem dX3_drawn_9 : decode cX3_drawn 9 = .ok (.iload_n 0, 1) := by decide +kernel
theorem dX3_drawn_10 : decode cX3_drawn 10 = .ok (.ldc 223, 2) := by decide +kernel
theorem dX3_drawn_12 : decode cX3_drawn 12 = .ok (.idiv, 1) := by decide +kernel
theorem dX3_drawn_13 : decode cX3_drawn 13 = .ok (.iload_n 1, 1) := by decide +kernel
theorem dX3_drawn_14 : decode cX3_drawn 14 = .ok (.irem, 1) := by decide +kernel
theorem dX3_drawn_15 : decode cX3_drawn 15 = .ok (.ireturn, 1) := by decide +kernel
theorem dX3_tryLoavesFrom_0 : decode cX3_tryLoavesFrom 0 = .ok (.aload_n 3, 1) := by decide +kernel
theorem dX3_tryLoavesFrom_1 : decode cX3_tryLoavesFrom 1 = .ok (.getfield 135, 3) := by decide +kernel
theorem dX3_tryLoavesFrom_4 : decode cX3_tryLoavesFrom 4 = .ok (.ifCond .eq 12, 3) := by decide +kernel
theorem dX3_tryLoavesFrom_7 : decode cX3_tryLoavesFrom 7 = .ok (.iload_n 1, 1) := by decide +kernel
theorem dX3_tryLoavesFrom_8 : decode cX3_tryLoavesFrom 8 = .ok (.aload_n 3, 1) := by decide +kernel
theorem dX3_tryLoavesFrom_9 : decode cX3_tryLoavesFrom 9 = .ok (.getfield 141, 3) := by decide +kernel
theorem dX3_tryLoavesFrom_12 : decode cX3_tryLoavesFrom 12 = .ok (.if_icmp .lt 4, 3) := by decide +kernel
theorem dX3_tryLoavesFrom_15 : decode cX3_tryLoavesFrom 15 = .ok (.return_, 1) := by decide +kernel
theorem dX3_tryLoavesFrom_16 : decode cX3_tryLoavesFrom 16 = .ok (.aload_n 2, 1) := by decide +kernel
theorem dX3_tryLoavesFrom_17 : decode cX3_tryLoavesFrom 17 = .ok (.iload_n 0, 1) := by decide +kernel
theorem dX3_tryLoavesFrom_18 : decode cX3_tryLoavesFrom 18 = .ok (.invokevirtual 81, 3) := by decide +kernel
theorem dX3_tryLoavesFrom_21 : decode cX3_tryLoavesFrom 21 = .ok (.ifCond .ne 9, 3) := by decide +kernel
theorem dX3_tryLoavesFrom_24 : decode cX3_tryLoavesFrom 24 = .ok (.aload_n 3, 1) := by decide +kernel
theorem dX3_tryLoavesFrom_25 : decode cX3_tryLoavesFrom 25 = .ok (.iload_n 1, 1) := by decide +kernel
theorem dX3_tryLoavesFrom_26 : decode cX3_tryLoavesFrom 26 = .ok (.invokevirtual 224, 3) := by decide +kernel
theorem dX3_tryLoavesFrom_29 : decode cX3_tryLoavesFrom 29 = .ok (.return_, 1) := by decide +kernel
theorem dX3_tryLoavesFrom_30 : decode cX3_tryLoavesFrom 30 = .ok (.aload_n 2, 1) := by decide +kernel
theorem dX3_tryLoavesFrom_31 : decode cX3_tryLoavesFrom 31 = .ok (.iload_n 0, 1) := by decide +kernel
theorem dX3_tryLoavesFrom_32 : decode cX3_tryLoavesFrom 32 = .ok (.invokevirtual 202, 3) := by decide +kernel
theorem dX3_tryLoavesFrom_35 : decode cX3_tryLoavesFrom 35 = .ok (.ifCond .eq 13, 3) := by decide +kernel
theorem dX3_tryLoavesFrom_38 : decode cX3_tryLoavesFrom 38 = .ok (.iload_n 0, 1) := by decide +kernel
theorem dX3_tryLoavesFrom_39 : decode cX3_tryLoavesFrom 39 = .ok (.iconst 1, 1) := by decide +kernel
theorem dX3_tryLoavesFrom_40 : decode cX3_tryLoavesFrom 40 = .ok (.iadd, 1) := by decide +kernel
theorem dX3_tryLoavesFrom_41 : decode cX3_tryLoavesFrom 41 = .ok (.iload_n 1, 1) := by decide +kernel
theorem dX3_tryLoavesFrom_42 : decode cX3_tryLoavesFrom 42 = .ok (.aload_n 2, 1) := by decide +kernel
theorem dX3_tryLoavesFrom_43 : decode cX3_tryLoavesFrom 43 = .ok (.aload_n 3, 1) := by decide +kernel
theorem dX3_tryLoavesFrom_44 : decode cX3_tryLoavesFrom 44 = .ok (.invokestatic 131, 3) := by decide +kernel
theorem dX3_tryLoavesFrom_47 : decode cX3_tryLoavesFrom 47 = .ok (.return_, 1) := by decide +kernel
theorem dX3_tryLoavesFrom_48 : decode cX3_tryLoavesFrom 48 = .ok (.iconst 0, 1) := by decide +kernel
theorem dX3_tryLoavesFrom_49 : decode cX3_tryLoavesFrom 49 = .ok (.istore 4, 2) := by decide +kernel
theorem dX3_tryLoavesFrom_51 : decode cX3_tryLoavesFrom 51 = .ok (.iload 4, 2) := by decide +kernel
theorem dX3_tryLoavesFrom_53 : decode cX3_tryLoavesFrom 53 = .ok (.iconst 4, 1) := by decide +kernel
theorem dX3_tryLoavesFrom_54 : decode cX3_tryLoavesFrom 54 = .ok (.if_icmp .ge 71, 3) := by decide +kernel
theorem dX3_tryLoavesFrom_57 : decode cX3_tryLoavesFrom 57 = .ok (.aload_n 2, 1) := by decide +kernel
theorem dX3_tryLoavesFrom_58 : decode cX3_tryLoavesFrom 58 = .ok (.iload 4, 2) := by decide +kernel
theorem dX3_tryLoavesFrom_60 : decode cX3_tryLoavesFrom 60 = .ok (.iload_n 0, 1) := by decide +kernel
theorem dX3_tryLoavesFrom_61 : decode cX3_tryLoavesFrom 61 = .ok (.invokevirtual 87, 3) := by decide +kernel
theorem dX3_tryLoavesFrom_64 : decode cX3_tryLoavesFrom 64 = .ok (.ifCond .eq 55, 3) := by decide +kernel
theorem dX3_tryLoavesFrom_67 : decode cX3_tryLoavesFrom 67 = .ok (.aload_n 2, 1) := by decide +kernel
theorem dX3_tryLoavesFrom_68 : decode cX3_tryLoavesFrom 68 = .ok (.getfield 184, 3) := by decide +kernel
theorem dX3_tryLoavesFrom_71 : decode cX3_tryLoavesFrom 71 = .ok (.iload 4, 2) := by decide +kernel
theorem dX3_tryLoavesFrom_73 : decode cX3_tryLoavesFrom 73 = .ok (.iaload, 1) := by decide +kernel
theorem dX3_tryLoavesFrom_74 : decode cX3_tryLoavesFrom 74 = .ok (.istore 5, 2) := by decide +kernel
theorem dX3_tryLoavesFrom_76 : decode cX3_tryLoavesFrom 76 = .ok (.aload_n 2, 1) := by decide +kernel
theorem dX3_tryLoavesFrom_77 : decode cX3_tryLoavesFrom 77 = .ok (.iload 4, 2) := by decide +kernel
theorem dX3_tryLoavesFrom_79 : decode cX3_tryLoavesFrom 79 = .ok (.iload_n 0, 1) := by decide +kernel
theorem dX3_tryLoavesFrom_80 : decode cX3_tryLoavesFrom 80 = .ok (.invokevirtual 90, 3) := by decide +kernel
theorem dX3_tryLoavesFrom_83 : decode cX3_tryLoavesFrom 83 = .ok (.aload_n 3, 1) := by decide +kernel
theorem dX3_tryLoavesFrom_84 : decode cX3_tryLoavesFrom 84 = .ok (.getfield 228, 3) := by decide +kernel
theorem dX3_tryLoavesFrom_87 : decode cX3_tryLoavesFrom 87 = .ok (.iload_n 0, 1) := by decide +kernel
theorem dX3_tryLoavesFrom_88 : decode cX3_tryLoavesFrom 88 = .ok (.iload 4, 2) := by decide +kernel
theorem dX3_tryLoavesFrom_90 : decode cX3_tryLoavesFrom 90 = .ok (.iastore, 1) := by decide +kernel
theorem dX3_tryLoavesFrom_91 : decode cX3_tryLoavesFrom 91 = .ok (.iload_n 0, 1) := by decide +kernel
theorem dX3_tryLoavesFrom_92 : decode cX3_tryLoavesFrom 92 = .ok (.iconst 1, 1) := by decide +kernel
theorem dX3_tryLoavesFrom_93 : decode cX3_tryLoavesFrom 93 = .ok (.iadd, 1) := by decide +kernel
theorem dX3_tryLoavesFrom_94 : decode cX3_tryLoavesFrom 94 = .ok (.iload_n 1, 1) := by decide +kernel
theorem dX3_tryLoavesFrom_95 : decode cX3_tryLoavesFrom 95 = .ok (.aload_n 2, 1) := by decide +kernel
theorem dX3_tryLoavesFrom_96 : decode cX3_tryLoavesFrom 96 = .ok (.getfield 94, 3) := by decide +kernel
theorem dX3_tryLoavesFrom_99 : decode cX3_tryLoavesFrom 99 = .ok (.iload 4, 2) := by decide +kernel
theorem dX3_tryLoavesFrom_101 : decode cX3_tryLoavesFrom 101 = .ok (.iaload, 1) := by decide +kernel
theorem dX3_tryLoavesFrom_102 : decode cX3_tryLoavesFrom 102 = .ok (.invokestatic 231, 3) := by decide +kernel
theorem dX3_tryLoavesFrom_105 : decode cX3_tryLoavesFrom 105 = .ok (.aload_n 2, 1) := by decide +kernel
theorem dX3_tryLoavesFrom_106 : decode cX3_tryLoavesFrom 106 = .ok (.aload_n 3, 1) := by decide +kernel
theorem dX3_tryLoavesFrom_107 : decode cX3_tryLoavesFrom 107 = .ok (.invokestatic 131, 3) := by decide +kernel
theorem dX3_tryLoavesFrom_110 : decode cX3_tryLoavesFrom 110 = .ok (.aload_n 2, 1) := by decide +kernel
theorem dX3_tryLoavesFrom_111 : decode cX3_tryLoavesFrom 111 = .ok (.iload 4, 2) := by decide +kernel
theorem dX3_tryLoavesFrom_113 : decode cX3_tryLoavesFrom 113 = .ok (.iload_n 0, 1) := by decide +kernel
theorem dX3_tryLoavesFrom_114 : decode cX3_tryLoavesFrom 114 = .ok (.iload 5, 2) := by decide +kernel
theorem dX3_tryLoavesFrom_116 : decode cX3_tryLoavesFrom 116 = .ok (.invokevirtual 236, 3) := by decide +kernel
theorem dX3_tryLoavesFrom_119 : decode cX3_tryLoavesFrom 119 = .ok (.iinc 4 1, 3) := by decide +kernel
theorem dX3_tryLoavesFrom_122 : decode cX3_tryLoavesFrom 122 = .ok (.goto (-71), 3) := by decide +kernel
theorem dX3_tryLoavesFrom_125 : decode cX3_tryLoavesFrom 125 = .ok (.return_, 1) := by decide +kernel
theorem dX3_bestQuestion_0 : decode cX3_bestQuestion 0 = .ok (.iload_n 0, 1) := by decide +kernel
theorem dX3_bestQuestion_1 : decode cX3_bestQuestion 1 = .ok (.ifCond .ne 5, 3) := by decide +kernel
theorem dX3_bestQuestion_4 : decode cX3_bestQuestion 4 = .ok (.iconst (-1), 1) := by decide +kernel
theorem dX3_bestQuestion_5 : decode cX3_bestQuestion 5 = .ok (.ireturn, 1) := by decide +kernel
theorem dX3_bestQuestion_6 : decode cX3_bestQuestion 6 = .ok (.iconst 0, 1) := by decide +kernel
theorem dX3_bestQuestion_7 : decode cX3_bestQuestion 7 = .ok (.istore_n 2, 1) := by decide +kernel
theorem dX3_bestQuestion_8 : decode cX3_bestQuestion 8 = .ok (.iload_n 0, 1) := by decide +kernel
theorem dX3_bestQuestion_9 : decode cX3_bestQuestion 9 = .ok (.iload_n 1, 1) := by decide +kernel
theorem dX3_bestQuestion_10 : decode cX3_bestQuestion 10 = .ok (.iconst 0, 1) := by decide +kernel
theorem dX3_bestQuestion_11 : decode cX3_bestQuestion 11 = .ok (.invokestatic 239, 3) := by decide +kernel
theorem dX3_bestQuestion_14 : decode cX3_bestQuestion 14 = .ok (.istore_n 3, 1) := by decide +kernel
theorem dX3_bestQuestion_15 : decode cX3_bestQuestion 15 = .ok (.iconst 1, 1) := by decide +kernel
theorem dX3_bestQuestion_16 : decode cX3_bestQuestion 16 = .ok (.istore 4, 2) := by decide +kernel
theorem dX3_bestQuestion_18 : decode cX3_bestQuestion 18 = .ok (.iload 4, 2) := by decide +kernel
theorem dX3_bestQuestion_20 : decode cX3_bestQuestion 20 = .ok (.bipush 20, 2) := by decide +kernel
theorem dX3_bestQuestion_22 : decode cX3_bestQuestion 22 = .ok (.if_icmp .gt 30, 3) := by decide +kernel
theorem dX3_bestQuestion_25 : decode cX3_bestQuestion 25 = .ok (.iload_n 0, 1) := by decide +kernel
theorem dX3_bestQuestion_26 : decode cX3_bestQuestion 26 = .ok (.iload_n 1, 1) := by decide +kernel
theorem dX3_bestQuestion_27 : decode cX3_bestQuestion 27 = .ok (.iload 4, 2) := by decide +kernel
theorem dX3_bestQuestion_29 : decode cX3_bestQuestion 29 = .ok (.invokestatic 239, 3) := by decide +kernel
theorem dX3_bestQuestion_32 : decode cX3_bestQuestion 32 = .ok (.istore 5, 2) := by decide +kernel
theorem dX3_bestQuestion_34 : decode cX3_bestQuestion 34 = .ok (.iload 5, 2) := by decide +kernel
theorem dX3_bestQuestion_36 : decode cX3_bestQuestion 36 = .ok (.iload_n 3, 1) := by decide +kernel
theorem dX3_bestQuestion_37 : decode cX3_bestQuestion 37 = .ok (.if_icmp .ge 9, 3) := by decide +kernel
theorem dX3_bestQuestion_40 : decode cX3_bestQuestion 40 = .ok (.iload 5, 2) := by decide +kernel
theorem dX3_bestQuestion_42 : decode cX3_bestQuestion 42 = .ok (.istore_n 3, 1) := by decide +kernel
theorem dX3_bestQuestion_43 : decode cX3_bestQuestion 43 = .ok (.iload 4, 2) := by decide +kernel
theorem dX3_bestQuestion_45 : decode cX3_bestQuestion 45 = .ok (.istore_n 2, 1) := by decide +kernel
theorem dX3_bestQuestion_46 : decode cX3_bestQuestion 46 = .ok (.iinc 4 1, 3) := by decide +kernel
theorem dX3_bestQuestion_49 : decode cX3_bestQuestion 49 = .ok (.goto (-31), 3) := by decide +kernel
theorem dX3_bestQuestion_52 : decode cX3_bestQuestion 52 = .ok (.iload_n 2, 1) := by decide +kernel
theorem dX3_bestQuestion_53 : decode cX3_bestQuestion 53 = .ok (.ireturn, 1) := by decide +kernel
theorem dX3_leftAtWorst_0 : decode cX3_leftAtWorst 0 = .ok (.iconst 0, 1) := by decide +kernel
theorem dX3_leftAtWorst_1 : decode cX3_leftAtWorst 1 = .ok (.istore_n 3, 1) := by decide +kernel
theorem dX3_leftAtWorst_2 : decode cX3_leftAtWorst 2 = .ok (.iconst 0, 1) := by decide +kernel
theorem dX3_leftAtWorst_3 : decode cX3_leftAtWorst 3 = .ok (.istore 4, 2) := by decide +kernel
theorem dX3_leftAtWorst_5 : decode cX3_leftAtWorst 5 = .ok (.iload 4, 2) := by decide +kernel
theorem dX3_leftAtWorst_7 : decode cX3_leftAtWorst 7 = .ok (.bipush 9, 2) := by decide +kernel
theorem dX3_leftAtWorst_9 : decode cX3_leftAtWorst 9 = .ok (.if_icmp .gt 29, 3) := by decide +kernel
theorem dX3_leftAtWorst_12 : decode cX3_leftAtWorst 12 = .ok (.iload_n 0, 1) := by decide +kernel
theorem dX3_leftAtWorst_13 : decode cX3_leftAtWorst 13 = .ok (.iload 4, 2) := by decide +kernel
theorem dX3_leftAtWorst_15 : decode cX3_leftAtWorst 15 = .ok (.invokestatic 243, 3) := by decide +kernel
theorem dX3_leftAtWorst_18 : decode cX3_leftAtWorst 18 = .ok (.ifCond .eq 14, 3) := by decide +kernel
theorem dX3_leftAtWorst_21 : decode cX3_leftAtWorst 21 = .ok (.iload_n 1, 1) := by decide +kernel
theorem dX3_leftAtWorst_22 : decode cX3_leftAtWorst 22 = .ok (.iload 4, 2) := by decide +kernel
theorem dX3_leftAtWorst_24 : decode cX3_leftAtWorst 24 = .ok (.iadd, 1) := by decide +kernel
theorem dX3_leftAtWorst_25 : decode cX3_leftAtWorst 25 = .ok (.iload_n 2, 1) := by decide +kernel
theorem dX3_leftAtWorst_26 : decode cX3_leftAtWorst 26 = .ok (.if_icmp .le 6, 3) := by decide +kernel
theorem dX3_leftAtWorst_29 : decode cX3_leftAtWorst 29 = .ok (.iinc 3 1, 3) := by decide +kernel
theorem dX3_leftAtWorst_32 : decode cX3_leftAtWorst 32 = .ok (.iinc 4 1, 3) := by decide +kernel
theorem dX3_leftAtWorst_35 : decode cX3_leftAtWorst 35 = .ok (.goto (-30), 3) := by decide +kernel
theorem dX3_leftAtWorst_38 : decode cX3_leftAtWorst 38 = .ok (.iload_n 3, 1) := by decide +kernel
theorem dX3_leftAtWorst_39 : decode cX3_leftAtWorst 39 = .ok (.iload_n 0, 1) := by decide +kernel
theorem dX3_leftAtWorst_40 : decode cX3_leftAtWorst 40 = .ok (.invokestatic 157, 3) := by decide +kernel
theorem dX3_leftAtWorst_43 : decode cX3_leftAtWorst 43 = .ok (.iload_n 3, 1) := by decide +kernel
theorem dX3_leftAtWorst_44 : decode cX3_leftAtWorst 44 = .ok (.isub, 1) := by decide +kernel
theorem dX3_leftAtWorst_45 : decode cX3_leftAtWorst 45 = .ok (.invokestatic 231, 3) := by decide +kernel
theorem dX3_leftAtWorst_48 : decode cX3_leftAtWorst 48 = .ok (.ireturn, 1) := by decide +kernel
theorem dX3_kindOf_0 : decode cX3_kindOf 0 = .ok (.ldc 246, 2) := by decide +kernel
theorem dX3_kindOf_2 : decode cX3_kindOf 2 = .ok (.iload_n 0, 1) := by decide +kernel
theorem dX3_kindOf_3 : decode cX3_kindOf 3 = .ok (.i2c, 1) := by decide +kernel
theorem dX3_kindOf_4 : decode cX3_kindOf 4 = .ok (.invokevirtual 248, 3) := by decide +kernel
theorem dX3_kindOf_7 : decode cX3_kindOf 7 = .ok (.ireturn, 1) := by decide +kernel
theorem dX3_isSuch_0 : decode cX3_isSuch 0 = .ok (.iload_n 1, 1) := by decide +kernel
theorem dX3_isSuch_1 : decode cX3_isSuch 1 = .ok (.ifCond .eq 18, 3) := by decide +kernel
theorem dX3_isSuch_4 : decode cX3_isSuch 4 = .ok (.iload_n 1, 1) := by decide +kernel
theorem dX3_isSuch_5 : decode cX3_isSuch 5 = .ok (.iload_n 0, 1) := by decide +kernel
theorem dX3_isSuch_6 : decode cX3_isSuch 6 = .ok (.if_icmp .eq 13, 3) := by decide +kernel
theorem dX3_isSuch_9 : decode cX3_isSuch 9 = .ok (.iload_n 1, 1) := by decide +kernel
theorem dX3_isSuch_10 : decode cX3_isSuch 10 = .ok (.iconst 1, 1) := by decide +kernel
theorem dX3_isSuch_11 : decode cX3_isSuch 11 = .ok (.if_icmp .ne 12, 3) := by decide +kernel
theorem dX3_isSuch_14 : decode cX3_isSuch 14 = .ok (.iload_n 0, 1) := by decide +kernel
theorem dX3_isSuch_15 : decode cX3_isSuch 15 = .ok (.iconst 4, 1) := by decide +kernel
theorem dX3_isSuch_16 : decode cX3_isSuch 16 = .ok (.if_icmp .ne 7, 3) := by decide +kernel
theorem dX3_isSuch_19 : decode cX3_isSuch 19 = .ok (.iconst 1, 1) := by decide +kernel
theorem dX3_isSuch_20 : decode cX3_isSuch 20 = .ok (.goto 4, 3) := by decide +kernel
theorem dX3_isSuch_23 : decode cX3_isSuch 23 = .ok (.iconst 0, 1) := by decide +kernel
theorem dX3_isSuch_24 : decode cX3_isSuch 24 = .ok (.ireturn, 1) := by decide +kernel
theorem dX3_stomachs_0 : decode cX3_stomachs 0 = .ok (.iload_n 0, 1) := by decide +kernel
theorem dX3_stomachs_1 : decode cX3_stomachs 1 = .ok (.iconst 2, 1) := by decide +kernel
theorem dX3_stomachs_2 : decode cX3_stomachs 2 = .ok (.if_icmp .eq 20, 3) := by decide +kernel
theorem dX3_stomachs_5 : decode cX3_stomachs 5 = .ok (.iload_n 0, 1) := by decide +kernel
theorem dX3_stomachs_6 : decode cX3_stomachs 6 = .ok (.iconst 1, 1) := by decide +kernel
theorem dX3_stomachs_7 : decode cX3_stomachs 7 = .ok (.invokestatic 77, 3) := by decide +kernel
theorem dX3_stomachs_10 : decode cX3_stomachs 10 = .ok (.ifCond .ne 8, 3) := by decide +kernel
theorem dX3_stomachs_13 : decode cX3_stomachs 13 = .ok (.iload_n 2, 1) := by decide +kernel
theorem dX3_stomachs_14 : decode cX3_stomachs 14 = .ok (.iload_n 1, 1) := by decide +kernel
theorem dX3_stomachs_15 : decode cX3_stomachs 15 = .ok (.if_icmp .gt 7, 3) := by decide +kernel
theorem dX3_stomachs_18 : decode cX3_stomachs 18 = .ok (.iconst 1, 1) := by decide +kernel
theorem dX3_stomachs_19 : decode cX3_stomachs 19 = .ok (.goto 4, 3) := by decide +kernel
theorem dX3_stomachs_22 : decode cX3_stomachs 22 = .ok (.iconst 0, 1) := by decide +kernel
theorem dX3_stomachs_23 : decode cX3_stomachs 23 = .ok (.ireturn, 1) := by decide +kernel
theorem dX3_carriedBy_0 : decode cX3_carriedBy 0 = .ok (.iload_n 0, 1) := by decide +kernel
theorem dX3_carriedBy_1 : decode cX3_carriedBy 1 = .ok (.iconst 3, 1) := by decide +kernel
theorem dX3_carriedBy_2 : decode cX3_carriedBy 2 = .ok (.if_icmp .ne 9, 3) := by decide +kernel
theorem dX3_carriedBy_5 : decode cX3_carriedBy 5 = .ok (.iload_n 1, 1) := by decide +kernel
theorem dX3_carriedBy_6 : decode cX3_carriedBy 6 = .ok (.iconst 2, 1) := by decide +kernel
theorem dX3_carriedBy_7 : decode cX3_carriedBy 7 = .ok (.idiv, 1) := by decide +kernel
theorem dX3_carriedBy_8 : decode cX3_carriedBy 8 = .ok (.goto 4, 3) := by decide +kernel
theorem dX3_carriedBy_11 : decode cX3_carriedBy 11 = .ok (.iload_n 1, 1) := by decide +kernel
theorem dX3_carriedBy_12 : decode cX3_carriedBy 12 = .ok (.ireturn, 1) := by decide +kernel
theorem dX3_roundedUpHalf_0 : decode cX3_roundedUpHalf 0 = .ok (.iload_n 0, 1) := by decide +kernel
theorem dX3_roundedUpHalf_1 : decode cX3_roundedUpHalf 1 = .ok (.iconst 1, 1) := by decide +kernel
theorem dX3_roundedUpHalf_2 : decode cX3_roundedUpHalf 2 = .ok (.iadd, 1) := by decide +kernel
theorem dX3_roundedUpHalf_3 : decode cX3_roundedUpHalf 3 = .ok (.iconst 2, 1) := by decide +kernel
theorem dX3_roundedUpHalf_4 : decode cX3_roundedUpHalf 4 = .ok (.idiv, 1) := by decide +kernel
theorem dX3_roundedUpHalf_5 : decode cX3_roundedUpHalf 5 = .ok (.ireturn, 1) := by decide +kernel
theorem dX3_lessHungry_0 : decode cX3_lessHungry 0 = .ok (.iload_n 0, 1) := by decide +kernel
theorem dX3_lessHungry_1 : decode cX3_lessHungry 1 = .ok (.iload_n 1, 1) := by decide +kernel
theorem dX3_lessHungry_2 : decode cX3_lessHungry 2 = .ok (.isub, 1) := by decide +kernel
theorem dX3_lessHungry_3 : decode cX3_lessHungry 3 = .ok (.iconst 0, 1) := by decide +kernel
theorem dX3_lessHungry_4 : decode cX3_lessHungry 4 = .ok (.invokestatic 231, 3) := by decide +kernel
theorem dX3_lessHungry_7 : decode cX3_lessHungry 7 = .ok (.ireturn, 1) := by decide +kernel
theorem dX3_isDigit_0 : decode cX3_isDigit 0 = .ok (.iload_n 0, 1) := by decide +kernel
theorem dX3_isDigit_1 : decode cX3_isDigit 1 = .ok (.bipush 48, 2) := by decide +kernel
theorem dX3_isDigit_3 : decode cX3_isDigit 3 = .ok (.if_icmp .lt 13, 3) := by decide +kernel
theorem dX3_isDigit_6 : decode cX3_isDigit 6 = .ok (.iload_n 0, 1) := by decide +kernel
theorem dX3_isDigit_7 : decode cX3_isDigit 7 = .ok (.bipush 57, 2) := by decide +kernel
theorem dX3_isDigit_9 : decode cX3_isDigit 9 = .ok (.if_icmp .gt 7, 3) := by decide +kernel
theorem dX3_isDigit_12 : decode cX3_isDigit 12 = .ok (.iconst 1, 1) := by decide +kernel
theorem dX3_isDigit_13 : decode cX3_isDigit 13 = .ok (.goto 4, 3) := by decide +kernel
theorem dX3_isDigit_16 : decode cX3_isDigit 16 = .ok (.iconst 0, 1) := by decide +kernel
theorem dX3_isDigit_17 : decode cX3_isDigit 17 = .ok (.ireturn, 1) := by decide +kernel
theorem dX3_hasBit_0 : decode cX3_hasBit 0 = .ok (.iload_n 0, 1) := by decide +kernel
theorem dX3_hasBit_1 : decode cX3_hasBit 1 = .ok (.iload_n 1, 1) := by decide +kernel
theorem dX3_hasBit_2 : decode cX3_hasBit 2 = .ok (.ishr, 1) := by decide +kernel
theorem dX3_hasBit_3 : decode cX3_hasBit 3 = .ok (.iconst 1, 1) := by decide +kernel
theorem dX3_hasBit_4 : decode cX3_hasBit 4 = .ok (.iand, 1) := by decide +kernel
theorem dX3_hasBit_5 : decode cX3_hasBit 5 = .ok (.iconst 1, 1) := by decide +kernel
theorem dX3_hasBit_6 : decode cX3_hasBit 6 = .ok (.if_icmp .ne 7, 3) := by decide +kernel
theorem dX3_hasBit_9 : decode cX3_hasBit 9 = .ok (.iconst 1, 1) := by decide +kernel
theorem dX3_hasBit_10 : decode cX3_hasBit 10 = .ok (.goto 4, 3) := by decide +kernel
theorem dX3_hasBit_13 : decode cX3_hasBit 13 = .ok (.iconst 0, 1) := by decide +kernel
theorem dX3_hasBit_14 : decode cX3_hasBit 14 = .ok (.ireturn, 1) := by decide +kernel
theorem dX3_sumOf_0 : decode cX3_sumOf 0 = .ok (.iconst 0, 1) := by decide +kernel
theorem dX3_sumOf_1 : decode cX3_sumOf 1 = .ok (.istore_n 1, 1) := by decide +kernel
theorem dX3_sumOf_2 : decode cX3_sumOf 2 = .ok (.aload_n 0, 1) := by decide +kernel
theorem dX3_sumOf_3 : decode cX3_sumOf 3 = .ok (.astore_n 2, 1) := by decide +kernel
theorem dX3_sumOf_4 : decode cX3_sumOf 4 = .ok (.aload_n 2, 1) := by decide +kernel
theorem dX3_sumOf_5 : decode cX3_sumOf 5 = .ok (.arraylength, 1) := by decide +kernel
theorem dX3_sumOf_6 : decode cX3_sumOf 6 = .ok (.istore_n 3, 1) := by decide +kernel
theorem dX3_sumOf_7 : decode cX3_sumOf 7 = .ok (.iconst 0, 1) := by decide +kernel
theorem dX3_sumOf_8 : decode cX3_sumOf 8 = .ok (.istore 4, 2) := by decide +kernel
theorem dX3_sumOf_10 : decode cX3_sumOf 10 = .ok (.iload 4, 2) := by decide +kernel
theorem dX3_sumOf_12 : decode cX3_sumOf 12 = .ok (.iload_n 3, 1) := by decide +kernel
theorem dX3_sumOf_13 : decode cX3_sumOf 13 = .ok (.if_icmp .ge 20, 3) := by decide +kernel
theorem dX3_sumOf_16 : decode cX3_sumOf 16 = .ok (.aload_n 2, 1) := by decide +kernel
theorem dX3_sumOf_17 : decode cX3_sumOf 17 = .ok (.iload 4, 2) := by decide +kernel
theorem dX3_sumOf_19 : decode cX3_sumOf 19 = .ok (.iaload, 1) := by decide +kernel
theorem dX3_sumOf_20 : decode cX3_sumOf 20 = .ok (.istore 5, 2) := by decide +kernel
theorem dX3_sumOf_22 : decode cX3_sumOf 22 = .ok (.iload_n 1, 1) := by decide +kernel
theorem dX3_sumOf_23 : decode cX3_sumOf 23 = .ok (.iload 5, 2) := by decide +kernel
theorem dX3_sumOf_25 : decode cX3_sumOf 25 = .ok (.iadd, 1) := by decide +kernel
theorem dX3_sumOf_26 : decode cX3_sumOf 26 = .ok (.istore_n 1, 1) := by decide +kernel
theorem dX3_sumOf_27 : decode cX3_sumOf 27 = .ok (.iinc 4 1, 3) := by decide +kernel
theorem dX3_sumOf_30 : decode cX3_sumOf 30 = .ok (.goto (-20), 3) := by decide +kernel
theorem dX3_sumOf_33 : decode cX3_sumOf 33 = .ok (.iload_n 1, 1) := by decide +kernel
theorem dX3_sumOf_34 : decode cX3_sumOf 34 = .ok (.ireturn, 1) := by decide +kernel
theorem dX3_greatestOf_0 : decode cX3_greatestOf 0 = .ok (.iconst 0, 1) := by decide +kernel
theorem dX3_greatestOf_1 : decode cX3_greatestOf 1 = .ok (.istore_n 1, 1) := by decide +kernel
theorem dX3_greatestOf_2 : decode cX3_greatestOf 2 = .ok (.aload_n 0, 1) := by decide +kernel
theorem dX3_greatestOf_3 : decode cX3_greatestOf 3 = .ok (.astore_n 2, 1) := by decide +kernel
theorem dX3_greatestOf_4 : decode cX3_greatestOf 4 = .ok (.aload_n 2, 1) := by decide +kernel
theorem dX3_greatestOf_5 : decode cX3_greatestOf 5 = .ok (.arraylength, 1) := by decide +kernel
theorem dX3_greatestOf_6 : decode cX3_greatestOf 6 = .ok (.istore_n 3, 1) := by decide +kernel
theorem dX3_greatestOf_7 : decode cX3_greatestOf 7 = .ok (.iconst 0, 1) := by decide +kernel
theorem dX3_greatestOf_8 : decode cX3_greatestOf 8 = .ok (.istore 4, 2) := by decide +kernel
theorem dX3_greatestOf_10 : decode cX3_greatestOf 10 = .ok (.iload 4, 2) := by decide +kernel
theorem dX3_greatestOf_12 : decode cX3_greatestOf 12 = .ok (.iload_n 3, 1) := by decide +kernel
theorem dX3_greatestOf_13 : decode cX3_greatestOf 13 = .ok (.if_icmp .ge 22, 3) := by decide +kernel
theorem dX3_greatestOf_16 : decode cX3_greatestOf 16 = .ok (.aload_n 2, 1) := by decide +kernel
theorem dX3_greatestOf_17 : decode cX3_greatestOf 17 = .ok (.iload 4, 2) := by decide +kernel
theorem dX3_greatestOf_19 : decode cX3_greatestOf 19 = .ok (.iaload, 1) := by decide +kernel
theorem dX3_greatestOf_20 : decode cX3_greatestOf 20 = .ok (.istore 5, 2) := by decide +kernel
theorem dX3_greatestOf_22 : decode cX3_greatestOf 22 = .ok (.iload_n 1, 1) := by decide +kernel
theorem dX3_greatestOf_23 : decode cX3_greatestOf 23 = .ok (.iload 5, 2) := by decide +kernel
theorem dX3_greatestOf_25 : decode cX3_greatestOf 25 = .ok (.invokestatic 231, 3) := by decide +kernel
theorem dX3_greatestOf_28 : decode cX3_greatestOf 28 = .ok (.istore_n 1, 1) := by decide +kernel
theorem dX3_greatestOf_29 : decode cX3_greatestOf 29 = .ok (.iinc 4 1, 3) := by decide +kernel
theorem dX3_greatestOf_32 : decode cX3_greatestOf 32 = .ok (.goto (-22), 3) := by decide +kernel
theorem dX3_greatestOf_35 : decode cX3_greatestOf 35 = .ok (.iload_n 1, 1) := by decide +kernel
theorem dX3_greatestOf_36 : decode cX3_greatestOf 36 = .ok (.ireturn, 1) := by decide +kernel
theorem dX3_copyRow_0 : decode cX3_copyRow 0 = .ok (.aload_n 0, 1) := by decide +kernel
theorem dX3_copyRow_1 : decode cX3_copyRow 1 = .ok (.iconst 0, 1) := by decide +kernel
theorem dX3_copyRow_2 : decode cX3_copyRow 2 = .ok (.aload_n 1, 1) := by decide +kernel
theorem dX3_copyRow_3 : decode cX3_copyRow 3 = .ok (.iconst 0, 1) := by decide +kernel
theorem dX3_copyRow_4 : decode cX3_copyRow 4 = .ok (.aload_n 0, 1) := by decide +kernel
theorem dX3_copyRow_5 : decode cX3_copyRow 5 = .ok (.arraylength, 1) := by decide +kernel
theorem dX3_copyRow_6 : decode cX3_copyRow 6 = .ok (.aload_n 1, 1) := by decide +kernel
theorem dX3_copyRow_7 : decode cX3_copyRow 7 = .ok (.arraylength, 1) := by decide +kernel
theorem dX3_copyRow_8 : decode cX3_copyRow 8 = .ok (.invokestatic 253, 3) := by decide +kernel
theorem dX3_copyRow_11 : decode cX3_copyRow 11 = .ok (.invokestatic 256, 3) := by decide +kernel
theorem dX3_copyRow_14 : decode cX3_copyRow 14 = .ok (.return_, 1) := by decide +kernel
theorem dX4_init_0 : decode cX4_init 0 = .ok (.aload_n 0, 1) := by decide +kernel
theorem dX4_init_1 : decode cX4_init 1 = .ok (.invokespecial 1, 3) := by decide +kernel
theorem dX4_init_4 : decode cX4_init 4 = .ok (.aload_n 0, 1) := by decide +kernel
theorem dX4_init_5 : decode cX4_init 5 = .ok (.iconst 4, 1) := by decide +kernel
theorem dX4_init_6 : decode cX4_init 6 = .ok (.newarray .int, 2) := by decide +kernel
theorem dX4_init_8 : decode cX4_init 8 = .ok (.putfield 7, 3) := by decide +kernel
theorem dX4_init_11 : decode cX4_init 11 = .ok (.aload_n 0, 1) := by decide +kernel
theorem dX4_init_12 : decode cX4_init 12 = .ok (.iconst 4, 1) := by decide +kernel
theorem dX4_init_13 : decode cX4_init 13 = .ok (.newarray .int, 2) := by decide +kernel
theorem dX4_init_15 : decode cX4_init 15 = .ok (.putfield 13, 3) := by decide +kernel
theorem dX4_init_18 : decode cX4_init 18 = .ok (.aload_n 0, 1) := by decide +kernel
theorem dX4_init_19 : decode cX4_init 19 = .ok (.iconst 4, 1) := by decide +kernel
theorem dX4_init_20 : decode cX4_init 20 = .ok (.newarray .boolean, 2) := by decide +kernel
theorem dX4_init_22 : decode cX4_init 22 = .ok (.putfield 16, 3) := by decide +kernel
theorem dX4_init_25 : decode cX4_init 25 = .ok (.aload_n 0, 1) := by decide +kernel
theorem dX4_init_26 : decode cX4_init 26 = .ok (.iconst 4, 1) := by decide +kernel
theorem dX4_init_27 : decode cX4_init 27 = .ok (.newarray .int, 2) := by decide +kernel
theorem dX4_init_29 : decode cX4_init 29 = .ok (.putfield 20, 3) := by decide +kernel
theorem dX4_init_32 : decode cX4_init 32 = .ok (.aload_n 0, 1) := by decide +kernel
theorem dX4_init_33 : decode cX4_init 33 = .ok (.iconst 4, 1) := by decide +kernel
theorem dX4_init_34 : decode cX4_init 34 = .ok (.newarray .int, 2) := by decide +kernel
theorem dX4_init_36 : decode cX4_init 36 = .ok (.putfield 23, 3) := by decide +kernel
theorem dX4_init_39 : decode cX4_init 39 = .ok (.aload_n 0, 1) := by decide +kernel
theorem dX4_init_40 : decode cX4_init 40 = .ok (.bipush 8, 2) := by decide +kernel
theorem dX4_init_42 : decode cX4_init 42 = .ok (.newarray .int, 2) := by decide +kernel
theorem dX4_init_44 : decode cX4_init 44 = .ok (.putfield 26, 3) := by decide +kernel
theorem dX4_init_47 : decode cX4_init 47 = .ok (.aload_n 0, 1) := by decide +kernel
theorem dX4_init_48 : decode cX4_init 48 = .ok (.bipush 8, 2) := by decide +kernel
theorem dX4_init_50 : decode cX4_init 50 = .ok (.newarray .int, 2) := by decide +kernel
theorem dX4_init_52 : decode cX4_init 52 = .ok (.putfield 29, 3) := by decide +kernel
theorem dX4_init_55 : decode cX4_init 55 = .ok (.aload_n 0, 1) := by decide +kernel
theorem dX4_init_56 : decode cX4_init 56 = .ok (.bipush 6, 2) := by decide +kernel
theorem dX4_init_58 : decode cX4_init 58 = .ok (.newarray .int, 2) := by decide +kernel
theorem dX4_init_60 : decode cX4_init 60 = .ok (.putfield 32, 3) := by decide +kernel
theorem dX4_init_63 : decode cX4_init 63 = .ok (.aload_n 0, 1) := by decide +kernel
theorem dX4_init_64 : decode cX4_init 64 = .ok (.bipush 6, 2) := by decide +kernel
theorem dX4_init_66 : decode cX4_init 66 = .ok (.newarray .int, 2) := by decide +kernel
theorem dX4_init_68 : decode cX4_init 68 = .ok (.putfield 35, 3) := by decide +kernel
theorem dX4_init_71 : decode cX4_init 71 = .ok (.aload_n 0, 1) := by decide +kernel
theorem dX4_init_72 : decode cX4_init 72 = .ok (.bipush 6, 2) := by decide +kernel
theorem dX4_init_74 : decode cX4_init 74 = .ok (.newarray .int, 2) := by decide +kernel
theorem dX4_init_76 : decode cX4_init 76 = .ok (.putfield 38, 3) := by decide +kernel
theorem dX4_init_79 : decode cX4_init 79 = .ok (.aload_n 0, 1) := by decide +kernel
theorem dX4_init_80 : decode cX4_init 80 = .ok (.bipush 24, 2) := by decide +kernel
theorem dX4_init_82 : decode cX4_init 82 = .ok (.newarray .byte, 2) := by decide +kernel
theorem dX4_init_84 : decode cX4_init 84 = .ok (.putfield 41, 3) := by decide +kernel
theorem dX4_init_87 : decode cX4_init 87 = .ok (.aload_n 0, 1) := by decide +kernel
theorem dX4_init_88 : decode cX4_init 88 = .ok (.iconst 4, 1) := by decide +kernel
theorem dX4_init_89 : decode cX4_init 89 = .ok (.newarray .int, 2) := by decide +kernel
theorem dX4_init_91 : decode cX4_init 91 = .ok (.putfield 45, 3) := by decide +kernel
theorem dX4_init_94 : decode cX4_init 94 = .ok (.aload_n 0, 1) := by decide +kernel
theorem dX4_init_95 : decode cX4_init 95 = .ok (.iconst 4, 1) := by decide +kernel
theorem dX4_init_96 : decode cX4_init 96 = .ok (.newarray .int, 2) := by decide +kernel
theorem dX4_init_98 : decode cX4_init 98 = .ok (.putfield 48, 3) := by decide +kernel
theorem dX4_init_101 : decode cX4_init 101 = .ok (.aload_n 0, 1) := by decide +kernel
theorem dX4_init_102 : decode cX4_init 102 = .ok (.iconst 4, 1) := by decide +kernel
theorem dX4_init_103 : decode cX4_init 103 = .ok (.newarray .int, 2) := by decide +kernel
theorem dX4_init_105 : decode cX4_init 105 = .ok (.putfield 51, 3) := by decide +kernel
theorem dX4_init_108 : decode cX4_init 108 = .ok (.aload_n 0, 1) := by decide +kernel
theorem dX4_init_109 : decode cX4_init 109 = .ok (.iconst 4, 1) := by decide +kernel
theorem dX4_init_110 : decode cX4_init 110 = .ok (.newarray .int, 2) := by decide +kernel
theorem dX4_init_112 : decode cX4_init 112 = .ok (.putfield 54, 3) := by decide +kernel
theorem dX4_init_115 : decode cX4_init 115 = .ok (.aload_n 0, 1) := by decide +kernel
theorem dX4_init_116 : decode cX4_init 116 = .ok (.iconst 4, 1) := by decide +kernel
theorem dX4_init_117 : decode cX4_init 117 = .ok (.newarray .boolean, 2) := by decide +kernel
theorem dX4_init_119 : decode cX4_init 119 = .ok (.putfield 57, 3) := by decide +kernel
theorem dX4_init_122 : decode cX4_init 122 = .ok (.aload_n 0, 1) := by decide +kernel
theorem dX4_init_123 : decode cX4_init 123 = .ok (.iconst 4, 1) := by decide +kernel
theorem dX4_init_124 : decode cX4_init 124 = .ok (.newarray .int, 2) := by decide +kernel
theorem dX4_init_126 : decode cX4_init 126 = .ok (.putfield 60, 3) := by decide +kernel
theorem dX4_init_129 : decode cX4_init 129 = .ok (.aload_n 0, 1) := by decide +kernel
theorem dX4_init_130 : decode cX4_init 130 = .ok (.iconst 4, 1) := by decide +kernel
theorem dX4_init_131 : decode cX4_init 131 = .ok (.newarray .int, 2) := by decide +kernel
theorem dX4_init_133 : decode cX4_init 133 = .ok (.putfield 63, 3) := by decide +kernel
theorem dX4_init_136 : decode cX4_init 136 = .ok (.aload_n 0, 1) := by decide +kernel
theorem dX4_init_137 : decode cX4_init 137 = .ok (.bipush 6, 2) := by decide +kernel
theorem dX4_init_139 : decode cX4_init 139 = .ok (.newarray .int, 2) := by decide +kernel
theorem dX4_init_141 : decode cX4_init 141 = .ok (.putfield 66, 3) := by decide +kernel
theorem dX4_init_144 : decode cX4_init 144 = .ok (.aload_n 0, 1) := by decide +kernel
theorem dX4_init_145 : decode cX4_init 145 = .ok (.bipush 6, 2) := by decide +kernel
theorem dX4_init_147 : decode cX4_init 147 = .ok (.newarray .int, 2) := by decide +kernel
theorem dX4_init_149 : decode cX4_init 149 = .ok (.putfield 69, 3) := by decide +kernel
theorem dX4_init_152 : decode cX4_init 152 = .ok (.aload_n 0, 1) := by decide +kernel
theorem dX4_init_153 : decode cX4_init 153 = .ok (.bipush 6, 2) := by decide +kernel
theorem dX4_init_155 : decode cX4_init 155 = .ok (.newarray .int, 2) := by decide +kernel
theorem dX4_init_157 : decode cX4_init 157 = .ok (.putfield 72, 3) := by decide +kernel
theorem dX4_init_160 : decode cX4_init 160 = .ok (.return_, 1) := by decide +kernel
theorem dX4_within_0 : decode cX4_within 0 = .ok (.iload_n 0, 1) := by decide +kernel
theorem dX4_within_1 : decode cX4_within 1 = .ok (.iload_n 1, 1) := by decide +kernel
theorem dX4_within_2 : decode cX4_within 2 = .ok (.if_icmp .lt 12, 3) := by decide +kernel
theorem dX4_within_5 : decode cX4_within 5 = .ok (.iload_n 0, 1) := by decide +kernel
theorem dX4_within_6 : decode cX4_within 6 = .ok (.iload_n 2, 1) := by decide +kernel
theorem dX4_within_7 : decode cX4_within 7 = .ok (.if_icmp .gt 7, 3) := by decide +kernel
theorem dX4_within_10 : decode cX4_within 10 = .ok (.iconst 1, 1) := by decide +kernel
theorem dX4_within_11 : decode cX4_within 11 = .ok (.goto 4, 3) := by decide +kernel
theorem dX4_within_14 : decode cX4_within 14 = .ok (.iconst 0, 1) := by decide +kernel
theorem dX4_within_15 : decode cX4_within 15 = .ok (.ireturn, 1) := by decide +kernel
theorem dX4_isIn_0 : decode cX4_isIn 0 = .ok (.iload_n 0, 1) := by decide +kernel
theorem dX4_isIn_1 : decode cX4_isIn 1 = .ok (.iload_n 1, 1) := by decide +kernel
theorem dX4_isIn_2 : decode cX4_isIn 2 = .ok (.ishr, 1) := by decide +kernel
theorem dX4_isIn_3 : decode cX4_isIn 3 = .ok (.iconst 1, 1) := by decide +kernel
theorem dX4_isIn_4 : decode cX4_isIn 4 = .ok (.iand, 1) := by decide +kernel
theorem dX4_isIn_5 : decode cX4_isIn 5 = .ok (.iconst 1, 1) := by decide +kernel
theorem dX4_isIn_6 : decode cX4_isIn 6 = .ok (.if_icmp .ne 7, 3) := by decide +kernel
theorem dX4_isIn_9 : decode cX4_isIn 9 = .ok (.iconst 1, 1) := by decide +kernel
theorem dX4_isIn_10 : decode cX4_isIn 10 = .ok (.goto 4, 3) := by decide +kernel
theorem dX4_isIn_13 : decode cX4_isIn 13 = .ok (.iconst 0, 1) := by decide +kernel
theorem dX4_isIn_14 : decode cX4_isIn 14 = .ok (.ireturn, 1) := by decide +kernel
theorem dX4_letter_0 : decode cX4_letter 0 = .ok (.iload_n 1, 1) := by decide +kernel
theorem dX4_letter_1 : decode cX4_letter 1 = .ok (.bipush 32, 2) := by decide +kernel
theorem dX4_letter_3 : decode cX4_letter 3 = .ok (.bipush 126, 2) := by decide +kernel
theorem dX4_letter_5 : decode cX4_letter 5 = .ok (.invokestatic 75, 3) := by decide +kernel
theorem dX4_letter_8 : decode cX4_letter 8 = .ok (.ifCond .ne 6, 3) := by decide +kernel
theorem dX4_letter_11 : decode cX4_letter 11 = .ok (.bipush (-102), 2) := by decide +kernel
theorem dX4_letter_13 : decode cX4_letter 13 = .ok (.ireturn, 1) := by decide +kernel
theorem dX4_letter_14 : decode cX4_letter 14 = .ok (.aload_n 0, 1) := by decide +kernel
theorem dX4_letter_15 : decode cX4_letter 15 = .ok (.getfield 79, 3) := by decide +kernel
theorem dX4_letter_18 : decode cX4_letter 18 = .ok (.bipush 24, 2) := by decide +kernel
theorem dX4_letter_20 : decode cX4_letter 20 = .ok (.if_icmp .ne 6, 3) := by decide +kernel
theorem dX4_letter_23 : decode cX4_letter 23 = .ok (.bipush (-104), 2) := by decide +kernel
theorem dX4_letter_25 : decode cX4_letter 25 = .ok (.ireturn, 1) := by decide +kernel
theorem dX4_letter_26 : decode cX4_letter 26 = .ok (.aload_n 0, 1) := by decide +kernel
theorem dX4_letter_27 : decode cX4_letter 27 = .ok (.getfield 41, 3) := by decide +kernel
theorem dX4_letter_30 : decode cX4_letter 30 = .ok (.aload_n 0, 1) := by decide +kernel
theorem dX4_letter_31 : decode cX4_letter 31 = .ok (.getfield 79, 3) := by decide +kernel
theorem dX4_letter_34 : decode cX4_letter 34 = .ok (.iload_n 1, 1) := by decide +kernel
theorem dX4_letter_35 : decode cX4_letter 35 = .ok (.i2b, 1) := by decide +kernel
theorem dX4_letter_36 : decode cX4_letter 36 = .ok (.bastore, 1) := by decide +kernel
theorem dX4_letter_37 : decode cX4_letter 37 = .ok (.aload_n 0, 1) := by decide +kernel
theorem dX4_letter_38 : decode cX4_letter 38 = .ok (.dup, 1) := by decide +kernel
theorem dX4_letter_39 : decode cX4_letter 39 = .ok (.getfield 79, 3) := by decide +kernel
theorem dX4_letter_42 : decode cX4_letter 42 = .ok (.iconst 1, 1) := by decide +kernel
theorem dX4_letter_43 : decode cX4_letter 43 = .ok (.iadd, 1) := by decide +kernel
theorem dX4_letter_44 : decode cX4_letter 44 = .ok (.putfield 79, 3) := by decide +kernel
theorem dX4_letter_47 : decode cX4_letter 47 = .ok (.aload_n 0, 1) := by decide +kernel
theorem dX4_letter_48 : decode cX4_letter 48 = .ok (.getfield 79, 3) := by decide +kernel
theorem dX4_letter_51 : decode cX4_letter 51 = .ok (.ireturn, 1) := by decide +kernel
theorem dX4_blank_0 : decode cX4_blank 0 = .ok (.aload_n 0, 1) := by decide +kernel
theorem dX4_blank_1 : decode cX4_blank 1 = .ok (.getfield 79, 3) := by decide +kernel
theorem dX4_blank_4 : decode cX4_blank 4 = .ok (.istore_n 1, 1) := by decide +kernel
theorem dX4_blank_5 : decode cX4_blank 5 = .ok (.aload_n 0, 1) := by decide +kernel
theorem dX4_blank_6 : decode cX4_blank 6 = .ok (.iconst 0, 1) := by decide +kernel
theorem dX4_blank_7 : decode cX4_blank 7 = .ok (.putfield 79, 3) := by decide +kernel
theorem dX4_blank_10 : decode cX4_blank 10 = .ok (.iload_n 1, 1) := by decide +kernel
theorem dX4_blank_11 : decode cX4_blank 11 = .ok (.ireturn, 1) := by decide +kernel
theorem dX4_kindBy_0 : decode cX4_kindBy 0 = .ok (.iload_n 0, 1) := by decide +kernel
theorem dX4_kindBy_1 : decode cX4_kindBy 1 = .ok (.lookupswitch 61 #[(98, 57), (101, 51), (112, 53), (114, 55), (116, 59)], 51) := by decide +kernel
theorem dX4_kindBy_52 : decode cX4_kindBy 52 = .ok (.iconst 0, 1) := by decide +kernel
theorem dX4_kindBy_53 : decode cX4_kindBy 53 = .ok (.ireturn, 1) := by decide +kernel
theorem dX4_kindBy_54 : decode cX4_kindBy 54 = .ok (.iconst 1, 1) := by decide +kernel
theorem dX4_kindBy_55 : decode cX4_kindBy 55 = .ok (.ireturn, 1) := by decide +kernel
theorem dX4_kindBy_56 : decode cX4_kindBy 56 = .ok (.iconst 2, 1) := by decide +kernel
theorem dX4_kindBy_57 : decode cX4_kindBy 57 = .ok (.ireturn, 1) := by decide +kernel
theorem dX4_kindBy_58 : decode cX4_kindBy 58 = .ok (.iconst 3, 1) := by decide +kernel
theorem dX4_kindBy_59 : decode cX4_kindBy 59 = .ok (.ireturn, 1) := by decide +kernel
theorem dX4_kindBy_60 : decode cX4_kindBy 60 = .ok (.iconst 4, 1) := by decide +kernel
theorem dX4_kindBy_61 : decode cX4_kindBy 61 = .ok (.ireturn, 1) := by decide +kernel
theorem dX4_kindBy_62 : decode cX4_kindBy 62 = .ok (.iconst (-1), 1) := by decide +kernel
theorem dX4_kindBy_63 : decode cX4_kindBy 63 = .ok (.ireturn, 1) := by decide +kernel
theorem dX4_isFigure_0 : decode cX4_isFigure 0 = .ok (.iload_n 1, 1) := by decide +kernel
theorem dX4_isFigure_1 : decode cX4_isFigure 1 = .ok (.aload_n 0, 1) := by decide +kernel
theorem dX4_isFigure_2 : decode cX4_isFigure 2 = .ok (.getfield 79, 3) := by decide +kernel
theorem dX4_isFigure_5 : decode cX4_isFigure 5 = .ok (.if_icmp .ge 25, 3) := by decide +kernel
theorem dX4_isFigure_8 : decode cX4_isFigure 8 = .ok (.aload_n 0, 1) := by decide +kernel
theorem dX4_isFigure_9 : decode cX4_isFigure 9 = .ok (.getfield 41, 3) := by decide +kernel
theorem dX4_isFigure_12 : decode cX4_isFigure 12 = .ok (.iload_n 1, 1) := by decide +kernel
theorem dX4_isFigure_13 : decode cX4_isFigure 13 = .ok (.baload, 1) := by decide +kernel
theorem dX4_isFigure_14 : decode cX4_isFigure 14 = .ok (.bipush 48, 2) := by decide +kernel
theorem dX4_isFigure_16 : decode cX4_isFigure 16 = .ok (.isub, 1) := by decide +kernel
theorem dX4_isFigure_17 : decode cX4_isFigure 17 = .ok (.iconst 0, 1) := by decide +kernel
theorem dX4_isFigure_18 : decode cX4_isFigure 18 = .ok (.bipush 9, 2) := by decide +kernel
theorem dX4_isFigure_20 : decode cX4_isFigure 20 = .ok (.invokestatic 75, 3) := by decide +kernel
theorem dX4_isFigure_23 : decode cX4_isFigure 23 = .ok (.ifCond .eq 7, 3) := by decide +kernel
theorem dX4_isFigure_26 : decode cX4_isFigure 26 = .ok (.iconst 1, 1) := by decide +kernel
theorem dX4_isFigure_27 : decode cX4_isFigure 27 = .ok (.goto 4, 3) := by decide +kernel
theorem dX4_isFigure_30 : decode cX4_isFigure 30 = .ok (.iconst 0, 1) := by decide +kernel
theorem dX4_isFigure_31 : decode cX4_isFigure 31 = .ok (.ireturn, 1) := by decide +kernel
theorem dX4_readLoaves_0 : decode cX4_readLoaves 0 = .ok (.iload_n 1, 1) := by decide +kernel
theorem dX4_readLoaves_1 : decode cX4_readLoaves 1 = .ok (.istore_n 2, 1) := by decide +kernel
theorem dX4_readLoaves_2 : decode cX4_readLoaves 2 = .ok (.iload_n 2, 1) := by decide +kernel
theorem dX4_readLoaves_3 : decode cX4_readLoaves 3 = .ok (.iload_n 1, 1) := by decide +kernel
theorem dX4_readLoaves_4 : decode cX4_readLoaves 4 = .ok (.bipush 10, 2) := by decide +kernel
theorem dX4_readLoaves_6 : decode cX4_readLoaves 6 = .ok (.iadd, 1) := by decide +kernel
theorem dX4_readLoaves_7 : decode cX4_readLoaves 7 = .ok (.if_icmp .ge 17, 3) := by decide +kernel
theorem dX4_readLoaves_10 : decode cX4_readLoaves 10 = .ok (.aload_n 0, 1) := by decide +kernel
theorem dX4_readLoaves_11 : decode cX4_readLoaves 11 = .ok (.iload_n 2, 1) := by decide +kernel
theorem dX4_readLoaves_12 : decode cX4_readLoaves 12 = .ok (.invokevirtual 83, 3) := by decide +kernel
theorem dX4_readLoaves_15 : decode cX4_readLoaves 15 = .ok (.ifCond .eq 9, 3) := by decide +kernel
theorem dX4_readLoaves_18 : decode cX4_readLoaves 18 = .ok (.iinc 2 1, 3) := by decide +kernel
theorem dX4_readLoaves_21 : decode cX4_readLoaves 21 = .ok (.goto (-19), 3) := by decide +kernel
theorem dX4_readLoaves_24 : decode cX4_readLoaves 24 = .ok (.aload_n 0, 1) := by decide +kernel
theorem dX4_readLoaves_25 : decode cX4_readLoaves 25 = .ok (.iload_n 2, 1) := by decide +kernel
theorem dX4_readLoaves_26 : decode cX4_readLoaves 26 = .ok (.iload_n 1, 1) := by decide +kernel
theorem dX4_readLoaves_27 : decode cX4_readLoaves 27 = .ok (.isub, 1) := by decide +kernel
theorem dX4_readLoaves_28 : decode cX4_readLoaves 28 = .ok (.iconst 2, 1) := by decide +kernel
theorem dX4_readLoaves_29 : decode cX4_readLoaves 29 = .ok (.idiv, 1) := by decide +kernel
theorem dX4_readLoaves_30 : decode cX4_readLoaves 30 = .ok (.putfield 87, 3) := by decide +kernel
theorem dX4_readLoaves_33 : decode cX4_readLoaves 33 = .ok (.aload_n 0, 1) := by decide +kernel
theorem dX4_readLoaves_34 : decode cX4_readLoaves 34 = .ok (.iload_n 2, 1) := by decide +kernel
theorem dX4_readLoaves_35 : decode cX4_readLoaves 35 = .ok (.aload_n 0, 1) := by decide +kernel
theorem dX4_readLoaves_36 : decode cX4_readLoaves 36 = .ok (.getfield 79, 3) := by decide +kernel
theorem dX4_readLoaves_39 : decode cX4_readLoaves 39 = .ok (.if_icmp .ne 22, 3) := by decide +kernel
theorem dX4_readLoaves_42 : decode cX4_readLoaves 42 = .ok (.aload_n 0, 1) := by decide +kernel
theorem dX4_readLoaves_43 : decode cX4_readLoaves 43 = .ok (.getfield 87, 3) := by decide +kernel
theorem dX4_readLoaves_46 : decode cX4_readLoaves 46 = .ok (.ifCond .le 15, 3) := by decide +kernel
theorem dX4_readLoaves_49 : decode cX4_readLoaves 49 = .ok (.iload_n 2, 1) := by decide +kernel
theorem dX4_readLoaves_50 : decode cX4_readLoaves 50 = .ok (.iload_n 1, 1) := by decide +kernel
theorem dX4_readLoaves_51 : decode cX4_readLoaves 51 = .ok (.isub, 1) := by decide +kernel
theorem dX4_readLoaves_52 : decode cX4_readLoaves 52 = .ok (.iconst 2, 1) := by decide +kernel
theorem dX4_readLoaves_53 : decode cX4_readLoaves 53 = .ok (.irem, 1) := by decide +kernel
theorem dX4_readLoaves_54 : decode cX4_readLoaves 54 = .ok (.ifCond .ne 7, 3) := by decide +kernel
theorem dX4_readLoaves_57 : decode cX4_readLoaves 57 = .ok (.iconst 1, 1) := by decide +kernel
theorem dX4_readLoaves_58 : decode cX4_readLoaves 58 = .ok (.goto 4, 3) := by decide +kernel
theorem dX4_readLoaves_61 : decode cX4_readLoaves 61 = .ok (.iconst 0, 1) := by decide +kernel
theorem dX4_readLoaves_62 : decode cX4_readLoaves 62 = .ok (.putfield 90, 3) := by decide +kernel
theorem dX4_readLoaves_65 : decode cX4_readLoaves 65 = .ok (.iload_n 2, 1) := by decide +kernel
theorem dX4_readLoaves_66 : decode cX4_readLoaves 66 = .ok (.ireturn, 1) := by decide +kernel
theorem dX4_read_0 : decode cX4_read 0 = .ok (.aload_n 0, 1) := by decide +kernel
theorem dX4_read_1 : decode cX4_read 1 = .ok (.iconst 0, 1) := by decide +kernel
theorem dX4_read_2 : decode cX4_read 2 = .ok (.putfield 90, 3) := by decide +kernel
theorem dX4_read_5 : decode cX4_read 5 = .ok (.aload_n 0, 1) := by decide +kernel
theorem dX4_read_6 : decode cX4_read 6 = .ok (.iconst 0, 1) := by decide +kernel
theorem dX4_read_7 : decode cX4_read 7 = .ok (.putfield 94, 3) := by decide +kernel
theorem dX4_read_10 : decode cX4_read 10 = .ok (.iconst 0, 1) := by decide +kernel
theorem dX4_read_11 : decode cX4_read 11 = .ok (.istore_n 1, 1) := by decide +kernel
theorem dX4_read_12 : decode cX4_read 12 = .ok (.aload_n 0, 1) := by decide +kernel
theorem dX4_read_13 : decode cX4_read 13 = .ok (.getfield 94, 3) := by decide +kernel
theorem dX4_read_16 : decode cX4_read 16 = .ok (.iconst 4, 1) := by decide +kernel
theorem dX4_read_17 : decode cX4_read 17 = .ok (.if_icmp .ge 123, 3) := by decide +kernel
theorem dX4_read_20 : decode cX4_read 20 = .ok (.iload_n 1, 1) := by decide +kernel
theorem dX4_read_21 : decode cX4_read 21 = .ok (.aload_n 0, 1) := by decide +kernel
theorem dX4_read_22 : decode cX4_read 22 = .ok (.getfield 79, 3) := by decide +kernel
theorem dX4_read_25 : decode cX4_read 25 = .ok (.if_icmp .eq 16, 3) := by decide +kernel
theorem dX4_read_28 : decode cX4_read 28 = .ok (.aload_n 0, 1) := by decide +kernel
theorem dX4_read_29 : decode cX4_read 29 = .ok (.getfield 41, 3) := by decide +kernel
theorem dX4_read_32 : decode cX4_read 32 = .ok (.iload_n 1, 1) := by decide +kernel
theorem dX4_read_33 : decode cX4_read 33 = .ok (.baload, 1) := by decide +kernel
theorem dX4_read_34 : decode cX4_read 34 = .ok (.invokestatic 97, 3) := by decide +kernel
theorem dX4_read_37 : decode cX4_read 37 = .ok (.iconst (-1), 1) := by decide +kernel
theorem dX4_read_38 : decode cX4_read 38 = .ok (.if_icmp .ne 5, 3) := by decide +kernel
theorem dX4_read_41 : decode cX4_read 41 = .ok (.iload_n 1, 1) := by decide +kernel
theorem dX4_read_42 : decode cX4_read 42 = .ok (.ireturn, 1) := by decide +kernel
theorem dX4_read_43 : decode cX4_read 43 = .ok (.aload_n 0, 1) := by decide +kernel
theorem dX4_read_44 : decode cX4_read 44 = .ok (.iload_n 1, 1) := by decide +kernel
theorem dX4_read_45 : decode cX4_read 45 = .ok (.iconst 1, 1) := by decide +kernel
theorem dX4_read_46 : decode cX4_read 46 = .ok (.iadd, 1) := by decide +kernel
theorem dX4_read_47 : decode cX4_read 47 = .ok (.invokevirtual 83, 3) := by decide +kernel
theorem dX4_read_50 : decode cX4_read 50 = .ok (.ifCond .ne 7, 3) := by decide +kernel
theorem dX4_read_53 : decode cX4_read 53 = .ok (.iload_n 1, 1) := by decide +kernel
theorem dX4_read_54 : decode cX4_read 54 = .ok (.iconst 1, 1) := by decide +kernel
theorem dX4_read_55 : decode cX4_read 55 = .ok (.iadd, 1) := by decide +kernel
theorem dX4_read_56 : decode cX4_read 56 = .ok (.ireturn, 1) := by decide +kernel
theorem dX4_read_57 : decode cX4_read 57 = .ok (.aload_n 0, 1) := by decide +kernel
theorem dX4_read_58 : decode cX4_read 58 = .ok (.dup, 1) := by decide +kernel
theorem dX4_read_59 : decode cX4_read 59 = .ok (.getfield 94, 3) := by decide +kernel
theorem dX4_read_62 : decode cX4_read 62 = .ok (.iconst 1, 1) := by decide +kernel
theorem dX4_read_63 : decode cX4_read 63 = .ok (.iadd, 1) := by decide +kernel
theorem dX4_read_64 : decode cX4_read 64 = .ok (.putfield 94, 3) := by decide +kernel
theorem dX4_read_67 : decode cX4_read 67 = .ok (.iinc 1 2, 3) := by decide +kernel
theorem dX4_read_70 : decode cX4_read 70 = .ok (.iload_n 1, 1) := by decide +kernel
theorem dX4_read_71 : decode cX4_read 71 = .ok (.aload_n 0, 1) := by decide +kernel
theorem dX4_read_72 : decode cX4_read 72 = .ok (.getfield 79, 3) := by decide +kernel
theorem dX4_read_75 : decode cX4_read 75 = .ok (.if_icmp .ge 30, 3) := by decide +kernel
theorem dX4_read_78 : decode cX4_read 78 = .ok (.aload_n 0, 1) := by decide +kernel
theorem dX4_read_79 : decode cX4_read 79 = .ok (.getfield 41, 3) := by decide +kernel
theorem dX4_read_82 : decode cX4_read 82 = .ok (.iload_n 1, 1) := by decide +kernel
theorem dX4_read_83 : decode cX4_read 83 = .ok (.baload, 1) := by decide +kernel
theorem dX4_read_84 : decode cX4_read 84 = .ok (.bipush 59, 2) := by decide +kernel
theorem dX4_read_86 : decode cX4_read 86 = .ok (.if_icmp .ne 19, 3) := by decide +kernel
theorem dX4_read_89 : decode cX4_read 89 = .ok (.aload_n 0, 1) := by decide +kernel
theorem dX4_read_90 : decode cX4_read 90 = .ok (.getfield 94, 3) := by decide +kernel
theorem dX4_read_93 : decode cX4_read 93 = .ok (.iconst 1, 1) := by decide +kernel
theorem dX4_read_94 : decode cX4_read 94 = .ok (.if_icmp .le 11, 3) := by decide +kernel
theorem dX4_read_97 : decode cX4_read 97 = .ok (.aload_n 0, 1) := by decide +kernel
theorem dX4_read_98 : decode cX4_read 98 = .ok (.iload_n 1, 1) := by decide +kernel
theorem dX4_read_99 : decode cX4_read 99 = .ok (.iconst 1, 1) := by decide +kernel
theorem dX4_read_100 : decode cX4_read 100 = .ok (.iadd, 1) := by decide +kernel
theorem dX4_read_101 : decode cX4_read 101 = .ok (.invokevirtual 101, 3) := by decide +kernel
theorem dX4_read_104 : decode cX4_read 104 = .ok (.ireturn, 1) := by decide +kernel
theorem dX4_read_105 : decode cX4_read 105 = .ok (.iload_n 1, 1) := by decide +kernel
theorem dX4_read_106 : decode cX4_read 106 = .ok (.aload_n 0, 1) := by decide +kernel
theorem dX4_read_107 : decode cX4_read 107 = .ok (.getfield 79, 3) := by decide +kernel
theorem dX4_read_110 : decode cX4_read 110 = .ok (.if_icmp .eq 22, 3) := by decide +kernel
theorem dX4_read_113 : decode cX4_read 113 = .ok (.aload_n 0, 1) := by decide +kernel
theorem dX4_read_114 : decode cX4_read 114 = .ok (.getfield 94, 3) := by decide +kernel
theorem dX4_read_117 : decode cX4_read 117 = .ok (.iconst 4, 1) := by decide +kernel
theorem dX4_read_118 : decode cX4_read 118 = .ok (.if_icmp .eq 14, 3) := by decide +kernel
theorem dX4_read_121 : decode cX4_read 121 = .ok (.aload_n 0, 1) := by decide +kernel
theorem dX4_read_122 : decode cX4_read 122 = .ok (.getfield 41, 3) := by decide +kernel
theorem dX4_read_125 : decode cX4_read 125 = .ok (.iload_n 1, 1) := by decide +kernel
theorem dX4_read_126 : decode cX4_read 126 = .ok (.baload, 1) := by decide +kernel
theorem dX4_read_127 : decode cX4_read 127 = .ok (.bipush 44, 2) := by decide +kernel
theorem dX4_read_129 : decode cX4_read 129 = .ok (.if_icmp .eq 5, 3) := by decide +kernel
theorem dX4_read_132 : decode cX4_read 132 = .ok (.iload_n 1, 1) := by decide +kernel
theorem dX4_read_133 : decode cX4_read 133 = .ok (.ireturn, 1) := by decide +kernel
theorem dX4_read_134 : decode cX4_read 134 = .ok (.iinc 1 1, 3) := by decide +kernel
theorem dX4_read_137 : decode cX4_read 137 = .ok (.goto (-125), 3) := by decide +kernel
theorem dX4_read_140 : decode cX4_read 140 = .ok (.iload_n 1, 1) := by decide +kernel
theorem dX4_read_141 : decode cX4_read 141 = .ok (.ireturn, 1) := by decide +kernel
theorem dX4_fault_0 : decode cX4_fault 0 = .ok (.aload_n 0, 1) := by decide +kernel
theorem dX4_fault_1 : decode cX4_fault 1 = .ok (.invokevirtual 104, 3) := by decide +kernel
theorem dX4_fault_4 : decode cX4_fault 4 = .ok (.ireturn, 1) := by decide +kernel
theorem dX4_valley_0 : decode cX4_valley 0 = .ok (.aload_n 0, 1) := by decide +kernel
theorem dX4_valley_1 : decode cX4_valley 1 = .ok (.invokevirtual 104, 3) := by decide +kernel
theorem dX4_valley_4 : decode cX4_valley 4 = .ok (.istore_n 1, 1) := by decide +kernel
theorem dX4_valley_5 : decode cX4_valley 5 = .ok (.aload_n 0, 1) := by decide +kernel
theorem dX4_valley_6 : decode cX4_valley 6 = .ok (.getfield 90, 3) := by decide +kernel
theorem dX4_valley_9 : decode cX4_valley 9 = .ok (.ifCond .ne 6, 3) := by decide +kernel
theorem dX4_valley_12 : decode cX4_valley 12 = .ok (.bipush (-103), 2) := by decide +kernel
theorem dX4_valley_14 : decode cX4_valley 14 = .ok (.ireturn, 1) := by decide +kernel
theorem dX4_valley_15 : decode cX4_valley 15 = .ok (.aload_n 0, 1) := by decide +kernel
theorem dX4_valley_16 : decode cX4_valley 16 = .ok (.aload_n 0, 1) := by decide +kernel
theorem dX4_valley_17 : decode cX4_valley 17 = .ok (.getfield 94, 3) := by decide +kernel
theorem dX4_valley_20 : decode cX4_valley 20 = .ok (.putfield 108, 3) := by decide +kernel
theorem dX4_valley_23 : decode cX4_valley 23 = .ok (.aload_n 0, 1) := by decide +kernel
theorem dX4_valley_24 : decode cX4_valley 24 = .ok (.aload_n 0, 1) := by decide +kernel
theorem dX4_valley_25 : decode cX4_valley 25 = .ok (.getfield 87, 3) := by decide +kernel
theorem dX4_valley_28 : decode cX4_valley 28 = .ok (.putfield 111, 3) := by decide +kernel
theorem dX4_valley_31 : decode cX4_valley 31 = .ok (.iconst 0, 1) := by decide +kernel
theorem dX4_valley_32 : decode cX4_valley 32 = .ok (.istore_n 2, 1) := by decide +kernel
theorem dX4_valley_33 : decode cX4_valley 33 = .ok (.iload_n 2, 1) := by decide +kernel
theorem dX4_valley_34 : decode cX4_valley 34 = .ok (.aload_n 0, 1) := by decide +kernel
theorem dX4_valley_35 : decode cX4_valley 35 = .ok (.getfield 108, 3) := by decide +kernel
theorem dX4_valley_38 : decode cX4_valley 38 = .ok (.if_icmp .ge 66, 3) := by decide +kernel
theorem dX4_valley_41 : decode cX4_valley 41 = .ok (.aload_n 0, 1) := by decide +kernel
theorem dX4_valley_42 : decode cX4_valley 42 = .ok (.getfield 7, 3) := by decide +kernel
theorem dX4_valley_45 : decode cX4_valley 45 = .ok (.iload_n 2, 1) := by decide +kernel
theorem dX4_valley_46 : decode cX4_valley 46 = .ok (.aload_n 0, 1) := by decide +kernel
theorem dX4_valley_47 : decode cX4_valley 47 = .ok (.getfield 41, 3) := by decide +kernel
theorem dX4_valley_50 : decode cX4_valley 50 = .ok (.iconst 3, 1) := by decide +kernel
theorem dX4_valley_51 : decode cX4_valley 51 = .ok (.iload_n 2, 1) := by decide +kernel
theorem dX4_valley_52 : decode cX4_valley 52 = .ok (.imul, 1) := by decide +kernel
theorem dX4_valley_53 : decode cX4_valley 53 = .ok (.baload, 1) := by decide +kernel
theorem dX4_valley_54 : decode cX4_valley 54 = .ok (.invokestatic 97, 3) := by decide +kernel
theorem dX4_valley_57 : decode cX4_valley 57 = .ok (.iastore, 1) := by decide +kernel
theorem dX4_valley_58 : decode cX4_valley 58 = .ok (.aload_n 0, 1) := by decide +kernel
theorem dX4_valley_59 : decode cX4_valley 59 = .ok (.getfield 13, 3) := by decide +kernel
theorem dX4_valley_62 : decode cX4_valley 62 = .ok (.iload_n 2, 1) := by decide +kernel
theorem dX4_valley_63 : decode cX4_valley 63 = .ok (.aload_n 0, 1) := by decide +kernel
theorem dX4_valley_64 : decode cX4_valley 64 = .ok (.getfield 41, 3) := by decide +kernel
theorem dX4_valley_67 : decode cX4_valley 67 = .ok (.iconst 3, 1) := by decide +kernel
theorem dX4_valley_68 : decode cX4_valley 68 = .ok (.iload_n 2, 1) := by decide +kernel
theorem dX4_valley_69 : decode cX4_valley 69 = .ok (.imul, 1) := by decide +kernel
theorem dX4_valley_70 : decode cX4_valley 70 = .ok (.iconst 1, 1) := by decide +kernel
theorem dX4_valley_71 : decode cX4_valley 71 = .ok (.iadd, 1) := by decide +kernel
theorem dX4_valley_72 : decode cX4_valley 72 = .ok (.baload, 1) := by decide +kernel
theorem dX4_valley_73 : decode cX4_valley 73 = .ok (.bipush 48, 2) := by decide +kernel
theorem dX4_valley_75 : decode cX4_valley 75 = .ok (.isub, 1) := by decide +kernel
theorem dX4_valley_76 : decode cX4_valley 76 = .ok (.iastore, 1) := by decide +kernel
theorem dX4_valley_77 : decode cX4_valley 77 = .ok (.aload_n 0, 1) := by decide +kernel
theorem dX4_valley_78 : decode cX4_valley 78 = .ok (.getfield 16, 3) := by decide +kernel
theorem dX4_valley_81 : decode cX4_valley 81 = .ok (.iload_n 2, 1) := by decide +kernel
theorem dX4_valley_82 : decode cX4_valley 82 = .ok (.iconst 1, 1) := by decide +kernel
theorem dX4_valley_83 : decode cX4_valley 83 = .ok (.bastore, 1) := by decide +kernel
theorem dX4_valley_84 : decode cX4_valley 84 = .ok (.aload_n 0, 1) := by decide +kernel
theorem dX4_valley_85 : decode cX4_valley 85 = .ok (.getfield 20, 3) := by decide +kernel
theorem dX4_valley_88 : decode cX4_valley 88 = .ok (.iload_n 2, 1) := by decide +kernel
theorem dX4_valley_89 : decode cX4_valley 89 = .ok (.iconst 0, 1) := by decide +kernel
theorem dX4_valley_90 : decode cX4_valley 90 = .ok (.iastore, 1) := by decide +kernel
theorem dX4_valley_91 : decode cX4_valley 91 = .ok (.aload_n 0, 1) := by decide +kernel
theorem dX4_valley_92 : decode cX4_valley 92 = .ok (.getfield 23, 3) := by decide +kernel
theorem dX4_valley_95 : decode cX4_valley 95 = .ok (.iload_n 2, 1) := by decide +kernel
theorem dX4_valley_96 : decode cX4_valley 96 = .ok (.iconst 0, 1) := by decide +kernel
theorem dX4_valley_97 : decode cX4_valley 97 = .ok (.iastore, 1) := by decide +kernel
theorem dX4_valley_98 : decode cX4_valley 98 = .ok (.iinc 2 1, 3) := by decide +kernel
theorem dX4_valley_101 : decode cX4_valley 101 = .ok (.goto (-68), 3) := by decide +kernel
theorem dX4_valley_104 : decode cX4_valley 104 = .ok (.iconst 0, 1) := by decide +kernel
theorem dX4_valley_105 : decode cX4_valley 105 = .ok (.istore_n 2, 1) := by decide +kernel
theorem dX4_valley_106 : decode cX4_valley 106 = .ok (.iload_n 2, 1) := by decide +kernel
theorem dX4_valley_107 : decode cX4_valley 107 = .ok (.aload_n 0, 1) := by decide +kernel
theorem dX4_valley_108 : decode cX4_valley 108 = .ok (.getfield 111, 3) := by decide +kernel
theorem dX4_valley_111 : decode cX4_valley 111 = .ok (.if_icmp .ge 59, 3) := by decide +kernel
theorem dX4_valley_114 : decode cX4_valley 114 = .ok (.aload_n 0, 1) := by decide +kernel
theorem dX4_valley_115 : decode cX4_valley 115 = .ok (.getfield 26, 3) := by decide +kernel
theorem dX4_valley_118 : decode cX4_valley 118 = .ok (.iload_n 2, 1) := by decide +kernel
theorem dX4_valley_119 : decode cX4_valley 119 = .ok (.aload_n 0, 1) := by decide +kernel
theorem dX4_valley_120 : decode cX4_valley 120 = .ok (.getfield 41, 3) := by decide +kernel
theorem dX4_valley_123 : decode cX4_valley 123 = .ok (.iload_n 1, 1) := by decide +kernel
theorem dX4_valley_124 : decode cX4_valley 124 = .ok (.iconst 2, 1) := by decide +kernel
theorem dX4_valley_125 : decode cX4_valley 125 = .ok (.aload_n 0, 1) := by decide +kernel
theorem dX4_valley_126 : decode cX4_valley 126 = .ok (.getfield 111, 3) := by decide +kernel
theorem dX4_valley_129 : decode cX4_valley 129 = .ok (.iload_n 2, 1) := by decide +kernel
theorem dX4_valley_130 : decode cX4_valley 130 = .ok (.isub, 1) := by decide +kernel
theorem dX4_valley_131 : decode cX4_valley 131 = .ok (.imul, 1) := by decide +kernel
theorem dX4_valley_132 : decode cX4_valley 132 = .ok (.isub, 1) := by decide +kernel
theorem dX4_valley_133 : decode cX4_valley 133 = .ok (.baload, 1) := by decide +kernel
theorem dX4_valley_134 : decode cX4_valley 134 = .ok (.bipush 48, 2) := by decide +kernel
theorem dX4_valley_136 : decode cX4_valley 136 = .ok (.isub, 1) := by decide +kernel
theorem dX4_valley_137 : decode cX4_valley 137 = .ok (.iastore, 1) := by decide +kernel
theorem dX4_valley_138 : decode cX4_valley 138 = .ok (.aload_n 0, 1) := by decide +kernel
theorem dX4_valley_139 : decode cX4_valley 139 = .ok (.getfield 29, 3) := by decide +kernel
theorem dX4_valley_142 : decode cX4_valley 142 = .ok (.iload_n 2, 1) := by decide +kernel
theorem dX4_valley_143 : decode cX4_valley 143 = .ok (.aload_n 0, 1) := by decide +kernel
theorem dX4_valley_144 : decode cX4_valley 144 = .ok (.getfield 41, 3) := by decide +kernel
theorem dX4_valley_147 : decode cX4_valley 147 = .ok (.iload_n 1, 1) := by decide +kernel
theorem dX4_valley_148 : decode cX4_valley 148 = .ok (.iconst 2, 1) := by decide +kernel
theorem dX4_valley_149 : decode cX4_valley 149 = .ok (.aload_n 0, 1) := by decide +kernel
theorem dX4_valley_150 : decode cX4_valley 150 = .ok (.getfield 111, 3) := by decide +kernel
theorem dX4_valley_153 : decode cX4_valley 153 = .ok (.iload_n 2, 1) := by decide +kernel
theorem dX4_valley_154 : decode cX4_valley 154 = .ok (.isub, 1) := by decide +kernel
theorem dX4_valley_155 : decode cX4_valley 155 = .ok (.imul, 1) := by decide +kernel
theorem dX4_valley_156 : decode cX4_valley 156 = .ok (.isub, 1) := by decide +kernel
theorem dX4_valley_157 : decode cX4_valley 157 = .ok (.iconst 1, 1) := by decide +kernel
theorem dX4_valley_158 : decode cX4_valley 158 = .ok (.iadd, 1) := by decide +kernel
theorem dX4_valley_159 : decode cX4_valley 159 = .ok (.baload, 1) := by decide +kernel
theorem dX4_valley_160 : decode cX4_valley 160 = .ok (.bipush 48, 2) := by decide +kernel
theorem dX4_valley_162 : decode cX4_valley 162 = .ok (.isub, 1) := by decide +kernel
theorem dX4_valley_163 : decode cX4_valley 163 = .ok (.iastore, 1) := by decide +kernel
theorem dX4_valley_164 : decode cX4_valley 164 = .ok (.iinc 2 1, 3) := by decide +kernel
theorem dX4_valley_167 : decode cX4_valley 167 = .ok (.goto (-61), 3) := by decide +kernel
theorem dX4_valley_170 : decode cX4_valley 170 = .ok (.aload_n 0, 1) := by decide +kernel
theorem dX4_valley_171 : decode cX4_valley 171 = .ok (.dup, 1) := by decide +kernel
theorem dX4_valley_172 : decode cX4_valley 172 = .ok (.getfield 114, 3) := by decide +kernel
theorem dX4_valley_175 : decode cX4_valley 175 = .ok (.iconst 1, 1) := by decide +kernel
theorem dX4_valley_176 : decode cX4_valley 176 = .ok (.iadd, 1) := by decide +kernel
theorem dX4_valley_177 : decode cX4_valley 177 = .ok (.putfield 114, 3) := by decide +kernel
theorem dX4_valley_180 : decode cX4_valley 180 = .ok (.aload_n 0, 1) := by decide +kernel
theorem dX4_valley_181 : decode cX4_valley 181 = .ok (.iconst 0, 1) := by decide +kernel
theorem dX4_valley_182 : decode cX4_valley 182 = .ok (.putfield 117, 3) := by decide +kernel
theorem dX4_valley_185 : decode cX4_valley 185 = .ok (.aload_n 0, 1) := by decide +kernel
theorem dX4_valley_186 : decode cX4_valley 186 = .ok (.iconst 0, 1) := by decide +kernel
theorem dX4_valley_187 : decode cX4_valley 187 = .ok (.putfield 120, 3) := by decide +kernel
theorem dX4_valley_190 : decode cX4_valley 190 = .ok (.aload_n 0, 1) := by decide +kernel
theorem dX4_valley_191 : decode cX4_valley 191 = .ok (.iconst 0, 1) := by decide +kernel
theorem dX4_valley_192 : decode cX4_valley 192 = .ok (.putfield 123, 3) := by decide +kernel
theorem dX4_valley_195 : decode cX4_valley 195 = .ok (.aload_n 0, 1) := by decide +kernel
theorem dX4_valley_196 : decode cX4_valley 196 = .ok (.iconst 0, 1) := by decide +kernel
theorem dX4_valley_197 : decode cX4_valley 197 = .ok (.putfield 79, 3) := by decide +kernel
theorem dX4_valley_200 : decode cX4_valley 200 = .ok (.aload_n 0, 1) := by decide +kernel
theorem dX4_valley_201 : decode cX4_valley 201 = .ok (.getfield 111, 3) := by decide +kernel
theorem dX4_valley_204 : decode cX4_valley 204 = .ok (.ireturn, 1) := by decide +kernel
theorem dX4_isEater_0 : decode cX4_isEater 0 = .ok (.iload_n 1, 1) := by decide +kernel
theorem dX4_isEater_1 : decode cX4_isEater 1 = .ok (.iconst 0, 1) := by decide +kernel
theorem dX4_isEater_2 : decode cX4_isEater 2 = .ok (.aload_n 0, 1) := by decide +kernel
theorem dX4_isEater_3 : decode cX4_isEater 3 = .ok (.getfield 108, 3) := by decide +kernel
theorem dX4_isEater_6 : decode cX4_isEater 6 = .ok (.iconst 1, 1) := by decide +kernel
theorem dX4_isEater_7 : decode cX4_isEater 7 = .ok (.isub, 1) := by decide +kernel
theorem dX4_isEater_8 : decode cX4_isEater 8 = .ok (.invokestatic 75, 3) := by decide +kernel
theorem dX4_isEater_11 : decode cX4_isEater 11 = .ok (.ireturn, 1) := by decide +kernel
theorem dX4_isLoaf_0 : decode cX4_isLoaf 0 = .ok (.aload_n 0, 1) := by decide +kernel
theorem dX4_isLoaf_1 : decode cX4_isLoaf 1 = .ok (.getfield 108, 3) := by decide +kernel
theorem dX4_isLoaf_4 : decode cX4_isLoaf 4 = .ok (.ifCond .le 21, 3) := by decide +kernel
theorem dX4_isLoaf_7 : decode cX4_isLoaf 7 = .ok (.iload_n 1, 1) := by decide +kernel
theorem dX4_isLoaf_8 : decode cX4_isLoaf 8 = .ok (.iconst 0, 1) := by decide +kernel
theorem dX4_isLoaf_9 : decode cX4_isLoaf 9 = .ok (.aload_n 0, 1) := by decide +kernel
theorem dX4_isLoaf_10 : decode cX4_isLoaf 10 = .ok (.getfield 111, 3) := by decide +kernel
theorem dX4_isLoaf_13 : decode cX4_isLoaf 13 = .ok (.iconst 1, 1) := by decide +kernel
theorem dX4_isLoaf_14 : decode cX4_isLoaf 14 = .ok (.isub, 1) := by decide +kernel
theorem dX4_isLoaf_15 : decode cX4_isLoaf 15 = .ok (.invokestatic 75, 3) := by decide +kernel
theorem dX4_isLoaf_18 : decode cX4_isLoaf 18 = .ok (.ifCond .eq 7, 3) := by decide +kernel
theorem dX4_isLoaf_21 : decode cX4_isLoaf 21 = .ok (.iconst 1, 1) := by decide +kernel
theorem dX4_isLoaf_22 : decode cX4_isLoaf 22 = .ok (.goto 4, 3) := by decide +kernel
theorem dX4_isLoaf_25 : decode cX4_isLoaf 25 = .ok (.iconst 0, 1) := by decide +kernel
theorem dX4_isLoaf_26 : decode cX4_isLoaf 26 = .ok (.ireturn, 1) := by decide +kernel
theorem dX4_would_0 : decode cX4_would 0 = .ok (.aload_n 0, 1) := by decide +kernel
theorem dX4_would_1 : decode cX4_would 1 = .ok (.getfield 16, 3) := by decide +kernel
theorem dX4_would_4 : decode cX4_would 4 = .ok (.iload_n 1, 1) := by decide +kernel
theorem dX4_would_5 : decode cX4_would 5 = .ok (.baload, 1) := by decide +kernel
theorem dX4_would_6 : decode cX4_would 6 = .ok (.ifCond .eq 24, 3) := by decide +kernel
theorem dX4_would_9 : decode cX4_would 9 = .ok (.aload_n 0, 1) := by decide +kernel
theorem dX4_would_10 : decode cX4_would 10 = .ok (.getfield 117, 3) := by decide +kernel
theorem dX4_would_13 : decode cX4_would 13 = .ok (.iload_n 2, 1) := by decide +kernel
theorem dX4_would_14 : decode cX4_would 14 = .ok (.invokestatic 126, 3) := by decide +kernel
theorem dX4_would_17 : decode cX4_would 17 = .ok (.ifCond .ne 13, 3) := by decide +kernel
theorem dX4_would_20 : decode cX4_would 20 = .ok (.aload_n 0, 1) := by decide +kernel
theorem dX4_would_21 : decode cX4_would 21 = .ok (.getfield 7, 3) := by decide +kernel
theorem dX4_would_24 : decode cX4_would 24 = .ok (.iload_n 1, 1) := by decide +kernel
theorem dX4_would_25 : decode cX4_would 25 = .ok (.iaload, 1) := by decide +kernel
theorem dX4_would_26 : decode cX4_would 26 = .ok (.iconst 2, 1) := by decide +kernel
theorem dX4_would_27 : decode cX4_would 27 = .ok (.if_icmp .ne 5, 3) := by decide +kernel
theorem dX4_would_30 : decode cX4_would 30 = .ok (.iconst 0, 1) := by decide +kernel
theorem dX4_would_31 : decode cX4_would 31 = .ok (.ireturn, 1) := by decide +kernel
theorem dX4_would_32 : decode cX4_would 32 = .ok (.aload_n 0, 1) := by decide +kernel
theorem dX4_would_33 : decode cX4_would 33 = .ok (.getfield 7, 3) := by decide +kernel
theorem dX4_would_36 : decode cX4_would 36 = .ok (.iload_n 1, 1) := by decide +kernel
theorem dX4_would_37 : decode cX4_would 37 = .ok (.iaload, 1) := by decide +kernel
theorem dX4_would_38 : decode cX4_would 38 = .ok (.iconst 1, 1) := by decide +kernel
theorem dX4_would_39 : decode cX4_would 39 = .ok (.if_icmp .eq 28, 3) := by decide +kernel
theorem dX4_would_42 : decode cX4_would 42 = .ok (.aload_n 0, 1) := by decide +kernel
theorem dX4_would_43 : decode cX4_would 43 = .ok (.getfield 7, 3) := by decide +kernel
theorem dX4_would_46 : decode cX4_would 46 = .ok (.iload_n 1, 1) := by decide +kernel
theorem dX4_would_47 : decode cX4_would 47 = .ok (.iaload, 1) := by decide +kernel
theorem dX4_would_48 : decode cX4_would 48 = .ok (.iconst 4, 1) := by decide +kernel
theorem dX4_would_49 : decode cX4_would 49 = .ok (.if_icmp .eq 18, 3) := by decide +kernel
theorem dX4_would_52 : decode cX4_would 52 = .ok (.aload_n 0, 1) := by decide +kernel
theorem dX4_would_53 : decode cX4_would 53 = .ok (.getfield 26, 3) := by decide +kernel
theorem dX4_would_56 : decode cX4_would 56 = .ok (.iload_n 2, 1) := by decide +kernel
theorem dX4_would_57 : decode cX4_would 57 = .ok (.iaload, 1) := by decide +kernel
theorem dX4_would_58 : decode cX4_would 58 = .ok (.aload_n 0, 1) := by decide +kernel
theorem dX4_would_59 : decode cX4_would 59 = .ok (.getfield 13, 3) := by decide +kernel
theorem dX4_would_62 : decode cX4_would 62 = .ok (.iload_n 1, 1) := by decide +kernel
theorem dX4_would_63 : decode cX4_would 63 = .ok (.iaload, 1) := by decide +kernel
theorem dX4_would_64 : decode cX4_would 64 = .ok (.if_icmp .gt 7, 3) := by decide +kernel
theorem dX4_would_67 : decode cX4_would 67 = .ok (.iconst 1, 1) := by decide +kernel
theorem dX4_would_68 : decode cX4_would 68 = .ok (.goto 4, 3) := by decide +kernel
theorem dX4_would_71 : decode cX4_would 71 = .ok (.iconst 0, 1) := by decide +kernel
theorem dX4_would_72 : decode cX4_would 72 = .ok (.ireturn, 1) := by decide +kernel
theorem dX4_takes_0 : decode cX4_takes 0 = .ok (.aload_n 0, 1) := by decide +kernel
theorem dX4_takes_1 : decode cX4_takes 1 = .ok (.getfield 20, 3) := by decide +kernel
theorem dX4_takes_4 : decode cX4_takes 4 = .ok (.iload_n 1, 1) := by decide +kernel
theorem dX4_takes_5 : decode cX4_takes 5 = .ok (.dup2, 1) := by decide +kernel
theorem dX4_takes_6 : decode cX4_takes 6 = .ok (.iaload, 1) := by decide +kernel
theorem dX4_takes_7 : decode cX4_takes 7 = .ok (.aload_n 0, 1) := by decide +kernel
theorem dX4_takes_8 : decode cX4_takes 8 = .ok (.getfield 7, 3) := by decide +kernel
theorem dX4_takes_11 : decode cX4_takes 11 = .ok (.iload_n 1, 1) := by decide +kernel
theorem dX4_takes_12 : decode cX4_takes 12 = .ok (.iaload, 1) := by decide +kernel
theorem dX4_takes_13 : decode cX4_takes 13 = .ok (.iconst 3, 1) := by decide +kernel
theorem dX4_takes_14 : decode cX4_takes 14 = .ok (.if_icmp .ne 9, 3) := by decide +kernel
theorem dX4_takes_17 : decode cX4_takes 17 = .ok (.iload_n 2, 1) := by decide +kernel
theorem dX4_takes_18 : decode cX4_takes 18 = .ok (.iconst 2, 1) := by decide +kernel
theorem dX4_takes_19 : decode cX4_takes 19 = .ok (.idiv, 1) := by decide +kernel
theorem dX4_takes_20 : decode cX4_takes 20 = .ok (.goto 4, 3) := by decide +kernel
theorem dX4_takes_23 : decode cX4_takes 23 = .ok (.iload_n 2, 1) := by decide +kernel
theorem dX4_takes_24 : decode cX4_takes 24 = .ok (.iadd, 1) := by decide +kernel
theorem dX4_takes_25 : decode cX4_takes 25 = .ok (.iastore, 1) := by decide +kernel
theorem dX4_takes_26 : decode cX4_takes 26 = .ok (.return_, 1) := by decide +kernel
theorem dX4_tires_0 : decode cX4_tires 0 = .ok (.aload_n 0, 1) := by decide +kernel
theorem dX4_tires_1 : decode cX4_tires 1 = .ok (.getfield 13, 3) := by decide +kernel
theorem dX4_tires_4 : decode cX4_tires 4 = .ok (.iload_n 1, 1) := by decide +kernel
theorem dX4_tires_5 : decode cX4_tires 5 = .ok (.aload_n 0, 1) := by decide +kernel
theorem dX4_tires_6 : decode cX4_tires 6 = .ok (.getfield 13, 3) := by decide +kernel
theorem dX4_tires_9 : decode cX4_tires 9 = .ok (.iload_n 1, 1) := by decide +kernel
theorem dX4_tires_10 : decode cX4_tires 10 = .ok (.iaload, 1) := by decide +kernel
theorem dX4_tires_11 : decode cX4_tires 11 = .ok (.iload_n 2, 1) := by decide +kernel
theorem dX4_tires_12 : decode cX4_tires 12 = .ok (.if_icmp .ge 7, 3) := by decide +kernel
theorem dX4_tires_15 : decode cX4_tires 15 = .ok (.iconst 0, 1) := by decide +kernel
theorem dX4_tires_16 : decode cX4_tires 16 = .ok (.goto 11, 3) := by decide +kernel
theorem dX4_tires_19 : decode cX4_tires 19 = .ok (.aload_n 0, 1) := by decide +kernel
theorem dX4_tires_20 : decode cX4_tires 20 = .ok (.getfield 13, 3) := by decide +kernel
theorem dX4_tires_23 : decode cX4_tires 23 = .ok (.iload_n 1, 1) := by decide +kernel
theorem dX4_tires_24 : decode cX4_tires 24 = .ok (.iaload, 1) := by decide +kernel
theorem dX4_tires_25 : decode cX4_tires 25 = .ok (.iload_n 2, 1) := by decide +kernel
theorem dX4_tires_26 : decode cX4_tires 26 = .ok (.isub, 1) := by decide +kernel
theorem dX4_tires_27 : decode cX4_tires 27 = .ok (.iastore, 1) := by decide +kernel
theorem dX4_tires_28 : decode cX4_tires 28 = .ok (.return_, 1) := by decide +kernel
theorem dX4_eats_0 : decode cX4_eats 0 = .ok (.aload_n 0, 1) := by decide +kernel
theorem dX4_eats_1 : decode cX4_eats 1 = .ok (.getfield 23, 3) := by decide +kernel
theorem dX4_eats_4 : decode cX4_eats 4 = .ok (.iload_n 1, 1) := by decide +kernel
theorem dX4_eats_5 : decode cX4_eats 5 = .ok (.dup2, 1) := by decide +kernel
theorem dX4_eats_6 : decode cX4_eats 6 = .ok (.iaload, 1) := by decide +kernel
theorem dX4_eats_7 : decode cX4_eats 7 = .ok (.aload_n 0, 1) := by decide +kernel
theorem dX4_eats_8 : decode cX4_eats 8 = .ok (.getfield 26, 3) := by decide +kernel
theorem dX4_eats_11 : decode cX4_eats 11 = .ok (.iload_n 2, 1) := by decide +kernel
theorem dX4_eats_12 : decode cX4_eats 12 = .ok (.iaload, 1) := by decide +kernel
theorem dX4_eats_13 : decode cX4_eats 13 = .ok (.iadd, 1) := by decide +kernel
theorem dX4_eats_14 : decode cX4_eats 14 = .ok (.iastore, 1) := by decide +kernel
theorem dX4_eats_15 : decode cX4_eats 15 = .ok (.aload_n 0, 1) := by decide +kernel
theorem dX4_eats_16 : decode cX4_eats 16 = .ok (.iload_n 1, 1) := by decide +kernel
theorem dX4_eats_17 : decode cX4_eats 17 = .ok (.aload_n 0, 1) := by decide +kernel
theorem dX4_eats_18 : decode cX4_eats 18 = .ok (.getfield 26, 3) := by decide +kernel
theorem dX4_eats_21 : decode cX4_eats 21 = .ok (.iload_n 2, 1) := by decide +kernel
theorem dX4_eats_22 : decode cX4_eats 22 = .ok (.iaload, 1) := by decide +kernel
theorem dX4_eats_23 : decode cX4_eats 23 = .ok (.aload_n 0, 1) := by decide +kernel
theorem dX4_eats_24 : decode cX4_eats 24 = .ok (.getfield 29, 3) := by decide +kernel
theorem dX4_eats_27 : decode cX4_eats 27 = .ok (.iload_n 2, 1) := by decide +kernel
theorem dX4_eats_28 : decode cX4_eats 28 = .ok (.iaload, 1) := by decide +kernel
theorem dX4_eats_29 : decode cX4_eats 29 = .ok (.iadd, 1) := by decide +kernel
theorem dX4_eats_30 : decode cX4_eats 30 = .ok (.invokevirtual 130, 3) := by decide +kernel
theorem dX4_eats_33 : decode cX4_eats 33 = .ok (.aload_n 0, 1) := by decide +kernel
theorem dX4_eats_34 : decode cX4_eats 34 = .ok (.iload_n 1, 1) := by decide +kernel
theorem dX4_eats_35 : decode cX4_eats 35 = .ok (.iconst 2, 1) := by decide +kernel
theorem dX4_eats_36 : decode cX4_eats 36 = .ok (.invokevirtual 134, 3) := by decide +kernel
theorem dX4_eats_39 : decode cX4_eats 39 = .ok (.aload_n 0, 1) := by decide +kernel
theorem dX4_eats_40 : decode cX4_eats 40 = .ok (.dup, 1) := by decide +kernel
theorem dX4_eats_41 : decode cX4_eats 41 = .ok (.getfield 117, 3) := by decide +kernel
theorem dX4_eats_44 : decode cX4_eats 44 = .ok (.iconst 1, 1) := by decide +kernel
theorem dX4_eats_45 : decode cX4_eats 45 = .ok (.iload_n 2, 1) := by decide +kernel
theorem dX4_eats_46 : decode cX4_eats 46 = .ok (.ishl, 1) := by decide +kernel
theorem dX4_eats_47 : decode cX4_eats 47 = .ok (.ior, 1) := by decide +kernel
theorem dX4_eats_48 : decode cX4_eats 48 = .ok (.putfield 117, 3) := by decide +kernel
theorem dX4_eats_51 : decode cX4_eats 51 = .ok (.return_, 1) := by decide +kernel
theorem dX4_carriesAll_0 : decode cX4_carriesAll 0 = .ok (.iconst 0, 1) := by decide +kernel
theorem dX4_carriesAll_1 : decode cX4_carriesAll 1 = .ok (.istore_n 1, 1) := by decide +kernel
theorem dX4_carriesAll_2 : decode cX4_carriesAll 2 = .ok (.iconst 0, 1) := by decide +kernel
theorem dX4_carriesAll_3 : decode cX4_carriesAll 3 = .ok (.istore_n 2, 1) := by decide +kernel
theorem dX4_carriesAll_4 : decode cX4_carriesAll 4 = .ok (.iload_n 2, 1) := by decide +kernel
theorem dX4_carriesAll_5 : decode cX4_carriesAll 5 = .ok (.aload_n 0, 1) := by decide +kernel
theorem dX4_carriesAll_6 : decode cX4_carriesAll 6 = .ok (.getfield 108, 3) := by decide +kernel
theorem dX4_carriesAll_9 : decode cX4_carriesAll 9 = .ok (.if_icmp .ge 18, 3) := by decide +kernel
theorem dX4_carriesAll_12 : decode cX4_carriesAll 12 = .ok (.iload_n 1, 1) := by decide +kernel
theorem dX4_carriesAll_13 : decode cX4_carriesAll 13 = .ok (.aload_n 0, 1) := by decide +kernel
theorem dX4_carriesAll_14 : decode cX4_carriesAll 14 = .ok (.getfield 20, 3) := by decide +kernel
theorem dX4_carriesAll_17 : decode cX4_carriesAll 17 = .ok (.iload_n 2, 1) := by decide +kernel
theorem dX4_carriesAll_18 : decode cX4_carriesAll 18 = .ok (.iaload, 1) := by decide +kernel
theorem dX4_carriesAll_19 : decode cX4_carriesAll 19 = .ok (.iadd, 1) := by decide +kernel
theorem dX4_carriesAll_20 : decode cX4_carriesAll 20 = .ok (.istore_n 1, 1) := by decide +kernel
theorem dX4_carriesAll_21 : decode cX4_carriesAll 21 = .ok (.iinc 2 1, 3) := by decide +kernel
theorem dX4_carriesAll_24 : decode cX4_carriesAll 24 = .ok (.goto (-20), 3) := by decide +kernel
theorem dX4_carriesAll_27 : decode cX4_carriesAll 27 = .ok (.iload_n 1, 1) := by decide +kernel
theorem dX4_carriesAll_28 : decode cX4_carriesAll 28 = .ok (.ireturn, 1) := by decide +kernel
theorem dX4_passWinter_0 : decode cX4_passWinter 0 = .ok (.iconst 0, 1) := by decide +kernel
theorem dX4_passWinter_1 : decode cX4_passWinter 1 = .ok (.istore_n 1, 1) := by decide +kernel
theorem dX4_passWinter_2 : decode cX4_passWinter 2 = .ok (.iload_n 1, 1) := by decide +kernel
theorem dX4_passWinter_3 : decode cX4_passWinter 3 = .ok (.aload_n 0, 1) := by decide +kernel
theorem dX4_passWinter_4 : decode cX4_passWinter 4 = .ok (.getfield 108, 3) := by decide +kernel
theorem dX4_passWinter_7 : decode cX4_passWinter 7 = .ok (.if_icmp .ge 74, 3) := by decide +kernel
theorem dX4_passWinter_10 : decode cX4_passWinter 10 = .ok (.aload_n 0, 1) := by decide +kernel
theorem dX4_passWinter_11 : decode cX4_passWinter 11 = .ok (.getfield 16, 3) := by decide +kernel
theorem dX4_passWinter_14 : decode cX4_passWinter 14 = .ok (.iload_n 1, 1) := by decide +kernel
theorem dX4_passWinter_15 : decode cX4_passWinter 15 = .ok (.baload, 1) := by decide +kernel
theorem dX4_passWinter_16 : decode cX4_passWinter 16 = .ok (.ifCond .eq 59, 3) := by decide +kernel
theorem dX4_passWinter_19 : decode cX4_passWinter 19 = .ok (.aload_n 0, 1) := by decide +kernel
theorem dX4_passWinter_20 : decode cX4_passWinter 20 = .ok (.getfield 13, 3) := by decide +kernel
theorem dX4_passWinter_23 : decode cX4_passWinter 23 = .ok (.iload_n 1, 1) := by decide +kernel
theorem dX4_passWinter_24 : decode cX4_passWinter 24 = .ok (.aload_n 0, 1) := by decide +kernel
theorem dX4_passWinter_25 : decode cX4_passWinter 25 = .ok (.getfield 13, 3) := by decide +kernel
theorem dX4_passWinter_28 : decode cX4_passWinter 28 = .ok (.iload_n 1, 1) := by decide +kernel
theorem dX4_passWinter_29 : decode cX4_passWinter 29 = .ok (.iaload, 1) := by decide +kernel
theorem dX4_passWinter_30 : decode cX4_passWinter 30 = .ok (.bipush 6, 2) := by decide +kernel
theorem dX4_passWinter_32 : decode cX4_passWinter 32 = .ok (.if_icmp .le 8, 3) := by decide +kernel
theorem dX4_passWinter_35 : decode cX4_passWinter 35 = .ok (.bipush 9, 2) := by decide +kernel
theorem dX4_passWinter_37 : decode cX4_passWinter 37 = .ok (.goto 11, 3) := by decide +kernel
theorem dX4_passWinter_40 : decode cX4_passWinter 40 = .ok (.aload_n 0, 1) := by decide +kernel
theorem dX4_passWinter_41 : decode cX4_passWinter 41 = .ok (.getfield 13, 3) := by decide +kernel
theorem dX4_passWinter_44 : decode cX4_passWinter 44 = .ok (.iload_n 1, 1) := by decide +kernel
theorem dX4_passWinter_45 : decode cX4_passWinter 45 = .ok (.iaload, 1) := by decide +kernel
theorem dX4_passWinter_46 : decode cX4_passWinter 46 = .ok (.iconst 3, 1) := by decide +kernel
theorem dX4_passWinter_47 : decode cX4_passWinter 47 = .ok (.iadd, 1) := by decide +kernel
theorem dX4_passWinter_48 : decode cX4_passWinter 48 = .ok (.iastore, 1) := by decide +kernel
theorem dX4_passWinter_49 : decode cX4_passWinter 49 = .ok (.aload_n 0, 1) := by decide +kernel
theorem dX4_passWinter_50 : decode cX4_passWinter 50 = .ok (.getfield 20, 3) := by decide +kernel
theorem dX4_passWinter_53 : decode cX4_passWinter 53 = .ok (.iload_n 1, 1) := by decide +kernel
theorem dX4_passWinter_54 : decode cX4_passWinter 54 = .ok (.aload_n 0, 1) := by decide +kernel
theorem dX4_passWinter_55 : decode cX4_passWinter 55 = .ok (.getfield 7, 3) := by decide +kernel
theorem dX4_passWinter_58 : decode cX4_passWinter 58 = .ok (.iload_n 1, 1) := by decide +kernel
theorem dX4_passWinter_59 : decode cX4_passWinter 59 = .ok (.iaload, 1) := by decide +kernel
theorem dX4_passWinter_60 : decode cX4_passWinter 60 = .ok (.iconst 4, 1) := by decide +kernel
theorem dX4_passWinter_61 : decode cX4_passWinter 61 = .ok (.if_icmp .ne 7, 3) := by decide +kernel
theorem dX4_passWinter_64 : decode cX4_passWinter 64 = .ok (.iconst 0, 1) := by decide +kernel
theorem dX4_passWinter_65 : decode cX4_passWinter 65 = .ok (.goto 9, 3) := by decide +kernel
theorem dX4_passWinter_68 : decode cX4_passWinter 68 = .ok (.aload_n 0, 1) := by decide +kernel
theorem dX4_passWinter_69 : decode cX4_passWinter 69 = .ok (.getfield 20, 3) := by decide +kernel
theorem dX4_passWinter_72 : decode cX4_passWinter 72 = .ok (.iload_n 1, 1) := by decide +kernel
theorem dX4_passWinter_73 : decode cX4_passWinter 73 = .ok (.iaload, 1) := by decide +kernel
theorem dX4_passWinter_74 : decode cX4_passWinter 74 = .ok (.iastore, 1) := by decide +kernel
theorem dX4_passWinter_75 : decode cX4_passWinter 75 = .ok (.iinc 1 1, 3) := by decide +kernel
theorem dX4_passWinter_78 : decode cX4_passWinter 78 = .ok (.goto (-76), 3) := by decide +kernel
theorem dX4_passWinter_81 : decode cX4_passWinter 81 = .ok (.return_, 1) := by decide +kernel
theorem dX4_save_0 : decode cX4_save 0 = .ok (.iconst 0, 1) := by decide +kernel
theorem dX4_save_1 : decode cX4_save 1 = .ok (.istore_n 1, 1) := by decide +kernel
theorem dX4_save_2 : decode cX4_save 2 = .ok (.iload_n 1, 1) := by decide +kernel
theorem dX4_save_3 : decode cX4_save 3 = .ok (.iconst 4, 1) := by decide +kernel
theorem dX4_save_4 : decode cX4_save 4 = .ok (.if_icmp .ge 45, 3) := by decide +kernel
theorem dX4_save_7 : decode cX4_save 7 = .ok (.aload_n 0, 1) := by decide +kernel
theorem dX4_save_8 : decode cX4_save 8 = .ok (.getfield 45, 3) := by decide +kernel
theorem dX4_save_11 : decode cX4_save 11 = .ok (.iload_n 1, 1) := by decide +kernel
theorem dX4_save_12 : decode cX4_save 12 = .ok (.aload_n 0, 1) := by decide +kernel
theorem dX4_save_13 : decode cX4_save 13 = .ok (.getfield 13, 3) := by decide +kernel
theorem dX4_save_16 : decode cX4_save 16 = .ok (.iload_n 1, 1) := by decide +kernel
theorem dX4_save_17 : decode cX4_save 17 = .ok (.iaload, 1) := by decide +kernel
theorem dX4_save_18 : decode cX4_save 18 = .ok (.iastore, 1) := by decide +kernel
theorem dX4_save_19 : decode cX4_save 19 = .ok (.aload_n 0, 1) := by decide +kernel
theorem dX4_save_20 : decode cX4_save 20 = .ok (.getfield 48, 3) := by decide +kernel
theorem dX4_save_23 : decode cX4_save 23 = .ok (.iload_n 1, 1) := by decide +kernel
theorem dX4_save_24 : decode cX4_save 24 = .ok (.aload_n 0, 1) := by decide +kernel
theorem dX4_save_25 : decode cX4_save 25 = .ok (.getfield 20, 3) := by decide +kernel
theorem dX4_save_28 : decode cX4_save 28 = .ok (.iload_n 1, 1) := by decide +kernel
theorem dX4_save_29 : decode cX4_save 29 = .ok (.iaload, 1) := by decide +kernel
theorem dX4_save_30 : decode cX4_save 30 = .ok (.iastore, 1) := by decide +kernel
theorem dX4_save_31 : decode cX4_save 31 = .ok (.aload_n 0, 1) := by decide +kernel
theorem dX4_save_32 : decode cX4_save 32 = .ok (.getfield 51, 3) := by decide +kernel
theorem dX4_save_35 : decode cX4_save 35 = .ok (.iload_n 1, 1) := by decide +kernel
theorem dX4_save_36 : decode cX4_save 36 = .ok (.aload_n 0, 1) := by decide +kernel
theorem dX4_save_37 : decode cX4_save 37 = .ok (.getfield 23, 3) := by decide +kernel
theorem dX4_save_40 : decode cX4_save 40 = .ok (.iload_n 1, 1) := by decide +kernel
theorem dX4_save_41 : decode cX4_save 41 = .ok (.iaload, 1) := by decide +kernel
theorem dX4_save_42 : decode cX4_save 42 = .ok (.iastore, 1) := by decide +kernel
theorem dX4_save_43 : decode cX4_save 43 = .ok (.iinc 1 1, 3) := by decide +kernel
theorem dX4_save_46 : decode cX4_save 46 = .ok (.goto (-44), 3) := by decide +kernel
theorem dX4_save_49 : decode cX4_save 49 = .ok (.aload_n 0, 1) := by decide +kernel
theorem dX4_save_50 : decode cX4_save 50 = .ok (.aload_n 0, 1) := by decide +kernel
theorem dX4_save_51 : decode cX4_save 51 = .ok (.getfield 117, 3) := by decide +kernel
theorem dX4_save_54 : decode cX4_save 54 = .ok (.putfield 137, 3) := by decide +kernel
theorem dX4_save_57 : decode cX4_save 57 = .ok (.return_, 1) := by decide +kernel
theorem dX4_load_0 : decode cX4_load 0 = .ok (.iconst 0, 1) := by decide +kernel
theorem dX4_load_1 : decode cX4_load 1 = .ok (.istore_n 1, 1) := by decide +kernel
theorem dX4_load_2 : decode cX4_load 2 = .ok (.iload_n 1, 1) := by decide +kernel
theorem dX4_load_3 : decode cX4_load 3 = .ok (.iconst 4, 1) := by decide +kernel
theorem dX4_load_4 : decode cX4_load 4 = .ok (.if_icmp .ge 45, 3) := by decide +kernel
theorem dX4_load_7 : decode cX4_load 7 = .ok (.aload_n 0, 1) := by decide +kernel
theorem dX4_load_8 : decode cX4_load 8 = .ok (.getfield 13, 3) := by decide +kernel
theorem dX4_load_11 : decode cX4_load 11 = .ok (.iload_n 1, 1) := by decide +kernel
theorem dX4_load_12 : decode cX4_load 12 = .ok (.aload_n 0, 1) := by decide +kernel
theorem dX4_load_13 : decode cX4_load 13 = .ok (.getfield 45, 3) := by decide +kernel
theorem dX4_load_16 : decode cX4_load 16 = .ok (.iload_n 1, 1) := by decide +kernel
theorem dX4_load_17 : decode cX4_load 17 = .ok (.iaload, 1) := by decide +kernel
theorem dX4_load_18 : decode cX4_load 18 = .ok (.iastore, 1) := by decide +kernel
theorem dX4_load_19 : decode cX4_load 19 = .ok (.aload_n 0, 1) := by decide +kernel
theorem dX4_load_20 : decode cX4_load 20 = .ok (.getfield 20, 3) := by decide +kernel
theorem dX4_load_23 : decode cX4_load 23 = .ok (.iload_n 1, 1) := by decide +kernel
theorem dX4_load_24 : decode cX4_load 24 = .ok (.aload_n 0, 1) := by decide +kernel
theorem dX4_load_25 : decode cX4_load 25 = .ok (.getfield 48, 3) := by decide +kernel
theorem dX4_load_28 : decode cX4_load 28 = .ok (.iload_n 1, 1) := by decide +kernel
theorem dX4_load_29 : decode cX4_load 29 = .ok (.iaload, 1) := by decide +kernel
theorem dX4_load_30 : decode cX4_load 30 = .ok (.iastore, 1) := by decide +kernel
theorem dX4_load_31 : decode cX4_load 31 = .ok (.aload_n 0, 1) := by decide +kernel
theorem dX4_load_32 : decode cX4_load 32 = .ok (.getfield 23, 3) := by decide +kernel
theorem dX4_load_35 : decode cX4_load 35 = .ok (.iload_n 1, 1) := by decide +kernel
theorem dX4_load_36 : decode cX4_load 36 = .ok (.aload_n 0, 1) := by decide +kernel
theorem dX4_load_37 : decode cX4_load 37 = .ok (.getfield 51, 3) := by decide +kernel
theorem dX4_load_40 : decode cX4_load 40 = .ok (.iload_n 1, 1) := by decide +kernel
theorem dX4_load_41 : decode cX4_load 41 = .ok (.iaload, 1) := by decide +kernel
theorem dX4_load_42 : decode cX4_load 42 = .ok (.iastore, 1) := by decide +kernel
theorem dX4_load_43 : decode cX4_load 43 = .ok (.iinc 1 1, 3) := by decide +kernel
theorem dX4_load_46 : decode cX4_load 46 = .ok (.goto (-44), 3) := by decide +kernel
theorem dX4_load_49 : decode cX4_load 49 = .ok (.aload_n 0, 1) := by decide +kernel
theorem dX4_load_50 : decode cX4_load 50 = .ok (.aload_n 0, 1) := by decide +kernel
theorem dX4_load_51 : decode cX4_load 51 = .ok (.getfield 137, 3) := by decide +kernel
theorem dX4_load_54 : decode cX4_load 54 = .ok (.putfield 117, 3) := by decide +kernel
theorem dX4_load_57 : decode cX4_load 57 = .ok (.return_, 1) := by decide +kernel
theorem dX4_wouldBits_0 : decode cX4_wouldBits 0 = .ok (.iconst 0, 1) := by decide +kernel
theorem dX4_wouldBits_1 : decode cX4_wouldBits 1 = .ok (.istore_n 2, 1) := by decide +kernel
theorem dX4_wouldBits_2 : decode cX4_wouldBits 2 = .ok (.iconst 0, 1) := by decide +kernel
theorem dX4_wouldBits_3 : decode cX4_wouldBits 3 = .ok (.istore_n 3, 1) := by decide +kernel
theorem dX4_wouldBits_4 : decode cX4_wouldBits 4 = .ok (.iload_n 3, 1) := by decide +kernel
theorem dX4_wouldBits_5 : decode cX4_wouldBits 5 = .ok (.aload_n 0, 1) := by decide +kernel
theorem dX4_wouldBits_6 : decode cX4_wouldBits 6 = .ok (.getfield 111, 3) := by decide +kernel
theorem dX4_wouldBits_9 : decode cX4_wouldBits 9 = .ok (.if_icmp .ge 28, 3) := by decide +kernel
theorem dX4_wouldBits_12 : decode cX4_wouldBits 12 = .ok (.iload_n 2, 1) := by decide +kernel
theorem dX4_wouldBits_13 : decode cX4_wouldBits 13 = .ok (.aload_n 0, 1) := by decide +kernel
theorem dX4_wouldBits_14 : decode cX4_wouldBits 14 = .ok (.iload_n 1, 1) := by decide +kernel
theorem dX4_wouldBits_15 : decode cX4_wouldBits 15 = .ok (.iload_n 3, 1) := by decide +kernel
theorem dX4_wouldBits_16 : decode cX4_wouldBits 16 = .ok (.invokevirtual 140, 3) := by decide +kernel
theorem dX4_wouldBits_19 : decode cX4_wouldBits 19 = .ok (.ifCond .eq 9, 3) := by decide +kernel
theorem dX4_wouldBits_22 : decode cX4_wouldBits 22 = .ok (.iconst 1, 1) := by decide +kernel
theorem dX4_wouldBits_23 : decode cX4_wouldBits 23 = .ok (.iload_n 3, 1) := by decide +kernel
theorem dX4_wouldBits_24 : decode cX4_wouldBits 24 = .ok (.ishl, 1) := by decide +kernel
theorem dX4_wouldBits_25 : decode cX4_wouldBits 25 = .ok (.goto 4, 3) := by decide +kernel
theorem dX4_wouldBits_28 : decode cX4_wouldBits 28 = .ok (.iconst 0, 1) := by decide +kernel
theorem dX4_wouldBits_29 : decode cX4_wouldBits 29 = .ok (.ior, 1) := by decide +kernel
theorem dX4_wouldBits_30 : decode cX4_wouldBits 30 = .ok (.istore_n 2, 1) := by decide +kernel
theorem dX4_wouldBits_31 : decode cX4_wouldBits 31 = .ok (.iinc 3 1, 3) := by decide +kernel
theorem dX4_wouldBits_34 : decode cX4_wouldBits 34 = .ok (.goto (-30), 3) := by decide +kernel
theorem dX4_wouldBits_37 : decode cX4_wouldBits 37 = .ok (.iload_n 2, 1) := by decide +kernel
theorem dX4_wouldBits_38 : decode cX4_wouldBits 38 = .ok (.ireturn, 1) := by decide +kernel
theorem dX4_paidBy_0 : decode cX4_paidBy 0 = .ok (.iconst 1, 1) := by decide +kernel
theorem dX4_paidBy_1 : decode cX4_paidBy 1 = .ok (.istore_n 3, 1) := by decide +kernel
theorem dX4_paidBy_2 : decode cX4_paidBy 2 = .ok (.aload_n 0, 1) := by decide +kernel
theorem dX4_paidBy_3 : decode cX4_paidBy 3 = .ok (.getfield 23, 3) := by decide +kernel
theorem dX4_paidBy_6 : decode cX4_paidBy 6 = .ok (.iload_n 1, 1) := by decide +kernel
theorem dX4_paidBy_7 : decode cX4_paidBy 7 = .ok (.iaload, 1) := by decide +kernel
theorem dX4_paidBy_8 : decode cX4_paidBy 8 = .ok (.istore 4, 2) := by decide +kernel
theorem dX4_paidBy_10 : decode cX4_paidBy 10 = .ok (.iconst 0, 1) := by decide +kernel
theorem dX4_paidBy_11 : decode cX4_paidBy 11 = .ok (.istore 5, 2) := by decide +kernel
theorem dX4_paidBy_13 : decode cX4_paidBy 13 = .ok (.iload 5, 2) := by decide +kernel
theorem dX4_paidBy_15 : decode cX4_paidBy 15 = .ok (.aload_n 0, 1) := by decide +kernel
theorem dX4_paidBy_16 : decode cX4_paidBy 16 = .ok (.getfield 111, 3) := by decide +kernel
theorem dX4_paidBy_19 : decode cX4_paidBy 19 = .ok (.if_icmp .ge 41, 3) := by decide +kernel
theorem dX4_paidBy_22 : decode cX4_paidBy 22 = .ok (.iload_n 3, 1) := by decide +kernel
theorem dX4_paidBy_23 : decode cX4_paidBy 23 = .ok (.ifCond .eq 37, 3) := by decide +kernel
theorem dX4_paidBy_26 : decode cX4_paidBy 26 = .ok (.iload_n 2, 1) := by decide +kernel
theorem dX4_paidBy_27 : decode cX4_paidBy 27 = .ok (.iload 5, 2) := by decide +kernel
theorem dX4_paidBy_29 : decode cX4_paidBy 29 = .ok (.invokestatic 126, 3) := by decide +kernel
theorem dX4_paidBy_32 : decode cX4_paidBy 32 = .ok (.ifCond .eq 22, 3) := by decide +kernel
theorem dX4_paidBy_35 : decode cX4_paidBy 35 = .ok (.aload_n 0, 1) := by decide +kernel
theorem dX4_paidBy_36 : decode cX4_paidBy 36 = .ok (.iload_n 1, 1) := by decide +kernel
theorem dX4_paidBy_37 : decode cX4_paidBy 37 = .ok (.iload 5, 2) := by decide +kernel
theorem dX4_paidBy_39 : decode cX4_paidBy 39 = .ok (.invokevirtual 140, 3) := by decide +kernel
theorem dX4_paidBy_42 : decode cX4_paidBy 42 = .ok (.istore_n 3, 1) := by decide +kernel
theorem dX4_paidBy_43 : decode cX4_paidBy 43 = .ok (.iload_n 3, 1) := by decide +kernel
theorem dX4_paidBy_44 : decode cX4_paidBy 44 = .ok (.ifCond .eq 10, 3) := by decide +kernel
theorem dX4_paidBy_47 : decode cX4_paidBy 47 = .ok (.aload_n 0, 1) := by decide +kernel
theorem dX4_paidBy_48 : decode cX4_paidBy 48 = .ok (.iload_n 1, 1) := by decide +kernel
theorem dX4_paidBy_49 : decode cX4_paidBy 49 = .ok (.iload 5, 2) := by decide +kernel
theorem dX4_paidBy_51 : decode cX4_paidBy 51 = .ok (.invokevirtual 143, 3) := by decide +kernel
theorem dX4_paidBy_54 : decode cX4_paidBy 54 = .ok (.iinc 5 1, 3) := by decide +kernel
theorem dX4_paidBy_57 : decode cX4_paidBy 57 = .ok (.goto (-44), 3) := by decide +kernel
theorem dX4_paidBy_60 : decode cX4_paidBy 60 = .ok (.aload_n 0, 1) := by decide +kernel
theorem dX4_paidBy_61 : decode cX4_paidBy 61 = .ok (.getfield 23, 3) := by decide +kernel
theorem dX4_paidBy_64 : decode cX4_paidBy 64 = .ok (.iload_n 1, 1) := by decide +kernel
theorem dX4_paidBy_65 : decode cX4_paidBy 65 = .ok (.iaload, 1) := by decide +kernel
theorem dX4_paidBy_66 : decode cX4_paidBy 66 = .ok (.iload 4, 2) := by decide +kernel
theorem dX4_paidBy_68 : decode cX4_paidBy 68 = .ok (.isub, 1) := by decide +kernel
theorem dX4_paidBy_69 : decode cX4_paidBy 69 = .ok (.istore 5, 2) := by decide +kernel
theorem dX4_paidBy_71 : decode cX4_paidBy 71 = .ok (.aload_n 0, 1) := by decide +kernel
theorem dX4_paidBy_72 : decode cX4_paidBy 72 = .ok (.invokevirtual 146, 3) := by decide +kernel
theorem dX4_paidBy_75 : decode cX4_paidBy 75 = .ok (.iload_n 3, 1) := by decide +kernel
theorem dX4_paidBy_76 : decode cX4_paidBy 76 = .ok (.ifCond .eq 8, 3) := by decide +kernel
theorem dX4_paidBy_79 : decode cX4_paidBy 79 = .ok (.iload 5, 2) := by decide +kernel
theorem dX4_paidBy_81 : decode cX4_paidBy 81 = .ok (.goto 4, 3) := by decide +kernel
theorem dX4_paidBy_84 : decode cX4_paidBy 84 = .ok (.iconst (-1), 1) := by decide +kernel
theorem dX4_paidBy_85 : decode cX4_paidBy 85 = .ok (.ireturn, 1) := by decide +kernel
theorem dX4_fedNow_0 : decode cX4_fedNow 0 = .ok (.aload_n 0, 1) := by decide +kernel
theorem dX4_fedNow_1 : decode cX4_fedNow 1 = .ok (.invokevirtual 149, 3) := by decide +kernel
theorem dX4_fedNow_4 : decode cX4_fedNow 4 = .ok (.iconst 0, 1) := by decide +kernel
theorem dX4_fedNow_5 : decode cX4_fedNow 5 = .ok (.istore_n 3, 1) := by decide +kernel
theorem dX4_fedNow_6 : decode cX4_fedNow 6 = .ok (.iconst 0, 1) := by decide +kernel
theorem dX4_fedNow_7 : decode cX4_fedNow 7 = .ok (.istore 4, 2) := by decide +kernel
theorem dX4_fedNow_9 : decode cX4_fedNow 9 = .ok (.iconst 0, 1) := by decide +kernel
theorem dX4_fedNow_10 : decode cX4_fedNow 10 = .ok (.istore 5, 2) := by decide +kernel
theorem dX4_fedNow_12 : decode cX4_fedNow 12 = .ok (.iload 5, 2) := by decide +kernel
theorem dX4_fedNow_14 : decode cX4_fedNow 14 = .ok (.iconst 1, 1) := by decide +kernel
theorem dX4_fedNow_15 : decode cX4_fedNow 15 = .ok (.aload_n 0, 1) := by decide +kernel
theorem dX4_fedNow_16 : decode cX4_fedNow 16 = .ok (.getfield 111, 3) := by decide +kernel
theorem dX4_fedNow_19 : decode cX4_fedNow 19 = .ok (.ishl, 1) := by decide +kernel
theorem dX4_fedNow_20 : decode cX4_fedNow 20 = .ok (.if_icmp .ge 48, 3) := by decide +kernel
theorem dX4_fedNow_23 : decode cX4_fedNow 23 = .ok (.aload_n 0, 1) := by decide +kernel
theorem dX4_fedNow_24 : decode cX4_fedNow 24 = .ok (.iload_n 1, 1) := by decide +kernel
theorem dX4_fedNow_25 : decode cX4_fedNow 25 = .ok (.iload 5, 2) := by decide +kernel
theorem dX4_fedNow_27 : decode cX4_fedNow 27 = .ok (.invokevirtual 152, 3) := by decide +kernel
theorem dX4_fedNow_30 : decode cX4_fedNow 30 = .ok (.istore 6, 2) := by decide +kernel
theorem dX4_fedNow_32 : decode cX4_fedNow 32 = .ok (.iload 6, 2) := by decide +kernel
theorem dX4_fedNow_34 : decode cX4_fedNow 34 = .ok (.iload 4, 2) := by decide +kernel
theorem dX4_fedNow_36 : decode cX4_fedNow 36 = .ok (.if_icmp .le 8, 3) := by decide +kernel
theorem dX4_fedNow_39 : decode cX4_fedNow 39 = .ok (.iload 5, 2) := by decide +kernel
theorem dX4_fedNow_41 : decode cX4_fedNow 41 = .ok (.goto 4, 3) := by decide +kernel
theorem dX4_fedNow_44 : decode cX4_fedNow 44 = .ok (.iload_n 3, 1) := by decide +kernel
theorem dX4_fedNow_45 : decode cX4_fedNow 45 = .ok (.istore_n 3, 1) := by decide +kernel
theorem dX4_fedNow_46 : decode cX4_fedNow 46 = .ok (.iload 6, 2) := by decide +kernel
theorem dX4_fedNow_48 : decode cX4_fedNow 48 = .ok (.iload 4, 2) := by decide +kernel
theorem dX4_fedNow_50 : decode cX4_fedNow 50 = .ok (.if_icmp .le 8, 3) := by decide +kernel
theorem dX4_fedNow_53 : decode cX4_fedNow 53 = .ok (.iload 6, 2) := by decide +kernel
theorem dX4_fedNow_55 : decode cX4_fedNow 55 = .ok (.goto 5, 3) := by decide +kernel
theorem dX4_fedNow_58 : decode cX4_fedNow 58 = .ok (.iload 4, 2) := by decide +kernel
theorem dX4_fedNow_60 : decode cX4_fedNow 60 = .ok (.istore 4, 2) := by decide +kernel
theorem dX4_fedNow_62 : decode cX4_fedNow 62 = .ok (.iinc 5 1, 3) := by decide +kernel
theorem dX4_fedNow_65 : decode cX4_fedNow 65 = .ok (.goto (-53), 3) := by decide +kernel
theorem dX4_fedNow_68 : decode cX4_fedNow 68 = .ok (.iload_n 2, 1) := by decide +kernel
theorem dX4_fedNow_69 : decode cX4_fedNow 69 = .ok (.ifCond .eq 8, 3) := by decide +kernel
theorem dX4_fedNow_72 : decode cX4_fedNow 72 = .ok (.iload 4, 2) := by decide +kernel
theorem dX4_fedNow_74 : decode cX4_fedNow 74 = .ok (.goto 4, 3) := by decide +kernel
theorem dX4_fedNow_77 : decode cX4_fedNow 77 = .ok (.iload_n 3, 1) := by decide +kernel
theorem dX4_fedNow_78 : decode cX4_fedNow 78 = .ok (.ireturn, 1) := by decide +kernel
theorem dX4_eaterNow_0 : decode cX4_eaterNow 0 = .ok (.iload_n 2, 1) := by decide +kernel
theorem dX4_eaterNow_1 : decode cX4_eaterNow 1 = .ok (.tableswitch 88 0 5 #[39, 46, 53, 68, 75, 82], 39) := by decide +kernel
theorem dX4_eaterNow_40 : decode cX4_eaterNow 40 = .ok (.aload_n 0, 1) := by decide +kernel
theorem dX4_eaterNow_41 : decode cX4_eaterNow 41 = .ok (.getfield 7, 3) := by decide +kernel
theorem dX4_eaterNow_44 : decode cX4_eaterNow 44 = .ok (.iload_n 1, 1) := by decide +kernel
theorem dX4_eaterNow_45 : decode cX4_eaterNow 45 = .ok (.iaload, 1) := by decide +kernel
theorem dX4_eaterNow_46 : decode cX4_eaterNow 46 = .ok (.ireturn, 1) := by decide +kernel
theorem dX4_eaterNow_47 : decode cX4_eaterNow 47 = .ok (.aload_n 0, 1) := by decide +kernel
theorem dX4_eaterNow_48 : decode cX4_eaterNow 48 = .ok (.getfield 13, 3) := by decide +kernel
theorem dX4_eaterNow_51 : decode cX4_eaterNow 51 = .ok (.iload_n 1, 1) := by decide +kernel
theorem dX4_eaterNow_52 : decode cX4_eaterNow 52 = .ok (.iaload, 1) := by decide +kernel
theorem dX4_eaterNow_53 : decode cX4_eaterNow 53 = .ok (.ireturn, 1) := by decide +kernel
theorem dX4_eaterNow_54 : decode cX4_eaterNow 54 = .ok (.aload_n 0, 1) := by decide +kernel
theorem dX4_eaterNow_55 : decode cX4_eaterNow 55 = .ok (.getfield 16, 3) := by decide +kernel
theorem dX4_eaterNow_58 : decode cX4_eaterNow 58 = .ok (.iload_n 1, 1) := by decide +kernel
theorem dX4_eaterNow_59 : decode cX4_eaterNow 59 = .ok (.baload, 1) := by decide +kernel
theorem dX4_eaterNow_60 : decode cX4_eaterNow 60 = .ok (.ifCond .eq 7, 3) := by decide +kernel
theorem dX4_eaterNow_63 : decode cX4_eaterNow 63 = .ok (.iconst 1, 1) := by decide +kernel
theorem dX4_eaterNow_64 : decode cX4_eaterNow 64 = .ok (.goto 4, 3) := by decide +kernel
theorem dX4_eaterNow_67 : decode cX4_eaterNow 67 = .ok (.iconst 0, 1) := by decide +kernel
theorem dX4_eaterNow_68 : decode cX4_eaterNow 68 = .ok (.ireturn, 1) := by decide +kernel
theorem dX4_eaterNow_69 : decode cX4_eaterNow 69 = .ok (.aload_n 0, 1) := by decide +kernel
theorem dX4_eaterNow_70 : decode cX4_eaterNow 70 = .ok (.getfield 20, 3) := by decide +kernel
theorem dX4_eaterNow_73 : decode cX4_eaterNow 73 = .ok (.iload_n 1, 1) := by decide +kernel
theorem dX4_eaterNow_74 : decode cX4_eaterNow 74 = .ok (.iaload, 1) := by decide +kernel
theorem dX4_eaterNow_75 : decode cX4_eaterNow 75 = .ok (.ireturn, 1) := by decide +kernel
theorem dX4_eaterNow_76 : decode cX4_eaterNow 76 = .ok (.aload_n 0, 1) := by decide +kernel
theorem dX4_eaterNow_77 : decode cX4_eaterNow 77 = .ok (.getfield 23, 3) := by decide +kernel
theorem dX4_eaterNow_80 : decode cX4_eaterNow 80 = .ok (.iload_n 1, 1) := by decide +kernel
theorem dX4_eaterNow_81 : decode cX4_eaterNow 81 = .ok (.iaload, 1) := by decide +kernel
theorem dX4_eaterNow_82 : decode cX4_eaterNow 82 = .ok (.ireturn, 1) := by decide +kernel
theorem dX4_eaterNow_83 : decode cX4_eaterNow 83 = .ok (.aload_n 0, 1) := by decide +kernel
theorem dX4_eaterNow_84 : decode cX4_eaterNow 84 = .ok (.iload_n 1, 1) := by decide +kernel
theorem dX4_eaterNow_85 : decode cX4_eaterNow 85 = .ok (.invokevirtual 156, 3) := by decide +kernel
theorem dX4_eaterNow_88 : decode cX4_eaterNow 88 = .ok (.ireturn, 1) := by decide +kernel
theorem dX4_eaterNow_89 : decode cX4_eaterNow 89 = .ok (.aload_n 0, 1) := by decide +kernel
theorem dX4_eaterNow_90 : decode cX4_eaterNow 90 = .ok (.iload_n 1, 1) := by decide +kernel
theorem dX4_eaterNow_91 : decode cX4_eaterNow 91 = .ok (.iload_n 2, 1) := by decide +kernel
theorem dX4_eaterNow_92 : decode cX4_eaterNow 92 = .ok (.bipush 6, 2) := by decide +kernel
theorem dX4_eaterNow_94 : decode cX4_eaterNow 94 = .ok (.if_icmp .ne 7, 3) := by decide +kernel
theorem dX4_eaterNow_97 : decode cX4_eaterNow 97 = .ok (.iconst 1, 1) := by decide +kernel
theorem dX4_eaterNow_98 : decode cX4_eaterNow 98 = .ok (.goto 4, 3) := by decide +kernel
theorem dX4_eaterNow_101 : decode cX4_eaterNow 101 = .ok (.iconst 0, 1) := by decide +kernel
theorem dX4_eaterNow_102 : decode cX4_eaterNow 102 = .ok (.invokevirtual 159, 3) := by decide +kernel
theorem dX4_eaterNow_105 : decode cX4_eaterNow 105 = .ok (.ireturn, 1) := by decide +kernel
theorem dX4_about_0 : decode cX4_about 0 = .ok (.aload_n 0, 1) := by decide +kernel
theorem dX4_about_1 : decode cX4_about 1 = .ok (.iload_n 1, 1) := by decide +kernel
theorem dX4_about_2 : decode cX4_about 2 = .ok (.invokevirtual 163, 3) := by decide +kernel
theorem dX4_about_5 : decode cX4_about 5 = .ok (.ifCond .ne 8, 3) := by decide +kernel
theorem dX4_about_8 : decode cX4_about 8 = .ok (.bipush (-101), 2) := by decide +kernel
theorem dX4_about_10 : decode cX4_about 10 = .ok (.goto 24, 3) := by decide +kernel
theorem dX4_about_13 : decode cX4_about 13 = .ok (.iload_n 2, 1) := by decide +kernel
theorem dX4_about_14 : decode cX4_about 14 = .ok (.iconst 0, 1) := by decide +kernel
theorem dX4_about_15 : decode cX4_about 15 = .ok (.bipush 7, 2) := by decide +kernel
theorem dX4_about_17 : decode cX4_about 17 = .ok (.invokestatic 75, 3) := by decide +kernel
theorem dX4_about_20 : decode cX4_about 20 = .ok (.ifCond .eq 12, 3) := by decide +kernel
theorem dX4_about_23 : decode cX4_about 23 = .ok (.aload_n 0, 1) := by decide +kernel
theorem dX4_about_24 : decode cX4_about 24 = .ok (.iload_n 1, 1) := by decide +kernel
theorem dX4_about_25 : decode cX4_about 25 = .ok (.iload_n 2, 1) := by decide +kernel
theorem dX4_about_26 : decode cX4_about 26 = .ok (.invokevirtual 166, 3) := by decide +kernel
theorem dX4_about_29 : decode cX4_about 29 = .ok (.goto 5, 3) := by decide +kernel
theorem dX4_about_32 : decode cX4_about 32 = .ok (.bipush (-102), 2) := by decide +kernel
theorem dX4_about_34 : decode cX4_about 34 = .ok (.ireturn, 1) := by decide +kernel
theorem dX4_as_0 : decode cX4_as 0 = .ok (.aload_n 0, 1) := by decide +kernel
theorem dX4_as_1 : decode cX4_as 1 = .ok (.iload_n 1, 1) := by decide +kernel
theorem dX4_as_2 : decode cX4_as 2 = .ok (.invokevirtual 163, 3) := by decide +kernel
theorem dX4_as_5 : decode cX4_as 5 = .ok (.ifCond .ne 6, 3) := by decide +kernel
theorem dX4_as_8 : decode cX4_as 8 = .ok (.bipush (-101), 2) := by decide +kernel
theorem dX4_as_10 : decode cX4_as 10 = .ok (.ireturn, 1) := by decide +kernel
theorem dX4_as_11 : decode cX4_as 11 = .ok (.iload_n 2, 1) := by decide +kernel
theorem dX4_as_12 : decode cX4_as 12 = .ok (.iconst 0, 1) := by decide +kernel
theorem dX4_as_13 : decode cX4_as 13 = .ok (.iconst 4, 1) := by decide +kernel
theorem dX4_as_14 : decode cX4_as 14 = .ok (.invokestatic 75, 3) := by decide +kernel
theorem dX4_as_17 : decode cX4_as 17 = .ok (.ifCond .ne 6, 3) := by decide +kernel
theorem dX4_as_20 : decode cX4_as 20 = .ok (.bipush (-102), 2) := by decide +kernel
theorem dX4_as_22 : decode cX4_as 22 = .ok (.ireturn, 1) := by decide +kernel
theorem dX4_as_23 : decode cX4_as 23 = .ok (.aload_n 0, 1) := by decide +kernel
theorem dX4_as_24 : decode cX4_as 24 = .ok (.getfield 7, 3) := by decide +kernel
theorem dX4_as_27 : decode cX4_as 27 = .ok (.iload_n 1, 1) := by decide +kernel
theorem dX4_as_28 : decode cX4_as 28 = .ok (.iaload, 1) := by decide +kernel
theorem dX4_as_29 : decode cX4_as 29 = .ok (.istore_n 3, 1) := by decide +kernel
theorem dX4_as_30 : decode cX4_as 30 = .ok (.iload_n 2, 1) := by decide +kernel
theorem dX4_as_31 : decode cX4_as 31 = .ok (.ifCond .eq 18, 3) := by decide +kernel
theorem dX4_as_34 : decode cX4_as 34 = .ok (.iload_n 3, 1) := by decide +kernel
theorem dX4_as_35 : decode cX4_as 35 = .ok (.iload_n 2, 1) := by decide +kernel
theorem dX4_as_36 : decode cX4_as 36 = .ok (.if_icmp .eq 13, 3) := by decide +kernel
theorem dX4_as_39 : decode cX4_as 39 = .ok (.iload_n 2, 1) := by decide +kernel
theorem dX4_as_40 : decode cX4_as 40 = .ok (.iconst 1, 1) := by decide +kernel
theorem dX4_as_41 : decode cX4_as 41 = .ok (.if_icmp .ne 12, 3) := by decide +kernel
theorem dX4_as_44 : decode cX4_as 44 = .ok (.iload_n 3, 1) := by decide +kernel
theorem dX4_as_45 : decode cX4_as 45 = .ok (.iconst 4, 1) := by decide +kernel
theorem dX4_as_46 : decode cX4_as 46 = .ok (.if_icmp .ne 7, 3) := by decide +kernel
theorem dX4_as_49 : decode cX4_as 49 = .ok (.iload_n 1, 1) := by decide +kernel
theorem dX4_as_50 : decode cX4_as 50 = .ok (.goto 4, 3) := by decide +kernel
theorem dX4_as_53 : decode cX4_as 53 = .ok (.iconst (-1), 1) := by decide +kernel
theorem dX4_as_54 : decode cX4_as 54 = .ok (.ireturn, 1) := by decide +kernel
theorem dX4_loafNow_0 : decode cX4_loafNow 0 = .ok (.iload_n 2, 1) := by decide +kernel
theorem dX4_loafNow_1 : decode cX4_loafNow 1 = .ok (.tableswitch 60 0 3 #[31, 38, 45, 54], 31) := by decide +kernel
theorem dX4_loafNow_32 : decode cX4_loafNow 32 = .ok (.aload_n 0, 1) := by decide +kernel
theorem dX4_loafNow_33 : decode cX4_loafNow 33 = .ok (.getfield 26, 3) := by decide +kernel
theorem dX4_loafNow_36 : decode cX4_loafNow 36 = .ok (.iload_n 1, 1) := by decide +kernel
theorem dX4_loafNow_37 : decode cX4_loafNow 37 = .ok (.iaload, 1) := by decide +kernel
theorem dX4_loafNow_38 : decode cX4_loafNow 38 = .ok (.ireturn, 1) := by decide +kernel
theorem dX4_loafNow_39 : decode cX4_loafNow 39 = .ok (.aload_n 0, 1) := by decide +kernel
theorem dX4_loafNow_40 : decode cX4_loafNow 40 = .ok (.getfield 29, 3) := by decide +kernel
theorem dX4_loafNow_43 : decode cX4_loafNow 43 = .ok (.iload_n 1, 1) := by decide +kernel
theorem dX4_loafNow_44 : decode cX4_loafNow 44 = .ok (.iaload, 1) := by decide +kernel
theorem dX4_loafNow_45 : decode cX4_loafNow 45 = .ok (.ireturn, 1) := by decide +kernel
theorem dX4_loafNow_46 : decode cX4_loafNow 46 = .ok (.aload_n 0, 1) := by decide +kernel
theorem dX4_loafNow_47 : decode cX4_loafNow 47 = .ok (.getfield 117, 3) := by decide +kernel
theorem dX4_loafNow_50 : decode cX4_loafNow 50 = .ok (.iload_n 1, 1) := by decide +kernel
theorem dX4_loafNow_51 : decode cX4_loafNow 51 = .ok (.ishr, 1) := by decide +kernel
theorem dX4_loafNow_52 : decode cX4_loafNow 52 = .ok (.iconst 1, 1) := by decide +kernel
theorem dX4_loafNow_53 : decode cX4_loafNow 53 = .ok (.iand, 1) := by decide +kernel
theorem dX4_loafNow_54 : decode cX4_loafNow 54 = .ok (.ireturn, 1) := by decide +kernel
theorem dX4_loafNow_55 : decode cX4_loafNow 55 = .ok (.aload_n 0, 1) := by decide +kernel
theorem dX4_loafNow_56 : decode cX4_loafNow 56 = .ok (.iload_n 1, 1) := by decide +kernel
theorem dX4_loafNow_57 : decode cX4_loafNow 57 = .ok (.invokevirtual 169, 3) := by decide +kernel
theorem dX4_loafNow_60 : decode cX4_loafNow 60 = .ok (.ireturn, 1) := by decide +kernel
theorem dX4_loafNow_61 : decode cX4_loafNow 61 = .ok (.aload_n 0, 1) := by decide +kernel
theorem dX4_loafNow_62 : decode cX4_loafNow 62 = .ok (.iload_n 1, 1) := by decide +kernel
theorem dX4_loafNow_63 : decode cX4_loafNow 63 = .ok (.invokevirtual 172, 3) := by decide +kernel
theorem dX4_loafNow_66 : decode cX4_loafNow 66 = .ok (.ireturn, 1) := by decide +kernel
theorem dX4_loaf_0 : decode cX4_loaf 0 = .ok (.aload_n 0, 1) := by decide +kernel
theorem dX4_loaf_1 : decode cX4_loaf 1 = .ok (.iload_n 1, 1) := by decide +kernel
theorem dX4_loaf_2 : decode cX4_loaf 2 = .ok (.invokevirtual 175, 3) := by decide +kernel
theorem dX4_loaf_5 : decode cX4_loaf 5 = .ok (.ifCond .ne 8, 3) := by decide +kernel
theorem dX4_loaf_8 : decode cX4_loaf 8 = .ok (.bipush (-101), 2) := by decide +kernel
theorem dX4_loaf_10 : decode cX4_loaf 10 = .ok (.goto 23, 3) := by decide +kernel
theorem dX4_loaf_13 : decode cX4_loaf 13 = .ok (.iload_n 2, 1) := by decide +kernel
theorem dX4_loaf_14 : decode cX4_loaf 14 = .ok (.iconst 0, 1) := by decide +kernel
theorem dX4_loaf_15 : decode cX4_loaf 15 = .ok (.iconst 4, 1) := by decide +kernel
theorem dX4_loaf_16 : decode cX4_loaf 16 = .ok (.invokestatic 75, 3) := by decide +kernel
theorem dX4_loaf_19 : decode cX4_loaf 19 = .ok (.ifCond .eq 12, 3) := by decide +kernel
theorem dX4_loaf_22 : decode cX4_loaf 22 = .ok (.aload_n 0, 1) := by decide +kernel
theorem dX4_loaf_23 : decode cX4_loaf 23 = .ok (.iload_n 1, 1) := by decide +kernel
theorem dX4_loaf_24 : decode cX4_loaf 24 = .ok (.iload_n 2, 1) := by decide +kernel
theorem dX4_loaf_25 : decode cX4_loaf 25 = .ok (.invokevirtual 178, 3) := by decide +kernel
theorem dX4_loaf_28 : decode cX4_loaf 28 = .ok (.goto 5, 3) := by decide +kernel
theorem dX4_loaf_31 : decode cX4_loaf 31 = .ok (.bipush (-102), 2) := by decide +kernel
theorem dX4_loaf_33 : decode cX4_loaf 33 = .ok (.ireturn, 1) := by decide +kernel
theorem dX4_eat_0 : decode cX4_eat 0 = .ok (.aload_n 0, 1) := by decide +kernel
theorem dX4_eat_1 : decode cX4_eat 1 = .ok (.iload_n 1, 1) := by decide +kernel
theorem dX4_eat_2 : decode cX4_eat 2 = .ok (.invokevirtual 163, 3) := by decide +kernel
theorem dX4_eat_5 : decode cX4_eat 5 = .ok (.ifCond .eq 11, 3) := by decide +kernel
theorem dX4_eat_8 : decode cX4_eat 8 = .ok (.aload_n 0, 1) := by decide +kernel
theorem dX4_eat_9 : decode cX4_eat 9 = .ok (.iload_n 2, 1) := by decide +kernel
theorem dX4_eat_10 : decode cX4_eat 10 = .ok (.invokevirtual 175, 3) := by decide +kernel
theorem dX4_eat_13 : decode cX4_eat 13 = .ok (.ifCond .ne 6, 3) := by decide +kernel
theorem dX4_eat_16 : decode cX4_eat 16 = .ok (.bipush (-101), 2) := by decide +kernel
theorem dX4_eat_18 : decode cX4_eat 18 = .ok (.ireturn, 1) := by decide +kernel
theorem dX4_eat_19 : decode cX4_eat 19 = .ok (.aload_n 0, 1) := by decide +kernel
theorem dX4_eat_20 : decode cX4_eat 20 = .ok (.iload_n 1, 1) := by decide +kernel
theorem dX4_eat_21 : decode cX4_eat 21 = .ok (.iload_n 2, 1) := by decide +kernel
theorem dX4_eat_22 : decode cX4_eat 22 = .ok (.invokevirtual 140, 3) := by decide +kernel
theorem dX4_eat_25 : decode cX4_eat 25 = .ok (.ifCond .ne 6, 3) := by decide +kernel
theorem dX4_eat_28 : decode cX4_eat 28 = .ok (.bipush (-103), 2) := by decide +kernel
theorem dX4_eat_30 : decode cX4_eat 30 = .ok (.ireturn, 1) := by decide +kernel
theorem dX4_eat_31 : decode cX4_eat 31 = .ok (.aload_n 0, 1) := by decide +kernel
theorem dX4_eat_32 : decode cX4_eat 32 = .ok (.iload_n 1, 1) := by decide +kernel
theorem dX4_eat_33 : decode cX4_eat 33 = .ok (.iload_n 2, 1) := by decide +kernel
theorem dX4_eat_34 : decode cX4_eat 34 = .ok (.invokevirtual 143, 3) := by decide +kernel
theorem dX4_eat_37 : decode cX4_eat 37 = .ok (.aload_n 0, 1) := by decide +kernel
theorem dX4_eat_38 : decode cX4_eat 38 = .ok (.getfield 20, 3) := by decide +kernel
theorem dX4_eat_41 : decode cX4_eat 41 = .ok (.iload_n 1, 1) := by decide +kernel
theorem dX4_eat_42 : decode cX4_eat 42 = .ok (.iaload, 1) := by decide +kernel
theorem dX4_eat_43 : decode cX4_eat 43 = .ok (.ireturn, 1) := by decide +kernel
theorem dX4_halve_0 : decode cX4_halve 0 = .ok (.aload_n 0, 1) := by decide +kernel
theorem dX4_halve_1 : decode cX4_halve 1 = .ok (.iload_n 1, 1) := by decide +kernel
theorem dX4_halve_2 : decode cX4_halve 2 = .ok (.invokevirtual 163, 3) := by decide +kernel
theorem dX4_halve_5 : decode cX4_halve 5 = .ok (.ifCond .eq 24, 3) := by decide +kernel
theorem dX4_halve_8 : decode cX4_halve 8 = .ok (.aload_n 0, 1) := by decide +kernel
theorem dX4_halve_9 : decode cX4_halve 9 = .ok (.iload_n 2, 1) := by decide +kernel
theorem dX4_halve_10 : decode cX4_halve 10 = .ok (.invokevirtual 163, 3) := by decide +kernel
theorem dX4_halve_13 : decode cX4_halve 13 = .ok (.ifCond .eq 16, 3) := by decide +kernel
theorem dX4_halve_16 : decode cX4_halve 16 = .ok (.iload_n 1, 1) := by decide +kernel
theorem dX4_halve_17 : decode cX4_halve 17 = .ok (.iload_n 2, 1) := by decide +kernel
theorem dX4_halve_18 : decode cX4_halve 18 = .ok (.if_icmp .eq 11, 3) := by decide +kernel
theorem dX4_halve_21 : decode cX4_halve 21 = .ok (.aload_n 0, 1) := by decide +kernel
theorem dX4_halve_22 : decode cX4_halve 22 = .ok (.iload_n 3, 1) := by decide +kernel
theorem dX4_halve_23 : decode cX4_halve 23 = .ok (.invokevirtual 175, 3) := by decide +kernel
theorem dX4_halve_26 : decode cX4_halve 26 = .ok (.ifCond .ne 6, 3) := by decide +kernel
theorem dX4_halve_29 : decode cX4_halve 29 = .ok (.bipush (-101), 2) := by decide +kernel
theorem dX4_halve_31 : decode cX4_halve 31 = .ok (.ireturn, 1) := by decide +kernel
theorem dX4_halve_32 : decode cX4_halve 32 = .ok (.aload_n 0, 1) := by decide +kernel
theorem dX4_halve_33 : decode cX4_halve 33 = .ok (.iload_n 1, 1) := by decide +kernel
theorem dX4_halve_34 : decode cX4_halve 34 = .ok (.iload_n 3, 1) := by decide +kernel
theorem dX4_halve_35 : decode cX4_halve 35 = .ok (.invokevirtual 140, 3) := by decide +kernel
theorem dX4_halve_38 : decode cX4_halve 38 = .ok (.ifCond .eq 12, 3) := by decide +kernel
theorem dX4_halve_41 : decode cX4_halve 41 = .ok (.aload_n 0, 1) := by decide +kernel
theorem dX4_halve_42 : decode cX4_halve 42 = .ok (.iload_n 2, 1) := by decide +kernel
theorem dX4_halve_43 : decode cX4_halve 43 = .ok (.iload_n 3, 1) := by decide +kernel
theorem dX4_halve_44 : decode cX4_halve 44 = .ok (.invokevirtual 140, 3) := by decide +kernel
theorem dX4_halve_47 : decode cX4_halve 47 = .ok (.ifCond .ne 6, 3) := by decide +kernel
theorem dX4_halve_50 : decode cX4_halve 50 = .ok (.bipush (-103), 2) := by decide +kernel
theorem dX4_halve_52 : decode cX4_halve 52 = .ok (.ireturn, 1) := by decide +kernel
theorem dX4_halve_53 : decode cX4_halve 53 = .ok (.aload_n 0, 1) := by decide +kernel
theorem dX4_halve_54 : decode cX4_halve 54 = .ok (.getfield 26, 3) := by decide +kernel
theorem dX4_halve_57 : decode cX4_halve 57 = .ok (.iload_n 3, 1) := by decide +kernel
theorem dX4_halve_58 : decode cX4_halve 58 = .ok (.iaload, 1) := by decide +kernel
theorem dX4_halve_59 : decode cX4_halve 59 = .ok (.aload_n 0, 1) := by decide +kernel
theorem dX4_halve_60 : decode cX4_halve 60 = .ok (.getfield 29, 3) := by decide +kernel
theorem dX4_halve_63 : decode cX4_halve 63 = .ok (.iload_n 3, 1) := by decide +kernel
theorem dX4_halve_64 : decode cX4_halve 64 = .ok (.iaload, 1) := by decide +kernel
theorem dX4_halve_65 : decode cX4_halve 65 = .ok (.iadd, 1) := by decide +kernel
theorem dX4_halve_66 : decode cX4_halve 66 = .ok (.istore 4, 2) := by decide +kernel
theorem dX4_halve_68 : decode cX4_halve 68 = .ok (.aload_n 0, 1) := by decide +kernel
theorem dX4_halve_69 : decode cX4_halve 69 = .ok (.getfield 23, 3) := by decide +kernel
theorem dX4_halve_72 : decode cX4_halve 72 = .ok (.iload_n 1, 1) := by decide +kernel
theorem dX4_halve_73 : decode cX4_halve 73 = .ok (.dup2, 1) := by decide +kernel
theorem dX4_halve_74 : decode cX4_halve 74 = .ok (.iaload, 1) := by decide +kernel
theorem dX4_halve_75 : decode cX4_halve 75 = .ok (.aload_n 0, 1) := by decide +kernel
theorem dX4_halve_76 : decode cX4_halve 76 = .ok (.getfield 26, 3) := by decide +kernel
theorem dX4_halve_79 : decode cX4_halve 79 = .ok (.iload_n 3, 1) := by decide +kernel
theorem dX4_halve_80 : decode cX4_halve 80 = .ok (.iaload, 1) := by decide +kernel
theorem dX4_halve_81 : decode cX4_halve 81 = .ok (.iconst 1, 1) := by decide +kernel
theorem dX4_halve_82 : decode cX4_halve 82 = .ok (.iadd, 1) := by decide +kernel
theorem dX4_halve_83 : decode cX4_halve 83 = .ok (.iconst 2, 1) := by decide +kernel
theorem dX4_halve_84 : decode cX4_halve 84 = .ok (.idiv, 1) := by decide +kernel
theorem dX4_halve_85 : decode cX4_halve 85 = .ok (.iadd, 1) := by decide +kernel
theorem dX4_halve_86 : decode cX4_halve 86 = .ok (.iastore, 1) := by decide +kernel
theorem dX4_halve_87 : decode cX4_halve 87 = .ok (.aload_n 0, 1) := by decide +kernel
theorem dX4_halve_88 : decode cX4_halve 88 = .ok (.getfield 23, 3) := by decide +kernel
theorem dX4_halve_91 : decode cX4_halve 91 = .ok (.iload_n 2, 1) := by decide +kernel
theorem dX4_halve_92 : decode cX4_halve 92 = .ok (.dup2, 1) := by decide +kernel
theorem dX4_halve_93 : decode cX4_halve 93 = .ok (.iaload, 1) := by decide +kernel
theorem dX4_halve_94 : decode cX4_halve 94 = .ok (.aload_n 0, 1) := by decide +kernel
theorem dX4_halve_95 : decode cX4_halve 95 = .ok (.getfield 26, 3) := by decide +kernel
theorem dX4_halve_98 : decode cX4_halve 98 = .ok (.iload_n 3, 1) := by decide +kernel
theorem dX4_halve_99 : decode cX4_halve 99 = .ok (.iaload, 1) := by decide +kernel
theorem dX4_halve_100 : decode cX4_halve 100 = .ok (.iconst 2, 1) := by decide +kernel
theorem dX4_halve_101 : decode cX4_halve 101 = .ok (.idiv, 1) := by decide +kernel
theorem dX4_halve_102 : decode cX4_halve 102 = .ok (.iadd, 1) := by decide +kernel
theorem dX4_halve_103 : decode cX4_halve 103 = .ok (.iastore, 1) := by decide +kernel
theorem dX4_halve_104 : decode cX4_halve 104 = .ok (.aload_n 0, 1) := by decide +kernel
theorem dX4_halve_105 : decode cX4_halve 105 = .ok (.iload_n 1, 1) := by decide +kernel
theorem dX4_halve_106 : decode cX4_halve 106 = .ok (.iload 4, 2) := by decide +kernel
theorem dX4_halve_108 : decode cX4_halve 108 = .ok (.iconst 1, 1) := by decide +kernel
theorem dX4_halve_109 : decode cX4_halve 109 = .ok (.iadd, 1) := by decide +kernel
theorem dX4_halve_110 : decode cX4_halve 110 = .ok (.iconst 2, 1) := by decide +kernel
theorem dX4_halve_111 : decode cX4_halve 111 = .ok (.idiv, 1) := by decide +kernel
theorem dX4_halve_112 : decode cX4_halve 112 = .ok (.invokevirtual 130, 3) := by decide +kernel
theorem dX4_halve_115 : decode cX4_halve 115 = .ok (.aload_n 0, 1) := by decide +kernel
theorem dX4_halve_116 : decode cX4_halve 116 = .ok (.iload_n 2, 1) := by decide +kernel
theorem dX4_halve_117 : decode cX4_halve 117 = .ok (.iload 4, 2) := by decide +kernel
theorem dX4_halve_119 : decode cX4_halve 119 = .ok (.iconst 2, 1) := by decide +kernel
theorem dX4_halve_120 : decode cX4_halve 120 = .ok (.idiv, 1) := by decide +kernel
theorem dX4_halve_121 : decode cX4_halve 121 = .ok (.invokevirtual 130, 3) := by decide +kernel
theorem dX4_halve_124 : decode cX4_halve 124 = .ok (.aload_n 0, 1) := by decide +kernel
theorem dX4_halve_125 : decode cX4_halve 125 = .ok (.iload_n 1, 1) := by decide +kernel
theorem dX4_halve_126 : decode cX4_halve 126 = .ok (.iconst 1, 1) := by decide +kernel
theorem dX4_halve_127 : decode cX4_halve 127 = .ok (.invokevirtual 134, 3) := by decide +kernel
theorem dX4_halve_130 : decode cX4_halve 130 = .ok (.aload_n 0, 1) := by decide +kernel
theorem dX4_halve_131 : decode cX4_halve 131 = .ok (.iload_n 2, 1) := by decide +kernel
theorem dX4_halve_132 : decode cX4_halve 132 = .ok (.iconst 1, 1) := by decide +kernel
theorem dX4_halve_133 : decode cX4_halve 133 = .ok (.invokevirtual 134, 3) := by decide +kernel
theorem dX4_halve_136 : decode cX4_halve 136 = .ok (.aload_n 0, 1) := by decide +kernel
theorem dX4_halve_137 : decode cX4_halve 137 = .ok (.dup, 1) := by decide +kernel
theorem dX4_halve_138 : decode cX4_halve 138 = .ok (.getfield 117, 3) := by decide +kernel
theorem dX4_halve_141 : decode cX4_halve 141 = .ok (.iconst 1, 1) := by decide +kernel
theorem dX4_halve_142 : decode cX4_halve 142 = .ok (.iload_n 3, 1) := by decide +kernel
theorem dX4_halve_143 : decode cX4_halve 143 = .ok (.ishl, 1) := by decide +kernel
theorem dX4_halve_144 : decode cX4_halve 144 = .ok (.ior, 1) := by decide +kernel
theorem dX4_halve_145 : decode cX4_halve 145 = .ok (.putfield 117, 3) := by decide +kernel
theorem dX4_halve_148 : decode cX4_halve 148 = .ok (.aload_n 0, 1) := by decide +kernel
theorem dX4_halve_149 : decode cX4_halve 149 = .ok (.getfield 20, 3) := by decide +kernel
theorem dX4_halve_152 : decode cX4_halve 152 = .ok (.iload_n 1, 1) := by decide +kernel
theorem dX4_halve_153 : decode cX4_halve 153 = .ok (.iaload, 1) := by decide +kernel
theorem dX4_halve_154 : decode cX4_halve 154 = .ok (.aload_n 0, 1) := by decide +kernel
theorem dX4_halve_155 : decode cX4_halve 155 = .ok (.getfield 20, 3) := by decide +kernel
theorem dX4_halve_158 : decode cX4_halve 158 = .ok (.iload_n 2, 1) := by decide +kernel
theorem dX4_halve_159 : decode cX4_halve 159 = .ok (.iaload, 1) := by decide +kernel
theorem dX4_halve_160 : decode cX4_halve 160 = .ok (.iadd, 1) := by decide +kernel
theorem dX4_halve_161 : decode cX4_halve 161 = .ok (.ireturn, 1) := by decide +kernel
theorem dX4_winter_0 : decode cX4_winter 0 = .ok (.aload_n 0, 1) := by decide +kernel
theorem dX4_winter_1 : decode cX4_winter 1 = .ok (.getfield 108, 3) := by decide +kernel
theorem dX4_winter_4 : decode cX4_winter 4 = .ok (.ifCond .ne 6, 3) := by decide +kernel
theorem dX4_winter_7 : decode cX4_winter 7 = .ok (.bipush (-103), 2) := by decide +kernel
theorem dX4_winter_9 : decode cX4_winter 9 = .ok (.ireturn, 1) := by decide +kernel
theorem dX4_winter_10 : decode cX4_winter 10 = .ok (.aload_n 0, 1) := by decide +kernel
theorem dX4_winter_11 : decode cX4_winter 11 = .ok (.invokevirtual 181, 3) := by decide +kernel
theorem dX4_winter_14 : decode cX4_winter 14 = .ok (.aload_n 0, 1) := by decide +kernel
theorem dX4_winter_15 : decode cX4_winter 15 = .ok (.dup, 1) := by decide +kernel
theorem dX4_winter_16 : decode cX4_winter 16 = .ok (.getfield 120, 3) := by decide +kernel
theorem dX4_winter_19 : decode cX4_winter 19 = .ok (.iconst 1, 1) := by decide +kernel
theorem dX4_winter_20 : decode cX4_winter 20 = .ok (.iadd, 1) := by decide +kernel
theorem dX4_winter_21 : decode cX4_winter 21 = .ok (.putfield 120, 3) := by decide +kernel
theorem dX4_winter_24 : decode cX4_winter 24 = .ok (.aload_n 0, 1) := by decide +kernel
theorem dX4_winter_25 : decode cX4_winter 25 = .ok (.invokevirtual 184, 3) := by decide +kernel
theorem dX4_winter_28 : decode cX4_winter 28 = .ok (.ireturn, 1) := by decide +kernel
theorem dX4_die_0 : decode cX4_die 0 = .ok (.aload_n 0, 1) := by decide +kernel
theorem dX4_die_1 : decode cX4_die 1 = .ok (.iload_n 1, 1) := by decide +kernel
theorem dX4_die_2 : decode cX4_die 2 = .ok (.invokevirtual 163, 3) := by decide +kernel
theorem dX4_die_5 : decode cX4_die 5 = .ok (.ifCond .ne 6, 3) := by decide +kernel
theorem dX4_die_8 : decode cX4_die 8 = .ok (.bipush (-101), 2) := by decide +kernel
theorem dX4_die_10 : decode cX4_die 10 = .ok (.ireturn, 1) := by decide +kernel
theorem dX4_die_11 : decode cX4_die 11 = .ok (.aload_n 0, 1) := by decide +kernel
theorem dX4_die_12 : decode cX4_die 12 = .ok (.getfield 16, 3) := by decide +kernel
theorem dX4_die_15 : decode cX4_die 15 = .ok (.iload_n 1, 1) := by decide +kernel
theorem dX4_die_16 : decode cX4_die 16 = .ok (.baload, 1) := by decide +kernel
theorem dX4_die_17 : decode cX4_die 17 = .ok (.ifCond .ne 6, 3) := by decide +kernel
theorem dX4_die_20 : decode cX4_die 20 = .ok (.bipush (-103), 2) := by decide +kernel
theorem dX4_die_22 : decode cX4_die 22 = .ok (.ireturn, 1) := by decide +kernel
theorem dX4_die_23 : decode cX4_die 23 = .ok (.aload_n 0, 1) := by decide +kernel
theorem dX4_die_24 : decode cX4_die 24 = .ok (.getfield 111, 3) := by decide +kernel
theorem dX4_die_27 : decode cX4_die 27 = .ok (.bipush 8, 2) := by decide +kernel
theorem dX4_die_29 : decode cX4_die 29 = .ok (.if_icmp .ne 6, 3) := by decide +kernel
theorem dX4_die_32 : decode cX4_die 32 = .ok (.bipush (-104), 2) := by decide +kernel
theorem dX4_die_34 : decode cX4_die 34 = .ok (.ireturn, 1) := by decide +kernel
theorem dX4_die_35 : decode cX4_die 35 = .ok (.aload_n 0, 1) := by decide +kernel
theorem dX4_die_36 : decode cX4_die 36 = .ok (.getfield 20, 3) := by decide +kernel
theorem dX4_die_39 : decode cX4_die 39 = .ok (.iload_n 1, 1) := by decide +kernel
theorem dX4_die_40 : decode cX4_die 40 = .ok (.iaload, 1) := by decide +kernel
theorem dX4_die_41 : decode cX4_die 41 = .ok (.istore_n 2, 1) := by decide +kernel
theorem dX4_die_42 : decode cX4_die 42 = .ok (.aload_n 0, 1) := by decide +kernel
theorem dX4_die_43 : decode cX4_die 43 = .ok (.getfield 26, 3) := by decide +kernel
theorem dX4_die_46 : decode cX4_die 46 = .ok (.aload_n 0, 1) := by decide +kernel
theorem dX4_die_47 : decode cX4_die 47 = .ok (.getfield 111, 3) := by decide +kernel
theorem dX4_die_50 : decode cX4_die 50 = .ok (.iload_n 2, 1) := by decide +kernel
theorem dX4_die_51 : decode cX4_die 51 = .ok (.bipush 9, 2) := by decide +kernel
theorem dX4_die_53 : decode cX4_die 53 = .ok (.if_icmp .le 8, 3) := by decide +kernel
theorem dX4_die_56 : decode cX4_die 56 = .ok (.bipush 9, 2) := by decide +kernel
theorem dX4_die_58 : decode cX4_die 58 = .ok (.goto 4, 3) := by decide +kernel
theorem dX4_die_61 : decode cX4_die 61 = .ok (.iload_n 2, 1) := by decide +kernel
theorem dX4_die_62 : decode cX4_die 62 = .ok (.iastore, 1) := by decide +kernel
theorem dX4_die_63 : decode cX4_die 63 = .ok (.aload_n 0, 1) := by decide +kernel
theorem dX4_die_64 : decode cX4_die 64 = .ok (.getfield 29, 3) := by decide +kernel
theorem dX4_die_67 : decode cX4_die 67 = .ok (.aload_n 0, 1) := by decide +kernel
theorem dX4_die_68 : decode cX4_die 68 = .ok (.getfield 111, 3) := by decide +kernel
theorem dX4_die_71 : decode cX4_die 71 = .ok (.iload_n 2, 1) := by decide +kernel
theorem dX4_die_72 : decode cX4_die 72 = .ok (.bipush 9, 2) := by decide +kernel
theorem dX4_die_74 : decode cX4_die 74 = .ok (.if_icmp .le 10, 3) := by decide +kernel
theorem dX4_die_77 : decode cX4_die 77 = .ok (.iload_n 2, 1) := by decide +kernel
theorem dX4_die_78 : decode cX4_die 78 = .ok (.bipush 9, 2) := by decide +kernel
theorem dX4_die_80 : decode cX4_die 80 = .ok (.isub, 1) := by decide +kernel
theorem dX4_die_81 : decode cX4_die 81 = .ok (.goto 4, 3) := by decide +kernel
theorem dX4_die_84 : decode cX4_die 84 = .ok (.iconst 0, 1) := by decide +kernel
theorem dX4_die_85 : decode cX4_die 85 = .ok (.iastore, 1) := by decide +kernel
theorem dX4_die_86 : decode cX4_die 86 = .ok (.aload_n 0, 1) := by decide +kernel
theorem dX4_die_87 : decode cX4_die 87 = .ok (.getfield 16, 3) := by decide +kernel
theorem dX4_die_90 : decode cX4_die 90 = .ok (.iload_n 1, 1) := by decide +kernel
theorem dX4_die_91 : decode cX4_die 91 = .ok (.iconst 0, 1) := by decide +kernel
theorem dX4_die_92 : decode cX4_die 92 = .ok (.bastore, 1) := by decide +kernel
theorem dX4_die_93 : decode cX4_die 93 = .ok (.aload_n 0, 1) := by decide +kernel
theorem dX4_die_94 : decode cX4_die 94 = .ok (.getfield 20, 3) := by decide +kernel
theorem dX4_die_97 : decode cX4_die 97 = .ok (.iload_n 1, 1) := by decide +kernel
theorem dX4_die_98 : decode cX4_die 98 = .ok (.iconst 0, 1) := by decide +kernel
theorem dX4_die_99 : decode cX4_die 99 = .ok (.iastore, 1) := by decide +kernel
theorem dX4_die_100 : decode cX4_die 100 = .ok (.aload_n 0, 1) := by decide +kernel
theorem dX4_die_101 : decode cX4_die 101 = .ok (.dup, 1) := by decide +kernel
theorem dX4_die_102 : decode cX4_die 102 = .ok (.getfield 111, 3) := by decide +kernel
theorem dX4_die_105 : decode cX4_die 105 = .ok (.iconst 1, 1) := by decide +kernel
theorem dX4_die_106 : decode cX4_die 106 = .ok (.iadd, 1) := by decide +kernel
theorem dX4_die_107 : decode cX4_die 107 = .ok (.putfield 111, 3) := by decide +kernel
theorem dX4_die_110 : decode cX4_die 110 = .ok (.aload_n 0, 1) := by decide +kernel
theorem dX4_die_111 : decode cX4_die 111 = .ok (.getfield 111, 3) := by decide +kernel
theorem dX4_die_114 : decode cX4_die 114 = .ok (.iconst 1, 1) := by decide +kernel
theorem dX4_die_115 : decode cX4_die 115 = .ok (.isub, 1) := by decide +kernel
theorem dX4_die_116 : decode cX4_die 116 = .ok (.ireturn, 1) := by decide +kernel
theorem dX4_leftMany_0 : decode cX4_leftMany 0 = .ok (.iconst 0, 1) := by decide +kernel
theorem dX4_leftMany_1 : decode cX4_leftMany 1 = .ok (.istore_n 1, 1) := by decide +kernel
theorem dX4_leftMany_2 : decode cX4_leftMany 2 = .ok (.iconst 0, 1) := by decide +kernel
theorem dX4_leftMany_3 : decode cX4_leftMany 3 = .ok (.istore_n 2, 1) := by decide +kernel
theorem dX4_leftMany_4 : decode cX4_leftMany 4 = .ok (.iload_n 2, 1) := by decide +kernel
theorem dX4_leftMany_5 : decode cX4_leftMany 5 = .ok (.aload_n 0, 1) := by decide +kernel
theorem dX4_leftMany_6 : decode cX4_leftMany 6 = .ok (.getfield 111, 3) := by decide +kernel
theorem dX4_leftMany_9 : decode cX4_leftMany 9 = .ok (.if_icmp .ge 28, 3) := by decide +kernel
theorem dX4_leftMany_12 : decode cX4_leftMany 12 = .ok (.iload_n 1, 1) := by decide +kernel
theorem dX4_leftMany_13 : decode cX4_leftMany 13 = .ok (.aload_n 0, 1) := by decide +kernel
theorem dX4_leftMany_14 : decode cX4_leftMany 14 = .ok (.getfield 117, 3) := by decide +kernel
theorem dX4_leftMany_17 : decode cX4_leftMany 17 = .ok (.iload_n 2, 1) := by decide +kernel
theorem dX4_leftMany_18 : decode cX4_leftMany 18 = .ok (.invokestatic 126, 3) := by decide +kernel
theorem dX4_leftMany_21 : decode cX4_leftMany 21 = .ok (.ifCond .eq 7, 3) := by decide +kernel
theorem dX4_leftMany_24 : decode cX4_leftMany 24 = .ok (.iconst 0, 1) := by decide +kernel
theorem dX4_leftMany_25 : decode cX4_leftMany 25 = .ok (.goto 4, 3) := by decide +kernel
theorem dX4_leftMany_28 : decode cX4_leftMany 28 = .ok (.iconst 1, 1) := by decide +kernel
theorem dX4_leftMany_29 : decode cX4_leftMany 29 = .ok (.iadd, 1) := by decide +kernel
theorem dX4_leftMany_30 : decode cX4_leftMany 30 = .ok (.istore_n 1, 1) := by decide +kernel
theorem dX4_leftMany_31 : decode cX4_leftMany 31 = .ok (.iinc 2 1, 3) := by decide +kernel
theorem dX4_leftMany_34 : decode cX4_leftMany 34 = .ok (.goto (-30), 3) := by decide +kernel
theorem dX4_leftMany_37 : decode cX4_leftMany 37 = .ok (.iload_n 1, 1) := by decide +kernel
theorem dX4_leftMany_38 : decode cX4_leftMany 38 = .ok (.ireturn, 1) := by decide +kernel
theorem dX4_most_0 : decode cX4_most 0 = .ok (.iconst 0, 1) := by decide +kernel
theorem dX4_most_1 : decode cX4_most 1 = .ok (.istore_n 1, 1) := by decide +kernel
theorem dX4_most_2 : decode cX4_most 2 = .ok (.iconst 0, 1) := by decide +kernel
theorem dX4_most_3 : decode cX4_most 3 = .ok (.istore_n 2, 1) := by decide +kernel
theorem dX4_most_4 : decode cX4_most 4 = .ok (.iload_n 2, 1) := by decide +kernel
theorem dX4_most_5 : decode cX4_most 5 = .ok (.aload_n 0, 1) := by decide +kernel
theorem dX4_most_6 : decode cX4_most 6 = .ok (.getfield 108, 3) := by decide +kernel
theorem dX4_most_9 : decode cX4_most 9 = .ok (.if_icmp .ge 30, 3) := by decide +kernel
theorem dX4_most_12 : decode cX4_most 12 = .ok (.aload_n 0, 1) := by decide +kernel
theorem dX4_most_13 : decode cX4_most 13 = .ok (.getfield 20, 3) := by decide +kernel
theorem dX4_most_16 : decode cX4_most 16 = .ok (.iload_n 2, 1) := by decide +kernel
theorem dX4_most_17 : decode cX4_most 17 = .ok (.iaload, 1) := by decide +kernel
theorem dX4_most_18 : decode cX4_most 18 = .ok (.iload_n 1, 1) := by decide +kernel
theorem dX4_most_19 : decode cX4_most 19 = .ok (.if_icmp .le 12, 3) := by decide +kernel
theorem dX4_most_22 : decode cX4_most 22 = .ok (.aload_n 0, 1) := by decide +kernel
theorem dX4_most_23 : decode cX4_most 23 = .ok (.getfield 20, 3) := by decide +kernel
theorem dX4_most_26 : decode cX4_most 26 = .ok (.iload_n 2, 1) := by decide +kernel
theorem dX4_most_27 : decode cX4_most 27 = .ok (.iaload, 1) := by decide +kernel
theorem dX4_most_28 : decode cX4_most 28 = .ok (.goto 4, 3) := by decide +kernel
theorem dX4_most_31 : decode cX4_most 31 = .ok (.iload_n 1, 1) := by decide +kernel
theorem dX4_most_32 : decode cX4_most 32 = .ok (.istore_n 1, 1) := by decide +kernel
theorem dX4_most_33 : decode cX4_most 33 = .ok (.iinc 2 1, 3) := by decide +kernel
theorem dX4_most_36 : decode cX4_most 36 = .ok (.goto (-32), 3) := by decide +kernel
theorem dX4_most_39 : decode cX4_most 39 = .ok (.iload_n 1, 1) := by decide +kernel
theorem dX4_most_40 : decode cX4_most 40 = .ok (.ireturn, 1) := by decide +kernel
theorem dX4_mostBy_0 : decode cX4_mostBy 0 = .ok (.aload_n 0, 1) := by decide +kernel
theorem dX4_mostBy_1 : decode cX4_mostBy 1 = .ok (.getfield 117, 3) := by decide +kernel
theorem dX4_mostBy_4 : decode cX4_mostBy 4 = .ok (.istore_n 3, 1) := by decide +kernel
theorem dX4_mostBy_5 : decode cX4_mostBy 5 = .ok (.iload_n 2, 1) := by decide +kernel
theorem dX4_mostBy_6 : decode cX4_mostBy 6 = .ok (.istore 4, 2) := by decide +kernel
theorem dX4_mostBy_8 : decode cX4_mostBy 8 = .ok (.iconst 1, 1) := by decide +kernel
theorem dX4_mostBy_9 : decode cX4_mostBy 9 = .ok (.istore 5, 2) := by decide +kernel
theorem dX4_mostBy_11 : decode cX4_mostBy 11 = .ok (.iconst 0, 1) := by decide +kernel
theorem dX4_mostBy_12 : decode cX4_mostBy 12 = .ok (.istore 6, 2) := by decide +kernel
theorem dX4_mostBy_14 : decode cX4_mostBy 14 = .ok (.iload 6, 2) := by decide +kernel
theorem dX4_mostBy_16 : decode cX4_mostBy 16 = .ok (.aload_n 0, 1) := by decide +kernel
theorem dX4_mostBy_17 : decode cX4_mostBy 17 = .ok (.getfield 111, 3) := by decide +kernel
theorem dX4_mostBy_20 : decode cX4_mostBy 20 = .ok (.if_icmp .ge 76, 3) := by decide +kernel
theorem dX4_mostBy_23 : decode cX4_mostBy 23 = .ok (.iload 5, 2) := by decide +kernel
theorem dX4_mostBy_25 : decode cX4_mostBy 25 = .ok (.ifCond .eq 71, 3) := by decide +kernel
theorem dX4_mostBy_28 : decode cX4_mostBy 28 = .ok (.iload_n 3, 1) := by decide +kernel
theorem dX4_mostBy_29 : decode cX4_mostBy 29 = .ok (.iload 6, 2) := by decide +kernel
theorem dX4_mostBy_31 : decode cX4_mostBy 31 = .ok (.invokestatic 126, 3) := by decide +kernel
theorem dX4_mostBy_34 : decode cX4_mostBy 34 = .ok (.ifCond .ne 56, 3) := by decide +kernel
theorem dX4_mostBy_37 : decode cX4_mostBy 37 = .ok (.iinc 4 (-1), 3) := by decide +kernel
theorem dX4_mostBy_40 : decode cX4_mostBy 40 = .ok (.iload_n 1, 1) := by decide +kernel
theorem dX4_mostBy_41 : decode cX4_mostBy 41 = .ok (.iconst 2, 1) := by decide +kernel
theorem dX4_mostBy_42 : decode cX4_mostBy 42 = .ok (.iload 4, 2) := by decide +kernel
theorem dX4_mostBy_44 : decode cX4_mostBy 44 = .ok (.imul, 1) := by decide +kernel
theorem dX4_mostBy_45 : decode cX4_mostBy 45 = .ok (.ishr, 1) := by decide +kernel
theorem dX4_mostBy_46 : decode cX4_mostBy 46 = .ok (.iconst 3, 1) := by decide +kernel
theorem dX4_mostBy_47 : decode cX4_mostBy 47 = .ok (.iand, 1) := by decide +kernel
theorem dX4_mostBy_48 : decode cX4_mostBy 48 = .ok (.istore 7, 2) := by decide +kernel
theorem dX4_mostBy_50 : decode cX4_mostBy 50 = .ok (.aload_n 0, 1) := by decide +kernel
theorem dX4_mostBy_51 : decode cX4_mostBy 51 = .ok (.iload 7, 2) := by decide +kernel
theorem dX4_mostBy_53 : decode cX4_mostBy 53 = .ok (.invokevirtual 163, 3) := by decide +kernel
theorem dX4_mostBy_56 : decode cX4_mostBy 56 = .ok (.ifCond .eq 18, 3) := by decide +kernel
theorem dX4_mostBy_59 : decode cX4_mostBy 59 = .ok (.aload_n 0, 1) := by decide +kernel
theorem dX4_mostBy_60 : decode cX4_mostBy 60 = .ok (.iload 7, 2) := by decide +kernel
theorem dX4_mostBy_62 : decode cX4_mostBy 62 = .ok (.iload 6, 2) := by decide +kernel
theorem dX4_mostBy_64 : decode cX4_mostBy 64 = .ok (.invokevirtual 140, 3) := by decide +kernel
theorem dX4_mostBy_67 : decode cX4_mostBy 67 = .ok (.ifCond .eq 7, 3) := by decide +kernel
theorem dX4_mostBy_70 : decode cX4_mostBy 70 = .ok (.iconst 1, 1) := by decide +kernel
theorem dX4_mostBy_71 : decode cX4_mostBy 71 = .ok (.goto 4, 3) := by decide +kernel
theorem dX4_mostBy_74 : decode cX4_mostBy 74 = .ok (.iconst 0, 1) := by decide +kernel
theorem dX4_mostBy_75 : decode cX4_mostBy 75 = .ok (.istore 5, 2) := by decide +kernel
theorem dX4_mostBy_77 : decode cX4_mostBy 77 = .ok (.iload 5, 2) := by decide +kernel
theorem dX4_mostBy_79 : decode cX4_mostBy 79 = .ok (.ifCond .eq 11, 3) := by decide +kernel
theorem dX4_mostBy_82 : decode cX4_mostBy 82 = .ok (.aload_n 0, 1) := by decide +kernel
theorem dX4_mostBy_83 : decode cX4_mostBy 83 = .ok (.iload 7, 2) := by decide +kernel
theorem dX4_mostBy_85 : decode cX4_mostBy 85 = .ok (.iload 6, 2) := by decide +kernel
theorem dX4_mostBy_87 : decode cX4_mostBy 87 = .ok (.invokevirtual 143, 3) := by decide +kernel
theorem dX4_mostBy_90 : decode cX4_mostBy 90 = .ok (.iinc 6 1, 3) := by decide +kernel
theorem dX4_mostBy_93 : decode cX4_mostBy 93 = .ok (.goto (-79), 3) := by decide +kernel
theorem dX4_mostBy_96 : decode cX4_mostBy 96 = .ok (.aload_n 0, 1) := by decide +kernel
theorem dX4_mostBy_97 : decode cX4_mostBy 97 = .ok (.invokevirtual 187, 3) := by decide +kernel
theorem dX4_mostBy_100 : decode cX4_mostBy 100 = .ok (.istore 6, 2) := by decide +kernel
theorem dX4_mostBy_102 : decode cX4_mostBy 102 = .ok (.aload_n 0, 1) := by decide +kernel
theorem dX4_mostBy_103 : decode cX4_mostBy 103 = .ok (.invokevirtual 146, 3) := by decide +kernel
theorem dX4_mostBy_106 : decode cX4_mostBy 106 = .ok (.iload 5, 2) := by decide +kernel
theorem dX4_mostBy_108 : decode cX4_mostBy 108 = .ok (.ifCond .eq 8, 3) := by decide +kernel
theorem dX4_mostBy_111 : decode cX4_mostBy 111 = .ok (.iload 6, 2) := by decide +kernel
theorem dX4_mostBy_113 : decode cX4_mostBy 113 = .ok (.goto 5, 3) := by decide +kernel
theorem dX4_mostBy_116 : decode cX4_mostBy 116 = .ok (.ldc 190, 2) := by decide +kernel
theorem dX4_mostBy_118 : decode cX4_mostBy 118 = .ok (.ireturn, 1) := by decide +kernel
theorem dX4_spreadNow_0 : decode cX4_spreadNow 0 = .ok (.aload_n 0, 1) := by decide +kernel
theorem dX4_spreadNow_1 : decode cX4_spreadNow 1 = .ok (.invokevirtual 149, 3) := by decide +kernel
theorem dX4_spreadNow_4 : decode cX4_spreadNow 4 = .ok (.aload_n 0, 1) := by decide +kernel
theorem dX4_spreadNow_5 : decode cX4_spreadNow 5 = .ok (.invokevirtual 191, 3) := by decide +kernel
theorem dX4_spreadNow_8 : decode cX4_spreadNow 8 = .ok (.istore_n 2, 1) := by decide +kernel
theorem dX4_spreadNow_9 : decode cX4_spreadNow 9 = .ok (.iconst (-1), 1) := by decide +kernel
theorem dX4_spreadNow_10 : decode cX4_spreadNow 10 = .ok (.istore_n 3, 1) := by decide +kernel
theorem dX4_spreadNow_11 : decode cX4_spreadNow 11 = .ok (.ldc 190, 2) := by decide +kernel
theorem dX4_spreadNow_13 : decode cX4_spreadNow 13 = .ok (.istore 4, 2) := by decide +kernel
theorem dX4_spreadNow_15 : decode cX4_spreadNow 15 = .ok (.iconst 0, 1) := by decide +kernel
theorem dX4_spreadNow_16 : decode cX4_spreadNow 16 = .ok (.istore 5, 2) := by decide +kernel
theorem dX4_spreadNow_18 : decode cX4_spreadNow 18 = .ok (.iload 5, 2) := by decide +kernel
theorem dX4_spreadNow_20 : decode cX4_spreadNow 20 = .ok (.iconst 1, 1) := by decide +kernel
theorem dX4_spreadNow_21 : decode cX4_spreadNow 21 = .ok (.iconst 2, 1) := by decide +kernel
theorem dX4_spreadNow_22 : decode cX4_spreadNow 22 = .ok (.iload_n 2, 1) := by decide +kernel
theorem dX4_spreadNow_23 : decode cX4_spreadNow 23 = .ok (.imul, 1) := by decide +kernel
theorem dX4_spreadNow_24 : decode cX4_spreadNow 24 = .ok (.ishl, 1) := by decide +kernel
theorem dX4_spreadNow_25 : decode cX4_spreadNow 25 = .ok (.if_icmp .ge 48, 3) := by decide +kernel
theorem dX4_spreadNow_28 : decode cX4_spreadNow 28 = .ok (.aload_n 0, 1) := by decide +kernel
theorem dX4_spreadNow_29 : decode cX4_spreadNow 29 = .ok (.iload 5, 2) := by decide +kernel
theorem dX4_spreadNow_31 : decode cX4_spreadNow 31 = .ok (.iload_n 2, 1) := by decide +kernel
theorem dX4_spreadNow_32 : decode cX4_spreadNow 32 = .ok (.invokevirtual 194, 3) := by decide +kernel
theorem dX4_spreadNow_35 : decode cX4_spreadNow 35 = .ok (.istore 6, 2) := by decide +kernel
theorem dX4_spreadNow_37 : decode cX4_spreadNow 37 = .ok (.iload 6, 2) := by decide +kernel
theorem dX4_spreadNow_39 : decode cX4_spreadNow 39 = .ok (.iload 4, 2) := by decide +kernel
theorem dX4_spreadNow_41 : decode cX4_spreadNow 41 = .ok (.if_icmp .ge 8, 3) := by decide +kernel
theorem dX4_spreadNow_44 : decode cX4_spreadNow 44 = .ok (.iload 5, 2) := by decide +kernel
theorem dX4_spreadNow_46 : decode cX4_spreadNow 46 = .ok (.goto 4, 3) := by decide +kernel
theorem dX4_spreadNow_49 : decode cX4_spreadNow 49 = .ok (.iload_n 3, 1) := by decide +kernel
theorem dX4_spreadNow_50 : decode cX4_spreadNow 50 = .ok (.istore_n 3, 1) := by decide +kernel
theorem dX4_spreadNow_51 : decode cX4_spreadNow 51 = .ok (.iload 6, 2) := by decide +kernel
theorem dX4_spreadNow_53 : decode cX4_spreadNow 53 = .ok (.iload 4, 2) := by decide +kernel
theorem dX4_spreadNow_55 : decode cX4_spreadNow 55 = .ok (.if_icmp .ge 8, 3) := by decide +kernel
theorem dX4_spreadNow_58 : decode cX4_spreadNow 58 = .ok (.iload 6, 2) := by decide +kernel
theorem dX4_spreadNow_60 : decode cX4_spreadNow 60 = .ok (.goto 5, 3) := by decide +kernel
theorem dX4_spreadNow_63 : decode cX4_spreadNow 63 = .ok (.iload 4, 2) := by decide +kernel
theorem dX4_spreadNow_65 : decode cX4_spreadNow 65 = .ok (.istore 4, 2) := by decide +kernel
theorem dX4_spreadNow_67 : decode cX4_spreadNow 67 = .ok (.iinc 5 1, 3) := by decide +kernel
theorem dX4_spreadNow_70 : decode cX4_spreadNow 70 = .ok (.goto (-52), 3) := by decide +kernel
theorem dX4_spreadNow_73 : decode cX4_spreadNow 73 = .ok (.iload_n 3, 1) := by decide +kernel
theorem dX4_spreadNow_74 : decode cX4_spreadNow 74 = .ok (.iconst (-1), 1) := by decide +kernel
theorem dX4_spreadNow_75 : decode cX4_spreadNow 75 = .ok (.if_icmp .eq 7, 3) := by decide +kernel
theorem dX4_spreadNow_78 : decode cX4_spreadNow 78 = .ok (.iload_n 1, 1) := by decide +kernel
theorem dX4_spreadNow_79 : decode cX4_spreadNow 79 = .ok (.ifCond .ne 15, 3) := by decide +kernel
theorem dX4_spreadNow_82 : decode cX4_spreadNow 82 = .ok (.iload_n 3, 1) := by decide +kernel
theorem dX4_spreadNow_83 : decode cX4_spreadNow 83 = .ok (.iconst (-1), 1) := by decide +kernel
theorem dX4_spreadNow_84 : decode cX4_spreadNow 84 = .ok (.if_icmp .ne 7, 3) := by decide +kernel
theorem dX4_spreadNow_87 : decode cX4_spreadNow 87 = .ok (.iconst (-1), 1) := by decide +kernel
theorem dX4_spreadNow_88 : decode cX4_spreadNow 88 = .ok (.goto 5, 3) := by decide +kernel
theorem dX4_spreadNow_91 : decode cX4_spreadNow 91 = .ok (.iload 4, 2) := by decide +kernel
theorem dX4_spreadNow_93 : decode cX4_spreadNow 93 = .ok (.ireturn, 1) := by decide +kernel
theorem dX4_spreadNow_94 : decode cX4_spreadNow 94 = .ok (.iload_n 1, 1) := by decide +kernel
theorem dX4_spreadNow_95 : decode cX4_spreadNow 95 = .ok (.bipush 10, 2) := by decide +kernel
theorem dX4_spreadNow_97 : decode cX4_spreadNow 97 = .ok (.isub, 1) := by decide +kernel
theorem dX4_spreadNow_98 : decode cX4_spreadNow 98 = .ok (.istore 5, 2) := by decide +kernel
theorem dX4_spreadNow_100 : decode cX4_spreadNow 100 = .ok (.iload 5, 2) := by decide +kernel
theorem dX4_spreadNow_102 : decode cX4_spreadNow 102 = .ok (.aload_n 0, 1) := by decide +kernel
theorem dX4_spreadNow_103 : decode cX4_spreadNow 103 = .ok (.getfield 111, 3) := by decide +kernel
theorem dX4_spreadNow_106 : decode cX4_spreadNow 106 = .ok (.if_icmp .ge 15, 3) := by decide +kernel
theorem dX4_spreadNow_109 : decode cX4_spreadNow 109 = .ok (.aload_n 0, 1) := by decide +kernel
theorem dX4_spreadNow_110 : decode cX4_spreadNow 110 = .ok (.getfield 117, 3) := by decide +kernel
theorem dX4_spreadNow_113 : decode cX4_spreadNow 113 = .ok (.iload 5, 2) := by decide +kernel
theorem dX4_spreadNow_115 : decode cX4_spreadNow 115 = .ok (.invokestatic 126, 3) := by decide +kernel
theorem dX4_spreadNow_118 : decode cX4_spreadNow 118 = .ok (.ifCond .eq 5, 3) := by decide +kernel
theorem dX4_spreadNow_121 : decode cX4_spreadNow 121 = .ok (.iconst (-1), 1) := by decide +kernel
theorem dX4_spreadNow_122 : decode cX4_spreadNow 122 = .ok (.ireturn, 1) := by decide +kernel
theorem dX4_spreadNow_123 : decode cX4_spreadNow 123 = .ok (.iconst 0, 1) := by decide +kernel
theorem dX4_spreadNow_124 : decode cX4_spreadNow 124 = .ok (.istore 6, 2) := by decide +kernel
theorem dX4_spreadNow_126 : decode cX4_spreadNow 126 = .ok (.iload 5, 2) := by decide +kernel
theorem dX4_spreadNow_128 : decode cX4_spreadNow 128 = .ok (.iconst 1, 1) := by decide +kernel
theorem dX4_spreadNow_129 : decode cX4_spreadNow 129 = .ok (.iadd, 1) := by decide +kernel
theorem dX4_spreadNow_130 : decode cX4_spreadNow 130 = .ok (.istore 7, 2) := by decide +kernel
theorem dX4_spreadNow_132 : decode cX4_spreadNow 132 = .ok (.iload 7, 2) := by decide +kernel
theorem dX4_spreadNow_134 : decode cX4_spreadNow 134 = .ok (.aload_n 0, 1) := by decide +kernel
theorem dX4_spreadNow_135 : decode cX4_spreadNow 135 = .ok (.getfield 111, 3) := by decide +kernel
theorem dX4_spreadNow_138 : decode cX4_spreadNow 138 = .ok (.if_icmp .ge 31, 3) := by decide +kernel
theorem dX4_spreadNow_141 : decode cX4_spreadNow 141 = .ok (.iload 6, 2) := by decide +kernel
theorem dX4_spreadNow_143 : decode cX4_spreadNow 143 = .ok (.aload_n 0, 1) := by decide +kernel
theorem dX4_spreadNow_144 : decode cX4_spreadNow 144 = .ok (.getfield 117, 3) := by decide +kernel
theorem dX4_spreadNow_147 : decode cX4_spreadNow 147 = .ok (.iload 7, 2) := by decide +kernel
theorem dX4_spreadNow_149 : decode cX4_spreadNow 149 = .ok (.invokestatic 126, 3) := by decide +kernel
theorem dX4_spreadNow_152 : decode cX4_spreadNow 152 = .ok (.ifCond .eq 7, 3) := by decide +kernel
theorem dX4_spreadNow_155 : decode cX4_spreadNow 155 = .ok (.iconst 0, 1) := by decide +kernel
theorem dX4_spreadNow_156 : decode cX4_spreadNow 156 = .ok (.goto 4, 3) := by decide +kernel
theorem dX4_spreadNow_159 : decode cX4_spreadNow 159 = .ok (.iconst 1, 1) := by decide +kernel
theorem dX4_spreadNow_160 : decode cX4_spreadNow 160 = .ok (.iadd, 1) := by decide +kernel
theorem dX4_spreadNow_161 : decode cX4_spreadNow 161 = .ok (.istore 6, 2) := by decide +kernel
theorem dX4_spreadNow_163 : decode cX4_spreadNow 163 = .ok (.iinc 7 1, 3) := by decide +kernel
theorem dX4_spreadNow_166 : decode cX4_spreadNow 166 = .ok (.goto (-34), 3) := by decide +kernel
theorem dX4_spreadNow_169 : decode cX4_spreadNow 169 = .ok (.iload_n 3, 1) := by decide +kernel
theorem dX4_spreadNow_170 : decode cX4_spreadNow 170 = .ok (.iconst 2, 1) := by decide +kernel
theorem dX4_spreadNow_171 : decode cX4_spreadNow 171 = .ok (.iload 6, 2) := by decide +kernel
theorem dX4_spreadNow_173 : decode cX4_spreadNow 173 = .ok (.imul, 1) := by decide +kernel
theorem dX4_spreadNow_174 : decode cX4_spreadNow 174 = .ok (.ishr, 1) := by decide +kernel
theorem dX4_spreadNow_175 : decode cX4_spreadNow 175 = .ok (.iconst 3, 1) := by decide +kernel
theorem dX4_spreadNow_176 : decode cX4_spreadNow 176 = .ok (.iand, 1) := by decide +kernel
theorem dX4_spreadNow_177 : decode cX4_spreadNow 177 = .ok (.ireturn, 1) := by decide +kernel
theorem dX4_spread_0 : decode cX4_spread 0 = .ok (.iload_n 1, 1) := by decide +kernel
theorem dX4_spread_1 : decode cX4_spread 1 = .ok (.ifCond .eq 17, 3) := by decide +kernel
theorem dX4_spread_4 : decode cX4_spread 4 = .ok (.iload_n 1, 1) := by decide +kernel
theorem dX4_spread_5 : decode cX4_spread 5 = .ok (.bipush 10, 2) := by decide +kernel
theorem dX4_spread_7 : decode cX4_spread 7 = .ok (.bipush 17, 2) := by decide +kernel
theorem dX4_spread_9 : decode cX4_spread 9 = .ok (.invokestatic 75, 3) := by decide +kernel
theorem dX4_spread_12 : decode cX4_spread 12 = .ok (.ifCond .ne 6, 3) := by decide +kernel
theorem dX4_spread_15 : decode cX4_spread 15 = .ok (.bipush (-102), 2) := by decide +kernel
theorem dX4_spread_17 : decode cX4_spread 17 = .ok (.ireturn, 1) := by decide +kernel
theorem dX4_spread_18 : decode cX4_spread 18 = .ok (.aload_n 0, 1) := by decide +kernel
theorem dX4_spread_19 : decode cX4_spread 19 = .ok (.getfield 108, 3) := by decide +kernel
theorem dX4_spread_22 : decode cX4_spread 22 = .ok (.ifCond .eq 12, 3) := by decide +kernel
theorem dX4_spread_25 : decode cX4_spread 25 = .ok (.aload_n 0, 1) := by decide +kernel
theorem dX4_spread_26 : decode cX4_spread 26 = .ok (.getfield 197, 3) := by decide +kernel
theorem dX4_spread_29 : decode cX4_spread 29 = .ok (.bipush 12, 2) := by decide +kernel
theorem dX4_spread_31 : decode cX4_spread 31 = .ok (.if_icmp .ne 6, 3) := by decide +kernel
theorem dX4_spread_34 : decode cX4_spread 34 = .ok (.bipush (-103), 2) := by decide +kernel
theorem dX4_spread_36 : decode cX4_spread 36 = .ok (.ireturn, 1) := by decide +kernel
theorem dX4_spread_37 : decode cX4_spread 37 = .ok (.aload_n 0, 1) := by decide +kernel
theorem dX4_spread_38 : decode cX4_spread 38 = .ok (.dup, 1) := by decide +kernel
theorem dX4_spread_39 : decode cX4_spread 39 = .ok (.getfield 197, 3) := by decide +kernel
theorem dX4_spread_42 : decode cX4_spread 42 = .ok (.iconst 1, 1) := by decide +kernel
theorem dX4_spread_43 : decode cX4_spread 43 = .ok (.iadd, 1) := by decide +kernel
theorem dX4_spread_44 : decode cX4_spread 44 = .ok (.putfield 197, 3) := by decide +kernel
theorem dX4_spread_47 : decode cX4_spread 47 = .ok (.aload_n 0, 1) := by decide +kernel
theorem dX4_spread_48 : decode cX4_spread 48 = .ok (.iload_n 1, 1) := by decide +kernel
theorem dX4_spread_49 : decode cX4_spread 49 = .ok (.invokevirtual 200, 3) := by decide +kernel
theorem dX4_spread_52 : decode cX4_spread 52 = .ok (.ireturn, 1) := by decide +kernel
theorem dX4_say_0 : decode cX4_say 0 = .ok (.aload_n 0, 1) := by decide +kernel
theorem dX4_say_1 : decode cX4_say 1 = .ok (.getfield 108, 3) := by decide +kernel
theorem dX4_say_4 : decode cX4_say 4 = .ok (.ifCond .ne 7, 3) := by decide +kernel
theorem dX4_say_7 : decode cX4_say 7 = .ok (.iconst 0, 1) := by decide +kernel
theorem dX4_say_8 : decode cX4_say 8 = .ok (.goto 11, 3) := by decide +kernel
theorem dX4_say_11 : decode cX4_say 11 = .ok (.iconst 1, 1) := by decide +kernel
theorem dX4_say_12 : decode cX4_say 12 = .ok (.aload_n 0, 1) := by decide +kernel
theorem dX4_say_13 : decode cX4_say 13 = .ok (.getfield 111, 3) := by decide +kernel
theorem dX4_say_16 : decode cX4_say 16 = .ok (.ishl, 1) := by decide +kernel
theorem dX4_say_17 : decode cX4_say 17 = .ok (.iconst 1, 1) := by decide +kernel
theorem dX4_say_18 : decode cX4_say 18 = .ok (.isub, 1) := by decide +kernel
theorem dX4_say_19 : decode cX4_say 19 = .ok (.istore 4, 2) := by decide +kernel
theorem dX4_say_21 : decode cX4_say 21 = .ok (.iload_n 1, 1) := by decide +kernel
theorem dX4_say_22 : decode cX4_say 22 = .ok (.iconst 0, 1) := by decide +kernel
theorem dX4_say_23 : decode cX4_say 23 = .ok (.iload 4, 2) := by decide +kernel
theorem dX4_say_25 : decode cX4_say 25 = .ok (.invokestatic 75, 3) := by decide +kernel
theorem dX4_say_28 : decode cX4_say 28 = .ok (.ifCond .eq 13, 3) := by decide +kernel
theorem dX4_say_31 : decode cX4_say 31 = .ok (.iload_n 2, 1) := by decide +kernel
theorem dX4_say_32 : decode cX4_say 32 = .ok (.iconst 0, 1) := by decide +kernel
theorem dX4_say_33 : decode cX4_say 33 = .ok (.bipush 99, 2) := by decide +kernel
theorem dX4_say_35 : decode cX4_say 35 = .ok (.invokestatic 75, 3) := by decide +kernel
theorem dX4_say_38 : decode cX4_say 38 = .ok (.ifCond .ne 6, 3) := by decide +kernel
theorem dX4_say_41 : decode cX4_say 41 = .ok (.bipush (-102), 2) := by decide +kernel
theorem dX4_say_43 : decode cX4_say 43 = .ok (.ireturn, 1) := by decide +kernel
theorem dX4_say_44 : decode cX4_say 44 = .ok (.aload_n 0, 1) := by decide +kernel
theorem dX4_say_45 : decode cX4_say 45 = .ok (.getfield 108, 3) := by decide +kernel
theorem dX4_say_48 : decode cX4_say 48 = .ok (.ifCond .ne 6, 3) := by decide +kernel
theorem dX4_say_51 : decode cX4_say 51 = .ok (.bipush (-103), 2) := by decide +kernel
theorem dX4_say_53 : decode cX4_say 53 = .ok (.ireturn, 1) := by decide +kernel
theorem dX4_say_54 : decode cX4_say 54 = .ok (.aload_n 0, 1) := by decide +kernel
theorem dX4_say_55 : decode cX4_say 55 = .ok (.getfield 123, 3) := by decide +kernel
theorem dX4_say_58 : decode cX4_say 58 = .ok (.bipush 6, 2) := by decide +kernel
theorem dX4_say_60 : decode cX4_say 60 = .ok (.if_icmp .ne 6, 3) := by decide +kernel
theorem dX4_say_63 : decode cX4_say 63 = .ok (.bipush (-104), 2) := by decide +kernel
theorem dX4_say_65 : decode cX4_say 65 = .ok (.ireturn, 1) := by decide +kernel
theorem dX4_say_66 : decode cX4_say 66 = .ok (.aload_n 0, 1) := by decide +kernel
theorem dX4_say_67 : decode cX4_say 67 = .ok (.getfield 32, 3) := by decide +kernel
theorem dX4_say_70 : decode cX4_say 70 = .ok (.aload_n 0, 1) := by decide +kernel
theorem dX4_say_71 : decode cX4_say 71 = .ok (.getfield 123, 3) := by decide +kernel
theorem dX4_say_74 : decode cX4_say 74 = .ok (.iload_n 1, 1) := by decide +kernel
theorem dX4_say_75 : decode cX4_say 75 = .ok (.iastore, 1) := by decide +kernel
theorem dX4_say_76 : decode cX4_say 76 = .ok (.aload_n 0, 1) := by decide +kernel
theorem dX4_say_77 : decode cX4_say 77 = .ok (.getfield 35, 3) := by decide +kernel
theorem dX4_say_80 : decode cX4_say 80 = .ok (.aload_n 0, 1) := by decide +kernel
theorem dX4_say_81 : decode cX4_say 81 = .ok (.getfield 123, 3) := by decide +kernel
theorem dX4_say_84 : decode cX4_say 84 = .ok (.iload_n 2, 1) := by decide +kernel
theorem dX4_say_85 : decode cX4_say 85 = .ok (.iastore, 1) := by decide +kernel
theorem dX4_say_86 : decode cX4_say 86 = .ok (.aload_n 0, 1) := by decide +kernel
theorem dX4_say_87 : decode cX4_say 87 = .ok (.getfield 38, 3) := by decide +kernel
theorem dX4_say_90 : decode cX4_say 90 = .ok (.aload_n 0, 1) := by decide +kernel
theorem dX4_say_91 : decode cX4_say 91 = .ok (.getfield 123, 3) := by decide +kernel
theorem dX4_say_94 : decode cX4_say 94 = .ok (.iload_n 3, 1) := by decide +kernel
theorem dX4_say_95 : decode cX4_say 95 = .ok (.ifCond .eq 7, 3) := by decide +kernel
theorem dX4_say_98 : decode cX4_say 98 = .ok (.iconst 1, 1) := by decide +kernel
theorem dX4_say_99 : decode cX4_say 99 = .ok (.goto 4, 3) := by decide +kernel
theorem dX4_say_102 : decode cX4_say 102 = .ok (.iconst 0, 1) := by decide +kernel
theorem dX4_say_103 : decode cX4_say 103 = .ok (.iastore, 1) := by decide +kernel
theorem dX4_say_104 : decode cX4_say 104 = .ok (.aload_n 0, 1) := by decide +kernel
theorem dX4_say_105 : decode cX4_say 105 = .ok (.dup, 1) := by decide +kernel
theorem dX4_say_106 : decode cX4_say 106 = .ok (.getfield 123, 3) := by decide +kernel
theorem dX4_say_109 : decode cX4_say 109 = .ok (.iconst 1, 1) := by decide +kernel
theorem dX4_say_110 : decode cX4_say 110 = .ok (.iadd, 1) := by decide +kernel
theorem dX4_say_111 : decode cX4_say 111 = .ok (.putfield 123, 3) := by decide +kernel
theorem dX4_say_114 : decode cX4_say 114 = .ok (.aload_n 0, 1) := by decide +kernel
theorem dX4_say_115 : decode cX4_say 115 = .ok (.getfield 123, 3) := by decide +kernel
theorem dX4_say_118 : decode cX4_say 118 = .ok (.ireturn, 1) := by decide +kernel
theorem dX4_forget_0 : decode cX4_forget 0 = .ok (.aload_n 0, 1) := by decide +kernel
theorem dX4_forget_1 : decode cX4_forget 1 = .ok (.getfield 123, 3) := by decide +kernel
theorem dX4_forget_4 : decode cX4_forget 4 = .ok (.istore_n 1, 1) := by decide +kernel
theorem dX4_forget_5 : decode cX4_forget 5 = .ok (.aload_n 0, 1) := by decide +kernel
theorem dX4_forget_6 : decode cX4_forget 6 = .ok (.iconst 0, 1) := by decide +kernel
theorem dX4_forget_7 : decode cX4_forget 7 = .ok (.putfield 123, 3) := by decide +kernel
theorem dX4_forget_10 : decode cX4_forget 10 = .ok (.iload_n 1, 1) := by decide +kernel
theorem dX4_forget_11 : decode cX4_forget 11 = .ok (.ireturn, 1) := by decide +kernel
theorem dX4_muchOf_0 : decode cX4_muchOf 0 = .ok (.iconst 0, 1) := by decide +kernel
theorem dX4_muchOf_1 : decode cX4_muchOf 1 = .ok (.istore_n 2, 1) := by decide +kernel
theorem dX4_muchOf_2 : decode cX4_muchOf 2 = .ok (.iconst 0, 1) := by decide +kernel
theorem dX4_muchOf_3 : decode cX4_muchOf 3 = .ok (.istore_n 3, 1) := by decide +kernel
theorem dX4_muchOf_4 : decode cX4_muchOf 4 = .ok (.iload_n 3, 1) := by decide +kernel
theorem dX4_muchOf_5 : decode cX4_muchOf 5 = .ok (.bipush 8, 2) := by decide +kernel
theorem dX4_muchOf_7 : decode cX4_muchOf 7 = .ok (.if_icmp .ge 37, 3) := by decide +kernel
theorem dX4_muchOf_10 : decode cX4_muchOf 10 = .ok (.iload_n 2, 1) := by decide +kernel
theorem dX4_muchOf_11 : decode cX4_muchOf 11 = .ok (.iload_n 1, 1) := by decide +kernel
theorem dX4_muchOf_12 : decode cX4_muchOf 12 = .ok (.iload_n 3, 1) := by decide +kernel
theorem dX4_muchOf_13 : decode cX4_muchOf 13 = .ok (.invokestatic 126, 3) := by decide +kernel
theorem dX4_muchOf_16 : decode cX4_muchOf 16 = .ok (.ifCond .eq 19, 3) := by decide +kernel
theorem dX4_muchOf_19 : decode cX4_muchOf 19 = .ok (.aload_n 0, 1) := by decide +kernel
theorem dX4_muchOf_20 : decode cX4_muchOf 20 = .ok (.getfield 26, 3) := by decide +kernel
theorem dX4_muchOf_23 : decode cX4_muchOf 23 = .ok (.iload_n 3, 1) := by decide +kernel
theorem dX4_muchOf_24 : decode cX4_muchOf 24 = .ok (.iaload, 1) := by decide +kernel
theorem dX4_muchOf_25 : decode cX4_muchOf 25 = .ok (.aload_n 0, 1) := by decide +kernel
theorem dX4_muchOf_26 : decode cX4_muchOf 26 = .ok (.getfield 29, 3) := by decide +kernel
theorem dX4_muchOf_29 : decode cX4_muchOf 29 = .ok (.iload_n 3, 1) := by decide +kernel
theorem dX4_muchOf_30 : decode cX4_muchOf 30 = .ok (.iaload, 1) := by decide +kernel
theorem dX4_muchOf_31 : decode cX4_muchOf 31 = .ok (.iadd, 1) := by decide +kernel
theorem dX4_muchOf_32 : decode cX4_muchOf 32 = .ok (.goto 4, 3) := by decide +kernel
theorem dX4_muchOf_35 : decode cX4_muchOf 35 = .ok (.iconst 0, 1) := by decide +kernel
theorem dX4_muchOf_36 : decode cX4_muchOf 36 = .ok (.iadd, 1) := by decide +kernel
theorem dX4_muchOf_37 : decode cX4_muchOf 37 = .ok (.istore_n 2, 1) := by decide +kernel
theorem dX4_muchOf_38 : decode cX4_muchOf 38 = .ok (.iinc 3 1, 3) := by decide +kernel
theorem dX4_muchOf_41 : decode cX4_muchOf 41 = .ok (.goto (-37), 3) := by decide +kernel
theorem dX4_muchOf_44 : decode cX4_muchOf 44 = .ok (.iload_n 2, 1) := by decide +kernel
theorem dX4_muchOf_45 : decode cX4_muchOf 45 = .ok (.ireturn, 1) := by decide +kernel
theorem dX4_isSaid_0 : decode cX4_isSaid 0 = .ok (.iconst 1, 1) := by decide +kernel
theorem dX4_isSaid_1 : decode cX4_isSaid 1 = .ok (.istore_n 1, 1) := by decide +kernel
theorem dX4_isSaid_2 : decode cX4_isSaid 2 = .ok (.iconst 0, 1) := by decide +kernel
theorem dX4_isSaid_3 : decode cX4_isSaid 3 = .ok (.istore_n 2, 1) := by decide +kernel
theorem dX4_isSaid_4 : decode cX4_isSaid 4 = .ok (.iload_n 2, 1) := by decide +kernel
theorem dX4_isSaid_5 : decode cX4_isSaid 5 = .ok (.aload_n 0, 1) := by decide +kernel
theorem dX4_isSaid_6 : decode cX4_isSaid 6 = .ok (.getfield 123, 3) := by decide +kernel
theorem dX4_isSaid_9 : decode cX4_isSaid 9 = .ok (.if_icmp .ge 61, 3) := by decide +kernel
theorem dX4_isSaid_12 : decode cX4_isSaid 12 = .ok (.iload_n 1, 1) := by decide +kernel
theorem dX4_isSaid_13 : decode cX4_isSaid 13 = .ok (.ifCond .eq 49, 3) := by decide +kernel
theorem dX4_isSaid_16 : decode cX4_isSaid 16 = .ok (.aload_n 0, 1) := by decide +kernel
theorem dX4_isSaid_17 : decode cX4_isSaid 17 = .ok (.aload_n 0, 1) := by decide +kernel
theorem dX4_isSaid_18 : decode cX4_isSaid 18 = .ok (.getfield 32, 3) := by decide +kernel
theorem dX4_isSaid_21 : decode cX4_isSaid 21 = .ok (.iload_n 2, 1) := by decide +kernel
theorem dX4_isSaid_22 : decode cX4_isSaid 22 = .ok (.iaload, 1) := by decide +kernel
theorem dX4_isSaid_23 : decode cX4_isSaid 23 = .ok (.invokevirtual 203, 3) := by decide +kernel
theorem dX4_isSaid_26 : decode cX4_isSaid 26 = .ok (.aload_n 0, 1) := by decide +kernel
theorem dX4_isSaid_27 : decode cX4_isSaid 27 = .ok (.getfield 35, 3) := by decide +kernel
theorem dX4_isSaid_30 : decode cX4_isSaid 30 = .ok (.iload_n 2, 1) := by decide +kernel
theorem dX4_isSaid_31 : decode cX4_isSaid 31 = .ok (.iaload, 1) := by decide +kernel
theorem dX4_isSaid_32 : decode cX4_isSaid 32 = .ok (.if_icmp .le 7, 3) := by decide +kernel
theorem dX4_isSaid_35 : decode cX4_isSaid 35 = .ok (.iconst 1, 1) := by decide +kernel
theorem dX4_isSaid_36 : decode cX4_isSaid 36 = .ok (.goto 4, 3) := by decide +kernel
theorem dX4_isSaid_39 : decode cX4_isSaid 39 = .ok (.iconst 0, 1) := by decide +kernel
theorem dX4_isSaid_40 : decode cX4_isSaid 40 = .ok (.aload_n 0, 1) := by decide +kernel
theorem dX4_isSaid_41 : decode cX4_isSaid 41 = .ok (.getfield 38, 3) := by decide +kernel
theorem dX4_isSaid_44 : decode cX4_isSaid 44 = .ok (.iload_n 2, 1) := by decide +kernel
theorem dX4_isSaid_45 : decode cX4_isSaid 45 = .ok (.iaload, 1) := by decide +kernel
theorem dX4_isSaid_46 : decode cX4_isSaid 46 = .ok (.iconst 1, 1) := by decide +kernel
theorem dX4_isSaid_47 : decode cX4_isSaid 47 = .ok (.if_icmp .ne 7, 3) := by decide +kernel
theorem dX4_isSaid_50 : decode cX4_isSaid 50 = .ok (.iconst 1, 1) := by decide +kernel
theorem dX4_isSaid_51 : decode cX4_isSaid 51 = .ok (.goto 4, 3) := by decide +kernel
theorem dX4_isSaid_54 : decode cX4_isSaid 54 = .ok (.iconst 0, 1) := by decide +kernel
theorem dX4_isSaid_55 : decode cX4_isSaid 55 = .ok (.if_icmp .ne 7, 3) := by decide +kernel
theorem dX4_isSaid_58 : decode cX4_isSaid 58 = .ok (.iconst 1, 1) := by decide +kernel
theorem dX4_isSaid_59 : decode cX4_isSaid 59 = .ok (.goto 4, 3) := by decide +kernel
theorem dX4_isSaid_62 : decode cX4_isSaid 62 = .ok (.iconst 0, 1) := by decide +kernel
theorem dX4_isSaid_63 : decode cX4_isSaid 63 = .ok (.istore_n 1, 1) := by decide +kernel
theorem dX4_isSaid_64 : decode cX4_isSaid 64 = .ok (.iinc 2 1, 3) := by decide +kernel
theorem dX4_isSaid_67 : decode cX4_isSaid 67 = .ok (.goto (-63), 3) := by decide +kernel
theorem dX4_isSaid_70 : decode cX4_isSaid 70 = .ok (.iload_n 1, 1) := by decide +kernel
theorem dX4_isSaid_71 : decode cX4_isSaid 71 = .ok (.ireturn, 1) := by decide +kernel
theorem dX4_bakedNow_0 : decode cX4_bakedNow 0 = .ok (.aload_n 0, 1) := by decide +kernel
theorem dX4_bakedNow_1 : decode cX4_bakedNow 1 = .ok (.getfield 29, 3) := by decide +kernel
theorem dX4_bakedNow_4 : decode cX4_bakedNow 4 = .ok (.iload_n 1, 1) := by decide +kernel
theorem dX4_bakedNow_5 : decode cX4_bakedNow 5 = .ok (.iaload, 1) := by decide +kernel
theorem dX4_bakedNow_6 : decode cX4_bakedNow 6 = .ok (.istore_n 2, 1) := by decide +kernel
theorem dX4_bakedNow_7 : decode cX4_bakedNow 7 = .ok (.iconst 0, 1) := by decide +kernel
theorem dX4_bakedNow_8 : decode cX4_bakedNow 8 = .ok (.istore_n 3, 1) := by decide +kernel
theorem dX4_bakedNow_9 : decode cX4_bakedNow 9 = .ok (.iconst 0, 1) := by decide +kernel
theorem dX4_bakedNow_10 : decode cX4_bakedNow 10 = .ok (.istore 4, 2) := by decide +kernel
theorem dX4_bakedNow_12 : decode cX4_bakedNow 12 = .ok (.iload 4, 2) := by decide +kernel
theorem dX4_bakedNow_14 : decode cX4_bakedNow 14 = .ok (.bipush 9, 2) := by decide +kernel
theorem dX4_bakedNow_16 : decode cX4_bakedNow 16 = .ok (.if_icmp .gt 35, 3) := by decide +kernel
theorem dX4_bakedNow_19 : decode cX4_bakedNow 19 = .ok (.aload_n 0, 1) := by decide +kernel
theorem dX4_bakedNow_20 : decode cX4_bakedNow 20 = .ok (.getfield 29, 3) := by decide +kernel
theorem dX4_bakedNow_23 : decode cX4_bakedNow 23 = .ok (.iload_n 1, 1) := by decide +kernel
theorem dX4_bakedNow_24 : decode cX4_bakedNow 24 = .ok (.iload 4, 2) := by decide +kernel
theorem dX4_bakedNow_26 : decode cX4_bakedNow 26 = .ok (.iastore, 1) := by decide +kernel
theorem dX4_bakedNow_27 : decode cX4_bakedNow 27 = .ok (.iload_n 3, 1) := by decide +kernel
theorem dX4_bakedNow_28 : decode cX4_bakedNow 28 = .ok (.aload_n 0, 1) := by decide +kernel
theorem dX4_bakedNow_29 : decode cX4_bakedNow 29 = .ok (.invokevirtual 206, 3) := by decide +kernel
theorem dX4_bakedNow_32 : decode cX4_bakedNow 32 = .ok (.ifCond .eq 10, 3) := by decide +kernel
theorem dX4_bakedNow_35 : decode cX4_bakedNow 35 = .ok (.iconst 1, 1) := by decide +kernel
theorem dX4_bakedNow_36 : decode cX4_bakedNow 36 = .ok (.iload 4, 2) := by decide +kernel
theorem dX4_bakedNow_38 : decode cX4_bakedNow 38 = .ok (.ishl, 1) := by decide +kernel
theorem dX4_bakedNow_39 : decode cX4_bakedNow 39 = .ok (.goto 4, 3) := by decide +kernel
theorem dX4_bakedNow_42 : decode cX4_bakedNow 42 = .ok (.iconst 0, 1) := by decide +kernel
theorem dX4_bakedNow_43 : decode cX4_bakedNow 43 = .ok (.ior, 1) := by decide +kernel
theorem dX4_bakedNow_44 : decode cX4_bakedNow 44 = .ok (.istore_n 3, 1) := by decide +kernel
theorem dX4_bakedNow_45 : decode cX4_bakedNow 45 = .ok (.iinc 4 1, 3) := by decide +kernel
theorem dX4_bakedNow_48 : decode cX4_bakedNow 48 = .ok (.goto (-36), 3) := by decide +kernel
theorem dX4_bakedNow_51 : decode cX4_bakedNow 51 = .ok (.aload_n 0, 1) := by decide +kernel
theorem dX4_bakedNow_52 : decode cX4_bakedNow 52 = .ok (.getfield 29, 3) := by decide +kernel
theorem dX4_bakedNow_55 : decode cX4_bakedNow 55 = .ok (.iload_n 1, 1) := by decide +kernel
theorem dX4_bakedNow_56 : decode cX4_bakedNow 56 = .ok (.iload_n 2, 1) := by decide +kernel
theorem dX4_bakedNow_57 : decode cX4_bakedNow 57 = .ok (.iastore, 1) := by decide +kernel
theorem dX4_bakedNow_58 : decode cX4_bakedNow 58 = .ok (.iload_n 3, 1) := by decide +kernel
theorem dX4_bakedNow_59 : decode cX4_bakedNow 59 = .ok (.ireturn, 1) := by decide +kernel
theorem dX4_askNow_0 : decode cX4_askNow 0 = .ok (.aload_n 0, 1) := by decide +kernel
theorem dX4_askNow_1 : decode cX4_askNow 1 = .ok (.iload_n 1, 1) := by decide +kernel
theorem dX4_askNow_2 : decode cX4_askNow 2 = .ok (.invokevirtual 169, 3) := by decide +kernel
theorem dX4_askNow_5 : decode cX4_askNow 5 = .ok (.istore_n 2, 1) := by decide +kernel
theorem dX4_askNow_6 : decode cX4_askNow 6 = .ok (.iconst (-1), 1) := by decide +kernel
theorem dX4_askNow_7 : decode cX4_askNow 7 = .ok (.istore_n 3, 1) := by decide +kernel
theorem dX4_askNow_8 : decode cX4_askNow 8 = .ok (.ldc 190, 2) := by decide +kernel
theorem dX4_askNow_10 : decode cX4_askNow 10 = .ok (.istore 4, 2) := by decide +kernel
theorem dX4_askNow_12 : decode cX4_askNow 12 = .ok (.iconst 0, 1) := by decide +kernel
theorem dX4_askNow_13 : decode cX4_askNow 13 = .ok (.istore 5, 2) := by decide +kernel
theorem dX4_askNow_15 : decode cX4_askNow 15 = .ok (.iload 5, 2) := by decide +kernel
theorem dX4_askNow_17 : decode cX4_askNow 17 = .ok (.bipush 20, 2) := by decide +kernel
theorem dX4_askNow_19 : decode cX4_askNow 19 = .ok (.if_icmp .gt 131, 3) := by decide +kernel
theorem dX4_askNow_22 : decode cX4_askNow 22 = .ok (.iload_n 2, 1) := by decide +kernel
theorem dX4_askNow_23 : decode cX4_askNow 23 = .ok (.ifCond .eq 127, 3) := by decide +kernel
theorem dX4_askNow_26 : decode cX4_askNow 26 = .ok (.iconst 0, 1) := by decide +kernel
theorem dX4_askNow_27 : decode cX4_askNow 27 = .ok (.istore 6, 2) := by decide +kernel
theorem dX4_askNow_29 : decode cX4_askNow 29 = .ok (.iconst 0, 1) := by decide +kernel
theorem dX4_askNow_30 : decode cX4_askNow 30 = .ok (.istore 7, 2) := by decide +kernel
theorem dX4_askNow_32 : decode cX4_askNow 32 = .ok (.iconst 0, 1) := by decide +kernel
theorem dX4_askNow_33 : decode cX4_askNow 33 = .ok (.istore 8, 2) := by decide +kernel
theorem dX4_askNow_35 : decode cX4_askNow 35 = .ok (.iload 8, 2) := by decide +kernel
theorem dX4_askNow_37 : decode cX4_askNow 37 = .ok (.bipush 9, 2) := by decide +kernel
theorem dX4_askNow_39 : decode cX4_askNow 39 = .ok (.if_icmp .gt 53, 3) := by decide +kernel
theorem dX4_askNow_42 : decode cX4_askNow 42 = .ok (.iload 7, 2) := by decide +kernel
theorem dX4_askNow_44 : decode cX4_askNow 44 = .ok (.iload_n 2, 1) := by decide +kernel
theorem dX4_askNow_45 : decode cX4_askNow 45 = .ok (.iload 8, 2) := by decide +kernel
theorem dX4_askNow_47 : decode cX4_askNow 47 = .ok (.ishr, 1) := by decide +kernel
theorem dX4_askNow_48 : decode cX4_askNow 48 = .ok (.iconst 1, 1) := by decide +kernel
theorem dX4_askNow_49 : decode cX4_askNow 49 = .ok (.iand, 1) := by decide +kernel
theorem dX4_askNow_50 : decode cX4_askNow 50 = .ok (.iadd, 1) := by decide +kernel
theorem dX4_askNow_51 : decode cX4_askNow 51 = .ok (.istore 7, 2) := by decide +kernel
theorem dX4_askNow_53 : decode cX4_askNow 53 = .ok (.iload 6, 2) := by decide +kernel
theorem dX4_askNow_55 : decode cX4_askNow 55 = .ok (.iload_n 2, 1) := by decide +kernel
theorem dX4_askNow_56 : decode cX4_askNow 56 = .ok (.iload 8, 2) := by decide +kernel
theorem dX4_askNow_58 : decode cX4_askNow 58 = .ok (.invokestatic 126, 3) := by decide +kernel
theorem dX4_askNow_61 : decode cX4_askNow 61 = .ok (.ifCond .eq 21, 3) := by decide +kernel
theorem dX4_askNow_64 : decode cX4_askNow 64 = .ok (.aload_n 0, 1) := by decide +kernel
theorem dX4_askNow_65 : decode cX4_askNow 65 = .ok (.getfield 26, 3) := by decide +kernel
theorem dX4_askNow_68 : decode cX4_askNow 68 = .ok (.iload_n 1, 1) := by decide +kernel
theorem dX4_askNow_69 : decode cX4_askNow 69 = .ok (.iaload, 1) := by decide +kernel
theorem dX4_askNow_70 : decode cX4_askNow 70 = .ok (.iload 8, 2) := by decide +kernel
theorem dX4_askNow_72 : decode cX4_askNow 72 = .ok (.iadd, 1) := by decide +kernel
theorem dX4_askNow_73 : decode cX4_askNow 73 = .ok (.iload 5, 2) := by decide +kernel
theorem dX4_askNow_75 : decode cX4_askNow 75 = .ok (.if_icmp .le 7, 3) := by decide +kernel
theorem dX4_askNow_78 : decode cX4_askNow 78 = .ok (.iconst 1, 1) := by decide +kernel
theorem dX4_askNow_79 : decode cX4_askNow 79 = .ok (.goto 4, 3) := by decide +kernel
theorem dX4_askNow_82 : decode cX4_askNow 82 = .ok (.iconst 0, 1) := by decide +kernel
theorem dX4_askNow_83 : decode cX4_askNow 83 = .ok (.iadd, 1) := by decide +kernel
theorem dX4_askNow_84 : decode cX4_askNow 84 = .ok (.istore 6, 2) := by decide +kernel
theorem dX4_askNow_86 : decode cX4_askNow 86 = .ok (.iinc 8 1, 3) := by decide +kernel
theorem dX4_askNow_89 : decode cX4_askNow 89 = .ok (.goto (-54), 3) := by decide +kernel
theorem dX4_askNow_92 : decode cX4_askNow 92 = .ok (.iload 6, 2) := by decide +kernel
theorem dX4_askNow_94 : decode cX4_askNow 94 = .ok (.iload 7, 2) := by decide +kernel
theorem dX4_askNow_96 : decode cX4_askNow 96 = .ok (.iload 6, 2) := by decide +kernel
theorem dX4_askNow_98 : decode cX4_askNow 98 = .ok (.isub, 1) := by decide +kernel
theorem dX4_askNow_99 : decode cX4_askNow 99 = .ok (.if_icmp .le 8, 3) := by decide +kernel
theorem dX4_askNow_102 : decode cX4_askNow 102 = .ok (.iload 6, 2) := by decide +kernel
theorem dX4_askNow_104 : decode cX4_askNow 104 = .ok (.goto 8, 3) := by decide +kernel
theorem dX4_askNow_107 : decode cX4_askNow 107 = .ok (.iload 7, 2) := by decide +kernel
theorem dX4_askNow_109 : decode cX4_askNow 109 = .ok (.iload 6, 2) := by decide +kernel
theorem dX4_askNow_111 : decode cX4_askNow 111 = .ok (.isub, 1) := by decide +kernel
theorem dX4_askNow_112 : decode cX4_askNow 112 = .ok (.istore 8, 2) := by decide +kernel
theorem dX4_askNow_114 : decode cX4_askNow 114 = .ok (.iload 8, 2) := by decide +kernel
theorem dX4_askNow_116 : decode cX4_askNow 116 = .ok (.iload 4, 2) := by decide +kernel
theorem dX4_askNow_118 : decode cX4_askNow 118 = .ok (.if_icmp .ge 8, 3) := by decide +kernel
theorem dX4_askNow_121 : decode cX4_askNow 121 = .ok (.iload 5, 2) := by decide +kernel
theorem dX4_askNow_123 : decode cX4_askNow 123 = .ok (.goto 4, 3) := by decide +kernel
theorem dX4_askNow_126 : decode cX4_askNow 126 = .ok (.iload_n 3, 1) := by decide +kernel
theorem dX4_askNow_127 : decode cX4_askNow 127 = .ok (.istore_n 3, 1) := by decide +kernel
theorem dX4_askNow_128 : decode cX4_askNow 128 = .ok (.iload 8, 2) := by decide +kernel
theorem dX4_askNow_130 : decode cX4_askNow 130 = .ok (.iload 4, 2) := by decide +kernel
theorem dX4_askNow_132 : decode cX4_askNow 132 = .ok (.if_icmp .ge 8, 3) := by decide +kernel
theorem dX4_askNow_135 : decode cX4_askNow 135 = .ok (.iload 8, 2) := by decide +kernel
theorem dX4_askNow_137 : decode cX4_askNow 137 = .ok (.goto 5, 3) := by decide +kernel
theorem dX4_askNow_140 : decode cX4_askNow 140 = .ok (.iload 4, 2) := by decide +kernel
theorem dX4_askNow_142 : decode cX4_askNow 142 = .ok (.istore 4, 2) := by decide +kernel
theorem dX4_askNow_144 : decode cX4_askNow 144 = .ok (.iinc 5 1, 3) := by decide +kernel
theorem dX4_askNow_147 : decode cX4_askNow 147 = .ok (.goto (-132), 3) := by decide +kernel
theorem dX4_askNow_150 : decode cX4_askNow 150 = .ok (.iload_n 3, 1) := by decide +kernel
theorem dX4_askNow_151 : decode cX4_askNow 151 = .ok (.ireturn, 1) := by decide +kernel
theorem dX4_draw_0 : decode cX4_draw 0 = .ok (.aload_n 0, 1) := by decide +kernel
theorem dX4_draw_1 : decode cX4_draw 1 = .ok (.ldc2_w 210, 3) := by decide +kernel
theorem dX4_draw_4 : decode cX4_draw 4 = .ok (.aload_n 0, 1) := by decide +kernel
theorem dX4_draw_5 : decode cX4_draw 5 = .ok (.getfield 212, 3) := by decide +kernel
theorem dX4_draw_8 : decode cX4_draw 8 = .ok (.lmul, 1) := by decide +kernel
theorem dX4_draw_9 : decode cX4_draw 9 = .ok (.ldc2_w 216, 3) := by decide +kernel
theorem dX4_draw_12 : decode cX4_draw 12 = .ok (.ladd, 1) := by decide +kernel
theorem dX4_draw_13 : decode cX4_draw 13 = .ok (.ldc2_w 218, 3) := by decide +kernel
theorem dX4_draw_16 : decode cX4_draw 16 = .ok (.land, 1) := by decide +kernel
theorem dX4_draw_17 : decode cX4_draw 17 = .ok (.putfield 212, 3) := by decide +kernel
theorem dX4_draw_20 : decode cX4_draw 20 = .ok (.aload_n 0, 1) := by decide +kernel
theorem dX4_draw_21 : decode cX4_draw 21 = .ok (.getfield 212, 3) := by decide +kernel
theorem dX4_draw_24 : decode cX4_draw 24 = .ok (.ldc2_w 220, 3) := by decide +kernel
theorem dX4_draw_27 : decode cX4_draw 27 = .ok (.ldiv, 1) := by decide +kernel
theorem dX4_draw_28 : decode cX4_draw 28 = .ok (.iload_n 1, 1) := by decide +kernel
theorem dX4_draw_29 : decode cX4_draw 29 = .ok (.i2l, 1) := by decide +kernel
theorem dX4_draw_30 : decode cX4_draw 30 = .ok (.lrem, 1) := by decide +kernel
theorem dX4_draw_31 : decode cX4_draw 31 = .ok (.l2i, 1) := by decide +kernel
theorem dX4_draw_32 : decode cX4_draw 32 = .ok (.ireturn, 1) := by decide +kernel
theorem dX4_wintersNow_0 : decode cX4_wintersNow 0 = .ok (.aload_n 0, 1) := by decide +kernel
theorem dX4_wintersNow_1 : decode cX4_wintersNow 1 = .ok (.invokevirtual 149, 3) := by decide +kernel
theorem dX4_wintersNow_4 : decode cX4_wintersNow 4 = .ok (.aload_n 0, 1) := by decide +kernel
theorem dX4_wintersNow_5 : decode cX4_wintersNow 5 = .ok (.iload_n 2, 1) := by decide +kernel
theorem dX4_wintersNow_6 : decode cX4_wintersNow 6 = .ok (.i2l, 1) := by decide +kernel
theorem dX4_wintersNow_7 : decode cX4_wintersNow 7 = .ok (.putfield 212, 3) := by decide +kernel
theorem dX4_wintersNow_10 : decode cX4_wintersNow 10 = .ok (.iconst 1, 1) := by decide +kernel
theorem dX4_wintersNow_11 : decode cX4_wintersNow 11 = .ok (.istore 4, 2) := by decide +kernel
theorem dX4_wintersNow_13 : decode cX4_wintersNow 13 = .ok (.iload 4, 2) := by decide +kernel
theorem dX4_wintersNow_15 : decode cX4_wintersNow 15 = .ok (.iload_n 1, 1) := by decide +kernel
theorem dX4_wintersNow_16 : decode cX4_wintersNow 16 = .ok (.if_icmp .gt 59, 3) := by decide +kernel
theorem dX4_wintersNow_19 : decode cX4_wintersNow 19 = .ok (.aload_n 0, 1) := by decide +kernel
theorem dX4_wintersNow_20 : decode cX4_wintersNow 20 = .ok (.aload_n 0, 1) := by decide +kernel
theorem dX4_wintersNow_21 : decode cX4_wintersNow 21 = .ok (.getfield 108, 3) := by decide +kernel
theorem dX4_wintersNow_24 : decode cX4_wintersNow 24 = .ok (.invokevirtual 222, 3) := by decide +kernel
theorem dX4_wintersNow_27 : decode cX4_wintersNow 27 = .ok (.istore 5, 2) := by decide +kernel
theorem dX4_wintersNow_29 : decode cX4_wintersNow 29 = .ok (.aload_n 0, 1) := by decide +kernel
theorem dX4_wintersNow_30 : decode cX4_wintersNow 30 = .ok (.aload_n 0, 1) := by decide +kernel
theorem dX4_wintersNow_31 : decode cX4_wintersNow 31 = .ok (.getfield 111, 3) := by decide +kernel
theorem dX4_wintersNow_34 : decode cX4_wintersNow 34 = .ok (.invokevirtual 222, 3) := by decide +kernel
theorem dX4_wintersNow_37 : decode cX4_wintersNow 37 = .ok (.istore 6, 2) := by decide +kernel
theorem dX4_wintersNow_39 : decode cX4_wintersNow 39 = .ok (.aload_n 0, 1) := by decide +kernel
theorem dX4_wintersNow_40 : decode cX4_wintersNow 40 = .ok (.iload 5, 2) := by decide +kernel
theorem dX4_wintersNow_42 : decode cX4_wintersNow 42 = .ok (.iload 6, 2) := by decide +kernel
theorem dX4_wintersNow_44 : decode cX4_wintersNow 44 = .ok (.invokevirtual 140, 3) := by decide +kernel
theorem dX4_wintersNow_47 : decode cX4_wintersNow 47 = .ok (.ifCond .eq 11, 3) := by decide +kernel
theorem dX4_wintersNow_50 : decode cX4_wintersNow 50 = .ok (.aload_n 0, 1) := by decide +kernel
theorem dX4_wintersNow_51 : decode cX4_wintersNow 51 = .ok (.iload 5, 2) := by decide +kernel
theorem dX4_wintersNow_53 : decode cX4_wintersNow 53 = .ok (.iload 6, 2) := by decide +kernel
theorem dX4_wintersNow_55 : decode cX4_wintersNow 55 = .ok (.invokevirtual 143, 3) := by decide +kernel
theorem dX4_wintersNow_58 : decode cX4_wintersNow 58 = .ok (.iload 4, 2) := by decide +kernel
theorem dX4_wintersNow_60 : decode cX4_wintersNow 60 = .ok (.iconst 3, 1) := by decide +kernel
theorem dX4_wintersNow_61 : decode cX4_wintersNow 61 = .ok (.irem, 1) := by decide +kernel
theorem dX4_wintersNow_62 : decode cX4_wintersNow 62 = .ok (.ifCond .ne 7, 3) := by decide +kernel
theorem dX4_wintersNow_65 : decode cX4_wintersNow 65 = .ok (.aload_n 0, 1) := by decide +kernel
theorem dX4_wintersNow_66 : decode cX4_wintersNow 66 = .ok (.invokevirtual 181, 3) := by decide +kernel
theorem dX4_wintersNow_69 : decode cX4_wintersNow 69 = .ok (.iinc 4 1, 3) := by decide +kernel
theorem dX4_wintersNow_72 : decode cX4_wintersNow 72 = .ok (.goto (-59), 3) := by decide +kernel
theorem dX4_wintersNow_75 : decode cX4_wintersNow 75 = .ok (.aload_n 0, 1) := by decide +kernel
theorem dX4_wintersNow_76 : decode cX4_wintersNow 76 = .ok (.getfield 111, 3) := by decide +kernel
theorem dX4_wintersNow_79 : decode cX4_wintersNow 79 = .ok (.aload_n 0, 1) := by decide +kernel
theorem dX4_wintersNow_80 : decode cX4_wintersNow 80 = .ok (.invokevirtual 191, 3) := by decide +kernel
theorem dX4_wintersNow_83 : decode cX4_wintersNow 83 = .ok (.isub, 1) := by decide +kernel
theorem dX4_wintersNow_84 : decode cX4_wintersNow 84 = .ok (.istore 4, 2) := by decide +kernel
theorem dX4_wintersNow_86 : decode cX4_wintersNow 86 = .ok (.aload_n 0, 1) := by decide +kernel
theorem dX4_wintersNow_87 : decode cX4_wintersNow 87 = .ok (.invokevirtual 184, 3) := by decide +kernel
theorem dX4_wintersNow_90 : decode cX4_wintersNow 90 = .ok (.istore 5, 2) := by decide +kernel
theorem dX4_wintersNow_92 : decode cX4_wintersNow 92 = .ok (.aload_n 0, 1) := by decide +kernel
theorem dX4_wintersNow_93 : decode cX4_wintersNow 93 = .ok (.invokevirtual 146, 3) := by decide +kernel
theorem dX4_wintersNow_96 : decode cX4_wintersNow 96 = .ok (.iload_n 3, 1) := by decide +kernel
theorem dX4_wintersNow_97 : decode cX4_wintersNow 97 = .ok (.ifCond .ne 8, 3) := by decide +kernel
theorem dX4_wintersNow_100 : decode cX4_wintersNow 100 = .ok (.iload 4, 2) := by decide +kernel
theorem dX4_wintersNow_102 : decode cX4_wintersNow 102 = .ok (.goto 18, 3) := by decide +kernel
theorem dX4_wintersNow_105 : decode cX4_wintersNow 105 = .ok (.iload_n 3, 1) := by decide +kernel
theorem dX4_wintersNow_106 : decode cX4_wintersNow 106 = .ok (.iconst 1, 1) := by decide +kernel
theorem dX4_wintersNow_107 : decode cX4_wintersNow 107 = .ok (.if_icmp .ne 8, 3) := by decide +kernel
theorem dX4_wintersNow_110 : decode cX4_wintersNow 110 = .ok (.iload 5, 2) := by decide +kernel
theorem dX4_wintersNow_112 : decode cX4_wintersNow 112 = .ok (.goto 8, 3) := by decide +kernel
theorem dX4_wintersNow_115 : decode cX4_wintersNow 115 = .ok (.aload_n 0, 1) := by decide +kernel
theorem dX4_wintersNow_116 : decode cX4_wintersNow 116 = .ok (.getfield 212, 3) := by decide +kernel
theorem dX4_wintersNow_119 : decode cX4_wintersNow 119 = .ok (.l2i, 1) := by decide +kernel
theorem dX4_wintersNow_120 : decode cX4_wintersNow 120 = .ok (.ireturn, 1) := by decide +kernel
theorem dX4_winters_0 : decode cX4_winters 0 = .ok (.iload_n 1, 1) := by decide +kernel
theorem dX4_winters_1 : decode cX4_winters 1 = .ok (.iconst 1, 1) := by decide +kernel
theorem dX4_winters_2 : decode cX4_winters 2 = .ok (.bipush 60, 2) := by decide +kernel
theorem dX4_winters_4 : decode cX4_winters 4 = .ok (.invokestatic 75, 3) := by decide +kernel
theorem dX4_winters_7 : decode cX4_winters 7 = .ok (.ifCond .eq 16, 3) := by decide +kernel
theorem dX4_winters_10 : decode cX4_winters 10 = .ok (.iload_n 2, 1) := by decide +kernel
theorem dX4_winters_11 : decode cX4_winters 11 = .ok (.ifCond .lt 12, 3) := by decide +kernel
theorem dX4_winters_14 : decode cX4_winters 14 = .ok (.iload_n 3, 1) := by decide +kernel
theorem dX4_winters_15 : decode cX4_winters 15 = .ok (.iconst 0, 1) := by decide +kernel
theorem dX4_winters_16 : decode cX4_winters 16 = .ok (.iconst 2, 1) := by decide +kernel
theorem dX4_winters_17 : decode cX4_winters 17 = .ok (.invokestatic 75, 3) := by decide +kernel
theorem dX4_winters_20 : decode cX4_winters 20 = .ok (.ifCond .ne 6, 3) := by decide +kernel
theorem dX4_winters_23 : decode cX4_winters 23 = .ok (.bipush (-102), 2) := by decide +kernel
theorem dX4_winters_25 : decode cX4_winters 25 = .ok (.ireturn, 1) := by decide +kernel
theorem dX4_winters_26 : decode cX4_winters 26 = .ok (.aload_n 0, 1) := by decide +kernel
theorem dX4_winters_27 : decode cX4_winters 27 = .ok (.getfield 108, 3) := by decide +kernel
theorem dX4_winters_30 : decode cX4_winters 30 = .ok (.ifCond .ne 8, 3) := by decide +kernel
theorem dX4_winters_33 : decode cX4_winters 33 = .ok (.bipush (-103), 2) := by decide +kernel
theorem dX4_winters_35 : decode cX4_winters 35 = .ok (.goto 10, 3) := by decide +kernel
theorem dX4_winters_38 : decode cX4_winters 38 = .ok (.aload_n 0, 1) := by decide +kernel
theorem dX4_winters_39 : decode cX4_winters 39 = .ok (.iload_n 1, 1) := by decide +kernel
theorem dX4_winters_40 : decode cX4_winters 40 = .ok (.iload_n 2, 1) := by decide +kernel
theorem dX4_winters_41 : decode cX4_winters 41 = .ok (.iload_n 3, 1) := by decide +kernel
theorem dX4_winters_42 : decode cX4_winters 42 = .ok (.invokevirtual 225, 3) := by decide +kernel
theorem dX4_winters_45 : decode cX4_winters 45 = .ok (.ireturn, 1) := by decide +kernel
theorem dX4_image_0 : decode cX4_image 0 = .ok (.aload_n 0, 1) := by decide +kernel
theorem dX4_image_1 : decode cX4_image 1 = .ok (.getfield 108, 3) := by decide +kernel
theorem dX4_image_4 : decode cX4_image 4 = .ok (.ifCond .ne 6, 3) := by decide +kernel
theorem dX4_image_7 : decode cX4_image 7 = .ok (.bipush (-103), 2) := by decide +kernel
theorem dX4_image_9 : decode cX4_image 9 = .ok (.ireturn, 1) := by decide +kernel
theorem dX4_image_10 : decode cX4_image 10 = .ok (.aload_n 0, 1) := by decide +kernel
theorem dX4_image_11 : decode cX4_image 11 = .ok (.iconst 1, 1) := by decide +kernel
theorem dX4_image_12 : decode cX4_image 12 = .ok (.putfield 229, 3) := by decide +kernel
theorem dX4_image_15 : decode cX4_image 15 = .ok (.aload_n 0, 1) := by decide +kernel
theorem dX4_image_16 : decode cX4_image 16 = .ok (.aload_n 0, 1) := by decide +kernel
theorem dX4_image_17 : decode cX4_image 17 = .ok (.getfield 114, 3) := by decide +kernel
theorem dX4_image_20 : decode cX4_image 20 = .ok (.putfield 232, 3) := by decide +kernel
theorem dX4_image_23 : decode cX4_image 23 = .ok (.aload_n 0, 1) := by decide +kernel
theorem dX4_image_24 : decode cX4_image 24 = .ok (.aload_n 0, 1) := by decide +kernel
theorem dX4_image_25 : decode cX4_image 25 = .ok (.getfield 111, 3) := by decide +kernel
theorem dX4_image_28 : decode cX4_image 28 = .ok (.putfield 235, 3) := by decide +kernel
theorem dX4_image_31 : decode cX4_image 31 = .ok (.aload_n 0, 1) := by decide +kernel
theorem dX4_image_32 : decode cX4_image 32 = .ok (.aload_n 0, 1) := by decide +kernel
theorem dX4_image_33 : decode cX4_image 33 = .ok (.getfield 117, 3) := by decide +kernel
theorem dX4_image_36 : decode cX4_image 36 = .ok (.putfield 238, 3) := by decide +kernel
theorem dX4_image_39 : decode cX4_image 39 = .ok (.aload_n 0, 1) := by decide +kernel
theorem dX4_image_40 : decode cX4_image 40 = .ok (.aload_n 0, 1) := by decide +kernel
theorem dX4_image_41 : decode cX4_image 41 = .ok (.getfield 120, 3) := by decide +kernel
theorem dX4_image_44 : decode cX4_image 44 = .ok (.putfield 241, 3) := by decide +kernel
theorem dX4_image_47 : decode cX4_image 47 = .ok (.aload_n 0, 1) := by decide +kernel
theorem dX4_image_48 : decode cX4_image 48 = .ok (.aload_n 0, 1) := by decide +kernel
theorem dX4_image_49 : decode cX4_image 49 = .ok (.getfield 123, 3) := by decide +kernel
theorem dX4_image_52 : decode cX4_image 52 = .ok (.putfield 244, 3) := by decide +kernel
theorem dX4_image_55 : decode cX4_image 55 = .ok (.iconst 0, 1) := by decide +kernel
theorem dX4_image_56 : decode cX4_image 56 = .ok (.istore_n 1, 1) := by decide +kernel
theorem dX4_image_57 : decode cX4_image 57 = .ok (.iload_n 1, 1) := by decide +kernel
theorem dX4_image_58 : decode cX4_image 58 = .ok (.iconst 4, 1) := by decide +kernel
theorem dX4_image_59 : decode cX4_image 59 = .ok (.if_icmp .ge 57, 3) := by decide +kernel
theorem dX4_image_62 : decode cX4_image 62 = .ok (.aload_n 0, 1) := by decide +kernel
theorem dX4_image_63 : decode cX4_image 63 = .ok (.getfield 54, 3) := by decide +kernel
theorem dX4_image_66 : decode cX4_image 66 = .ok (.iload_n 1, 1) := by decide +kernel
theorem dX4_image_67 : decode cX4_image 67 = .ok (.aload_n 0, 1) := by decide +kernel
theorem dX4_image_68 : decode cX4_image 68 = .ok (.getfield 13, 3) := by decide +kernel
theorem dX4_image_71 : decode cX4_image 71 = .ok (.iload_n 1, 1) := by decide +kernel
theorem dX4_image_72 : decode cX4_image 72 = .ok (.iaload, 1) := by decide +kernel
theorem dX4_image_73 : decode cX4_image 73 = .ok (.iastore, 1) := by decide +kernel
theorem dX4_image_74 : decode cX4_image 74 = .ok (.aload_n 0, 1) := by decide +kernel
theorem dX4_image_75 : decode cX4_image 75 = .ok (.getfield 57, 3) := by decide +kernel
theorem dX4_image_78 : decode cX4_image 78 = .ok (.iload_n 1, 1) := by decide +kernel
theorem dX4_image_79 : decode cX4_image 79 = .ok (.aload_n 0, 1) := by decide +kernel
theorem dX4_image_80 : decode cX4_image 80 = .ok (.getfield 16, 3) := by decide +kernel
theorem dX4_image_83 : decode cX4_image 83 = .ok (.iload_n 1, 1) := by decide +kernel
theorem dX4_image_84 : decode cX4_image 84 = .ok (.baload, 1) := by decide +kernel
theorem dX4_image_85 : decode cX4_image 85 = .ok (.bastore, 1) := by decide +kernel
theorem dX4_image_86 : decode cX4_image 86 = .ok (.aload_n 0, 1) := by decide +kernel
theorem dX4_image_87 : decode cX4_image 87 = .ok (.getfield 60, 3) := by decide +kernel
theorem dX4_image_90 : decode cX4_image 90 = .ok (.iload_n 1, 1) := by decide +kernel
theorem dX4_image_91 : decode cX4_image 91 = .ok (.aload_n 0, 1) := by decide +kernel
theorem dX4_image_92 : decode cX4_image 92 = .ok (.getfield 20, 3) := by decide +kernel
theorem dX4_image_95 : decode cX4_image 95 = .ok (.iload_n 1, 1) := by decide +kernel
theorem dX4_image_96 : decode cX4_image 96 = .ok (.iaload, 1) := by decide +kernel
theorem dX4_image_97 : decode cX4_image 97 = .ok (.iastore, 1) := by decide +kernel
theorem dX4_image_98 : decode cX4_image 98 = .ok (.aload_n 0, 1) := by decide +kernel
theorem dX4_image_99 : decode cX4_image 99 = .ok (.getfield 63, 3) := by decide +kernel
theorem dX4_image_102 : decode cX4_image 102 = .ok (.iload_n 1, 1) := by decide +kernel
theorem dX4_image_103 : decode cX4_image 103 = .ok (.aload_n 0, 1) := by decide +kernel
theorem dX4_image_104 : decode cX4_image 104 = .ok (.getfield 23, 3) := by decide +kernel
theorem dX4_image_107 : decode cX4_image 107 = .ok (.iload_n 1, 1) := by decide +kernel
theorem dX4_image_108 : decode cX4_image 108 = .ok (.iaload, 1) := by decide +kernel
theorem dX4_image_109 : decode cX4_image 109 = .ok (.iastore, 1) := by decide +kernel
theorem dX4_image_110 : decode cX4_image 110 = .ok (.iinc 1 1, 3) := by decide +kernel
theorem dX4_image_113 : decode cX4_image 113 = .ok (.goto (-56), 3) := by decide +kernel
theorem dX4_image_116 : decode cX4_image 116 = .ok (.iconst 0, 1) := by decide +kernel
theorem dX4_image_117 : decode cX4_image 117 = .ok (.istore_n 1, 1) := by decide +kernel
theorem dX4_image_118 : decode cX4_image 118 = .ok (.iload_n 1, 1) := by decide +kernel
theorem dX4_image_119 : decode cX4_image 119 = .ok (.bipush 6, 2) := by decide +kernel
theorem dX4_image_121 : decode cX4_image 121 = .ok (.if_icmp .ge 45, 3) := by decide +kernel
theorem dX4_image_124 : decode cX4_image 124 = .ok (.aload_n 0, 1) := by decide +kernel
theorem dX4_image_125 : decode cX4_image 125 = .ok (.getfield 66, 3) := by decide +kernel
theorem dX4_image_128 : decode cX4_image 128 = .ok (.iload_n 1, 1) := by decide +kernel
theorem dX4_image_129 : decode cX4_image 129 = .ok (.aload_n 0, 1) := by decide +kernel
theorem dX4_image_130 : decode cX4_image 130 = .ok (.getfield 32, 3) := by decide +kernel
theorem dX4_image_133 : decode cX4_image 133 = .ok (.iload_n 1, 1) := by decide +kernel
theorem dX4_image_134 : decode cX4_image 134 = .ok (.iaload, 1) := by decide +kernel
theorem dX4_image_135 : decode cX4_image 135 = .ok (.iastore, 1) := by decide +kernel
theorem dX4_image_136 : decode cX4_image 136 = .ok (.aload_n 0, 1) := by decide +kernel
theorem dX4_image_137 : decode cX4_image 137 = .ok (.getfield 69, 3) := by decide +kernel
theorem dX4_image_140 : decode cX4_image 140 = .ok (.iload_n 1, 1) := by decide +kernel
theorem dX4_image_141 : decode cX4_image 141 = .ok (.aload_n 0, 1) := by decide +kernel
theorem dX4_image_142 : decode cX4_image 142 = .ok (.getfield 35, 3) := by decide +kernel
theorem dX4_image_145 : decode cX4_image 145 = .ok (.iload_n 1, 1) := by decide +kernel
theorem dX4_image_146 : decode cX4_image 146 = .ok (.iaload, 1) := by decide +kernel
theorem dX4_image_147 : decode cX4_image 147 = .ok (.iastore, 1) := by decide +kernel
theorem dX4_image_148 : decode cX4_image 148 = .ok (.aload_n 0, 1) := by decide +kernel
theorem dX4_image_149 : decode cX4_image 149 = .ok (.getfield 72, 3) := by decide +kernel
theorem dX4_image_152 : decode cX4_image 152 = .ok (.iload_n 1, 1) := by decide +kernel
theorem dX4_image_153 : decode cX4_image 153 = .ok (.aload_n 0, 1) := by decide +kernel
theorem dX4_image_154 : decode cX4_image 154 = .ok (.getfield 38, 3) := by decide +kernel
theorem dX4_image_157 : decode cX4_image 157 = .ok (.iload_n 1, 1) := by decide +kernel
theorem dX4_image_158 : decode cX4_image 158 = .ok (.iaload, 1) := by decide +kernel
theorem dX4_image_159 : decode cX4_image 159 = .ok (.iastore, 1) := by decide +kernel
theorem dX4_image_160 : decode cX4_image 160 = .ok (.iinc 1 1, 3) := by decide +kernel
theorem dX4_image_163 : decode cX4_image 163 = .ok (.goto (-45), 3) := by decide +kernel
theorem dX4_image_166 : decode cX4_image 166 = .ok (.aload_n 0, 1) := by decide +kernel
theorem dX4_image_167 : decode cX4_image 167 = .ok (.getfield 111, 3) := by decide +kernel
theorem dX4_image_170 : decode cX4_image 170 = .ok (.aload_n 0, 1) := by decide +kernel
theorem dX4_image_171 : decode cX4_image 171 = .ok (.invokevirtual 191, 3) := by decide +kernel
theorem dX4_image_174 : decode cX4_image 174 = .ok (.isub, 1) := by decide +kernel
theorem dX4_image_175 : decode cX4_image 175 = .ok (.ireturn, 1) := by decide +kernel
theorem dX4_restore_0 : decode cX4_restore 0 = .ok (.aload_n 0, 1) := by decide +kernel
theorem dX4_restore_1 : decode cX4_restore 1 = .ok (.getfield 229, 3) := by decide +kernel
theorem dX4_restore_4 : decode cX4_restore 4 = .ok (.ifCond .eq 14, 3) := by decide +kernel
theorem dX4_restore_7 : decode cX4_restore 7 = .ok (.aload_n 0, 1) := by decide +kernel
theorem dX4_restore_8 : decode cX4_restore 8 = .ok (.getfield 232, 3) := by decide +kernel
theorem dX4_restore_11 : decode cX4_restore 11 = .ok (.aload_n 0, 1) := by decide +kernel
theorem dX4_restore_12 : decode cX4_restore 12 = .ok (.getfield 114, 3) := by decide +kernel
theorem dX4_restore_15 : decode cX4_restore 15 = .ok (.if_icmp .eq 6, 3) := by decide +kernel
theorem dX4_restore_18 : decode cX4_restore 18 = .ok (.bipush (-103), 2) := by decide +kernel
theorem dX4_restore_20 : decode cX4_restore 20 = .ok (.ireturn, 1) := by decide +kernel
theorem dX4_restore_21 : decode cX4_restore 21 = .ok (.aload_n 0, 1) := by decide +kernel
theorem dX4_restore_22 : decode cX4_restore 22 = .ok (.aload_n 0, 1) := by decide +kernel
theorem dX4_restore_23 : decode cX4_restore 23 = .ok (.getfield 235, 3) := by decide +kernel
theorem dX4_restore_26 : decode cX4_restore 26 = .ok (.putfield 111, 3) := by decide +kernel
theorem dX4_restore_29 : decode cX4_restore 29 = .ok (.aload_n 0, 1) := by decide +kernel
theorem dX4_restore_30 : decode cX4_restore 30 = .ok (.aload_n 0, 1) := by decide +kernel
theorem dX4_restore_31 : decode cX4_restore 31 = .ok (.getfield 238, 3) := by decide +kernel
theorem dX4_restore_34 : decode cX4_restore 34 = .ok (.putfield 117, 3) := by decide +kernel
theorem dX4_restore_37 : decode cX4_restore 37 = .ok (.aload_n 0, 1) := by decide +kernel
theorem dX4_restore_38 : decode cX4_restore 38 = .ok (.aload_n 0, 1) := by decide +kernel
theorem dX4_restore_39 : decode cX4_restore 39 = .ok (.getfield 241, 3) := by decide +kernel
theorem dX4_restore_42 : decode cX4_restore 42 = .ok (.putfield 120, 3) := by decide +kernel
theorem dX4_restore_45 : decode cX4_restore 45 = .ok (.aload_n 0, 1) := by decide +kernel
theorem dX4_restore_46 : decode cX4_restore 46 = .ok (.aload_n 0, 1) := by decide +kernel
theorem dX4_restore_47 : decode cX4_restore 47 = .ok (.getfield 244, 3) := by decide +kernel
theorem dX4_restore_50 : decode cX4_restore 50 = .ok (.putfield 123, 3) := by decide +kernel
theorem dX4_restore_53 : decode cX4_restore 53 = .ok (.iconst 0, 1) := by decide +kernel
theorem dX4_restore_54 : decode cX4_restore 54 = .ok (.istore_n 1, 1) := by decide +kernel
theorem dX4_restore_55 : decode cX4_restore 55 = .ok (.iload_n 1, 1) := by decide +kernel
theorem dX4_restore_56 : decode cX4_restore 56 = .ok (.iconst 4, 1) := by decide +kernel
theorem dX4_restore_57 : decode cX4_restore 57 = .ok (.if_icmp .ge 57, 3) := by decide +kernel
theorem dX4_restore_60 : decode cX4_restore 60 = .ok (.aload_n 0, 1) := by decide +kernel
theorem dX4_restore_61 : decode cX4_restore 61 = .ok (.getfield 13, 3) := by decide +kernel
theorem dX4_restore_64 : decode cX4_restore 64 = .ok (.iload_n 1, 1) := by decide +kernel
theorem dX4_restore_65 : decode cX4_restore 65 = .ok (.aload_n 0, 1) := by decide +kernel
theorem dX4_restore_66 : decode cX4_restore 66 = .ok (.getfield 54, 3) := by decide +kernel
theorem dX4_restore_69 : decode cX4_restore 69 = .ok (.iload_n 1, 1) := by decide +kernel
theorem dX4_restore_70 : decode cX4_restore 70 = .ok (.iaload, 1) := by decide +kernel
theorem dX4_restore_71 : decode cX4_restore 71 = .ok (.iastore, 1) := by decide +kernel
theorem dX4_restore_72 : decode cX4_restore 72 = .ok (.aload_n 0, 1) := by decide +kernel
theorem dX4_restore_73 : decode cX4_restore 73 = .ok (.getfield 16, 3) := by decide +kernel
theorem dX4_restore_76 : decode cX4_restore 76 = .ok (.iload_n 1, 1) := by decide +kernel
theorem dX4_restore_77 : decode cX4_restore 77 = .ok (.aload_n 0, 1) := by decide +kernel
theorem dX4_restore_78 : decode cX4_restore 78 = .ok (.getfield 57, 3) := by decide +kernel
theorem dX4_restore_81 : decode cX4_restore 81 = .ok (.iload_n 1, 1) := by decide +kernel
theorem dX4_restore_82 : decode cX4_restore 82 = .ok (.baload, 1) := by decide +kernel
theorem dX4_restore_83 : decode cX4_restore 83 = .ok (.bastore, 1) := by decide +kernel
theorem dX4_restore_84 : decode cX4_restore 84 = .ok (.aload_n 0, 1) := by decide +kernel
theorem dX4_restore_85 : decode cX4_restore 85 = .ok (.getfield 20, 3) := by decide +kernel
theorem dX4_restore_88 : decode cX4_restore 88 = .ok (.iload_n 1, 1) := by decide +kernel
theorem dX4_restore_89 : decode cX4_restore 89 = .ok (.aload_n 0, 1) := by decide +kernel
theorem dX4_restore_90 : decode cX4_restore 90 = .ok (.getfield 60, 3) := by decide +kernel
theorem dX4_restore_93 : decode cX4_restore 93 = .ok (.iload_n 1, 1) := by decide +kernel
theorem dX4_restore_94 : decode cX4_restore 94 = .ok (.iaload, 1) := by decide +kernel
theorem dX4_restore_95 : decode cX4_restore 95 = .ok (.iastore, 1) := by decide +kernel
theorem dX4_restore_96 : decode cX4_restore 96 = .ok (.aload_n 0, 1) := by decide +kernel
theorem dX4_restore_97 : decode cX4_restore 97 = .ok (.getfield 23, 3) := by decide +kernel
theorem dX4_restore_100 : decode cX4_restore 100 = .ok (.iload_n 1, 1) := by decide +kernel
theorem dX4_restore_101 : decode cX4_restore 101 = .ok (.aload_n 0, 1) := by decide +kernel
theorem dX4_restore_102 : decode cX4_restore 102 = .ok (.getfield 63, 3) := by decide +kernel
theorem dX4_restore_105 : decode cX4_restore 105 = .ok (.iload_n 1, 1) := by decide +kernel
theorem dX4_restore_106 : decode cX4_restore 106 = .ok (.iaload, 1) := by decide +kernel
theorem dX4_restore_107 : decode cX4_restore 107 = .ok (.iastore, 1) := by decide +kernel
theorem dX4_restore_108 : decode cX4_restore 108 = .ok (.iinc 1 1, 3) := by decide +kernel
theorem dX4_restore_111 : decode cX4_restore 111 = .ok (.goto (-56), 3) := by decide +kernel
theorem dX4_restore_114 : decode cX4_restore 114 = .ok (.iconst 0, 1) := by decide +kernel
theorem dX4_restore_115 : decode cX4_restore 115 = .ok (.istore_n 1, 1) := by decide +kernel
theorem dX4_restore_116 : decode cX4_restore 116 = .ok (.iload_n 1, 1) := by decide +kernel
theorem dX4_restore_117 : decode cX4_restore 117 = .ok (.bipush 6, 2) := by decide +kernel
theorem dX4_restore_119 : decode cX4_restore 119 = .ok (.if_icmp .ge 45, 3) := by decide +kernel
theorem dX4_restore_122 : decode cX4_restore 122 = .ok (.aload_n 0, 1) := by decide +kernel
theorem dX4_restore_123 : decode cX4_restore 123 = .ok (.getfield 32, 3) := by decide +kernel
theorem dX4_restore_126 : decode cX4_restore 126 = .ok (.iload_n 1, 1) := by decide +kernel
theorem dX4_restore_127 : decode cX4_restore 127 = .ok (.aload_n 0, 1) := by decide +kernel
theorem dX4_restore_128 : decode cX4_restore 128 = .ok (.getfield 66, 3) := by decide +kernel
theorem dX4_restore_131 : decode cX4_restore 131 = .ok (.iload_n 1, 1) := by decide +kernel
theorem dX4_restore_132 : decode cX4_restore 132 = .ok (.iaload, 1) := by decide +kernel
theorem dX4_restore_133 : decode cX4_restore 133 = .ok (.iastore, 1) := by decide +kernel
theorem dX4_restore_134 : decode cX4_restore 134 = .ok (.aload_n 0, 1) := by decide +kernel
theorem dX4_restore_135 : decode cX4_restore 135 = .ok (.getfield 35, 3) := by decide +kernel
theorem dX4_restore_138 : decode cX4_restore 138 = .ok (.iload_n 1, 1) := by decide +kernel
theorem dX4_restore_139 : decode cX4_restore 139 = .ok (.aload_n 0, 1) := by decide +kernel
theorem dX4_restore_140 : decode cX4_restore 140 = .ok (.getfield 69, 3) := by decide +kernel
theorem dX4_restore_143 : decode cX4_restore 143 = .ok (.iload_n 1, 1) := by decide +kernel
theorem dX4_restore_144 : decode cX4_restore 144 = .ok (.iaload, 1) := by decide +kernel
theorem dX4_restore_145 : decode cX4_restore 145 = .ok (.iastore, 1) := by decide +kernel
theorem dX4_restore_146 : decode cX4_restore 146 = .ok (.aload_n 0, 1) := by decide +kernel
theorem dX4_restore_147 : decode cX4_restore 147 = .ok (.getfield 38, 3) := by decide +kernel
theorem dX4_restore_150 : decode cX4_restore 150 = .ok (.iload_n 1, 1) := by decide +kernel
theorem dX4_restore_151 : decode cX4_restore 151 = .ok (.aload_n 0, 1) := by decide +kernel
theorem dX4_restore_152 : decode cX4_restore 152 = .ok (.getfield 72, 3) := by decide +kernel
theorem dX4_restore_155 : decode cX4_restore 155 = .ok (.iload_n 1, 1) := by decide +kernel
theorem dX4_restore_156 : decode cX4_restore 156 = .ok (.iaload, 1) := by decide +kernel
theorem dX4_restore_157 : decode cX4_restore 157 = .ok (.iastore, 1) := by decide +kernel
theorem dX4_restore_158 : decode cX4_restore 158 = .ok (.iinc 1 1, 3) := by decide +kernel
theorem dX4_restore_161 : decode cX4_restore 161 = .ok (.goto (-45), 3) := by decide +kernel
theorem dX4_restore_164 : decode cX4_restore 164 = .ok (.aload_n 0, 1) := by decide +kernel
theorem dX4_restore_165 : decode cX4_restore 165 = .ok (.getfield 111, 3) := by decide +kernel
theorem dX4_restore_168 : decode cX4_restore 168 = .ok (.aload_n 0, 1) := by decide +kernel
theorem dX4_restore_169 : decode cX4_restore 169 = .ok (.invokevirtual 191, 3) := by decide +kernel
theorem dX4_restore_172 : decode cX4_restore 172 = .ok (.isub, 1) := by decide +kernel
theorem dX4_restore_173 : decode cX4_restore 173 = .ok (.ireturn, 1) := by decide +kernel
theorem dX4_living_0 : decode cX4_living 0 = .ok (.iconst 0, 1) := by decide +kernel
theorem dX4_living_1 : decode cX4_living 1 = .ok (.istore_n 1, 1) := by decide +kernel
theorem dX4_living_2 : decode cX4_living 2 = .ok (.iconst 0, 1) := by decide +kernel
theorem dX4_living_3 : decode cX4_living 3 = .ok (.istore_n 2, 1) := by decide +kernel
theorem dX4_living_4 : decode cX4_living 4 = .ok (.iload_n 2, 1) := by decide +kernel
theorem dX4_living_5 : decode cX4_living 5 = .ok (.aload_n 0, 1) := by decide +kernel
theorem dX4_living_6 : decode cX4_living 6 = .ok (.getfield 108, 3) := by decide +kernel
theorem dX4_living_9 : decode cX4_living 9 = .ok (.if_icmp .ge 26, 3) := by decide +kernel
theorem dX4_living_12 : decode cX4_living 12 = .ok (.iload_n 1, 1) := by decide +kernel
theorem dX4_living_13 : decode cX4_living 13 = .ok (.aload_n 0, 1) := by decide +kernel
theorem dX4_living_14 : decode cX4_living 14 = .ok (.getfield 16, 3) := by decide +kernel
theorem dX4_living_17 : decode cX4_living 17 = .ok (.iload_n 2, 1) := by decide +kernel
theorem dX4_living_18 : decode cX4_living 18 = .ok (.baload, 1) := by decide +kernel
theorem dX4_living_19 : decode cX4_living 19 = .ok (.ifCond .eq 7, 3) := by decide +kernel
theorem dX4_living_22 : decode cX4_living 22 = .ok (.iconst 1, 1) := by decide +kernel
theorem dX4_living_23 : decode cX4_living 23 = .ok (.goto 4, 3) := by decide +kernel
theorem dX4_living_26 : decode cX4_living 26 = .ok (.iconst 0, 1) := by decide +kernel
theorem dX4_living_27 : decode cX4_living 27 = .ok (.iadd, 1) := by decide +kernel
theorem dX4_living_28 : decode cX4_living 28 = .ok (.istore_n 1, 1) := by decide +kernel
theorem dX4_living_29 : decode cX4_living 29 = .ok (.iinc 2 1, 3) := by decide +kernel
theorem dX4_living_32 : decode cX4_living 32 = .ok (.goto (-28), 3) := by decide +kernel
theorem dX4_living_35 : decode cX4_living 35 = .ok (.iload_n 1, 1) := by decide +kernel
theorem dX4_living_36 : decode cX4_living 36 = .ok (.ireturn, 1) := by decide +kernel
theorem dX4_paidAll_0 : decode cX4_paidAll 0 = .ok (.iconst 0, 1) := by decide +kernel
theorem dX4_paidAll_1 : decode cX4_paidAll 1 = .ok (.istore_n 1, 1) := by decide +kernel
theorem dX4_paidAll_2 : decode cX4_paidAll 2 = .ok (.iconst 0, 1) := by decide +kernel
theorem dX4_paidAll_3 : decode cX4_paidAll 3 = .ok (.istore_n 2, 1) := by decide +kernel
theorem dX4_paidAll_4 : decode cX4_paidAll 4 = .ok (.iload_n 2, 1) := by decide +kernel
theorem dX4_paidAll_5 : decode cX4_paidAll 5 = .ok (.aload_n 0, 1) := by decide +kernel
theorem dX4_paidAll_6 : decode cX4_paidAll 6 = .ok (.getfield 108, 3) := by decide +kernel
theorem dX4_paidAll_9 : decode cX4_paidAll 9 = .ok (.if_icmp .ge 18, 3) := by decide +kernel
theorem dX4_paidAll_12 : decode cX4_paidAll 12 = .ok (.iload_n 1, 1) := by decide +kernel
theorem dX4_paidAll_13 : decode cX4_paidAll 13 = .ok (.aload_n 0, 1) := by decide +kernel
theorem dX4_paidAll_14 : decode cX4_paidAll 14 = .ok (.getfield 23, 3) := by decide +kernel
theorem dX4_paidAll_17 : decode cX4_paidAll 17 = .ok (.iload_n 2, 1) := by decide +kernel
theorem dX4_paidAll_18 : decode cX4_paidAll 18 = .ok (.iaload, 1) := by decide +kernel
theorem dX4_paidAll_19 : decode cX4_paidAll 19 = .ok (.iadd, 1) := by decide +kernel
theorem dX4_paidAll_20 : decode cX4_paidAll 20 = .ok (.istore_n 1, 1) := by decide +kernel
theorem dX4_paidAll_21 : decode cX4_paidAll 21 = .ok (.iinc 2 1, 3) := by decide +kernel
theorem dX4_paidAll_24 : decode cX4_paidAll 24 = .ok (.goto (-20), 3) := by decide +kernel
theorem dX4_paidAll_27 : decode cX4_paidAll 27 = .ok (.iload_n 1, 1) := by decide +kernel
theorem dX4_paidAll_28 : decode cX4_paidAll 28 = .ok (.ireturn, 1) := by decide +kernel
theorem dX4_howMany_0 : decode cX4_howMany 0 = .ok (.iload_n 1, 1) := by decide +kernel
theorem dX4_howMany_1 : decode cX4_howMany 1 = .ok (.tableswitch 119 0 10 #[59, 64, 69, 74, 84, 89, 94, 99, 104, 109, 114], 59) := by decide +kernel
theorem dX4_howMany_60 : decode cX4_howMany 60 = .ok (.aload_n 0, 1) := by decide +kernel
theorem dX4_howMany_61 : decode cX4_howMany 61 = .ok (.getfield 108, 3) := by decide +kernel
theorem dX4_howMany_64 : decode cX4_howMany 64 = .ok (.ireturn, 1) := by decide +kernel
theorem dX4_howMany_65 : decode cX4_howMany 65 = .ok (.aload_n 0, 1) := by decide +kernel
theorem dX4_howMany_66 : decode cX4_howMany 66 = .ok (.invokevirtual 247, 3) := by decide +kernel
theorem dX4_howMany_69 : decode cX4_howMany 69 = .ok (.ireturn, 1) := by decide +kernel
theorem dX4_howMany_70 : decode cX4_howMany 70 = .ok (.aload_n 0, 1) := by decide +kernel
theorem dX4_howMany_71 : decode cX4_howMany 71 = .ok (.getfield 111, 3) := by decide +kernel
theorem dX4_howMany_74 : decode cX4_howMany 74 = .ok (.ireturn, 1) := by decide +kernel
theorem dX4_howMany_75 : decode cX4_howMany 75 = .ok (.aload_n 0, 1) := by decide +kernel
theorem dX4_howMany_76 : decode cX4_howMany 76 = .ok (.getfield 111, 3) := by decide +kernel
theorem dX4_howMany_79 : decode cX4_howMany 79 = .ok (.aload_n 0, 1) := by decide +kernel
theorem dX4_howMany_80 : decode cX4_howMany 80 = .ok (.invokevirtual 191, 3) := by decide +kernel
theorem dX4_howMany_83 : decode cX4_howMany 83 = .ok (.isub, 1) := by decide +kernel
theorem dX4_howMany_84 : decode cX4_howMany 84 = .ok (.ireturn, 1) := by decide +kernel
theorem dX4_howMany_85 : decode cX4_howMany 85 = .ok (.aload_n 0, 1) := by decide +kernel
theorem dX4_howMany_86 : decode cX4_howMany 86 = .ok (.invokevirtual 184, 3) := by decide +kernel
theorem dX4_howMany_89 : decode cX4_howMany 89 = .ok (.ireturn, 1) := by decide +kernel
theorem dX4_howMany_90 : decode cX4_howMany 90 = .ok (.aload_n 0, 1) := by decide +kernel
theorem dX4_howMany_91 : decode cX4_howMany 91 = .ok (.invokevirtual 250, 3) := by decide +kernel
theorem dX4_howMany_94 : decode cX4_howMany 94 = .ok (.ireturn, 1) := by decide +kernel
theorem dX4_howMany_95 : decode cX4_howMany 95 = .ok (.aload_n 0, 1) := by decide +kernel
theorem dX4_howMany_96 : decode cX4_howMany 96 = .ok (.getfield 120, 3) := by decide +kernel
theorem dX4_howMany_99 : decode cX4_howMany 99 = .ok (.ireturn, 1) := by decide +kernel
theorem dX4_howMany_100 : decode cX4_howMany 100 = .ok (.aload_n 0, 1) := by decide +kernel
theorem dX4_howMany_101 : decode cX4_howMany 101 = .ok (.getfield 123, 3) := by decide +kernel
theorem dX4_howMany_104 : decode cX4_howMany 104 = .ok (.ireturn, 1) := by decide +kernel
theorem dX4_howMany_105 : decode cX4_howMany 105 = .ok (.aload_n 0, 1) := by decide +kernel
theorem dX4_howMany_106 : decode cX4_howMany 106 = .ok (.getfield 79, 3) := by decide +kernel
theorem dX4_howMany_109 : decode cX4_howMany 109 = .ok (.ireturn, 1) := by decide +kernel
theorem dX4_howMany_110 : decode cX4_howMany 110 = .ok (.aload_n 0, 1) := by decide +kernel
theorem dX4_howMany_111 : decode cX4_howMany 111 = .ok (.getfield 114, 3) := by decide +kernel
theorem dX4_howMany_114 : decode cX4_howMany 114 = .ok (.ireturn, 1) := by decide +kernel
theorem dX4_howMany_115 : decode cX4_howMany 115 = .ok (.aload_n 0, 1) := by decide +kernel
theorem dX4_howMany_116 : decode cX4_howMany 116 = .ok (.getfield 197, 3) := by decide +kernel
theorem dX4_howMany_119 : decode cX4_howMany 119 = .ok (.ireturn, 1) := by decide +kernel
theorem dX4_howMany_120 : decode cX4_howMany 120 = .ok (.bipush (-102), 2) := by decide +kernel
theorem dX4_howMany_122 : decode cX4_howMany 122 = .ok (.ireturn, 1) := by decide +kernel
theorem dX4_count_0 : decode cX4_count 0 = .ok (.aload_n 0, 1) := by decide +kernel
theorem dX4_count_1 : decode cX4_count 1 = .ok (.iload_n 1, 1) := by decide +kernel
theorem dX4_count_2 : decode cX4_count 2 = .ok (.invokevirtual 253, 3) := by decide +kernel
theorem dX4_count_5 : decode cX4_count 5 = .ok (.ireturn, 1) := by decide +kernel
theorem dX4_mix_0 : decode cX4_mix 0 = .ok (.aload_n 0, 1) := by decide +kernel
theorem dX4_mix_1 : decode cX4_mix 1 = .ok (.ldc2_w 256, 3) := by decide +kernel
theorem dX4_mix_4 : decode cX4_mix 4 = .ok (.aload_n 0, 1) := by decide +kernel
theorem dX4_mix_5 : decode cX4_mix 5 = .ok (.getfield 258, 3) := by decide +kernel
theorem dX4_mix_8 : decode cX4_mix 8 = .ok (.lmul, 1) := by decide +kernel
theorem dX4_mix_9 : decode cX4_mix 9 = .ok (.lload_n 1, 1) := by decide +kernel
theorem dX4_mix_10 : decode cX4_mix 10 = .ok (.ladd, 1) := by decide +kernel
theorem dX4_mix_11 : decode cX4_mix 11 = .ok (.putfield 258, 3) := by decide +kernel
theorem dX4_mix_14 : decode cX4_mix 14 = .ok (.return_, 1) := by decide +kernel
theorem dX4_digest_0 : decode cX4_digest 0 = .ok (.aload_n 0, 1) := by decide +kernel
theorem dX4_digest_1 : decode cX4_digest 1 = .ok (.ldc2_w 261, 3) := by decide +kernel
theorem dX4_digest_4 : decode cX4_digest 4 = .ok (.putfield 258, 3) := by decide +kernel
theorem dX4_digest_7 : decode cX4_digest 7 = .ok (.iconst 0, 1) := by decide +kernel
theorem dX4_digest_8 : decode cX4_digest 8 = .ok (.istore_n 1, 1) := by decide +kernel
theorem dX4_digest_9 : decode cX4_digest 9 = .ok (.iload_n 1, 1) := by decide +kernel
theorem dX4_digest_10 : decode cX4_digest 10 = .ok (.aload_n 0, 1) := by decide +kernel
theorem dX4_digest_11 : decode cX4_digest 11 = .ok (.getfield 108, 3) := by decide +kernel
theorem dX4_digest_14 : decode cX4_digest 14 = .ok (.if_icmp .ge 34, 3) := by decide +kernel
theorem dX4_digest_17 : decode cX4_digest 17 = .ok (.iconst 0, 1) := by decide +kernel
theorem dX4_digest_18 : decode cX4_digest 18 = .ok (.istore_n 2, 1) := by decide +kernel
theorem dX4_digest_19 : decode cX4_digest 19 = .ok (.iload_n 2, 1) := by decide +kernel
theorem dX4_digest_20 : decode cX4_digest 20 = .ok (.bipush 8, 2) := by decide +kernel
theorem dX4_digest_22 : decode cX4_digest 22 = .ok (.if_icmp .ge 20, 3) := by decide +kernel
theorem dX4_digest_25 : decode cX4_digest 25 = .ok (.aload_n 0, 1) := by decide +kernel
theorem dX4_digest_26 : decode cX4_digest 26 = .ok (.aload_n 0, 1) := by decide +kernel
theorem dX4_digest_27 : decode cX4_digest 27 = .ok (.iload_n 1, 1) := by decide +kernel
theorem dX4_digest_28 : decode cX4_digest 28 = .ok (.iload_n 2, 1) := by decide +kernel
theorem dX4_digest_29 : decode cX4_digest 29 = .ok (.invokevirtual 166, 3) := by decide +kernel
theorem dX4_digest_32 : decode cX4_digest 32 = .ok (.i2l, 1) := by decide +kernel
theorem dX4_digest_33 : decode cX4_digest 33 = .ok (.invokevirtual 263, 3) := by decide +kernel
theorem dX4_digest_36 : decode cX4_digest 36 = .ok (.iinc 2 1, 3) := by decide +kernel
theorem dX4_digest_39 : decode cX4_digest 39 = .ok (.goto (-20), 3) := by decide +kernel
theorem dX4_digest_42 : decode cX4_digest 42 = .ok (.iinc 1 1, 3) := by decide +kernel
theorem dX4_digest_45 : decode cX4_digest 45 = .ok (.goto (-36), 3) := by decide +kernel
theorem dX4_digest_48 : decode cX4_digest 48 = .ok (.iconst 0, 1) := by decide +kernel
theorem dX4_digest_49 : decode cX4_digest 49 = .ok (.istore_n 1, 1) := by decide +kernel
theorem dX4_digest_50 : decode cX4_digest 50 = .ok (.iload_n 1, 1) := by decide +kernel
theorem dX4_digest_51 : decode cX4_digest 51 = .ok (.aload_n 0, 1) := by decide +kernel
theorem dX4_digest_52 : decode cX4_digest 52 = .ok (.getfield 111, 3) := by decide +kernel
theorem dX4_digest_55 : decode cX4_digest 55 = .ok (.if_icmp .ge 33, 3) := by decide +kernel
theorem dX4_digest_58 : decode cX4_digest 58 = .ok (.iconst 0, 1) := by decide +kernel
theorem dX4_digest_59 : decode cX4_digest 59 = .ok (.istore_n 2, 1) := by decide +kernel
theorem dX4_digest_60 : decode cX4_digest 60 = .ok (.iload_n 2, 1) := by decide +kernel
theorem dX4_digest_61 : decode cX4_digest 61 = .ok (.iconst 5, 1) := by decide +kernel
theorem dX4_digest_62 : decode cX4_digest 62 = .ok (.if_icmp .ge 20, 3) := by decide +kernel
theorem dX4_digest_65 : decode cX4_digest 65 = .ok (.aload_n 0, 1) := by decide +kernel
theorem dX4_digest_66 : decode cX4_digest 66 = .ok (.aload_n 0, 1) := by decide +kernel
theorem dX4_digest_67 : decode cX4_digest 67 = .ok (.iload_n 1, 1) := by decide +kernel
theorem dX4_digest_68 : decode cX4_digest 68 = .ok (.iload_n 2, 1) := by decide +kernel
theorem dX4_digest_69 : decode cX4_digest 69 = .ok (.invokevirtual 178, 3) := by decide +kernel
theorem dX4_digest_72 : decode cX4_digest 72 = .ok (.i2l, 1) := by decide +kernel
theorem dX4_digest_73 : decode cX4_digest 73 = .ok (.invokevirtual 263, 3) := by decide +kernel
theorem dX4_digest_76 : decode cX4_digest 76 = .ok (.iinc 2 1, 3) := by decide +kernel
theorem dX4_digest_79 : decode cX4_digest 79 = .ok (.goto (-19), 3) := by decide +kernel
theorem dX4_digest_82 : decode cX4_digest 82 = .ok (.iinc 1 1, 3) := by decide +kernel
theorem dX4_digest_85 : decode cX4_digest 85 = .ok (.goto (-35), 3) := by decide +kernel
theorem dX4_digest_88 : decode cX4_digest 88 = .ok (.iconst 0, 1) := by decide +kernel
theorem dX4_digest_89 : decode cX4_digest 89 = .ok (.istore_n 1, 1) := by decide +kernel
theorem dX4_digest_90 : decode cX4_digest 90 = .ok (.iload_n 1, 1) := by decide +kernel
theorem dX4_digest_91 : decode cX4_digest 91 = .ok (.aload_n 0, 1) := by decide +kernel
theorem dX4_digest_92 : decode cX4_digest 92 = .ok (.getfield 79, 3) := by decide +kernel
theorem dX4_digest_95 : decode cX4_digest 95 = .ok (.if_icmp .ge 20, 3) := by decide +kernel
theorem dX4_digest_98 : decode cX4_digest 98 = .ok (.aload_n 0, 1) := by decide +kernel
theorem dX4_digest_99 : decode cX4_digest 99 = .ok (.aload_n 0, 1) := by decide +kernel
theorem dX4_digest_100 : decode cX4_digest 100 = .ok (.getfield 41, 3) := by decide +kernel
theorem dX4_digest_103 : decode cX4_digest 103 = .ok (.iload_n 1, 1) := by decide +kernel
theorem dX4_digest_104 : decode cX4_digest 104 = .ok (.baload, 1) := by decide +kernel
theorem dX4_digest_105 : decode cX4_digest 105 = .ok (.i2l, 1) := by decide +kernel
theorem dX4_digest_106 : decode cX4_digest 106 = .ok (.invokevirtual 263, 3) := by decide +kernel
theorem dX4_digest_109 : decode cX4_digest 109 = .ok (.iinc 1 1, 3) := by decide +kernel
theorem dX4_digest_112 : decode cX4_digest 112 = .ok (.goto (-22), 3) := by decide +kernel
theorem dX4_digest_115 : decode cX4_digest 115 = .ok (.iconst 0, 1) := by decide +kernel
theorem dX4_digest_116 : decode cX4_digest 116 = .ok (.istore_n 1, 1) := by decide +kernel
theorem dX4_digest_117 : decode cX4_digest 117 = .ok (.iload_n 1, 1) := by decide +kernel
theorem dX4_digest_118 : decode cX4_digest 118 = .ok (.bipush 11, 2) := by decide +kernel
theorem dX4_digest_120 : decode cX4_digest 120 = .ok (.if_icmp .ge 19, 3) := by decide +kernel
theorem dX4_digest_123 : decode cX4_digest 123 = .ok (.aload_n 0, 1) := by decide +kernel
theorem dX4_digest_124 : decode cX4_digest 124 = .ok (.aload_n 0, 1) := by decide +kernel
theorem dX4_digest_125 : decode cX4_digest 125 = .ok (.iload_n 1, 1) := by decide +kernel
theorem dX4_digest_126 : decode cX4_digest 126 = .ok (.invokevirtual 253, 3) := by decide +kernel
theorem dX4_digest_129 : decode cX4_digest 129 = .ok (.i2l, 1) := by decide +kernel
theorem dX4_digest_130 : decode cX4_digest 130 = .ok (.invokevirtual 263, 3) := by decide +kernel
theorem dX4_digest_133 : decode cX4_digest 133 = .ok (.iinc 1 1, 3) := by decide +kernel
theorem dX4_digest_136 : decode cX4_digest 136 = .ok (.goto (-19), 3) := by decide +kernel
theorem dX4_digest_139 : decode cX4_digest 139 = .ok (.aload_n 0, 1) := by decide +kernel
theorem dX4_digest_140 : decode cX4_digest 140 = .ok (.getfield 258, 3) := by decide +kernel
theorem dX4_digest_143 : decode cX4_digest 143 = .ok (.lreturn, 1) := by decide +kernel
theorem dJ11_isValidCodePoint_9a6ad_0 : decode cJ11_isValidCodePoint_9a6ad 0 = .ok (.iload_n 0, 1) := by decide +kernel
theorem dJ11_isValidCodePoint_9a6ad_1 : decode cJ11_isValidCodePoint_9a6ad 1 = .ok (.bipush 16, 2) := by decide +kernel
theorem dJ11_isValidCodePoint_9a6ad_3 : decode cJ11_isValidCodePoint_9a6ad 3 = .ok (.iushr, 1) := by decide +kernel
theorem dJ11_isValidCodePoint_9a6ad_4 : decode cJ11_isValidCodePoint_9a6ad 4 = .ok (.istore_n 1, 1) := by decide +kernel
theorem dJ11_isValidCodePoint_9a6ad_5 : decode cJ11_isValidCodePoint_9a6ad 5 = .ok (.iload_n 1, 1) := by decide +kernel
theorem dJ11_isValidCodePoint_9a6ad_6 : decode cJ11_isValidCodePoint_9a6ad 6 = .ok (.bipush 17, 2) := by decide +kernel
theorem dJ11_isValidCodePoint_9a6ad_8 : decode cJ11_isValidCodePoint_9a6ad 8 = .ok (.if_icmp .ge 7, 3) := by decide +kernel
theorem dJ11_isValidCodePoint_9a6ad_11 : decode cJ11_isValidCodePoint_9a6ad 11 = .ok (.iconst 1, 1) := by decide +kernel
theorem dJ11_isValidCodePoint_9a6ad_12 : decode cJ11_isValidCodePoint_9a6ad 12 = .ok (.goto 4, 3) := by decide +kernel
theorem dJ11_isValidCodePoint_9a6ad_15 : decode cJ11_isValidCodePoint_9a6ad 15 = .ok (.iconst 0, 1) := by decide +kernel
theorem dJ11_isValidCodePoint_9a6ad_16 : decode cJ11_isValidCodePoint_9a6ad 16 = .ok (.ireturn, 1) := by decide +kernel
theorem dJ11_highSurrogate_5068e_0 : decode cJ11_highSurrogate_5068e 0 = .ok (.iload_n 0, 1) := by decide +kernel
theorem dJ11_highSurrogate_5068e_1 : decode cJ11_highSurrogate_5068e 1 = .ok (.bipush 10, 2) := by decide +kernel
theorem dJ11_highSurrogate_5068e_3 : decode cJ11_highSurrogate_5068e 3 = .ok (.iushr, 1) := by decide +kernel
theorem dJ11_highSurrogate_5068e_4 : decode cJ11_highSurrogate_5068e 4 = .ok (.ldc 110, 2) := by decide +kernel
theorem dJ11_highSurrogate_5068e_6 : decode cJ11_highSurrogate_5068e 6 = .ok (.iadd, 1) := by decide +kernel
theorem dJ11_highSurrogate_5068e_7 : decode cJ11_highSurrogate_5068e 7 = .ok (.i2c, 1) := by decide +kernel
theorem dJ11_highSurrogate_5068e_8 : decode cJ11_highSurrogate_5068e 8 = .ok (.ireturn, 1) := by decide +kernel
theorem dJ11_lowSurrogate_5068e_0 : decode cJ11_lowSurrogate_5068e 0 = .ok (.iload_n 0, 1) := by decide +kernel
theorem dJ11_lowSurrogate_5068e_1 : decode cJ11_lowSurrogate_5068e 1 = .ok (.sipush 1023, 3) := by decide +kernel
theorem dJ11_lowSurrogate_5068e_4 : decode cJ11_lowSurrogate_5068e 4 = .ok (.iand, 1) := by decide +kernel
theorem dJ11_lowSurrogate_5068e_5 : decode cJ11_lowSurrogate_5068e 5 = .ok (.ldc 76, 2) := by decide +kernel
theorem dJ11_lowSurrogate_5068e_7 : decode cJ11_lowSurrogate_5068e 7 = .ok (.iadd, 1) := by decide +kernel
theorem dJ11_lowSurrogate_5068e_8 : decode cJ11_lowSurrogate_5068e 8 = .ok (.i2c, 1) := by decide +kernel
theorem dJ11_lowSurrogate_5068e_9 : decode cJ11_lowSurrogate_5068e 9 = .ok (.ireturn, 1) := by decide +kernel
theorem dJ6_bitCount_0f7a4_0 : decode cJ6_bitCount_0f7a4 0 = .ok (.iload_n 0, 1) := by decide +kernel
theorem dJ6_bitCount_0f7a4_1 : decode cJ6_bitCount_0f7a4 1 = .ok (.iload_n 0, 1) := by decide +kernel
theorem dJ6_bitCount_0f7a4_2 : decode cJ6_bitCount_0f7a4 2 = .ok (.iconst 1, 1) := by decide +kernel
theorem dJ6_bitCount_0f7a4_3 : decode cJ6_bitCount_0f7a4 3 = .ok (.iushr, 1) := by decide +kernel
theorem dJ6_bitCount_0f7a4_4 : decode cJ6_bitCount_0f7a4 4 = .ok (.ldc_w 265, 3) := by decide +kernel
theorem dJ6_bitCount_0f7a4_7 : decode cJ6_bitCount_0f7a4 7 = .ok (.iand, 1) := by decide +kernel
theorem dJ6_bitCount_0f7a4_8 : decode cJ6_bitCount_0f7a4 8 = .ok (.isub, 1) := by decide +kernel
theorem dJ6_bitCount_0f7a4_9 : decode cJ6_bitCount_0f7a4 9 = .ok (.istore_n 0, 1) := by decide +kernel
theorem dJ6_bitCount_0f7a4_10 : decode cJ6_bitCount_0f7a4 10 = .ok (.iload_n 0, 1) := by decide +kernel
theorem dJ6_bitCount_0f7a4_11 : decode cJ6_bitCount_0f7a4 11 = .ok (.ldc_w 266, 3) := by decide +kernel
theorem dJ6_bitCount_0f7a4_14 : decode cJ6_bitCount_0f7a4 14 = .ok (.iand, 1) := by decide +kernel
theorem dJ6_bitCount_0f7a4_15 : decode cJ6_bitCount_0f7a4 15 = .ok (.iload_n 0, 1) := by decide +kernel
theorem dJ6_bitCount_0f7a4_16 : decode cJ6_bitCount_0f7a4 16 = .ok (.iconst 2, 1) := by decide +kernel
theorem dJ6_bitCount_0f7a4_17 : decode cJ6_bitCount_0f7a4 17 = .ok (.iushr, 1) := by decide +kernel
theorem dJ6_bitCount_0f7a4_18 : decode cJ6_bitCount_0f7a4 18 = .ok (.ldc_w 266, 3) := by decide +kernel
theorem dJ6_bitCount_0f7a4_21 : decode cJ6_bitCount_0f7a4 21 = .ok (.iand, 1) := by decide +kernel
theorem dJ6_bitCount_0f7a4_22 : decode cJ6_bitCount_0f7a4 22 = .ok (.iadd, 1) := by decide +kernel
theorem dJ6_bitCount_0f7a4_23 : decode cJ6_bitCount_0f7a4 23 = .ok (.istore_n 0, 1) := by decide +kernel
theorem dJ6_bitCount_0f7a4_24 : decode cJ6_bitCount_0f7a4 24 = .ok (.iload_n 0, 1) := by decide +kernel
theorem dJ6_bitCount_0f7a4_25 : decode cJ6_bitCount_0f7a4 25 = .ok (.iload_n 0, 1) := by decide +kernel
theorem dJ6_bitCount_0f7a4_26 : decode cJ6_bitCount_0f7a4 26 = .ok (.iconst 4, 1) := by decide +kernel
theorem dJ6_bitCount_0f7a4_27 : decode cJ6_bitCount_0f7a4 27 = .ok (.iushr, 1) := by decide +kernel
theorem dJ6_bitCount_0f7a4_28 : decode cJ6_bitCount_0f7a4 28 = .ok (.iadd, 1) := by decide +kernel
theorem dJ6_bitCount_0f7a4_29 : decode cJ6_bitCount_0f7a4 29 = .ok (.ldc_w 267, 3) := by decide +kernel
theorem dJ6_bitCount_0f7a4_32 : decode cJ6_bitCount_0f7a4 32 = .ok (.iand, 1) := by decide +kernel
theorem dJ6_bitCount_0f7a4_33 : decode cJ6_bitCount_0f7a4 33 = .ok (.istore_n 0, 1) := by decide +kernel
theorem dJ6_bitCount_0f7a4_34 : decode cJ6_bitCount_0f7a4 34 = .ok (.iload_n 0, 1) := by decide +kernel
theorem dJ6_bitCount_0f7a4_35 : decode cJ6_bitCount_0f7a4 35 = .ok (.iload_n 0, 1) := by decide +kernel
theorem dJ6_bitCount_0f7a4_36 : decode cJ6_bitCount_0f7a4 36 = .ok (.bipush 8, 2) := by decide +kernel
theorem dJ6_bitCount_0f7a4_38 : decode cJ6_bitCount_0f7a4 38 = .ok (.iushr, 1) := by decide +kernel
theorem dJ6_bitCount_0f7a4_39 : decode cJ6_bitCount_0f7a4 39 = .ok (.iadd, 1) := by decide +kernel
theorem dJ6_bitCount_0f7a4_40 : decode cJ6_bitCount_0f7a4 40 = .ok (.istore_n 0, 1) := by decide +kernel
theorem dJ6_bitCount_0f7a4_41 : decode cJ6_bitCount_0f7a4 41 = .ok (.iload_n 0, 1) := by decide +kernel
theorem dJ6_bitCount_0f7a4_42 : decode cJ6_bitCount_0f7a4 42 = .ok (.iload_n 0, 1) := by decide +kernel
theorem dJ6_bitCount_0f7a4_43 : decode cJ6_bitCount_0f7a4 43 = .ok (.bipush 16, 2) := by decide +kernel
theorem dJ6_bitCount_0f7a4_45 : decode cJ6_bitCount_0f7a4 45 = .ok (.iushr, 1) := by decide +kernel
theorem dJ6_bitCount_0f7a4_46 : decode cJ6_bitCount_0f7a4 46 = .ok (.iadd, 1) := by decide +kernel
theorem dJ6_bitCount_0f7a4_47 : decode cJ6_bitCount_0f7a4 47 = .ok (.istore_n 0, 1) := by decide +kernel
theorem dJ6_bitCount_0f7a4_48 : decode cJ6_bitCount_0f7a4 48 = .ok (.iload_n 0, 1) := by decide +kernel
theorem dJ6_bitCount_0f7a4_49 : decode cJ6_bitCount_0f7a4 49 = .ok (.bipush 63, 2) := by decide +kernel
theorem dJ6_bitCount_0f7a4_51 : decode cJ6_bitCount_0f7a4 51 = .ok (.iand, 1) := by decide +kernel
theorem dJ6_bitCount_0f7a4_52 : decode cJ6_bitCount_0f7a4 52 = .ok (.ireturn, 1) := by decide +kernel
theorem dJ9_max_7cf53_0 : decode cJ9_max_7cf53 0 = .ok (.iload_n 0, 1) := by decide +kernel
theorem dJ9_max_7cf53_1 : decode cJ9_max_7cf53 1 = .ok (.iload_n 1, 1) := by decide +kernel
theorem dJ9_max_7cf53_2 : decode cJ9_max_7cf53 2 = .ok (.if_icmp .lt 7, 3) := by decide +kernel
theorem dJ9_max_7cf53_5 : decode cJ9_max_7cf53 5 = .ok (.iload_n 0, 1) := by decide +kernel
theorem dJ9_max_7cf53_6 : decode cJ9_max_7cf53 6 = .ok (.goto 4, 3) := by decide +kernel
theorem dJ9_max_7cf53_9 : decode cJ9_max_7cf53 9 = .ok (.iload_n 1, 1) := by decide +kernel
theorem dJ9_max_7cf53_10 : decode cJ9_max_7cf53 10 = .ok (.ireturn, 1) := by decide +kernel
theorem dJ9_min_7cf53_0 : decode cJ9_min_7cf53 0 = .ok (.iload_n 0, 1) := by decide +kernel
theorem dJ9_min_7cf53_1 : decode cJ9_min_7cf53 1 = .ok (.iload_n 1, 1) := by decide +kernel
theorem dJ9_min_7cf53_2 : decode cJ9_min_7cf53 2 = .ok (.if_icmp .gt 7, 3) := by decide +kernel
theorem dJ9_min_7cf53_5 : decode cJ9_min_7cf53 5 = .ok (.iload_n 0, 1) := by decide +kernel
theorem dJ9_min_7cf53_6 : decode cJ9_min_7cf53 6 = .ok (.goto 4, 3) := by decide +kernel
theorem dJ9_min_7cf53_9 : decode cJ9_min_7cf53 9 = .ok (.iload_n 1, 1) := by decide +kernel
theorem dJ9_min_7cf53_10 : decode cJ9_min_7cf53 10 = .ok (.ireturn, 1) := by decide +kernel
theorem dJ0_length_8abf5_0 : decode cJ0_length_8abf5 0 = .ok (.aload_n 0, 1) := by decide +kernel
theorem dJ0_length_8abf5_1 : decode cJ0_length_8abf5 1 = .ok (.getfield 9, 3) := by decide +kernel
theorem dJ0_length_8abf5_4 : decode cJ0_length_8abf5 4 = .ok (.arraylength, 1) := by decide +kernel
theorem dJ0_length_8abf5_5 : decode cJ0_length_8abf5 5 = .ok (.aload_n 0, 1) := by decide +kernel
theorem dJ0_length_8abf5_6 : decode cJ0_length_8abf5 6 = .ok (.invokevirtual 335, 3) := by decide +kernel
theorem dJ0_length_8abf5_9 : decode cJ0_length_8abf5 9 = .ok (.ishr, 1) := by decide +kernel
theorem dJ0_length_8abf5_10 : decode cJ0_length_8abf5 10 = .ok (.ireturn, 1) := by decide +kernel
theorem dJ0_indexOf_0f7a4_0 : decode cJ0_indexOf_0f7a4 0 = .ok (.aload_n 0, 1) := by decide +kernel
theorem dJ0_indexOf_0f7a4_1 : decode cJ0_indexOf_0f7a4 1 = .ok (.iload_n 1, 1) := by decide +kernel
theorem dJ0_indexOf_0f7a4_2 : decode cJ0_indexOf_0f7a4 2 = .ok (.iconst 0, 1) := by decide +kernel
theorem dJ0_indexOf_0f7a4_3 : decode cJ0_indexOf_0f7a4 3 = .ok (.invokevirtual 633, 3) := by decide +kernel
theorem dJ0_indexOf_0f7a4_6 : decode cJ0_indexOf_0f7a4 6 = .ok (.ireturn, 1) := by decide +kernel
theorem dJ0_indexOf_7cf53_0 : decode cJ0_indexOf_7cf53 0 = .ok (.aload_n 0, 1) := by decide +kernel
theorem dJ0_indexOf_7cf53_1 : decode cJ0_indexOf_7cf53 1 = .ok (.invokevirtual 492, 3) := by decide +kernel
theorem dJ0_indexOf_7cf53_4 : decode cJ0_indexOf_7cf53 4 = .ok (.ifCond .eq 19, 3) := by decide +kernel
theorem dJ0_indexOf_7cf53_7 : decode cJ0_indexOf_7cf53 7 = .ok (.aload_n 0, 1) := by decide +kernel
theorem dJ0_indexOf_7cf53_8 : decode cJ0_indexOf_7cf53 8 = .ok (.getfield 9, 3) := by decide +kernel
theorem dJ0_indexOf_7cf53_11 : decode cJ0_indexOf_7cf53 11 = .ok (.iload_n 1, 1) := by decide +kernel
theorem dJ0_indexOf_7cf53_12 : decode cJ0_indexOf_7cf53 12 = .ok (.iload_n 2, 1) := by decide +kernel
theorem dJ0_indexOf_7cf53_13 : decode cJ0_indexOf_7cf53 13 = .ok (.aload_n 0, 1) := by decide +kernel
theorem dJ0_indexOf_7cf53_14 : decode cJ0_indexOf_7cf53 14 = .ok (.invokevirtual 505, 3) := by decide +kernel
theorem dJ0_indexOf_7cf53_17 : decode cJ0_indexOf_7cf53 17 = .ok (.invokestatic 637, 3) := by decide +kernel
theorem dJ0_indexOf_7cf53_20 : decode cJ0_indexOf_7cf53 20 = .ok (.goto 16, 3) := by decide +kernel
theorem dJ0_indexOf_7cf53_23 : decode cJ0_indexOf_7cf53 23 = .ok (.aload_n 0, 1) := by decide +kernel
theorem dJ0_indexOf_7cf53_24 : decode cJ0_indexOf_7cf53 24 = .ok (.getfield 9, 3) := by decide +kernel
theorem dJ0_indexOf_7cf53_27 : decode cJ0_indexOf_7cf53 27 = .ok (.iload_n 1, 1) := by decide +kernel
theorem dJ0_indexOf_7cf53_28 : decode cJ0_indexOf_7cf53 28 = .ok (.iload_n 2, 1) := by decide +kernel
theorem dJ0_indexOf_7cf53_29 : decode cJ0_indexOf_7cf53 29 = .ok (.aload_n 0, 1) := by decide +kernel
theorem dJ0_indexOf_7cf53_30 : decode cJ0_indexOf_7cf53 30 = .ok (.invokevirtual 505, 3) := by decide +kernel
theorem dJ0_indexOf_7cf53_33 : decode cJ0_indexOf_7cf53 33 = .ok (.invokestatic 640, 3) := by decide +kernel
theorem dJ0_indexOf_7cf53_36 : decode cJ0_indexOf_7cf53 36 = .ok (.ireturn, 1) := by decide +kernel
theorem dJ0_coder_7d493_0 : decode cJ0_coder_7d493 0 = .ok (.getstatic 38, 3) := by decide +kernel
theorem dJ0_coder_7d493_3 : decode cJ0_coder_7d493 3 = .ok (.ifCond .eq 10, 3) := by decide +kernel
theorem dJ0_coder_7d493_6 : decode cJ0_coder_7d493 6 = .ok (.aload_n 0, 1) := by decide +kernel
theorem dJ0_coder_7d493_7 : decode cJ0_coder_7d493 7 = .ok (.getfield 15, 3) := by decide +kernel
theorem dJ0_coder_7d493_10 : decode cJ0_coder_7d493 10 = .ok (.goto 4, 3) := by decide +kernel
theorem dJ0_coder_7d493_13 : decode cJ0_coder_7d493 13 = .ok (.iconst 1, 1) := by decide +kernel
theorem dJ0_coder_7d493_14 : decode cJ0_coder_7d493 14 = .ok (.ireturn, 1) := by decide +kernel
theorem dJ0_isLatin1_aae02_0 : decode cJ0_isLatin1_aae02 0 = .ok (.getstatic 38, 3) := by decide +kernel
theorem dJ0_isLatin1_aae02_3 : decode cJ0_isLatin1_aae02 3 = .ok (.ifCond .eq 14, 3) := by decide +kernel
theorem dJ0_isLatin1_aae02_6 : decode cJ0_isLatin1_aae02 6 = .ok (.aload_n 0, 1) := by decide +kernel
theorem dJ0_isLatin1_aae02_7 : decode cJ0_isLatin1_aae02 7 = .ok (.getfield 15, 3) := by decide +kernel
theorem dJ0_isLatin1_aae02_10 : decode cJ0_isLatin1_aae02 10 = .ok (.ifCond .ne 7, 3) := by decide +kernel
theorem dJ0_isLatin1_aae02_13 : decode cJ0_isLatin1_aae02 13 = .ok (.iconst 1, 1) := by decide +kernel
theorem dJ0_isLatin1_aae02_14 : decode cJ0_isLatin1_aae02 14 = .ok (.goto 4, 3) := by decide +kernel
theorem dJ0_isLatin1_aae02_17 : decode cJ0_isLatin1_aae02 17 = .ok (.iconst 0, 1) := by decide +kernel
theorem dJ0_isLatin1_aae02_18 : decode cJ0_isLatin1_aae02 18 = .ok (.ireturn, 1) := by decide +kernel
theorem dJ0_checkBoundsBeginEnd_23922_0 : decode cJ0_checkBoundsBeginEnd_23922 0 = .ok (.iload_n 0, 1) := by decide +kernel
theorem dJ0_checkBoundsBeginEnd_23922_1 : decode cJ0_checkBoundsBeginEnd_23922 1 = .ok (.iload_n 1, 1) := by decide +kernel
theorem dJ0_checkBoundsBeginEnd_23922_2 : decode cJ0_checkBoundsBeginEnd_23922 2 = .ok (.iload_n 2, 1) := by decide +kernel
theorem dJ0_checkBoundsBeginEnd_23922_3 : decode cJ0_checkBoundsBeginEnd_23922 3 = .ok (.getstatic 1053, 3) := by decide +kernel
theorem dJ0_checkBoundsBeginEnd_23922_6 : decode cJ0_checkBoundsBeginEnd_23922 6 = .ok (.invokestatic 1062, 3) := by decide +kernel
theorem dJ0_checkBoundsBeginEnd_23922_9 : decode cJ0_checkBoundsBeginEnd_23922 9 = .ok (.pop, 1) := by decide +kernel
theorem dJ0_checkBoundsBeginEnd_23922_10 : decode cJ0_checkBoundsBeginEnd_23922 10 = .ok (.return_, 1) := by decide +kernel
theorem dJ1_canEncode_9a6ad_0 : decode cJ1_canEncode_9a6ad 0 = .ok (.iload_n 0, 1) := by decide +kernel
theorem dJ1_canEncode_9a6ad_1 : decode cJ1_canEncode_9a6ad 1 = .ok (.ifCond .lt 14, 3) := by decide +kernel
theorem dJ1_canEncode_9a6ad_4 : decode cJ1_canEncode_9a6ad 4 = .ok (.iload_n 0, 1) := by decide +kernel
theorem dJ1_canEncode_9a6ad_5 : decode cJ1_canEncode_9a6ad 5 = .ok (.sipush 255, 3) := by decide +kernel
theorem dJ1_canEncode_9a6ad_8 : decode cJ1_canEncode_9a6ad 8 = .ok (.if_icmp .gt 7, 3) := by decide +kernel
theorem dJ1_canEncode_9a6ad_11 : decode cJ1_canEncode_9a6ad 11 = .ok (.iconst 1, 1) := by decide +kernel
theorem dJ1_canEncode_9a6ad_12 : decode cJ1_canEncode_9a6ad 12 = .ok (.goto 4, 3) := by decide +kernel
theorem dJ1_canEncode_9a6ad_15 : decode cJ1_canEncode_9a6ad 15 = .ok (.iconst 0, 1) := by decide +kernel
theorem dJ1_canEncode_9a6ad_16 : decode cJ1_canEncode_9a6ad 16 = .ok (.ireturn, 1) := by decide +kernel
theorem dJ1_indexOf_4cfef_0 : decode cJ1_indexOf_4cfef 0 = .ok (.iload_n 1, 1) := by decide +kernel
theorem dJ1_indexOf_4cfef_1 : decode cJ1_indexOf_4cfef 1 = .ok (.invokestatic 88, 3) := by decide +kernel
theorem dJ1_indexOf_4cfef_4 : decode cJ1_indexOf_4cfef 4 = .ok (.ifCond .ne 5, 3) := by decide +kernel
theorem dJ1_indexOf_4cfef_7 : decode cJ1_indexOf_4cfef 7 = .ok (.iconst (-1), 1) := by decide +kernel
theorem dJ1_indexOf_4cfef_8 : decode cJ1_indexOf_4cfef 8 = .ok (.ireturn, 1) := by decide +kernel
theorem dJ1_indexOf_4cfef_9 : decode cJ1_indexOf_4cfef 9 = .ok (.iload_n 2, 1) := by decide +kernel
theorem dJ1_indexOf_4cfef_10 : decode cJ1_indexOf_4cfef 10 = .ok (.iconst 0, 1) := by decide +kernel
theorem dJ1_indexOf_4cfef_11 : decode cJ1_indexOf_4cfef 11 = .ok (.invokestatic 92, 3) := by decide +kernel
theorem dJ1_indexOf_4cfef_14 : decode cJ1_indexOf_4cfef 14 = .ok (.istore_n 2, 1) := by decide +kernel
theorem dJ1_indexOf_4cfef_15 : decode cJ1_indexOf_4cfef 15 = .ok (.iload_n 3, 1) := by decide +kernel
theorem dJ1_indexOf_4cfef_16 : decode cJ1_indexOf_4cfef 16 = .ok (.aload_n 0, 1) := by decide +kernel
theorem dJ1_indexOf_4cfef_17 : decode cJ1_indexOf_4cfef 17 = .ok (.arraylength, 1) := by decide +kernel
theorem dJ1_indexOf_4cfef_18 : decode cJ1_indexOf_4cfef 18 = .ok (.invokestatic 38, 3) := by decide +kernel
theorem dJ1_indexOf_4cfef_21 : decode cJ1_indexOf_4cfef 21 = .ok (.istore_n 3, 1) := by decide +kernel
theorem dJ1_indexOf_4cfef_22 : decode cJ1_indexOf_4cfef 22 = .ok (.iload_n 2, 1) := by decide +kernel
theorem dJ1_indexOf_4cfef_23 : decode cJ1_indexOf_4cfef 23 = .ok (.iload_n 3, 1) := by decide +kernel
theorem dJ1_indexOf_4cfef_24 : decode cJ1_indexOf_4cfef 24 = .ok (.if_icmp .lt 5, 3) := by decide +kernel
theorem dJ1_indexOf_4cfef_27 : decode cJ1_indexOf_4cfef 27 = .ok (.iconst (-1), 1) := by decide +kernel
theorem dJ1_indexOf_4cfef_28 : decode cJ1_indexOf_4cfef 28 = .ok (.ireturn, 1) := by decide +kernel
theorem dJ1_indexOf_4cfef_29 : decode cJ1_indexOf_4cfef 29 = .ok (.aload_n 0, 1) := by decide +kernel
theorem dJ1_indexOf_4cfef_30 : decode cJ1_indexOf_4cfef 30 = .ok (.iload_n 1, 1) := by decide +kernel
theorem dJ1_indexOf_4cfef_31 : decode cJ1_indexOf_4cfef 31 = .ok (.iload_n 2, 1) := by decide +kernel
theorem dJ1_indexOf_4cfef_32 : decode cJ1_indexOf_4cfef 32 = .ok (.iload_n 3, 1) := by decide +kernel
theorem dJ1_indexOf_4cfef_33 : decode cJ1_indexOf_4cfef 33 = .ok (.invokestatic 95, 3) := by decide +kernel
theorem dJ1_indexOf_4cfef_36 : decode cJ1_indexOf_4cfef 36 = .ok (.ireturn, 1) := by decide +kernel
theorem dJ1_indexOfChar_4cfef_0 : decode cJ1_indexOfChar_4cfef 0 = .ok (.iload_n 1, 1) := by decide +kernel
theorem dJ1_indexOfChar_4cfef_1 : decode cJ1_indexOfChar_4cfef 1 = .ok (.i2b, 1) := by decide +kernel
theorem dJ1_indexOfChar_4cfef_2 : decode cJ1_indexOfChar_4cfef 2 = .ok (.istore 4, 2) := by decide +kernel
theorem dJ1_indexOfChar_4cfef_4 : decode cJ1_indexOfChar_4cfef 4 = .ok (.iload_n 2, 1) := by decide +kernel
theorem dJ1_indexOfChar_4cfef_5 : decode cJ1_indexOfChar_4cfef 5 = .ok (.istore 5, 2) := by decide +kernel
theorem dJ1_indexOfChar_4cfef_7 : decode cJ1_indexOfChar_4cfef 7 = .ok (.iload 5, 2) := by decide +kernel
theorem dJ1_indexOfChar_4cfef_9 : decode cJ1_indexOfChar_4cfef 9 = .ok (.iload_n 3, 1) := by decide +kernel
theorem dJ1_indexOfChar_4cfef_10 : decode cJ1_indexOfChar_4cfef 10 = .ok (.if_icmp .ge 21, 3) := by decide +kernel
theorem dJ1_indexOfChar_4cfef_13 : decode cJ1_indexOfChar_4cfef 13 = .ok (.aload_n 0, 1) := by decide +kernel
theorem dJ1_indexOfChar_4cfef_14 : decode cJ1_indexOfChar_4cfef 14 = .ok (.iload 5, 2) := by decide +kernel
theorem dJ1_indexOfChar_4cfef_16 : decode cJ1_indexOfChar_4cfef 16 = .ok (.baload, 1) := by decide +kernel
theorem dJ1_indexOfChar_4cfef_17 : decode cJ1_indexOfChar_4cfef 17 = .ok (.iload 4, 2) := by decide +kernel
theorem dJ1_indexOfChar_4cfef_19 : decode cJ1_indexOfChar_4cfef 19 = .ok (.if_icmp .ne 6, 3) := by decide +kernel
theorem dJ1_indexOfChar_4cfef_22 : decode cJ1_indexOfChar_4cfef 22 = .ok (.iload 5, 2) := by decide +kernel
theorem dJ1_indexOfChar_4cfef_24 : decode cJ1_indexOfChar_4cfef 24 = .ok (.ireturn, 1) := by decide +kernel
theorem dJ1_indexOfChar_4cfef_25 : decode cJ1_indexOfChar_4cfef 25 = .ok (.iinc 5 1, 3) := by decide +kernel
theorem dJ1_indexOfChar_4cfef_28 : decode cJ1_indexOfChar_4cfef 28 = .ok (.goto (-21), 3) := by decide +kernel
theorem dJ1_indexOfChar_4cfef_31 : decode cJ1_indexOfChar_4cfef 31 = .ok (.iconst (-1), 1) := by decide +kernel
theorem dJ1_indexOfChar_4cfef_32 : decode cJ1_indexOfChar_4cfef 32 = .ok (.ireturn, 1) := by decide +kernel
theorem dJ2_getChar_3b067_0 : decode cJ2_getChar_3b067 0 = .ok (.getstatic 44, 3) := by decide +kernel
theorem dJ2_getChar_3b067_3 : decode cJ2_getChar_3b067 3 = .ok (.ifCond .ne 25, 3) := by decide +kernel
theorem dJ2_getChar_3b067_6 : decode cJ2_getChar_3b067 6 = .ok (.iload_n 1, 1) := by decide +kernel
theorem dJ2_getChar_3b067_7 : decode cJ2_getChar_3b067 7 = .ok (.ifCond .lt 11, 3) := by decide +kernel
theorem dJ2_getChar_3b067_10 : decode cJ2_getChar_3b067 10 = .ok (.iload_n 1, 1) := by decide +kernel
theorem dJ2_getChar_3b067_11 : decode cJ2_getChar_3b067 11 = .ok (.aload_n 0, 1) := by decide +kernel
theorem dJ2_getChar_3b067_12 : decode cJ2_getChar_3b067 12 = .ok (.invokestatic 48, 3) := by decide +kernel
theorem dJ2_getChar_3b067_15 : decode cJ2_getChar_3b067 15 = .ok (.if_icmp .lt 13, 3) := by decide +kernel
theorem dJ2_getChar_3b067_18 : decode cJ2_getChar_3b067 18 = .ok (.new 52, 3) := by decide +kernel
theorem dJ2_getChar_3b067_21 : decode cJ2_getChar_3b067 21 = .ok (.dup, 1) := by decide +kernel
theorem dJ2_getChar_3b067_22 : decode cJ2_getChar_3b067 22 = .ok (.ldc 54, 2) := by decide +kernel
theorem dJ2_getChar_3b067_24 : decode cJ2_getChar_3b067 24 = .ok (.invokespecial 56, 3) := by decide +kernel
theorem dJ2_getChar_3b067_27 : decode cJ2_getChar_3b067 27 = .ok (.athrow, 1) := by decide +kernel
theorem dJ2_getChar_3b067_28 : decode cJ2_getChar_3b067 28 = .ok (.iload_n 1, 1) := by decide +kernel
theorem dJ2_getChar_3b067_29 : decode cJ2_getChar_3b067 29 = .ok (.iconst 1, 1) := by decide +kernel
theorem dJ2_getChar_3b067_30 : decode cJ2_getChar_3b067 30 = .ok (.ishl, 1) := by decide +kernel
theorem dJ2_getChar_3b067_31 : decode cJ2_getChar_3b067 31 = .ok (.istore_n 1, 1) := by decide +kernel
theorem dJ2_getChar_3b067_32 : decode cJ2_getChar_3b067 32 = .ok (.aload_n 0, 1) := by decide +kernel
theorem dJ2_getChar_3b067_33 : decode cJ2_getChar_3b067 33 = .ok (.iload_n 1, 1) := by decide +kernel
theorem dJ2_getChar_3b067_34 : decode cJ2_getChar_3b067 34 = .ok (.iinc 1 1, 3) := by decide +kernel
theorem dJ2_getChar_3b067_37 : decode cJ2_getChar_3b067 37 = .ok (.baload, 1) := by decide +kernel
theorem dJ2_getChar_3b067_38 : decode cJ2_getChar_3b067 38 = .ok (.sipush 255, 3) := by decide +kernel
theorem dJ2_getChar_3b067_41 : decode cJ2_getChar_3b067 41 = .ok (.iand, 1) := by decide +kernel
theorem dJ2_getChar_3b067_42 : decode cJ2_getChar_3b067 42 = .ok (.getstatic 59, 3) := by decide +kernel
theorem dJ2_getChar_3b067_45 : decode cJ2_getChar_3b067 45 = .ok (.ishl, 1) := by decide +kernel
theorem dJ2_getChar_3b067_46 : decode cJ2_getChar_3b067 46 = .ok (.aload_n 0, 1) := by decide +kernel
theorem dJ2_getChar_3b067_47 : decode cJ2_getChar_3b067 47 = .ok (.iload_n 1, 1) := by decide +kernel
theorem dJ2_getChar_3b067_48 : decode cJ2_getChar_3b067 48 = .ok (.baload, 1) := by decide +kernel
theorem dJ2_getChar_3b067_49 : decode cJ2_getChar_3b067 49 = .ok (.sipush 255, 3) := by decide +kernel
theorem dJ2_getChar_3b067_52 : decode cJ2_getChar_3b067 52 = .ok (.iand, 1) := by decide +kernel
theorem dJ2_getChar_3b067_53 : decode cJ2_getChar_3b067 53 = .ok (.getstatic 63, 3) := by decide +kernel
theorem dJ2_getChar_3b067_56 : decode cJ2_getChar_3b067 56 = .ok (.ishl, 1) := by decide +kernel
theorem dJ2_getChar_3b067_57 : decode cJ2_getChar_3b067 57 = .ok (.ior, 1) := by decide +kernel
theorem dJ2_getChar_3b067_58 : decode cJ2_getChar_3b067 58 = .ok (.i2c, 1) := by decide +kernel
theorem dJ2_getChar_3b067_59 : decode cJ2_getChar_3b067 59 = .ok (.ireturn, 1) := by decide +kernel
theorem dJ2_length_9d52b_0 : decode cJ2_length_9d52b 0 = .ok (.aload_n 0, 1) := by decide +kernel
theorem dJ2_length_9d52b_1 : decode cJ2_length_9d52b 1 = .ok (.arraylength, 1) := by decide +kernel
theorem dJ2_length_9d52b_2 : decode cJ2_length_9d52b 2 = .ok (.iconst 1, 1) := by decide +kernel
theorem dJ2_length_9d52b_3 : decode cJ2_length_9d52b 3 = .ok (.ishr, 1) := by decide +kernel
theorem dJ2_length_9d52b_4 : decode cJ2_length_9d52b 4 = .ok (.ireturn, 1) := by decide +kernel
theorem dJ2_indexOf_4cfef_0 : decode cJ2_indexOf_4cfef 0 = .ok (.iload_n 2, 1) := by decide +kernel
theorem dJ2_indexOf_4cfef_1 : decode cJ2_indexOf_4cfef 1 = .ok (.iconst 0, 1) := by decide +kernel
theorem dJ2_indexOf_4cfef_2 : decode cJ2_indexOf_4cfef 2 = .ok (.invokestatic 224, 3) := by decide +kernel
theorem dJ2_indexOf_4cfef_5 : decode cJ2_indexOf_4cfef 5 = .ok (.istore_n 2, 1) := by decide +kernel
theorem dJ2_indexOf_4cfef_6 : decode cJ2_indexOf_4cfef 6 = .ok (.iload_n 3, 1) := by decide +kernel
theorem dJ2_indexOf_4cfef_7 : decode cJ2_indexOf_4cfef 7 = .ok (.aload_n 0, 1) := by decide +kernel
theorem dJ2_indexOf_4cfef_8 : decode cJ2_indexOf_4cfef 8 = .ok (.arraylength, 1) := by decide +kernel
theorem dJ2_indexOf_4cfef_9 : decode cJ2_indexOf_4cfef 9 = .ok (.iconst 1, 1) := by decide +kernel
theorem dJ2_indexOf_4cfef_10 : decode cJ2_indexOf_4cfef 10 = .ok (.ishr, 1) := by decide +kernel
theorem dJ2_indexOf_4cfef_11 : decode cJ2_indexOf_4cfef 11 = .ok (.invokestatic 183, 3) := by decide +kernel
theorem dJ2_indexOf_4cfef_14 : decode cJ2_indexOf_4cfef 14 = .ok (.istore_n 3, 1) := by decide +kernel
theorem dJ2_indexOf_4cfef_15 : decode cJ2_indexOf_4cfef 15 = .ok (.iload_n 2, 1) := by decide +kernel
theorem dJ2_indexOf_4cfef_16 : decode cJ2_indexOf_4cfef 16 = .ok (.iload_n 3, 1) := by decide +kernel
theorem dJ2_indexOf_4cfef_17 : decode cJ2_indexOf_4cfef 17 = .ok (.if_icmp .lt 5, 3) := by decide +kernel
theorem dJ2_indexOf_4cfef_20 : decode cJ2_indexOf_4cfef 20 = .ok (.iconst (-1), 1) := by decide +kernel
theorem dJ2_indexOf_4cfef_21 : decode cJ2_indexOf_4cfef 21 = .ok (.ireturn, 1) := by decide +kernel
theorem dJ2_indexOf_4cfef_22 : decode cJ2_indexOf_4cfef 22 = .ok (.iload_n 1, 1) := by decide +kernel
theorem dJ2_indexOf_4cfef_23 : decode cJ2_indexOf_4cfef 23 = .ok (.ldc 227, 2) := by decide +kernel
theorem dJ2_indexOf_4cfef_25 : decode cJ2_indexOf_4cfef 25 = .ok (.if_icmp .ge 11, 3) := by decide +kernel
theorem dJ2_indexOf_4cfef_28 : decode cJ2_indexOf_4cfef 28 = .ok (.aload_n 0, 1) := by decide +kernel
theorem dJ2_indexOf_4cfef_29 : decode cJ2_indexOf_4cfef 29 = .ok (.iload_n 1, 1) := by decide +kernel
theorem dJ2_indexOf_4cfef_30 : decode cJ2_indexOf_4cfef 30 = .ok (.iload_n 2, 1) := by decide +kernel
theorem dJ2_indexOf_4cfef_31 : decode cJ2_indexOf_4cfef 31 = .ok (.iload_n 3, 1) := by decide +kernel
theorem dJ2_indexOf_4cfef_32 : decode cJ2_indexOf_4cfef 32 = .ok (.invokestatic 228, 3) := by decide +kernel
theorem dJ2_indexOf_4cfef_35 : decode cJ2_indexOf_4cfef 35 = .ok (.ireturn, 1) := by decide +kernel
theorem dJ2_indexOf_4cfef_36 : decode cJ2_indexOf_4cfef 36 = .ok (.aload_n 0, 1) := by decide +kernel
theorem dJ2_indexOf_4cfef_37 : decode cJ2_indexOf_4cfef 37 = .ok (.iload_n 1, 1) := by decide +kernel
theorem dJ2_indexOf_4cfef_38 : decode cJ2_indexOf_4cfef 38 = .ok (.iload_n 2, 1) := by decide +kernel
theorem dJ2_indexOf_4cfef_39 : decode cJ2_indexOf_4cfef 39 = .ok (.iload_n 3, 1) := by decide +kernel
theorem dJ2_indexOf_4cfef_40 : decode cJ2_indexOf_4cfef 40 = .ok (.invokestatic 232, 3) := by decide +kernel
theorem dJ2_indexOf_4cfef_43 : decode cJ2_indexOf_4cfef 43 = .ok (.ireturn, 1) := by decide +kernel
theorem dJ2_indexOfChar_4cfef_0 : decode cJ2_indexOfChar_4cfef 0 = .ok (.iload_n 2, 1) := by decide +kernel
theorem dJ2_indexOfChar_4cfef_1 : decode cJ2_indexOfChar_4cfef 1 = .ok (.iload_n 3, 1) := by decide +kernel
theorem dJ2_indexOfChar_4cfef_2 : decode cJ2_indexOfChar_4cfef 2 = .ok (.aload_n 0, 1) := by decide +kernel
theorem dJ2_indexOfChar_4cfef_3 : decode cJ2_indexOfChar_4cfef 3 = .ok (.invokestatic 96, 3) := by decide +kernel
theorem dJ2_indexOfChar_4cfef_6 : decode cJ2_indexOfChar_4cfef 6 = .ok (.aload_n 0, 1) := by decide +kernel
theorem dJ2_indexOfChar_4cfef_7 : decode cJ2_indexOfChar_4cfef 7 = .ok (.iload_n 1, 1) := by decide +kernel
theorem dJ2_indexOfChar_4cfef_8 : decode cJ2_indexOfChar_4cfef 8 = .ok (.iload_n 2, 1) := by decide +kernel
theorem dJ2_indexOfChar_4cfef_9 : decode cJ2_indexOfChar_4cfef 9 = .ok (.iload_n 3, 1) := by decide +kernel
theorem dJ2_indexOfChar_4cfef_10 : decode cJ2_indexOfChar_4cfef 10 = .ok (.invokestatic 244, 3) := by decide +kernel
theorem dJ2_indexOfChar_4cfef_13 : decode cJ2_indexOfChar_4cfef 13 = .ok (.ireturn, 1) := by decide +kernel
theorem dJ2_indexOfCharUnsafe_4cfef_0 : decode cJ2_indexOfCharUnsafe_4cfef 0 = .ok (.iload_n 2, 1) := by decide +kernel
theorem dJ2_indexOfCharUnsafe_4cfef_1 : decode cJ2_indexOfCharUnsafe_4cfef 1 = .ok (.istore 4, 2) := by decide +kernel
theorem dJ2_indexOfCharUnsafe_4cfef_3 : decode cJ2_indexOfCharUnsafe_4cfef 3 = .ok (.iload 4, 2) := by decide +kernel
theorem dJ2_indexOfCharUnsafe_4cfef_5 : decode cJ2_indexOfCharUnsafe_4cfef 5 = .ok (.iload_n 3, 1) := by decide +kernel
theorem dJ2_indexOfCharUnsafe_4cfef_6 : decode cJ2_indexOfCharUnsafe_4cfef 6 = .ok (.if_icmp .ge 22, 3) := by decide +kernel
theorem dJ2_indexOfCharUnsafe_4cfef_9 : decode cJ2_indexOfCharUnsafe_4cfef 9 = .ok (.aload_n 0, 1) := by decide +kernel
theorem dJ2_indexOfCharUnsafe_4cfef_10 : decode cJ2_indexOfCharUnsafe_4cfef 10 = .ok (.iload 4, 2) := by decide +kernel
theorem dJ2_indexOfCharUnsafe_4cfef_12 : decode cJ2_indexOfCharUnsafe_4cfef 12 = .ok (.invokestatic 71, 3) := by decide +kernel
theorem dJ2_indexOfCharUnsafe_4cfef_15 : decode cJ2_indexOfCharUnsafe_4cfef 15 = .ok (.iload_n 1, 1) := by decide +kernel
theorem dJ2_indexOfCharUnsafe_4cfef_16 : decode cJ2_indexOfCharUnsafe_4cfef 16 = .ok (.if_icmp .ne 6, 3) := by decide +kernel
theorem dJ2_indexOfCharUnsafe_4cfef_19 : decode cJ2_indexOfCharUnsafe_4cfef 19 = .ok (.iload 4, 2) := by decide +kernel
theorem dJ2_indexOfCharUnsafe_4cfef_21 : decode cJ2_indexOfCharUnsafe_4cfef 21 = .ok (.ireturn, 1) := by decide +kernel
theorem dJ2_indexOfCharUnsafe_4cfef_22 : decode cJ2_indexOfCharUnsafe_4cfef 22 = .ok (.iinc 4 1, 3) := by decide +kernel
theorem dJ2_indexOfCharUnsafe_4cfef_25 : decode cJ2_indexOfCharUnsafe_4cfef 25 = .ok (.goto (-22), 3) := by decide +kernel
theorem dJ2_indexOfCharUnsafe_4cfef_28 : decode cJ2_indexOfCharUnsafe_4cfef 28 = .ok (.iconst (-1), 1) := by decide +kernel
theorem dJ2_indexOfCharUnsafe_4cfef_29 : decode cJ2_indexOfCharUnsafe_4cfef 29 = .ok (.ireturn, 1) := by decide +kernel
theorem dJ2_indexOfSupplementary_4cfef_0 : decode cJ2_indexOfSupplementary_4cfef 0 = .ok (.iload_n 1, 1) := by decide +kernel
theorem dJ2_indexOfSupplementary_4cfef_1 : decode cJ2_indexOfSupplementary_4cfef 1 = .ok (.invokestatic 164, 3) := by decide +kernel
theorem dJ2_indexOfSupplementary_4cfef_4 : decode cJ2_indexOfSupplementary_4cfef 4 = .ok (.ifCond .eq 65, 3) := by decide +kernel
theorem dJ2_indexOfSupplementary_4cfef_7 : decode cJ2_indexOfSupplementary_4cfef 7 = .ok (.iload_n 1, 1) := by decide +kernel
theorem dJ2_indexOfSupplementary_4cfef_8 : decode cJ2_indexOfSupplementary_4cfef 8 = .ok (.invokestatic 157, 3) := by decide +kernel
theorem dJ2_indexOfSupplementary_4cfef_11 : decode cJ2_indexOfSupplementary_4cfef 11 = .ok (.istore 4, 2) := by decide +kernel
theorem dJ2_indexOfSupplementary_4cfef_13 : decode cJ2_indexOfSupplementary_4cfef 13 = .ok (.iload_n 1, 1) := by decide +kernel
theorem dJ2_indexOfSupplementary_4cfef_14 : decode cJ2_indexOfSupplementary_4cfef 14 = .ok (.invokestatic 161, 3) := by decide +kernel
theorem dJ2_indexOfSupplementary_4cfef_17 : decode cJ2_indexOfSupplementary_4cfef 17 = .ok (.istore 5, 2) := by decide +kernel
theorem dJ2_indexOfSupplementary_4cfef_19 : decode cJ2_indexOfSupplementary_4cfef 19 = .ok (.iload_n 2, 1) := by decide +kernel
theorem dJ2_indexOfSupplementary_4cfef_20 : decode cJ2_indexOfSupplementary_4cfef 20 = .ok (.iload_n 3, 1) := by decide +kernel
theorem dJ2_indexOfSupplementary_4cfef_21 : decode cJ2_indexOfSupplementary_4cfef 21 = .ok (.aload_n 0, 1) := by decide +kernel
theorem dJ2_indexOfSupplementary_4cfef_22 : decode cJ2_indexOfSupplementary_4cfef 22 = .ok (.invokestatic 96, 3) := by decide +kernel
theorem dJ2_indexOfSupplementary_4cfef_25 : decode cJ2_indexOfSupplementary_4cfef 25 = .ok (.iload_n 2, 1) := by decide +kernel
theorem dJ2_indexOfSupplementary_4cfef_26 : decode cJ2_indexOfSupplementary_4cfef 26 = .ok (.istore 6, 2) := by decide +kernel
theorem dJ2_indexOfSupplementary_4cfef_28 : decode cJ2_indexOfSupplementary_4cfef 28 = .ok (.iload 6, 2) := by decide +kernel
theorem dJ2_indexOfSupplementary_4cfef_30 : decode cJ2_indexOfSupplementary_4cfef 30 = .ok (.iload_n 3, 1) := by decide +kernel
theorem dJ2_indexOfSupplementary_4cfef_31 : decode cJ2_indexOfSupplementary_4cfef 31 = .ok (.iconst 1, 1) := by decide +kernel
theorem dJ2_indexOfSupplementary_4cfef_32 : decode cJ2_indexOfSupplementary_4cfef 32 = .ok (.isub, 1) := by decide +kernel
theorem dJ2_indexOfSupplementary_4cfef_33 : decode cJ2_indexOfSupplementary_4cfef 33 = .ok (.if_icmp .ge 36, 3) := by decide +kernel
theorem dJ2_indexOfSupplementary_4cfef_36 : decode cJ2_indexOfSupplementary_4cfef 36 = .ok (.aload_n 0, 1) := by decide +kernel
theorem dJ2_indexOfSupplementary_4cfef_37 : decode cJ2_indexOfSupplementary_4cfef 37 = .ok (.iload 6, 2) := by decide +kernel
theorem dJ2_indexOfSupplementary_4cfef_39 : decode cJ2_indexOfSupplementary_4cfef 39 = .ok (.invokestatic 71, 3) := by decide +kernel
theorem dJ2_indexOfSupplementary_4cfef_42 : decode cJ2_indexOfSupplementary_4cfef 42 = .ok (.iload 4, 2) := by decide +kernel
theorem dJ2_indexOfSupplementary_4cfef_44 : decode cJ2_indexOfSupplementary_4cfef 44 = .ok (.if_icmp .ne 19, 3) := by decide +kernel
theorem dJ2_indexOfSupplementary_4cfef_47 : decode cJ2_indexOfSupplementary_4cfef 47 = .ok (.aload_n 0, 1) := by decide +kernel
theorem dJ2_indexOfSupplementary_4cfef_48 : decode cJ2_indexOfSupplementary_4cfef 48 = .ok (.iload 6, 2) := by decide +kernel
theorem dJ2_indexOfSupplementary_4cfef_50 : decode cJ2_indexOfSupplementary_4cfef 50 = .ok (.iconst 1, 1) := by decide +kernel
theorem dJ2_indexOfSupplementary_4cfef_51 : decode cJ2_indexOfSupplementary_4cfef 51 = .ok (.iadd, 1) := by decide +kernel
theorem dJ2_indexOfSupplementary_4cfef_52 : decode cJ2_indexOfSupplementary_4cfef 52 = .ok (.invokestatic 71, 3) := by decide +kernel
theorem dJ2_indexOfSupplementary_4cfef_55 : decode cJ2_indexOfSupplementary_4cfef 55 = .ok (.iload 5, 2) := by decide +kernel
theorem dJ2_indexOfSupplementary_4cfef_57 : decode cJ2_indexOfSupplementary_4cfef 57 = .ok (.if_icmp .ne 6, 3) := by decide +kernel
theorem dJ2_indexOfSupplementary_4cfef_60 : decode cJ2_indexOfSupplementary_4cfef 60 = .ok (.iload 6, 2) := by decide +kernel
theorem dJ2_indexOfSupplementary_4cfef_62 : decode cJ2_indexOfSupplementary_4cfef 62 = .ok (.ireturn, 1) := by decide +kernel
theorem dJ2_indexOfSupplementary_4cfef_63 : decode cJ2_indexOfSupplementary_4cfef 63 = .ok (.iinc 6 1, 3) := by decide +kernel
theorem dJ2_indexOfSupplementary_4cfef_66 : decode cJ2_indexOfSupplementary_4cfef 66 = .ok (.goto (-38), 3) := by decide +kernel
theorem dJ2_indexOfSupplementary_4cfef_69 : decode cJ2_indexOfSupplementary_4cfef 69 = .ok (.iconst (-1), 1) := by decide +kernel
theorem dJ2_indexOfSupplementary_4cfef_70 : decode cJ2_indexOfSupplementary_4cfef 70 = .ok (.ireturn, 1) := by decide +kernel
theorem dJ2_checkBoundsBeginEnd_d044e_0 : decode cJ2_checkBoundsBeginEnd_d044e 0 = .ok (.iload_n 0, 1) := by decide +kernel
theorem dJ2_checkBoundsBeginEnd_d044e_1 : decode cJ2_checkBoundsBeginEnd_d044e 1 = .ok (.iload_n 1, 1) := by decide +kernel
theorem dJ2_checkBoundsBeginEnd_d044e_2 : decode cJ2_checkBoundsBeginEnd_d044e 2 = .ok (.aload_n 2, 1) := by decide +kernel
theorem dJ2_checkBoundsBeginEnd_d044e_3 : decode cJ2_checkBoundsBeginEnd_d044e 3 = .ok (.invokestatic 48, 3) := by decide +kernel
theorem dJ2_checkBoundsBeginEnd_d044e_6 : decode cJ2_checkBoundsBeginEnd_d044e 6 = .ok (.invokestatic 241, 3) := by decide +kernel
theorem dJ2_checkBoundsBeginEnd_d044e_9 : decode cJ2_checkBoundsBeginEnd_d044e 9 = .ok (.return_, 1) := by decide +kernel
theorem dJ3_checkFromToIndex_8c36e_0 : decode cJ3_checkFromToIndex_8c36e 0 = .ok (.iload_n 0, 1) := by decide +kernel
theorem dJ3_checkFromToIndex_8c36e_1 : decode cJ3_checkFromToIndex_8c36e 1 = .ok (.ifCond .lt 13, 3) := by decide +kernel
theorem dJ3_checkFromToIndex_8c36e_4 : decode cJ3_checkFromToIndex_8c36e 4 = .ok (.iload_n 0, 1) := by decide +kernel
theorem dJ3_checkFromToIndex_8c36e_5 : decode cJ3_checkFromToIndex_8c36e 5 = .ok (.iload_n 1, 1) := by decide +kernel
theorem dJ3_checkFromToIndex_8c36e_6 : decode cJ3_checkFromToIndex_8c36e 6 = .ok (.if_icmp .gt 8, 3) := by decide +kernel
theorem dJ3_checkFromToIndex_8c36e_9 : decode cJ3_checkFromToIndex_8c36e 9 = .ok (.iload_n 1, 1) := by decide +kernel
theorem dJ3_checkFromToIndex_8c36e_10 : decode cJ3_checkFromToIndex_8c36e 10 = .ok (.iload_n 2, 1) := by decide +kernel
theorem dJ3_checkFromToIndex_8c36e_11 : decode cJ3_checkFromToIndex_8c36e 11 = .ok (.if_icmp .le 11, 3) := by decide +kernel
theorem dJ3_checkFromToIndex_8c36e_14 : decode cJ3_checkFromToIndex_8c36e 14 = .ok (.aload_n 3, 1) := by decide +kernel
theorem dJ3_checkFromToIndex_8c36e_15 : decode cJ3_checkFromToIndex_8c36e 15 = .ok (.iload_n 0, 1) := by decide +kernel
theorem dJ3_checkFromToIndex_8c36e_16 : decode cJ3_checkFromToIndex_8c36e 16 = .ok (.iload_n 1, 1) := by decide +kernel
theorem dJ3_checkFromToIndex_8c36e_17 : decode cJ3_checkFromToIndex_8c36e 17 = .ok (.iload_n 2, 1) := by decide +kernel
theorem dJ3_checkFromToIndex_8c36e_18 : decode cJ3_checkFromToIndex_8c36e 18 = .ok (.invokestatic 99, 3) := by decide +kernel
theorem dJ3_checkFromToIndex_8c36e_21 : decode cJ3_checkFromToIndex_8c36e 21 = .ok (.athrow, 1) := by decide +kernel
theorem dJ3_checkFromToIndex_8c36e_22 : decode cJ3_checkFromToIndex_8c36e 22 = .ok (.iload_n 0, 1) := by decide +kernel
theorem dJ3_checkFromToIndex_8c36e_23 : decode cJ3_checkFromToIndex_8c36e 23 = .ok (.ireturn, 1) := by decide +kernel
theorem dL_law_0 : decode cL_law 0 = .ok (.new 7, 3) := by decide +kernel
theorem dL_law_3 : decode cL_law 3 = .ok (.dup, 1) := by decide +kernel
theorem dL_law_4 : decode cL_law 4 = .ok (.invokespecial 9, 3) := by decide +kernel
theorem dL_law_7 : decode cL_law 7 = .ok (.astore_n 1, 1) := by decide +kernel
theorem dL_law_8 : decode cL_law 8 = .ok (.new 10, 3) := by decide +kernel
theorem dL_law_11 : decode cL_law 11 = .ok (.dup, 1) := by decide +kernel
theorem dL_law_12 : decode cL_law 12 = .ok (.invokespecial 12, 3) := by decide +kernel
theorem dL_law_15 : decode cL_law 15 = .ok (.astore_n 2, 1) := by decide +kernel
theorem dL_law_16 : decode cL_law 16 = .ok (.iconst 0, 1) := by decide +kernel
theorem dL_law_17 : decode cL_law 17 = .ok (.istore_n 3, 1) := by decide +kernel
theorem dL_law_18 : decode cL_law 18 = .ok (.iload_n 3, 1) := by decide +kernel
theorem dL_law_19 : decode cL_law 19 = .ok (.aload_n 0, 1) := by decide +kernel
theorem dL_law_20 : decode cL_law 20 = .ok (.arraylength, 1) := by decide +kernel
theorem dL_law_21 : decode cL_law 21 = .ok (.iconst 4, 1) := by decide +kernel
theorem dL_law_22 : decode cL_law 22 = .ok (.isub, 1) := by decide +kernel
theorem dL_law_23 : decode cL_law 23 = .ok (.if_icmp .gt 581, 3) := by decide +kernel
theorem dL_law_26 : decode cL_law 26 = .ok (.aload_n 0, 1) := by decide +kernel
theorem dL_law_27 : decode cL_law 27 = .ok (.iload_n 3, 1) := by decide +kernel
theorem dL_law_28 : decode cL_law 28 = .ok (.iaload, 1) := by decide +kernel
theorem dL_law_29 : decode cL_law 29 = .ok (.bipush 31, 2) := by decide +kernel
theorem dL_law_31 : decode cL_law 31 = .ok (.iand, 1) := by decide +kernel
theorem dL_law_32 : decode cL_law 32 = .ok (.tableswitch 566 0 18 #[92, 115, 128, 141, 154, 187, 220, 253, 286, 329, 342, 365, 388, 447, 460, 503, 516, 529, 552], 92) := by decide +kernel
theorem dL_law_124 : decode cL_law 124 = .ok (.aload_n 1, 1) := by decide +kernel
theorem dL_law_125 : decode cL_law 125 = .ok (.aload_n 0, 1) := by decide +kernel
theorem dL_law_126 : decode cL_law 126 = .ok (.iload_n 3, 1) := by decide +kernel
theorem dL_law_127 : decode cL_law 127 = .ok (.iconst 1, 1) := by decide +kernel
theorem dL_law_128 : decode cL_law 128 = .ok (.iadd, 1) := by decide +kernel
theorem dL_law_129 : decode cL_law 129 = .ok (.iaload, 1) := by decide +kernel
theorem dL_law_130 : decode cL_law 130 = .ok (.invokevirtual 13, 3) := by decide +kernel
theorem dL_law_133 : decode cL_law 133 = .ok (.aload_n 2, 1) := by decide +kernel
theorem dL_law_134 : decode cL_law 134 = .ok (.aload_n 0, 1) := by decide +kernel
theorem dL_law_135 : decode cL_law 135 = .ok (.iload_n 3, 1) := by decide +kernel
theorem dL_law_136 : decode cL_law 136 = .ok (.iconst 1, 1) := by decide +kernel
theorem dL_law_137 : decode cL_law 137 = .ok (.iadd, 1) := by decide +kernel
theorem dL_law_138 : decode cL_law 138 = .ok (.iaload, 1) := by decide +kernel
theorem dL_law_139 : decode cL_law 139 = .ok (.invokevirtual 17, 3) := by decide +kernel
theorem dL_law_142 : decode cL_law 142 = .ok (.if_icmp .eq 456, 3) := by decide +kernel
theorem dL_law_145 : decode cL_law 145 = .ok (.iconst 0, 1) := by decide +kernel
theorem dL_law_146 : decode cL_law 146 = .ok (.ireturn, 1) := by decide +kernel
theorem dL_law_147 : decode cL_law 147 = .ok (.aload_n 1, 1) := by decide +kernel
theorem dL_law_148 : decode cL_law 148 = .ok (.invokevirtual 18, 3) := by decide +kernel
theorem dL_law_151 : decode cL_law 151 = .ok (.aload_n 2, 1) := by decide +kernel
theorem dL_law_152 : decode cL_law 152 = .ok (.invokevirtual 22, 3) := by decide +kernel
theorem dL_law_155 : decode cL_law 155 = .ok (.if_icmp .eq 443, 3) := by decide +kernel
theorem dL_law_158 : decode cL_law 158 = .ok (.iconst 0, 1) := by decide +kernel
theorem dL_law_159 : decode cL_law 159 = .ok (.ireturn, 1) := by decide +kernel
theorem dL_law_160 : decode cL_law 160 = .ok (.aload_n 1, 1) := by decide +kernel
theorem dL_law_161 : decode cL_law 161 = .ok (.invokevirtual 23, 3) := by decide +kernel
theorem dL_law_164 : decode cL_law 164 = .ok (.aload_n 2, 1) := by decide +kernel
theorem dL_law_165 : decode cL_law 165 = .ok (.invokevirtual 26, 3) := by decide +kernel
theorem dL_law_168 : decode cL_law 168 = .ok (.if_icmp .eq 430, 3) := by decide +kernel
theorem dL_law_171 : decode cL_law 171 = .ok (.iconst 0, 1) := by decide +kernel
theorem dL_law_172 : decode cL_law 172 = .ok (.ireturn, 1) := by decide +kernel
theorem dL_law_173 : decode cL_law 173 = .ok (.aload_n 1, 1) := by decide +kernel
theorem dL_law_174 : decode cL_law 174 = .ok (.invokevirtual 27, 3) := by decide +kernel
theorem dL_law_177 : decode cL_law 177 = .ok (.aload_n 2, 1) := by decide +kernel
theorem dL_law_178 : decode cL_law 178 = .ok (.invokevirtual 30, 3) := by decide +kernel
theorem dL_law_181 : decode cL_law 181 = .ok (.if_icmp .eq 417, 3) := by decide +kernel
theorem dL_law_184 : decode cL_law 184 = .ok (.iconst 0, 1) := by decide +kernel
theorem dL_law_185 : decode cL_law 185 = .ok (.ireturn, 1) := by decide +kernel
theorem dL_law_186 : decode cL_law 186 = .ok (.aload_n 1, 1) := by decide +kernel
theorem dL_law_187 : decode cL_law 187 = .ok (.aload_n 0, 1) := by decide +kernel
theorem dL_law_188 : decode cL_law 188 = .ok (.iload_n 3, 1) := by decide +kernel
theorem dL_law_189 : decode cL_law 189 = .ok (.iconst 1, 1) := by decide +kernel
theorem dL_law_190 : decode cL_law 190 = .ok (.iadd, 1) := by decide +kernel
theorem dL_law_191 : decode cL_law 191 = .ok (.iaload, 1) := by decide +kernel
theorem dL_law_192 : decode cL_law 192 = .ok (.aload_n 0, 1) := by decide +kernel
theorem dL_law_193 : decode cL_law 193 = .ok (.iload_n 3, 1) := by decide +kernel
theorem dL_law_194 : decode cL_law 194 = .ok (.iconst 2, 1) := by decide +kernel
theorem dL_law_195 : decode cL_law 195 = .ok (.iadd, 1) := by decide +kernel
theorem dL_law_196 : decode cL_law 196 = .ok (.iaload, 1) := by decide +kernel
theorem dL_law_197 : decode cL_law 197 = .ok (.invokevirtual 31, 3) := by decide +kernel
theorem dL_law_200 : decode cL_law 200 = .ok (.aload_n 2, 1) := by decide +kernel
theorem dL_law_201 : decode cL_law 201 = .ok (.aload_n 0, 1) := by decide +kernel
theorem dL_law_202 : decode cL_law 202 = .ok (.iload_n 3, 1) := by decide +kernel
theorem dL_law_203 : decode cL_law 203 = .ok (.iconst 1, 1) := by decide +kernel
theorem dL_law_204 : decode cL_law 204 = .ok (.iadd, 1) := by decide +kernel
theorem dL_law_205 : decode cL_law 205 = .ok (.iaload, 1) := by decide +kernel
theorem dL_law_206 : decode cL_law 206 = .ok (.aload_n 0, 1) := by decide +kernel
theorem dL_law_207 : decode cL_law 207 = .ok (.iload_n 3, 1) := by decide +kernel
theorem dL_law_208 : decode cL_law 208 = .ok (.iconst 2, 1) := by decide +kernel
theorem dL_law_209 : decode cL_law 209 = .ok (.iadd, 1) := by decide +kernel
theorem dL_law_210 : decode cL_law 210 = .ok (.iaload, 1) := by decide +kernel
theorem dL_law_211 : decode cL_law 211 = .ok (.invokevirtual 35, 3) := by decide +kernel
theorem dL_law_214 : decode cL_law 214 = .ok (.if_icmp .eq 384, 3) := by decide +kernel
theorem dL_law_217 : decode cL_law 217 = .ok (.iconst 0, 1) := by decide +kernel
theorem dL_law_218 : decode cL_law 218 = .ok (.ireturn, 1) := by decide +kernel
theorem dL_law_219 : decode cL_law 219 = .ok (.aload_n 1, 1) := by decide +kernel
theorem dL_law_220 : decode cL_law 220 = .ok (.aload_n 0, 1) := by decide +kernel
theorem dL_law_221 : decode cL_law 221 = .ok (.iload_n 3, 1) := by decide +kernel
theorem dL_law_222 : decode cL_law 222 = .ok (.iconst 1, 1) := by decide +kernel
theorem dL_law_223 : decode cL_law 223 = .ok (.iadd, 1) := by decide +kernel
theorem dL_law_224 : decode cL_law 224 = .ok (.iaload, 1) := by decide +kernel
theorem dL_law_225 : decode cL_law 225 = .ok (.aload_n 0, 1) := by decide +kernel
theorem dL_law_226 : decode cL_law 226 = .ok (.iload_n 3, 1) := by decide +kernel
theorem dL_law_227 : decode cL_law 227 = .ok (.iconst 2, 1) := by decide +kernel
theorem dL_law_228 : decode cL_law 228 = .ok (.iadd, 1) := by decide +kernel
theorem dL_law_229 : decode cL_law 229 = .ok (.iaload, 1) := by decide +kernel
theorem dL_law_230 : decode cL_law 230 = .ok (.invokevirtual 36, 3) := by decide +kernel
theorem dL_law_233 : decode cL_law 233 = .ok (.aload_n 2, 1) := by decide +kernel
theorem dL_law_234 : decode cL_law 234 = .ok (.aload_n 0, 1) := by decide +kernel
theorem dL_law_235 : decode cL_law 235 = .ok (.iload_n 3, 1) := by decide +kernel
theorem dL_law_236 : decode cL_law 236 = .ok (.iconst 1, 1) := by decide +kernel
theorem dL_law_237 : decode cL_law 237 = .ok (.iadd, 1) := by decide +kernel
theorem dL_law_238 : decode cL_law 238 = .ok (.iaload, 1) := by decide +kernel
theorem dL_law_239 : decode cL_law 239 = .ok (.aload_n 0, 1) := by decide +kernel
theorem dL_law_240 : decode cL_law 240 = .ok (.iload_n 3, 1) := by decide +kernel
theorem dL_law_241 : decode cL_law 241 = .ok (.iconst 2, 1) := by decide +kernel
theorem dL_law_242 : decode cL_law 242 = .ok (.iadd, 1) := by decide +kernel
theorem dL_law_243 : decode cL_law 243 = .ok (.iaload, 1) := by decide +kernel
theorem dL_law_244 : decode cL_law 244 = .ok (.invokevirtual 39, 3) := by decide +kernel
theorem dL_law_247 : decode cL_law 247 = .ok (.if_icmp .eq 351, 3) := by decide +kernel
theorem dL_law_250 : decode cL_law 250 = .ok (.iconst 0, 1) := by decide +kernel
theorem dL_law_251 : decode cL_law 251 = .ok (.ireturn, 1) := by decide +kernel
theorem dL_law_252 : decode cL_law 252 = .ok (.aload_n 1, 1) := by decide +kernel
theorem dL_law_253 : decode cL_law 253 = .ok (.aload_n 0, 1) := by decide +kernel
theorem dL_law_254 : decode cL_law 254 = .ok (.iload_n 3, 1) := by decide +kernel
theorem dL_law_255 : decode cL_law 255 = .ok (.iconst 1, 1) := by decide +kernel
theorem dL_law_256 : decode cL_law 256 = .ok (.iadd, 1) := by decide +kernel
theorem dL_law_257 : decode cL_law 257 = .ok (.iaload, 1) := by decide +kernel
theorem dL_law_258 : decode cL_law 258 = .ok (.aload_n 0, 1) := by decide +kernel
theorem dL_law_259 : decode cL_law 259 = .ok (.iload_n 3, 1) := by decide +kernel
theorem dL_law_260 : decode cL_law 260 = .ok (.iconst 2, 1) := by decide +kernel
theorem dL_law_261 : decode cL_law 261 = .ok (.iadd, 1) := by decide +kernel
theorem dL_law_262 : decode cL_law 262 = .ok (.iaload, 1) := by decide +kernel
theorem dL_law_263 : decode cL_law 263 = .ok (.invokevirtual 40, 3) := by decide +kernel
theorem dL_law_266 : decode cL_law 266 = .ok (.aload_n 2, 1) := by decide +kernel
theorem dL_law_267 : decode cL_law 267 = .ok (.aload_n 0, 1) := by decide +kernel
theorem dL_law_268 : decode cL_law 268 = .ok (.iload_n 3, 1) := by decide +kernel
theorem dL_law_269 : decode cL_law 269 = .ok (.iconst 1, 1) := by decide +kernel
theorem dL_law_270 : decode cL_law 270 = .ok (.iadd, 1) := by decide +kernel
theorem dL_law_271 : decode cL_law 271 = .ok (.iaload, 1) := by decide +kernel
theorem dL_law_272 : decode cL_law 272 = .ok (.aload_n 0, 1) := by decide +kernel
theorem dL_law_273 : decode cL_law 273 = .ok (.iload_n 3, 1) := by decide +kernel
theorem dL_law_274 : decode cL_law 274 = .ok (.iconst 2, 1) := by decide +kernel
theorem dL_law_275 : decode cL_law 275 = .ok (.iadd, 1) := by decide +kernel
theorem dL_law_276 : decode cL_law 276 = .ok (.iaload, 1) := by decide +kernel
theorem dL_law_277 : decode cL_law 277 = .ok (.invokevirtual 43, 3) := by decide +kernel
theorem dL_law_280 : decode cL_law 280 = .ok (.if_icmp .eq 318, 3) := by decide +kernel
theorem dL_law_283 : decode cL_law 283 = .ok (.iconst 0, 1) := by decide +kernel
theorem dL_law_284 : decode cL_law 284 = .ok (.ireturn, 1) := by decide +kernel
theorem dL_law_285 : decode cL_law 285 = .ok (.aload_n 1, 1) := by decide +kernel
theorem dL_law_286 : decode cL_law 286 = .ok (.aload_n 0, 1) := by decide +kernel
theorem dL_law_287 : decode cL_law 287 = .ok (.iload_n 3, 1) := by decide +kernel
theorem dL_law_288 : decode cL_law 288 = .ok (.iconst 1, 1) := by decide +kernel
theorem dL_law_289 : decode cL_law 289 = .ok (.iadd, 1) := by decide +kernel
theorem dL_law_290 : decode cL_law 290 = .ok (.iaload, 1) := by decide +kernel
theorem dL_law_291 : decode cL_law 291 = .ok (.aload_n 0, 1) := by decide +kernel
theorem dL_law_292 : decode cL_law 292 = .ok (.iload_n 3, 1) := by decide +kernel
theorem dL_law_293 : decode cL_law 293 = .ok (.iconst 2, 1) := by decide +kernel
theorem dL_law_294 : decode cL_law 294 = .ok (.iadd, 1) := by decide +kernel
theorem dL_law_295 : decode cL_law 295 = .ok (.iaload, 1) := by decide +kernel
theorem dL_law_296 : decode cL_law 296 = .ok (.invokevirtual 44, 3) := by decide +kernel
theorem dL_law_299 : decode cL_law 299 = .ok (.aload_n 2, 1) := by decide +kernel
theorem dL_law_300 : decode cL_law 300 = .ok (.aload_n 0, 1) := by decide +kernel
theorem dL_law_301 : decode cL_law 301 = .ok (.iload_n 3, 1) := by decide +kernel
theorem dL_law_302 : decode cL_law 302 = .ok (.iconst 1, 1) := by decide +kernel
theorem dL_law_303 : decode cL_law 303 = .ok (.iadd, 1) := by decide +kernel
theorem dL_law_304 : decode cL_law 304 = .ok (.iaload, 1) := by decide +kernel
theorem dL_law_305 : decode cL_law 305 = .ok (.aload_n 0, 1) := by decide +kernel
theorem dL_law_306 : decode cL_law 306 = .ok (.iload_n 3, 1) := by decide +kernel
theorem dL_law_307 : decode cL_law 307 = .ok (.iconst 2, 1) := by decide +kernel
theorem dL_law_308 : decode cL_law 308 = .ok (.iadd, 1) := by decide +kernel
theorem dL_law_309 : decode cL_law 309 = .ok (.iaload, 1) := by decide +kernel
theorem dL_law_310 : decode cL_law 310 = .ok (.invokevirtual 47, 3) := by decide +kernel
theorem dL_law_313 : decode cL_law 313 = .ok (.if_icmp .eq 285, 3) := by decide +kernel
theorem dL_law_316 : decode cL_law 316 = .ok (.iconst 0, 1) := by decide +kernel
theorem dL_law_317 : decode cL_law 317 = .ok (.ireturn, 1) := by decide +kernel
theorem dL_law_318 : decode cL_law 318 = .ok (.aload_n 1, 1) := by decide +kernel
theorem dL_law_319 : decode cL_law 319 = .ok (.aload_n 0, 1) := by decide +kernel
theorem dL_law_320 : decode cL_law 320 = .ok (.iload_n 3, 1) := by decide +kernel
theorem dL_law_321 : decode cL_law 321 = .ok (.iconst 1, 1) := by decide +kernel
theorem dL_law_322 : decode cL_law 322 = .ok (.iadd, 1) := by decide +kernel
theorem dL_law_323 : decode cL_law 323 = .ok (.iaload, 1) := by decide +kernel
theorem dL_law_324 : decode cL_law 324 = .ok (.aload_n 0, 1) := by decide +kernel
theorem dL_law_325 : decode cL_law 325 = .ok (.iload_n 3, 1) := by decide +kernel
theorem dL_law_326 : decode cL_law 326 = .ok (.iconst 2, 1) := by decide +kernel
theorem dL_law_327 : decode cL_law 327 = .ok (.iadd, 1) := by decide +kernel
theorem dL_law_328 : decode cL_law 328 = .ok (.iaload, 1) := by decide +kernel
theorem dL_law_329 : decode cL_law 329 = .ok (.aload_n 0, 1) := by decide +kernel
theorem dL_law_330 : decode cL_law 330 = .ok (.iload_n 3, 1) := by decide +kernel
theorem dL_law_331 : decode cL_law 331 = .ok (.iconst 3, 1) := by decide +kernel
theorem dL_law_332 : decode cL_law 332 = .ok (.iadd, 1) := by decide +kernel
theorem dL_law_333 : decode cL_law 333 = .ok (.iaload, 1) := by decide +kernel
theorem dL_law_334 : decode cL_law 334 = .ok (.invokevirtual 48, 3) := by decide +kernel
theorem dL_law_337 : decode cL_law 337 = .ok (.aload_n 2, 1) := by decide +kernel
theorem dL_law_338 : decode cL_law 338 = .ok (.aload_n 0, 1) := by decide +kernel
theorem dL_law_339 : decode cL_law 339 = .ok (.iload_n 3, 1) := by decide +kernel
theorem dL_law_340 : decode cL_law 340 = .ok (.iconst 1, 1) := by decide +kernel
theorem dL_law_341 : decode cL_law 341 = .ok (.iadd, 1) := by decide +kernel
theorem dL_law_342 : decode cL_law 342 = .ok (.iaload, 1) := by decide +kernel
theorem dL_law_343 : decode cL_law 343 = .ok (.aload_n 0, 1) := by decide +kernel
theorem dL_law_344 : decode cL_law 344 = .ok (.iload_n 3, 1) := by decide +kernel
theorem dL_law_345 : decode cL_law 345 = .ok (.iconst 2, 1) := by decide +kernel
theorem dL_law_346 : decode cL_law 346 = .ok (.iadd, 1) := by decide +kernel
theorem dL_law_347 : decode cL_law 347 = .ok (.iaload, 1) := by decide +kernel
theorem dL_law_348 : decode cL_law 348 = .ok (.aload_n 0, 1) := by decide +kernel
theorem dL_law_349 : decode cL_law 349 = .ok (.iload_n 3, 1) := by decide +kernel
theorem dL_law_350 : decode cL_law 350 = .ok (.iconst 3, 1) := by decide +kernel
theorem dL_law_351 : decode cL_law 351 = .ok (.iadd, 1) := by decide +kernel
theorem dL_law_352 : decode cL_law 352 = .ok (.iaload, 1) := by decide +kernel
theorem dL_law_353 : decode cL_law 353 = .ok (.invokevirtual 52, 3) := by decide +kernel
theorem dL_law_356 : decode cL_law 356 = .ok (.if_icmp .eq 242, 3) := by decide +kernel
theorem dL_law_359 : decode cL_law 359 = .ok (.iconst 0, 1) := by decide +kernel
theorem dL_law_360 : decode cL_law 360 = .ok (.ireturn, 1) := by decide +kernel
theorem dL_law_361 : decode cL_law 361 = .ok (.aload_n 1, 1) := by decide +kernel
theorem dL_law_362 : decode cL_law 362 = .ok (.invokevirtual 53, 3) := by decide +kernel
theorem dL_law_365 : decode cL_law 365 = .ok (.aload_n 2, 1) := by decide +kernel
theorem dL_law_366 : decode cL_law 366 = .ok (.invokevirtual 56, 3) := by decide +kernel
theorem dL_law_369 : decode cL_law 369 = .ok (.if_icmp .eq 229, 3) := by decide +kernel
theorem dL_law_372 : decode cL_law 372 = .ok (.iconst 0, 1) := by decide +kernel
theorem dL_law_373 : decode cL_law 373 = .ok (.ireturn, 1) := by decide +kernel
theorem dL_law_374 : decode cL_law 374 = .ok (.aload_n 1, 1) := by decide +kernel
theorem dL_law_375 : decode cL_law 375 = .ok (.aload_n 0, 1) := by decide +kernel
theorem dL_law_376 : decode cL_law 376 = .ok (.iload_n 3, 1) := by decide +kernel
theorem dL_law_377 : decode cL_law 377 = .ok (.iconst 1, 1) := by decide +kernel
theorem dL_law_378 : decode cL_law 378 = .ok (.iadd, 1) := by decide +kernel
theorem dL_law_379 : decode cL_law 379 = .ok (.iaload, 1) := by decide +kernel
theorem dL_law_380 : decode cL_law 380 = .ok (.invokevirtual 57, 3) := by decide +kernel
theorem dL_law_383 : decode cL_law 383 = .ok (.aload_n 2, 1) := by decide +kernel
theorem dL_law_384 : decode cL_law 384 = .ok (.aload_n 0, 1) := by decide +kernel
theorem dL_law_385 : decode cL_law 385 = .ok (.iload_n 3, 1) := by decide +kernel
theorem dL_law_386 : decode cL_law 386 = .ok (.iconst 1, 1) := by decide +kernel
theorem dL_law_387 : decode cL_law 387 = .ok (.iadd, 1) := by decide +kernel
theorem dL_law_388 : decode cL_law 388 = .ok (.iaload, 1) := by decide +kernel
theorem dL_law_389 : decode cL_law 389 = .ok (.invokevirtual 60, 3) := by decide +kernel
theorem dL_law_392 : decode cL_law 392 = .ok (.if_icmp .eq 206, 3) := by decide +kernel
theorem dL_law_395 : decode cL_law 395 = .ok (.iconst 0, 1) := by decide +kernel
theorem dL_law_396 : decode cL_law 396 = .ok (.ireturn, 1) := by decide +kernel
theorem dL_law_397 : decode cL_law 397 = .ok (.aload_n 1, 1) := by decide +kernel
theorem dL_law_398 : decode cL_law 398 = .ok (.aload_n 0, 1) := by decide +kernel
theorem dL_law_399 : decode cL_law 399 = .ok (.iload_n 3, 1) := by decide +kernel
theorem dL_law_400 : decode cL_law 400 = .ok (.iconst 1, 1) := by decide +kernel
theorem dL_law_401 : decode cL_law 401 = .ok (.iadd, 1) := by decide +kernel
theorem dL_law_402 : decode cL_law 402 = .ok (.iaload, 1) := by decide +kernel
theorem dL_law_403 : decode cL_law 403 = .ok (.invokevirtual 61, 3) := by decide +kernel
theorem dL_law_406 : decode cL_law 406 = .ok (.aload_n 2, 1) := by decide +kernel
theorem dL_law_407 : decode cL_law 407 = .ok (.aload_n 0, 1) := by decide +kernel
theorem dL_law_408 : decode cL_law 408 = .ok (.iload_n 3, 1) := by decide +kernel
theorem dL_law_409 : decode cL_law 409 = .ok (.iconst 1, 1) := by decide +kernel
theorem dL_law_410 : decode cL_law 410 = .ok (.iadd, 1) := by decide +kernel
theorem dL_law_411 : decode cL_law 411 = .ok (.iaload, 1) := by decide +kernel
theorem dL_law_412 : decode cL_law 412 = .ok (.invokevirtual 64, 3) := by decide +kernel
theorem dL_law_415 : decode cL_law 415 = .ok (.if_icmp .eq 183, 3) := by decide +kernel
theorem dL_law_418 : decode cL_law 418 = .ok (.iconst 0, 1) := by decide +kernel
theorem dL_law_419 : decode cL_law 419 = .ok (.ireturn, 1) := by decide +kernel
theorem dL_law_420 : decode cL_law 420 = .ok (.aload_n 1, 1) := by decide +kernel
theorem dL_law_421 : decode cL_law 421 = .ok (.aload_n 0, 1) := by decide +kernel
theorem dL_law_422 : decode cL_law 422 = .ok (.iload_n 3, 1) := by decide +kernel
theorem dL_law_423 : decode cL_law 423 = .ok (.iconst 1, 1) := by decide +kernel
theorem dL_law_424 : decode cL_law 424 = .ok (.iadd, 1) := by decide +kernel
theorem dL_law_425 : decode cL_law 425 = .ok (.iaload, 1) := by decide +kernel
theorem dL_law_426 : decode cL_law 426 = .ok (.aload_n 0, 1) := by decide +kernel
theorem dL_law_427 : decode cL_law 427 = .ok (.iload_n 3, 1) := by decide +kernel
theorem dL_law_428 : decode cL_law 428 = .ok (.iconst 2, 1) := by decide +kernel
theorem dL_law_429 : decode cL_law 429 = .ok (.iadd, 1) := by decide +kernel
theorem dL_law_430 : decode cL_law 430 = .ok (.iaload, 1) := by decide +kernel
theorem dL_law_431 : decode cL_law 431 = .ok (.aload_n 0, 1) := by decide +kernel
theorem dL_law_432 : decode cL_law 432 = .ok (.iload_n 3, 1) := by decide +kernel
theorem dL_law_433 : decode cL_law 433 = .ok (.iconst 3, 1) := by decide +kernel
theorem dL_law_434 : decode cL_law 434 = .ok (.iadd, 1) := by decide +kernel
theorem dL_law_435 : decode cL_law 435 = .ok (.iaload, 1) := by decide +kernel
theorem dL_law_436 : decode cL_law 436 = .ok (.ifCond .eq 7, 3) := by decide +kernel
theorem dL_law_439 : decode cL_law 439 = .ok (.iconst 1, 1) := by decide +kernel
theorem dL_law_440 : decode cL_law 440 = .ok (.goto 4, 3) := by decide +kernel
theorem dL_law_443 : decode cL_law 443 = .ok (.iconst 0, 1) := by decide +kernel
theorem dL_law_444 : decode cL_law 444 = .ok (.invokevirtual 65, 3) := by decide +kernel
theorem dL_law_447 : decode cL_law 447 = .ok (.aload_n 2, 1) := by decide +kernel
theorem dL_law_448 : decode cL_law 448 = .ok (.aload_n 0, 1) := by decide +kernel
theorem dL_law_449 : decode cL_law 449 = .ok (.iload_n 3, 1) := by decide +kernel
theorem dL_law_450 : decode cL_law 450 = .ok (.iconst 1, 1) := by decide +kernel
theorem dL_law_451 : decode cL_law 451 = .ok (.iadd, 1) := by decide +kernel
theorem dL_law_452 : decode cL_law 452 = .ok (.iaload, 1) := by decide +kernel
theorem dL_law_453 : decode cL_law 453 = .ok (.aload_n 0, 1) := by decide +kernel
theorem dL_law_454 : decode cL_law 454 = .ok (.iload_n 3, 1) := by decide +kernel
theorem dL_law_455 : decode cL_law 455 = .ok (.iconst 2, 1) := by decide +kernel
theorem dL_law_456 : decode cL_law 456 = .ok (.iadd, 1) := by decide +kernel
theorem dL_law_457 : decode cL_law 457 = .ok (.iaload, 1) := by decide +kernel
theorem dL_law_458 : decode cL_law 458 = .ok (.aload_n 0, 1) := by decide +kernel
theorem dL_law_459 : decode cL_law 459 = .ok (.iload_n 3, 1) := by decide +kernel
theorem dL_law_460 : decode cL_law 460 = .ok (.iconst 3, 1) := by decide +kernel
theorem dL_law_461 : decode cL_law 461 = .ok (.iadd, 1) := by decide +kernel
theorem dL_law_462 : decode cL_law 462 = .ok (.iaload, 1) := by decide +kernel
theorem dL_law_463 : decode cL_law 463 = .ok (.ifCond .eq 7, 3) := by decide +kernel
theorem dL_law_466 : decode cL_law 466 = .ok (.iconst 1, 1) := by decide +kernel
theorem dL_law_467 : decode cL_law 467 = .ok (.goto 4, 3) := by decide +kernel
theorem dL_law_470 : decode cL_law 470 = .ok (.iconst 0, 1) := by decide +kernel
theorem dL_law_471 : decode cL_law 471 = .ok (.invokevirtual 69, 3) := by decide +kernel
theorem dL_law_474 : decode cL_law 474 = .ok (.if_icmp .eq 124, 3) := by decide +kernel
theorem dL_law_477 : decode cL_law 477 = .ok (.iconst 0, 1) := by decide +kernel
theorem dL_law_478 : decode cL_law 478 = .ok (.ireturn, 1) := by decide +kernel
theorem dL_law_479 : decode cL_law 479 = .ok (.aload_n 1, 1) := by decide +kernel
theorem dL_law_480 : decode cL_law 480 = .ok (.invokevirtual 70, 3) := by decide +kernel
theorem dL_law_483 : decode cL_law 483 = .ok (.aload_n 2, 1) := by decide +kernel
theorem dL_law_484 : decode cL_law 484 = .ok (.invokevirtual 73, 3) := by decide +kernel
theorem dL_law_487 : decode cL_law 487 = .ok (.if_icmp .eq 111, 3) := by decide +kernel
theorem dL_law_490 : decode cL_law 490 = .ok (.iconst 0, 1) := by decide +kernel
theorem dL_law_491 : decode cL_law 491 = .ok (.ireturn, 1) := by decide +kernel
theorem dL_law_492 : decode cL_law 492 = .ok (.aload_n 1, 1) := by decide +kernel
theorem dL_law_493 : decode cL_law 493 = .ok (.aload_n 0, 1) := by decide +kernel
theorem dL_law_494 : decode cL_law 494 = .ok (.iload_n 3, 1) := by decide +kernel
theorem dL_law_495 : decode cL_law 495 = .ok (.iconst 1, 1) := by decide +kernel
theorem dL_law_496 : decode cL_law 496 = .ok (.iadd, 1) := by decide +kernel
theorem dL_law_497 : decode cL_law 497 = .ok (.iaload, 1) := by decide +kernel
theorem dL_law_498 : decode cL_law 498 = .ok (.aload_n 0, 1) := by decide +kernel
theorem dL_law_499 : decode cL_law 499 = .ok (.iload_n 3, 1) := by decide +kernel
theorem dL_law_500 : decode cL_law 500 = .ok (.iconst 2, 1) := by decide +kernel
theorem dL_law_501 : decode cL_law 501 = .ok (.iadd, 1) := by decide +kernel
theorem dL_law_502 : decode cL_law 502 = .ok (.iaload, 1) := by decide +kernel
theorem dL_law_503 : decode cL_law 503 = .ok (.aload_n 0, 1) := by decide +kernel
theorem dL_law_504 : decode cL_law 504 = .ok (.iload_n 3, 1) := by decide +kernel
theorem dL_law_505 : decode cL_law 505 = .ok (.iconst 3, 1) := by decide +kernel
theorem dL_law_506 : decode cL_law 506 = .ok (.iadd, 1) := by decide +kernel
theorem dL_law_507 : decode cL_law 507 = .ok (.iaload, 1) := by decide +kernel
theorem dL_law_508 : decode cL_law 508 = .ok (.invokevirtual 74, 3) := by decide +kernel
theorem dL_law_511 : decode cL_law 511 = .ok (.aload_n 2, 1) := by decide +kernel
theorem dL_law_512 : decode cL_law 512 = .ok (.aload_n 0, 1) := by decide +kernel
theorem dL_law_513 : decode cL_law 513 = .ok (.iload_n 3, 1) := by decide +kernel
theorem dL_law_514 : decode cL_law 514 = .ok (.iconst 1, 1) := by decide +kernel
theorem dL_law_515 : decode cL_law 515 = .ok (.iadd, 1) := by decide +kernel
theorem dL_law_516 : decode cL_law 516 = .ok (.iaload, 1) := by decide +kernel
theorem dL_law_517 : decode cL_law 517 = .ok (.aload_n 0, 1) := by decide +kernel
theorem dL_law_518 : decode cL_law 518 = .ok (.iload_n 3, 1) := by decide +kernel
theorem dL_law_519 : decode cL_law 519 = .ok (.iconst 2, 1) := by decide +kernel
theorem dL_law_520 : decode cL_law 520 = .ok (.iadd, 1) := by decide +kernel
theorem dL_law_521 : decode cL_law 521 = .ok (.iaload, 1) := by decide +kernel
theorem dL_law_522 : decode cL_law 522 = .ok (.aload_n 0, 1) := by decide +kernel
theorem dL_law_523 : decode cL_law 523 = .ok (.iload_n 3, 1) := by decide +kernel
theorem dL_law_524 : decode cL_law 524 = .ok (.iconst 3, 1) := by decide +kernel
theorem dL_law_525 : decode cL_law 525 = .ok (.iadd, 1) := by decide +kernel
theorem dL_law_526 : decode cL_law 526 = .ok (.iaload, 1) := by decide +kernel
theorem dL_law_527 : decode cL_law 527 = .ok (.invokevirtual 77, 3) := by decide +kernel
theorem dL_law_530 : decode cL_law 530 = .ok (.if_icmp .eq 68, 3) := by decide +kernel
theorem dL_law_533 : decode cL_law 533 = .ok (.iconst 0, 1) := by decide +kernel
theorem dL_law_534 : decode cL_law 534 = .ok (.ireturn, 1) := by decide +kernel
theorem dL_law_535 : decode cL_law 535 = .ok (.aload_n 1, 1) := by decide +kernel
theorem dL_law_536 : decode cL_law 536 = .ok (.invokevirtual 78, 3) := by decide +kernel
theorem dL_law_539 : decode cL_law 539 = .ok (.aload_n 2, 1) := by decide +kernel
theorem dL_law_540 : decode cL_law 540 = .ok (.invokevirtual 81, 3) := by decide +kernel
theorem dL_law_543 : decode cL_law 543 = .ok (.if_icmp .eq 55, 3) := by decide +kernel
theorem dL_law_546 : decode cL_law 546 = .ok (.iconst 0, 1) := by decide +kernel
theorem dL_law_547 : decode cL_law 547 = .ok (.ireturn, 1) := by decide +kernel
theorem dL_law_548 : decode cL_law 548 = .ok (.aload_n 1, 1) := by decide +kernel
theorem dL_law_549 : decode cL_law 549 = .ok (.invokevirtual 82, 3) := by decide +kernel
theorem dL_law_552 : decode cL_law 552 = .ok (.aload_n 2, 1) := by decide +kernel
theorem dL_law_553 : decode cL_law 553 = .ok (.invokevirtual 85, 3) := by decide +kernel
theorem dL_law_556 : decode cL_law 556 = .ok (.if_icmp .eq 42, 3) := by decide +kernel
theorem dL_law_559 : decode cL_law 559 = .ok (.iconst 0, 1) := by decide +kernel
theorem dL_law_560 : decode cL_law 560 = .ok (.ireturn, 1) := by decide +kernel
theorem dL_law_561 : decode cL_law 561 = .ok (.aload_n 1, 1) := by decide +kernel
theorem dL_law_562 : decode cL_law 562 = .ok (.aload_n 0, 1) := by decide +kernel
theorem dL_law_563 : decode cL_law 563 = .ok (.iload_n 3, 1) := by decide +kernel
theorem dL_law_564 : decode cL_law 564 = .ok (.iconst 1, 1) := by decide +kernel
theorem dL_law_565 : decode cL_law 565 = .ok (.iadd, 1) := by decide +kernel
theorem dL_law_566 : decode cL_law 566 = .ok (.iaload, 1) := by decide +kernel
theorem dL_law_567 : decode cL_law 567 = .ok (.invokevirtual 86, 3) := by decide +kernel
theorem dL_law_570 : decode cL_law 570 = .ok (.aload_n 2, 1) := by decide +kernel
theorem dL_law_571 : decode cL_law 571 = .ok (.aload_n 0, 1) := by decide +kernel
theorem dL_law_572 : decode cL_law 572 = .ok (.iload_n 3, 1) := by decide +kernel
theorem dL_law_573 : decode cL_law 573 = .ok (.iconst 1, 1) := by decide +kernel
theorem dL_law_574 : decode cL_law 574 = .ok (.iadd, 1) := by decide +kernel
theorem dL_law_575 : decode cL_law 575 = .ok (.iaload, 1) := by decide +kernel
theorem dL_law_576 : decode cL_law 576 = .ok (.invokevirtual 89, 3) := by decide +kernel
theorem dL_law_579 : decode cL_law 579 = .ok (.if_icmp .eq 19, 3) := by decide +kernel
theorem dL_law_582 : decode cL_law 582 = .ok (.iconst 0, 1) := by decide +kernel
theorem dL_law_583 : decode cL_law 583 = .ok (.ireturn, 1) := by decide +kernel
theorem dL_law_584 : decode cL_law 584 = .ok (.aload_n 1, 1) := by decide +kernel
theorem dL_law_585 : decode cL_law 585 = .ok (.invokevirtual 90, 3) := by decide +kernel
theorem dL_law_588 : decode cL_law 588 = .ok (.aload_n 2, 1) := by decide +kernel
theorem dL_law_589 : decode cL_law 589 = .ok (.invokevirtual 94, 3) := by decide +kernel
theorem dL_law_592 : decode cL_law 592 = .ok (.lcmp, 1) := by decide +kernel
theorem dL_law_593 : decode cL_law 593 = .ok (.ifCond .eq 5, 3) := by decide +kernel
theorem dL_law_596 : decode cL_law 596 = .ok (.iconst 0, 1) := by decide +kernel
theorem dL_law_597 : decode cL_law 597 = .ok (.ireturn, 1) := by decide +kernel
theorem dL_law_598 : decode cL_law 598 = .ok (.iinc 3 4, 3) := by decide +kernel
theorem dL_law_601 : decode cL_law 601 = .ok (.goto (-583), 3) := by decide +kernel
theorem dL_law_604 : decode cL_law 604 = .ok (.iconst 1, 1) := by decide +kernel
theorem dL_law_605 : decode cL_law 605 = .ok (.ireturn, 1) := by decide +kernel
abbrev vwCl : List vw_C := [(RX0, TX0, 2), (RX1, TX1, 4), (RX2, TX2, 15), (RX3, TX3, 8), (RX4, TX4, 41)]
