def RX0 : String := "RhymedThen$Form"
def TX0 : u_T := fun k => match k with
  | _ => ("", "", "", false)
def tyX0 : Nat → FieldType := fun k => match k with
  | _ => .int
abbrev wsX00 : List Cond := u_ws RX0 TX0 0
theorem nmX0 : ∀ a, a < 0 → ∀ b, b < 0 → a ≠ b → (TX0 a).2.1 ≠ (TX0 b).2.1 := by decide +kernel
theorem tyX0_ok : ∀ k, k < 0 → parseFieldDescriptor (TX0 k).2.2.1 = some (tyX0 k) := by decide +kernel
abbrev cX0_lengthOf : ByteArray := prog_2_method_2_code
def yX0_lengthOf : MethodName := ⟨RX0, "lengthOf", "(J)I"⟩
abbrev cX0_soundAt : ByteArray := prog_2_method_3_code
def yX0_soundAt : MethodName := ⟨RX0, "soundAt", "(JI)I"⟩
abbrev cX0_of : ByteArray := prog_2_method_4_code
def yX0_of : MethodName := ⟨RX0, "of", "(JI)J"⟩
abbrev cX0_tailOf : ByteArray := prog_2_method_5_code
def yX0_tailOf : MethodName := ⟨RX0, "tailOf", "(JI)J"⟩
abbrev cX0_beatsOf : ByteArray := prog_2_method_6_code
def yX0_beatsOf : MethodName := ⟨RX0, "beatsOf", "(JI)I"⟩
def RX1 : String := "RhymedThen$Kept"
def TX1 : u_T := fun k => match k with
  | 0 => ("RhymedThen$Kept", "used", "Z", false)
  | 1 => ("RhymedThen$Kept", "told", "I", false)
  | 2 => ("RhymedThen$Kept", "on", "I", false)
  | 3 => ("RhymedThen$Kept", "poets", "[I", true)
  | 4 => ("RhymedThen$Kept", "trusts", "[I", true)
  | 5 => ("RhymedThen$Kept", "lags", "[I", true)
  | _ => ("RhymedThen$Kept", "classes", "[I", true)
def tyX1 : Nat → FieldType := fun k => match k with
  | 0 => .boolean
  | 1 => .int
  | 2 => .int
  | 3 => .array .int
  | 4 => .array .int
  | 5 => .array .int
  | _ => .array .int
abbrev wsX10 : List Cond := u_ws RX1 TX1 7
theorem nmX1 : ∀ a, a < 7 → ∀ b, b < 7 → a ≠ b → (TX1 a).2.1 ≠ (TX1 b).2.1 := by decide +kernel
theorem tyX1_ok : ∀ k, k < 7 → parseFieldDescriptor (TX1 k).2.2.1 = some (tyX1 k) := by decide +kernel
abbrev cX1_init : ByteArray := prog_3_method_1_code
def yX1_init : MethodName := ⟨RX1, "<init>", "()V"⟩
abbrev cX1_take : ByteArray := prog_3_method_2_code
def yX1_take : MethodName := ⟨RX1, "take", "(LRhymedThen$Signs;[I[I)V"⟩
abbrev cX1_giveBack : ByteArray := prog_3_method_3_code
def yX1_giveBack : MethodName := ⟨RX1, "giveBack", "(LRhymedThen$Signs;[I)V"⟩
def RX2 : String := "RhymedThen$Law"
def TX2 : u_T := fun k => match k with
  | 0 => ("RhymedThen$Law", "toldGoes", "I", false)
  | 1 => ("RhymedThen$Law", "toldLeft", "I", false)
  | 2 => ("RhymedThen$Law", "toldRight", "I", false)
  | 3 => ("RhymedThen$Law", "becomes", "I", false)
  | 4 => ("RhymedThen$Law", "goes", "I", false)
  | 5 => ("RhymedThen$Law", "left", "I", false)
  | _ => ("RhymedThen$Law", "right", "I", false)
def tyX2 : Nat → FieldType := fun k => match k with
  | 0 => .int
  | 1 => .int
  | 2 => .int
  | 3 => .int
  | 4 => .int
  | 5 => .int
  | _ => .int
abbrev wsX20 : List Cond := u_ws RX2 TX2 7
theorem nmX2 : ∀ a, a < 7 → ∀ b, b < 7 → a ≠ b → (TX2 a).2.1 ≠ (TX2 b).2.1 := by decide +kernel
theorem tyX2_ok : ∀ k, k < 7 → parseFieldDescriptor (TX2 k).2.2.1 = some (tyX2 k) := by decide +kernel
abbrev cX2_init : ByteArray := prog_4_method_1_code
def yX2_init : MethodName := ⟨RX2, "<init>", "()V"⟩
abbrev cX2_read : ByteArray := prog_4_method_2_code
def yX2_read : MethodName := ⟨RX2, "read", "(LRhymedThen$Text;)I"⟩
abbrev cX2_readSides : ByteArray := prog_4_method_3_code
def yX2_readSides : MethodName := ⟨RX2, "readSides", "(LRhymedThen$Text;I)I"⟩
abbrev cX2_overAt : ByteArray := prog_4_method_4_code
def yX2_overAt : MethodName := ⟨RX2, "overAt", "(LRhymedThen$Text;I)I"⟩
abbrev cX2_isSide : ByteArray := prog_4_method_5_code
def yX2_isSide : MethodName := ⟨RX2, "isSide", "(I)Z"⟩
abbrev cX2_tune : ByteArray := prog_4_method_6_code
def yX2_tune : MethodName := ⟨RX2, "tune", "([I)V"⟩
abbrev cX2_setOf : ByteArray := prog_4_method_7_code
def yX2_setOf : MethodName := ⟨RX2, "setOf", "(I[I)I"⟩
abbrev cX2_workOn : ByteArray := prog_4_method_8_code
def yX2_workOn : MethodName := ⟨RX2, "workOn", "(J)J"⟩
def RX3 : String := "RhymedThen$Past"
def TX3 : u_T := fun k => match k with
  | 0 => ("RhymedThen$Past", "tongue", "LRhymedThen$Tongue;", true)
  | 1 => ("RhymedThen$Past", "lags", "[I", true)
  | 2 => ("RhymedThen$Past", "histories", "I", false)
  | 3 => ("RhymedThen$Past", "laws", "I", false)
  | 4 => ("RhymedThen$Past", "orders", "[I", true)
  | 5 => ("RhymedThen$Past", "years", "[J", true)
  | _ => ("RhymedThen$Past", "firstYears", "[I", true)
def tyX3 : Nat → FieldType := fun k => match k with
  | 0 => .object "RhymedThen$Tongue"
  | 1 => .array .int
  | 2 => .int
  | 3 => .int
  | 4 => .array .int
  | 5 => .array .long
  | _ => .array .int
abbrev wsX30 : List Cond := u_ws RX3 TX3 7
theorem nmX3 : ∀ a, a < 7 → ∀ b, b < 7 → a ≠ b → (TX3 a).2.1 ≠ (TX3 b).2.1 := by decide +kernel
theorem tyX3_ok : ∀ k, k < 7 → parseFieldDescriptor (TX3 k).2.2.1 = some (tyX3 k) := by decide +kernel
abbrev cX3_init : ByteArray := prog_5_method_1_code
def yX3_init : MethodName := ⟨RX3, "<init>", "(LRhymedThen$Tongue;)V"⟩
abbrev cX3_addLaw : ByteArray := prog_5_method_2_code
def yX3_addLaw : MethodName := ⟨RX3, "addLaw", "(III)V"⟩
abbrev cX3_insert : ByteArray := prog_5_method_3_code
def yX3_insert : MethodName := ⟨RX3, "insert", "(IIJI)V"⟩
abbrev cX3_yearIn : ByteArray := prog_5_method_4_code
def yX3_yearIn : MethodName := ⟨RX3, "yearIn", "(JI)I"⟩
abbrev cX3_lawAt : ByteArray := prog_5_method_5_code
def yX3_lawAt : MethodName := ⟨RX3, "lawAt", "(II)I"⟩
abbrev cX3_turnOf : ByteArray := prog_5_method_6_code
def yX3_turnOf : MethodName := ⟨RX3, "turnOf", "(II)I"⟩
abbrev cX3_yearOf : ByteArray := prog_5_method_7_code
def yX3_yearOf : MethodName := ⟨RX3, "yearOf", "(II)I"⟩
abbrev cX3_hasCome : ByteArray := prog_5_method_8_code
def yX3_hasCome : MethodName := ⟨RX3, "hasCome", "(IIII)Z"⟩
abbrev cX3_courseAt : ByteArray := prog_5_method_9_code
def yX3_courseAt : MethodName := ⟨RX3, "courseAt", "(III)I"⟩
abbrev cX3_courseAmong : ByteArray := prog_5_method_10_code
def yX3_courseAmong : MethodName := ⟨RX3, "courseAmong", "(III)I"⟩
abbrev cX3_courseUpTo : ByteArray := prog_5_method_11_code
def yX3_courseUpTo : MethodName := ⟨RX3, "courseUpTo", "(II)I"⟩
abbrev cX3_courseSwapped : ByteArray := prog_5_method_12_code
def yX3_courseSwapped : MethodName := ⟨RX3, "courseSwapped", "(IIII)I"⟩
abbrev cX3_newsYear : ByteArray := prog_5_method_13_code
def yX3_newsYear : MethodName := ⟨RX3, "newsYear", "(III)I"⟩
abbrev cX3_isFirstBut : ByteArray := prog_5_method_14_code
def yX3_isFirstBut : MethodName := ⟨RX3, "isFirstBut", "(II)Z"⟩
def RX4 : String := "RhymedThen$Row"
def TX4 : u_T := fun k => match k with
  | 0 => ("RhymedThen$Row", "numbers", "[J", true)
  | _ => ("RhymedThen$Row", "size", "I", false)
def tyX4 : Nat → FieldType := fun k => match k with
  | 0 => .array .long
  | _ => .int
abbrev wsX40 : List Cond := u_ws RX4 TX4 2
theorem nmX4 : ∀ a, a < 2 → ∀ b, b < 2 → a ≠ b → (TX4 a).2.1 ≠ (TX4 b).2.1 := by decide +kernel
theorem tyX4_ok : ∀ k, k < 2 → parseFieldDescriptor (TX4 k).2.2.1 = some (tyX4 k) := by decide +kernel
abbrev cX4_init : ByteArray := prog_6_method_1_code
def yX4_init : MethodName := ⟨RX4, "<init>", "()V"⟩
abbrev cX4_clear : ByteArray := prog_6_method_2_code
def yX4_clear : MethodName := ⟨RX4, "clear", "()V"⟩
abbrev cX4_add : ByteArray := prog_6_method_3_code
def yX4_add : MethodName := ⟨RX4, "add", "(J)V"⟩
abbrev cX4_addFraction : ByteArray := prog_6_method_4_code
def yX4_addFraction : MethodName := ⟨RX4, "addFraction", "(JJ)V"⟩
abbrev cX4_sharedDivisor : ByteArray := prog_6_method_5_code
def yX4_sharedDivisor : MethodName := ⟨RX4, "sharedDivisor", "(JJ)J"⟩
def RX5 : String := "RhymedThen$Sign"
def TX5 : u_T := fun k => match k with
  | 0 => ("RhymedThen$Sign", "kind", "I", false)
  | 1 => ("RhymedThen$Sign", "one", "I", false)
  | 2 => ("RhymedThen$Sign", "other", "I", false)
  | 3 => ("RhymedThen$Sign", "number", "I", false)
  | 4 => ("RhymedThen$Sign", "year", "I", false)
  | 5 => ("RhymedThen$Sign", "place", "I", false)
  | 6 => ("RhymedThen$Sign", "poet", "I", false)
  | _ => ("RhymedThen$Sign", "trust", "I", false)
def tyX5 : Nat → FieldType := fun k => match k with
  | 0 => .int
  | 1 => .int
  | 2 => .int
  | 3 => .int
  | 4 => .int
  | 5 => .int
  | 6 => .int
  | _ => .int
abbrev wsX50 : List Cond := u_ws RX5 TX5 8
theorem nmX5 : ∀ a, a < 8 → ∀ b, b < 8 → a ≠ b → (TX5 a).2.1 ≠ (TX5 b).2.1 := by decide +kernel
theorem tyX5_ok : ∀ k, k < 8 → parseFieldDescriptor (TX5 k).2.2.1 = some (tyX5 k) := by decide +kernel
abbrev cX5_init : ByteArray := prog_7_method_1_code
def yX5_init : MethodName := ⟨RX5, "<init>", "()V"⟩
abbrev cX5_tell : ByteArray := prog_7_method_2_code
def yX5_tell : MethodName := ⟨RX5, "tell", "(IIII)V"⟩
abbrev cX5_put : ByteArray := prog_7_method_3_code
def yX5_put : MethodName := ⟨RX5, "put", "(II)V"⟩
abbrev cX5_isSoOn : ByteArray := prog_7_method_4_code
def yX5_isSoOn : MethodName := ⟨RX5, "isSoOn", "(ILRhymedThen$Tongue;)Z"⟩
abbrev cX5_isSoOf : ByteArray := prog_7_method_5_code
def yX5_isSoOf : MethodName := ⟨RX5, "isSoOf", "(JJI)Z"⟩
abbrev cX5_areTailsSo : ByteArray := prog_7_method_6_code
def yX5_areTailsSo : MethodName := ⟨RX5, "areTailsSo", "(JJ)Z"⟩
abbrev cX5_isBooked : ByteArray := prog_7_method_7_code
def yX5_isBooked : MethodName := ⟨RX5, "isBooked", "(J)Z"⟩
def RX6 : String := "RhymedThen$Signs"
def TX6 : u_T := fun k => match k with
  | 0 => ("RhymedThen$Signs", "tongue", "LRhymedThen$Tongue;", true)
  | 1 => ("RhymedThen$Signs", "past", "LRhymedThen$Past;", true)
  | 2 => ("RhymedThen$Signs", "all", "[LRhymedThen$Sign;", true)
  | 3 => ("RhymedThen$Signs", "told", "I", false)
  | 4 => ("RhymedThen$Signs", "on", "I", false)
  | 5 => ("RhymedThen$Signs", "held", "[I", true)
  | _ => ("RhymedThen$Signs", "doubted", "I", false)
def tyX6 : Nat → FieldType := fun k => match k with
  | 0 => .object "RhymedThen$Tongue"
  | 1 => .object "RhymedThen$Past"
  | 2 => .array (.object "RhymedThen$Sign")
  | 3 => .int
  | 4 => .int
  | 5 => .array .int
  | _ => .int
abbrev wsX60 : List Cond := u_ws RX6 TX6 7
theorem nmX6 : ∀ a, a < 7 → ∀ b, b < 7 → a ≠ b → (TX6 a).2.1 ≠ (TX6 b).2.1 := by decide +kernel
theorem tyX6_ok : ∀ k, k < 7 → parseFieldDescriptor (TX6 k).2.2.1 = some (tyX6 k) := by decide +kernel
abbrev cX6_init : ByteArray := prog_8_method_1_code
def yX6_init : MethodName := ⟨RX6, "<init>", "(LRhymedThen$Tongue;LRhymedThen$Past;)V"⟩
abbrev cX6_addTold : ByteArray := prog_8_method_2_code
def yX6_addTold : MethodName := ⟨RX6, "addTold", "()I"⟩
abbrev cX6_doubtAll : ByteArray := prog_8_method_3_code
def yX6_doubtAll : MethodName := ⟨RX6, "doubtAll", "()V"⟩
abbrev cX6_doubtPlace : ByteArray := prog_8_method_4_code
def yX6_doubtPlace : MethodName := ⟨RX6, "doubtPlace", "(I)V"⟩
abbrev cX6_atPlace : ByteArray := prog_8_method_5_code
def yX6_atPlace : MethodName := ⟨RX6, "atPlace", "(I)I"⟩
abbrev cX6_lookAnew : ByteArray := prog_8_method_6_code
def yX6_lookAnew : MethodName := ⟨RX6, "lookAnew", "()V"⟩
abbrev cX6_lookAt : ByteArray := prog_8_method_7_code
def yX6_lookAt : MethodName := ⟨RX6, "lookAt", "(I)V"⟩
abbrev cX6_heldBy : ByteArray := prog_8_method_8_code
def yX6_heldBy : MethodName := ⟨RX6, "heldBy", "(I)I"⟩
abbrev cX6_failingBy : ByteArray := prog_8_method_9_code
def yX6_failingBy : MethodName := ⟨RX6, "failingBy", "(I)I"⟩
abbrev cX6_fitsTo : ByteArray := prog_8_method_10_code
def yX6_fitsTo : MethodName := ⟨RX6, "fitsTo", "(I)Z"⟩
abbrev cX6_fitCount : ByteArray := prog_8_method_11_code
def yX6_fitCount : MethodName := ⟨RX6, "fitCount", "()I"⟩
abbrev cX6_fitCountHolding : ByteArray := prog_8_method_12_code
def yX6_fitCountHolding : MethodName := ⟨RX6, "fitCountHolding", "(I)I"⟩
abbrev cX6_allAreSoAmong : ByteArray := prog_8_method_13_code
def yX6_allAreSoAmong : MethodName := ⟨RX6, "allAreSoAmong", "(III)Z"⟩
abbrev cX6_someFitsWithLag : ByteArray := prog_8_method_14_code
def yX6_someFitsWithLag : MethodName := ⟨RX6, "someFitsWithLag", "(II)Z"⟩
abbrev cX6_allAreSoWithLag : ByteArray := prog_8_method_15_code
def yX6_allAreSoWithLag : MethodName := ⟨RX6, "allAreSoWithLag", "(III)Z"⟩
abbrev cX6_weightOf : ByteArray := prog_8_method_16_code
def yX6_weightOf : MethodName := ⟨RX6, "weightOf", "(II)J"⟩
abbrev cX6_rhymesOf : ByteArray := prog_8_method_17_code
def yX6_rhymesOf : MethodName := ⟨RX6, "rhymesOf", "(I)I"⟩
abbrev cX6_isStaged : ByteArray := prog_8_method_18_code
def yX6_isStaged : MethodName := ⟨RX6, "isStaged", "(I)Z"⟩
def RX7 : String := "RhymedThen$Stage"
def TX7 : u_T := fun k => match k with
  | 0 => ("RhymedThen$Stage", "invited", "I", false)
  | 1 => ("RhymedThen$Stage", "cast", "I", false)
  | 2 => ("RhymedThen$Stage", "words", "[I", true)
  | 3 => ("RhymedThen$Stage", "best", "[I", true)
  | 4 => ("RhymedThen$Stage", "courses", "[I", true)
  | 5 => ("RhymedThen$Stage", "chosen", "[I", true)
  | 6 => ("RhymedThen$Stage", "pairs", "I", false)
  | 7 => ("RhymedThen$Stage", "firsts", "[I", true)
  | 8 => ("RhymedThen$Stage", "seconds", "[I", true)
  | _ => ("RhymedThen$Stage", "so", "[I", true)
def tyX7 : Nat → FieldType := fun k => match k with
  | 0 => .int
  | 1 => .int
  | 2 => .array .int
  | 3 => .array .int
  | 4 => .array .int
  | 5 => .array .int
  | 6 => .int
  | 7 => .array .int
  | 8 => .array .int
  | _ => .array .int
abbrev wsX70 : List Cond := u_ws RX7 TX7 10
theorem nmX7 : ∀ a, a < 10 → ∀ b, b < 10 → a ≠ b → (TX7 a).2.1 ≠ (TX7 b).2.1 := by decide +kernel
theorem tyX7_ok : ∀ k, k < 10 → parseFieldDescriptor (TX7 k).2.2.1 = some (tyX7 k) := by decide +kernel
abbrev cX7_init : ByteArray := prog_9_method_1_code
def yX7_init : MethodName := ⟨RX7, "<init>", "()V"⟩
abbrev cX7_clear : ByteArray := prog_9_method_2_code
def yX7_clear : MethodName := ⟨RX7, "clear", "()V"⟩
abbrev cX7_invite : ByteArray := prog_9_method_3_code
def yX7_invite : MethodName := ⟨RX7, "invite", "(I)V"⟩
abbrev cX7_seat : ByteArray := prog_9_method_4_code
def yX7_seat : MethodName := ⟨RX7, "seat", "()V"⟩
abbrev cX7_seatOf : ByteArray := prog_9_method_5_code
def yX7_seatOf : MethodName := ⟨RX7, "seatOf", "(I)I"⟩
abbrev cX7_addPair : ByteArray := prog_9_method_6_code
def yX7_addPair : MethodName := ⟨RX7, "addPair", "(LRhymedThen$Sign;LRhymedThen$Tongue;)V"⟩
abbrev cX7_play : ByteArray := prog_9_method_7_code
def yX7_play : MethodName := ⟨RX7, "play", "()I"⟩
abbrev cX7_countSo : ByteArray := prog_9_method_8_code
def yX7_countSo : MethodName := ⟨RX7, "countSo", "()I"⟩
abbrev cX7_chooseNext : ByteArray := prog_9_method_9_code
def yX7_chooseNext : MethodName := ⟨RX7, "chooseNext", "()V"⟩
def RX8 : String := "RhymedThen$Text"
def TX8 : u_T := fun k => match k with
  | 0 => ("RhymedThen$Text", "signs", "[I", true)
  | _ => ("RhymedThen$Text", "size", "I", false)
def tyX8 : Nat → FieldType := fun k => match k with
  | 0 => .array .int
  | _ => .int
abbrev wsX80 : List Cond := u_ws RX8 TX8 2
theorem nmX8 : ∀ a, a < 2 → ∀ b, b < 2 → a ≠ b → (TX8 a).2.1 ≠ (TX8 b).2.1 := by decide +kernel
theorem tyX8_ok : ∀ k, k < 2 → parseFieldDescriptor (TX8 k).2.2.1 = some (tyX8 k) := by decide +kernel
abbrev cX8_init : ByteArray := prog_10_method_1_code
def yX8_init : MethodName := ⟨RX8, "<init>", "()V"⟩
abbrev cX8_takes : ByteArray := prog_10_method_2_code
def yX8_takes : MethodName := ⟨RX8, "takes", "(I)Z"⟩
abbrev cX8_cutTo : ByteArray := prog_10_method_3_code
def yX8_cutTo : MethodName := ⟨RX8, "cutTo", "(I)Z"⟩
abbrev cX8_signAt : ByteArray := prog_10_method_4_code
def yX8_signAt : MethodName := ⟨RX8, "signAt", "(I)I"⟩
abbrev cX8_firstNoWord : ByteArray := prog_10_method_5_code
def yX8_firstNoWord : MethodName := ⟨RX8, "firstNoWord", "()I"⟩
abbrev cX8_asForm : ByteArray := prog_10_method_6_code
def yX8_asForm : MethodName := ⟨RX8, "asForm", "()J"⟩
abbrev cX8_isSound : ByteArray := prog_10_method_7_code
def yX8_isSound : MethodName := ⟨RX8, "isSound", "(I)Z"⟩
abbrev cX8_isSoundOrClass : ByteArray := prog_10_method_8_code
def yX8_isSoundOrClass : MethodName := ⟨RX8, "isSoundOrClass", "(I)Z"⟩
def RX9 : String := "RhymedThen$Tongue"
def TX9 : u_T := fun k => match k with
  | 0 => ("RhymedThen$Tongue", "laws", "[LRhymedThen$Law;", true)
  | 1 => ("RhymedThen$Tongue", "lawCount", "I", false)
  | 2 => ("RhymedThen$Tongue", "words", "I", false)
  | 3 => ("RhymedThen$Tongue", "classes", "[I", true)
  | 4 => ("RhymedThen$Tongue", "walked", "I", false)
  | 5 => ("RhymedThen$Tongue", "following", "[I", false)
  | _ => ("RhymedThen$Tongue", "forms", "[J", false)
def tyX9 : Nat → FieldType := fun k => match k with
  | 0 => .array (.object "RhymedThen$Law")
  | 1 => .int
  | 2 => .int
  | 3 => .array .int
  | 4 => .int
  | 5 => .array .int
  | _ => .array .long
abbrev wsX90 : List Cond := u_ws RX9 TX9 7
theorem nmX9 : ∀ a, a < 7 → ∀ b, b < 7 → a ≠ b → (TX9 a).2.1 ≠ (TX9 b).2.1 := by decide +kernel
theorem tyX9_ok : ∀ k, k < 7 → parseFieldDescriptor (TX9 k).2.2.1 = some (tyX9 k) := by decide +kernel
abbrev cX9_init : ByteArray := prog_11_method_1_code
def yX9_init : MethodName := ⟨RX9, "<init>", "()V"⟩
abbrev cX9_vowels : ByteArray := prog_11_method_2_code
def yX9_vowels : MethodName := ⟨RX9, "vowels", "()I"⟩
abbrev cX9_setClass : ByteArray := prog_11_method_3_code
def yX9_setClass : MethodName := ⟨RX9, "setClass", "(II)V"⟩
abbrev cX9_forgetCourses : ByteArray := prog_11_method_4_code
def yX9_forgetCourses : MethodName := ⟨RX9, "forgetCourses", "()V"⟩
abbrev cX9_addWord : ByteArray := prog_11_method_5_code
def yX9_addWord : MethodName := ⟨RX9, "addWord", "(J)I"⟩
abbrev cX9_addLaw : ByteArray := prog_11_method_6_code
def yX9_addLaw : MethodName := ⟨RX9, "addLaw", "()I"⟩
abbrev cX9_courseAfter : ByteArray := prog_11_method_7_code
def yX9_courseAfter : MethodName := ⟨RX9, "courseAfter", "(II)I"⟩
abbrev cX9_makeRoom : ByteArray := prog_11_method_8_code
def yX9_makeRoom : MethodName := ⟨RX9, "makeRoom", "()V"⟩
abbrev cX9_formOn : ByteArray := prog_11_method_9_code
def yX9_formOn : MethodName := ⟨RX9, "formOn", "(II)J"⟩
abbrev cX9_tailOn : ByteArray := prog_11_method_10_code
def yX9_tailOn : MethodName := ⟨RX9, "tailOn", "(II)J"⟩
abbrev cX9_rhymeOn : ByteArray := prog_11_method_11_code
def yX9_rhymeOn : MethodName := ⟨RX9, "rhymeOn", "(III)Z"⟩
abbrev cX9_differing : ByteArray := prog_11_method_12_code
def yX9_differing : MethodName := ⟨RX9, "differing", "(II)I"⟩
abbrev cX9_saidLike : ByteArray := prog_11_method_13_code
def yX9_saidLike : MethodName := ⟨RX9, "saidLike", "(II)I"⟩
def RX10 : String := "RhymedThen$Ways"
def TX10 : u_T := fun k => match k with
  | 0 => ("RhymedThen$Ways", "forms", "[J", true)
  | 1 => ("RhymedThen$Ways", "sums", "[J", true)
  | _ => ("RhymedThen$Ways", "size", "I", false)
def tyX10 : Nat → FieldType := fun k => match k with
  | 0 => .array .long
  | 1 => .array .long
  | _ => .int
abbrev wsX100 : List Cond := u_ws RX10 TX10 3
theorem nmX10 : ∀ a, a < 3 → ∀ b, b < 3 → a ≠ b → (TX10 a).2.1 ≠ (TX10 b).2.1 := by decide +kernel
theorem tyX10_ok : ∀ k, k < 3 → parseFieldDescriptor (TX10 k).2.2.1 = some (tyX10 k) := by decide +kernel
abbrev cX10_init : ByteArray := prog_12_method_1_code
def yX10_init : MethodName := ⟨RX10, "<init>", "()V"⟩
abbrev cX10_clear : ByteArray := prog_12_method_2_code
def yX10_clear : MethodName := ⟨RX10, "clear", "()V"⟩
abbrev cX10_add : ByteArray := prog_12_method_3_code
def yX10_add : MethodName := ⟨RX10, "add", "(JJ)V"⟩
abbrev cX10_heaviest : ByteArray := prog_12_method_4_code
def yX10_heaviest : MethodName := ⟨RX10, "heaviest", "()I"⟩
abbrev cX10_shortest : ByteArray := prog_12_method_5_code
def yX10_shortest : MethodName := ⟨RX10, "shortest", "()I"⟩
abbrev cX10_longest : ByteArray := prog_12_method_6_code
def yX10_longest : MethodName := ⟨RX10, "longest", "()I"⟩
def RX11 : String := "RhymedThen"
def TX11 : u_T := fun k => match k with
  | 0 => ("RhymedThen", "text", "LRhymedThen$Text;", true)
  | 1 => ("RhymedThen", "row", "LRhymedThen$Row;", true)
  | 2 => ("RhymedThen", "tongue", "LRhymedThen$Tongue;", true)
  | 3 => ("RhymedThen", "past", "LRhymedThen$Past;", true)
  | 4 => ("RhymedThen", "signs", "LRhymedThen$Signs;", true)
  | 5 => ("RhymedThen", "sought", "LRhymedThen$Sign;", true)
  | 6 => ("RhymedThen", "ways", "LRhymedThen$Ways;", true)
  | 7 => ("RhymedThen", "stage", "LRhymedThen$Stage;", true)
  | 8 => ("RhymedThen", "shelves", "[LRhymedThen$Kept;", true)
  | 9 => ("RhymedThen", "courses", "[I", true)
  | 10 => ("RhymedThen", "weights", "[J", true)
  | 11 => ("RhymedThen", "tails", "[J", true)
  | _ => ("RhymedThen", "pairs", "[I", true)
def tyX11 : Nat → FieldType := fun k => match k with
  | 0 => .object "RhymedThen$Text"
  | 1 => .object "RhymedThen$Row"
  | 2 => .object "RhymedThen$Tongue"
  | 3 => .object "RhymedThen$Past"
  | 4 => .object "RhymedThen$Signs"
  | 5 => .object "RhymedThen$Sign"
  | 6 => .object "RhymedThen$Ways"
  | 7 => .object "RhymedThen$Stage"
  | 8 => .array (.object "RhymedThen$Kept")
  | 9 => .array .int
  | 10 => .array .long
  | 11 => .array .long
  | _ => .array .int
abbrev wsX110 : List Cond := u_ws RX11 TX11 13
theorem nmX11 : ∀ a, a < 13 → ∀ b, b < 13 → a ≠ b → (TX11 a).2.1 ≠ (TX11 b).2.1 := by decide +kernel
theorem tyX11_ok : ∀ k, k < 13 → parseFieldDescriptor (TX11 k).2.2.1 = some (tyX11 k) := by decide +kernel
abbrev cX11_init : ByteArray := prog_1_method_1_code
def yX11_init : MethodName := ⟨RX11, "<init>", "()V"⟩
abbrev cX11_sign : ByteArray := prog_1_method_2_code
def yX11_sign : MethodName := ⟨RX11, "sign", "(I)I"⟩
abbrev cX11_end : ByteArray := prog_1_method_3_code
def yX11_end : MethodName := ⟨RX11, "end", "(I)Z"⟩
abbrev cX11_group : ByteArray := prog_1_method_4_code
def yX11_group : MethodName := ⟨RX11, "group", "(II)I"⟩
abbrev cX11_word : ByteArray := prog_1_method_5_code
def yX11_word : MethodName := ⟨RX11, "word", "()I"⟩
abbrev cX11_wordFromText : ByteArray := prog_1_method_6_code
def yX11_wordFromText : MethodName := ⟨RX11, "wordFromText", "()I"⟩
abbrev cX11_law : ByteArray := prog_1_method_7_code
def yX11_law : MethodName := ⟨RX11, "law", "(III)I"⟩
abbrev cX11_lawFromText : ByteArray := prog_1_method_8_code
def yX11_lawFromText : MethodName := ⟨RX11, "lawFromText", "(III)I"⟩
abbrev cX11_yearsOfLaw : ByteArray := prog_1_method_9_code
def yX11_yearsOfLaw : MethodName := ⟨RX11, "yearsOfLaw", "(III)I"⟩
abbrev cX11_lag : ByteArray := prog_1_method_10_code
def yX11_lag : MethodName := ⟨RX11, "lag", "(II)I"⟩
abbrev cX11_lags : ByteArray := prog_1_method_11_code
def yX11_lags : MethodName := ⟨RX11, "lags", "(IIII)I"⟩
abbrev cX11_lagOnSheet : ByteArray := prog_1_method_12_code
def yX11_lagOnSheet : MethodName := ⟨RX11, "lagOnSheet", "(II)I"⟩
abbrev cX11_said : ByteArray := prog_1_method_13_code
def yX11_said : MethodName := ⟨RX11, "said", "(IIII)I"⟩
abbrev cX11_tellSounds : ByteArray := prog_1_method_14_code
def yX11_tellSounds : MethodName := ⟨RX11, "tellSounds", "(J)I"⟩
abbrev cX11_changes : ByteArray := prog_1_method_15_code
def yX11_changes : MethodName := ⟨RX11, "changes", "(III)I"⟩
abbrev cX11_alike : ByteArray := prog_1_method_16_code
def yX11_alike : MethodName := ⟨RX11, "alike", "(IIIII)I"⟩
abbrev cX11_one : ByteArray := prog_1_method_17_code
def yX11_one : MethodName := ⟨RX11, "one", "(IIII)I"⟩
abbrev cX11_tellSpan : ByteArray := prog_1_method_18_code
def yX11_tellSpan : MethodName := ⟨RX11, "tellSpan", "(II)V"⟩
abbrev cX11_rhymes : ByteArray := prog_1_method_19_code
def yX11_rhymes : MethodName := ⟨RX11, "rhymes", "(IIII)I"⟩
abbrev cX11_chance : ByteArray := prog_1_method_20_code
def yX11_chance : MethodName := ⟨RX11, "chance", "(III)I"⟩
abbrev cX11_works : ByteArray := prog_1_method_21_code
def yX11_works : MethodName := ⟨RX11, "works", "(IIII)I"⟩
abbrev cX11_mark : ByteArray := prog_1_method_22_code
def yX11_mark : MethodName := ⟨RX11, "mark", "(IIIIII)I"⟩
abbrev cX11_mayBeSign : ByteArray := prog_1_method_23_code
def yX11_mayBeSign : MethodName := ⟨RX11, "mayBeSign", "(IIII)Z"⟩
abbrev cX11_by : ByteArray := prog_1_method_24_code
def yX11_by : MethodName := ⟨RX11, "by", "(III)Z"⟩
abbrev cX11_turn : ByteArray := prog_1_method_25_code
def yX11_turn : MethodName := ⟨RX11, "turn", "(IZ)Z"⟩
abbrev cX11_holds : ByteArray := prog_1_method_26_code
def yX11_holds : MethodName := ⟨RX11, "holds", "(II)I"⟩
abbrev cX11_fits : ByteArray := prog_1_method_27_code
def yX11_fits : MethodName := ⟨RX11, "fits", "()I"⟩
abbrev cX11_span : ByteArray := prog_1_method_28_code
def yX11_span : MethodName := ⟨RX11, "span", "(II)I"⟩
abbrev cX11_further : ByteArray := prog_1_method_29_code
def yX11_further : MethodName := ⟨RX11, "further", "(III)I"⟩
abbrev cX11_order : ByteArray := prog_1_method_30_code
def yX11_order : MethodName := ⟨RX11, "order", "(II)I"⟩
abbrev cX11_wrong : ByteArray := prog_1_method_31_code
def yX11_wrong : MethodName := ⟨RX11, "wrong", "()I"⟩
abbrev cX11_blunder : ByteArray := prog_1_method_32_code
def yX11_blunder : MethodName := ⟨RX11, "blunder", "()I"⟩
abbrev cX11_sure : ByteArray := prog_1_method_33_code
def yX11_sure : MethodName := ⟨RX11, "sure", "(III)I"⟩
abbrev cX11_shows : ByteArray := prog_1_method_34_code
def yX11_shows : MethodName := ⟨RX11, "shows", "(II)I"⟩
abbrev cX11_least : ByteArray := prog_1_method_35_code
def yX11_least : MethodName := ⟨RX11, "least", "()I"⟩
abbrev cX11_firstFittingAmong : ByteArray := prog_1_method_36_code
def yX11_firstFittingAmong : MethodName := ⟨RX11, "firstFittingAmong", "(I)I"⟩
abbrev cX11_odds : ByteArray := prog_1_method_37_code
def yX11_odds : MethodName := ⟨RX11, "odds", "(I)I"⟩
abbrev cX11_weighAll : ByteArray := prog_1_method_38_code
def yX11_weighAll : MethodName := ⟨RX11, "weighAll", "(I)J"⟩
abbrev cX11_then : ByteArray := prog_1_method_39_code
def yX11_then : MethodName := ⟨RX11, "then", "(III)I"⟩
abbrev cX11_tooManyToWeigh : ByteArray := prog_1_method_40_code
def yX11_tooManyToWeigh : MethodName := ⟨RX11, "tooManyToWeigh", "()Z"⟩
abbrev cX11_walkAll : ByteArray := prog_1_method_41_code
def yX11_walkAll : MethodName := ⟨RX11, "walkAll", "(II)V"⟩
abbrev cX11_likeliestWay : ByteArray := prog_1_method_42_code
def yX11_likeliestWay : MethodName := ⟨RX11, "likeliestWay", "(I)I"⟩
abbrev cX11_right : ByteArray := prog_1_method_43_code
def yX11_right : MethodName := ⟨RX11, "right", "(III)I"⟩
abbrev cX11_likely : ByteArray := prog_1_method_44_code
def yX11_likely : MethodName := ⟨RX11, "likely", "()I"⟩
abbrev cX11_next : ByteArray := prog_1_method_45_code
def yX11_next : MethodName := ⟨RX11, "next", "()I"⟩
abbrev cX11_isMoreEven : ByteArray := prog_1_method_46_code
def yX11_isMoreEven : MethodName := ⟨RX11, "isMoreEven", "(III)Z"⟩
abbrev cX11_eye : ByteArray := prog_1_method_47_code
def yX11_eye : MethodName := ⟨RX11, "eye", "(II)I"⟩
abbrev cX11_lean : ByteArray := prog_1_method_48_code
def yX11_lean : MethodName := ⟨RX11, "lean", "(II)I"⟩
abbrev cX11_ahead : ByteArray := prog_1_method_49_code
def yX11_ahead : MethodName := ⟨RX11, "ahead", "(II)I"⟩
abbrev cX11_stage : ByteArray := prog_1_method_50_code
def yX11_stage : MethodName := ⟨RX11, "stage", "(IIIII)I"⟩
abbrev cX11_might : ByteArray := prog_1_method_51_code
def yX11_might : MethodName := ⟨RX11, "might", "(IIIIII)I"⟩
abbrev cX11_look : ByteArray := prog_1_method_52_code
def yX11_look : MethodName := ⟨RX11, "look", "(II)I"⟩
abbrev cX11_countPairs : ByteArray := prog_1_method_53_code
def yX11_countPairs : MethodName := ⟨RX11, "countPairs", "(II)I"⟩
abbrev cX11_countPairsOn : ByteArray := prog_1_method_54_code
def yX11_countPairsOn : MethodName := ⟨RX11, "countPairsOn", "(I)V"⟩
abbrev cX11_settled : ByteArray := prog_1_method_55_code
def yX11_settled : MethodName := ⟨RX11, "settled", "(II)I"⟩
abbrev cX11_isOneWay : ByteArray := prog_1_method_56_code
def yX11_isOneWay : MethodName := ⟨RX11, "isOneWay", "(III)Z"⟩
abbrev cX11_fell : ByteArray := prog_1_method_57_code
def yX11_fell : MethodName := ⟨RX11, "fell", "(III)I"⟩
abbrev cX11_town : ByteArray := prog_1_method_58_code
def yX11_town : MethodName := ⟨RX11, "town", "(IIII)I"⟩
abbrev cX11_firstSaidSo : ByteArray := prog_1_method_59_code
def yX11_firstSaidSo : MethodName := ⟨RX11, "firstSaidSo", "(IJII)I"⟩
abbrev cX11_swap : ByteArray := prog_1_method_60_code
def yX11_swap : MethodName := ⟨RX11, "swap", "(IIIII)I"⟩
abbrev cX11_keep : ByteArray := prog_1_method_61_code
def yX11_keep : MethodName := ⟨RX11, "keep", "(I)Z"⟩
abbrev cX11_again : ByteArray := prog_1_method_62_code
def yX11_again : MethodName := ⟨RX11, "again", "(I)Z"⟩
abbrev cX11_count : ByteArray := prog_1_method_63_code
def yX11_count : MethodName := ⟨RX11, "count", "(I)I"⟩
abbrev cX11_year : ByteArray := prog_1_method_64_code
def yX11_year : MethodName := ⟨RX11, "year", "(II)I"⟩
abbrev cX11_row : ByteArray := prog_1_method_65_code
def yX11_row : MethodName := ⟨RX11, "row", "(I)J"⟩
abbrev cX11_isBelow : ByteArray := prog_1_method_66_code
def yX11_isBelow : MethodName := ⟨RX11, "isBelow", "(II)Z"⟩
abbrev cX11_isYear : ByteArray := prog_1_method_67_code
def yX11_isYear : MethodName := ⟨RX11, "isYear", "(I)Z"⟩
abbrev cX11_isPlace : ByteArray := prog_1_method_68_code
def yX11_isPlace : MethodName := ⟨RX11, "isPlace", "(I)Z"⟩
abbrev cX11_isWord : ByteArray := prog_1_method_69_code
def yX11_isWord : MethodName := ⟨RX11, "isWord", "(I)Z"⟩
abbrev cX11_isLaw : ByteArray := prog_1_method_70_code
def yX11_isLaw : MethodName := ⟨RX11, "isLaw", "(I)Z"⟩
abbrev cX11_isHistory : ByteArray := prog_1_method_71_code
def yX11_isHistory : MethodName := ⟨RX11, "isHistory", "(I)Z"⟩
abbrev cX11_isSign : ByteArray := prog_1_method_72_code
def yX11_isSign : MethodName := ⟨RX11, "isSign", "(I)Z"⟩
abbrev cX11_isThenAndThere : ByteArray := prog_1_method_73_code
def yX11_isThenAndThere : MethodName := ⟨RX11, "isThenAndThere", "(III)Z"⟩
def RX12 : String := "RhymedThenModel"
def TX12 : u_T := fun k => match k with
  | 0 => ("RhymedThenModel", "thrown", "I", false)
  | 1 => ("RhymedThenModel", "rows", "I", false)
  | 2 => ("RhymedThenModel", "row", "[J", true)
  | 3 => ("RhymedThenModel", "tape", "[I", true)
  | 4 => ("RhymedThenModel", "taped", "I", false)
  | 5 => ("RhymedThenModel", "at", "I", false)
  | 6 => ("RhymedThenModel", "to", "I", false)
  | 7 => ("RhymedThenModel", "classes", "[I", true)
  | 8 => ("RhymedThenModel", "words", "I", false)
  | 9 => ("RhymedThenModel", "spelt", "[I", true)
  | 10 => ("RhymedThenModel", "speltLong", "[I", true)
  | 11 => ("RhymedThenModel", "laws", "I", false)
  | 12 => ("RhymedThenModel", "goes", "[I", true)
  | 13 => ("RhymedThenModel", "becomes", "[I", true)
  | 14 => ("RhymedThenModel", "left", "[I", true)
  | 15 => ("RhymedThenModel", "right", "[I", true)
  | 16 => ("RhymedThenModel", "first", "[I", true)
  | 17 => ("RhymedThenModel", "step", "[I", true)
  | 18 => ("RhymedThenModel", "many", "[I", true)
  | 19 => ("RhymedThenModel", "lag", "[I", true)
  | 20 => ("RhymedThenModel", "said", "[I", true)
  | 21 => ("RhymedThenModel", "saidLong", "[I", true)
  | 22 => ("RhymedThenModel", "fresh", "[I", true)
  | 23 => ("RhymedThenModel", "orderOf", "[I", true)
  | 24 => ("RhymedThenModel", "orders", "I", false)
  | 25 => ("RhymedThenModel", "never", "I", false)
  | 26 => ("RhymedThenModel", "swapOne", "I", false)
  | 27 => ("RhymedThenModel", "swapOther", "I", false)
  | 28 => ("RhymedThenModel", "signs", "I", false)
  | 29 => ("RhymedThenModel", "kind", "[I", true)
  | 30 => ("RhymedThenModel", "signOne", "[I", true)
  | 31 => ("RhymedThenModel", "signOther", "[I", true)
  | 32 => ("RhymedThenModel", "signYear", "[I", true)
  | 33 => ("RhymedThenModel", "signPlace", "[I", true)
  | 34 => ("RhymedThenModel", "signNumber", "[I", true)
  | 35 => ("RhymedThenModel", "poet", "[I", true)
  | 36 => ("RhymedThenModel", "trust", "[I", true)
  | 37 => ("RhymedThenModel", "isOn", "[Z", true)
  | 38 => ("RhymedThenModel", "fitting", "[I", true)
  | 39 => ("RhymedThenModel", "fit", "I", false)
  | 40 => ("RhymedThenModel", "ways", "[J", true)
  | 41 => ("RhymedThenModel", "wayWeight", "[J", true)
  | 42 => ("RhymedThenModel", "wayMany", "I", false)
  | 43 => ("RhymedThenModel", "historyWeight", "[J", true)
  | 44 => ("RhymedThenModel", "eyes", "[I", true)
  | 45 => ("RhymedThenModel", "staged", "[I", true)
  | 46 => ("RhymedThenModel", "stagedYear", "[I", true)
  | 47 => ("RhymedThenModel", "bestYear", "[I", true)
  | 48 => ("RhymedThenModel", "tellings", "[I", true)
  | 49 => ("RhymedThenModel", "stagedMany", "I", false)
  | 50 => ("RhymedThenModel", "bestStage", "I", false)
  | 51 => ("RhymedThenModel", "isKept", "[Z", true)
  | 52 => ("RhymedThenModel", "keptSigns", "[I", true)
  | 53 => ("RhymedThenModel", "keptOn", "[Z", true)
  | 54 => ("RhymedThenModel", "keptPoet", "[I", true)
  | 55 => ("RhymedThenModel", "keptTrust", "[I", true)
  | 56 => ("RhymedThenModel", "keptLag", "[I", true)
  | _ => ("RhymedThenModel", "keptClass", "[I", true)
def tyX12 : Nat → FieldType := fun k => match k with
  | 0 => .int
  | 1 => .int
  | 2 => .array .long
  | 3 => .array .int
  | 4 => .int
  | 5 => .int
  | 6 => .int
  | 7 => .array .int
  | 8 => .int
  | 9 => .array .int
  | 10 => .array .int
  | 11 => .int
  | 12 => .array .int
  | 13 => .array .int
  | 14 => .array .int
  | 15 => .array .int
  | 16 => .array .int
  | 17 => .array .int
  | 18 => .array .int
  | 19 => .array .int
  | 20 => .array .int
  | 21 => .array .int
  | 22 => .array .int
  | 23 => .array .int
  | 24 => .int
  | 25 => .int
  | 26 => .int
  | 27 => .int
  | 28 => .int
  | 29 => .array .int
  | 30 => .array .int
  | 31 => .array .int
  | 32 => .array .int
  | 33 => .array .int
  | 34 => .array .int
  | 35 => .array .int
  | 36 => .array .int
  | 37 => .array .boolean
  | 38 => .array .int
  | 39 => .int
  | 40 => .array .long
  | 41 => .array .long
  | 42 => .int
  | 43 => .array .long
  | 44 => .array .int
  | 45 => .array .int
  | 46 => .array .int
  | 47 => .array .int
  | 48 => .array .int
  | 49 => .int
  | 50 => .int
  | 51 => .array .boolean
  | 52 => .array .int
  | 53 => .array .boolean
  | 54 => .array .int
  | 55 => .array .int
  | 56 => .array .int
  | _ => .array .int
abbrev wsX120 : List Cond := u_ws RX12 TX12 58
theorem nmX12 : ∀ a, a < 58 → ∀ b, b < 58 → a ≠ b → (TX12 a).2.1 ≠ (TX12 b).2.1 := by decide +kernel
theorem tyX12_ok : ∀ k, k < 58 → parseFieldDescriptor (TX12 k).2.2.1 = some (tyX12 k) := by decide +kernel
abbrev cX12_thrown : ByteArray := prog_14_method_1_code
def yX12_thrown : MethodName := ⟨RX12, "thrown", "()I"⟩
abbrev cX12_in : ByteArray := prog_14_method_2_code
def yX12_in : MethodName := ⟨RX12, "in", "(JJJ)Z"⟩
abbrev cX12_has : ByteArray := prog_14_method_3_code
def yX12_has : MethodName := ⟨RX12, "has", "(II)Z"⟩
abbrev cX12_truth : ByteArray := prog_14_method_4_code
def yX12_truth : MethodName := ⟨RX12, "truth", "(Z)I"⟩
abbrev cX12_enters : ByteArray := prog_14_method_5_code
def yX12_enters : MethodName := ⟨RX12, "enters", "(J)V"⟩
abbrev cX12_common : ByteArray := prog_14_method_6_code
def yX12_common : MethodName := ⟨RX12, "common", "(JJ)J"⟩
abbrev cX12_entersFraction : ByteArray := prog_14_method_7_code
def yX12_entersFraction : MethodName := ⟨RX12, "entersFraction", "(JJ)V"⟩
abbrev cX12_sign : ByteArray := prog_14_method_8_code
def yX12_sign : MethodName := ⟨RX12, "sign", "(I)I"⟩
abbrev cX12_end : ByteArray := prog_14_method_9_code
def yX12_end : MethodName := ⟨RX12, "end", "(I)Z"⟩
abbrev cX12_comes : ByteArray := prog_14_method_10_code
def yX12_comes : MethodName := ⟨RX12, "comes", "(C)Z"⟩
abbrev cX12_sound : ByteArray := prog_14_method_11_code
def yX12_sound : MethodName := ⟨RX12, "sound", "()I"⟩
abbrev cX12_soundOrClass : ByteArray := prog_14_method_12_code
def yX12_soundOrClass : MethodName := ⟨RX12, "soundOrClass", "()I"⟩
abbrev cX12_beside : ByteArray := prog_14_method_13_code
def yX12_beside : MethodName := ⟨RX12, "beside", "()I"⟩
abbrev cX12_group : ByteArray := prog_14_method_14_code
def yX12_group : MethodName := ⟨RX12, "group", "(II)I"⟩
abbrev cX12_word : ByteArray := prog_14_method_15_code
def yX12_word : MethodName := ⟨RX12, "word", "()I"⟩
abbrev cX12_readsLaw : ByteArray := prog_14_method_16_code
def yX12_readsLaw : MethodName := ⟨RX12, "readsLaw", "(I)Z"⟩
abbrev cX12_histories : ByteArray := prog_14_method_17_code
def yX12_histories : MethodName := ⟨RX12, "histories", "()I"⟩
abbrev cX12_law : ByteArray := prog_14_method_18_code
def yX12_law : MethodName := ⟨RX12, "law", "(III)I"⟩
abbrev cX12_lag : ByteArray := prog_14_method_19_code
def yX12_lag : MethodName := ⟨RX12, "lag", "(II)I"⟩
abbrev cX12_lags : ByteArray := prog_14_method_20_code
def yX12_lags : MethodName := ⟨RX12, "lags", "(IIII)I"⟩
abbrev cX12_yearOf : ByteArray := prog_14_method_21_code
def yX12_yearOf : MethodName := ⟨RX12, "yearOf", "(II)I"⟩
abbrev cX12_lines : ByteArray := prog_14_method_22_code
def yX12_lines : MethodName := ⟨RX12, "lines", "(III)V"⟩
abbrev cX12_isOf : ByteArray := prog_14_method_23_code
def yX12_isOf : MethodName := ⟨RX12, "isOf", "(II)Z"⟩
abbrev cX12_isBeside : ByteArray := prog_14_method_24_code
def yX12_isBeside : MethodName := ⟨RX12, "isBeside", "(II)Z"⟩
abbrev cX12_worksOn : ByteArray := prog_14_method_25_code
def yX12_worksOn : MethodName := ⟨RX12, "worksOn", "(II)Z"⟩
abbrev cX12_spells : ByteArray := prog_14_method_26_code
def yX12_spells : MethodName := ⟨RX12, "spells", "(II)V"⟩
abbrev cX12_says : ByteArray := prog_14_method_27_code
def yX12_says : MethodName := ⟨RX12, "says", "(IIIII)V"⟩
abbrev cX12_areAlike : ByteArray := prog_14_method_28_code
def yX12_areAlike : MethodName := ⟨RX12, "areAlike", "()Z"⟩
abbrev cX12_tailAt : ByteArray := prog_14_method_29_code
def yX12_tailAt : MethodName := ⟨RX12, "tailAt", "(I)I"⟩
abbrev cX12_haveTails : ByteArray := prog_14_method_30_code
def yX12_haveTails : MethodName := ⟨RX12, "haveTails", "()Z"⟩
abbrev cX12_areTailsAlike : ByteArray := prog_14_method_31_code
def yX12_areTailsAlike : MethodName := ⟨RX12, "areTailsAlike", "()Z"⟩
abbrev cX12_areRhymes : ByteArray := prog_14_method_32_code
def yX12_areRhymes : MethodName := ⟨RX12, "areRhymes", "()Z"⟩
abbrev cX12_isWord : ByteArray := prog_14_method_33_code
def yX12_isWord : MethodName := ⟨RX12, "isWord", "(I)Z"⟩
abbrev cX12_isLaw : ByteArray := prog_14_method_34_code
def yX12_isLaw : MethodName := ⟨RX12, "isLaw", "(I)Z"⟩
abbrev cX12_isHistory : ByteArray := prog_14_method_35_code
def yX12_isHistory : MethodName := ⟨RX12, "isHistory", "(I)Z"⟩
abbrev cX12_isThen : ByteArray := prog_14_method_36_code
def yX12_isThen : MethodName := ⟨RX12, "isThen", "(II)Z"⟩
abbrev cX12_said : ByteArray := prog_14_method_37_code
def yX12_said : MethodName := ⟨RX12, "said", "(IIII)I"⟩
abbrev cX12_changes : ByteArray := prog_14_method_38_code
def yX12_changes : MethodName := ⟨RX12, "changes", "(III)I"⟩
abbrev cX12_saysBoth : ByteArray := prog_14_method_39_code
def yX12_saysBoth : MethodName := ⟨RX12, "saysBoth", "(IIIII)V"⟩
abbrev cX12_alike : ByteArray := prog_14_method_40_code
def yX12_alike : MethodName := ⟨RX12, "alike", "(IIIII)I"⟩
abbrev cX12_one : ByteArray := prog_14_method_41_code
def yX12_one : MethodName := ⟨RX12, "one", "(IIII)I"⟩
abbrev cX12_rhymes : ByteArray := prog_14_method_42_code
def yX12_rhymes : MethodName := ⟨RX12, "rhymes", "(IIII)I"⟩
abbrev cX12_chance : ByteArray := prog_14_method_43_code
def yX12_chance : MethodName := ⟨RX12, "chance", "(III)I"⟩
abbrev cX12_works : ByteArray := prog_14_method_44_code
def yX12_works : MethodName := ⟨RX12, "works", "(IIII)I"⟩
abbrev cX12_isMark : ByteArray := prog_14_method_45_code
def yX12_isMark : MethodName := ⟨RX12, "isMark", "(IIIIII)Z"⟩
abbrev cX12_lays : ByteArray := prog_14_method_46_code
def yX12_lays : MethodName := ⟨RX12, "lays", "(IIIIIII)V"⟩
abbrev cX12_mark : ByteArray := prog_14_method_47_code
def yX12_mark : MethodName := ⟨RX12, "mark", "(IIIIII)I"⟩
abbrev cX12_isSign : ByteArray := prog_14_method_48_code
def yX12_isSign : MethodName := ⟨RX12, "isSign", "(I)Z"⟩
abbrev cX12_by : ByteArray := prog_14_method_49_code
def yX12_by : MethodName := ⟨RX12, "by", "(III)Z"⟩
abbrev cX12_turn : ByteArray := prog_14_method_50_code
def yX12_turn : MethodName := ⟨RX12, "turn", "(IZ)Z"⟩
abbrev cX12_isHeld : ByteArray := prog_14_method_51_code
def yX12_isHeld : MethodName := ⟨RX12, "isHeld", "(II)Z"⟩
abbrev cX12_holds : ByteArray := prog_14_method_52_code
def yX12_holds : MethodName := ⟨RX12, "holds", "(II)I"⟩
abbrev cX12_isFit : ByteArray := prog_14_method_53_code
def yX12_isFit : MethodName := ⟨RX12, "isFit", "(I)Z"⟩
abbrev cX12_wrongs : ByteArray := prog_14_method_54_code
def yX12_wrongs : MethodName := ⟨RX12, "wrongs", "(I)I"⟩
abbrev cX12_gathers : ByteArray := prog_14_method_55_code
def yX12_gathers : MethodName := ⟨RX12, "gathers", "()V"⟩
abbrev cX12_fits : ByteArray := prog_14_method_56_code
def yX12_fits : MethodName := ⟨RX12, "fits", "()I"⟩
abbrev cX12_span : ByteArray := prog_14_method_57_code
def yX12_span : MethodName := ⟨RX12, "span", "(II)I"⟩
abbrev cX12_order : ByteArray := prog_14_method_58_code
def yX12_order : MethodName := ⟨RX12, "order", "(II)I"⟩
abbrev cX12_wrong : ByteArray := prog_14_method_59_code
def yX12_wrong : MethodName := ⟨RX12, "wrong", "()I"⟩
abbrev cX12_blunder : ByteArray := prog_14_method_60_code
def yX12_blunder : MethodName := ⟨RX12, "blunder", "()I"⟩
abbrev cX12_packs : ByteArray := prog_14_method_61_code
def yX12_packs : MethodName := ⟨RX12, "packs", "(I)J"⟩
abbrev cX12_longOf : ByteArray := prog_14_method_62_code
def yX12_longOf : MethodName := ⟨RX12, "longOf", "(J)I"⟩
abbrev cX12_notes : ByteArray := prog_14_method_63_code
def yX12_notes : MethodName := ⟨RX12, "notes", "(JJ)V"⟩
abbrev cX12_sure : ByteArray := prog_14_method_64_code
def yX12_sure : MethodName := ⟨RX12, "sure", "(III)I"⟩
abbrev cX12_shows : ByteArray := prog_14_method_65_code
def yX12_shows : MethodName := ⟨RX12, "shows", "(II)I"⟩
abbrev cX12_least : ByteArray := prog_14_method_66_code
def yX12_least : MethodName := ⟨RX12, "least", "()I"⟩
abbrev cX12_onMany : ByteArray := prog_14_method_67_code
def yX12_onMany : MethodName := ⟨RX12, "onMany", "(I)I"⟩
abbrev cX12_weightOf : ByteArray := prog_14_method_68_code
def yX12_weightOf : MethodName := ⟨RX12, "weightOf", "(II)J"⟩
abbrev cX12_odds : ByteArray := prog_14_method_69_code
def yX12_odds : MethodName := ⟨RX12, "odds", "(I)I"⟩
abbrev cX12_weighsAll : ByteArray := prog_14_method_70_code
def yX12_weighsAll : MethodName := ⟨RX12, "weighsAll", "()J"⟩
abbrev cX12_likeliest : ByteArray := prog_14_method_71_code
def yX12_likeliest : MethodName := ⟨RX12, "likeliest", "(III)I"⟩
abbrev cX12_then : ByteArray := prog_14_method_72_code
def yX12_then : MethodName := ⟨RX12, "then", "(III)I"⟩
abbrev cX12_right : ByteArray := prog_14_method_73_code
def yX12_right : MethodName := ⟨RX12, "right", "(III)I"⟩
abbrev cX12_likely : ByteArray := prog_14_method_74_code
def yX12_likely : MethodName := ⟨RX12, "likely", "()I"⟩
abbrev cX12_heldBy : ByteArray := prog_14_method_75_code
def yX12_heldBy : MethodName := ⟨RX12, "heldBy", "(I)I"⟩
abbrev cX12_next : ByteArray := prog_14_method_76_code
def yX12_next : MethodName := ⟨RX12, "next", "()I"⟩
abbrev cX12_eye : ByteArray := prog_14_method_77_code
def yX12_eye : MethodName := ⟨RX12, "eye", "(II)I"⟩
abbrev cX12_lean : ByteArray := prog_14_method_78_code
def yX12_lean : MethodName := ⟨RX12, "lean", "(II)I"⟩
abbrev cX12_isAnyFit : ByteArray := prog_14_method_79_code
def yX12_isAnyFit : MethodName := ⟨RX12, "isAnyFit", "()Z"⟩
abbrev cX12_ahead : ByteArray := prog_14_method_80_code
def yX12_ahead : MethodName := ⟨RX12, "ahead", "(II)I"⟩
abbrev cX12_isOnStage : ByteArray := prog_14_method_81_code
def yX12_isOnStage : MethodName := ⟨RX12, "isOnStage", "(I)Z"⟩
abbrev cX12_stagedAt : ByteArray := prog_14_method_82_code
def yX12_stagedAt : MethodName := ⟨RX12, "stagedAt", "(I)I"⟩
abbrev cX12_stages : ByteArray := prog_14_method_83_code
def yX12_stages : MethodName := ⟨RX12, "stages", "(III)V"⟩
abbrev cX12_stage : ByteArray := prog_14_method_84_code
def yX12_stage : MethodName := ⟨RX12, "stage", "(IIIII)I"⟩
abbrev cX12_might : ByteArray := prog_14_method_85_code
def yX12_might : MethodName := ⟨RX12, "might", "(IIIIII)I"⟩
abbrev cX12_look : ByteArray := prog_14_method_86_code
def yX12_look : MethodName := ⟨RX12, "look", "(II)I"⟩
abbrev cX12_isOneWay : ByteArray := prog_14_method_87_code
def yX12_isOneWay : MethodName := ⟨RX12, "isOneWay", "(III)Z"⟩
abbrev cX12_settled : ByteArray := prog_14_method_88_code
def yX12_settled : MethodName := ⟨RX12, "settled", "(II)I"⟩
abbrev cX12_fell : ByteArray := prog_14_method_89_code
def yX12_fell : MethodName := ⟨RX12, "fell", "(III)I"⟩
abbrev cX12_town : ByteArray := prog_14_method_90_code
def yX12_town : MethodName := ⟨RX12, "town", "(IIII)I"⟩
abbrev cX12_hasCome : ByteArray := prog_14_method_91_code
def yX12_hasCome : MethodName := ⟨RX12, "hasCome", "(IIII)Z"⟩
abbrev cX12_swap : ByteArray := prog_14_method_92_code
def yX12_swap : MethodName := ⟨RX12, "swap", "(IIIII)I"⟩
abbrev cX12_keep : ByteArray := prog_14_method_93_code
def yX12_keep : MethodName := ⟨RX12, "keep", "(I)Z"⟩
abbrev cX12_again : ByteArray := prog_14_method_94_code
def yX12_again : MethodName := ⟨RX12, "again", "(I)Z"⟩
abbrev cX12_onBits : ByteArray := prog_14_method_95_code
def yX12_onBits : MethodName := ⟨RX12, "onBits", "()I"⟩
abbrev cX12_count : ByteArray := prog_14_method_96_code
def yX12_count : MethodName := ⟨RX12, "count", "(I)I"⟩
abbrev cX12_year : ByteArray := prog_14_method_97_code
def yX12_year : MethodName := ⟨RX12, "year", "(II)I"⟩
abbrev cX12_init : ByteArray := prog_14_method_98_code
def yX12_init : MethodName := ⟨RX12, "<init>", "()V"⟩
abbrev cX12_row : ByteArray := prog_14_method_99_code
def yX12_row : MethodName := ⟨RX12, "row", "(I)J"⟩
def RJ6 : String := "java/lang/Integer"
def TJ6 : u_T := fun k => match k with
  | _ => ("", "", "", false)
def tyJ6 : Nat → FieldType := fun k => match k with
  | _ => .int
theorem nmJ6 : ∀ a, a < 0 → ∀ b, b < 0 → a ≠ b → (TJ6 a).2.1 ≠ (TJ6 b).2.1 := by decide +kernel
abbrev cJ6_bitCount_0f7a4 : ByteArray := prog_17_method_49_code
def yJ6_bitCount_0f7a4 : MethodName := ⟨RJ6, "bitCount", "(I)I"⟩
def RJ9 : String := "java/lang/Math"
def TJ9 : u_T := fun k => match k with
  | _ => ("", "", "", false)
def tyJ9 : Nat → FieldType := fun k => match k with
  | _ => .int
theorem nmJ9 : ∀ a, a < 0 → ∀ b, b < 0 → a ≠ b → (TJ9 a).2.1 ≠ (TJ9 b).2.1 := by decide +kernel
abbrev cJ9_abs_0f7a4 : ByteArray := prog_18_method_59_code
def yJ9_abs_0f7a4 : MethodName := ⟨RJ9, "abs", "(I)I"⟩
abbrev cJ9_max_7cf53 : ByteArray := prog_18_method_65_code
def yJ9_max_7cf53 : MethodName := ⟨RJ9, "max", "(II)I"⟩
abbrev cJ9_min_7cf53 : ByteArray := prog_18_method_69_code
def yJ9_min_7cf53 : MethodName := ⟨RJ9, "min", "(II)I"⟩
def RJ10 : String := "java/lang/System"
def TJ10 : u_T := fun k => match k with
  | _ => ("", "", "", false)
def tyJ10 : Nat → FieldType := fun k => match k with
  | _ => .int
theorem nmJ10 : ∀ a, a < 0 → ∀ b, b < 0 → a ≠ b → (TJ10 a).2.1 ≠ (TJ10 b).2.1 := by decide +kernel
def RJ7 : String := "java/util/Arrays"
def TJ7 : u_T := fun k => match k with
  | _ => ("", "", "", false)
def tyJ7 : Nat → FieldType := fun k => match k with
  | _ => .int
theorem nmJ7 : ∀ a, a < 0 → ∀ b, b < 0 → a ≠ b → (TJ7 a).2.1 ≠ (TJ7 b).2.1 := by decide +kernel
abbrev cJ7_fill_53178 : ByteArray := prog_22_method_103_code
def yJ7_fill_53178 : MethodName := ⟨RJ7, "fill", "([II)V"⟩
abbrev cJ7_copyOf_59c91 : ByteArray := prog_22_method_123_code
def yJ7_copyOf_59c91 : MethodName := ⟨RJ7, "copyOf", "([II)[I"⟩
abbrev cJ7_copyOf_c38d5 : ByteArray := prog_22_method_124_code
def yJ7_copyOf_c38d5 : MethodName := ⟨RJ7, "copyOf", "([JI)[J"⟩
def RL : String := "RhymedThenLaw"
abbrev cL_row : ByteArray := method_3_code
def yL_row : MethodName := ⟨RL, "row", "(LRhymedThen;I[J)I"⟩
abbrev cL_law : ByteArray := code
def yL_law : MethodName := ⟨RL, "law", "([I)Z"⟩
abbrev vwCl : List vw_C := [(RX1, TX1, 7), (RX2, TX2, 7), (RX3, TX3, 7), (RX4, TX4, 2), (RX5, TX5, 8), (RX6, TX6, 7), (RX7, TX7, 10), (RX8, TX8, 2), (RX9, TX9, 7), (RX10, TX10, 3), (RX11, TX11, 13), (RX12, TX12, 58)]
def uw_U : List Cond := lw_tbl.filter goodWord
theorem uw_1 {w : Cond} (h : w ∈ tables_1_1) (g : goodWord w = true) : w ∈ uw_U := List.mem_filter.mpr ⟨List.mem_append_right _ (show w ∈ tables_1 from List.mem_append_left _ h), g⟩
theorem uw_2 {w : Cond} (h : w ∈ tables_1_2) (g : goodWord w = true) : w ∈ uw_U := List.mem_filter.mpr ⟨List.mem_append_right _ (show w ∈ tables_1 from List.mem_append_right _ (List.mem_append_left _ h)), g⟩
theorem uw_3 {w : Cond} (h : w ∈ tables_1_3) (g : goodWord w = true) : w ∈ uw_U := List.mem_filter.mpr ⟨List.mem_append_right _ (show w ∈ tables_1 from List.mem_append_right _ (List.mem_append_right _ (List.mem_append_left _ h))), g⟩
theorem uw_4 {w : Cond} (h : w ∈ tables_1_4) (g : goodWord w = true) : w ∈ uw_U := List.mem_filter.mpr ⟨List.mem_append_right _ (show w ∈ tables_1 from List.mem_append_right _ (List.mem_append_right _ (List.mem_append_right _ (List.mem_append_left _ h)))), g⟩
theorem uw_5 {w : Cond} (h : w ∈ tables_1_5) (g : goodWord w = true) : w ∈ uw_U := List.mem_filter.mpr ⟨List.mem_append_right _ (show w ∈ tables_1 from List.mem_append_right _ (List.mem_append_right _ (List.mem_append_right _ (List.mem_append_right _ (List.mem_append_left _ h))))), g⟩
theorem uw_6 {w : Cond} (h : w ∈ tables_1_6) (g : goodWord w = true) : w ∈ uw_U := List.mem_filter.mpr ⟨List.mem_append_right _ (show w ∈ tables_1 from List.mem_append_right _ (List.mem_append_right _ (List.mem_append_right _ (List.mem_append_right _ (List.mem_append_right _ (List.mem_append_left _ h)))))), g⟩
theorem uw_7 {w : Cond} (h : w ∈ tables_1_7) (g : goodWord w = true) : w ∈ uw_U := List.mem_filter.mpr ⟨List.mem_append_right _ (show w ∈ tables_1 from List.mem_append_right _ (List.mem_append_right _ (List.mem_append_right _ (List.mem_append_right _ (List.mem_append_right _ (List.mem_append_right _ (List.mem_append_left _ h))))))), g⟩
theorem uw_8 {w : Cond} (h : w ∈ tables_1_8) (g : goodWord w = true) : w ∈ uw_U := List.mem_filter.mpr ⟨List.mem_append_right _ (show w ∈ tables_1 from List.mem_append_right _ (List.mem_append_right _ (List.mem_append_right _ (List.mem_append_right _ (List.mem_append_right _ (List.mem_append_right _ (List.mem_append_right _ h))))))), g⟩
theorem uw_p1 {q : MethodName × Nat} (h : q ∈ lw_privs_1) : Cond.selects q.1.cls q.1 q.1 ∈ uw_U := List.mem_filter.mpr ⟨List.mem_append_left _ (List.mem_map.mpr ⟨q, (show q ∈ lw_privs from List.mem_append_left _ h), rfl⟩), rfl⟩
theorem uw_p2 {q : MethodName × Nat} (h : q ∈ lw_privs_2) : Cond.selects q.1.cls q.1 q.1 ∈ uw_U := List.mem_filter.mpr ⟨List.mem_append_left _ (List.mem_map.mpr ⟨q, (show q ∈ lw_privs from List.mem_append_right _ (List.mem_append_left _ h)), rfl⟩), rfl⟩
theorem uw_p3 {q : MethodName × Nat} (h : q ∈ lw_privs_3) : Cond.selects q.1.cls q.1 q.1 ∈ uw_U := List.mem_filter.mpr ⟨List.mem_append_left _ (List.mem_map.mpr ⟨q, (show q ∈ lw_privs from List.mem_append_right _ (List.mem_append_right _ (List.mem_append_left _ h))), rfl⟩), rfl⟩
theorem uw_p4 {q : MethodName × Nat} (h : q ∈ lw_privs_4) : Cond.selects q.1.cls q.1 q.1 ∈ uw_U := List.mem_filter.mpr ⟨List.mem_append_left _ (List.mem_map.mpr ⟨q, (show q ∈ lw_privs from List.mem_append_right _ (List.mem_append_right _ (List.mem_append_right _ (List.mem_append_left _ h)))), rfl⟩), rfl⟩
theorem uw_p5 {q : MethodName × Nat} (h : q ∈ lw_privs_5) : Cond.selects q.1.cls q.1 q.1 ∈ uw_U := List.mem_filter.mpr ⟨List.mem_append_left _ (List.mem_map.mpr ⟨q, (show q ∈ lw_privs from List.mem_append_right _ (List.mem_append_right _ (List.mem_append_right _ (List.mem_append_right _ h)))), rfl⟩), rfl⟩
theorem uw_in {w : Cond} (h : w ∈ uw_U) : w ∈ lw_tbl := (List.mem_filter.mp h).1
theorem uw_good {w : Cond} (h : w ∈ uw_U) : (w.onTables && w.keeps) = true ∨ ∃ ty, w = .arrayClass ty := good_of_word (List.mem_filter.mp h).2
theorem wn_L : Cond.initialized "RhymedThenLaw" ∈ uw_U := uw_1 (List.mem_of_getElem? (i := 0) rfl) rfl
theorem wn_X11 : Cond.initialized "RhymedThen" ∈ uw_U := uw_1 (List.mem_of_getElem? (i := 1) rfl) rfl
theorem wn_X8 : Cond.initialized "RhymedThen$Text" ∈ uw_U := uw_1 (List.mem_of_getElem? (i := 2) rfl) rfl
theorem wn_X4 : Cond.initialized "RhymedThen$Row" ∈ uw_U := uw_1 (List.mem_of_getElem? (i := 3) rfl) rfl
theorem wn_X9 : Cond.initialized "RhymedThen$Tongue" ∈ uw_U := uw_1 (List.mem_of_getElem? (i := 4) rfl) rfl
theorem wn_X2 : Cond.initialized "RhymedThen$Law" ∈ uw_U := uw_1 (List.mem_of_getElem? (i := 5) rfl) rfl
theorem wn_X3 : Cond.initialized "RhymedThen$Past" ∈ uw_U := uw_1 (List.mem_of_getElem? (i := 6) rfl) rfl
theorem wn_X6 : Cond.initialized "RhymedThen$Signs" ∈ uw_U := uw_1 (List.mem_of_getElem? (i := 7) rfl) rfl
theorem wn_X5 : Cond.initialized "RhymedThen$Sign" ∈ uw_U := uw_1 (List.mem_of_getElem? (i := 8) rfl) rfl
theorem wn_X10 : Cond.initialized "RhymedThen$Ways" ∈ uw_U := uw_1 (List.mem_of_getElem? (i := 9) rfl) rfl
theorem wn_X7 : Cond.initialized "RhymedThen$Stage" ∈ uw_U := uw_1 (List.mem_of_getElem? (i := 10) rfl) rfl
theorem wn_X1 : Cond.initialized "RhymedThen$Kept" ∈ uw_U := uw_1 (List.mem_of_getElem? (i := 11) rfl) rfl
theorem wn_X12 : Cond.initialized "RhymedThenModel" ∈ uw_U := uw_1 (List.mem_of_getElem? (i := 12) rfl) rfl
theorem wn_J9 : Cond.initialized "java/lang/Math" ∈ uw_U := uw_1 (List.mem_of_getElem? (i := 13) rfl) rfl
theorem wn_X0 : Cond.initialized "RhymedThen$Form" ∈ uw_U := uw_1 (List.mem_of_getElem? (i := 14) rfl) rfl
theorem wn_J7 : Cond.initialized "java/util/Arrays" ∈ uw_U := uw_1 (List.mem_of_getElem? (i := 15) rfl) rfl
theorem wn_J10 : Cond.initialized "java/lang/System" ∈ uw_U := uw_1 (List.mem_of_getElem? (i := 16) rfl) rfl
theorem wn_J6 : Cond.initialized "java/lang/Integer" ∈ uw_U := uw_1 (List.mem_of_getElem? (i := 17) rfl) rfl
theorem wn_oa515f4 : Cond.initialized "java/lang/Throwable" ∈ uw_U := uw_1 (List.mem_of_getElem? (i := 18) rfl) rfl
theorem wn_o5067f1 : Cond.initialized "java/lang/Exception" ∈ uw_U := uw_1 (List.mem_of_getElem? (i := 19) rfl) rfl
theorem wn_o2090c0 : Cond.initialized "java/lang/RuntimeException" ∈ uw_U := uw_1 (List.mem_of_getElem? (i := 20) rfl) rfl
theorem wn_of862df : Cond.initialized "java/util/NoSuchElementException" ∈ uw_U := uw_1 (List.mem_of_getElem? (i := 21) rfl) rfl
theorem wc_L_8 : Cond.classLink "RhymedThenLaw" 8 "RhymedThen" ∈ uw_U := uw_1 (List.mem_of_getElem? (i := 22) rfl) rfl
theorem wa_X11 : Cond.instantiable "RhymedThen" 13 ∈ uw_U := uw_1 (List.mem_of_getElem? (i := 23) rfl) rfl
theorem wm_L_15 : Cond.methodLink "RhymedThenLaw" 15 yX11_init ∈ uw_U := uw_1 (List.mem_of_getElem? (i := 24) rfl) rfl
theorem wi_X11_init : Cond.instanceMethod yX11_init ∈ uw_U := uw_1 (List.mem_of_getElem? (i := 25) rfl) rfl
theorem wo_X11_init : Cond.code yX11_init cX11_init 2 none ∈ uw_U := uw_1 (List.mem_of_getElem? (i := 26) rfl) rfl
theorem wm_X11_1 : Cond.methodLink "RhymedThen" 1 ⟨"java/lang/Object", "<init>", "()V"⟩ ∈ uw_U := uw_1 (List.mem_of_getElem? (i := 27) rfl) rfl
theorem wi_ob086bc : Cond.instanceMethod ⟨"java/lang/Object", "<init>", "()V"⟩ ∈ uw_U := uw_1 (List.mem_of_getElem? (i := 28) rfl) rfl
theorem wc_X11_7 : Cond.classLink "RhymedThen" 7 "RhymedThen$Text" ∈ uw_U := uw_1 (List.mem_of_getElem? (i := 30) rfl) rfl
theorem wa_X8 : Cond.instantiable "RhymedThen$Text" 2 ∈ uw_U := uw_1 (List.mem_of_getElem? (i := 31) rfl) rfl
theorem wi_X8_init : Cond.instanceMethod yX8_init ∈ uw_U := uw_1 (List.mem_of_getElem? (i := 33) rfl) rfl
theorem wo_X8_init : Cond.code yX8_init cX8_init 1 none ∈ uw_U := uw_1 (List.mem_of_getElem? (i := 34) rfl) rfl
theorem wm_X8_3 : Cond.methodLink "RhymedThen$Text" 3 ⟨"java/lang/Object", "<init>", "()V"⟩ ∈ uw_U := uw_1 (List.mem_of_getElem? (i := 35) rfl) rfl
theorem wf_X8_11 : Cond.fieldLink "RhymedThen$Text" 11 "RhymedThen$Text" "signs" "[I" ∈ uw_U := uw_1 (List.mem_of_getElem? (i := 36) rfl) rfl
theorem wf_X8_15 : Cond.fieldLink "RhymedThen$Text" 15 "RhymedThen$Text" "size" "I" ∈ uw_U := uw_1 (List.mem_of_getElem? (i := 37) rfl) rfl
theorem wf_X11_94 : Cond.fieldLink "RhymedThen" 94 "RhymedThen$Text" "size" "I" ∈ uw_U := uw_1 (List.mem_of_getElem? (i := 38) rfl) rfl
theorem wl_X8_0 : Cond.laysFinal "RhymedThen$Text" "RhymedThen$Text" "signs" "[I" ∈ uw_U := uw_1 (List.mem_of_getElem? (i := 39) rfl) rfl
theorem wl_X8_1 : Cond.lays "RhymedThen$Text" "RhymedThen$Text" "size" "I" ∈ uw_U := uw_1 (List.mem_of_getElem? (i := 41) rfl) rfl
theorem wr_int : Cond.arrayClass .int ∈ uw_U := uw_1 (List.mem_of_getElem? (i := 44) rfl) rfl
theorem wc_X11_16 : Cond.classLink "RhymedThen" 16 "RhymedThen$Row" ∈ uw_U := uw_1 (List.mem_of_getElem? (i := 45) rfl) rfl
theorem wa_X4 : Cond.instantiable "RhymedThen$Row" 2 ∈ uw_U := uw_1 (List.mem_of_getElem? (i := 46) rfl) rfl
theorem wi_X4_init : Cond.instanceMethod yX4_init ∈ uw_U := uw_1 (List.mem_of_getElem? (i := 48) rfl) rfl
theorem wo_X4_init : Cond.code yX4_init cX4_init 1 none ∈ uw_U := uw_1 (List.mem_of_getElem? (i := 49) rfl) rfl
theorem wm_X4_1 : Cond.methodLink "RhymedThen$Row" 1 ⟨"java/lang/Object", "<init>", "()V"⟩ ∈ uw_U := uw_1 (List.mem_of_getElem? (i := 50) rfl) rfl
theorem wf_X4_9 : Cond.fieldLink "RhymedThen$Row" 9 "RhymedThen$Row" "numbers" "[J" ∈ uw_U := uw_1 (List.mem_of_getElem? (i := 51) rfl) rfl
theorem wf_X11_457 : Cond.fieldLink "RhymedThen" 457 "RhymedThen$Row" "numbers" "[J" ∈ uw_U := uw_1 (List.mem_of_getElem? (i := 52) rfl) rfl
theorem wf_X4_13 : Cond.fieldLink "RhymedThen$Row" 13 "RhymedThen$Row" "size" "I" ∈ uw_U := uw_1 (List.mem_of_getElem? (i := 53) rfl) rfl
theorem wf_X11_224 : Cond.fieldLink "RhymedThen" 224 "RhymedThen$Row" "size" "I" ∈ uw_U := uw_1 (List.mem_of_getElem? (i := 54) rfl) rfl
theorem wl_X4_0 : Cond.laysFinal "RhymedThen$Row" "RhymedThen$Row" "numbers" "[J" ∈ uw_U := uw_1 (List.mem_of_getElem? (i := 55) rfl) rfl
theorem wl_X4_1 : Cond.lays "RhymedThen$Row" "RhymedThen$Row" "size" "I" ∈ uw_U := uw_1 (List.mem_of_getElem? (i := 57) rfl) rfl
theorem wr_long : Cond.arrayClass .long ∈ uw_U := uw_1 (List.mem_of_getElem? (i := 60) rfl) rfl
theorem wc_X11_23 : Cond.classLink "RhymedThen" 23 "RhymedThen$Tongue" ∈ uw_U := uw_1 (List.mem_of_getElem? (i := 61) rfl) rfl
theorem wa_X9 : Cond.instantiable "RhymedThen$Tongue" 7 ∈ uw_U := uw_1 (List.mem_of_getElem? (i := 62) rfl) rfl
theorem wm_X11_25 : Cond.methodLink "RhymedThen" 25 yX9_init ∈ uw_U := uw_1 (List.mem_of_getElem? (i := 63) rfl) rfl
theorem wi_X9_init : Cond.instanceMethod yX9_init ∈ uw_U := uw_1 (List.mem_of_getElem? (i := 64) rfl) rfl
theorem wo_X9_init : Cond.code yX9_init cX9_init 2 none ∈ uw_U := uw_1 (List.mem_of_getElem? (i := 65) rfl) rfl
theorem wm_X9_3 : Cond.methodLink "RhymedThen$Tongue" 3 ⟨"java/lang/Object", "<init>", "()V"⟩ ∈ uw_U := uw_1 (List.mem_of_getElem? (i := 66) rfl) rfl
theorem wc_X9_9 : Cond.classLink "RhymedThen$Tongue" 9 "RhymedThen$Law" ∈ uw_U := uw_1 (List.mem_of_getElem? (i := 67) rfl) rfl
theorem wa_X2 : Cond.instantiable "RhymedThen$Law" 7 ∈ uw_U := uw_1 (List.mem_of_getElem? (i := 69) rfl) rfl
theorem wi_X2_init : Cond.instanceMethod yX2_init ∈ uw_U := uw_1 (List.mem_of_getElem? (i := 71) rfl) rfl
theorem wo_X2_init : Cond.code yX2_init cX2_init 1 none ∈ uw_U := uw_1 (List.mem_of_getElem? (i := 72) rfl) rfl
theorem wm_X2_3 : Cond.methodLink "RhymedThen$Law" 3 ⟨"java/lang/Object", "<init>", "()V"⟩ ∈ uw_U := uw_1 (List.mem_of_getElem? (i := 73) rfl) rfl
theorem wf_X2_15 : Cond.fieldLink "RhymedThen$Law" 15 "RhymedThen$Law" "toldGoes" "I" ∈ uw_U := uw_1 (List.mem_of_getElem? (i := 74) rfl) rfl
theorem wf_X2_29 : Cond.fieldLink "RhymedThen$Law" 29 "RhymedThen$Law" "toldLeft" "I" ∈ uw_U := uw_1 (List.mem_of_getElem? (i := 75) rfl) rfl
theorem wf_X2_32 : Cond.fieldLink "RhymedThen$Law" 32 "RhymedThen$Law" "toldRight" "I" ∈ uw_U := uw_1 (List.mem_of_getElem? (i := 76) rfl) rfl
theorem wf_X2_23 : Cond.fieldLink "RhymedThen$Law" 23 "RhymedThen$Law" "becomes" "I" ∈ uw_U := uw_1 (List.mem_of_getElem? (i := 77) rfl) rfl
theorem wf_X2_49 : Cond.fieldLink "RhymedThen$Law" 49 "RhymedThen$Law" "goes" "I" ∈ uw_U := uw_1 (List.mem_of_getElem? (i := 78) rfl) rfl
theorem wf_X2_52 : Cond.fieldLink "RhymedThen$Law" 52 "RhymedThen$Law" "left" "I" ∈ uw_U := uw_1 (List.mem_of_getElem? (i := 79) rfl) rfl
theorem wf_X2_55 : Cond.fieldLink "RhymedThen$Law" 55 "RhymedThen$Law" "right" "I" ∈ uw_U := uw_1 (List.mem_of_getElem? (i := 80) rfl) rfl
theorem wl_X2_0 : Cond.lays "RhymedThen$Law" "RhymedThen$Law" "toldGoes" "I" ∈ uw_U := uw_1 (List.mem_of_getElem? (i := 81) rfl) rfl
theorem wl_X2_1 : Cond.lays "RhymedThen$Law" "RhymedThen$Law" "toldLeft" "I" ∈ uw_U := uw_1 (List.mem_of_getElem? (i := 83) rfl) rfl
theorem wl_X2_2 : Cond.lays "RhymedThen$Law" "RhymedThen$Law" "toldRight" "I" ∈ uw_U := uw_1 (List.mem_of_getElem? (i := 85) rfl) rfl
theorem wl_X2_3 : Cond.lays "RhymedThen$Law" "RhymedThen$Law" "becomes" "I" ∈ uw_U := uw_1 (List.mem_of_getElem? (i := 87) rfl) rfl
theorem wl_X2_4 : Cond.lays "RhymedThen$Law" "RhymedThen$Law" "goes" "I" ∈ uw_U := uw_1 (List.mem_of_getElem? (i := 89) rfl) rfl
theorem wl_X2_5 : Cond.lays "RhymedThen$Law" "RhymedThen$Law" "left" "I" ∈ uw_U := uw_1 (List.mem_of_getElem? (i := 91) rfl) rfl
theorem wl_X2_6 : Cond.lays "RhymedThen$Law" "RhymedThen$Law" "right" "I" ∈ uw_U := uw_1 (List.mem_of_getElem? (i := 93) rfl) rfl
theorem wf_X9_11 : Cond.fieldLink "RhymedThen$Tongue" 11 "RhymedThen$Tongue" "laws" "[LRhymedThen$Law;" ∈ uw_U := uw_1 (List.mem_of_getElem? (i := 96) rfl) rfl
theorem wf_X11_147 : Cond.fieldLink "RhymedThen" 147 "RhymedThen$Tongue" "laws" "[LRhymedThen$Law;" ∈ uw_U := uw_1 (List.mem_of_getElem? (i := 97) rfl) rfl
theorem wf_X9_17 : Cond.fieldLink "RhymedThen$Tongue" 17 "RhymedThen$Tongue" "lawCount" "I" ∈ uw_U := uw_1 (List.mem_of_getElem? (i := 98) rfl) rfl
theorem wf_X11_138 : Cond.fieldLink "RhymedThen" 138 "RhymedThen$Tongue" "lawCount" "I" ∈ uw_U := uw_1 (List.mem_of_getElem? (i := 99) rfl) rfl
theorem wf_X9_21 : Cond.fieldLink "RhymedThen$Tongue" 21 "RhymedThen$Tongue" "words" "I" ∈ uw_U := uw_1 (List.mem_of_getElem? (i := 100) rfl) rfl
theorem wf_X11_116 : Cond.fieldLink "RhymedThen" 116 "RhymedThen$Tongue" "words" "I" ∈ uw_U := uw_1 (List.mem_of_getElem? (i := 101) rfl) rfl
theorem wf_X9_24 : Cond.fieldLink "RhymedThen$Tongue" 24 "RhymedThen$Tongue" "classes" "[I" ∈ uw_U := uw_1 (List.mem_of_getElem? (i := 102) rfl) rfl
theorem wf_X11_106 : Cond.fieldLink "RhymedThen" 106 "RhymedThen$Tongue" "classes" "[I" ∈ uw_U := uw_1 (List.mem_of_getElem? (i := 103) rfl) rfl
theorem wf_X9_28 : Cond.fieldLink "RhymedThen$Tongue" 28 "RhymedThen$Tongue" "walked" "I" ∈ uw_U := uw_1 (List.mem_of_getElem? (i := 104) rfl) rfl
theorem wf_X9_31 : Cond.fieldLink "RhymedThen$Tongue" 31 "RhymedThen$Tongue" "following" "[I" ∈ uw_U := uw_1 (List.mem_of_getElem? (i := 105) rfl) rfl
theorem wf_X9_34 : Cond.fieldLink "RhymedThen$Tongue" 34 "RhymedThen$Tongue" "forms" "[J" ∈ uw_U := uw_1 (List.mem_of_getElem? (i := 106) rfl) rfl
theorem wl_X9_0 : Cond.laysFinal "RhymedThen$Tongue" "RhymedThen$Tongue" "laws" "[LRhymedThen$Law;" ∈ uw_U := uw_1 (List.mem_of_getElem? (i := 107) rfl) rfl
theorem wl_X9_1 : Cond.lays "RhymedThen$Tongue" "RhymedThen$Tongue" "lawCount" "I" ∈ uw_U := uw_1 (List.mem_of_getElem? (i := 109) rfl) rfl
theorem wl_X9_2 : Cond.lays "RhymedThen$Tongue" "RhymedThen$Tongue" "words" "I" ∈ uw_U := uw_1 (List.mem_of_getElem? (i := 111) rfl) rfl
theorem wl_X9_3 : Cond.laysFinal "RhymedThen$Tongue" "RhymedThen$Tongue" "classes" "[I" ∈ uw_U := uw_1 (List.mem_of_getElem? (i := 113) rfl) rfl
theorem wl_X9_4 : Cond.lays "RhymedThen$Tongue" "RhymedThen$Tongue" "walked" "I" ∈ uw_U := uw_1 (List.mem_of_getElem? (i := 115) rfl) rfl
theorem wl_X9_5 : Cond.lays "RhymedThen$Tongue" "RhymedThen$Tongue" "following" "[I" ∈ uw_U := uw_1 (List.mem_of_getElem? (i := 117) rfl) rfl
theorem wl_X9_6 : Cond.lays "RhymedThen$Tongue" "RhymedThen$Tongue" "forms" "[J" ∈ uw_U := uw_1 (List.mem_of_getElem? (i := 119) rfl) rfl
theorem wc_X11_30 : Cond.classLink "RhymedThen" 30 "RhymedThen$Past" ∈ uw_U := uw_1 (List.mem_of_getElem? (i := 122) rfl) rfl
theorem wa_X3 : Cond.instantiable "RhymedThen$Past" 7 ∈ uw_U := uw_1 (List.mem_of_getElem? (i := 123) rfl) rfl
theorem wm_X11_32 : Cond.methodLink "RhymedThen" 32 yX3_init ∈ uw_U := uw_1 (List.mem_of_getElem? (i := 124) rfl) rfl
theorem wi_X3_init : Cond.instanceMethod yX3_init ∈ uw_U := uw_1 (List.mem_of_getElem? (i := 125) rfl) rfl
theorem wo_X3_init : Cond.code yX3_init cX3_init 2 none ∈ uw_U := uw_1 (List.mem_of_getElem? (i := 126) rfl) rfl
theorem wm_X3_3 : Cond.methodLink "RhymedThen$Past" 3 ⟨"java/lang/Object", "<init>", "()V"⟩ ∈ uw_U := uw_1 (List.mem_of_getElem? (i := 127) rfl) rfl
theorem wf_X3_32 : Cond.fieldLink "RhymedThen$Past" 32 "RhymedThen$Past" "tongue" "LRhymedThen$Tongue;" ∈ uw_U := uw_1 (List.mem_of_getElem? (i := 128) rfl) rfl
theorem wf_X3_9 : Cond.fieldLink "RhymedThen$Past" 9 "RhymedThen$Past" "lags" "[I" ∈ uw_U := uw_1 (List.mem_of_getElem? (i := 129) rfl) rfl
theorem wf_X6_54 : Cond.fieldLink "RhymedThen$Signs" 54 "RhymedThen$Past" "lags" "[I" ∈ uw_U := uw_1 (List.mem_of_getElem? (i := 130) rfl) rfl
theorem wf_X11_166 : Cond.fieldLink "RhymedThen" 166 "RhymedThen$Past" "lags" "[I" ∈ uw_U := uw_1 (List.mem_of_getElem? (i := 131) rfl) rfl
theorem wf_X3_15 : Cond.fieldLink "RhymedThen$Past" 15 "RhymedThen$Past" "histories" "I" ∈ uw_U := uw_1 (List.mem_of_getElem? (i := 132) rfl) rfl
theorem wf_X6_59 : Cond.fieldLink "RhymedThen$Signs" 59 "RhymedThen$Past" "histories" "I" ∈ uw_U := uw_1 (List.mem_of_getElem? (i := 133) rfl) rfl
theorem wf_X11_144 : Cond.fieldLink "RhymedThen" 144 "RhymedThen$Past" "histories" "I" ∈ uw_U := uw_1 (List.mem_of_getElem? (i := 134) rfl) rfl
theorem wf_X3_19 : Cond.fieldLink "RhymedThen$Past" 19 "RhymedThen$Past" "laws" "I" ∈ uw_U := uw_1 (List.mem_of_getElem? (i := 135) rfl) rfl
theorem wf_X3_22 : Cond.fieldLink "RhymedThen$Past" 22 "RhymedThen$Past" "orders" "[I" ∈ uw_U := uw_1 (List.mem_of_getElem? (i := 136) rfl) rfl
theorem wf_X3_25 : Cond.fieldLink "RhymedThen$Past" 25 "RhymedThen$Past" "years" "[J" ∈ uw_U := uw_1 (List.mem_of_getElem? (i := 137) rfl) rfl
theorem wf_X3_29 : Cond.fieldLink "RhymedThen$Past" 29 "RhymedThen$Past" "firstYears" "[I" ∈ uw_U := uw_1 (List.mem_of_getElem? (i := 138) rfl) rfl
theorem wl_X3_0 : Cond.laysFinal "RhymedThen$Past" "RhymedThen$Past" "tongue" "LRhymedThen$Tongue;" ∈ uw_U := uw_1 (List.mem_of_getElem? (i := 139) rfl) rfl
theorem wl_X3_1 : Cond.laysFinal "RhymedThen$Past" "RhymedThen$Past" "lags" "[I" ∈ uw_U := uw_1 (List.mem_of_getElem? (i := 141) rfl) rfl
theorem wl_X3_2 : Cond.lays "RhymedThen$Past" "RhymedThen$Past" "histories" "I" ∈ uw_U := uw_1 (List.mem_of_getElem? (i := 143) rfl) rfl
theorem wl_X3_3 : Cond.lays "RhymedThen$Past" "RhymedThen$Past" "laws" "I" ∈ uw_U := uw_1 (List.mem_of_getElem? (i := 145) rfl) rfl
theorem wl_X3_4 : Cond.laysFinal "RhymedThen$Past" "RhymedThen$Past" "orders" "[I" ∈ uw_U := uw_1 (List.mem_of_getElem? (i := 147) rfl) rfl
theorem wl_X3_5 : Cond.laysFinal "RhymedThen$Past" "RhymedThen$Past" "years" "[J" ∈ uw_U := uw_1 (List.mem_of_getElem? (i := 149) rfl) rfl
theorem wl_X3_6 : Cond.laysFinal "RhymedThen$Past" "RhymedThen$Past" "firstYears" "[I" ∈ uw_U := uw_1 (List.mem_of_getElem? (i := 151) rfl) rfl
theorem wc_X11_39 : Cond.classLink "RhymedThen" 39 "RhymedThen$Signs" ∈ uw_U := uw_1 (List.mem_of_getElem? (i := 154) rfl) rfl
theorem wa_X6 : Cond.instantiable "RhymedThen$Signs" 7 ∈ uw_U := uw_1 (List.mem_of_getElem? (i := 155) rfl) rfl
theorem wm_X11_41 : Cond.methodLink "RhymedThen" 41 yX6_init ∈ uw_U := uw_1 (List.mem_of_getElem? (i := 156) rfl) rfl
theorem wi_X6_init : Cond.instanceMethod yX6_init ∈ uw_U := uw_1 (List.mem_of_getElem? (i := 157) rfl) rfl
theorem wo_X6_init : Cond.code yX6_init cX6_init 4 none ∈ uw_U := uw_1 (List.mem_of_getElem? (i := 158) rfl) rfl
theorem wm_X6_3 : Cond.methodLink "RhymedThen$Signs" 3 ⟨"java/lang/Object", "<init>", "()V"⟩ ∈ uw_U := uw_1 (List.mem_of_getElem? (i := 159) rfl) rfl
theorem wc_X6_9 : Cond.classLink "RhymedThen$Signs" 9 "RhymedThen$Sign" ∈ uw_U := uw_1 (List.mem_of_getElem? (i := 160) rfl) rfl
theorem wa_X5 : Cond.instantiable "RhymedThen$Sign" 8 ∈ uw_U := uw_1 (List.mem_of_getElem? (i := 162) rfl) rfl
theorem wi_X5_init : Cond.instanceMethod yX5_init ∈ uw_U := uw_1 (List.mem_of_getElem? (i := 164) rfl) rfl
theorem wo_X5_init : Cond.code yX5_init cX5_init 1 none ∈ uw_U := uw_1 (List.mem_of_getElem? (i := 165) rfl) rfl
theorem wm_X5_1 : Cond.methodLink "RhymedThen$Sign" 1 ⟨"java/lang/Object", "<init>", "()V"⟩ ∈ uw_U := uw_1 (List.mem_of_getElem? (i := 166) rfl) rfl
theorem wf_X5_16 : Cond.fieldLink "RhymedThen$Sign" 16 "RhymedThen$Sign" "kind" "I" ∈ uw_U := uw_1 (List.mem_of_getElem? (i := 167) rfl) rfl
theorem wf_X6_84 : Cond.fieldLink "RhymedThen$Signs" 84 "RhymedThen$Sign" "kind" "I" ∈ uw_U := uw_1 (List.mem_of_getElem? (i := 168) rfl) rfl
theorem wf_X5_19 : Cond.fieldLink "RhymedThen$Sign" 19 "RhymedThen$Sign" "one" "I" ∈ uw_U := uw_1 (List.mem_of_getElem? (i := 169) rfl) rfl
theorem wf_X7_43 : Cond.fieldLink "RhymedThen$Stage" 43 "RhymedThen$Sign" "one" "I" ∈ uw_U := uw_1 (List.mem_of_getElem? (i := 170) rfl) rfl
theorem wf_X11_373 : Cond.fieldLink "RhymedThen" 373 "RhymedThen$Sign" "one" "I" ∈ uw_U := uw_1 (List.mem_of_getElem? (i := 171) rfl) rfl
theorem wf_X5_22 : Cond.fieldLink "RhymedThen$Sign" 22 "RhymedThen$Sign" "other" "I" ∈ uw_U := uw_1 (List.mem_of_getElem? (i := 172) rfl) rfl
theorem wf_X7_52 : Cond.fieldLink "RhymedThen$Stage" 52 "RhymedThen$Sign" "other" "I" ∈ uw_U := uw_1 (List.mem_of_getElem? (i := 173) rfl) rfl
theorem wf_X11_376 : Cond.fieldLink "RhymedThen" 376 "RhymedThen$Sign" "other" "I" ∈ uw_U := uw_1 (List.mem_of_getElem? (i := 174) rfl) rfl
theorem wf_X5_25 : Cond.fieldLink "RhymedThen$Sign" 25 "RhymedThen$Sign" "number" "I" ∈ uw_U := uw_1 (List.mem_of_getElem? (i := 175) rfl) rfl
theorem wf_X5_28 : Cond.fieldLink "RhymedThen$Sign" 28 "RhymedThen$Sign" "year" "I" ∈ uw_U := uw_1 (List.mem_of_getElem? (i := 176) rfl) rfl
theorem wf_X6_51 : Cond.fieldLink "RhymedThen$Signs" 51 "RhymedThen$Sign" "year" "I" ∈ uw_U := uw_1 (List.mem_of_getElem? (i := 177) rfl) rfl
theorem wf_X5_31 : Cond.fieldLink "RhymedThen$Sign" 31 "RhymedThen$Sign" "place" "I" ∈ uw_U := uw_1 (List.mem_of_getElem? (i := 178) rfl) rfl
theorem wf_X6_44 : Cond.fieldLink "RhymedThen$Signs" 44 "RhymedThen$Sign" "place" "I" ∈ uw_U := uw_1 (List.mem_of_getElem? (i := 179) rfl) rfl
theorem wf_X5_7 : Cond.fieldLink "RhymedThen$Sign" 7 "RhymedThen$Sign" "poet" "I" ∈ uw_U := uw_1 (List.mem_of_getElem? (i := 180) rfl) rfl
theorem wf_X1_43 : Cond.fieldLink "RhymedThen$Kept" 43 "RhymedThen$Sign" "poet" "I" ∈ uw_U := uw_1 (List.mem_of_getElem? (i := 181) rfl) rfl
theorem wf_X6_87 : Cond.fieldLink "RhymedThen$Signs" 87 "RhymedThen$Sign" "poet" "I" ∈ uw_U := uw_1 (List.mem_of_getElem? (i := 182) rfl) rfl
theorem wf_X11_277 : Cond.fieldLink "RhymedThen" 277 "RhymedThen$Sign" "poet" "I" ∈ uw_U := uw_1 (List.mem_of_getElem? (i := 183) rfl) rfl
theorem wf_X5_13 : Cond.fieldLink "RhymedThen$Sign" 13 "RhymedThen$Sign" "trust" "I" ∈ uw_U := uw_1 (List.mem_of_getElem? (i := 184) rfl) rfl
theorem wf_X1_48 : Cond.fieldLink "RhymedThen$Kept" 48 "RhymedThen$Sign" "trust" "I" ∈ uw_U := uw_1 (List.mem_of_getElem? (i := 185) rfl) rfl
theorem wf_X6_81 : Cond.fieldLink "RhymedThen$Signs" 81 "RhymedThen$Sign" "trust" "I" ∈ uw_U := uw_1 (List.mem_of_getElem? (i := 186) rfl) rfl
theorem wf_X11_280 : Cond.fieldLink "RhymedThen" 280 "RhymedThen$Sign" "trust" "I" ∈ uw_U := uw_1 (List.mem_of_getElem? (i := 187) rfl) rfl
theorem wl_X5_0 : Cond.lays "RhymedThen$Sign" "RhymedThen$Sign" "kind" "I" ∈ uw_U := uw_1 (List.mem_of_getElem? (i := 188) rfl) rfl
theorem wl_X5_1 : Cond.lays "RhymedThen$Sign" "RhymedThen$Sign" "one" "I" ∈ uw_U := uw_1 (List.mem_of_getElem? (i := 190) rfl) rfl
theorem wl_X5_2 : Cond.lays "RhymedThen$Sign" "RhymedThen$Sign" "other" "I" ∈ uw_U := uw_1 (List.mem_of_getElem? (i := 192) rfl) rfl
theorem wl_X5_3 : Cond.lays "RhymedThen$Sign" "RhymedThen$Sign" "number" "I" ∈ uw_U := uw_1 (List.mem_of_getElem? (i := 194) rfl) rfl
theorem wl_X5_4 : Cond.lays "RhymedThen$Sign" "RhymedThen$Sign" "year" "I" ∈ uw_U := uw_1 (List.mem_of_getElem? (i := 196) rfl) rfl
theorem wl_X5_5 : Cond.lays "RhymedThen$Sign" "RhymedThen$Sign" "place" "I" ∈ uw_U := uw_1 (List.mem_of_getElem? (i := 198) rfl) rfl
theorem wl_X5_6 : Cond.lays "RhymedThen$Sign" "RhymedThen$Sign" "poet" "I" ∈ uw_U := uw_1 (List.mem_of_getElem? (i := 200) rfl) rfl
theorem wl_X5_7 : Cond.lays "RhymedThen$Sign" "RhymedThen$Sign" "trust" "I" ∈ uw_U := uw_1 (List.mem_of_getElem? (i := 202) rfl) rfl
theorem wf_X6_31 : Cond.fieldLink "RhymedThen$Signs" 31 "RhymedThen$Signs" "tongue" "LRhymedThen$Tongue;" ∈ uw_U := uw_1 (List.mem_of_getElem? (i := 205) rfl) rfl
theorem wf_X6_35 : Cond.fieldLink "RhymedThen$Signs" 35 "RhymedThen$Signs" "past" "LRhymedThen$Past;" ∈ uw_U := uw_1 (List.mem_of_getElem? (i := 206) rfl) rfl
theorem wf_X6_11 : Cond.fieldLink "RhymedThen$Signs" 11 "RhymedThen$Signs" "all" "[LRhymedThen$Sign;" ∈ uw_U := uw_1 (List.mem_of_getElem? (i := 207) rfl) rfl
theorem wf_X1_39 : Cond.fieldLink "RhymedThen$Kept" 39 "RhymedThen$Signs" "all" "[LRhymedThen$Sign;" ∈ uw_U := uw_1 (List.mem_of_getElem? (i := 208) rfl) rfl
theorem wf_X11_260 : Cond.fieldLink "RhymedThen" 260 "RhymedThen$Signs" "all" "[LRhymedThen$Sign;" ∈ uw_U := uw_1 (List.mem_of_getElem? (i := 209) rfl) rfl
theorem wf_X6_17 : Cond.fieldLink "RhymedThen$Signs" 17 "RhymedThen$Signs" "told" "I" ∈ uw_U := uw_1 (List.mem_of_getElem? (i := 210) rfl) rfl
theorem wf_X1_35 : Cond.fieldLink "RhymedThen$Kept" 35 "RhymedThen$Signs" "told" "I" ∈ uw_U := uw_1 (List.mem_of_getElem? (i := 211) rfl) rfl
theorem wf_X11_251 : Cond.fieldLink "RhymedThen" 251 "RhymedThen$Signs" "told" "I" ∈ uw_U := uw_1 (List.mem_of_getElem? (i := 212) rfl) rfl
theorem wf_X6_21 : Cond.fieldLink "RhymedThen$Signs" 21 "RhymedThen$Signs" "on" "I" ∈ uw_U := uw_1 (List.mem_of_getElem? (i := 213) rfl) rfl
theorem wf_X1_38 : Cond.fieldLink "RhymedThen$Kept" 38 "RhymedThen$Signs" "on" "I" ∈ uw_U := uw_1 (List.mem_of_getElem? (i := 214) rfl) rfl
theorem wf_X11_283 : Cond.fieldLink "RhymedThen" 283 "RhymedThen$Signs" "on" "I" ∈ uw_U := uw_1 (List.mem_of_getElem? (i := 215) rfl) rfl
theorem wf_X6_24 : Cond.fieldLink "RhymedThen$Signs" 24 "RhymedThen$Signs" "held" "[I" ∈ uw_U := uw_1 (List.mem_of_getElem? (i := 216) rfl) rfl
theorem wf_X6_28 : Cond.fieldLink "RhymedThen$Signs" 28 "RhymedThen$Signs" "doubted" "I" ∈ uw_U := uw_1 (List.mem_of_getElem? (i := 217) rfl) rfl
theorem wl_X6_0 : Cond.laysFinal "RhymedThen$Signs" "RhymedThen$Signs" "tongue" "LRhymedThen$Tongue;" ∈ uw_U := uw_1 (List.mem_of_getElem? (i := 218) rfl) rfl
theorem wl_X6_1 : Cond.laysFinal "RhymedThen$Signs" "RhymedThen$Signs" "past" "LRhymedThen$Past;" ∈ uw_U := uw_1 (List.mem_of_getElem? (i := 220) rfl) rfl
theorem wl_X6_2 : Cond.laysFinal "RhymedThen$Signs" "RhymedThen$Signs" "all" "[LRhymedThen$Sign;" ∈ uw_U := uw_1 (List.mem_of_getElem? (i := 222) rfl) rfl
theorem wl_X6_3 : Cond.lays "RhymedThen$Signs" "RhymedThen$Signs" "told" "I" ∈ uw_U := uw_1 (List.mem_of_getElem? (i := 224) rfl) rfl
theorem wl_X6_4 : Cond.lays "RhymedThen$Signs" "RhymedThen$Signs" "on" "I" ∈ uw_U := uw_1 (List.mem_of_getElem? (i := 226) rfl) rfl
theorem wl_X6_5 : Cond.laysFinal "RhymedThen$Signs" "RhymedThen$Signs" "held" "[I" ∈ uw_U := uw_1 (List.mem_of_getElem? (i := 228) rfl) rfl
theorem wl_X6_6 : Cond.lays "RhymedThen$Signs" "RhymedThen$Signs" "doubted" "I" ∈ uw_U := uw_1 (List.mem_of_getElem? (i := 230) rfl) rfl
theorem wc_X11_48 : Cond.classLink "RhymedThen" 48 "RhymedThen$Sign" ∈ uw_U := uw_1 (List.mem_of_getElem? (i := 233) rfl) rfl
theorem wc_X11_55 : Cond.classLink "RhymedThen" 55 "RhymedThen$Ways" ∈ uw_U := uw_1 (List.mem_of_getElem? (i := 235) rfl) rfl
theorem wa_X10 : Cond.instantiable "RhymedThen$Ways" 3 ∈ uw_U := uw_1 (List.mem_of_getElem? (i := 236) rfl) rfl
theorem wi_X10_init : Cond.instanceMethod yX10_init ∈ uw_U := uw_1 (List.mem_of_getElem? (i := 238) rfl) rfl
theorem wo_X10_init : Cond.code yX10_init cX10_init 1 none ∈ uw_U := uw_1 (List.mem_of_getElem? (i := 239) rfl) rfl
theorem wm_X10_3 : Cond.methodLink "RhymedThen$Ways" 3 ⟨"java/lang/Object", "<init>", "()V"⟩ ∈ uw_U := uw_2 (List.mem_of_getElem? (i := 0) rfl) rfl
theorem wf_X10_9 : Cond.fieldLink "RhymedThen$Ways" 9 "RhymedThen$Ways" "forms" "[J" ∈ uw_U := uw_2 (List.mem_of_getElem? (i := 1) rfl) rfl
theorem wf_X11_352 : Cond.fieldLink "RhymedThen" 352 "RhymedThen$Ways" "forms" "[J" ∈ uw_U := uw_2 (List.mem_of_getElem? (i := 2) rfl) rfl
theorem wf_X10_15 : Cond.fieldLink "RhymedThen$Ways" 15 "RhymedThen$Ways" "sums" "[J" ∈ uw_U := uw_2 (List.mem_of_getElem? (i := 3) rfl) rfl
theorem wf_X11_349 : Cond.fieldLink "RhymedThen" 349 "RhymedThen$Ways" "sums" "[J" ∈ uw_U := uw_2 (List.mem_of_getElem? (i := 4) rfl) rfl
theorem wf_X10_18 : Cond.fieldLink "RhymedThen$Ways" 18 "RhymedThen$Ways" "size" "I" ∈ uw_U := uw_2 (List.mem_of_getElem? (i := 5) rfl) rfl
theorem wf_X11_316 : Cond.fieldLink "RhymedThen" 316 "RhymedThen$Ways" "size" "I" ∈ uw_U := uw_2 (List.mem_of_getElem? (i := 6) rfl) rfl
theorem wl_X10_0 : Cond.laysFinal "RhymedThen$Ways" "RhymedThen$Ways" "forms" "[J" ∈ uw_U := uw_2 (List.mem_of_getElem? (i := 7) rfl) rfl
theorem wl_X10_1 : Cond.laysFinal "RhymedThen$Ways" "RhymedThen$Ways" "sums" "[J" ∈ uw_U := uw_2 (List.mem_of_getElem? (i := 9) rfl) rfl
theorem wl_X10_2 : Cond.lays "RhymedThen$Ways" "RhymedThen$Ways" "size" "I" ∈ uw_U := uw_2 (List.mem_of_getElem? (i := 11) rfl) rfl
theorem wc_X11_62 : Cond.classLink "RhymedThen" 62 "RhymedThen$Stage" ∈ uw_U := uw_2 (List.mem_of_getElem? (i := 14) rfl) rfl
theorem wa_X7 : Cond.instantiable "RhymedThen$Stage" 10 ∈ uw_U := uw_2 (List.mem_of_getElem? (i := 15) rfl) rfl
theorem wi_X7_init : Cond.instanceMethod yX7_init ∈ uw_U := uw_2 (List.mem_of_getElem? (i := 17) rfl) rfl
theorem wo_X7_init : Cond.code yX7_init cX7_init 1 none ∈ uw_U := uw_2 (List.mem_of_getElem? (i := 18) rfl) rfl
theorem wm_X7_3 : Cond.methodLink "RhymedThen$Stage" 3 ⟨"java/lang/Object", "<init>", "()V"⟩ ∈ uw_U := uw_2 (List.mem_of_getElem? (i := 19) rfl) rfl
theorem wf_X7_9 : Cond.fieldLink "RhymedThen$Stage" 9 "RhymedThen$Stage" "invited" "I" ∈ uw_U := uw_2 (List.mem_of_getElem? (i := 20) rfl) rfl
theorem wf_X7_15 : Cond.fieldLink "RhymedThen$Stage" 15 "RhymedThen$Stage" "cast" "I" ∈ uw_U := uw_2 (List.mem_of_getElem? (i := 21) rfl) rfl
theorem wf_X11_400 : Cond.fieldLink "RhymedThen" 400 "RhymedThen$Stage" "cast" "I" ∈ uw_U := uw_2 (List.mem_of_getElem? (i := 22) rfl) rfl
theorem wf_X7_18 : Cond.fieldLink "RhymedThen$Stage" 18 "RhymedThen$Stage" "words" "[I" ∈ uw_U := uw_2 (List.mem_of_getElem? (i := 23) rfl) rfl
theorem wf_X11_403 : Cond.fieldLink "RhymedThen" 403 "RhymedThen$Stage" "words" "[I" ∈ uw_U := uw_2 (List.mem_of_getElem? (i := 24) rfl) rfl
theorem wf_X7_22 : Cond.fieldLink "RhymedThen$Stage" 22 "RhymedThen$Stage" "best" "[I" ∈ uw_U := uw_2 (List.mem_of_getElem? (i := 25) rfl) rfl
theorem wf_X11_405 : Cond.fieldLink "RhymedThen" 405 "RhymedThen$Stage" "best" "[I" ∈ uw_U := uw_2 (List.mem_of_getElem? (i := 26) rfl) rfl
theorem wf_X7_25 : Cond.fieldLink "RhymedThen$Stage" 25 "RhymedThen$Stage" "courses" "[I" ∈ uw_U := uw_2 (List.mem_of_getElem? (i := 27) rfl) rfl
theorem wf_X11_392 : Cond.fieldLink "RhymedThen" 392 "RhymedThen$Stage" "courses" "[I" ∈ uw_U := uw_2 (List.mem_of_getElem? (i := 28) rfl) rfl
theorem wf_X7_28 : Cond.fieldLink "RhymedThen$Stage" 28 "RhymedThen$Stage" "chosen" "[I" ∈ uw_U := uw_2 (List.mem_of_getElem? (i := 29) rfl) rfl
theorem wf_X7_31 : Cond.fieldLink "RhymedThen$Stage" 31 "RhymedThen$Stage" "pairs" "I" ∈ uw_U := uw_2 (List.mem_of_getElem? (i := 30) rfl) rfl
theorem wf_X7_34 : Cond.fieldLink "RhymedThen$Stage" 34 "RhymedThen$Stage" "firsts" "[I" ∈ uw_U := uw_2 (List.mem_of_getElem? (i := 31) rfl) rfl
theorem wf_X7_37 : Cond.fieldLink "RhymedThen$Stage" 37 "RhymedThen$Stage" "seconds" "[I" ∈ uw_U := uw_2 (List.mem_of_getElem? (i := 32) rfl) rfl
theorem wf_X7_40 : Cond.fieldLink "RhymedThen$Stage" 40 "RhymedThen$Stage" "so" "[I" ∈ uw_U := uw_2 (List.mem_of_getElem? (i := 33) rfl) rfl
theorem wl_X7_0 : Cond.lays "RhymedThen$Stage" "RhymedThen$Stage" "invited" "I" ∈ uw_U := uw_2 (List.mem_of_getElem? (i := 34) rfl) rfl
theorem wl_X7_1 : Cond.lays "RhymedThen$Stage" "RhymedThen$Stage" "cast" "I" ∈ uw_U := uw_2 (List.mem_of_getElem? (i := 36) rfl) rfl
theorem wl_X7_2 : Cond.laysFinal "RhymedThen$Stage" "RhymedThen$Stage" "words" "[I" ∈ uw_U := uw_2 (List.mem_of_getElem? (i := 38) rfl) rfl
theorem wl_X7_3 : Cond.laysFinal "RhymedThen$Stage" "RhymedThen$Stage" "best" "[I" ∈ uw_U := uw_2 (List.mem_of_getElem? (i := 40) rfl) rfl
theorem wl_X7_4 : Cond.laysFinal "RhymedThen$Stage" "RhymedThen$Stage" "courses" "[I" ∈ uw_U := uw_2 (List.mem_of_getElem? (i := 42) rfl) rfl
theorem wl_X7_5 : Cond.laysFinal "RhymedThen$Stage" "RhymedThen$Stage" "chosen" "[I" ∈ uw_U := uw_2 (List.mem_of_getElem? (i := 44) rfl) rfl
theorem wl_X7_6 : Cond.lays "RhymedThen$Stage" "RhymedThen$Stage" "pairs" "I" ∈ uw_U := uw_2 (List.mem_of_getElem? (i := 46) rfl) rfl
theorem wl_X7_7 : Cond.laysFinal "RhymedThen$Stage" "RhymedThen$Stage" "firsts" "[I" ∈ uw_U := uw_2 (List.mem_of_getElem? (i := 48) rfl) rfl
theorem wl_X7_8 : Cond.laysFinal "RhymedThen$Stage" "RhymedThen$Stage" "seconds" "[I" ∈ uw_U := uw_2 (List.mem_of_getElem? (i := 50) rfl) rfl
theorem wl_X7_9 : Cond.laysFinal "RhymedThen$Stage" "RhymedThen$Stage" "so" "[I" ∈ uw_U := uw_2 (List.mem_of_getElem? (i := 52) rfl) rfl
theorem wc_X11_69 : Cond.classLink "RhymedThen" 69 "RhymedThen$Kept" ∈ uw_U := uw_2 (List.mem_of_getElem? (i := 55) rfl) rfl
theorem wa_X1 : Cond.instantiable "RhymedThen$Kept" 7 ∈ uw_U := uw_2 (List.mem_of_getElem? (i := 57) rfl) rfl
theorem wi_X1_init : Cond.instanceMethod yX1_init ∈ uw_U := uw_2 (List.mem_of_getElem? (i := 59) rfl) rfl
theorem wo_X1_init : Cond.code yX1_init cX1_init 1 none ∈ uw_U := uw_2 (List.mem_of_getElem? (i := 60) rfl) rfl
theorem wm_X1_3 : Cond.methodLink "RhymedThen$Kept" 3 ⟨"java/lang/Object", "<init>", "()V"⟩ ∈ uw_U := uw_2 (List.mem_of_getElem? (i := 61) rfl) rfl
theorem wf_X1_9 : Cond.fieldLink "RhymedThen$Kept" 9 "RhymedThen$Kept" "used" "Z" ∈ uw_U := uw_2 (List.mem_of_getElem? (i := 62) rfl) rfl
theorem wf_X11_445 : Cond.fieldLink "RhymedThen" 445 "RhymedThen$Kept" "used" "Z" ∈ uw_U := uw_2 (List.mem_of_getElem? (i := 63) rfl) rfl
theorem wf_X1_15 : Cond.fieldLink "RhymedThen$Kept" 15 "RhymedThen$Kept" "told" "I" ∈ uw_U := uw_2 (List.mem_of_getElem? (i := 64) rfl) rfl
theorem wf_X1_19 : Cond.fieldLink "RhymedThen$Kept" 19 "RhymedThen$Kept" "on" "I" ∈ uw_U := uw_2 (List.mem_of_getElem? (i := 65) rfl) rfl
theorem wf_X1_22 : Cond.fieldLink "RhymedThen$Kept" 22 "RhymedThen$Kept" "poets" "[I" ∈ uw_U := uw_2 (List.mem_of_getElem? (i := 66) rfl) rfl
theorem wf_X1_26 : Cond.fieldLink "RhymedThen$Kept" 26 "RhymedThen$Kept" "trusts" "[I" ∈ uw_U := uw_2 (List.mem_of_getElem? (i := 67) rfl) rfl
theorem wf_X1_29 : Cond.fieldLink "RhymedThen$Kept" 29 "RhymedThen$Kept" "lags" "[I" ∈ uw_U := uw_2 (List.mem_of_getElem? (i := 68) rfl) rfl
theorem wf_X1_32 : Cond.fieldLink "RhymedThen$Kept" 32 "RhymedThen$Kept" "classes" "[I" ∈ uw_U := uw_2 (List.mem_of_getElem? (i := 69) rfl) rfl
theorem wf_X11_453 : Cond.fieldLink "RhymedThen" 453 "RhymedThen$Kept" "classes" "[I" ∈ uw_U := uw_2 (List.mem_of_getElem? (i := 70) rfl) rfl
theorem wl_X1_0 : Cond.lays "RhymedThen$Kept" "RhymedThen$Kept" "used" "Z" ∈ uw_U := uw_2 (List.mem_of_getElem? (i := 71) rfl) rfl
theorem wl_X1_1 : Cond.lays "RhymedThen$Kept" "RhymedThen$Kept" "told" "I" ∈ uw_U := uw_2 (List.mem_of_getElem? (i := 73) rfl) rfl
theorem wl_X1_2 : Cond.lays "RhymedThen$Kept" "RhymedThen$Kept" "on" "I" ∈ uw_U := uw_2 (List.mem_of_getElem? (i := 75) rfl) rfl
theorem wl_X1_3 : Cond.laysFinal "RhymedThen$Kept" "RhymedThen$Kept" "poets" "[I" ∈ uw_U := uw_2 (List.mem_of_getElem? (i := 77) rfl) rfl
theorem wl_X1_4 : Cond.laysFinal "RhymedThen$Kept" "RhymedThen$Kept" "trusts" "[I" ∈ uw_U := uw_2 (List.mem_of_getElem? (i := 79) rfl) rfl
theorem wl_X1_5 : Cond.laysFinal "RhymedThen$Kept" "RhymedThen$Kept" "lags" "[I" ∈ uw_U := uw_2 (List.mem_of_getElem? (i := 81) rfl) rfl
theorem wl_X1_6 : Cond.laysFinal "RhymedThen$Kept" "RhymedThen$Kept" "classes" "[I" ∈ uw_U := uw_2 (List.mem_of_getElem? (i := 83) rfl) rfl
theorem wf_X11_10 : Cond.fieldLink "RhymedThen" 10 "RhymedThen" "text" "LRhymedThen$Text;" ∈ uw_U := uw_2 (List.mem_of_getElem? (i := 86) rfl) rfl
theorem wf_X11_19 : Cond.fieldLink "RhymedThen" 19 "RhymedThen" "row" "LRhymedThen$Row;" ∈ uw_U := uw_2 (List.mem_of_getElem? (i := 87) rfl) rfl
theorem wf_X11_26 : Cond.fieldLink "RhymedThen" 26 "RhymedThen" "tongue" "LRhymedThen$Tongue;" ∈ uw_U := uw_2 (List.mem_of_getElem? (i := 88) rfl) rfl
theorem wf_X11_35 : Cond.fieldLink "RhymedThen" 35 "RhymedThen" "past" "LRhymedThen$Past;" ∈ uw_U := uw_2 (List.mem_of_getElem? (i := 89) rfl) rfl
theorem wf_X11_44 : Cond.fieldLink "RhymedThen" 44 "RhymedThen" "signs" "LRhymedThen$Signs;" ∈ uw_U := uw_2 (List.mem_of_getElem? (i := 90) rfl) rfl
theorem wf_X11_51 : Cond.fieldLink "RhymedThen" 51 "RhymedThen" "sought" "LRhymedThen$Sign;" ∈ uw_U := uw_2 (List.mem_of_getElem? (i := 91) rfl) rfl
theorem wf_X11_58 : Cond.fieldLink "RhymedThen" 58 "RhymedThen" "ways" "LRhymedThen$Ways;" ∈ uw_U := uw_2 (List.mem_of_getElem? (i := 92) rfl) rfl
theorem wf_X11_65 : Cond.fieldLink "RhymedThen" 65 "RhymedThen" "stage" "LRhymedThen$Stage;" ∈ uw_U := uw_2 (List.mem_of_getElem? (i := 93) rfl) rfl
theorem wf_X11_71 : Cond.fieldLink "RhymedThen" 71 "RhymedThen" "shelves" "[LRhymedThen$Kept;" ∈ uw_U := uw_2 (List.mem_of_getElem? (i := 94) rfl) rfl
theorem wf_X11_75 : Cond.fieldLink "RhymedThen" 75 "RhymedThen" "courses" "[I" ∈ uw_U := uw_2 (List.mem_of_getElem? (i := 95) rfl) rfl
theorem wf_X11_79 : Cond.fieldLink "RhymedThen" 79 "RhymedThen" "weights" "[J" ∈ uw_U := uw_2 (List.mem_of_getElem? (i := 96) rfl) rfl
theorem wf_X11_83 : Cond.fieldLink "RhymedThen" 83 "RhymedThen" "tails" "[J" ∈ uw_U := uw_2 (List.mem_of_getElem? (i := 97) rfl) rfl
theorem wf_X11_86 : Cond.fieldLink "RhymedThen" 86 "RhymedThen" "pairs" "[I" ∈ uw_U := uw_2 (List.mem_of_getElem? (i := 98) rfl) rfl
theorem wl_X11_0 : Cond.laysFinal "RhymedThen" "RhymedThen" "text" "LRhymedThen$Text;" ∈ uw_U := uw_2 (List.mem_of_getElem? (i := 99) rfl) rfl
theorem wl_X11_1 : Cond.laysFinal "RhymedThen" "RhymedThen" "row" "LRhymedThen$Row;" ∈ uw_U := uw_2 (List.mem_of_getElem? (i := 101) rfl) rfl
theorem wl_X11_2 : Cond.laysFinal "RhymedThen" "RhymedThen" "tongue" "LRhymedThen$Tongue;" ∈ uw_U := uw_2 (List.mem_of_getElem? (i := 103) rfl) rfl
theorem wl_X11_3 : Cond.laysFinal "RhymedThen" "RhymedThen" "past" "LRhymedThen$Past;" ∈ uw_U := uw_2 (List.mem_of_getElem? (i := 105) rfl) rfl
theorem wl_X11_4 : Cond.laysFinal "RhymedThen" "RhymedThen" "signs" "LRhymedThen$Signs;" ∈ uw_U := uw_2 (List.mem_of_getElem? (i := 107) rfl) rfl
theorem wl_X11_5 : Cond.laysFinal "RhymedThen" "RhymedThen" "sought" "LRhymedThen$Sign;" ∈ uw_U := uw_2 (List.mem_of_getElem? (i := 109) rfl) rfl
theorem wl_X11_6 : Cond.laysFinal "RhymedThen" "RhymedThen" "ways" "LRhymedThen$Ways;" ∈ uw_U := uw_2 (List.mem_of_getElem? (i := 111) rfl) rfl
theorem wl_X11_7 : Cond.laysFinal "RhymedThen" "RhymedThen" "stage" "LRhymedThen$Stage;" ∈ uw_U := uw_2 (List.mem_of_getElem? (i := 113) rfl) rfl
theorem wl_X11_8 : Cond.laysFinal "RhymedThen" "RhymedThen" "shelves" "[LRhymedThen$Kept;" ∈ uw_U := uw_2 (List.mem_of_getElem? (i := 115) rfl) rfl
theorem wl_X11_9 : Cond.laysFinal "RhymedThen" "RhymedThen" "courses" "[I" ∈ uw_U := uw_2 (List.mem_of_getElem? (i := 117) rfl) rfl
theorem wl_X11_10 : Cond.laysFinal "RhymedThen" "RhymedThen" "weights" "[J" ∈ uw_U := uw_2 (List.mem_of_getElem? (i := 119) rfl) rfl
theorem wl_X11_11 : Cond.laysFinal "RhymedThen" "RhymedThen" "tails" "[J" ∈ uw_U := uw_2 (List.mem_of_getElem? (i := 121) rfl) rfl
theorem wl_X11_12 : Cond.laysFinal "RhymedThen" "RhymedThen" "pairs" "[I" ∈ uw_U := uw_2 (List.mem_of_getElem? (i := 123) rfl) rfl
theorem wm_L_19 : Cond.methodLink "RhymedThenLaw" 19 yX11_sign ∈ uw_U := uw_2 (List.mem_of_getElem? (i := 126) rfl) rfl
theorem wi_X11_sign : Cond.instanceMethod yX11_sign ∈ uw_U := uw_2 (List.mem_of_getElem? (i := 127) rfl) rfl
theorem ws_X11_sign : Cond.selects "RhymedThen" yX11_sign yX11_sign ∈ uw_U := uw_2 (List.mem_of_getElem? (i := 128) rfl) rfl
theorem wo_X11_sign : Cond.code yX11_sign cX11_sign 2 (some FieldType.int) ∈ uw_U := uw_2 (List.mem_of_getElem? (i := 129) rfl) rfl
theorem wm_X11_90 : Cond.methodLink "RhymedThen" 90 yX8_takes ∈ uw_U := uw_2 (List.mem_of_getElem? (i := 130) rfl) rfl
theorem wi_X8_takes : Cond.instanceMethod yX8_takes ∈ uw_U := uw_2 (List.mem_of_getElem? (i := 131) rfl) rfl
theorem ws_X8_takes : Cond.selects "RhymedThen$Text" yX8_takes yX8_takes ∈ uw_U := uw_2 (List.mem_of_getElem? (i := 132) rfl) rfl
theorem wo_X8_takes : Cond.code yX8_takes cX8_takes 3 (some FieldType.boolean) ∈ uw_U := uw_2 (List.mem_of_getElem? (i := 133) rfl) rfl
theorem wm_L_24 : Cond.methodLink "RhymedThenLaw" 24 yX11_end ∈ uw_U := uw_2 (List.mem_of_getElem? (i := 134) rfl) rfl
theorem wi_X11_end : Cond.instanceMethod yX11_end ∈ uw_U := uw_2 (List.mem_of_getElem? (i := 135) rfl) rfl
theorem ws_X11_end : Cond.selects "RhymedThen" yX11_end yX11_end ∈ uw_U := uw_2 (List.mem_of_getElem? (i := 136) rfl) rfl
theorem wo_X11_end : Cond.code yX11_end cX11_end 2 (some FieldType.boolean) ∈ uw_U := uw_2 (List.mem_of_getElem? (i := 137) rfl) rfl
theorem wm_X11_98 : Cond.methodLink "RhymedThen" 98 yX8_cutTo ∈ uw_U := uw_2 (List.mem_of_getElem? (i := 138) rfl) rfl
theorem wi_X8_cutTo : Cond.instanceMethod yX8_cutTo ∈ uw_U := uw_2 (List.mem_of_getElem? (i := 139) rfl) rfl
theorem ws_X8_cutTo : Cond.selects "RhymedThen$Text" yX8_cutTo yX8_cutTo ∈ uw_U := uw_2 (List.mem_of_getElem? (i := 140) rfl) rfl
theorem wo_X8_cutTo : Cond.code yX8_cutTo cX8_cutTo 2 (some FieldType.boolean) ∈ uw_U := uw_2 (List.mem_of_getElem? (i := 141) rfl) rfl
theorem wm_L_29 : Cond.methodLink "RhymedThenLaw" 29 yX11_group ∈ uw_U := uw_2 (List.mem_of_getElem? (i := 142) rfl) rfl
theorem wi_X11_group : Cond.instanceMethod yX11_group ∈ uw_U := uw_2 (List.mem_of_getElem? (i := 143) rfl) rfl
theorem ws_X11_group : Cond.selects "RhymedThen" yX11_group yX11_group ∈ uw_U := uw_2 (List.mem_of_getElem? (i := 144) rfl) rfl
theorem wo_X11_group : Cond.code yX11_group cX11_group 4 (some FieldType.int) ∈ uw_U := uw_2 (List.mem_of_getElem? (i := 145) rfl) rfl
theorem wm_X11_101 : Cond.methodLink "RhymedThen" 101 yX11_isBelow ∈ uw_U := uw_2 (List.mem_of_getElem? (i := 146) rfl) rfl
theorem wt_X11_isBelow : Cond.static yX11_isBelow ∈ uw_U := uw_2 (List.mem_of_getElem? (i := 147) rfl) rfl
theorem wo_X11_isBelow : Cond.code yX11_isBelow cX11_isBelow 2 (some FieldType.boolean) ∈ uw_U := uw_2 (List.mem_of_getElem? (i := 148) rfl) rfl
theorem wk_X11_105 : Cond.constant "RhymedThen" 105 (65535 : Int32) ∈ uw_U := uw_2 (List.mem_of_getElem? (i := 149) rfl) rfl
theorem wm_X11_109 : Cond.methodLink "RhymedThen" 109 yX9_setClass ∈ uw_U := uw_2 (List.mem_of_getElem? (i := 150) rfl) rfl
theorem wi_X9_setClass : Cond.instanceMethod yX9_setClass ∈ uw_U := uw_2 (List.mem_of_getElem? (i := 151) rfl) rfl
theorem ws_X9_setClass : Cond.selects "RhymedThen$Tongue" yX9_setClass yX9_setClass ∈ uw_U := uw_2 (List.mem_of_getElem? (i := 152) rfl) rfl
theorem wo_X9_setClass : Cond.code yX9_setClass cX9_setClass 4 none ∈ uw_U := uw_2 (List.mem_of_getElem? (i := 153) rfl) rfl
theorem wm_X9_39 : Cond.methodLink "RhymedThen$Tongue" 39 yX2_tune ∈ uw_U := uw_2 (List.mem_of_getElem? (i := 154) rfl) rfl
theorem wi_X2_tune : Cond.instanceMethod yX2_tune ∈ uw_U := uw_2 (List.mem_of_getElem? (i := 155) rfl) rfl
theorem ws_X2_tune : Cond.selects "RhymedThen$Law" yX2_tune yX2_tune ∈ uw_U := uw_2 (List.mem_of_getElem? (i := 156) rfl) rfl
theorem wo_X2_tune : Cond.code yX2_tune cX2_tune 2 none ∈ uw_U := uw_2 (List.mem_of_getElem? (i := 157) rfl) rfl
theorem wm_X2_45 : Cond.methodLink "RhymedThen$Law" 45 yX2_setOf ∈ uw_U := uw_2 (List.mem_of_getElem? (i := 158) rfl) rfl
theorem wt_X2_setOf : Cond.static yX2_setOf ∈ uw_U := uw_2 (List.mem_of_getElem? (i := 159) rfl) rfl
theorem wo_X2_setOf : Cond.code yX2_setOf cX2_setOf 3 (some FieldType.int) ∈ uw_U := uw_2 (List.mem_of_getElem? (i := 160) rfl) rfl
theorem wk_X2_58 : Cond.constant "RhymedThen$Law" 58 (131071 : Int32) ∈ uw_U := uw_2 (List.mem_of_getElem? (i := 161) rfl) rfl
theorem wk_X2_59 : Cond.constant "RhymedThen$Law" 59 (65536 : Int32) ∈ uw_U := uw_2 (List.mem_of_getElem? (i := 162) rfl) rfl
theorem wm_X2_26 : Cond.methodLink "RhymedThen$Law" 26 yX8_isSound ∈ uw_U := uw_2 (List.mem_of_getElem? (i := 163) rfl) rfl
theorem wt_X8_isSound : Cond.static yX8_isSound ∈ uw_U := uw_2 (List.mem_of_getElem? (i := 164) rfl) rfl
theorem wo_X8_isSound : Cond.code yX8_isSound cX8_isSound 1 (some FieldType.boolean) ∈ uw_U := uw_2 (List.mem_of_getElem? (i := 165) rfl) rfl
theorem wm_X9_43 : Cond.methodLink "RhymedThen$Tongue" 43 yX9_forgetCourses ∈ uw_U := uw_2 (List.mem_of_getElem? (i := 167) rfl) rfl
theorem wi_X9_forgetCourses : Cond.instanceMethod yX9_forgetCourses ∈ uw_U := uw_2 (List.mem_of_getElem? (i := 169) rfl) rfl
theorem wo_X9_forgetCourses : Cond.code yX9_forgetCourses cX9_forgetCourses 3 none ∈ uw_U := uw_2 (List.mem_of_getElem? (i := 170) rfl) rfl
theorem wm_X11_113 : Cond.methodLink "RhymedThen" 113 yX6_doubtAll ∈ uw_U := uw_2 (List.mem_of_getElem? (i := 171) rfl) rfl
theorem wi_X6_doubtAll : Cond.instanceMethod yX6_doubtAll ∈ uw_U := uw_2 (List.mem_of_getElem? (i := 172) rfl) rfl
theorem ws_X6_doubtAll : Cond.selects "RhymedThen$Signs" yX6_doubtAll yX6_doubtAll ∈ uw_U := uw_2 (List.mem_of_getElem? (i := 173) rfl) rfl
theorem wo_X6_doubtAll : Cond.code yX6_doubtAll cX6_doubtAll 1 none ∈ uw_U := uw_2 (List.mem_of_getElem? (i := 174) rfl) rfl
theorem wm_L_34 : Cond.methodLink "RhymedThenLaw" 34 yX11_word ∈ uw_U := uw_2 (List.mem_of_getElem? (i := 175) rfl) rfl
theorem wi_X11_word : Cond.instanceMethod yX11_word ∈ uw_U := uw_2 (List.mem_of_getElem? (i := 176) rfl) rfl
theorem ws_X11_word : Cond.selects "RhymedThen" yX11_word yX11_word ∈ uw_U := uw_2 (List.mem_of_getElem? (i := 177) rfl) rfl
theorem wo_X11_word : Cond.code yX11_word cX11_word 2 (some FieldType.int) ∈ uw_U := uw_2 (List.mem_of_getElem? (i := 178) rfl) rfl
theorem wm_X11_119 : Cond.methodLink "RhymedThen" 119 yX11_wordFromText ∈ uw_U := uw_2 (List.mem_of_getElem? (i := 179) rfl) rfl
theorem wi_X11_wordFromText : Cond.instanceMethod yX11_wordFromText ∈ uw_U := uw_2 (List.mem_of_getElem? (i := 181) rfl) rfl
theorem wo_X11_wordFromText : Cond.code yX11_wordFromText cX11_wordFromText 2 (some FieldType.int) ∈ uw_U := uw_2 (List.mem_of_getElem? (i := 182) rfl) rfl
theorem wm_X11_123 : Cond.methodLink "RhymedThen" 123 yX8_firstNoWord ∈ uw_U := uw_2 (List.mem_of_getElem? (i := 183) rfl) rfl
theorem wi_X8_firstNoWord : Cond.instanceMethod yX8_firstNoWord ∈ uw_U := uw_2 (List.mem_of_getElem? (i := 184) rfl) rfl
theorem ws_X8_firstNoWord : Cond.selects "RhymedThen$Text" yX8_firstNoWord yX8_firstNoWord ∈ uw_U := uw_2 (List.mem_of_getElem? (i := 185) rfl) rfl
theorem wo_X8_firstNoWord : Cond.code yX8_firstNoWord cX8_firstNoWord 2 (some FieldType.int) ∈ uw_U := uw_2 (List.mem_of_getElem? (i := 186) rfl) rfl
theorem wm_X8_19 : Cond.methodLink "RhymedThen$Text" 19 yX8_isSound ∈ uw_U := uw_2 (List.mem_of_getElem? (i := 187) rfl) rfl
theorem wm_X11_126 : Cond.methodLink "RhymedThen" 126 yX8_asForm ∈ uw_U := uw_2 (List.mem_of_getElem? (i := 188) rfl) rfl
theorem wi_X8_asForm : Cond.instanceMethod yX8_asForm ∈ uw_U := uw_2 (List.mem_of_getElem? (i := 189) rfl) rfl
theorem ws_X8_asForm : Cond.selects "RhymedThen$Text" yX8_asForm yX8_asForm ∈ uw_U := uw_2 (List.mem_of_getElem? (i := 190) rfl) rfl
theorem wo_X8_asForm : Cond.code yX8_asForm cX8_asForm 5 (some FieldType.long) ∈ uw_U := uw_2 (List.mem_of_getElem? (i := 191) rfl) rfl
theorem wm_X8_23 : Cond.methodLink "RhymedThen$Text" 23 yJ9_min_7cf53 ∈ uw_U := uw_2 (List.mem_of_getElem? (i := 192) rfl) rfl
theorem wt_J9_min_7cf53 : Cond.static yJ9_min_7cf53 ∈ uw_U := uw_2 (List.mem_of_getElem? (i := 193) rfl) rfl
theorem wo_J9_min_7cf53 : Cond.code yJ9_min_7cf53 cJ9_min_7cf53 2 (some FieldType.int) ∈ uw_U := uw_2 (List.mem_of_getElem? (i := 194) rfl) rfl
theorem wm_X8_29 : Cond.methodLink "RhymedThen$Text" 29 yX0_of ∈ uw_U := uw_2 (List.mem_of_getElem? (i := 195) rfl) rfl
theorem wt_X0_of : Cond.static yX0_of ∈ uw_U := uw_2 (List.mem_of_getElem? (i := 196) rfl) rfl
theorem wo_X0_of : Cond.code yX0_of cX0_of 3 (some FieldType.long) ∈ uw_U := uw_2 (List.mem_of_getElem? (i := 197) rfl) rfl
theorem wm_X11_130 : Cond.methodLink "RhymedThen" 130 yX9_addWord ∈ uw_U := uw_2 (List.mem_of_getElem? (i := 198) rfl) rfl
theorem wi_X9_addWord : Cond.instanceMethod yX9_addWord ∈ uw_U := uw_2 (List.mem_of_getElem? (i := 199) rfl) rfl
theorem ws_X9_addWord : Cond.selects "RhymedThen$Tongue" yX9_addWord yX9_addWord ∈ uw_U := uw_2 (List.mem_of_getElem? (i := 200) rfl) rfl
theorem wo_X9_addWord : Cond.code yX9_addWord cX9_addWord 4 (some FieldType.int) ∈ uw_U := uw_2 (List.mem_of_getElem? (i := 201) rfl) rfl
theorem wm_L_39 : Cond.methodLink "RhymedThenLaw" 39 yX11_law ∈ uw_U := uw_2 (List.mem_of_getElem? (i := 202) rfl) rfl
theorem wi_X11_law : Cond.instanceMethod yX11_law ∈ uw_U := uw_2 (List.mem_of_getElem? (i := 203) rfl) rfl
theorem ws_X11_law : Cond.selects "RhymedThen" yX11_law yX11_law ∈ uw_U := uw_2 (List.mem_of_getElem? (i := 204) rfl) rfl
theorem wo_X11_law : Cond.code yX11_law cX11_law 5 (some FieldType.int) ∈ uw_U := uw_2 (List.mem_of_getElem? (i := 205) rfl) rfl
theorem wm_X11_134 : Cond.methodLink "RhymedThen" 134 yX11_lawFromText ∈ uw_U := uw_2 (List.mem_of_getElem? (i := 206) rfl) rfl
theorem wi_X11_lawFromText : Cond.instanceMethod yX11_lawFromText ∈ uw_U := uw_2 (List.mem_of_getElem? (i := 208) rfl) rfl
theorem wo_X11_lawFromText : Cond.code yX11_lawFromText cX11_lawFromText 7 (some FieldType.int) ∈ uw_U := uw_2 (List.mem_of_getElem? (i := 209) rfl) rfl
theorem wm_X11_141 : Cond.methodLink "RhymedThen" 141 yX11_yearsOfLaw ∈ uw_U := uw_2 (List.mem_of_getElem? (i := 210) rfl) rfl
theorem wt_X11_yearsOfLaw : Cond.static yX11_yearsOfLaw ∈ uw_U := uw_2 (List.mem_of_getElem? (i := 211) rfl) rfl
theorem wo_X11_yearsOfLaw : Cond.code yX11_yearsOfLaw cX11_yearsOfLaw 3 (some FieldType.int) ∈ uw_U := uw_2 (List.mem_of_getElem? (i := 212) rfl) rfl
theorem wm_X11_151 : Cond.methodLink "RhymedThen" 151 yX2_read ∈ uw_U := uw_2 (List.mem_of_getElem? (i := 213) rfl) rfl
theorem wi_X2_read : Cond.instanceMethod yX2_read ∈ uw_U := uw_2 (List.mem_of_getElem? (i := 214) rfl) rfl
theorem ws_X2_read : Cond.selects "RhymedThen$Law" yX2_read yX2_read ∈ uw_U := uw_2 (List.mem_of_getElem? (i := 215) rfl) rfl
theorem wo_X2_read : Cond.code yX2_read cX2_read 3 (some FieldType.int) ∈ uw_U := uw_2 (List.mem_of_getElem? (i := 216) rfl) rfl
theorem wm_X2_9 : Cond.methodLink "RhymedThen$Law" 9 yX8_signAt ∈ uw_U := uw_2 (List.mem_of_getElem? (i := 217) rfl) rfl
theorem wi_X8_signAt : Cond.instanceMethod yX8_signAt ∈ uw_U := uw_2 (List.mem_of_getElem? (i := 218) rfl) rfl
theorem ws_X8_signAt : Cond.selects "RhymedThen$Text" yX8_signAt yX8_signAt ∈ uw_U := uw_2 (List.mem_of_getElem? (i := 219) rfl) rfl
theorem wo_X8_signAt : Cond.code yX8_signAt cX8_signAt 2 (some FieldType.int) ∈ uw_U := uw_2 (List.mem_of_getElem? (i := 220) rfl) rfl
theorem wm_X2_19 : Cond.methodLink "RhymedThen$Law" 19 yX8_isSoundOrClass ∈ uw_U := uw_2 (List.mem_of_getElem? (i := 221) rfl) rfl
theorem wt_X8_isSoundOrClass : Cond.static yX8_isSoundOrClass ∈ uw_U := uw_2 (List.mem_of_getElem? (i := 222) rfl) rfl
theorem wo_X8_isSoundOrClass : Cond.code yX8_isSoundOrClass cX8_isSoundOrClass 1 (some FieldType.boolean) ∈ uw_U := uw_2 (List.mem_of_getElem? (i := 223) rfl) rfl
theorem wm_X2_35 : Cond.methodLink "RhymedThen$Law" 35 yX2_readSides ∈ uw_U := uw_2 (List.mem_of_getElem? (i := 224) rfl) rfl
theorem wi_X2_readSides : Cond.instanceMethod yX2_readSides ∈ uw_U := uw_2 (List.mem_of_getElem? (i := 226) rfl) rfl
theorem wo_X2_readSides : Cond.code yX2_readSides cX2_readSides 4 (some FieldType.int) ∈ uw_U := uw_2 (List.mem_of_getElem? (i := 227) rfl) rfl
theorem wm_X2_42 : Cond.methodLink "RhymedThen$Law" 42 yX2_isSide ∈ uw_U := uw_2 (List.mem_of_getElem? (i := 228) rfl) rfl
theorem wt_X2_isSide : Cond.static yX2_isSide ∈ uw_U := uw_2 (List.mem_of_getElem? (i := 229) rfl) rfl
theorem wo_X2_isSide : Cond.code yX2_isSide cX2_isSide 1 (some FieldType.boolean) ∈ uw_U := uw_2 (List.mem_of_getElem? (i := 230) rfl) rfl
theorem wm_X2_39 : Cond.methodLink "RhymedThen$Law" 39 yX2_overAt ∈ uw_U := uw_2 (List.mem_of_getElem? (i := 231) rfl) rfl
theorem wt_X2_overAt : Cond.static yX2_overAt ∈ uw_U := uw_2 (List.mem_of_getElem? (i := 232) rfl) rfl
theorem wo_X2_overAt : Cond.code yX2_overAt cX2_overAt 2 (some FieldType.int) ∈ uw_U := uw_2 (List.mem_of_getElem? (i := 233) rfl) rfl
theorem wm_X11_157 : Cond.methodLink "RhymedThen" 157 yX9_addLaw ∈ uw_U := uw_2 (List.mem_of_getElem? (i := 234) rfl) rfl
theorem wi_X9_addLaw : Cond.instanceMethod yX9_addLaw ∈ uw_U := uw_2 (List.mem_of_getElem? (i := 235) rfl) rfl
theorem ws_X9_addLaw : Cond.selects "RhymedThen$Tongue" yX9_addLaw yX9_addLaw ∈ uw_U := uw_2 (List.mem_of_getElem? (i := 236) rfl) rfl
theorem wo_X9_addLaw : Cond.code yX9_addLaw cX9_addLaw 2 (some FieldType.int) ∈ uw_U := uw_2 (List.mem_of_getElem? (i := 237) rfl) rfl
theorem wm_X11_160 : Cond.methodLink "RhymedThen" 160 yX3_addLaw ∈ uw_U := uw_2 (List.mem_of_getElem? (i := 238) rfl) rfl
theorem wi_X3_addLaw : Cond.instanceMethod yX3_addLaw ∈ uw_U := uw_2 (List.mem_of_getElem? (i := 239) rfl) rfl
theorem ws_X3_addLaw : Cond.selects "RhymedThen$Past" yX3_addLaw yX3_addLaw ∈ uw_U := uw_3 (List.mem_of_getElem? (i := 0) rfl) rfl
theorem wo_X3_addLaw : Cond.code yX3_addLaw cX3_addLaw 9 none ∈ uw_U := uw_3 (List.mem_of_getElem? (i := 1) rfl) rfl
theorem wm_X3_36 : Cond.methodLink "RhymedThen$Past" 36 yX3_insert ∈ uw_U := uw_3 (List.mem_of_getElem? (i := 2) rfl) rfl
theorem wi_X3_insert : Cond.instanceMethod yX3_insert ∈ uw_U := uw_3 (List.mem_of_getElem? (i := 4) rfl) rfl
theorem wo_X3_insert : Cond.code yX3_insert cX3_insert 9 none ∈ uw_U := uw_3 (List.mem_of_getElem? (i := 5) rfl) rfl
theorem wm_X3_40 : Cond.methodLink "RhymedThen$Past" 40 yX3_yearIn ∈ uw_U := uw_3 (List.mem_of_getElem? (i := 6) rfl) rfl
theorem wt_X3_yearIn : Cond.static yX3_yearIn ∈ uw_U := uw_3 (List.mem_of_getElem? (i := 7) rfl) rfl
theorem wo_X3_yearIn : Cond.code yX3_yearIn cX3_yearIn 3 (some FieldType.int) ∈ uw_U := uw_3 (List.mem_of_getElem? (i := 8) rfl) rfl
theorem wm_L_44 : Cond.methodLink "RhymedThenLaw" 44 yX11_lag ∈ uw_U := uw_3 (List.mem_of_getElem? (i := 9) rfl) rfl
theorem wi_X11_lag : Cond.instanceMethod yX11_lag ∈ uw_U := uw_3 (List.mem_of_getElem? (i := 10) rfl) rfl
theorem ws_X11_lag : Cond.selects "RhymedThen" yX11_lag yX11_lag ∈ uw_U := uw_3 (List.mem_of_getElem? (i := 11) rfl) rfl
theorem wo_X11_lag : Cond.code yX11_lag cX11_lag 4 (some FieldType.int) ∈ uw_U := uw_3 (List.mem_of_getElem? (i := 12) rfl) rfl
theorem wm_X11_163 : Cond.methodLink "RhymedThen" 163 yX11_isPlace ∈ uw_U := uw_3 (List.mem_of_getElem? (i := 13) rfl) rfl
theorem wt_X11_isPlace : Cond.static yX11_isPlace ∈ uw_U := uw_3 (List.mem_of_getElem? (i := 14) rfl) rfl
theorem wo_X11_isPlace : Cond.code yX11_isPlace cX11_isPlace 1 (some FieldType.boolean) ∈ uw_U := uw_3 (List.mem_of_getElem? (i := 15) rfl) rfl
theorem wm_X11_169 : Cond.methodLink "RhymedThen" 169 yX6_doubtPlace ∈ uw_U := uw_3 (List.mem_of_getElem? (i := 16) rfl) rfl
theorem wi_X6_doubtPlace : Cond.instanceMethod yX6_doubtPlace ∈ uw_U := uw_3 (List.mem_of_getElem? (i := 17) rfl) rfl
theorem ws_X6_doubtPlace : Cond.selects "RhymedThen$Signs" yX6_doubtPlace yX6_doubtPlace ∈ uw_U := uw_3 (List.mem_of_getElem? (i := 18) rfl) rfl
theorem wo_X6_doubtPlace : Cond.code yX6_doubtPlace cX6_doubtPlace 2 none ∈ uw_U := uw_3 (List.mem_of_getElem? (i := 19) rfl) rfl
theorem wm_X6_40 : Cond.methodLink "RhymedThen$Signs" 40 yX6_atPlace ∈ uw_U := uw_3 (List.mem_of_getElem? (i := 20) rfl) rfl
theorem wi_X6_atPlace : Cond.instanceMethod yX6_atPlace ∈ uw_U := uw_3 (List.mem_of_getElem? (i := 22) rfl) rfl
theorem wo_X6_atPlace : Cond.code yX6_atPlace cX6_atPlace 4 (some FieldType.int) ∈ uw_U := uw_3 (List.mem_of_getElem? (i := 23) rfl) rfl
theorem wm_L_48 : Cond.methodLink "RhymedThenLaw" 48 yX11_lags ∈ uw_U := uw_3 (List.mem_of_getElem? (i := 24) rfl) rfl
theorem wi_X11_lags : Cond.instanceMethod yX11_lags ∈ uw_U := uw_3 (List.mem_of_getElem? (i := 25) rfl) rfl
theorem ws_X11_lags : Cond.selects "RhymedThen" yX11_lags yX11_lags ∈ uw_U := uw_3 (List.mem_of_getElem? (i := 26) rfl) rfl
theorem wo_X11_lags : Cond.code yX11_lags cX11_lags 10 (some FieldType.int) ∈ uw_U := uw_3 (List.mem_of_getElem? (i := 27) rfl) rfl
theorem wm_X11_173 : Cond.methodLink "RhymedThen" 173 yX11_lagOnSheet ∈ uw_U := uw_3 (List.mem_of_getElem? (i := 28) rfl) rfl
theorem wt_X11_lagOnSheet : Cond.static yX11_lagOnSheet ∈ uw_U := uw_3 (List.mem_of_getElem? (i := 29) rfl) rfl
theorem wo_X11_lagOnSheet : Cond.code yX11_lagOnSheet cX11_lagOnSheet 3 (some FieldType.int) ∈ uw_U := uw_3 (List.mem_of_getElem? (i := 30) rfl) rfl
theorem wm_X11_177 : Cond.methodLink "RhymedThen" 177 yJ9_min_7cf53 ∈ uw_U := uw_3 (List.mem_of_getElem? (i := 31) rfl) rfl
theorem wm_X11_182 : Cond.methodLink "RhymedThen" 182 yJ9_max_7cf53 ∈ uw_U := uw_3 (List.mem_of_getElem? (i := 32) rfl) rfl
theorem wt_J9_max_7cf53 : Cond.static yJ9_max_7cf53 ∈ uw_U := uw_3 (List.mem_of_getElem? (i := 33) rfl) rfl
theorem wo_J9_max_7cf53 : Cond.code yJ9_max_7cf53 cJ9_max_7cf53 2 (some FieldType.int) ∈ uw_U := uw_3 (List.mem_of_getElem? (i := 34) rfl) rfl
theorem wm_L_53 : Cond.methodLink "RhymedThenLaw" 53 yX11_said ∈ uw_U := uw_3 (List.mem_of_getElem? (i := 35) rfl) rfl
theorem wi_X11_said : Cond.instanceMethod yX11_said ∈ uw_U := uw_3 (List.mem_of_getElem? (i := 36) rfl) rfl
theorem ws_X11_said : Cond.selects "RhymedThen" yX11_said yX11_said ∈ uw_U := uw_3 (List.mem_of_getElem? (i := 37) rfl) rfl
theorem wo_X11_said : Cond.code yX11_said cX11_said 5 (some FieldType.int) ∈ uw_U := uw_3 (List.mem_of_getElem? (i := 38) rfl) rfl
theorem wm_X11_185 : Cond.methodLink "RhymedThen" 185 yX11_isWord ∈ uw_U := uw_3 (List.mem_of_getElem? (i := 39) rfl) rfl
theorem wi_X11_isWord : Cond.instanceMethod yX11_isWord ∈ uw_U := uw_3 (List.mem_of_getElem? (i := 41) rfl) rfl
theorem wo_X11_isWord : Cond.code yX11_isWord cX11_isWord 2 (some FieldType.boolean) ∈ uw_U := uw_3 (List.mem_of_getElem? (i := 42) rfl) rfl
theorem wm_X11_188 : Cond.methodLink "RhymedThen" 188 yX11_isThenAndThere ∈ uw_U := uw_3 (List.mem_of_getElem? (i := 43) rfl) rfl
theorem wi_X11_isThenAndThere : Cond.instanceMethod yX11_isThenAndThere ∈ uw_U := uw_3 (List.mem_of_getElem? (i := 45) rfl) rfl
theorem wo_X11_isThenAndThere : Cond.code yX11_isThenAndThere cX11_isThenAndThere 4 (some FieldType.boolean) ∈ uw_U := uw_3 (List.mem_of_getElem? (i := 46) rfl) rfl
theorem wm_X11_218 : Cond.methodLink "RhymedThen" 218 yX11_isHistory ∈ uw_U := uw_3 (List.mem_of_getElem? (i := 47) rfl) rfl
theorem wi_X11_isHistory : Cond.instanceMethod yX11_isHistory ∈ uw_U := uw_3 (List.mem_of_getElem? (i := 49) rfl) rfl
theorem wo_X11_isHistory : Cond.code yX11_isHistory cX11_isHistory 2 (some FieldType.boolean) ∈ uw_U := uw_3 (List.mem_of_getElem? (i := 50) rfl) rfl
theorem wm_X11_257 : Cond.methodLink "RhymedThen" 257 yX11_isYear ∈ uw_U := uw_3 (List.mem_of_getElem? (i := 51) rfl) rfl
theorem wt_X11_isYear : Cond.static yX11_isYear ∈ uw_U := uw_3 (List.mem_of_getElem? (i := 52) rfl) rfl
theorem wo_X11_isYear : Cond.code yX11_isYear cX11_isYear 1 (some FieldType.boolean) ∈ uw_U := uw_3 (List.mem_of_getElem? (i := 53) rfl) rfl
theorem wm_X11_192 : Cond.methodLink "RhymedThen" 192 yX4_clear ∈ uw_U := uw_3 (List.mem_of_getElem? (i := 54) rfl) rfl
theorem wi_X4_clear : Cond.instanceMethod yX4_clear ∈ uw_U := uw_3 (List.mem_of_getElem? (i := 55) rfl) rfl
theorem ws_X4_clear : Cond.selects "RhymedThen$Row" yX4_clear yX4_clear ∈ uw_U := uw_3 (List.mem_of_getElem? (i := 56) rfl) rfl
theorem wo_X4_clear : Cond.code yX4_clear cX4_clear 1 none ∈ uw_U := uw_3 (List.mem_of_getElem? (i := 57) rfl) rfl
theorem wm_X11_195 : Cond.methodLink "RhymedThen" 195 yX3_courseAt ∈ uw_U := uw_3 (List.mem_of_getElem? (i := 58) rfl) rfl
theorem wi_X3_courseAt : Cond.instanceMethod yX3_courseAt ∈ uw_U := uw_3 (List.mem_of_getElem? (i := 59) rfl) rfl
theorem ws_X3_courseAt : Cond.selects "RhymedThen$Past" yX3_courseAt yX3_courseAt ∈ uw_U := uw_3 (List.mem_of_getElem? (i := 60) rfl) rfl
theorem wo_X3_courseAt : Cond.code yX3_courseAt cX3_courseAt 4 (some FieldType.int) ∈ uw_U := uw_3 (List.mem_of_getElem? (i := 61) rfl) rfl
theorem wm_X3_54 : Cond.methodLink "RhymedThen$Past" 54 yX3_courseAmong ∈ uw_U := uw_3 (List.mem_of_getElem? (i := 62) rfl) rfl
theorem wi_X3_courseAmong : Cond.instanceMethod yX3_courseAmong ∈ uw_U := uw_3 (List.mem_of_getElem? (i := 63) rfl) rfl
theorem ws_X3_courseAmong : Cond.selects "RhymedThen$Past" yX3_courseAmong yX3_courseAmong ∈ uw_U := uw_3 (List.mem_of_getElem? (i := 64) rfl) rfl
theorem wo_X3_courseAmong : Cond.code yX3_courseAmong cX3_courseAmong 9 (some FieldType.int) ∈ uw_U := uw_3 (List.mem_of_getElem? (i := 65) rfl) rfl
theorem wm_X3_44 : Cond.methodLink "RhymedThen$Past" 44 yX3_lawAt ∈ uw_U := uw_3 (List.mem_of_getElem? (i := 66) rfl) rfl
theorem wi_X3_lawAt : Cond.instanceMethod yX3_lawAt ∈ uw_U := uw_3 (List.mem_of_getElem? (i := 68) rfl) rfl
theorem wo_X3_lawAt : Cond.code yX3_lawAt cX3_lawAt 3 (some FieldType.int) ∈ uw_U := uw_3 (List.mem_of_getElem? (i := 69) rfl) rfl
theorem wm_X3_60 : Cond.methodLink "RhymedThen$Past" 60 yX9_courseAfter ∈ uw_U := uw_3 (List.mem_of_getElem? (i := 70) rfl) rfl
theorem wi_X9_courseAfter : Cond.instanceMethod yX9_courseAfter ∈ uw_U := uw_3 (List.mem_of_getElem? (i := 71) rfl) rfl
theorem ws_X9_courseAfter : Cond.selects "RhymedThen$Tongue" yX9_courseAfter yX9_courseAfter ∈ uw_U := uw_3 (List.mem_of_getElem? (i := 72) rfl) rfl
theorem wo_X9_courseAfter : Cond.code yX9_courseAfter cX9_courseAfter 5 (some FieldType.int) ∈ uw_U := uw_3 (List.mem_of_getElem? (i := 73) rfl) rfl
theorem wm_X9_46 : Cond.methodLink "RhymedThen$Tongue" 46 yX9_makeRoom ∈ uw_U := uw_3 (List.mem_of_getElem? (i := 74) rfl) rfl
theorem wi_X9_makeRoom : Cond.instanceMethod yX9_makeRoom ∈ uw_U := uw_3 (List.mem_of_getElem? (i := 76) rfl) rfl
theorem wo_X9_makeRoom : Cond.code yX9_makeRoom cX9_makeRoom 1 none ∈ uw_U := uw_3 (List.mem_of_getElem? (i := 77) rfl) rfl
theorem wm_X9_53 : Cond.methodLink "RhymedThen$Tongue" 53 yJ7_copyOf_59c91 ∈ uw_U := uw_3 (List.mem_of_getElem? (i := 78) rfl) rfl
theorem wt_J7_copyOf_59c91 : Cond.static yJ7_copyOf_59c91 ∈ uw_U := uw_3 (List.mem_of_getElem? (i := 79) rfl) rfl
theorem wo_J7_copyOf_59c91 : Cond.code yJ7_copyOf_59c91 cJ7_copyOf_59c91 3 (some (FieldType.array FieldType.int)) ∈ uw_U := uw_3 (List.mem_of_getElem? (i := 80) rfl) rfl
theorem wm_J7_316 : Cond.methodLink "java/util/Arrays" 316 ⟨"[I", "clone", "()Ljava/lang/Object;"⟩ ∈ uw_U := uw_3 (List.mem_of_getElem? (i := 81) rfl) rfl
theorem wv_oe54a47 : Cond.native ⟨"java/lang/Object", "clone", "()Ljava/lang/Object;"⟩ ∈ uw_U := uw_3 (List.mem_of_getElem? (i := 83) rfl) rfl
theorem wi_oe54a47 : Cond.instanceMethod ⟨"java/lang/Object", "clone", "()Ljava/lang/Object;"⟩ ∈ uw_U := uw_3 (List.mem_of_getElem? (i := 84) rfl) rfl
theorem wx_obdf13d_07b20a : Cond.selects "[I" ⟨"[I", "clone", "()Ljava/lang/Object;"⟩ ⟨"java/lang/Object", "clone", "()Ljava/lang/Object;"⟩ ∈ uw_U := uw_3 (List.mem_of_getElem? (i := 85) rfl) rfl
theorem wc_J7_317 : Cond.classLink "java/util/Arrays" 317 "[I" ∈ uw_U := uw_3 (List.mem_of_getElem? (i := 87) rfl) rfl
theorem wm_J7_304 : Cond.methodLink "java/util/Arrays" 304 yJ9_min_7cf53 ∈ uw_U := uw_3 (List.mem_of_getElem? (i := 88) rfl) rfl
theorem wm_J7_150 : Cond.methodLink "java/util/Arrays" 150 ⟨"java/lang/System", "arraycopy", "(Ljava/lang/Object;ILjava/lang/Object;II)V"⟩ ∈ uw_U := uw_3 (List.mem_of_getElem? (i := 89) rfl) rfl
theorem wt_o809bb3 : Cond.static ⟨"java/lang/System", "arraycopy", "(Ljava/lang/Object;ILjava/lang/Object;II)V"⟩ ∈ uw_U := uw_3 (List.mem_of_getElem? (i := 90) rfl) rfl
theorem wv_o809bb3 : Cond.native ⟨"java/lang/System", "arraycopy", "(Ljava/lang/Object;ILjava/lang/Object;II)V"⟩ ∈ uw_U := uw_3 (List.mem_of_getElem? (i := 91) rfl) rfl
theorem wm_X9_59 : Cond.methodLink "RhymedThen$Tongue" 59 yJ7_copyOf_c38d5 ∈ uw_U := uw_3 (List.mem_of_getElem? (i := 92) rfl) rfl
theorem wt_J7_copyOf_c38d5 : Cond.static yJ7_copyOf_c38d5 ∈ uw_U := uw_3 (List.mem_of_getElem? (i := 93) rfl) rfl
theorem wo_J7_copyOf_c38d5 : Cond.code yJ7_copyOf_c38d5 cJ7_copyOf_c38d5 3 (some (FieldType.array FieldType.long)) ∈ uw_U := uw_3 (List.mem_of_getElem? (i := 94) rfl) rfl
theorem wm_J7_319 : Cond.methodLink "java/util/Arrays" 319 ⟨"[J", "clone", "()Ljava/lang/Object;"⟩ ∈ uw_U := uw_3 (List.mem_of_getElem? (i := 95) rfl) rfl
theorem wx_o8cf817_bf8430 : Cond.selects "[J" ⟨"[J", "clone", "()Ljava/lang/Object;"⟩ ⟨"java/lang/Object", "clone", "()Ljava/lang/Object;"⟩ ∈ uw_U := uw_3 (List.mem_of_getElem? (i := 97) rfl) rfl
theorem wc_J7_320 : Cond.classLink "java/util/Arrays" 320 "[J" ∈ uw_U := uw_3 (List.mem_of_getElem? (i := 99) rfl) rfl
theorem wm_X9_49 : Cond.methodLink "RhymedThen$Tongue" 49 yX2_workOn ∈ uw_U := uw_3 (List.mem_of_getElem? (i := 100) rfl) rfl
theorem wi_X2_workOn : Cond.instanceMethod yX2_workOn ∈ uw_U := uw_3 (List.mem_of_getElem? (i := 101) rfl) rfl
theorem ws_X2_workOn : Cond.selects "RhymedThen$Law" yX2_workOn yX2_workOn ∈ uw_U := uw_3 (List.mem_of_getElem? (i := 102) rfl) rfl
theorem wo_X2_workOn : Cond.code yX2_workOn cX2_workOn 13 (some FieldType.long) ∈ uw_U := uw_3 (List.mem_of_getElem? (i := 103) rfl) rfl
theorem wm_X2_66 : Cond.methodLink "RhymedThen$Law" 66 yX0_lengthOf ∈ uw_U := uw_3 (List.mem_of_getElem? (i := 104) rfl) rfl
theorem wt_X0_lengthOf : Cond.static yX0_lengthOf ∈ uw_U := uw_3 (List.mem_of_getElem? (i := 105) rfl) rfl
theorem wo_X0_lengthOf : Cond.code yX0_lengthOf cX0_lengthOf 2 (some FieldType.int) ∈ uw_U := uw_3 (List.mem_of_getElem? (i := 106) rfl) rfl
theorem wm_X2_72 : Cond.methodLink "RhymedThen$Law" 72 yX0_soundAt ∈ uw_U := uw_3 (List.mem_of_getElem? (i := 107) rfl) rfl
theorem wt_X0_soundAt : Cond.static yX0_soundAt ∈ uw_U := uw_3 (List.mem_of_getElem? (i := 108) rfl) rfl
theorem wo_X0_soundAt : Cond.code yX0_soundAt cX0_soundAt 3 (some FieldType.int) ∈ uw_U := uw_3 (List.mem_of_getElem? (i := 109) rfl) rfl
theorem wm_X2_76 : Cond.methodLink "RhymedThen$Law" 76 yX0_of ∈ uw_U := uw_3 (List.mem_of_getElem? (i := 110) rfl) rfl
theorem wm_X11_198 : Cond.methodLink "RhymedThen" 198 yX9_formOn ∈ uw_U := uw_3 (List.mem_of_getElem? (i := 111) rfl) rfl
theorem wi_X9_formOn : Cond.instanceMethod yX9_formOn ∈ uw_U := uw_3 (List.mem_of_getElem? (i := 112) rfl) rfl
theorem ws_X9_formOn : Cond.selects "RhymedThen$Tongue" yX9_formOn yX9_formOn ∈ uw_U := uw_3 (List.mem_of_getElem? (i := 113) rfl) rfl
theorem wo_X9_formOn : Cond.code yX9_formOn cX9_formOn 3 (some FieldType.long) ∈ uw_U := uw_3 (List.mem_of_getElem? (i := 114) rfl) rfl
theorem wm_X11_202 : Cond.methodLink "RhymedThen" 202 yX11_tellSounds ∈ uw_U := uw_3 (List.mem_of_getElem? (i := 115) rfl) rfl
theorem wi_X11_tellSounds : Cond.instanceMethod yX11_tellSounds ∈ uw_U := uw_3 (List.mem_of_getElem? (i := 117) rfl) rfl
theorem wo_X11_tellSounds : Cond.code yX11_tellSounds cX11_tellSounds 5 (some FieldType.int) ∈ uw_U := uw_3 (List.mem_of_getElem? (i := 118) rfl) rfl
theorem wm_X11_205 : Cond.methodLink "RhymedThen" 205 yX0_lengthOf ∈ uw_U := uw_3 (List.mem_of_getElem? (i := 119) rfl) rfl
theorem wm_X11_210 : Cond.methodLink "RhymedThen" 210 yX0_soundAt ∈ uw_U := uw_3 (List.mem_of_getElem? (i := 120) rfl) rfl
theorem wm_X11_214 : Cond.methodLink "RhymedThen" 214 yX4_add ∈ uw_U := uw_3 (List.mem_of_getElem? (i := 121) rfl) rfl
theorem wi_X4_add : Cond.instanceMethod yX4_add ∈ uw_U := uw_3 (List.mem_of_getElem? (i := 122) rfl) rfl
theorem ws_X4_add : Cond.selects "RhymedThen$Row" yX4_add yX4_add ∈ uw_U := uw_3 (List.mem_of_getElem? (i := 123) rfl) rfl
theorem wo_X4_add : Cond.code yX4_add cX4_add 3 none ∈ uw_U := uw_3 (List.mem_of_getElem? (i := 124) rfl) rfl
theorem wm_L_57 : Cond.methodLink "RhymedThenLaw" 57 yX11_changes ∈ uw_U := uw_3 (List.mem_of_getElem? (i := 125) rfl) rfl
theorem wi_X11_changes : Cond.instanceMethod yX11_changes ∈ uw_U := uw_3 (List.mem_of_getElem? (i := 126) rfl) rfl
theorem ws_X11_changes : Cond.selects "RhymedThen" yX11_changes yX11_changes ∈ uw_U := uw_3 (List.mem_of_getElem? (i := 127) rfl) rfl
theorem wo_X11_changes : Cond.code yX11_changes cX11_changes 10 (some FieldType.int) ∈ uw_U := uw_3 (List.mem_of_getElem? (i := 128) rfl) rfl
theorem wm_X11_221 : Cond.methodLink "RhymedThen" 221 yX3_newsYear ∈ uw_U := uw_3 (List.mem_of_getElem? (i := 129) rfl) rfl
theorem wi_X3_newsYear : Cond.instanceMethod yX3_newsYear ∈ uw_U := uw_3 (List.mem_of_getElem? (i := 130) rfl) rfl
theorem ws_X3_newsYear : Cond.selects "RhymedThen$Past" yX3_newsYear yX3_newsYear ∈ uw_U := uw_3 (List.mem_of_getElem? (i := 131) rfl) rfl
theorem wo_X3_newsYear : Cond.code yX3_newsYear cX3_newsYear 4 (some FieldType.int) ∈ uw_U := uw_3 (List.mem_of_getElem? (i := 132) rfl) rfl
theorem wm_L_61 : Cond.methodLink "RhymedThenLaw" 61 yX11_alike ∈ uw_U := uw_3 (List.mem_of_getElem? (i := 133) rfl) rfl
theorem wi_X11_alike : Cond.instanceMethod yX11_alike ∈ uw_U := uw_3 (List.mem_of_getElem? (i := 134) rfl) rfl
theorem ws_X11_alike : Cond.selects "RhymedThen" yX11_alike yX11_alike ∈ uw_U := uw_3 (List.mem_of_getElem? (i := 135) rfl) rfl
theorem wo_X11_alike : Cond.code yX11_alike cX11_alike 7 (some FieldType.int) ∈ uw_U := uw_3 (List.mem_of_getElem? (i := 136) rfl) rfl
theorem wm_X11_225 : Cond.methodLink "RhymedThen" 225 yX9_rhymeOn ∈ uw_U := uw_3 (List.mem_of_getElem? (i := 137) rfl) rfl
theorem wi_X9_rhymeOn : Cond.instanceMethod yX9_rhymeOn ∈ uw_U := uw_3 (List.mem_of_getElem? (i := 138) rfl) rfl
theorem ws_X9_rhymeOn : Cond.selects "RhymedThen$Tongue" yX9_rhymeOn yX9_rhymeOn ∈ uw_U := uw_3 (List.mem_of_getElem? (i := 139) rfl) rfl
theorem wo_X9_rhymeOn : Cond.code yX9_rhymeOn cX9_rhymeOn 6 (some FieldType.boolean) ∈ uw_U := uw_3 (List.mem_of_getElem? (i := 140) rfl) rfl
theorem wm_X9_76 : Cond.methodLink "RhymedThen$Tongue" 76 yX9_tailOn ∈ uw_U := uw_3 (List.mem_of_getElem? (i := 141) rfl) rfl
theorem wi_X9_tailOn : Cond.instanceMethod yX9_tailOn ∈ uw_U := uw_3 (List.mem_of_getElem? (i := 142) rfl) rfl
theorem ws_X9_tailOn : Cond.selects "RhymedThen$Tongue" yX9_tailOn yX9_tailOn ∈ uw_U := uw_3 (List.mem_of_getElem? (i := 143) rfl) rfl
theorem wo_X9_tailOn : Cond.code yX9_tailOn cX9_tailOn 3 (some FieldType.long) ∈ uw_U := uw_3 (List.mem_of_getElem? (i := 144) rfl) rfl
theorem wm_X9_62 : Cond.methodLink "RhymedThen$Tongue" 62 yX9_formOn ∈ uw_U := uw_3 (List.mem_of_getElem? (i := 145) rfl) rfl
theorem wm_X9_66 : Cond.methodLink "RhymedThen$Tongue" 66 yX9_vowels ∈ uw_U := uw_3 (List.mem_of_getElem? (i := 146) rfl) rfl
theorem wi_X9_vowels : Cond.instanceMethod yX9_vowels ∈ uw_U := uw_3 (List.mem_of_getElem? (i := 147) rfl) rfl
theorem ws_X9_vowels : Cond.selects "RhymedThen$Tongue" yX9_vowels yX9_vowels ∈ uw_U := uw_3 (List.mem_of_getElem? (i := 148) rfl) rfl
theorem wo_X9_vowels : Cond.code yX9_vowels cX9_vowels 1 (some FieldType.int) ∈ uw_U := uw_3 (List.mem_of_getElem? (i := 149) rfl) rfl
theorem wm_X9_70 : Cond.methodLink "RhymedThen$Tongue" 70 yX0_tailOf ∈ uw_U := uw_3 (List.mem_of_getElem? (i := 150) rfl) rfl
theorem wt_X0_tailOf : Cond.static yX0_tailOf ∈ uw_U := uw_3 (List.mem_of_getElem? (i := 151) rfl) rfl
theorem wo_X0_tailOf : Cond.code yX0_tailOf cX0_tailOf 5 (some FieldType.long) ∈ uw_U := uw_3 (List.mem_of_getElem? (i := 152) rfl) rfl
theorem wm_X0_7 : Cond.methodLink "RhymedThen$Form" 7 yX0_lengthOf ∈ uw_U := uw_3 (List.mem_of_getElem? (i := 153) rfl) rfl
theorem wm_X0_13 : Cond.methodLink "RhymedThen$Form" 13 yX0_soundAt ∈ uw_U := uw_3 (List.mem_of_getElem? (i := 154) rfl) rfl
theorem wk_X0_17 : Cond.constantLong "RhymedThen$Form" 17 (4294967295 : Int64) ∈ uw_U := uw_3 (List.mem_of_getElem? (i := 155) rfl) rfl
theorem wm_X0_19 : Cond.methodLink "RhymedThen$Form" 19 yX0_of ∈ uw_U := uw_3 (List.mem_of_getElem? (i := 156) rfl) rfl
theorem wm_L_66 : Cond.methodLink "RhymedThenLaw" 66 yX11_one ∈ uw_U := uw_3 (List.mem_of_getElem? (i := 157) rfl) rfl
theorem wi_X11_one : Cond.instanceMethod yX11_one ∈ uw_U := uw_3 (List.mem_of_getElem? (i := 158) rfl) rfl
theorem ws_X11_one : Cond.selects "RhymedThen" yX11_one yX11_one ∈ uw_U := uw_3 (List.mem_of_getElem? (i := 159) rfl) rfl
theorem wo_X11_one : Cond.code yX11_one cX11_one 11 (some FieldType.int) ∈ uw_U := uw_3 (List.mem_of_getElem? (i := 160) rfl) rfl
theorem wm_X11_228 : Cond.methodLink "RhymedThen" 228 yX11_tellSpan ∈ uw_U := uw_3 (List.mem_of_getElem? (i := 161) rfl) rfl
theorem wi_X11_tellSpan : Cond.instanceMethod yX11_tellSpan ∈ uw_U := uw_3 (List.mem_of_getElem? (i := 163) rfl) rfl
theorem wo_X11_tellSpan : Cond.code yX11_tellSpan cX11_tellSpan 3 none ∈ uw_U := uw_3 (List.mem_of_getElem? (i := 164) rfl) rfl
theorem wm_L_70 : Cond.methodLink "RhymedThenLaw" 70 yX11_rhymes ∈ uw_U := uw_3 (List.mem_of_getElem? (i := 165) rfl) rfl
theorem wi_X11_rhymes : Cond.instanceMethod yX11_rhymes ∈ uw_U := uw_3 (List.mem_of_getElem? (i := 166) rfl) rfl
theorem ws_X11_rhymes : Cond.selects "RhymedThen" yX11_rhymes yX11_rhymes ∈ uw_U := uw_3 (List.mem_of_getElem? (i := 167) rfl) rfl
theorem wo_X11_rhymes : Cond.code yX11_rhymes cX11_rhymes 7 (some FieldType.int) ∈ uw_U := uw_3 (List.mem_of_getElem? (i := 168) rfl) rfl
theorem wm_L_74 : Cond.methodLink "RhymedThenLaw" 74 yX11_chance ∈ uw_U := uw_3 (List.mem_of_getElem? (i := 169) rfl) rfl
theorem wi_X11_chance : Cond.instanceMethod yX11_chance ∈ uw_U := uw_3 (List.mem_of_getElem? (i := 170) rfl) rfl
theorem ws_X11_chance : Cond.selects "RhymedThen" yX11_chance yX11_chance ∈ uw_U := uw_3 (List.mem_of_getElem? (i := 171) rfl) rfl
theorem wo_X11_chance : Cond.code yX11_chance cX11_chance 9 (some FieldType.int) ∈ uw_U := uw_3 (List.mem_of_getElem? (i := 172) rfl) rfl
theorem wm_X11_231 : Cond.methodLink "RhymedThen" 231 yX4_addFraction ∈ uw_U := uw_3 (List.mem_of_getElem? (i := 173) rfl) rfl
theorem wi_X4_addFraction : Cond.instanceMethod yX4_addFraction ∈ uw_U := uw_3 (List.mem_of_getElem? (i := 174) rfl) rfl
theorem ws_X4_addFraction : Cond.selects "RhymedThen$Row" yX4_addFraction yX4_addFraction ∈ uw_U := uw_3 (List.mem_of_getElem? (i := 175) rfl) rfl
theorem wo_X4_addFraction : Cond.code yX4_addFraction cX4_addFraction 7 none ∈ uw_U := uw_3 (List.mem_of_getElem? (i := 176) rfl) rfl
theorem wm_X4_17 : Cond.methodLink "RhymedThen$Row" 17 yX4_sharedDivisor ∈ uw_U := uw_3 (List.mem_of_getElem? (i := 177) rfl) rfl
theorem wt_X4_sharedDivisor : Cond.static yX4_sharedDivisor ∈ uw_U := uw_3 (List.mem_of_getElem? (i := 178) rfl) rfl
theorem wo_X4_sharedDivisor : Cond.code yX4_sharedDivisor cX4_sharedDivisor 11 (some FieldType.long) ∈ uw_U := uw_3 (List.mem_of_getElem? (i := 179) rfl) rfl
theorem wm_X4_21 : Cond.methodLink "RhymedThen$Row" 21 yX4_add ∈ uw_U := uw_3 (List.mem_of_getElem? (i := 180) rfl) rfl
theorem wm_L_78 : Cond.methodLink "RhymedThenLaw" 78 yX11_works ∈ uw_U := uw_3 (List.mem_of_getElem? (i := 181) rfl) rfl
theorem wi_X11_works : Cond.instanceMethod yX11_works ∈ uw_U := uw_3 (List.mem_of_getElem? (i := 182) rfl) rfl
theorem ws_X11_works : Cond.selects "RhymedThen" yX11_works yX11_works ∈ uw_U := uw_3 (List.mem_of_getElem? (i := 183) rfl) rfl
theorem wo_X11_works : Cond.code yX11_works cX11_works 6 (some FieldType.int) ∈ uw_U := uw_3 (List.mem_of_getElem? (i := 184) rfl) rfl
theorem wm_X11_235 : Cond.methodLink "RhymedThen" 235 yX11_isLaw ∈ uw_U := uw_3 (List.mem_of_getElem? (i := 185) rfl) rfl
theorem wi_X11_isLaw : Cond.instanceMethod yX11_isLaw ∈ uw_U := uw_3 (List.mem_of_getElem? (i := 187) rfl) rfl
theorem wo_X11_isLaw : Cond.code yX11_isLaw cX11_isLaw 2 (some FieldType.boolean) ∈ uw_U := uw_3 (List.mem_of_getElem? (i := 188) rfl) rfl
theorem wm_X11_238 : Cond.methodLink "RhymedThen" 238 yX3_hasCome ∈ uw_U := uw_3 (List.mem_of_getElem? (i := 189) rfl) rfl
theorem wi_X3_hasCome : Cond.instanceMethod yX3_hasCome ∈ uw_U := uw_3 (List.mem_of_getElem? (i := 190) rfl) rfl
theorem ws_X3_hasCome : Cond.selects "RhymedThen$Past" yX3_hasCome yX3_hasCome ∈ uw_U := uw_3 (List.mem_of_getElem? (i := 191) rfl) rfl
theorem wo_X3_hasCome : Cond.code yX3_hasCome cX3_hasCome 5 (some FieldType.boolean) ∈ uw_U := uw_3 (List.mem_of_getElem? (i := 192) rfl) rfl
theorem wm_X3_51 : Cond.methodLink "RhymedThen$Past" 51 yX3_yearOf ∈ uw_U := uw_3 (List.mem_of_getElem? (i := 193) rfl) rfl
theorem wi_X3_yearOf : Cond.instanceMethod yX3_yearOf ∈ uw_U := uw_3 (List.mem_of_getElem? (i := 194) rfl) rfl
theorem ws_X3_yearOf : Cond.selects "RhymedThen$Past" yX3_yearOf yX3_yearOf ∈ uw_U := uw_3 (List.mem_of_getElem? (i := 195) rfl) rfl
theorem wo_X3_yearOf : Cond.code yX3_yearOf cX3_yearOf 3 (some FieldType.int) ∈ uw_U := uw_3 (List.mem_of_getElem? (i := 196) rfl) rfl
theorem wm_X3_48 : Cond.methodLink "RhymedThen$Past" 48 yX3_turnOf ∈ uw_U := uw_3 (List.mem_of_getElem? (i := 197) rfl) rfl
theorem wi_X3_turnOf : Cond.instanceMethod yX3_turnOf ∈ uw_U := uw_3 (List.mem_of_getElem? (i := 198) rfl) rfl
theorem ws_X3_turnOf : Cond.selects "RhymedThen$Past" yX3_turnOf yX3_turnOf ∈ uw_U := uw_3 (List.mem_of_getElem? (i := 199) rfl) rfl
theorem wo_X3_turnOf : Cond.code yX3_turnOf cX3_turnOf 4 (some FieldType.int) ∈ uw_U := uw_3 (List.mem_of_getElem? (i := 200) rfl) rfl
theorem wm_X11_242 : Cond.methodLink "RhymedThen" 242 yX3_courseUpTo ∈ uw_U := uw_3 (List.mem_of_getElem? (i := 201) rfl) rfl
theorem wi_X3_courseUpTo : Cond.instanceMethod yX3_courseUpTo ∈ uw_U := uw_3 (List.mem_of_getElem? (i := 202) rfl) rfl
theorem ws_X3_courseUpTo : Cond.selects "RhymedThen$Past" yX3_courseUpTo yX3_courseUpTo ∈ uw_U := uw_3 (List.mem_of_getElem? (i := 203) rfl) rfl
theorem wo_X3_courseUpTo : Cond.code yX3_courseUpTo cX3_courseUpTo 5 (some FieldType.int) ∈ uw_U := uw_3 (List.mem_of_getElem? (i := 204) rfl) rfl
theorem wm_X11_245 : Cond.methodLink "RhymedThen" 245 yX9_courseAfter ∈ uw_U := uw_3 (List.mem_of_getElem? (i := 205) rfl) rfl
theorem wm_X11_248 : Cond.methodLink "RhymedThen" 248 yX9_differing ∈ uw_U := uw_3 (List.mem_of_getElem? (i := 206) rfl) rfl
theorem wi_X9_differing : Cond.instanceMethod yX9_differing ∈ uw_U := uw_3 (List.mem_of_getElem? (i := 207) rfl) rfl
theorem ws_X9_differing : Cond.selects "RhymedThen$Tongue" yX9_differing yX9_differing ∈ uw_U := uw_3 (List.mem_of_getElem? (i := 208) rfl) rfl
theorem wo_X9_differing : Cond.code yX9_differing cX9_differing 5 (some FieldType.int) ∈ uw_U := uw_3 (List.mem_of_getElem? (i := 209) rfl) rfl
theorem wm_L_82 : Cond.methodLink "RhymedThenLaw" 82 yX11_mark ∈ uw_U := uw_3 (List.mem_of_getElem? (i := 210) rfl) rfl
theorem wi_X11_mark : Cond.instanceMethod yX11_mark ∈ uw_U := uw_3 (List.mem_of_getElem? (i := 211) rfl) rfl
theorem ws_X11_mark : Cond.selects "RhymedThen" yX11_mark yX11_mark ∈ uw_U := uw_3 (List.mem_of_getElem? (i := 212) rfl) rfl
theorem wo_X11_mark : Cond.code yX11_mark cX11_mark 8 (some FieldType.int) ∈ uw_U := uw_3 (List.mem_of_getElem? (i := 213) rfl) rfl
theorem wm_X11_254 : Cond.methodLink "RhymedThen" 254 yX11_mayBeSign ∈ uw_U := uw_3 (List.mem_of_getElem? (i := 214) rfl) rfl
theorem wi_X11_mayBeSign : Cond.instanceMethod yX11_mayBeSign ∈ uw_U := uw_3 (List.mem_of_getElem? (i := 216) rfl) rfl
theorem wo_X11_mayBeSign : Cond.code yX11_mayBeSign cX11_mayBeSign 5 (some FieldType.boolean) ∈ uw_U := uw_3 (List.mem_of_getElem? (i := 217) rfl) rfl
theorem wm_X11_264 : Cond.methodLink "RhymedThen" 264 yX5_tell ∈ uw_U := uw_3 (List.mem_of_getElem? (i := 218) rfl) rfl
theorem wi_X5_tell : Cond.instanceMethod yX5_tell ∈ uw_U := uw_3 (List.mem_of_getElem? (i := 219) rfl) rfl
theorem ws_X5_tell : Cond.selects "RhymedThen$Sign" yX5_tell yX5_tell ∈ uw_U := uw_3 (List.mem_of_getElem? (i := 220) rfl) rfl
theorem wo_X5_tell : Cond.code yX5_tell cX5_tell 5 none ∈ uw_U := uw_3 (List.mem_of_getElem? (i := 221) rfl) rfl
theorem wm_X11_268 : Cond.methodLink "RhymedThen" 268 yX5_put ∈ uw_U := uw_3 (List.mem_of_getElem? (i := 222) rfl) rfl
theorem wi_X5_put : Cond.instanceMethod yX5_put ∈ uw_U := uw_3 (List.mem_of_getElem? (i := 223) rfl) rfl
theorem ws_X5_put : Cond.selects "RhymedThen$Sign" yX5_put yX5_put ∈ uw_U := uw_3 (List.mem_of_getElem? (i := 224) rfl) rfl
theorem wo_X5_put : Cond.code yX5_put cX5_put 3 none ∈ uw_U := uw_3 (List.mem_of_getElem? (i := 225) rfl) rfl
theorem wm_X11_271 : Cond.methodLink "RhymedThen" 271 yX6_addTold ∈ uw_U := uw_3 (List.mem_of_getElem? (i := 226) rfl) rfl
theorem wi_X6_addTold : Cond.instanceMethod yX6_addTold ∈ uw_U := uw_3 (List.mem_of_getElem? (i := 227) rfl) rfl
theorem ws_X6_addTold : Cond.selects "RhymedThen$Signs" yX6_addTold yX6_addTold ∈ uw_U := uw_3 (List.mem_of_getElem? (i := 228) rfl) rfl
theorem wo_X6_addTold : Cond.code yX6_addTold cX6_addTold 2 (some FieldType.int) ∈ uw_U := uw_3 (List.mem_of_getElem? (i := 229) rfl) rfl
theorem wm_L_87 : Cond.methodLink "RhymedThenLaw" 87 yX11_by ∈ uw_U := uw_3 (List.mem_of_getElem? (i := 230) rfl) rfl
theorem wi_X11_by : Cond.instanceMethod yX11_by ∈ uw_U := uw_3 (List.mem_of_getElem? (i := 231) rfl) rfl
theorem ws_X11_by : Cond.selects "RhymedThen" yX11_by yX11_by ∈ uw_U := uw_3 (List.mem_of_getElem? (i := 232) rfl) rfl
theorem wo_X11_by : Cond.code yX11_by cX11_by 4 (some FieldType.boolean) ∈ uw_U := uw_3 (List.mem_of_getElem? (i := 233) rfl) rfl
theorem wm_X11_274 : Cond.methodLink "RhymedThen" 274 yX11_isSign ∈ uw_U := uw_3 (List.mem_of_getElem? (i := 234) rfl) rfl
theorem wi_X11_isSign : Cond.instanceMethod yX11_isSign ∈ uw_U := uw_3 (List.mem_of_getElem? (i := 236) rfl) rfl
theorem wo_X11_isSign : Cond.code yX11_isSign cX11_isSign 2 (some FieldType.boolean) ∈ uw_U := uw_3 (List.mem_of_getElem? (i := 237) rfl) rfl
theorem wm_L_92 : Cond.methodLink "RhymedThenLaw" 92 yX11_turn ∈ uw_U := uw_3 (List.mem_of_getElem? (i := 238) rfl) rfl
theorem wi_X11_turn : Cond.instanceMethod yX11_turn ∈ uw_U := uw_3 (List.mem_of_getElem? (i := 239) rfl) rfl
theorem ws_X11_turn : Cond.selects "RhymedThen" yX11_turn yX11_turn ∈ uw_U := uw_4 (List.mem_of_getElem? (i := 0) rfl) rfl
theorem wo_X11_turn : Cond.code yX11_turn cX11_turn 3 (some FieldType.boolean) ∈ uw_U := uw_4 (List.mem_of_getElem? (i := 1) rfl) rfl
theorem wm_L_97 : Cond.methodLink "RhymedThenLaw" 97 yX11_holds ∈ uw_U := uw_4 (List.mem_of_getElem? (i := 2) rfl) rfl
theorem wi_X11_holds : Cond.instanceMethod yX11_holds ∈ uw_U := uw_4 (List.mem_of_getElem? (i := 3) rfl) rfl
theorem ws_X11_holds : Cond.selects "RhymedThen" yX11_holds yX11_holds ∈ uw_U := uw_4 (List.mem_of_getElem? (i := 4) rfl) rfl
theorem wo_X11_holds : Cond.code yX11_holds cX11_holds 3 (some FieldType.int) ∈ uw_U := uw_4 (List.mem_of_getElem? (i := 5) rfl) rfl
theorem wm_X11_286 : Cond.methodLink "RhymedThen" 286 yX6_lookAnew ∈ uw_U := uw_4 (List.mem_of_getElem? (i := 6) rfl) rfl
theorem wi_X6_lookAnew : Cond.instanceMethod yX6_lookAnew ∈ uw_U := uw_4 (List.mem_of_getElem? (i := 7) rfl) rfl
theorem ws_X6_lookAnew : Cond.selects "RhymedThen$Signs" yX6_lookAnew yX6_lookAnew ∈ uw_U := uw_4 (List.mem_of_getElem? (i := 8) rfl) rfl
theorem wo_X6_lookAnew : Cond.code yX6_lookAnew cX6_lookAnew 2 none ∈ uw_U := uw_4 (List.mem_of_getElem? (i := 9) rfl) rfl
theorem wm_X6_47 : Cond.methodLink "RhymedThen$Signs" 47 yX6_lookAt ∈ uw_U := uw_4 (List.mem_of_getElem? (i := 10) rfl) rfl
theorem wi_X6_lookAt : Cond.instanceMethod yX6_lookAt ∈ uw_U := uw_4 (List.mem_of_getElem? (i := 12) rfl) rfl
theorem wo_X6_lookAt : Cond.code yX6_lookAt cX6_lookAt 6 none ∈ uw_U := uw_4 (List.mem_of_getElem? (i := 13) rfl) rfl
theorem wm_X6_62 : Cond.methodLink "RhymedThen$Signs" 62 yX3_courseAmong ∈ uw_U := uw_4 (List.mem_of_getElem? (i := 14) rfl) rfl
theorem wm_X6_66 : Cond.methodLink "RhymedThen$Signs" 66 yX5_isSoOn ∈ uw_U := uw_4 (List.mem_of_getElem? (i := 15) rfl) rfl
theorem wi_X5_isSoOn : Cond.instanceMethod yX5_isSoOn ∈ uw_U := uw_4 (List.mem_of_getElem? (i := 16) rfl) rfl
theorem ws_X5_isSoOn : Cond.selects "RhymedThen$Sign" yX5_isSoOn yX5_isSoOn ∈ uw_U := uw_4 (List.mem_of_getElem? (i := 17) rfl) rfl
theorem wo_X5_isSoOn : Cond.code yX5_isSoOn cX5_isSoOn 3 (some FieldType.boolean) ∈ uw_U := uw_4 (List.mem_of_getElem? (i := 18) rfl) rfl
theorem wm_X5_34 : Cond.methodLink "RhymedThen$Sign" 34 yX9_formOn ∈ uw_U := uw_4 (List.mem_of_getElem? (i := 19) rfl) rfl
theorem wm_X5_40 : Cond.methodLink "RhymedThen$Sign" 40 yX9_vowels ∈ uw_U := uw_4 (List.mem_of_getElem? (i := 20) rfl) rfl
theorem wm_X5_44 : Cond.methodLink "RhymedThen$Sign" 44 yX5_isSoOf ∈ uw_U := uw_4 (List.mem_of_getElem? (i := 21) rfl) rfl
theorem wi_X5_isSoOf : Cond.instanceMethod yX5_isSoOf ∈ uw_U := uw_4 (List.mem_of_getElem? (i := 22) rfl) rfl
theorem ws_X5_isSoOf : Cond.selects "RhymedThen$Sign" yX5_isSoOf yX5_isSoOf ∈ uw_U := uw_4 (List.mem_of_getElem? (i := 23) rfl) rfl
theorem wo_X5_isSoOf : Cond.code yX5_isSoOf cX5_isSoOf 6 (some FieldType.boolean) ∈ uw_U := uw_4 (List.mem_of_getElem? (i := 24) rfl) rfl
theorem wm_X5_48 : Cond.methodLink "RhymedThen$Sign" 48 yX0_beatsOf ∈ uw_U := uw_4 (List.mem_of_getElem? (i := 25) rfl) rfl
theorem wt_X0_beatsOf : Cond.static yX0_beatsOf ∈ uw_U := uw_4 (List.mem_of_getElem? (i := 26) rfl) rfl
theorem wo_X0_beatsOf : Cond.code yX0_beatsOf cX0_beatsOf 6 (some FieldType.int) ∈ uw_U := uw_4 (List.mem_of_getElem? (i := 27) rfl) rfl
theorem wm_X5_54 : Cond.methodLink "RhymedThen$Sign" 54 yX5_isBooked ∈ uw_U := uw_4 (List.mem_of_getElem? (i := 28) rfl) rfl
theorem wi_X5_isBooked : Cond.instanceMethod yX5_isBooked ∈ uw_U := uw_4 (List.mem_of_getElem? (i := 30) rfl) rfl
theorem wo_X5_isBooked : Cond.code yX5_isBooked cX5_isBooked 4 (some FieldType.boolean) ∈ uw_U := uw_4 (List.mem_of_getElem? (i := 31) rfl) rfl
theorem wm_X5_66 : Cond.methodLink "RhymedThen$Sign" 66 yX0_lengthOf ∈ uw_U := uw_4 (List.mem_of_getElem? (i := 32) rfl) rfl
theorem wm_X5_70 : Cond.methodLink "RhymedThen$Sign" 70 yX0_soundAt ∈ uw_U := uw_4 (List.mem_of_getElem? (i := 33) rfl) rfl
theorem wm_X5_58 : Cond.methodLink "RhymedThen$Sign" 58 yX0_tailOf ∈ uw_U := uw_4 (List.mem_of_getElem? (i := 34) rfl) rfl
theorem wm_X5_62 : Cond.methodLink "RhymedThen$Sign" 62 yX5_areTailsSo ∈ uw_U := uw_4 (List.mem_of_getElem? (i := 35) rfl) rfl
theorem wi_X5_areTailsSo : Cond.instanceMethod yX5_areTailsSo ∈ uw_U := uw_4 (List.mem_of_getElem? (i := 37) rfl) rfl
theorem wo_X5_areTailsSo : Cond.code yX5_areTailsSo cX5_areTailsSo 6 (some FieldType.boolean) ∈ uw_U := uw_4 (List.mem_of_getElem? (i := 38) rfl) rfl
theorem wm_X11_289 : Cond.methodLink "RhymedThen" 289 yX6_heldBy ∈ uw_U := uw_4 (List.mem_of_getElem? (i := 39) rfl) rfl
theorem wi_X6_heldBy : Cond.instanceMethod yX6_heldBy ∈ uw_U := uw_4 (List.mem_of_getElem? (i := 40) rfl) rfl
theorem ws_X6_heldBy : Cond.selects "RhymedThen$Signs" yX6_heldBy yX6_heldBy ∈ uw_U := uw_4 (List.mem_of_getElem? (i := 41) rfl) rfl
theorem wo_X6_heldBy : Cond.code yX6_heldBy cX6_heldBy 2 (some FieldType.int) ∈ uw_U := uw_4 (List.mem_of_getElem? (i := 42) rfl) rfl
theorem wm_L_101 : Cond.methodLink "RhymedThenLaw" 101 yX11_fits ∈ uw_U := uw_4 (List.mem_of_getElem? (i := 43) rfl) rfl
theorem wi_X11_fits : Cond.instanceMethod yX11_fits ∈ uw_U := uw_4 (List.mem_of_getElem? (i := 44) rfl) rfl
theorem ws_X11_fits : Cond.selects "RhymedThen" yX11_fits yX11_fits ∈ uw_U := uw_4 (List.mem_of_getElem? (i := 45) rfl) rfl
theorem wo_X11_fits : Cond.code yX11_fits cX11_fits 3 (some FieldType.int) ∈ uw_U := uw_4 (List.mem_of_getElem? (i := 46) rfl) rfl
theorem wm_X11_293 : Cond.methodLink "RhymedThen" 293 yX6_fitsTo ∈ uw_U := uw_4 (List.mem_of_getElem? (i := 47) rfl) rfl
theorem wi_X6_fitsTo : Cond.instanceMethod yX6_fitsTo ∈ uw_U := uw_4 (List.mem_of_getElem? (i := 48) rfl) rfl
theorem ws_X6_fitsTo : Cond.selects "RhymedThen$Signs" yX6_fitsTo yX6_fitsTo ∈ uw_U := uw_4 (List.mem_of_getElem? (i := 49) rfl) rfl
theorem wo_X6_fitsTo : Cond.code yX6_fitsTo cX6_fitsTo 2 (some FieldType.boolean) ∈ uw_U := uw_4 (List.mem_of_getElem? (i := 50) rfl) rfl
theorem wm_L_105 : Cond.methodLink "RhymedThenLaw" 105 yX11_span ∈ uw_U := uw_4 (List.mem_of_getElem? (i := 51) rfl) rfl
theorem wi_X11_span : Cond.instanceMethod yX11_span ∈ uw_U := uw_4 (List.mem_of_getElem? (i := 52) rfl) rfl
theorem ws_X11_span : Cond.selects "RhymedThen" yX11_span yX11_span ∈ uw_U := uw_4 (List.mem_of_getElem? (i := 53) rfl) rfl
theorem wo_X11_span : Cond.code yX11_span cX11_span 5 (some FieldType.int) ∈ uw_U := uw_4 (List.mem_of_getElem? (i := 54) rfl) rfl
theorem wm_X11_296 : Cond.methodLink "RhymedThen" 296 yX3_yearOf ∈ uw_U := uw_4 (List.mem_of_getElem? (i := 55) rfl) rfl
theorem wm_X11_299 : Cond.methodLink "RhymedThen" 299 yX11_further ∈ uw_U := uw_4 (List.mem_of_getElem? (i := 56) rfl) rfl
theorem wt_X11_further : Cond.static yX11_further ∈ uw_U := uw_4 (List.mem_of_getElem? (i := 57) rfl) rfl
theorem wo_X11_further : Cond.code yX11_further cX11_further 3 (some FieldType.int) ∈ uw_U := uw_4 (List.mem_of_getElem? (i := 58) rfl) rfl
theorem wm_L_109 : Cond.methodLink "RhymedThenLaw" 109 yX11_order ∈ uw_U := uw_4 (List.mem_of_getElem? (i := 59) rfl) rfl
theorem wi_X11_order : Cond.instanceMethod yX11_order ∈ uw_U := uw_4 (List.mem_of_getElem? (i := 60) rfl) rfl
theorem ws_X11_order : Cond.selects "RhymedThen" yX11_order yX11_order ∈ uw_U := uw_4 (List.mem_of_getElem? (i := 61) rfl) rfl
theorem wo_X11_order : Cond.code yX11_order cX11_order 6 (some FieldType.int) ∈ uw_U := uw_4 (List.mem_of_getElem? (i := 62) rfl) rfl
theorem wm_X11_302 : Cond.methodLink "RhymedThen" 302 yX3_turnOf ∈ uw_U := uw_4 (List.mem_of_getElem? (i := 63) rfl) rfl
theorem wm_L_113 : Cond.methodLink "RhymedThenLaw" 113 yX11_wrong ∈ uw_U := uw_4 (List.mem_of_getElem? (i := 64) rfl) rfl
theorem wi_X11_wrong : Cond.instanceMethod yX11_wrong ∈ uw_U := uw_4 (List.mem_of_getElem? (i := 65) rfl) rfl
theorem ws_X11_wrong : Cond.selects "RhymedThen" yX11_wrong yX11_wrong ∈ uw_U := uw_4 (List.mem_of_getElem? (i := 66) rfl) rfl
theorem wo_X11_wrong : Cond.code yX11_wrong cX11_wrong 3 (some FieldType.int) ∈ uw_U := uw_4 (List.mem_of_getElem? (i := 67) rfl) rfl
theorem wm_X11_305 : Cond.methodLink "RhymedThen" 305 yX6_failingBy ∈ uw_U := uw_4 (List.mem_of_getElem? (i := 68) rfl) rfl
theorem wi_X6_failingBy : Cond.instanceMethod yX6_failingBy ∈ uw_U := uw_4 (List.mem_of_getElem? (i := 69) rfl) rfl
theorem ws_X6_failingBy : Cond.selects "RhymedThen$Signs" yX6_failingBy yX6_failingBy ∈ uw_U := uw_4 (List.mem_of_getElem? (i := 70) rfl) rfl
theorem wo_X6_failingBy : Cond.code yX6_failingBy cX6_failingBy 2 (some FieldType.int) ∈ uw_U := uw_4 (List.mem_of_getElem? (i := 71) rfl) rfl
theorem wm_X11_308 : Cond.methodLink "RhymedThen" 308 yJ6_bitCount_0f7a4 ∈ uw_U := uw_4 (List.mem_of_getElem? (i := 72) rfl) rfl
theorem wt_J6_bitCount_0f7a4 : Cond.static yJ6_bitCount_0f7a4 ∈ uw_U := uw_4 (List.mem_of_getElem? (i := 73) rfl) rfl
theorem wo_J6_bitCount_0f7a4 : Cond.code yJ6_bitCount_0f7a4 cJ6_bitCount_0f7a4 1 (some FieldType.int) ∈ uw_U := uw_4 (List.mem_of_getElem? (i := 74) rfl) rfl
theorem wk_J6_265 : Cond.constant "java/lang/Integer" 265 (1431655765 : Int32) ∈ uw_U := uw_4 (List.mem_of_getElem? (i := 75) rfl) rfl
theorem wk_J6_266 : Cond.constant "java/lang/Integer" 266 (858993459 : Int32) ∈ uw_U := uw_4 (List.mem_of_getElem? (i := 76) rfl) rfl
theorem wk_J6_267 : Cond.constant "java/lang/Integer" 267 (252645135 : Int32) ∈ uw_U := uw_4 (List.mem_of_getElem? (i := 77) rfl) rfl
theorem wm_L_117 : Cond.methodLink "RhymedThenLaw" 117 yX11_blunder ∈ uw_U := uw_4 (List.mem_of_getElem? (i := 78) rfl) rfl
theorem wi_X11_blunder : Cond.instanceMethod yX11_blunder ∈ uw_U := uw_4 (List.mem_of_getElem? (i := 79) rfl) rfl
theorem ws_X11_blunder : Cond.selects "RhymedThen" yX11_blunder yX11_blunder ∈ uw_U := uw_4 (List.mem_of_getElem? (i := 80) rfl) rfl
theorem wo_X11_blunder : Cond.code yX11_blunder cX11_blunder 4 (some FieldType.int) ∈ uw_U := uw_4 (List.mem_of_getElem? (i := 81) rfl) rfl
theorem wm_L_121 : Cond.methodLink "RhymedThenLaw" 121 yX11_sure ∈ uw_U := uw_4 (List.mem_of_getElem? (i := 82) rfl) rfl
theorem wi_X11_sure : Cond.instanceMethod yX11_sure ∈ uw_U := uw_4 (List.mem_of_getElem? (i := 83) rfl) rfl
theorem ws_X11_sure : Cond.selects "RhymedThen" yX11_sure yX11_sure ∈ uw_U := uw_4 (List.mem_of_getElem? (i := 84) rfl) rfl
theorem wo_X11_sure : Cond.code yX11_sure cX11_sure 5 (some FieldType.int) ∈ uw_U := uw_4 (List.mem_of_getElem? (i := 85) rfl) rfl
theorem wm_X11_313 : Cond.methodLink "RhymedThen" 313 yX10_clear ∈ uw_U := uw_4 (List.mem_of_getElem? (i := 86) rfl) rfl
theorem wi_X10_clear : Cond.instanceMethod yX10_clear ∈ uw_U := uw_4 (List.mem_of_getElem? (i := 87) rfl) rfl
theorem ws_X10_clear : Cond.selects "RhymedThen$Ways" yX10_clear yX10_clear ∈ uw_U := uw_4 (List.mem_of_getElem? (i := 88) rfl) rfl
theorem wo_X10_clear : Cond.code yX10_clear cX10_clear 1 none ∈ uw_U := uw_4 (List.mem_of_getElem? (i := 89) rfl) rfl
theorem wm_X11_314 : Cond.methodLink "RhymedThen" 314 yX10_add ∈ uw_U := uw_4 (List.mem_of_getElem? (i := 90) rfl) rfl
theorem wi_X10_add : Cond.instanceMethod yX10_add ∈ uw_U := uw_4 (List.mem_of_getElem? (i := 91) rfl) rfl
theorem ws_X10_add : Cond.selects "RhymedThen$Ways" yX10_add yX10_add ∈ uw_U := uw_4 (List.mem_of_getElem? (i := 92) rfl) rfl
theorem wo_X10_add : Cond.code yX10_add cX10_add 6 none ∈ uw_U := uw_4 (List.mem_of_getElem? (i := 93) rfl) rfl
theorem wm_X11_317 : Cond.methodLink "RhymedThen" 317 yX10_shortest ∈ uw_U := uw_4 (List.mem_of_getElem? (i := 94) rfl) rfl
theorem wi_X10_shortest : Cond.instanceMethod yX10_shortest ∈ uw_U := uw_4 (List.mem_of_getElem? (i := 95) rfl) rfl
theorem ws_X10_shortest : Cond.selects "RhymedThen$Ways" yX10_shortest yX10_shortest ∈ uw_U := uw_4 (List.mem_of_getElem? (i := 96) rfl) rfl
theorem wo_X10_shortest : Cond.code yX10_shortest cX10_shortest 3 (some FieldType.int) ∈ uw_U := uw_4 (List.mem_of_getElem? (i := 97) rfl) rfl
theorem wm_X10_22 : Cond.methodLink "RhymedThen$Ways" 22 yX0_lengthOf ∈ uw_U := uw_4 (List.mem_of_getElem? (i := 98) rfl) rfl
theorem wm_X10_28 : Cond.methodLink "RhymedThen$Ways" 28 yJ9_min_7cf53 ∈ uw_U := uw_4 (List.mem_of_getElem? (i := 99) rfl) rfl
theorem wm_X11_320 : Cond.methodLink "RhymedThen" 320 yX10_longest ∈ uw_U := uw_4 (List.mem_of_getElem? (i := 100) rfl) rfl
theorem wi_X10_longest : Cond.instanceMethod yX10_longest ∈ uw_U := uw_4 (List.mem_of_getElem? (i := 101) rfl) rfl
theorem ws_X10_longest : Cond.selects "RhymedThen$Ways" yX10_longest yX10_longest ∈ uw_U := uw_4 (List.mem_of_getElem? (i := 102) rfl) rfl
theorem wo_X10_longest : Cond.code yX10_longest cX10_longest 3 (some FieldType.int) ∈ uw_U := uw_4 (List.mem_of_getElem? (i := 103) rfl) rfl
theorem wm_X10_34 : Cond.methodLink "RhymedThen$Ways" 34 yJ9_max_7cf53 ∈ uw_U := uw_4 (List.mem_of_getElem? (i := 104) rfl) rfl
theorem wm_L_125 : Cond.methodLink "RhymedThenLaw" 125 yX11_shows ∈ uw_U := uw_4 (List.mem_of_getElem? (i := 105) rfl) rfl
theorem wi_X11_shows : Cond.instanceMethod yX11_shows ∈ uw_U := uw_4 (List.mem_of_getElem? (i := 106) rfl) rfl
theorem ws_X11_shows : Cond.selects "RhymedThen" yX11_shows yX11_shows ∈ uw_U := uw_4 (List.mem_of_getElem? (i := 107) rfl) rfl
theorem wo_X11_shows : Cond.code yX11_shows cX11_shows 8 (some FieldType.int) ∈ uw_U := uw_4 (List.mem_of_getElem? (i := 108) rfl) rfl
theorem wm_X11_323 : Cond.methodLink "RhymedThen" 323 yX6_allAreSoAmong ∈ uw_U := uw_4 (List.mem_of_getElem? (i := 109) rfl) rfl
theorem wi_X6_allAreSoAmong : Cond.instanceMethod yX6_allAreSoAmong ∈ uw_U := uw_4 (List.mem_of_getElem? (i := 110) rfl) rfl
theorem ws_X6_allAreSoAmong : Cond.selects "RhymedThen$Signs" yX6_allAreSoAmong yX6_allAreSoAmong ∈ uw_U := uw_4 (List.mem_of_getElem? (i := 111) rfl) rfl
theorem wo_X6_allAreSoAmong : Cond.code yX6_allAreSoAmong cX6_allAreSoAmong 6 (some FieldType.boolean) ∈ uw_U := uw_4 (List.mem_of_getElem? (i := 112) rfl) rfl
theorem wm_L_129 : Cond.methodLink "RhymedThenLaw" 129 yX11_least ∈ uw_U := uw_4 (List.mem_of_getElem? (i := 113) rfl) rfl
theorem wi_X11_least : Cond.instanceMethod yX11_least ∈ uw_U := uw_4 (List.mem_of_getElem? (i := 114) rfl) rfl
theorem ws_X11_least : Cond.selects "RhymedThen" yX11_least yX11_least ∈ uw_U := uw_4 (List.mem_of_getElem? (i := 115) rfl) rfl
theorem wo_X11_least : Cond.code yX11_least cX11_least 5 (some FieldType.int) ∈ uw_U := uw_4 (List.mem_of_getElem? (i := 116) rfl) rfl
theorem wm_X11_326 : Cond.methodLink "RhymedThen" 326 yX11_firstFittingAmong ∈ uw_U := uw_4 (List.mem_of_getElem? (i := 117) rfl) rfl
theorem wi_X11_firstFittingAmong : Cond.instanceMethod yX11_firstFittingAmong ∈ uw_U := uw_4 (List.mem_of_getElem? (i := 119) rfl) rfl
theorem wo_X11_firstFittingAmong : Cond.code yX11_firstFittingAmong cX11_firstFittingAmong 3 (some FieldType.int) ∈ uw_U := uw_4 (List.mem_of_getElem? (i := 120) rfl) rfl
theorem wm_X11_329 : Cond.methodLink "RhymedThen" 329 yX3_isFirstBut ∈ uw_U := uw_4 (List.mem_of_getElem? (i := 121) rfl) rfl
theorem wi_X3_isFirstBut : Cond.instanceMethod yX3_isFirstBut ∈ uw_U := uw_4 (List.mem_of_getElem? (i := 122) rfl) rfl
theorem ws_X3_isFirstBut : Cond.selects "RhymedThen$Past" yX3_isFirstBut yX3_isFirstBut ∈ uw_U := uw_4 (List.mem_of_getElem? (i := 123) rfl) rfl
theorem wo_X3_isFirstBut : Cond.code yX3_isFirstBut cX3_isFirstBut 4 (some FieldType.boolean) ∈ uw_U := uw_4 (List.mem_of_getElem? (i := 124) rfl) rfl
theorem wm_L_133 : Cond.methodLink "RhymedThenLaw" 133 yX11_odds ∈ uw_U := uw_4 (List.mem_of_getElem? (i := 125) rfl) rfl
theorem wi_X11_odds : Cond.instanceMethod yX11_odds ∈ uw_U := uw_4 (List.mem_of_getElem? (i := 126) rfl) rfl
theorem ws_X11_odds : Cond.selects "RhymedThen" yX11_odds yX11_odds ∈ uw_U := uw_4 (List.mem_of_getElem? (i := 127) rfl) rfl
theorem wo_X11_odds : Cond.code yX11_odds cX11_odds 8 (some FieldType.int) ∈ uw_U := uw_4 (List.mem_of_getElem? (i := 128) rfl) rfl
theorem wm_X11_332 : Cond.methodLink "RhymedThen" 332 yX11_weighAll ∈ uw_U := uw_4 (List.mem_of_getElem? (i := 129) rfl) rfl
theorem wi_X11_weighAll : Cond.instanceMethod yX11_weighAll ∈ uw_U := uw_4 (List.mem_of_getElem? (i := 131) rfl) rfl
theorem wo_X11_weighAll : Cond.code yX11_weighAll cX11_weighAll 5 (some FieldType.long) ∈ uw_U := uw_4 (List.mem_of_getElem? (i := 132) rfl) rfl
theorem wm_X11_336 : Cond.methodLink "RhymedThen" 336 yX6_weightOf ∈ uw_U := uw_4 (List.mem_of_getElem? (i := 133) rfl) rfl
theorem wi_X6_weightOf : Cond.instanceMethod yX6_weightOf ∈ uw_U := uw_4 (List.mem_of_getElem? (i := 134) rfl) rfl
theorem ws_X6_weightOf : Cond.selects "RhymedThen$Signs" yX6_weightOf yX6_weightOf ∈ uw_U := uw_4 (List.mem_of_getElem? (i := 135) rfl) rfl
theorem wo_X6_weightOf : Cond.code yX6_weightOf cX6_weightOf 7 (some FieldType.long) ∈ uw_U := uw_4 (List.mem_of_getElem? (i := 136) rfl) rfl
theorem wm_L_137 : Cond.methodLink "RhymedThenLaw" 137 yX11_then ∈ uw_U := uw_4 (List.mem_of_getElem? (i := 137) rfl) rfl
theorem wi_X11_then : Cond.instanceMethod yX11_then ∈ uw_U := uw_4 (List.mem_of_getElem? (i := 138) rfl) rfl
theorem ws_X11_then : Cond.selects "RhymedThen" yX11_then yX11_then ∈ uw_U := uw_4 (List.mem_of_getElem? (i := 139) rfl) rfl
theorem wo_X11_then : Cond.code yX11_then cX11_then 7 (some FieldType.int) ∈ uw_U := uw_4 (List.mem_of_getElem? (i := 140) rfl) rfl
theorem wm_X11_339 : Cond.methodLink "RhymedThen" 339 yX11_tooManyToWeigh ∈ uw_U := uw_4 (List.mem_of_getElem? (i := 141) rfl) rfl
theorem wi_X11_tooManyToWeigh : Cond.instanceMethod yX11_tooManyToWeigh ∈ uw_U := uw_4 (List.mem_of_getElem? (i := 143) rfl) rfl
theorem wo_X11_tooManyToWeigh : Cond.code yX11_tooManyToWeigh cX11_tooManyToWeigh 1 (some FieldType.boolean) ∈ uw_U := uw_4 (List.mem_of_getElem? (i := 144) rfl) rfl
theorem wm_X11_343 : Cond.methodLink "RhymedThen" 343 yX11_walkAll ∈ uw_U := uw_4 (List.mem_of_getElem? (i := 145) rfl) rfl
theorem wi_X11_walkAll : Cond.instanceMethod yX11_walkAll ∈ uw_U := uw_4 (List.mem_of_getElem? (i := 147) rfl) rfl
theorem wo_X11_walkAll : Cond.code yX11_walkAll cX11_walkAll 4 none ∈ uw_U := uw_4 (List.mem_of_getElem? (i := 148) rfl) rfl
theorem wm_X11_346 : Cond.methodLink "RhymedThen" 346 yX11_likeliestWay ∈ uw_U := uw_4 (List.mem_of_getElem? (i := 149) rfl) rfl
theorem wi_X11_likeliestWay : Cond.instanceMethod yX11_likeliestWay ∈ uw_U := uw_4 (List.mem_of_getElem? (i := 151) rfl) rfl
theorem wo_X11_likeliestWay : Cond.code yX11_likeliestWay cX11_likeliestWay 3 (some FieldType.int) ∈ uw_U := uw_4 (List.mem_of_getElem? (i := 152) rfl) rfl
theorem wm_X11_355 : Cond.methodLink "RhymedThen" 355 yX10_heaviest ∈ uw_U := uw_4 (List.mem_of_getElem? (i := 153) rfl) rfl
theorem wi_X10_heaviest : Cond.instanceMethod yX10_heaviest ∈ uw_U := uw_4 (List.mem_of_getElem? (i := 154) rfl) rfl
theorem ws_X10_heaviest : Cond.selects "RhymedThen$Ways" yX10_heaviest yX10_heaviest ∈ uw_U := uw_4 (List.mem_of_getElem? (i := 155) rfl) rfl
theorem wo_X10_heaviest : Cond.code yX10_heaviest cX10_heaviest 3 (some FieldType.int) ∈ uw_U := uw_4 (List.mem_of_getElem? (i := 156) rfl) rfl
theorem wm_L_141 : Cond.methodLink "RhymedThenLaw" 141 yX11_right ∈ uw_U := uw_4 (List.mem_of_getElem? (i := 157) rfl) rfl
theorem wi_X11_right : Cond.instanceMethod yX11_right ∈ uw_U := uw_4 (List.mem_of_getElem? (i := 158) rfl) rfl
theorem ws_X11_right : Cond.selects "RhymedThen" yX11_right yX11_right ∈ uw_U := uw_4 (List.mem_of_getElem? (i := 159) rfl) rfl
theorem wo_X11_right : Cond.code yX11_right cX11_right 6 (some FieldType.int) ∈ uw_U := uw_4 (List.mem_of_getElem? (i := 160) rfl) rfl
theorem wm_L_145 : Cond.methodLink "RhymedThenLaw" 145 yX11_likely ∈ uw_U := uw_4 (List.mem_of_getElem? (i := 161) rfl) rfl
theorem wi_X11_likely : Cond.instanceMethod yX11_likely ∈ uw_U := uw_4 (List.mem_of_getElem? (i := 162) rfl) rfl
theorem ws_X11_likely : Cond.selects "RhymedThen" yX11_likely yX11_likely ∈ uw_U := uw_4 (List.mem_of_getElem? (i := 163) rfl) rfl
theorem wo_X11_likely : Cond.code yX11_likely cX11_likely 5 (some FieldType.int) ∈ uw_U := uw_4 (List.mem_of_getElem? (i := 164) rfl) rfl
theorem wm_L_149 : Cond.methodLink "RhymedThenLaw" 149 yX11_next ∈ uw_U := uw_4 (List.mem_of_getElem? (i := 165) rfl) rfl
theorem wi_X11_next : Cond.instanceMethod yX11_next ∈ uw_U := uw_4 (List.mem_of_getElem? (i := 166) rfl) rfl
theorem ws_X11_next : Cond.selects "RhymedThen" yX11_next yX11_next ∈ uw_U := uw_4 (List.mem_of_getElem? (i := 167) rfl) rfl
theorem wo_X11_next : Cond.code yX11_next cX11_next 6 (some FieldType.int) ∈ uw_U := uw_4 (List.mem_of_getElem? (i := 168) rfl) rfl
theorem wm_X11_358 : Cond.methodLink "RhymedThen" 358 yX6_fitCount ∈ uw_U := uw_4 (List.mem_of_getElem? (i := 169) rfl) rfl
theorem wi_X6_fitCount : Cond.instanceMethod yX6_fitCount ∈ uw_U := uw_4 (List.mem_of_getElem? (i := 170) rfl) rfl
theorem ws_X6_fitCount : Cond.selects "RhymedThen$Signs" yX6_fitCount yX6_fitCount ∈ uw_U := uw_4 (List.mem_of_getElem? (i := 171) rfl) rfl
theorem wo_X6_fitCount : Cond.code yX6_fitCount cX6_fitCount 3 (some FieldType.int) ∈ uw_U := uw_4 (List.mem_of_getElem? (i := 172) rfl) rfl
theorem wm_X6_70 : Cond.methodLink "RhymedThen$Signs" 70 yX6_fitsTo ∈ uw_U := uw_4 (List.mem_of_getElem? (i := 173) rfl) rfl
theorem wm_X11_361 : Cond.methodLink "RhymedThen" 361 yX6_fitCountHolding ∈ uw_U := uw_4 (List.mem_of_getElem? (i := 174) rfl) rfl
theorem wi_X6_fitCountHolding : Cond.instanceMethod yX6_fitCountHolding ∈ uw_U := uw_4 (List.mem_of_getElem? (i := 175) rfl) rfl
theorem ws_X6_fitCountHolding : Cond.selects "RhymedThen$Signs" yX6_fitCountHolding yX6_fitCountHolding ∈ uw_U := uw_4 (List.mem_of_getElem? (i := 176) rfl) rfl
theorem wo_X6_fitCountHolding : Cond.code yX6_fitCountHolding cX6_fitCountHolding 4 (some FieldType.int) ∈ uw_U := uw_4 (List.mem_of_getElem? (i := 177) rfl) rfl
theorem wm_X11_364 : Cond.methodLink "RhymedThen" 364 yX11_isMoreEven ∈ uw_U := uw_4 (List.mem_of_getElem? (i := 178) rfl) rfl
theorem wt_X11_isMoreEven : Cond.static yX11_isMoreEven ∈ uw_U := uw_4 (List.mem_of_getElem? (i := 179) rfl) rfl
theorem wo_X11_isMoreEven : Cond.code yX11_isMoreEven cX11_isMoreEven 3 (some FieldType.boolean) ∈ uw_U := uw_4 (List.mem_of_getElem? (i := 180) rfl) rfl
theorem wm_X11_367 : Cond.methodLink "RhymedThen" 367 yJ9_abs_0f7a4 ∈ uw_U := uw_4 (List.mem_of_getElem? (i := 181) rfl) rfl
theorem wt_J9_abs_0f7a4 : Cond.static yJ9_abs_0f7a4 ∈ uw_U := uw_4 (List.mem_of_getElem? (i := 182) rfl) rfl
theorem wo_J9_abs_0f7a4 : Cond.code yJ9_abs_0f7a4 cJ9_abs_0f7a4 1 (some FieldType.int) ∈ uw_U := uw_4 (List.mem_of_getElem? (i := 183) rfl) rfl
theorem wm_L_153 : Cond.methodLink "RhymedThenLaw" 153 yX11_eye ∈ uw_U := uw_4 (List.mem_of_getElem? (i := 184) rfl) rfl
theorem wi_X11_eye : Cond.instanceMethod yX11_eye ∈ uw_U := uw_4 (List.mem_of_getElem? (i := 185) rfl) rfl
theorem ws_X11_eye : Cond.selects "RhymedThen" yX11_eye yX11_eye ∈ uw_U := uw_4 (List.mem_of_getElem? (i := 186) rfl) rfl
theorem wo_X11_eye : Cond.code yX11_eye cX11_eye 11 (some FieldType.int) ∈ uw_U := uw_4 (List.mem_of_getElem? (i := 187) rfl) rfl
theorem wm_X11_370 : Cond.methodLink "RhymedThen" 370 yX6_rhymesOf ∈ uw_U := uw_4 (List.mem_of_getElem? (i := 188) rfl) rfl
theorem wi_X6_rhymesOf : Cond.instanceMethod yX6_rhymesOf ∈ uw_U := uw_4 (List.mem_of_getElem? (i := 189) rfl) rfl
theorem ws_X6_rhymesOf : Cond.selects "RhymedThen$Signs" yX6_rhymesOf yX6_rhymesOf ∈ uw_U := uw_4 (List.mem_of_getElem? (i := 190) rfl) rfl
theorem wo_X6_rhymesOf : Cond.code yX6_rhymesOf cX6_rhymesOf 4 (some FieldType.int) ∈ uw_U := uw_4 (List.mem_of_getElem? (i := 191) rfl) rfl
theorem wm_L_157 : Cond.methodLink "RhymedThenLaw" 157 yX11_lean ∈ uw_U := uw_4 (List.mem_of_getElem? (i := 192) rfl) rfl
theorem wi_X11_lean : Cond.instanceMethod yX11_lean ∈ uw_U := uw_4 (List.mem_of_getElem? (i := 193) rfl) rfl
theorem ws_X11_lean : Cond.selects "RhymedThen" yX11_lean yX11_lean ∈ uw_U := uw_4 (List.mem_of_getElem? (i := 194) rfl) rfl
theorem wo_X11_lean : Cond.code yX11_lean cX11_lean 6 (some FieldType.int) ∈ uw_U := uw_4 (List.mem_of_getElem? (i := 195) rfl) rfl
theorem wm_L_161 : Cond.methodLink "RhymedThenLaw" 161 yX11_ahead ∈ uw_U := uw_4 (List.mem_of_getElem? (i := 196) rfl) rfl
theorem wi_X11_ahead : Cond.instanceMethod yX11_ahead ∈ uw_U := uw_4 (List.mem_of_getElem? (i := 197) rfl) rfl
theorem ws_X11_ahead : Cond.selects "RhymedThen" yX11_ahead yX11_ahead ∈ uw_U := uw_4 (List.mem_of_getElem? (i := 198) rfl) rfl
theorem wo_X11_ahead : Cond.code yX11_ahead cX11_ahead 5 (some FieldType.int) ∈ uw_U := uw_4 (List.mem_of_getElem? (i := 199) rfl) rfl
theorem wm_X11_379 : Cond.methodLink "RhymedThen" 379 yX6_someFitsWithLag ∈ uw_U := uw_4 (List.mem_of_getElem? (i := 200) rfl) rfl
theorem wi_X6_someFitsWithLag : Cond.instanceMethod yX6_someFitsWithLag ∈ uw_U := uw_4 (List.mem_of_getElem? (i := 201) rfl) rfl
theorem ws_X6_someFitsWithLag : Cond.selects "RhymedThen$Signs" yX6_someFitsWithLag yX6_someFitsWithLag ∈ uw_U := uw_4 (List.mem_of_getElem? (i := 202) rfl) rfl
theorem wo_X6_someFitsWithLag : Cond.code yX6_someFitsWithLag cX6_someFitsWithLag 5 (some FieldType.boolean) ∈ uw_U := uw_4 (List.mem_of_getElem? (i := 203) rfl) rfl
theorem wm_X6_74 : Cond.methodLink "RhymedThen$Signs" 74 yX6_failingBy ∈ uw_U := uw_4 (List.mem_of_getElem? (i := 204) rfl) rfl
theorem wm_X6_77 : Cond.methodLink "RhymedThen$Signs" 77 yX6_allAreSoWithLag ∈ uw_U := uw_4 (List.mem_of_getElem? (i := 205) rfl) rfl
theorem wi_X6_allAreSoWithLag : Cond.instanceMethod yX6_allAreSoWithLag ∈ uw_U := uw_4 (List.mem_of_getElem? (i := 207) rfl) rfl
theorem wo_X6_allAreSoWithLag : Cond.code yX6_allAreSoWithLag cX6_allAreSoWithLag 6 (some FieldType.boolean) ∈ uw_U := uw_4 (List.mem_of_getElem? (i := 208) rfl) rfl
theorem wm_L_165 : Cond.methodLink "RhymedThenLaw" 165 yX11_stage ∈ uw_U := uw_4 (List.mem_of_getElem? (i := 209) rfl) rfl
theorem wi_X11_stage : Cond.instanceMethod yX11_stage ∈ uw_U := uw_4 (List.mem_of_getElem? (i := 210) rfl) rfl
theorem ws_X11_stage : Cond.selects "RhymedThen" yX11_stage yX11_stage ∈ uw_U := uw_4 (List.mem_of_getElem? (i := 211) rfl) rfl
theorem wo_X11_stage : Cond.code yX11_stage cX11_stage 8 (some FieldType.int) ∈ uw_U := uw_4 (List.mem_of_getElem? (i := 212) rfl) rfl
theorem wm_X11_382 : Cond.methodLink "RhymedThen" 382 yX7_clear ∈ uw_U := uw_4 (List.mem_of_getElem? (i := 213) rfl) rfl
theorem wi_X7_clear : Cond.instanceMethod yX7_clear ∈ uw_U := uw_4 (List.mem_of_getElem? (i := 214) rfl) rfl
theorem ws_X7_clear : Cond.selects "RhymedThen$Stage" yX7_clear yX7_clear ∈ uw_U := uw_4 (List.mem_of_getElem? (i := 215) rfl) rfl
theorem wo_X7_clear : Cond.code yX7_clear cX7_clear 1 none ∈ uw_U := uw_4 (List.mem_of_getElem? (i := 216) rfl) rfl
theorem wm_X11_383 : Cond.methodLink "RhymedThen" 383 yX6_isStaged ∈ uw_U := uw_4 (List.mem_of_getElem? (i := 217) rfl) rfl
theorem wi_X6_isStaged : Cond.instanceMethod yX6_isStaged ∈ uw_U := uw_4 (List.mem_of_getElem? (i := 218) rfl) rfl
theorem ws_X6_isStaged : Cond.selects "RhymedThen$Signs" yX6_isStaged yX6_isStaged ∈ uw_U := uw_4 (List.mem_of_getElem? (i := 219) rfl) rfl
theorem wo_X6_isStaged : Cond.code yX6_isStaged cX6_isStaged 2 (some FieldType.boolean) ∈ uw_U := uw_4 (List.mem_of_getElem? (i := 220) rfl) rfl
theorem wm_X11_386 : Cond.methodLink "RhymedThen" 386 yX7_invite ∈ uw_U := uw_4 (List.mem_of_getElem? (i := 221) rfl) rfl
theorem wi_X7_invite : Cond.instanceMethod yX7_invite ∈ uw_U := uw_4 (List.mem_of_getElem? (i := 222) rfl) rfl
theorem ws_X7_invite : Cond.selects "RhymedThen$Stage" yX7_invite yX7_invite ∈ uw_U := uw_4 (List.mem_of_getElem? (i := 223) rfl) rfl
theorem wo_X7_invite : Cond.code yX7_invite cX7_invite 2 none ∈ uw_U := uw_4 (List.mem_of_getElem? (i := 224) rfl) rfl
theorem wm_X11_389 : Cond.methodLink "RhymedThen" 389 yX7_seat ∈ uw_U := uw_4 (List.mem_of_getElem? (i := 225) rfl) rfl
theorem wi_X7_seat : Cond.instanceMethod yX7_seat ∈ uw_U := uw_4 (List.mem_of_getElem? (i := 226) rfl) rfl
theorem ws_X7_seat : Cond.selects "RhymedThen$Stage" yX7_seat yX7_seat ∈ uw_U := uw_4 (List.mem_of_getElem? (i := 227) rfl) rfl
theorem wo_X7_seat : Cond.code yX7_seat cX7_seat 2 none ∈ uw_U := uw_4 (List.mem_of_getElem? (i := 228) rfl) rfl
theorem wm_X11_393 : Cond.methodLink "RhymedThen" 393 yX7_addPair ∈ uw_U := uw_4 (List.mem_of_getElem? (i := 229) rfl) rfl
theorem wi_X7_addPair : Cond.instanceMethod yX7_addPair ∈ uw_U := uw_4 (List.mem_of_getElem? (i := 230) rfl) rfl
theorem ws_X7_addPair : Cond.selects "RhymedThen$Stage" yX7_addPair yX7_addPair ∈ uw_U := uw_4 (List.mem_of_getElem? (i := 231) rfl) rfl
theorem wo_X7_addPair : Cond.code yX7_addPair cX7_addPair 11 none ∈ uw_U := uw_4 (List.mem_of_getElem? (i := 232) rfl) rfl
theorem wm_X7_48 : Cond.methodLink "RhymedThen$Stage" 48 yX7_seatOf ∈ uw_U := uw_4 (List.mem_of_getElem? (i := 233) rfl) rfl
theorem wi_X7_seatOf : Cond.instanceMethod yX7_seatOf ∈ uw_U := uw_4 (List.mem_of_getElem? (i := 235) rfl) rfl
theorem wo_X7_seatOf : Cond.code yX7_seatOf cX7_seatOf 3 (some FieldType.int) ∈ uw_U := uw_4 (List.mem_of_getElem? (i := 236) rfl) rfl
theorem wm_X7_55 : Cond.methodLink "RhymedThen$Stage" 55 yX9_formOn ∈ uw_U := uw_4 (List.mem_of_getElem? (i := 237) rfl) rfl
theorem wm_X7_61 : Cond.methodLink "RhymedThen$Stage" 61 yX9_vowels ∈ uw_U := uw_4 (List.mem_of_getElem? (i := 238) rfl) rfl
theorem wm_X7_65 : Cond.methodLink "RhymedThen$Stage" 65 yX5_isSoOf ∈ uw_U := uw_4 (List.mem_of_getElem? (i := 239) rfl) rfl
theorem wm_X11_397 : Cond.methodLink "RhymedThen" 397 yX7_play ∈ uw_U := uw_5 (List.mem_of_getElem? (i := 0) rfl) rfl
theorem wi_X7_play : Cond.instanceMethod yX7_play ∈ uw_U := uw_5 (List.mem_of_getElem? (i := 1) rfl) rfl
theorem ws_X7_play : Cond.selects "RhymedThen$Stage" yX7_play yX7_play ∈ uw_U := uw_5 (List.mem_of_getElem? (i := 2) rfl) rfl
theorem wo_X7_play : Cond.code yX7_play cX7_play 5 (some FieldType.int) ∈ uw_U := uw_5 (List.mem_of_getElem? (i := 3) rfl) rfl
theorem wm_X7_69 : Cond.methodLink "RhymedThen$Stage" 69 yX7_countSo ∈ uw_U := uw_5 (List.mem_of_getElem? (i := 4) rfl) rfl
theorem wi_X7_countSo : Cond.instanceMethod yX7_countSo ∈ uw_U := uw_5 (List.mem_of_getElem? (i := 6) rfl) rfl
theorem wo_X7_countSo : Cond.code yX7_countSo cX7_countSo 3 (some FieldType.int) ∈ uw_U := uw_5 (List.mem_of_getElem? (i := 7) rfl) rfl
theorem wm_X7_72 : Cond.methodLink "RhymedThen$Stage" 72 ⟨"java/lang/System", "arraycopy", "(Ljava/lang/Object;ILjava/lang/Object;II)V"⟩ ∈ uw_U := uw_5 (List.mem_of_getElem? (i := 8) rfl) rfl
theorem wm_X7_78 : Cond.methodLink "RhymedThen$Stage" 78 yX7_chooseNext ∈ uw_U := uw_5 (List.mem_of_getElem? (i := 9) rfl) rfl
theorem wi_X7_chooseNext : Cond.instanceMethod yX7_chooseNext ∈ uw_U := uw_5 (List.mem_of_getElem? (i := 11) rfl) rfl
theorem wo_X7_chooseNext : Cond.code yX7_chooseNext cX7_chooseNext 2 none ∈ uw_U := uw_5 (List.mem_of_getElem? (i := 12) rfl) rfl
theorem wm_L_169 : Cond.methodLink "RhymedThenLaw" 169 yX11_might ∈ uw_U := uw_5 (List.mem_of_getElem? (i := 13) rfl) rfl
theorem wi_X11_might : Cond.instanceMethod yX11_might ∈ uw_U := uw_5 (List.mem_of_getElem? (i := 14) rfl) rfl
theorem ws_X11_might : Cond.selects "RhymedThen" yX11_might yX11_might ∈ uw_U := uw_5 (List.mem_of_getElem? (i := 15) rfl) rfl
theorem wo_X11_might : Cond.code yX11_might cX11_might 10 (some FieldType.int) ∈ uw_U := uw_5 (List.mem_of_getElem? (i := 16) rfl) rfl
theorem wm_X11_408 : Cond.methodLink "RhymedThen" 408 yX5_isSoOn ∈ uw_U := uw_5 (List.mem_of_getElem? (i := 17) rfl) rfl
theorem wm_L_173 : Cond.methodLink "RhymedThenLaw" 173 yX11_look ∈ uw_U := uw_5 (List.mem_of_getElem? (i := 18) rfl) rfl
theorem wi_X11_look : Cond.instanceMethod yX11_look ∈ uw_U := uw_5 (List.mem_of_getElem? (i := 19) rfl) rfl
theorem ws_X11_look : Cond.selects "RhymedThen" yX11_look yX11_look ∈ uw_U := uw_5 (List.mem_of_getElem? (i := 20) rfl) rfl
theorem wo_X11_look : Cond.code yX11_look cX11_look 8 (some FieldType.int) ∈ uw_U := uw_5 (List.mem_of_getElem? (i := 21) rfl) rfl
theorem wm_X11_412 : Cond.methodLink "RhymedThen" 412 yX11_countPairs ∈ uw_U := uw_5 (List.mem_of_getElem? (i := 22) rfl) rfl
theorem wi_X11_countPairs : Cond.instanceMethod yX11_countPairs ∈ uw_U := uw_5 (List.mem_of_getElem? (i := 24) rfl) rfl
theorem wo_X11_countPairs : Cond.code yX11_countPairs cX11_countPairs 5 (some FieldType.int) ∈ uw_U := uw_5 (List.mem_of_getElem? (i := 25) rfl) rfl
theorem wm_X11_415 : Cond.methodLink "RhymedThen" 415 yJ7_fill_53178 ∈ uw_U := uw_5 (List.mem_of_getElem? (i := 26) rfl) rfl
theorem wt_J7_fill_53178 : Cond.static yJ7_fill_53178 ∈ uw_U := uw_5 (List.mem_of_getElem? (i := 27) rfl) rfl
theorem wo_J7_fill_53178 : Cond.code yJ7_fill_53178 cJ7_fill_53178 4 none ∈ uw_U := uw_5 (List.mem_of_getElem? (i := 28) rfl) rfl
theorem wm_X11_421 : Cond.methodLink "RhymedThen" 421 yX11_countPairsOn ∈ uw_U := uw_5 (List.mem_of_getElem? (i := 29) rfl) rfl
theorem wi_X11_countPairsOn : Cond.instanceMethod yX11_countPairsOn ∈ uw_U := uw_5 (List.mem_of_getElem? (i := 31) rfl) rfl
theorem wo_X11_countPairsOn : Cond.code yX11_countPairsOn cX11_countPairsOn 4 none ∈ uw_U := uw_5 (List.mem_of_getElem? (i := 32) rfl) rfl
theorem wm_X11_424 : Cond.methodLink "RhymedThen" 424 yX9_tailOn ∈ uw_U := uw_5 (List.mem_of_getElem? (i := 33) rfl) rfl
theorem wm_L_177 : Cond.methodLink "RhymedThenLaw" 177 yX11_settled ∈ uw_U := uw_5 (List.mem_of_getElem? (i := 34) rfl) rfl
theorem wi_X11_settled : Cond.instanceMethod yX11_settled ∈ uw_U := uw_5 (List.mem_of_getElem? (i := 35) rfl) rfl
theorem ws_X11_settled : Cond.selects "RhymedThen" yX11_settled yX11_settled ∈ uw_U := uw_5 (List.mem_of_getElem? (i := 36) rfl) rfl
theorem wo_X11_settled : Cond.code yX11_settled cX11_settled 5 (some FieldType.int) ∈ uw_U := uw_5 (List.mem_of_getElem? (i := 37) rfl) rfl
theorem wm_X11_427 : Cond.methodLink "RhymedThen" 427 yX11_isOneWay ∈ uw_U := uw_5 (List.mem_of_getElem? (i := 38) rfl) rfl
theorem wi_X11_isOneWay : Cond.instanceMethod yX11_isOneWay ∈ uw_U := uw_5 (List.mem_of_getElem? (i := 40) rfl) rfl
theorem wo_X11_isOneWay : Cond.code yX11_isOneWay cX11_isOneWay 9 (some FieldType.boolean) ∈ uw_U := uw_5 (List.mem_of_getElem? (i := 41) rfl) rfl
theorem wm_L_181 : Cond.methodLink "RhymedThenLaw" 181 yX11_fell ∈ uw_U := uw_5 (List.mem_of_getElem? (i := 42) rfl) rfl
theorem wi_X11_fell : Cond.instanceMethod yX11_fell ∈ uw_U := uw_5 (List.mem_of_getElem? (i := 43) rfl) rfl
theorem ws_X11_fell : Cond.selects "RhymedThen" yX11_fell yX11_fell ∈ uw_U := uw_5 (List.mem_of_getElem? (i := 44) rfl) rfl
theorem wo_X11_fell : Cond.code yX11_fell cX11_fell 8 (some FieldType.int) ∈ uw_U := uw_5 (List.mem_of_getElem? (i := 45) rfl) rfl
theorem wm_X11_430 : Cond.methodLink "RhymedThen" 430 yX9_saidLike ∈ uw_U := uw_5 (List.mem_of_getElem? (i := 46) rfl) rfl
theorem wi_X9_saidLike : Cond.instanceMethod yX9_saidLike ∈ uw_U := uw_5 (List.mem_of_getElem? (i := 47) rfl) rfl
theorem ws_X9_saidLike : Cond.selects "RhymedThen$Tongue" yX9_saidLike yX9_saidLike ∈ uw_U := uw_5 (List.mem_of_getElem? (i := 48) rfl) rfl
theorem wo_X9_saidLike : Cond.code yX9_saidLike cX9_saidLike 5 (some FieldType.int) ∈ uw_U := uw_5 (List.mem_of_getElem? (i := 49) rfl) rfl
theorem wm_L_185 : Cond.methodLink "RhymedThenLaw" 185 yX11_town ∈ uw_U := uw_5 (List.mem_of_getElem? (i := 50) rfl) rfl
theorem wi_X11_town : Cond.instanceMethod yX11_town ∈ uw_U := uw_5 (List.mem_of_getElem? (i := 51) rfl) rfl
theorem ws_X11_town : Cond.selects "RhymedThen" yX11_town yX11_town ∈ uw_U := uw_5 (List.mem_of_getElem? (i := 52) rfl) rfl
theorem wo_X11_town : Cond.code yX11_town cX11_town 11 (some FieldType.int) ∈ uw_U := uw_5 (List.mem_of_getElem? (i := 53) rfl) rfl
theorem wm_X11_433 : Cond.methodLink "RhymedThen" 433 yX11_firstSaidSo ∈ uw_U := uw_5 (List.mem_of_getElem? (i := 54) rfl) rfl
theorem wi_X11_firstSaidSo : Cond.instanceMethod yX11_firstSaidSo ∈ uw_U := uw_5 (List.mem_of_getElem? (i := 56) rfl) rfl
theorem wo_X11_firstSaidSo : Cond.code yX11_firstSaidSo cX11_firstSaidSo 8 (some FieldType.int) ∈ uw_U := uw_5 (List.mem_of_getElem? (i := 57) rfl) rfl
theorem wm_L_189 : Cond.methodLink "RhymedThenLaw" 189 yX11_swap ∈ uw_U := uw_5 (List.mem_of_getElem? (i := 58) rfl) rfl
theorem wi_X11_swap : Cond.instanceMethod yX11_swap ∈ uw_U := uw_5 (List.mem_of_getElem? (i := 59) rfl) rfl
theorem ws_X11_swap : Cond.selects "RhymedThen" yX11_swap yX11_swap ∈ uw_U := uw_5 (List.mem_of_getElem? (i := 60) rfl) rfl
theorem wo_X11_swap : Cond.code yX11_swap cX11_swap 7 (some FieldType.int) ∈ uw_U := uw_5 (List.mem_of_getElem? (i := 61) rfl) rfl
theorem wm_X11_437 : Cond.methodLink "RhymedThen" 437 yX3_courseSwapped ∈ uw_U := uw_5 (List.mem_of_getElem? (i := 62) rfl) rfl
theorem wi_X3_courseSwapped : Cond.instanceMethod yX3_courseSwapped ∈ uw_U := uw_5 (List.mem_of_getElem? (i := 63) rfl) rfl
theorem ws_X3_courseSwapped : Cond.selects "RhymedThen$Past" yX3_courseSwapped yX3_courseSwapped ∈ uw_U := uw_5 (List.mem_of_getElem? (i := 64) rfl) rfl
theorem wo_X3_courseSwapped : Cond.code yX3_courseSwapped cX3_courseSwapped 8 (some FieldType.int) ∈ uw_U := uw_5 (List.mem_of_getElem? (i := 65) rfl) rfl
theorem wm_L_193 : Cond.methodLink "RhymedThenLaw" 193 yX11_keep ∈ uw_U := uw_5 (List.mem_of_getElem? (i := 66) rfl) rfl
theorem wi_X11_keep : Cond.instanceMethod yX11_keep ∈ uw_U := uw_5 (List.mem_of_getElem? (i := 67) rfl) rfl
theorem ws_X11_keep : Cond.selects "RhymedThen" yX11_keep yX11_keep ∈ uw_U := uw_5 (List.mem_of_getElem? (i := 68) rfl) rfl
theorem wo_X11_keep : Cond.code yX11_keep cX11_keep 2 (some FieldType.boolean) ∈ uw_U := uw_5 (List.mem_of_getElem? (i := 69) rfl) rfl
theorem wm_X11_441 : Cond.methodLink "RhymedThen" 441 yX1_take ∈ uw_U := uw_5 (List.mem_of_getElem? (i := 70) rfl) rfl
theorem wi_X1_take : Cond.instanceMethod yX1_take ∈ uw_U := uw_5 (List.mem_of_getElem? (i := 71) rfl) rfl
theorem ws_X1_take : Cond.selects "RhymedThen$Kept" yX1_take yX1_take ∈ uw_U := uw_5 (List.mem_of_getElem? (i := 72) rfl) rfl
theorem wo_X1_take : Cond.code yX1_take cX1_take 5 none ∈ uw_U := uw_5 (List.mem_of_getElem? (i := 73) rfl) rfl
theorem wm_X1_51 : Cond.methodLink "RhymedThen$Kept" 51 ⟨"java/lang/System", "arraycopy", "(Ljava/lang/Object;ILjava/lang/Object;II)V"⟩ ∈ uw_U := uw_5 (List.mem_of_getElem? (i := 74) rfl) rfl
theorem wm_L_197 : Cond.methodLink "RhymedThenLaw" 197 yX11_again ∈ uw_U := uw_5 (List.mem_of_getElem? (i := 75) rfl) rfl
theorem wi_X11_again : Cond.instanceMethod yX11_again ∈ uw_U := uw_5 (List.mem_of_getElem? (i := 76) rfl) rfl
theorem ws_X11_again : Cond.selects "RhymedThen" yX11_again yX11_again ∈ uw_U := uw_5 (List.mem_of_getElem? (i := 77) rfl) rfl
theorem wo_X11_again : Cond.code yX11_again cX11_again 3 (some FieldType.boolean) ∈ uw_U := uw_5 (List.mem_of_getElem? (i := 78) rfl) rfl
theorem wm_X11_449 : Cond.methodLink "RhymedThen" 449 yX1_giveBack ∈ uw_U := uw_5 (List.mem_of_getElem? (i := 79) rfl) rfl
theorem wi_X1_giveBack : Cond.instanceMethod yX1_giveBack ∈ uw_U := uw_5 (List.mem_of_getElem? (i := 80) rfl) rfl
theorem ws_X1_giveBack : Cond.selects "RhymedThen$Kept" yX1_giveBack yX1_giveBack ∈ uw_U := uw_5 (List.mem_of_getElem? (i := 81) rfl) rfl
theorem wo_X1_giveBack : Cond.code yX1_giveBack cX1_giveBack 5 none ∈ uw_U := uw_5 (List.mem_of_getElem? (i := 82) rfl) rfl
theorem wm_L_201 : Cond.methodLink "RhymedThenLaw" 201 yX11_count ∈ uw_U := uw_5 (List.mem_of_getElem? (i := 83) rfl) rfl
theorem wi_X11_count : Cond.instanceMethod yX11_count ∈ uw_U := uw_5 (List.mem_of_getElem? (i := 84) rfl) rfl
theorem ws_X11_count : Cond.selects "RhymedThen" yX11_count yX11_count ∈ uw_U := uw_5 (List.mem_of_getElem? (i := 85) rfl) rfl
theorem wo_X11_count : Cond.code yX11_count cX11_count 2 (some FieldType.int) ∈ uw_U := uw_5 (List.mem_of_getElem? (i := 86) rfl) rfl
theorem wm_L_205 : Cond.methodLink "RhymedThenLaw" 205 yX11_year ∈ uw_U := uw_5 (List.mem_of_getElem? (i := 87) rfl) rfl
theorem wi_X11_year : Cond.instanceMethod yX11_year ∈ uw_U := uw_5 (List.mem_of_getElem? (i := 88) rfl) rfl
theorem ws_X11_year : Cond.selects "RhymedThen" yX11_year yX11_year ∈ uw_U := uw_5 (List.mem_of_getElem? (i := 89) rfl) rfl
theorem wo_X11_year : Cond.code yX11_year cX11_year 3 (some FieldType.int) ∈ uw_U := uw_5 (List.mem_of_getElem? (i := 90) rfl) rfl
theorem wm_L_209 : Cond.methodLink "RhymedThenLaw" 209 yL_row ∈ uw_U := uw_5 (List.mem_of_getElem? (i := 91) rfl) rfl
theorem wt_L_row : Cond.static yL_row ∈ uw_U := uw_5 (List.mem_of_getElem? (i := 92) rfl) rfl
theorem wc_L_13 : Cond.classLink "RhymedThenLaw" 13 "java/util/NoSuchElementException" ∈ uw_U := uw_5 (List.mem_of_getElem? (i := 94) rfl) rfl
theorem wm_L_7 : Cond.methodLink "RhymedThenLaw" 7 yX11_row ∈ uw_U := uw_5 (List.mem_of_getElem? (i := 95) rfl) rfl
theorem wi_X11_row : Cond.instanceMethod yX11_row ∈ uw_U := uw_5 (List.mem_of_getElem? (i := 96) rfl) rfl
theorem ws_X11_row : Cond.selects "RhymedThen" yX11_row yX11_row ∈ uw_U := uw_5 (List.mem_of_getElem? (i := 97) rfl) rfl
theorem wo_X11_row : Cond.code yX11_row cX11_row 2 (some FieldType.long) ∈ uw_U := uw_5 (List.mem_of_getElem? (i := 98) rfl) rfl
theorem wc_X11_454 : Cond.classLink "RhymedThen" 454 "java/util/NoSuchElementException" ∈ uw_U := uw_5 (List.mem_of_getElem? (i := 99) rfl) rfl
theorem wa_of862df : Cond.instantiable "java/util/NoSuchElementException" 6 ∈ uw_U := uw_5 (List.mem_of_getElem? (i := 100) rfl) rfl
theorem ws_oa974ee : Cond.selects "java/util/NoSuchElementException" ⟨"java/lang/Throwable", "fillInStackTrace", "(I)Ljava/lang/Throwable;"⟩ ⟨"java/lang/Throwable", "fillInStackTrace", "(I)Ljava/lang/Throwable;"⟩ ∈ uw_U := uw_5 (List.mem_of_getElem? (i := 108) rfl) rfl
theorem ws_ocfae4c : Cond.selects "java/util/NoSuchElementException" ⟨"java/lang/Throwable", "fillInStackTrace", "()Ljava/lang/Throwable;"⟩ ⟨"java/lang/Throwable", "fillInStackTrace", "()Ljava/lang/Throwable;"⟩ ∈ uw_U := uw_5 (List.mem_of_getElem? (i := 109) rfl) rfl
theorem wf_oa515f4_198 : Cond.fieldLink "java/lang/Throwable" 198 "java/lang/Throwable" "backtrace" "Ljava/lang/Object;" ∈ uw_U := uw_5 (List.mem_of_getElem? (i := 120) rfl) rfl
theorem wi_o58a482 : Cond.instanceMethod ⟨"java/lang/Throwable", "<init>", "()V"⟩ ∈ uw_U := uw_5 (List.mem_of_getElem? (i := 122) rfl) rfl
theorem wm_oa515f4_1 : Cond.methodLink "java/lang/Throwable" 1 ⟨"java/lang/Object", "<init>", "()V"⟩ ∈ uw_U := uw_5 (List.mem_of_getElem? (i := 124) rfl) rfl
theorem wf_oa515f4_13 : Cond.fieldLink "java/lang/Throwable" 13 "java/lang/Throwable" "UNASSIGNED_STACK" "[Ljava/lang/StackTraceElement;" ∈ uw_U := uw_5 (List.mem_of_getElem? (i := 125) rfl) rfl
theorem wf_oa515f4_20 : Cond.fieldLink "java/lang/Throwable" 20 "java/lang/Throwable" "SUPPRESSED_SENTINEL" "Ljava/util/List;" ∈ uw_U := uw_5 (List.mem_of_getElem? (i := 127) rfl) rfl
theorem wm_oa515f4_27 : Cond.methodLink "java/lang/Throwable" 27 ⟨"java/lang/Throwable", "fillInStackTrace", "()Ljava/lang/Throwable;"⟩ ∈ uw_U := uw_5 (List.mem_of_getElem? (i := 129) rfl) rfl
theorem wi_ocfae4c : Cond.instanceMethod ⟨"java/lang/Throwable", "fillInStackTrace", "()Ljava/lang/Throwable;"⟩ ∈ uw_U := uw_5 (List.mem_of_getElem? (i := 130) rfl) rfl
theorem wm_oa515f4_202 : Cond.methodLink "java/lang/Throwable" 202 ⟨"java/lang/Throwable", "fillInStackTrace", "(I)Ljava/lang/Throwable;"⟩ ∈ uw_U := uw_5 (List.mem_of_getElem? (i := 133) rfl) rfl
theorem wi_oa974ee : Cond.instanceMethod ⟨"java/lang/Throwable", "fillInStackTrace", "(I)Ljava/lang/Throwable;"⟩ ∈ uw_U := uw_5 (List.mem_of_getElem? (i := 135) rfl) rfl
theorem wa_oa515f4 : Cond.instantiable "java/lang/Throwable" 6 ∈ uw_U := uw_5 (List.mem_of_getElem? (i := 136) rfl) rfl
theorem wv_oa974ee : Cond.native ⟨"java/lang/Throwable", "fillInStackTrace", "(I)Ljava/lang/Throwable;"⟩ ∈ uw_U := uw_5 (List.mem_of_getElem? (i := 137) rfl) rfl
theorem wm_X11_456 : Cond.methodLink "RhymedThen" 456 ⟨"java/util/NoSuchElementException", "<init>", "()V"⟩ ∈ uw_U := uw_5 (List.mem_of_getElem? (i := 138) rfl) rfl
theorem wi_oc86c08 : Cond.instanceMethod ⟨"java/util/NoSuchElementException", "<init>", "()V"⟩ ∈ uw_U := uw_5 (List.mem_of_getElem? (i := 139) rfl) rfl
theorem wm_of862df_1 : Cond.methodLink "java/util/NoSuchElementException" 1 ⟨"java/lang/RuntimeException", "<init>", "()V"⟩ ∈ uw_U := uw_5 (List.mem_of_getElem? (i := 141) rfl) rfl
theorem wi_o222ef1 : Cond.instanceMethod ⟨"java/lang/RuntimeException", "<init>", "()V"⟩ ∈ uw_U := uw_5 (List.mem_of_getElem? (i := 142) rfl) rfl
theorem wm_o2090c0_1 : Cond.methodLink "java/lang/RuntimeException" 1 ⟨"java/lang/Exception", "<init>", "()V"⟩ ∈ uw_U := uw_5 (List.mem_of_getElem? (i := 144) rfl) rfl
theorem wi_o572556 : Cond.instanceMethod ⟨"java/lang/Exception", "<init>", "()V"⟩ ∈ uw_U := uw_5 (List.mem_of_getElem? (i := 145) rfl) rfl
theorem wm_o5067f1_1 : Cond.methodLink "java/lang/Exception" 1 ⟨"java/lang/Throwable", "<init>", "()V"⟩ ∈ uw_U := uw_5 (List.mem_of_getElem? (i := 147) rfl) rfl
theorem wf_oa515f4_7 : Cond.fieldLink "java/lang/Throwable" 7 "java/lang/Throwable" "cause" "Ljava/lang/Throwable;" ∈ uw_U := uw_5 (List.mem_of_getElem? (i := 149) rfl) rfl
theorem wf_oa515f4_17 : Cond.fieldLink "java/lang/Throwable" 17 "java/lang/Throwable" "stackTrace" "[Ljava/lang/StackTraceElement;" ∈ uw_U := uw_5 (List.mem_of_getElem? (i := 150) rfl) rfl
theorem wf_oa515f4_24 : Cond.fieldLink "java/lang/Throwable" 24 "java/lang/Throwable" "suppressedExceptions" "Ljava/util/List;" ∈ uw_U := uw_5 (List.mem_of_getElem? (i := 151) rfl) rfl
theorem wm_L_215 : Cond.methodLink "RhymedThenLaw" 215 yX12_thrown ∈ uw_U := uw_5 (List.mem_of_getElem? (i := 160) rfl) rfl
theorem wi_X12_thrown : Cond.instanceMethod yX12_thrown ∈ uw_U := uw_5 (List.mem_of_getElem? (i := 161) rfl) rfl
theorem ws_X12_thrown : Cond.selects "RhymedThenModel" yX12_thrown yX12_thrown ∈ uw_U := uw_5 (List.mem_of_getElem? (i := 162) rfl) rfl
theorem wo_X12_thrown : Cond.code yX12_thrown cX12_thrown 1 (some FieldType.int) ∈ uw_U := uw_5 (List.mem_of_getElem? (i := 163) rfl) rfl
theorem wm_L_23 : Cond.methodLink "RhymedThenLaw" 23 yX12_sign ∈ uw_U := uw_5 (List.mem_of_getElem? (i := 164) rfl) rfl
theorem wi_X12_sign : Cond.instanceMethod yX12_sign ∈ uw_U := uw_5 (List.mem_of_getElem? (i := 165) rfl) rfl
theorem ws_X12_sign : Cond.selects "RhymedThenModel" yX12_sign yX12_sign ∈ uw_U := uw_5 (List.mem_of_getElem? (i := 166) rfl) rfl
theorem wo_X12_sign : Cond.code yX12_sign cX12_sign 3 (some FieldType.int) ∈ uw_U := uw_5 (List.mem_of_getElem? (i := 167) rfl) rfl
theorem wm_L_28 : Cond.methodLink "RhymedThenLaw" 28 yX12_end ∈ uw_U := uw_5 (List.mem_of_getElem? (i := 168) rfl) rfl
theorem wi_X12_end : Cond.instanceMethod yX12_end ∈ uw_U := uw_5 (List.mem_of_getElem? (i := 169) rfl) rfl
theorem ws_X12_end : Cond.selects "RhymedThenModel" yX12_end yX12_end ∈ uw_U := uw_5 (List.mem_of_getElem? (i := 170) rfl) rfl
theorem wo_X12_end : Cond.code yX12_end cX12_end 2 (some FieldType.boolean) ∈ uw_U := uw_5 (List.mem_of_getElem? (i := 171) rfl) rfl
theorem wm_X12_29 : Cond.methodLink "RhymedThenModel" 29 yX12_in ∈ uw_U := uw_5 (List.mem_of_getElem? (i := 172) rfl) rfl
theorem wt_X12_in : Cond.static yX12_in ∈ uw_U := uw_5 (List.mem_of_getElem? (i := 173) rfl) rfl
theorem wo_X12_in : Cond.code yX12_in cX12_in 6 (some FieldType.boolean) ∈ uw_U := uw_5 (List.mem_of_getElem? (i := 174) rfl) rfl
theorem wm_L_33 : Cond.methodLink "RhymedThenLaw" 33 yX12_group ∈ uw_U := uw_5 (List.mem_of_getElem? (i := 175) rfl) rfl
theorem wi_X12_group : Cond.instanceMethod yX12_group ∈ uw_U := uw_5 (List.mem_of_getElem? (i := 176) rfl) rfl
theorem ws_X12_group : Cond.selects "RhymedThenModel" yX12_group yX12_group ∈ uw_U := uw_5 (List.mem_of_getElem? (i := 177) rfl) rfl
theorem wo_X12_group : Cond.code yX12_group cX12_group 4 (some FieldType.int) ∈ uw_U := uw_5 (List.mem_of_getElem? (i := 178) rfl) rfl
theorem wk_X12_62 : Cond.constantLong "RhymedThenModel" 62 (5 : Int64) ∈ uw_U := uw_5 (List.mem_of_getElem? (i := 179) rfl) rfl
theorem wk_X12_64 : Cond.constantLong "RhymedThenModel" 64 (65535 : Int64) ∈ uw_U := uw_5 (List.mem_of_getElem? (i := 180) rfl) rfl
theorem wm_L_38 : Cond.methodLink "RhymedThenLaw" 38 yX12_word ∈ uw_U := uw_5 (List.mem_of_getElem? (i := 181) rfl) rfl
theorem wi_X12_word : Cond.instanceMethod yX12_word ∈ uw_U := uw_5 (List.mem_of_getElem? (i := 182) rfl) rfl
theorem ws_X12_word : Cond.selects "RhymedThenModel" yX12_word yX12_word ∈ uw_U := uw_5 (List.mem_of_getElem? (i := 183) rfl) rfl
theorem wo_X12_word : Cond.code yX12_word cX12_word 3 (some FieldType.int) ∈ uw_U := uw_5 (List.mem_of_getElem? (i := 184) rfl) rfl
theorem wm_X12_69 : Cond.methodLink "RhymedThenModel" 69 yJ9_min_7cf53 ∈ uw_U := uw_5 (List.mem_of_getElem? (i := 185) rfl) rfl
theorem wm_X12_47 : Cond.methodLink "RhymedThenModel" 47 yX12_sound ∈ uw_U := uw_5 (List.mem_of_getElem? (i := 186) rfl) rfl
theorem wi_X12_sound : Cond.instanceMethod yX12_sound ∈ uw_U := uw_5 (List.mem_of_getElem? (i := 188) rfl) rfl
theorem wa_X12 : Cond.instantiable "RhymedThenModel" 58 ∈ uw_U := uw_5 (List.mem_of_getElem? (i := 189) rfl) rfl
theorem wo_X12_sound : Cond.code yX12_sound cX12_sound 1 (some FieldType.int) ∈ uw_U := uw_5 (List.mem_of_getElem? (i := 190) rfl) rfl
theorem wk_X12_43 : Cond.constantLong "RhymedThenModel" 43 (97 : Int64) ∈ uw_U := uw_5 (List.mem_of_getElem? (i := 191) rfl) rfl
theorem wk_X12_45 : Cond.constantLong "RhymedThenModel" 45 (112 : Int64) ∈ uw_U := uw_5 (List.mem_of_getElem? (i := 192) rfl) rfl
theorem wm_L_43 : Cond.methodLink "RhymedThenLaw" 43 yX12_law ∈ uw_U := uw_5 (List.mem_of_getElem? (i := 193) rfl) rfl
theorem wi_X12_law : Cond.instanceMethod yX12_law ∈ uw_U := uw_5 (List.mem_of_getElem? (i := 194) rfl) rfl
theorem ws_X12_law : Cond.selects "RhymedThenModel" yX12_law yX12_law ∈ uw_U := uw_5 (List.mem_of_getElem? (i := 195) rfl) rfl
theorem wo_X12_law : Cond.code yX12_law cX12_law 7 (some FieldType.int) ∈ uw_U := uw_5 (List.mem_of_getElem? (i := 196) rfl) rfl
theorem wk_X12_105 : Cond.constantLong "RhymedThenModel" 105 (400 : Int64) ∈ uw_U := uw_5 (List.mem_of_getElem? (i := 197) rfl) rfl
theorem wm_X12_107 : Cond.methodLink "RhymedThenModel" 107 yX12_histories ∈ uw_U := uw_5 (List.mem_of_getElem? (i := 198) rfl) rfl
theorem wi_X12_histories : Cond.instanceMethod yX12_histories ∈ uw_U := uw_5 (List.mem_of_getElem? (i := 200) rfl) rfl
theorem wo_X12_histories : Cond.code yX12_histories cX12_histories 3 (some FieldType.int) ∈ uw_U := uw_5 (List.mem_of_getElem? (i := 201) rfl) rfl
theorem wm_X12_110 : Cond.methodLink "RhymedThenModel" 110 yX12_readsLaw ∈ uw_U := uw_5 (List.mem_of_getElem? (i := 202) rfl) rfl
theorem wi_X12_readsLaw : Cond.instanceMethod yX12_readsLaw ∈ uw_U := uw_5 (List.mem_of_getElem? (i := 204) rfl) rfl
theorem wo_X12_readsLaw : Cond.code yX12_readsLaw cX12_readsLaw 3 (some FieldType.boolean) ∈ uw_U := uw_5 (List.mem_of_getElem? (i := 205) rfl) rfl
theorem wm_X12_55 : Cond.methodLink "RhymedThenModel" 55 yX12_soundOrClass ∈ uw_U := uw_5 (List.mem_of_getElem? (i := 206) rfl) rfl
theorem wi_X12_soundOrClass : Cond.instanceMethod yX12_soundOrClass ∈ uw_U := uw_5 (List.mem_of_getElem? (i := 208) rfl) rfl
theorem wo_X12_soundOrClass : Cond.code yX12_soundOrClass cX12_soundOrClass 2 (some FieldType.int) ∈ uw_U := uw_5 (List.mem_of_getElem? (i := 209) rfl) rfl
theorem wk_X12_51 : Cond.constantLong "RhymedThenModel" 51 (65 : Int64) ∈ uw_U := uw_5 (List.mem_of_getElem? (i := 210) rfl) rfl
theorem wk_X12_53 : Cond.constantLong "RhymedThenModel" 53 (70 : Int64) ∈ uw_U := uw_5 (List.mem_of_getElem? (i := 211) rfl) rfl
theorem wm_X12_58 : Cond.methodLink "RhymedThenModel" 58 yX12_comes ∈ uw_U := uw_5 (List.mem_of_getElem? (i := 212) rfl) rfl
theorem wi_X12_comes : Cond.instanceMethod yX12_comes ∈ uw_U := uw_5 (List.mem_of_getElem? (i := 214) rfl) rfl
theorem wo_X12_comes : Cond.code yX12_comes cX12_comes 3 (some FieldType.boolean) ∈ uw_U := uw_5 (List.mem_of_getElem? (i := 215) rfl) rfl
theorem wm_X12_39 : Cond.methodLink "RhymedThenModel" 39 yX12_truth ∈ uw_U := uw_5 (List.mem_of_getElem? (i := 216) rfl) rfl
theorem wt_X12_truth : Cond.static yX12_truth ∈ uw_U := uw_5 (List.mem_of_getElem? (i := 217) rfl) rfl
theorem wo_X12_truth : Cond.code yX12_truth cX12_truth 1 (some FieldType.int) ∈ uw_U := uw_5 (List.mem_of_getElem? (i := 218) rfl) rfl
theorem wm_X12_96 : Cond.methodLink "RhymedThenModel" 96 yX12_beside ∈ uw_U := uw_5 (List.mem_of_getElem? (i := 219) rfl) rfl
theorem wi_X12_beside : Cond.instanceMethod yX12_beside ∈ uw_U := uw_5 (List.mem_of_getElem? (i := 221) rfl) rfl
theorem wo_X12_beside : Cond.code yX12_beside cX12_beside 2 (some FieldType.int) ∈ uw_U := uw_5 (List.mem_of_getElem? (i := 222) rfl) rfl
theorem wm_L_47 : Cond.methodLink "RhymedThenLaw" 47 yX12_lag ∈ uw_U := uw_5 (List.mem_of_getElem? (i := 223) rfl) rfl
theorem wi_X12_lag : Cond.instanceMethod yX12_lag ∈ uw_U := uw_5 (List.mem_of_getElem? (i := 224) rfl) rfl
theorem ws_X12_lag : Cond.selects "RhymedThenModel" yX12_lag yX12_lag ∈ uw_U := uw_5 (List.mem_of_getElem? (i := 225) rfl) rfl
theorem wo_X12_lag : Cond.code yX12_lag cX12_lag 4 (some FieldType.int) ∈ uw_U := uw_5 (List.mem_of_getElem? (i := 226) rfl) rfl
theorem wk_X12_120 : Cond.constantLong "RhymedThenModel" 120 (200 : Int64) ∈ uw_U := uw_5 (List.mem_of_getElem? (i := 227) rfl) rfl
theorem wm_L_52 : Cond.methodLink "RhymedThenLaw" 52 yX12_lags ∈ uw_U := uw_5 (List.mem_of_getElem? (i := 228) rfl) rfl
theorem wi_X12_lags : Cond.instanceMethod yX12_lags ∈ uw_U := uw_5 (List.mem_of_getElem? (i := 229) rfl) rfl
theorem ws_X12_lags : Cond.selects "RhymedThenModel" yX12_lags yX12_lags ∈ uw_U := uw_5 (List.mem_of_getElem? (i := 230) rfl) rfl
theorem wo_X12_lags : Cond.code yX12_lags cX12_lags 9 (some FieldType.int) ∈ uw_U := uw_5 (List.mem_of_getElem? (i := 231) rfl) rfl
theorem wk_X12_125 : Cond.constantLong "RhymedThenModel" 125 (3 : Int64) ∈ uw_U := uw_5 (List.mem_of_getElem? (i := 232) rfl) rfl
theorem wm_X12_127 : Cond.methodLink "RhymedThenModel" 127 yJ9_max_7cf53 ∈ uw_U := uw_5 (List.mem_of_getElem? (i := 233) rfl) rfl
theorem wm_L_56 : Cond.methodLink "RhymedThenLaw" 56 yX12_said ∈ uw_U := uw_5 (List.mem_of_getElem? (i := 234) rfl) rfl
theorem wi_X12_said : Cond.instanceMethod yX12_said ∈ uw_U := uw_5 (List.mem_of_getElem? (i := 235) rfl) rfl
theorem ws_X12_said : Cond.selects "RhymedThenModel" yX12_said yX12_said ∈ uw_U := uw_5 (List.mem_of_getElem? (i := 236) rfl) rfl
theorem wo_X12_said : Cond.code yX12_said cX12_said 6 (some FieldType.int) ∈ uw_U := uw_5 (List.mem_of_getElem? (i := 237) rfl) rfl
theorem wm_X12_191 : Cond.methodLink "RhymedThenModel" 191 yX12_isWord ∈ uw_U := uw_5 (List.mem_of_getElem? (i := 238) rfl) rfl
theorem wi_X12_isWord : Cond.instanceMethod yX12_isWord ∈ uw_U := uw_6 (List.mem_of_getElem? (i := 0) rfl) rfl
theorem wo_X12_isWord : Cond.code yX12_isWord cX12_isWord 2 (some FieldType.boolean) ∈ uw_U := uw_6 (List.mem_of_getElem? (i := 1) rfl) rfl
theorem wm_X12_194 : Cond.methodLink "RhymedThenModel" 194 yX12_isHistory ∈ uw_U := uw_6 (List.mem_of_getElem? (i := 2) rfl) rfl
theorem wi_X12_isHistory : Cond.instanceMethod yX12_isHistory ∈ uw_U := uw_6 (List.mem_of_getElem? (i := 4) rfl) rfl
theorem wo_X12_isHistory : Cond.code yX12_isHistory cX12_isHistory 2 (some FieldType.boolean) ∈ uw_U := uw_6 (List.mem_of_getElem? (i := 5) rfl) rfl
theorem wm_X12_197 : Cond.methodLink "RhymedThenModel" 197 yX12_isThen ∈ uw_U := uw_6 (List.mem_of_getElem? (i := 6) rfl) rfl
theorem wt_X12_isThen : Cond.static yX12_isThen ∈ uw_U := uw_6 (List.mem_of_getElem? (i := 7) rfl) rfl
theorem wo_X12_isThen : Cond.code yX12_isThen cX12_isThen 2 (some FieldType.boolean) ∈ uw_U := uw_6 (List.mem_of_getElem? (i := 8) rfl) rfl
theorem wk_X12_189 : Cond.constantLong "RhymedThenModel" 189 (600 : Int64) ∈ uw_U := uw_6 (List.mem_of_getElem? (i := 9) rfl) rfl
theorem wm_X12_200 : Cond.methodLink "RhymedThenModel" 200 yX12_says ∈ uw_U := uw_6 (List.mem_of_getElem? (i := 10) rfl) rfl
theorem wi_X12_says : Cond.instanceMethod yX12_says ∈ uw_U := uw_6 (List.mem_of_getElem? (i := 12) rfl) rfl
theorem wo_X12_says : Cond.code yX12_says cX12_says 7 none ∈ uw_U := uw_6 (List.mem_of_getElem? (i := 13) rfl) rfl
theorem wm_X12_167 : Cond.methodLink "RhymedThenModel" 167 yX12_spells ∈ uw_U := uw_6 (List.mem_of_getElem? (i := 14) rfl) rfl
theorem wi_X12_spells : Cond.instanceMethod yX12_spells ∈ uw_U := uw_6 (List.mem_of_getElem? (i := 16) rfl) rfl
theorem wo_X12_spells : Cond.code yX12_spells cX12_spells 4 none ∈ uw_U := uw_6 (List.mem_of_getElem? (i := 17) rfl) rfl
theorem wm_X12_171 : Cond.methodLink "RhymedThenModel" 171 yX12_lines ∈ uw_U := uw_6 (List.mem_of_getElem? (i := 18) rfl) rfl
theorem wi_X12_lines : Cond.instanceMethod yX12_lines ∈ uw_U := uw_6 (List.mem_of_getElem? (i := 20) rfl) rfl
theorem wo_X12_lines : Cond.code yX12_lines cX12_lines 6 none ∈ uw_U := uw_6 (List.mem_of_getElem? (i := 21) rfl) rfl
theorem wm_X12_136 : Cond.methodLink "RhymedThenModel" 136 yX12_has ∈ uw_U := uw_6 (List.mem_of_getElem? (i := 22) rfl) rfl
theorem wt_X12_has : Cond.static yX12_has ∈ uw_U := uw_6 (List.mem_of_getElem? (i := 23) rfl) rfl
theorem wo_X12_has : Cond.code yX12_has cX12_has 2 (some FieldType.boolean) ∈ uw_U := uw_6 (List.mem_of_getElem? (i := 24) rfl) rfl
theorem wm_X12_140 : Cond.methodLink "RhymedThenModel" 140 yX12_yearOf ∈ uw_U := uw_6 (List.mem_of_getElem? (i := 25) rfl) rfl
theorem wi_X12_yearOf : Cond.instanceMethod yX12_yearOf ∈ uw_U := uw_6 (List.mem_of_getElem? (i := 27) rfl) rfl
theorem wo_X12_yearOf : Cond.code yX12_yearOf cX12_yearOf 5 (some FieldType.int) ∈ uw_U := uw_6 (List.mem_of_getElem? (i := 28) rfl) rfl
theorem wm_X12_175 : Cond.methodLink "RhymedThenModel" 175 yX12_worksOn ∈ uw_U := uw_6 (List.mem_of_getElem? (i := 29) rfl) rfl
theorem wi_X12_worksOn : Cond.instanceMethod yX12_worksOn ∈ uw_U := uw_6 (List.mem_of_getElem? (i := 31) rfl) rfl
theorem wo_X12_worksOn : Cond.code yX12_worksOn cX12_worksOn 11 (some FieldType.boolean) ∈ uw_U := uw_6 (List.mem_of_getElem? (i := 32) rfl) rfl
theorem wm_X12_152 : Cond.methodLink "RhymedThenModel" 152 yX12_isOf ∈ uw_U := uw_6 (List.mem_of_getElem? (i := 33) rfl) rfl
theorem wi_X12_isOf : Cond.instanceMethod yX12_isOf ∈ uw_U := uw_6 (List.mem_of_getElem? (i := 35) rfl) rfl
theorem wo_X12_isOf : Cond.code yX12_isOf cX12_isOf 3 (some FieldType.boolean) ∈ uw_U := uw_6 (List.mem_of_getElem? (i := 36) rfl) rfl
theorem wm_X12_161 : Cond.methodLink "RhymedThenModel" 161 yX12_isBeside ∈ uw_U := uw_6 (List.mem_of_getElem? (i := 37) rfl) rfl
theorem wi_X12_isBeside : Cond.instanceMethod yX12_isBeside ∈ uw_U := uw_6 (List.mem_of_getElem? (i := 39) rfl) rfl
theorem wo_X12_isBeside : Cond.code yX12_isBeside cX12_isBeside 3 (some FieldType.boolean) ∈ uw_U := uw_6 (List.mem_of_getElem? (i := 40) rfl) rfl
theorem wm_X12_18 : Cond.methodLink "RhymedThenModel" 18 yX12_enters ∈ uw_U := uw_6 (List.mem_of_getElem? (i := 41) rfl) rfl
theorem wi_X12_enters : Cond.instanceMethod yX12_enters ∈ uw_U := uw_6 (List.mem_of_getElem? (i := 43) rfl) rfl
theorem wo_X12_enters : Cond.code yX12_enters cX12_enters 3 none ∈ uw_U := uw_6 (List.mem_of_getElem? (i := 44) rfl) rfl
theorem wm_L_60 : Cond.methodLink "RhymedThenLaw" 60 yX12_changes ∈ uw_U := uw_6 (List.mem_of_getElem? (i := 45) rfl) rfl
theorem wi_X12_changes : Cond.instanceMethod yX12_changes ∈ uw_U := uw_6 (List.mem_of_getElem? (i := 46) rfl) rfl
theorem ws_X12_changes : Cond.selects "RhymedThenModel" yX12_changes yX12_changes ∈ uw_U := uw_6 (List.mem_of_getElem? (i := 47) rfl) rfl
theorem wo_X12_changes : Cond.code yX12_changes cX12_changes 5 (some FieldType.int) ∈ uw_U := uw_6 (List.mem_of_getElem? (i := 48) rfl) rfl
theorem wm_X12_204 : Cond.methodLink "RhymedThenModel" 204 yX12_areAlike ∈ uw_U := uw_6 (List.mem_of_getElem? (i := 49) rfl) rfl
theorem wi_X12_areAlike : Cond.instanceMethod yX12_areAlike ∈ uw_U := uw_6 (List.mem_of_getElem? (i := 51) rfl) rfl
theorem wo_X12_areAlike : Cond.code yX12_areAlike cX12_areAlike 3 (some FieldType.boolean) ∈ uw_U := uw_6 (List.mem_of_getElem? (i := 52) rfl) rfl
theorem wm_L_65 : Cond.methodLink "RhymedThenLaw" 65 yX12_alike ∈ uw_U := uw_6 (List.mem_of_getElem? (i := 53) rfl) rfl
theorem wi_X12_alike : Cond.instanceMethod yX12_alike ∈ uw_U := uw_6 (List.mem_of_getElem? (i := 54) rfl) rfl
theorem ws_X12_alike : Cond.selects "RhymedThenModel" yX12_alike yX12_alike ∈ uw_U := uw_6 (List.mem_of_getElem? (i := 55) rfl) rfl
theorem wo_X12_alike : Cond.code yX12_alike cX12_alike 6 (some FieldType.int) ∈ uw_U := uw_6 (List.mem_of_getElem? (i := 56) rfl) rfl
theorem wm_X12_207 : Cond.methodLink "RhymedThenModel" 207 yX12_saysBoth ∈ uw_U := uw_6 (List.mem_of_getElem? (i := 57) rfl) rfl
theorem wi_X12_saysBoth : Cond.instanceMethod yX12_saysBoth ∈ uw_U := uw_6 (List.mem_of_getElem? (i := 59) rfl) rfl
theorem wo_X12_saysBoth : Cond.code yX12_saysBoth cX12_saysBoth 6 none ∈ uw_U := uw_6 (List.mem_of_getElem? (i := 60) rfl) rfl
theorem wm_X12_210 : Cond.methodLink "RhymedThenModel" 210 yX12_areRhymes ∈ uw_U := uw_6 (List.mem_of_getElem? (i := 61) rfl) rfl
theorem wi_X12_areRhymes : Cond.instanceMethod yX12_areRhymes ∈ uw_U := uw_6 (List.mem_of_getElem? (i := 63) rfl) rfl
theorem wo_X12_areRhymes : Cond.code yX12_areRhymes cX12_areRhymes 1 (some FieldType.boolean) ∈ uw_U := uw_6 (List.mem_of_getElem? (i := 64) rfl) rfl
theorem wm_X12_182 : Cond.methodLink "RhymedThenModel" 182 yX12_haveTails ∈ uw_U := uw_6 (List.mem_of_getElem? (i := 65) rfl) rfl
theorem wi_X12_haveTails : Cond.instanceMethod yX12_haveTails ∈ uw_U := uw_6 (List.mem_of_getElem? (i := 67) rfl) rfl
theorem wo_X12_haveTails : Cond.code yX12_haveTails cX12_haveTails 1 (some FieldType.boolean) ∈ uw_U := uw_6 (List.mem_of_getElem? (i := 68) rfl) rfl
theorem wm_X12_178 : Cond.methodLink "RhymedThenModel" 178 yX12_tailAt ∈ uw_U := uw_6 (List.mem_of_getElem? (i := 69) rfl) rfl
theorem wi_X12_tailAt : Cond.instanceMethod yX12_tailAt ∈ uw_U := uw_6 (List.mem_of_getElem? (i := 71) rfl) rfl
theorem wo_X12_tailAt : Cond.code yX12_tailAt cX12_tailAt 4 (some FieldType.int) ∈ uw_U := uw_6 (List.mem_of_getElem? (i := 72) rfl) rfl
theorem wm_X12_186 : Cond.methodLink "RhymedThenModel" 186 yX12_areTailsAlike ∈ uw_U := uw_6 (List.mem_of_getElem? (i := 73) rfl) rfl
theorem wi_X12_areTailsAlike : Cond.instanceMethod yX12_areTailsAlike ∈ uw_U := uw_6 (List.mem_of_getElem? (i := 75) rfl) rfl
theorem wo_X12_areTailsAlike : Cond.code yX12_areTailsAlike cX12_areTailsAlike 5 (some FieldType.boolean) ∈ uw_U := uw_6 (List.mem_of_getElem? (i := 76) rfl) rfl
theorem wm_L_69 : Cond.methodLink "RhymedThenLaw" 69 yX12_one ∈ uw_U := uw_6 (List.mem_of_getElem? (i := 77) rfl) rfl
theorem wi_X12_one : Cond.instanceMethod yX12_one ∈ uw_U := uw_6 (List.mem_of_getElem? (i := 78) rfl) rfl
theorem ws_X12_one : Cond.selects "RhymedThenModel" yX12_one yX12_one ∈ uw_U := uw_6 (List.mem_of_getElem? (i := 79) rfl) rfl
theorem wo_X12_one : Cond.code yX12_one cX12_one 9 (some FieldType.int) ∈ uw_U := uw_6 (List.mem_of_getElem? (i := 80) rfl) rfl
theorem wm_L_73 : Cond.methodLink "RhymedThenLaw" 73 yX12_rhymes ∈ uw_U := uw_6 (List.mem_of_getElem? (i := 81) rfl) rfl
theorem wi_X12_rhymes : Cond.instanceMethod yX12_rhymes ∈ uw_U := uw_6 (List.mem_of_getElem? (i := 82) rfl) rfl
theorem ws_X12_rhymes : Cond.selects "RhymedThenModel" yX12_rhymes yX12_rhymes ∈ uw_U := uw_6 (List.mem_of_getElem? (i := 83) rfl) rfl
theorem wo_X12_rhymes : Cond.code yX12_rhymes cX12_rhymes 6 (some FieldType.int) ∈ uw_U := uw_6 (List.mem_of_getElem? (i := 84) rfl) rfl
theorem wm_L_77 : Cond.methodLink "RhymedThenLaw" 77 yX12_chance ∈ uw_U := uw_6 (List.mem_of_getElem? (i := 85) rfl) rfl
theorem wi_X12_chance : Cond.instanceMethod yX12_chance ∈ uw_U := uw_6 (List.mem_of_getElem? (i := 86) rfl) rfl
theorem ws_X12_chance : Cond.selects "RhymedThenModel" yX12_chance yX12_chance ∈ uw_U := uw_6 (List.mem_of_getElem? (i := 87) rfl) rfl
theorem wo_X12_chance : Cond.code yX12_chance cX12_chance 7 (some FieldType.int) ∈ uw_U := uw_6 (List.mem_of_getElem? (i := 88) rfl) rfl
theorem wm_X12_213 : Cond.methodLink "RhymedThenModel" 213 yX12_entersFraction ∈ uw_U := uw_6 (List.mem_of_getElem? (i := 89) rfl) rfl
theorem wi_X12_entersFraction : Cond.instanceMethod yX12_entersFraction ∈ uw_U := uw_6 (List.mem_of_getElem? (i := 91) rfl) rfl
theorem wo_X12_entersFraction : Cond.code yX12_entersFraction cX12_entersFraction 7 none ∈ uw_U := uw_6 (List.mem_of_getElem? (i := 92) rfl) rfl
theorem wm_X12_14 : Cond.methodLink "RhymedThenModel" 14 yX12_common ∈ uw_U := uw_6 (List.mem_of_getElem? (i := 93) rfl) rfl
theorem wt_X12_common : Cond.static yX12_common ∈ uw_U := uw_6 (List.mem_of_getElem? (i := 94) rfl) rfl
theorem wo_X12_common : Cond.code yX12_common cX12_common 10 (some FieldType.long) ∈ uw_U := uw_6 (List.mem_of_getElem? (i := 95) rfl) rfl
theorem wm_L_81 : Cond.methodLink "RhymedThenLaw" 81 yX12_works ∈ uw_U := uw_6 (List.mem_of_getElem? (i := 96) rfl) rfl
theorem wi_X12_works : Cond.instanceMethod yX12_works ∈ uw_U := uw_6 (List.mem_of_getElem? (i := 97) rfl) rfl
theorem ws_X12_works : Cond.selects "RhymedThenModel" yX12_works yX12_works ∈ uw_U := uw_6 (List.mem_of_getElem? (i := 98) rfl) rfl
theorem wo_X12_works : Cond.code yX12_works cX12_works 9 (some FieldType.int) ∈ uw_U := uw_6 (List.mem_of_getElem? (i := 99) rfl) rfl
theorem wm_X12_217 : Cond.methodLink "RhymedThenModel" 217 yX12_isLaw ∈ uw_U := uw_6 (List.mem_of_getElem? (i := 100) rfl) rfl
theorem wi_X12_isLaw : Cond.instanceMethod yX12_isLaw ∈ uw_U := uw_6 (List.mem_of_getElem? (i := 102) rfl) rfl
theorem wo_X12_isLaw : Cond.code yX12_isLaw cX12_isLaw 2 (some FieldType.boolean) ∈ uw_U := uw_6 (List.mem_of_getElem? (i := 103) rfl) rfl
theorem wm_L_86 : Cond.methodLink "RhymedThenLaw" 86 yX12_mark ∈ uw_U := uw_6 (List.mem_of_getElem? (i := 104) rfl) rfl
theorem wi_X12_mark : Cond.instanceMethod yX12_mark ∈ uw_U := uw_6 (List.mem_of_getElem? (i := 105) rfl) rfl
theorem ws_X12_mark : Cond.selects "RhymedThenModel" yX12_mark yX12_mark ∈ uw_U := uw_6 (List.mem_of_getElem? (i := 106) rfl) rfl
theorem wo_X12_mark : Cond.code yX12_mark cX12_mark 7 (some FieldType.int) ∈ uw_U := uw_6 (List.mem_of_getElem? (i := 107) rfl) rfl
theorem wm_X12_254 : Cond.methodLink "RhymedThenModel" 254 yX12_isMark ∈ uw_U := uw_6 (List.mem_of_getElem? (i := 108) rfl) rfl
theorem wi_X12_isMark : Cond.instanceMethod yX12_isMark ∈ uw_U := uw_6 (List.mem_of_getElem? (i := 110) rfl) rfl
theorem wo_X12_isMark : Cond.code yX12_isMark cX12_isMark 9 (some FieldType.boolean) ∈ uw_U := uw_6 (List.mem_of_getElem? (i := 111) rfl) rfl
theorem wk_X12_220 : Cond.constantLong "RhymedThenModel" 220 (4 : Int64) ∈ uw_U := uw_6 (List.mem_of_getElem? (i := 112) rfl) rfl
theorem wk_X12_222 : Cond.constantLong "RhymedThenModel" 222 (8 : Int64) ∈ uw_U := uw_6 (List.mem_of_getElem? (i := 113) rfl) rfl
theorem wk_X12_224 : Cond.constantLong "RhymedThenModel" 224 (127 : Int64) ∈ uw_U := uw_6 (List.mem_of_getElem? (i := 114) rfl) rfl
theorem wm_X12_261 : Cond.methodLink "RhymedThenModel" 261 yX12_lays ∈ uw_U := uw_6 (List.mem_of_getElem? (i := 115) rfl) rfl
theorem wi_X12_lays : Cond.instanceMethod yX12_lays ∈ uw_U := uw_6 (List.mem_of_getElem? (i := 117) rfl) rfl
theorem wo_X12_lays : Cond.code yX12_lays cX12_lays 8 none ∈ uw_U := uw_6 (List.mem_of_getElem? (i := 118) rfl) rfl
theorem wm_L_91 : Cond.methodLink "RhymedThenLaw" 91 yX12_by ∈ uw_U := uw_6 (List.mem_of_getElem? (i := 119) rfl) rfl
theorem wi_X12_by : Cond.instanceMethod yX12_by ∈ uw_U := uw_6 (List.mem_of_getElem? (i := 120) rfl) rfl
theorem ws_X12_by : Cond.selects "RhymedThenModel" yX12_by yX12_by ∈ uw_U := uw_6 (List.mem_of_getElem? (i := 121) rfl) rfl
theorem wo_X12_by : Cond.code yX12_by cX12_by 4 (some FieldType.boolean) ∈ uw_U := uw_6 (List.mem_of_getElem? (i := 122) rfl) rfl
theorem wm_X12_265 : Cond.methodLink "RhymedThenModel" 265 yX12_isSign ∈ uw_U := uw_6 (List.mem_of_getElem? (i := 123) rfl) rfl
theorem wi_X12_isSign : Cond.instanceMethod yX12_isSign ∈ uw_U := uw_6 (List.mem_of_getElem? (i := 125) rfl) rfl
theorem wo_X12_isSign : Cond.code yX12_isSign cX12_isSign 2 (some FieldType.boolean) ∈ uw_U := uw_6 (List.mem_of_getElem? (i := 126) rfl) rfl
theorem wk_X12_268 : Cond.constantLong "RhymedThenModel" 268 (9 : Int64) ∈ uw_U := uw_6 (List.mem_of_getElem? (i := 127) rfl) rfl
theorem wm_L_96 : Cond.methodLink "RhymedThenLaw" 96 yX12_turn ∈ uw_U := uw_6 (List.mem_of_getElem? (i := 128) rfl) rfl
theorem wi_X12_turn : Cond.instanceMethod yX12_turn ∈ uw_U := uw_6 (List.mem_of_getElem? (i := 129) rfl) rfl
theorem ws_X12_turn : Cond.selects "RhymedThenModel" yX12_turn yX12_turn ∈ uw_U := uw_6 (List.mem_of_getElem? (i := 130) rfl) rfl
theorem wo_X12_turn : Cond.code yX12_turn cX12_turn 3 (some FieldType.boolean) ∈ uw_U := uw_6 (List.mem_of_getElem? (i := 131) rfl) rfl
theorem wm_L_100 : Cond.methodLink "RhymedThenLaw" 100 yX12_holds ∈ uw_U := uw_6 (List.mem_of_getElem? (i := 132) rfl) rfl
theorem wi_X12_holds : Cond.instanceMethod yX12_holds ∈ uw_U := uw_6 (List.mem_of_getElem? (i := 133) rfl) rfl
theorem ws_X12_holds : Cond.selects "RhymedThenModel" yX12_holds yX12_holds ∈ uw_U := uw_6 (List.mem_of_getElem? (i := 134) rfl) rfl
theorem wo_X12_holds : Cond.code yX12_holds cX12_holds 3 (some FieldType.int) ∈ uw_U := uw_6 (List.mem_of_getElem? (i := 135) rfl) rfl
theorem wm_X12_270 : Cond.methodLink "RhymedThenModel" 270 yX12_isHeld ∈ uw_U := uw_6 (List.mem_of_getElem? (i := 136) rfl) rfl
theorem wi_X12_isHeld : Cond.instanceMethod yX12_isHeld ∈ uw_U := uw_6 (List.mem_of_getElem? (i := 138) rfl) rfl
theorem wo_X12_isHeld : Cond.code yX12_isHeld cX12_isHeld 5 (some FieldType.boolean) ∈ uw_U := uw_6 (List.mem_of_getElem? (i := 139) rfl) rfl
theorem wm_L_104 : Cond.methodLink "RhymedThenLaw" 104 yX12_fits ∈ uw_U := uw_6 (List.mem_of_getElem? (i := 140) rfl) rfl
theorem wi_X12_fits : Cond.instanceMethod yX12_fits ∈ uw_U := uw_6 (List.mem_of_getElem? (i := 141) rfl) rfl
theorem ws_X12_fits : Cond.selects "RhymedThenModel" yX12_fits yX12_fits ∈ uw_U := uw_6 (List.mem_of_getElem? (i := 142) rfl) rfl
theorem wo_X12_fits : Cond.code yX12_fits cX12_fits 1 (some FieldType.int) ∈ uw_U := uw_6 (List.mem_of_getElem? (i := 143) rfl) rfl
theorem wm_X12_282 : Cond.methodLink "RhymedThenModel" 282 yX12_gathers ∈ uw_U := uw_6 (List.mem_of_getElem? (i := 144) rfl) rfl
theorem wi_X12_gathers : Cond.instanceMethod yX12_gathers ∈ uw_U := uw_6 (List.mem_of_getElem? (i := 146) rfl) rfl
theorem wo_X12_gathers : Cond.code yX12_gathers cX12_gathers 3 none ∈ uw_U := uw_6 (List.mem_of_getElem? (i := 147) rfl) rfl
theorem wm_X12_276 : Cond.methodLink "RhymedThenModel" 276 yX12_isFit ∈ uw_U := uw_6 (List.mem_of_getElem? (i := 148) rfl) rfl
theorem wi_X12_isFit : Cond.instanceMethod yX12_isFit ∈ uw_U := uw_6 (List.mem_of_getElem? (i := 150) rfl) rfl
theorem wo_X12_isFit : Cond.code yX12_isFit cX12_isFit 3 (some FieldType.boolean) ∈ uw_U := uw_6 (List.mem_of_getElem? (i := 151) rfl) rfl
theorem wm_L_108 : Cond.methodLink "RhymedThenLaw" 108 yX12_span ∈ uw_U := uw_6 (List.mem_of_getElem? (i := 152) rfl) rfl
theorem wi_X12_span : Cond.instanceMethod yX12_span ∈ uw_U := uw_6 (List.mem_of_getElem? (i := 153) rfl) rfl
theorem ws_X12_span : Cond.selects "RhymedThenModel" yX12_span yX12_span ∈ uw_U := uw_6 (List.mem_of_getElem? (i := 154) rfl) rfl
theorem wo_X12_span : Cond.code yX12_span cX12_span 6 (some FieldType.int) ∈ uw_U := uw_6 (List.mem_of_getElem? (i := 155) rfl) rfl
theorem wm_L_112 : Cond.methodLink "RhymedThenLaw" 112 yX12_order ∈ uw_U := uw_6 (List.mem_of_getElem? (i := 156) rfl) rfl
theorem wi_X12_order : Cond.instanceMethod yX12_order ∈ uw_U := uw_6 (List.mem_of_getElem? (i := 157) rfl) rfl
theorem ws_X12_order : Cond.selects "RhymedThenModel" yX12_order yX12_order ∈ uw_U := uw_6 (List.mem_of_getElem? (i := 158) rfl) rfl
theorem wo_X12_order : Cond.code yX12_order cX12_order 7 (some FieldType.int) ∈ uw_U := uw_6 (List.mem_of_getElem? (i := 159) rfl) rfl
theorem wm_L_116 : Cond.methodLink "RhymedThenLaw" 116 yX12_wrong ∈ uw_U := uw_6 (List.mem_of_getElem? (i := 160) rfl) rfl
theorem wi_X12_wrong : Cond.instanceMethod yX12_wrong ∈ uw_U := uw_6 (List.mem_of_getElem? (i := 161) rfl) rfl
theorem ws_X12_wrong : Cond.selects "RhymedThenModel" yX12_wrong yX12_wrong ∈ uw_U := uw_6 (List.mem_of_getElem? (i := 162) rfl) rfl
theorem wo_X12_wrong : Cond.code yX12_wrong cX12_wrong 6 (some FieldType.int) ∈ uw_U := uw_6 (List.mem_of_getElem? (i := 163) rfl) rfl
theorem wm_X12_286 : Cond.methodLink "RhymedThenModel" 286 yX12_wrongs ∈ uw_U := uw_6 (List.mem_of_getElem? (i := 164) rfl) rfl
theorem wi_X12_wrongs : Cond.instanceMethod yX12_wrongs ∈ uw_U := uw_6 (List.mem_of_getElem? (i := 166) rfl) rfl
theorem wo_X12_wrongs : Cond.code yX12_wrongs cX12_wrongs 4 (some FieldType.int) ∈ uw_U := uw_6 (List.mem_of_getElem? (i := 167) rfl) rfl
theorem wm_X12_289 : Cond.methodLink "RhymedThenModel" 289 yJ6_bitCount_0f7a4 ∈ uw_U := uw_6 (List.mem_of_getElem? (i := 168) rfl) rfl
theorem wm_L_120 : Cond.methodLink "RhymedThenLaw" 120 yX12_blunder ∈ uw_U := uw_6 (List.mem_of_getElem? (i := 169) rfl) rfl
theorem wi_X12_blunder : Cond.instanceMethod yX12_blunder ∈ uw_U := uw_6 (List.mem_of_getElem? (i := 170) rfl) rfl
theorem ws_X12_blunder : Cond.selects "RhymedThenModel" yX12_blunder yX12_blunder ∈ uw_U := uw_6 (List.mem_of_getElem? (i := 171) rfl) rfl
theorem wo_X12_blunder : Cond.code yX12_blunder cX12_blunder 5 (some FieldType.int) ∈ uw_U := uw_6 (List.mem_of_getElem? (i := 172) rfl) rfl
theorem wm_L_124 : Cond.methodLink "RhymedThenLaw" 124 yX12_sure ∈ uw_U := uw_6 (List.mem_of_getElem? (i := 173) rfl) rfl
theorem wi_X12_sure : Cond.instanceMethod yX12_sure ∈ uw_U := uw_6 (List.mem_of_getElem? (i := 174) rfl) rfl
theorem ws_X12_sure : Cond.selects "RhymedThenModel" yX12_sure yX12_sure ∈ uw_U := uw_6 (List.mem_of_getElem? (i := 175) rfl) rfl
theorem wo_X12_sure : Cond.code yX12_sure cX12_sure 7 (some FieldType.int) ∈ uw_U := uw_6 (List.mem_of_getElem? (i := 176) rfl) rfl
theorem wm_X12_303 : Cond.methodLink "RhymedThenModel" 303 yX12_packs ∈ uw_U := uw_6 (List.mem_of_getElem? (i := 177) rfl) rfl
theorem wi_X12_packs : Cond.instanceMethod yX12_packs ∈ uw_U := uw_6 (List.mem_of_getElem? (i := 179) rfl) rfl
theorem wo_X12_packs : Cond.code yX12_packs cX12_packs 5 (some FieldType.long) ∈ uw_U := uw_6 (List.mem_of_getElem? (i := 180) rfl) rfl
theorem wm_X12_307 : Cond.methodLink "RhymedThenModel" 307 yX12_notes ∈ uw_U := uw_6 (List.mem_of_getElem? (i := 181) rfl) rfl
theorem wi_X12_notes : Cond.instanceMethod yX12_notes ∈ uw_U := uw_6 (List.mem_of_getElem? (i := 183) rfl) rfl
theorem wo_X12_notes : Cond.code yX12_notes cX12_notes 6 none ∈ uw_U := uw_6 (List.mem_of_getElem? (i := 184) rfl) rfl
theorem wm_L_128 : Cond.methodLink "RhymedThenLaw" 128 yX12_shows ∈ uw_U := uw_6 (List.mem_of_getElem? (i := 185) rfl) rfl
theorem wi_X12_shows : Cond.instanceMethod yX12_shows ∈ uw_U := uw_6 (List.mem_of_getElem? (i := 186) rfl) rfl
theorem ws_X12_shows : Cond.selects "RhymedThenModel" yX12_shows yX12_shows ∈ uw_U := uw_6 (List.mem_of_getElem? (i := 187) rfl) rfl
theorem wo_X12_shows : Cond.code yX12_shows cX12_shows 5 (some FieldType.int) ∈ uw_U := uw_6 (List.mem_of_getElem? (i := 188) rfl) rfl
theorem wm_L_132 : Cond.methodLink "RhymedThenLaw" 132 yX12_least ∈ uw_U := uw_6 (List.mem_of_getElem? (i := 189) rfl) rfl
theorem wi_X12_least : Cond.instanceMethod yX12_least ∈ uw_U := uw_6 (List.mem_of_getElem? (i := 190) rfl) rfl
theorem ws_X12_least : Cond.selects "RhymedThenModel" yX12_least yX12_least ∈ uw_U := uw_6 (List.mem_of_getElem? (i := 191) rfl) rfl
theorem wo_X12_least : Cond.code yX12_least cX12_least 6 (some FieldType.int) ∈ uw_U := uw_6 (List.mem_of_getElem? (i := 192) rfl) rfl
theorem wm_L_136 : Cond.methodLink "RhymedThenLaw" 136 yX12_odds ∈ uw_U := uw_6 (List.mem_of_getElem? (i := 193) rfl) rfl
theorem wi_X12_odds : Cond.instanceMethod yX12_odds ∈ uw_U := uw_6 (List.mem_of_getElem? (i := 194) rfl) rfl
theorem ws_X12_odds : Cond.selects "RhymedThenModel" yX12_odds yX12_odds ∈ uw_U := uw_6 (List.mem_of_getElem? (i := 195) rfl) rfl
theorem wo_X12_odds : Cond.code yX12_odds cX12_odds 10 (some FieldType.int) ∈ uw_U := uw_6 (List.mem_of_getElem? (i := 196) rfl) rfl
theorem wm_X12_310 : Cond.methodLink "RhymedThenModel" 310 yX12_onMany ∈ uw_U := uw_6 (List.mem_of_getElem? (i := 197) rfl) rfl
theorem wi_X12_onMany : Cond.instanceMethod yX12_onMany ∈ uw_U := uw_6 (List.mem_of_getElem? (i := 199) rfl) rfl
theorem wo_X12_onMany : Cond.code yX12_onMany cX12_onMany 4 (some FieldType.int) ∈ uw_U := uw_6 (List.mem_of_getElem? (i := 200) rfl) rfl
theorem wm_X12_313 : Cond.methodLink "RhymedThenModel" 313 yX12_weightOf ∈ uw_U := uw_6 (List.mem_of_getElem? (i := 201) rfl) rfl
theorem wi_X12_weightOf : Cond.instanceMethod yX12_weightOf ∈ uw_U := uw_6 (List.mem_of_getElem? (i := 203) rfl) rfl
theorem wo_X12_weightOf : Cond.code yX12_weightOf cX12_weightOf 6 (some FieldType.long) ∈ uw_U := uw_6 (List.mem_of_getElem? (i := 204) rfl) rfl
theorem wm_L_140 : Cond.methodLink "RhymedThenLaw" 140 yX12_then ∈ uw_U := uw_6 (List.mem_of_getElem? (i := 205) rfl) rfl
theorem wi_X12_then : Cond.instanceMethod yX12_then ∈ uw_U := uw_6 (List.mem_of_getElem? (i := 206) rfl) rfl
theorem ws_X12_then : Cond.selects "RhymedThenModel" yX12_then yX12_then ∈ uw_U := uw_6 (List.mem_of_getElem? (i := 207) rfl) rfl
theorem wo_X12_then : Cond.code yX12_then cX12_then 9 (some FieldType.int) ∈ uw_U := uw_6 (List.mem_of_getElem? (i := 208) rfl) rfl
theorem wm_X12_320 : Cond.methodLink "RhymedThenModel" 320 yX12_weighsAll ∈ uw_U := uw_6 (List.mem_of_getElem? (i := 209) rfl) rfl
theorem wi_X12_weighsAll : Cond.instanceMethod yX12_weighsAll ∈ uw_U := uw_6 (List.mem_of_getElem? (i := 211) rfl) rfl
theorem wo_X12_weighsAll : Cond.code yX12_weighsAll cX12_weighsAll 5 (some FieldType.long) ∈ uw_U := uw_6 (List.mem_of_getElem? (i := 212) rfl) rfl
theorem wm_X12_324 : Cond.methodLink "RhymedThenModel" 324 yX12_likeliest ∈ uw_U := uw_6 (List.mem_of_getElem? (i := 213) rfl) rfl
theorem wi_X12_likeliest : Cond.instanceMethod yX12_likeliest ∈ uw_U := uw_6 (List.mem_of_getElem? (i := 215) rfl) rfl
theorem wo_X12_likeliest : Cond.code yX12_likeliest cX12_likeliest 7 (some FieldType.int) ∈ uw_U := uw_6 (List.mem_of_getElem? (i := 216) rfl) rfl
theorem wm_X12_328 : Cond.methodLink "RhymedThenModel" 328 yX12_longOf ∈ uw_U := uw_6 (List.mem_of_getElem? (i := 217) rfl) rfl
theorem wt_X12_longOf : Cond.static yX12_longOf ∈ uw_U := uw_6 (List.mem_of_getElem? (i := 218) rfl) rfl
theorem wo_X12_longOf : Cond.code yX12_longOf cX12_longOf 5 (some FieldType.int) ∈ uw_U := uw_6 (List.mem_of_getElem? (i := 219) rfl) rfl
theorem wk_X12_332 : Cond.constantLong "RhymedThenModel" 332 (15 : Int64) ∈ uw_U := uw_6 (List.mem_of_getElem? (i := 220) rfl) rfl
theorem wm_L_144 : Cond.methodLink "RhymedThenLaw" 144 yX12_right ∈ uw_U := uw_6 (List.mem_of_getElem? (i := 221) rfl) rfl
theorem wi_X12_right : Cond.instanceMethod yX12_right ∈ uw_U := uw_6 (List.mem_of_getElem? (i := 222) rfl) rfl
theorem ws_X12_right : Cond.selects "RhymedThenModel" yX12_right yX12_right ∈ uw_U := uw_6 (List.mem_of_getElem? (i := 223) rfl) rfl
theorem wo_X12_right : Cond.code yX12_right cX12_right 7 (some FieldType.int) ∈ uw_U := uw_6 (List.mem_of_getElem? (i := 224) rfl) rfl
theorem wm_L_148 : Cond.methodLink "RhymedThenLaw" 148 yX12_likely ∈ uw_U := uw_6 (List.mem_of_getElem? (i := 225) rfl) rfl
theorem wi_X12_likely : Cond.instanceMethod yX12_likely ∈ uw_U := uw_6 (List.mem_of_getElem? (i := 226) rfl) rfl
theorem ws_X12_likely : Cond.selects "RhymedThenModel" yX12_likely yX12_likely ∈ uw_U := uw_6 (List.mem_of_getElem? (i := 227) rfl) rfl
theorem wo_X12_likely : Cond.code yX12_likely cX12_likely 6 (some FieldType.int) ∈ uw_U := uw_6 (List.mem_of_getElem? (i := 228) rfl) rfl
theorem wm_L_152 : Cond.methodLink "RhymedThenLaw" 152 yX12_next ∈ uw_U := uw_6 (List.mem_of_getElem? (i := 229) rfl) rfl
theorem wi_X12_next : Cond.instanceMethod yX12_next ∈ uw_U := uw_6 (List.mem_of_getElem? (i := 230) rfl) rfl
theorem ws_X12_next : Cond.selects "RhymedThenModel" yX12_next yX12_next ∈ uw_U := uw_6 (List.mem_of_getElem? (i := 231) rfl) rfl
theorem wo_X12_next : Cond.code yX12_next cX12_next 5 (some FieldType.int) ∈ uw_U := uw_6 (List.mem_of_getElem? (i := 232) rfl) rfl
theorem wm_X12_334 : Cond.methodLink "RhymedThenModel" 334 yX12_heldBy ∈ uw_U := uw_6 (List.mem_of_getElem? (i := 233) rfl) rfl
theorem wi_X12_heldBy : Cond.instanceMethod yX12_heldBy ∈ uw_U := uw_6 (List.mem_of_getElem? (i := 235) rfl) rfl
theorem wo_X12_heldBy : Cond.code yX12_heldBy cX12_heldBy 4 (some FieldType.int) ∈ uw_U := uw_6 (List.mem_of_getElem? (i := 236) rfl) rfl
theorem wm_X12_337 : Cond.methodLink "RhymedThenModel" 337 yJ9_abs_0f7a4 ∈ uw_U := uw_6 (List.mem_of_getElem? (i := 237) rfl) rfl
theorem wm_L_156 : Cond.methodLink "RhymedThenLaw" 156 yX12_eye ∈ uw_U := uw_6 (List.mem_of_getElem? (i := 238) rfl) rfl
theorem wi_X12_eye : Cond.instanceMethod yX12_eye ∈ uw_U := uw_6 (List.mem_of_getElem? (i := 239) rfl) rfl
theorem ws_X12_eye : Cond.selects "RhymedThenModel" yX12_eye yX12_eye ∈ uw_U := uw_7 (List.mem_of_getElem? (i := 0) rfl) rfl
theorem wo_X12_eye : Cond.code yX12_eye cX12_eye 8 (some FieldType.int) ∈ uw_U := uw_7 (List.mem_of_getElem? (i := 1) rfl) rfl
theorem wm_L_160 : Cond.methodLink "RhymedThenLaw" 160 yX12_lean ∈ uw_U := uw_7 (List.mem_of_getElem? (i := 2) rfl) rfl
theorem wi_X12_lean : Cond.instanceMethod yX12_lean ∈ uw_U := uw_7 (List.mem_of_getElem? (i := 3) rfl) rfl
theorem ws_X12_lean : Cond.selects "RhymedThenModel" yX12_lean yX12_lean ∈ uw_U := uw_7 (List.mem_of_getElem? (i := 4) rfl) rfl
theorem wo_X12_lean : Cond.code yX12_lean cX12_lean 10 (some FieldType.int) ∈ uw_U := uw_7 (List.mem_of_getElem? (i := 5) rfl) rfl
theorem wm_L_164 : Cond.methodLink "RhymedThenLaw" 164 yX12_ahead ∈ uw_U := uw_7 (List.mem_of_getElem? (i := 6) rfl) rfl
theorem wi_X12_ahead : Cond.instanceMethod yX12_ahead ∈ uw_U := uw_7 (List.mem_of_getElem? (i := 7) rfl) rfl
theorem ws_X12_ahead : Cond.selects "RhymedThenModel" yX12_ahead yX12_ahead ∈ uw_U := uw_7 (List.mem_of_getElem? (i := 8) rfl) rfl
theorem wo_X12_ahead : Cond.code yX12_ahead cX12_ahead 7 (some FieldType.int) ∈ uw_U := uw_7 (List.mem_of_getElem? (i := 9) rfl) rfl
theorem wm_X12_343 : Cond.methodLink "RhymedThenModel" 343 yX12_isAnyFit ∈ uw_U := uw_7 (List.mem_of_getElem? (i := 10) rfl) rfl
theorem wi_X12_isAnyFit : Cond.instanceMethod yX12_isAnyFit ∈ uw_U := uw_7 (List.mem_of_getElem? (i := 12) rfl) rfl
theorem wo_X12_isAnyFit : Cond.code yX12_isAnyFit cX12_isAnyFit 3 (some FieldType.boolean) ∈ uw_U := uw_7 (List.mem_of_getElem? (i := 13) rfl) rfl
theorem wm_L_168 : Cond.methodLink "RhymedThenLaw" 168 yX12_stage ∈ uw_U := uw_7 (List.mem_of_getElem? (i := 14) rfl) rfl
theorem wi_X12_stage : Cond.instanceMethod yX12_stage ∈ uw_U := uw_7 (List.mem_of_getElem? (i := 15) rfl) rfl
theorem ws_X12_stage : Cond.selects "RhymedThenModel" yX12_stage yX12_stage ∈ uw_U := uw_7 (List.mem_of_getElem? (i := 16) rfl) rfl
theorem wo_X12_stage : Cond.code yX12_stage cX12_stage 9 (some FieldType.int) ∈ uw_U := uw_7 (List.mem_of_getElem? (i := 17) rfl) rfl
theorem wm_X12_361 : Cond.methodLink "RhymedThenModel" 361 yX12_isOnStage ∈ uw_U := uw_7 (List.mem_of_getElem? (i := 18) rfl) rfl
theorem wi_X12_isOnStage : Cond.instanceMethod yX12_isOnStage ∈ uw_U := uw_7 (List.mem_of_getElem? (i := 20) rfl) rfl
theorem wo_X12_isOnStage : Cond.code yX12_isOnStage cX12_isOnStage 2 (some FieldType.boolean) ∈ uw_U := uw_7 (List.mem_of_getElem? (i := 21) rfl) rfl
theorem wm_X12_355 : Cond.methodLink "RhymedThenModel" 355 yX12_stages ∈ uw_U := uw_7 (List.mem_of_getElem? (i := 22) rfl) rfl
theorem wi_X12_stages : Cond.instanceMethod yX12_stages ∈ uw_U := uw_7 (List.mem_of_getElem? (i := 24) rfl) rfl
theorem wo_X12_stages : Cond.code yX12_stages cX12_stages 8 none ∈ uw_U := uw_7 (List.mem_of_getElem? (i := 25) rfl) rfl
theorem wm_X12_358 : Cond.methodLink "RhymedThenModel" 358 yX12_stagedAt ∈ uw_U := uw_7 (List.mem_of_getElem? (i := 26) rfl) rfl
theorem wi_X12_stagedAt : Cond.instanceMethod yX12_stagedAt ∈ uw_U := uw_7 (List.mem_of_getElem? (i := 28) rfl) rfl
theorem wo_X12_stagedAt : Cond.code yX12_stagedAt cX12_stagedAt 4 (some FieldType.int) ∈ uw_U := uw_7 (List.mem_of_getElem? (i := 29) rfl) rfl
theorem wm_L_172 : Cond.methodLink "RhymedThenLaw" 172 yX12_might ∈ uw_U := uw_7 (List.mem_of_getElem? (i := 30) rfl) rfl
theorem wi_X12_might : Cond.instanceMethod yX12_might ∈ uw_U := uw_7 (List.mem_of_getElem? (i := 31) rfl) rfl
theorem ws_X12_might : Cond.selects "RhymedThenModel" yX12_might yX12_might ∈ uw_U := uw_7 (List.mem_of_getElem? (i := 32) rfl) rfl
theorem wo_X12_might : Cond.code yX12_might cX12_might 8 (some FieldType.int) ∈ uw_U := uw_7 (List.mem_of_getElem? (i := 33) rfl) rfl
theorem wm_L_176 : Cond.methodLink "RhymedThenLaw" 176 yX12_look ∈ uw_U := uw_7 (List.mem_of_getElem? (i := 34) rfl) rfl
theorem wi_X12_look : Cond.instanceMethod yX12_look ∈ uw_U := uw_7 (List.mem_of_getElem? (i := 35) rfl) rfl
theorem ws_X12_look : Cond.selects "RhymedThenModel" yX12_look yX12_look ∈ uw_U := uw_7 (List.mem_of_getElem? (i := 36) rfl) rfl
theorem wo_X12_look : Cond.code yX12_look cX12_look 9 (some FieldType.int) ∈ uw_U := uw_7 (List.mem_of_getElem? (i := 37) rfl) rfl
theorem wm_L_180 : Cond.methodLink "RhymedThenLaw" 180 yX12_settled ∈ uw_U := uw_7 (List.mem_of_getElem? (i := 38) rfl) rfl
theorem wi_X12_settled : Cond.instanceMethod yX12_settled ∈ uw_U := uw_7 (List.mem_of_getElem? (i := 39) rfl) rfl
theorem ws_X12_settled : Cond.selects "RhymedThenModel" yX12_settled yX12_settled ∈ uw_U := uw_7 (List.mem_of_getElem? (i := 40) rfl) rfl
theorem wo_X12_settled : Cond.code yX12_settled cX12_settled 5 (some FieldType.int) ∈ uw_U := uw_7 (List.mem_of_getElem? (i := 41) rfl) rfl
theorem wm_X12_373 : Cond.methodLink "RhymedThenModel" 373 yX12_isOneWay ∈ uw_U := uw_7 (List.mem_of_getElem? (i := 42) rfl) rfl
theorem wi_X12_isOneWay : Cond.instanceMethod yX12_isOneWay ∈ uw_U := uw_7 (List.mem_of_getElem? (i := 44) rfl) rfl
theorem wo_X12_isOneWay : Cond.code yX12_isOneWay cX12_isOneWay 7 (some FieldType.boolean) ∈ uw_U := uw_7 (List.mem_of_getElem? (i := 45) rfl) rfl
theorem wm_L_184 : Cond.methodLink "RhymedThenLaw" 184 yX12_fell ∈ uw_U := uw_7 (List.mem_of_getElem? (i := 46) rfl) rfl
theorem wi_X12_fell : Cond.instanceMethod yX12_fell ∈ uw_U := uw_7 (List.mem_of_getElem? (i := 47) rfl) rfl
theorem ws_X12_fell : Cond.selects "RhymedThenModel" yX12_fell yX12_fell ∈ uw_U := uw_7 (List.mem_of_getElem? (i := 48) rfl) rfl
theorem wo_X12_fell : Cond.code yX12_fell cX12_fell 8 (some FieldType.int) ∈ uw_U := uw_7 (List.mem_of_getElem? (i := 49) rfl) rfl
theorem wm_L_188 : Cond.methodLink "RhymedThenLaw" 188 yX12_town ∈ uw_U := uw_7 (List.mem_of_getElem? (i := 50) rfl) rfl
theorem wi_X12_town : Cond.instanceMethod yX12_town ∈ uw_U := uw_7 (List.mem_of_getElem? (i := 51) rfl) rfl
theorem ws_X12_town : Cond.selects "RhymedThenModel" yX12_town yX12_town ∈ uw_U := uw_7 (List.mem_of_getElem? (i := 52) rfl) rfl
theorem wo_X12_town : Cond.code yX12_town cX12_town 12 (some FieldType.int) ∈ uw_U := uw_7 (List.mem_of_getElem? (i := 53) rfl) rfl
theorem wm_L_192 : Cond.methodLink "RhymedThenLaw" 192 yX12_swap ∈ uw_U := uw_7 (List.mem_of_getElem? (i := 54) rfl) rfl
theorem wi_X12_swap : Cond.instanceMethod yX12_swap ∈ uw_U := uw_7 (List.mem_of_getElem? (i := 55) rfl) rfl
theorem ws_X12_swap : Cond.selects "RhymedThenModel" yX12_swap yX12_swap ∈ uw_U := uw_7 (List.mem_of_getElem? (i := 56) rfl) rfl
theorem wo_X12_swap : Cond.code yX12_swap cX12_swap 8 (some FieldType.int) ∈ uw_U := uw_7 (List.mem_of_getElem? (i := 57) rfl) rfl
theorem wm_X12_377 : Cond.methodLink "RhymedThenModel" 377 yX12_hasCome ∈ uw_U := uw_7 (List.mem_of_getElem? (i := 58) rfl) rfl
theorem wi_X12_hasCome : Cond.instanceMethod yX12_hasCome ∈ uw_U := uw_7 (List.mem_of_getElem? (i := 60) rfl) rfl
theorem wo_X12_hasCome : Cond.code yX12_hasCome cX12_hasCome 5 (some FieldType.boolean) ∈ uw_U := uw_7 (List.mem_of_getElem? (i := 61) rfl) rfl
theorem wm_L_196 : Cond.methodLink "RhymedThenLaw" 196 yX12_keep ∈ uw_U := uw_7 (List.mem_of_getElem? (i := 62) rfl) rfl
theorem wi_X12_keep : Cond.instanceMethod yX12_keep ∈ uw_U := uw_7 (List.mem_of_getElem? (i := 63) rfl) rfl
theorem ws_X12_keep : Cond.selects "RhymedThenModel" yX12_keep yX12_keep ∈ uw_U := uw_7 (List.mem_of_getElem? (i := 64) rfl) rfl
theorem wo_X12_keep : Cond.code yX12_keep cX12_keep 3 (some FieldType.boolean) ∈ uw_U := uw_7 (List.mem_of_getElem? (i := 65) rfl) rfl
theorem wk_X12_381 : Cond.constantLong "RhymedThenModel" 381 (2 : Int64) ∈ uw_U := uw_7 (List.mem_of_getElem? (i := 66) rfl) rfl
theorem wm_L_200 : Cond.methodLink "RhymedThenLaw" 200 yX12_again ∈ uw_U := uw_7 (List.mem_of_getElem? (i := 67) rfl) rfl
theorem wi_X12_again : Cond.instanceMethod yX12_again ∈ uw_U := uw_7 (List.mem_of_getElem? (i := 68) rfl) rfl
theorem ws_X12_again : Cond.selects "RhymedThenModel" yX12_again yX12_again ∈ uw_U := uw_7 (List.mem_of_getElem? (i := 69) rfl) rfl
theorem wo_X12_again : Cond.code yX12_again cX12_again 3 (some FieldType.boolean) ∈ uw_U := uw_7 (List.mem_of_getElem? (i := 70) rfl) rfl
theorem wm_L_204 : Cond.methodLink "RhymedThenLaw" 204 yX12_count ∈ uw_U := uw_7 (List.mem_of_getElem? (i := 71) rfl) rfl
theorem wi_X12_count : Cond.instanceMethod yX12_count ∈ uw_U := uw_7 (List.mem_of_getElem? (i := 72) rfl) rfl
theorem ws_X12_count : Cond.selects "RhymedThenModel" yX12_count yX12_count ∈ uw_U := uw_7 (List.mem_of_getElem? (i := 73) rfl) rfl
theorem wo_X12_count : Cond.code yX12_count cX12_count 2 (some FieldType.int) ∈ uw_U := uw_7 (List.mem_of_getElem? (i := 74) rfl) rfl
theorem wm_X12_404 : Cond.methodLink "RhymedThenModel" 404 yX12_onBits ∈ uw_U := uw_7 (List.mem_of_getElem? (i := 75) rfl) rfl
theorem wi_X12_onBits : Cond.instanceMethod yX12_onBits ∈ uw_U := uw_7 (List.mem_of_getElem? (i := 77) rfl) rfl
theorem wo_X12_onBits : Cond.code yX12_onBits cX12_onBits 3 (some FieldType.int) ∈ uw_U := uw_7 (List.mem_of_getElem? (i := 78) rfl) rfl
theorem wm_L_208 : Cond.methodLink "RhymedThenLaw" 208 yX12_year ∈ uw_U := uw_7 (List.mem_of_getElem? (i := 79) rfl) rfl
theorem wi_X12_year : Cond.instanceMethod yX12_year ∈ uw_U := uw_7 (List.mem_of_getElem? (i := 80) rfl) rfl
theorem ws_X12_year : Cond.selects "RhymedThenModel" yX12_year yX12_year ∈ uw_U := uw_7 (List.mem_of_getElem? (i := 81) rfl) rfl
theorem wo_X12_year : Cond.code yX12_year cX12_year 3 (some FieldType.int) ∈ uw_U := uw_7 (List.mem_of_getElem? (i := 82) rfl) rfl
theorem wc_L_16 : Cond.classLink "RhymedThenLaw" 16 "RhymedThenModel" ∈ uw_U := uw_7 (List.mem_of_getElem? (i := 83) rfl) rfl
theorem wm_L_18 : Cond.methodLink "RhymedThenLaw" 18 yX12_init ∈ uw_U := uw_7 (List.mem_of_getElem? (i := 84) rfl) rfl
theorem wi_X12_init : Cond.instanceMethod yX12_init ∈ uw_U := uw_7 (List.mem_of_getElem? (i := 85) rfl) rfl
theorem wo_X12_init : Cond.code yX12_init cX12_init 1 none ∈ uw_U := uw_7 (List.mem_of_getElem? (i := 86) rfl) rfl
theorem wm_X12_407 : Cond.methodLink "RhymedThenModel" 407 ⟨"java/lang/Object", "<init>", "()V"⟩ ∈ uw_U := uw_7 (List.mem_of_getElem? (i := 87) rfl) rfl
theorem wf_X12_1 : Cond.fieldLink "RhymedThenModel" 1 "RhymedThenModel" "thrown" "I" ∈ uw_U := uw_7 (List.mem_of_getElem? (i := 88) rfl) rfl
theorem wf_X12_11 : Cond.fieldLink "RhymedThenModel" 11 "RhymedThenModel" "rows" "I" ∈ uw_U := uw_7 (List.mem_of_getElem? (i := 89) rfl) rfl
theorem wf_X12_7 : Cond.fieldLink "RhymedThenModel" 7 "RhymedThenModel" "row" "[J" ∈ uw_U := uw_7 (List.mem_of_getElem? (i := 90) rfl) rfl
theorem wf_X12_25 : Cond.fieldLink "RhymedThenModel" 25 "RhymedThenModel" "tape" "[I" ∈ uw_U := uw_7 (List.mem_of_getElem? (i := 91) rfl) rfl
theorem wf_X12_22 : Cond.fieldLink "RhymedThenModel" 22 "RhymedThenModel" "taped" "I" ∈ uw_U := uw_7 (List.mem_of_getElem? (i := 92) rfl) rfl
theorem wf_X12_33 : Cond.fieldLink "RhymedThenModel" 33 "RhymedThenModel" "at" "I" ∈ uw_U := uw_7 (List.mem_of_getElem? (i := 93) rfl) rfl
theorem wf_X12_36 : Cond.fieldLink "RhymedThenModel" 36 "RhymedThenModel" "to" "I" ∈ uw_U := uw_7 (List.mem_of_getElem? (i := 94) rfl) rfl
theorem wf_X12_66 : Cond.fieldLink "RhymedThenModel" 66 "RhymedThenModel" "classes" "[I" ∈ uw_U := uw_7 (List.mem_of_getElem? (i := 95) rfl) rfl
theorem wf_X12_75 : Cond.fieldLink "RhymedThenModel" 75 "RhymedThenModel" "words" "I" ∈ uw_U := uw_7 (List.mem_of_getElem? (i := 96) rfl) rfl
theorem wf_X12_78 : Cond.fieldLink "RhymedThenModel" 78 "RhymedThenModel" "spelt" "[I" ∈ uw_U := uw_7 (List.mem_of_getElem? (i := 97) rfl) rfl
theorem wf_X12_81 : Cond.fieldLink "RhymedThenModel" 81 "RhymedThenModel" "speltLong" "[I" ∈ uw_U := uw_7 (List.mem_of_getElem? (i := 98) rfl) rfl
theorem wf_X12_99 : Cond.fieldLink "RhymedThenModel" 99 "RhymedThenModel" "laws" "I" ∈ uw_U := uw_7 (List.mem_of_getElem? (i := 99) rfl) rfl
theorem wf_X12_84 : Cond.fieldLink "RhymedThenModel" 84 "RhymedThenModel" "goes" "[I" ∈ uw_U := uw_7 (List.mem_of_getElem? (i := 100) rfl) rfl
theorem wf_X12_87 : Cond.fieldLink "RhymedThenModel" 87 "RhymedThenModel" "becomes" "[I" ∈ uw_U := uw_7 (List.mem_of_getElem? (i := 101) rfl) rfl
theorem wf_X12_90 : Cond.fieldLink "RhymedThenModel" 90 "RhymedThenModel" "left" "[I" ∈ uw_U := uw_7 (List.mem_of_getElem? (i := 102) rfl) rfl
theorem wf_X12_93 : Cond.fieldLink "RhymedThenModel" 93 "RhymedThenModel" "right" "[I" ∈ uw_U := uw_7 (List.mem_of_getElem? (i := 103) rfl) rfl
theorem wf_X12_114 : Cond.fieldLink "RhymedThenModel" 114 "RhymedThenModel" "first" "[I" ∈ uw_U := uw_7 (List.mem_of_getElem? (i := 104) rfl) rfl
theorem wf_X12_117 : Cond.fieldLink "RhymedThenModel" 117 "RhymedThenModel" "step" "[I" ∈ uw_U := uw_7 (List.mem_of_getElem? (i := 105) rfl) rfl
theorem wf_X12_102 : Cond.fieldLink "RhymedThenModel" 102 "RhymedThenModel" "many" "[I" ∈ uw_U := uw_7 (List.mem_of_getElem? (i := 106) rfl) rfl
theorem wf_X12_122 : Cond.fieldLink "RhymedThenModel" 122 "RhymedThenModel" "lag" "[I" ∈ uw_U := uw_7 (List.mem_of_getElem? (i := 107) rfl) rfl
theorem wf_X12_158 : Cond.fieldLink "RhymedThenModel" 158 "RhymedThenModel" "said" "[I" ∈ uw_U := uw_7 (List.mem_of_getElem? (i := 108) rfl) rfl
theorem wf_X12_155 : Cond.fieldLink "RhymedThenModel" 155 "RhymedThenModel" "saidLong" "[I" ∈ uw_U := uw_7 (List.mem_of_getElem? (i := 109) rfl) rfl
theorem wf_X12_164 : Cond.fieldLink "RhymedThenModel" 164 "RhymedThenModel" "fresh" "[I" ∈ uw_U := uw_7 (List.mem_of_getElem? (i := 110) rfl) rfl
theorem wf_X12_143 : Cond.fieldLink "RhymedThenModel" 143 "RhymedThenModel" "orderOf" "[I" ∈ uw_U := uw_7 (List.mem_of_getElem? (i := 111) rfl) rfl
theorem wf_X12_130 : Cond.fieldLink "RhymedThenModel" 130 "RhymedThenModel" "orders" "I" ∈ uw_U := uw_7 (List.mem_of_getElem? (i := 112) rfl) rfl
theorem wf_X12_133 : Cond.fieldLink "RhymedThenModel" 133 "RhymedThenModel" "never" "I" ∈ uw_U := uw_7 (List.mem_of_getElem? (i := 113) rfl) rfl
theorem wf_X12_146 : Cond.fieldLink "RhymedThenModel" 146 "RhymedThenModel" "swapOne" "I" ∈ uw_U := uw_7 (List.mem_of_getElem? (i := 114) rfl) rfl
theorem wf_X12_149 : Cond.fieldLink "RhymedThenModel" 149 "RhymedThenModel" "swapOther" "I" ∈ uw_U := uw_7 (List.mem_of_getElem? (i := 115) rfl) rfl
theorem wf_X12_258 : Cond.fieldLink "RhymedThenModel" 258 "RhymedThenModel" "signs" "I" ∈ uw_U := uw_7 (List.mem_of_getElem? (i := 116) rfl) rfl
theorem wf_X12_226 : Cond.fieldLink "RhymedThenModel" 226 "RhymedThenModel" "kind" "[I" ∈ uw_U := uw_7 (List.mem_of_getElem? (i := 117) rfl) rfl
theorem wf_X12_229 : Cond.fieldLink "RhymedThenModel" 229 "RhymedThenModel" "signOne" "[I" ∈ uw_U := uw_7 (List.mem_of_getElem? (i := 118) rfl) rfl
theorem wf_X12_232 : Cond.fieldLink "RhymedThenModel" 232 "RhymedThenModel" "signOther" "[I" ∈ uw_U := uw_7 (List.mem_of_getElem? (i := 119) rfl) rfl
theorem wf_X12_235 : Cond.fieldLink "RhymedThenModel" 235 "RhymedThenModel" "signYear" "[I" ∈ uw_U := uw_7 (List.mem_of_getElem? (i := 120) rfl) rfl
theorem wf_X12_238 : Cond.fieldLink "RhymedThenModel" 238 "RhymedThenModel" "signPlace" "[I" ∈ uw_U := uw_7 (List.mem_of_getElem? (i := 121) rfl) rfl
theorem wf_X12_241 : Cond.fieldLink "RhymedThenModel" 241 "RhymedThenModel" "signNumber" "[I" ∈ uw_U := uw_7 (List.mem_of_getElem? (i := 122) rfl) rfl
theorem wf_X12_244 : Cond.fieldLink "RhymedThenModel" 244 "RhymedThenModel" "poet" "[I" ∈ uw_U := uw_7 (List.mem_of_getElem? (i := 123) rfl) rfl
theorem wf_X12_247 : Cond.fieldLink "RhymedThenModel" 247 "RhymedThenModel" "trust" "[I" ∈ uw_U := uw_7 (List.mem_of_getElem? (i := 124) rfl) rfl
theorem wf_X12_250 : Cond.fieldLink "RhymedThenModel" 250 "RhymedThenModel" "isOn" "[Z" ∈ uw_U := uw_7 (List.mem_of_getElem? (i := 125) rfl) rfl
theorem wf_X12_279 : Cond.fieldLink "RhymedThenModel" 279 "RhymedThenModel" "fitting" "[I" ∈ uw_U := uw_7 (List.mem_of_getElem? (i := 126) rfl) rfl
theorem wf_X12_273 : Cond.fieldLink "RhymedThenModel" 273 "RhymedThenModel" "fit" "I" ∈ uw_U := uw_7 (List.mem_of_getElem? (i := 127) rfl) rfl
theorem wf_X12_297 : Cond.fieldLink "RhymedThenModel" 297 "RhymedThenModel" "ways" "[J" ∈ uw_U := uw_7 (List.mem_of_getElem? (i := 128) rfl) rfl
theorem wf_X12_300 : Cond.fieldLink "RhymedThenModel" 300 "RhymedThenModel" "wayWeight" "[J" ∈ uw_U := uw_7 (List.mem_of_getElem? (i := 129) rfl) rfl
theorem wf_X12_294 : Cond.fieldLink "RhymedThenModel" 294 "RhymedThenModel" "wayMany" "I" ∈ uw_U := uw_7 (List.mem_of_getElem? (i := 130) rfl) rfl
theorem wf_X12_317 : Cond.fieldLink "RhymedThenModel" 317 "RhymedThenModel" "historyWeight" "[J" ∈ uw_U := uw_7 (List.mem_of_getElem? (i := 131) rfl) rfl
theorem wf_X12_340 : Cond.fieldLink "RhymedThenModel" 340 "RhymedThenModel" "eyes" "[I" ∈ uw_U := uw_7 (List.mem_of_getElem? (i := 132) rfl) rfl
theorem wf_X12_349 : Cond.fieldLink "RhymedThenModel" 349 "RhymedThenModel" "staged" "[I" ∈ uw_U := uw_7 (List.mem_of_getElem? (i := 133) rfl) rfl
theorem wf_X12_352 : Cond.fieldLink "RhymedThenModel" 352 "RhymedThenModel" "stagedYear" "[I" ∈ uw_U := uw_7 (List.mem_of_getElem? (i := 134) rfl) rfl
theorem wf_X12_370 : Cond.fieldLink "RhymedThenModel" 370 "RhymedThenModel" "bestYear" "[I" ∈ uw_U := uw_7 (List.mem_of_getElem? (i := 135) rfl) rfl
theorem wf_X12_364 : Cond.fieldLink "RhymedThenModel" 364 "RhymedThenModel" "tellings" "[I" ∈ uw_U := uw_7 (List.mem_of_getElem? (i := 136) rfl) rfl
theorem wf_X12_346 : Cond.fieldLink "RhymedThenModel" 346 "RhymedThenModel" "stagedMany" "I" ∈ uw_U := uw_7 (List.mem_of_getElem? (i := 137) rfl) rfl
theorem wf_X12_367 : Cond.fieldLink "RhymedThenModel" 367 "RhymedThenModel" "bestStage" "I" ∈ uw_U := uw_7 (List.mem_of_getElem? (i := 138) rfl) rfl
theorem wf_X12_383 : Cond.fieldLink "RhymedThenModel" 383 "RhymedThenModel" "isKept" "[Z" ∈ uw_U := uw_7 (List.mem_of_getElem? (i := 139) rfl) rfl
theorem wf_X12_386 : Cond.fieldLink "RhymedThenModel" 386 "RhymedThenModel" "keptSigns" "[I" ∈ uw_U := uw_7 (List.mem_of_getElem? (i := 140) rfl) rfl
theorem wf_X12_389 : Cond.fieldLink "RhymedThenModel" 389 "RhymedThenModel" "keptOn" "[Z" ∈ uw_U := uw_7 (List.mem_of_getElem? (i := 141) rfl) rfl
theorem wf_X12_392 : Cond.fieldLink "RhymedThenModel" 392 "RhymedThenModel" "keptPoet" "[I" ∈ uw_U := uw_7 (List.mem_of_getElem? (i := 142) rfl) rfl
theorem wf_X12_395 : Cond.fieldLink "RhymedThenModel" 395 "RhymedThenModel" "keptTrust" "[I" ∈ uw_U := uw_7 (List.mem_of_getElem? (i := 143) rfl) rfl
theorem wf_X12_398 : Cond.fieldLink "RhymedThenModel" 398 "RhymedThenModel" "keptLag" "[I" ∈ uw_U := uw_7 (List.mem_of_getElem? (i := 144) rfl) rfl
theorem wf_X12_401 : Cond.fieldLink "RhymedThenModel" 401 "RhymedThenModel" "keptClass" "[I" ∈ uw_U := uw_7 (List.mem_of_getElem? (i := 145) rfl) rfl
theorem wl_X12_0 : Cond.lays "RhymedThenModel" "RhymedThenModel" "thrown" "I" ∈ uw_U := uw_7 (List.mem_of_getElem? (i := 146) rfl) rfl
theorem wl_X12_1 : Cond.lays "RhymedThenModel" "RhymedThenModel" "rows" "I" ∈ uw_U := uw_7 (List.mem_of_getElem? (i := 148) rfl) rfl
theorem wl_X12_2 : Cond.laysFinal "RhymedThenModel" "RhymedThenModel" "row" "[J" ∈ uw_U := uw_7 (List.mem_of_getElem? (i := 150) rfl) rfl
theorem wl_X12_3 : Cond.laysFinal "RhymedThenModel" "RhymedThenModel" "tape" "[I" ∈ uw_U := uw_7 (List.mem_of_getElem? (i := 152) rfl) rfl
theorem wl_X12_4 : Cond.lays "RhymedThenModel" "RhymedThenModel" "taped" "I" ∈ uw_U := uw_7 (List.mem_of_getElem? (i := 154) rfl) rfl
theorem wl_X12_5 : Cond.lays "RhymedThenModel" "RhymedThenModel" "at" "I" ∈ uw_U := uw_7 (List.mem_of_getElem? (i := 156) rfl) rfl
theorem wl_X12_6 : Cond.lays "RhymedThenModel" "RhymedThenModel" "to" "I" ∈ uw_U := uw_7 (List.mem_of_getElem? (i := 158) rfl) rfl
theorem wl_X12_7 : Cond.laysFinal "RhymedThenModel" "RhymedThenModel" "classes" "[I" ∈ uw_U := uw_7 (List.mem_of_getElem? (i := 160) rfl) rfl
theorem wl_X12_8 : Cond.lays "RhymedThenModel" "RhymedThenModel" "words" "I" ∈ uw_U := uw_7 (List.mem_of_getElem? (i := 162) rfl) rfl
theorem wl_X12_9 : Cond.laysFinal "RhymedThenModel" "RhymedThenModel" "spelt" "[I" ∈ uw_U := uw_7 (List.mem_of_getElem? (i := 164) rfl) rfl
theorem wl_X12_10 : Cond.laysFinal "RhymedThenModel" "RhymedThenModel" "speltLong" "[I" ∈ uw_U := uw_7 (List.mem_of_getElem? (i := 166) rfl) rfl
theorem wl_X12_11 : Cond.lays "RhymedThenModel" "RhymedThenModel" "laws" "I" ∈ uw_U := uw_7 (List.mem_of_getElem? (i := 168) rfl) rfl
theorem wl_X12_12 : Cond.laysFinal "RhymedThenModel" "RhymedThenModel" "goes" "[I" ∈ uw_U := uw_7 (List.mem_of_getElem? (i := 170) rfl) rfl
theorem wl_X12_13 : Cond.laysFinal "RhymedThenModel" "RhymedThenModel" "becomes" "[I" ∈ uw_U := uw_7 (List.mem_of_getElem? (i := 172) rfl) rfl
theorem wl_X12_14 : Cond.laysFinal "RhymedThenModel" "RhymedThenModel" "left" "[I" ∈ uw_U := uw_7 (List.mem_of_getElem? (i := 174) rfl) rfl
theorem wl_X12_15 : Cond.laysFinal "RhymedThenModel" "RhymedThenModel" "right" "[I" ∈ uw_U := uw_7 (List.mem_of_getElem? (i := 176) rfl) rfl
theorem wl_X12_16 : Cond.laysFinal "RhymedThenModel" "RhymedThenModel" "first" "[I" ∈ uw_U := uw_7 (List.mem_of_getElem? (i := 178) rfl) rfl
theorem wl_X12_17 : Cond.laysFinal "RhymedThenModel" "RhymedThenModel" "step" "[I" ∈ uw_U := uw_7 (List.mem_of_getElem? (i := 180) rfl) rfl
theorem wl_X12_18 : Cond.laysFinal "RhymedThenModel" "RhymedThenModel" "many" "[I" ∈ uw_U := uw_7 (List.mem_of_getElem? (i := 182) rfl) rfl
theorem wl_X12_19 : Cond.laysFinal "RhymedThenModel" "RhymedThenModel" "lag" "[I" ∈ uw_U := uw_7 (List.mem_of_getElem? (i := 184) rfl) rfl
theorem wl_X12_20 : Cond.laysFinal "RhymedThenModel" "RhymedThenModel" "said" "[I" ∈ uw_U := uw_7 (List.mem_of_getElem? (i := 186) rfl) rfl
theorem wl_X12_21 : Cond.laysFinal "RhymedThenModel" "RhymedThenModel" "saidLong" "[I" ∈ uw_U := uw_7 (List.mem_of_getElem? (i := 188) rfl) rfl
theorem wl_X12_22 : Cond.laysFinal "RhymedThenModel" "RhymedThenModel" "fresh" "[I" ∈ uw_U := uw_7 (List.mem_of_getElem? (i := 190) rfl) rfl
theorem wl_X12_23 : Cond.laysFinal "RhymedThenModel" "RhymedThenModel" "orderOf" "[I" ∈ uw_U := uw_7 (List.mem_of_getElem? (i := 192) rfl) rfl
theorem wl_X12_24 : Cond.lays "RhymedThenModel" "RhymedThenModel" "orders" "I" ∈ uw_U := uw_7 (List.mem_of_getElem? (i := 194) rfl) rfl
theorem wl_X12_25 : Cond.lays "RhymedThenModel" "RhymedThenModel" "never" "I" ∈ uw_U := uw_7 (List.mem_of_getElem? (i := 196) rfl) rfl
theorem wl_X12_26 : Cond.lays "RhymedThenModel" "RhymedThenModel" "swapOne" "I" ∈ uw_U := uw_7 (List.mem_of_getElem? (i := 198) rfl) rfl
theorem wl_X12_27 : Cond.lays "RhymedThenModel" "RhymedThenModel" "swapOther" "I" ∈ uw_U := uw_7 (List.mem_of_getElem? (i := 200) rfl) rfl
theorem wl_X12_28 : Cond.lays "RhymedThenModel" "RhymedThenModel" "signs" "I" ∈ uw_U := uw_7 (List.mem_of_getElem? (i := 202) rfl) rfl
theorem wl_X12_29 : Cond.laysFinal "RhymedThenModel" "RhymedThenModel" "kind" "[I" ∈ uw_U := uw_7 (List.mem_of_getElem? (i := 204) rfl) rfl
theorem wl_X12_30 : Cond.laysFinal "RhymedThenModel" "RhymedThenModel" "signOne" "[I" ∈ uw_U := uw_7 (List.mem_of_getElem? (i := 206) rfl) rfl
theorem wl_X12_31 : Cond.laysFinal "RhymedThenModel" "RhymedThenModel" "signOther" "[I" ∈ uw_U := uw_7 (List.mem_of_getElem? (i := 208) rfl) rfl
theorem wl_X12_32 : Cond.laysFinal "RhymedThenModel" "RhymedThenModel" "signYear" "[I" ∈ uw_U := uw_7 (List.mem_of_getElem? (i := 210) rfl) rfl
theorem wl_X12_33 : Cond.laysFinal "RhymedThenModel" "RhymedThenModel" "signPlace" "[I" ∈ uw_U := uw_7 (List.mem_of_getElem? (i := 212) rfl) rfl
theorem wl_X12_34 : Cond.laysFinal "RhymedThenModel" "RhymedThenModel" "signNumber" "[I" ∈ uw_U := uw_7 (List.mem_of_getElem? (i := 214) rfl) rfl
theorem wl_X12_35 : Cond.laysFinal "RhymedThenModel" "RhymedThenModel" "poet" "[I" ∈ uw_U := uw_7 (List.mem_of_getElem? (i := 216) rfl) rfl
theorem wl_X12_36 : Cond.laysFinal "RhymedThenModel" "RhymedThenModel" "trust" "[I" ∈ uw_U := uw_7 (List.mem_of_getElem? (i := 218) rfl) rfl
theorem wl_X12_37 : Cond.laysFinal "RhymedThenModel" "RhymedThenModel" "isOn" "[Z" ∈ uw_U := uw_7 (List.mem_of_getElem? (i := 220) rfl) rfl
theorem wl_X12_38 : Cond.laysFinal "RhymedThenModel" "RhymedThenModel" "fitting" "[I" ∈ uw_U := uw_7 (List.mem_of_getElem? (i := 222) rfl) rfl
theorem wl_X12_39 : Cond.lays "RhymedThenModel" "RhymedThenModel" "fit" "I" ∈ uw_U := uw_7 (List.mem_of_getElem? (i := 224) rfl) rfl
theorem wl_X12_40 : Cond.laysFinal "RhymedThenModel" "RhymedThenModel" "ways" "[J" ∈ uw_U := uw_7 (List.mem_of_getElem? (i := 226) rfl) rfl
theorem wl_X12_41 : Cond.laysFinal "RhymedThenModel" "RhymedThenModel" "wayWeight" "[J" ∈ uw_U := uw_7 (List.mem_of_getElem? (i := 228) rfl) rfl
theorem wl_X12_42 : Cond.lays "RhymedThenModel" "RhymedThenModel" "wayMany" "I" ∈ uw_U := uw_7 (List.mem_of_getElem? (i := 230) rfl) rfl
theorem wl_X12_43 : Cond.laysFinal "RhymedThenModel" "RhymedThenModel" "historyWeight" "[J" ∈ uw_U := uw_7 (List.mem_of_getElem? (i := 232) rfl) rfl
theorem wl_X12_44 : Cond.laysFinal "RhymedThenModel" "RhymedThenModel" "eyes" "[I" ∈ uw_U := uw_7 (List.mem_of_getElem? (i := 234) rfl) rfl
theorem wl_X12_45 : Cond.laysFinal "RhymedThenModel" "RhymedThenModel" "staged" "[I" ∈ uw_U := uw_7 (List.mem_of_getElem? (i := 236) rfl) rfl
theorem wl_X12_46 : Cond.laysFinal "RhymedThenModel" "RhymedThenModel" "stagedYear" "[I" ∈ uw_U := uw_7 (List.mem_of_getElem? (i := 238) rfl) rfl
theorem wl_X12_47 : Cond.laysFinal "RhymedThenModel" "RhymedThenModel" "bestYear" "[I" ∈ uw_U := uw_8 (List.mem_of_getElem? (i := 0) rfl) rfl
theorem wl_X12_48 : Cond.laysFinal "RhymedThenModel" "RhymedThenModel" "tellings" "[I" ∈ uw_U := uw_8 (List.mem_of_getElem? (i := 2) rfl) rfl
theorem wl_X12_49 : Cond.lays "RhymedThenModel" "RhymedThenModel" "stagedMany" "I" ∈ uw_U := uw_8 (List.mem_of_getElem? (i := 4) rfl) rfl
theorem wl_X12_50 : Cond.lays "RhymedThenModel" "RhymedThenModel" "bestStage" "I" ∈ uw_U := uw_8 (List.mem_of_getElem? (i := 6) rfl) rfl
theorem wl_X12_51 : Cond.laysFinal "RhymedThenModel" "RhymedThenModel" "isKept" "[Z" ∈ uw_U := uw_8 (List.mem_of_getElem? (i := 8) rfl) rfl
theorem wl_X12_52 : Cond.laysFinal "RhymedThenModel" "RhymedThenModel" "keptSigns" "[I" ∈ uw_U := uw_8 (List.mem_of_getElem? (i := 10) rfl) rfl
theorem wl_X12_53 : Cond.laysFinal "RhymedThenModel" "RhymedThenModel" "keptOn" "[Z" ∈ uw_U := uw_8 (List.mem_of_getElem? (i := 12) rfl) rfl
theorem wl_X12_54 : Cond.laysFinal "RhymedThenModel" "RhymedThenModel" "keptPoet" "[I" ∈ uw_U := uw_8 (List.mem_of_getElem? (i := 14) rfl) rfl
theorem wl_X12_55 : Cond.laysFinal "RhymedThenModel" "RhymedThenModel" "keptTrust" "[I" ∈ uw_U := uw_8 (List.mem_of_getElem? (i := 16) rfl) rfl
theorem wl_X12_56 : Cond.laysFinal "RhymedThenModel" "RhymedThenModel" "keptLag" "[I" ∈ uw_U := uw_8 (List.mem_of_getElem? (i := 18) rfl) rfl
theorem wl_X12_57 : Cond.laysFinal "RhymedThenModel" "RhymedThenModel" "keptClass" "[I" ∈ uw_U := uw_8 (List.mem_of_getElem? (i := 20) rfl) rfl
theorem wr_boolean : Cond.arrayClass .boolean ∈ uw_U := uw_8 (List.mem_of_getElem? (i := 23) rfl) rfl
theorem wm_L_214 : Cond.methodLink "RhymedThenLaw" 214 yX12_row ∈ uw_U := uw_8 (List.mem_of_getElem? (i := 24) rfl) rfl
theorem wi_X12_row : Cond.instanceMethod yX12_row ∈ uw_U := uw_8 (List.mem_of_getElem? (i := 25) rfl) rfl
theorem ws_X12_row : Cond.selects "RhymedThenModel" yX12_row yX12_row ∈ uw_U := uw_8 (List.mem_of_getElem? (i := 26) rfl) rfl
theorem wo_X12_row : Cond.code yX12_row cX12_row 2 (some FieldType.long) ∈ uw_U := uw_8 (List.mem_of_getElem? (i := 27) rfl) rfl
theorem ws_X9_forgetCourses : Cond.selects "RhymedThen$Tongue" yX9_forgetCourses yX9_forgetCourses ∈ uw_U := uw_p1 (q := (yX9_forgetCourses, 7)) (List.mem_of_getElem? (i := 0) rfl)
theorem ws_X11_wordFromText : Cond.selects "RhymedThen" yX11_wordFromText yX11_wordFromText ∈ uw_U := uw_p1 (q := (yX11_wordFromText, 13)) (List.mem_of_getElem? (i := 1) rfl)
theorem ws_X11_lawFromText : Cond.selects "RhymedThen" yX11_lawFromText yX11_lawFromText ∈ uw_U := uw_p1 (q := (yX11_lawFromText, 13)) (List.mem_of_getElem? (i := 2) rfl)
theorem ws_X2_readSides : Cond.selects "RhymedThen$Law" yX2_readSides yX2_readSides ∈ uw_U := uw_p1 (q := (yX2_readSides, 7)) (List.mem_of_getElem? (i := 3) rfl)
theorem ws_X3_insert : Cond.selects "RhymedThen$Past" yX3_insert yX3_insert ∈ uw_U := uw_p1 (q := (yX3_insert, 7)) (List.mem_of_getElem? (i := 4) rfl)
theorem ws_X6_atPlace : Cond.selects "RhymedThen$Signs" yX6_atPlace yX6_atPlace ∈ uw_U := uw_p1 (q := (yX6_atPlace, 7)) (List.mem_of_getElem? (i := 5) rfl)
theorem ws_X11_isWord : Cond.selects "RhymedThen" yX11_isWord yX11_isWord ∈ uw_U := uw_p1 (q := (yX11_isWord, 13)) (List.mem_of_getElem? (i := 6) rfl)
theorem ws_X11_isThenAndThere : Cond.selects "RhymedThen" yX11_isThenAndThere yX11_isThenAndThere ∈ uw_U := uw_p1 (q := (yX11_isThenAndThere, 13)) (List.mem_of_getElem? (i := 7) rfl)
theorem ws_X11_isHistory : Cond.selects "RhymedThen" yX11_isHistory yX11_isHistory ∈ uw_U := uw_p1 (q := (yX11_isHistory, 13)) (List.mem_of_getElem? (i := 8) rfl)
theorem ws_X3_lawAt : Cond.selects "RhymedThen$Past" yX3_lawAt yX3_lawAt ∈ uw_U := uw_p1 (q := (yX3_lawAt, 7)) (List.mem_of_getElem? (i := 9) rfl)
theorem ws_X9_makeRoom : Cond.selects "RhymedThen$Tongue" yX9_makeRoom yX9_makeRoom ∈ uw_U := uw_p1 (q := (yX9_makeRoom, 7)) (List.mem_of_getElem? (i := 10) rfl)
theorem ws_X11_tellSounds : Cond.selects "RhymedThen" yX11_tellSounds yX11_tellSounds ∈ uw_U := uw_p1 (q := (yX11_tellSounds, 13)) (List.mem_of_getElem? (i := 11) rfl)
theorem ws_X11_tellSpan : Cond.selects "RhymedThen" yX11_tellSpan yX11_tellSpan ∈ uw_U := uw_p1 (q := (yX11_tellSpan, 13)) (List.mem_of_getElem? (i := 12) rfl)
theorem ws_X11_isLaw : Cond.selects "RhymedThen" yX11_isLaw yX11_isLaw ∈ uw_U := uw_p1 (q := (yX11_isLaw, 13)) (List.mem_of_getElem? (i := 13) rfl)
theorem ws_X11_mayBeSign : Cond.selects "RhymedThen" yX11_mayBeSign yX11_mayBeSign ∈ uw_U := uw_p1 (q := (yX11_mayBeSign, 13)) (List.mem_of_getElem? (i := 14) rfl)
theorem ws_X11_isSign : Cond.selects "RhymedThen" yX11_isSign yX11_isSign ∈ uw_U := uw_p1 (q := (yX11_isSign, 13)) (List.mem_of_getElem? (i := 15) rfl)
theorem ws_X6_lookAt : Cond.selects "RhymedThen$Signs" yX6_lookAt yX6_lookAt ∈ uw_U := uw_p2 (q := (yX6_lookAt, 7)) (List.mem_of_getElem? (i := 0) rfl)
theorem ws_X5_isBooked : Cond.selects "RhymedThen$Sign" yX5_isBooked yX5_isBooked ∈ uw_U := uw_p2 (q := (yX5_isBooked, 8)) (List.mem_of_getElem? (i := 1) rfl)
theorem ws_X5_areTailsSo : Cond.selects "RhymedThen$Sign" yX5_areTailsSo yX5_areTailsSo ∈ uw_U := uw_p2 (q := (yX5_areTailsSo, 8)) (List.mem_of_getElem? (i := 2) rfl)
theorem ws_X11_firstFittingAmong : Cond.selects "RhymedThen" yX11_firstFittingAmong yX11_firstFittingAmong ∈ uw_U := uw_p2 (q := (yX11_firstFittingAmong, 13)) (List.mem_of_getElem? (i := 3) rfl)
theorem ws_X11_weighAll : Cond.selects "RhymedThen" yX11_weighAll yX11_weighAll ∈ uw_U := uw_p2 (q := (yX11_weighAll, 13)) (List.mem_of_getElem? (i := 4) rfl)
theorem ws_X11_tooManyToWeigh : Cond.selects "RhymedThen" yX11_tooManyToWeigh yX11_tooManyToWeigh ∈ uw_U := uw_p2 (q := (yX11_tooManyToWeigh, 13)) (List.mem_of_getElem? (i := 5) rfl)
theorem ws_X11_walkAll : Cond.selects "RhymedThen" yX11_walkAll yX11_walkAll ∈ uw_U := uw_p2 (q := (yX11_walkAll, 13)) (List.mem_of_getElem? (i := 6) rfl)
theorem ws_X11_likeliestWay : Cond.selects "RhymedThen" yX11_likeliestWay yX11_likeliestWay ∈ uw_U := uw_p2 (q := (yX11_likeliestWay, 13)) (List.mem_of_getElem? (i := 7) rfl)
theorem ws_X6_allAreSoWithLag : Cond.selects "RhymedThen$Signs" yX6_allAreSoWithLag yX6_allAreSoWithLag ∈ uw_U := uw_p2 (q := (yX6_allAreSoWithLag, 7)) (List.mem_of_getElem? (i := 8) rfl)
theorem ws_X7_seatOf : Cond.selects "RhymedThen$Stage" yX7_seatOf yX7_seatOf ∈ uw_U := uw_p2 (q := (yX7_seatOf, 10)) (List.mem_of_getElem? (i := 9) rfl)
theorem ws_X7_countSo : Cond.selects "RhymedThen$Stage" yX7_countSo yX7_countSo ∈ uw_U := uw_p2 (q := (yX7_countSo, 10)) (List.mem_of_getElem? (i := 10) rfl)
theorem ws_X7_chooseNext : Cond.selects "RhymedThen$Stage" yX7_chooseNext yX7_chooseNext ∈ uw_U := uw_p2 (q := (yX7_chooseNext, 10)) (List.mem_of_getElem? (i := 11) rfl)
theorem ws_X11_countPairs : Cond.selects "RhymedThen" yX11_countPairs yX11_countPairs ∈ uw_U := uw_p2 (q := (yX11_countPairs, 13)) (List.mem_of_getElem? (i := 12) rfl)
theorem ws_X11_countPairsOn : Cond.selects "RhymedThen" yX11_countPairsOn yX11_countPairsOn ∈ uw_U := uw_p2 (q := (yX11_countPairsOn, 13)) (List.mem_of_getElem? (i := 13) rfl)
theorem ws_X11_isOneWay : Cond.selects "RhymedThen" yX11_isOneWay yX11_isOneWay ∈ uw_U := uw_p2 (q := (yX11_isOneWay, 13)) (List.mem_of_getElem? (i := 14) rfl)
theorem ws_X11_firstSaidSo : Cond.selects "RhymedThen" yX11_firstSaidSo yX11_firstSaidSo ∈ uw_U := uw_p2 (q := (yX11_firstSaidSo, 13)) (List.mem_of_getElem? (i := 15) rfl)
theorem ws_X12_sound : Cond.selects "RhymedThenModel" yX12_sound yX12_sound ∈ uw_U := uw_p3 (q := (yX12_sound, 58)) (List.mem_of_getElem? (i := 1) rfl)
theorem ws_X12_histories : Cond.selects "RhymedThenModel" yX12_histories yX12_histories ∈ uw_U := uw_p3 (q := (yX12_histories, 58)) (List.mem_of_getElem? (i := 2) rfl)
theorem ws_X12_readsLaw : Cond.selects "RhymedThenModel" yX12_readsLaw yX12_readsLaw ∈ uw_U := uw_p3 (q := (yX12_readsLaw, 58)) (List.mem_of_getElem? (i := 3) rfl)
theorem ws_X12_soundOrClass : Cond.selects "RhymedThenModel" yX12_soundOrClass yX12_soundOrClass ∈ uw_U := uw_p3 (q := (yX12_soundOrClass, 58)) (List.mem_of_getElem? (i := 4) rfl)
theorem ws_X12_comes : Cond.selects "RhymedThenModel" yX12_comes yX12_comes ∈ uw_U := uw_p3 (q := (yX12_comes, 58)) (List.mem_of_getElem? (i := 5) rfl)
theorem ws_X12_beside : Cond.selects "RhymedThenModel" yX12_beside yX12_beside ∈ uw_U := uw_p3 (q := (yX12_beside, 58)) (List.mem_of_getElem? (i := 6) rfl)
theorem ws_X12_isWord : Cond.selects "RhymedThenModel" yX12_isWord yX12_isWord ∈ uw_U := uw_p3 (q := (yX12_isWord, 58)) (List.mem_of_getElem? (i := 7) rfl)
theorem ws_X12_isHistory : Cond.selects "RhymedThenModel" yX12_isHistory yX12_isHistory ∈ uw_U := uw_p3 (q := (yX12_isHistory, 58)) (List.mem_of_getElem? (i := 8) rfl)
theorem ws_X12_says : Cond.selects "RhymedThenModel" yX12_says yX12_says ∈ uw_U := uw_p3 (q := (yX12_says, 58)) (List.mem_of_getElem? (i := 9) rfl)
theorem ws_X12_spells : Cond.selects "RhymedThenModel" yX12_spells yX12_spells ∈ uw_U := uw_p3 (q := (yX12_spells, 58)) (List.mem_of_getElem? (i := 10) rfl)
theorem ws_X12_lines : Cond.selects "RhymedThenModel" yX12_lines yX12_lines ∈ uw_U := uw_p3 (q := (yX12_lines, 58)) (List.mem_of_getElem? (i := 11) rfl)
theorem ws_X12_yearOf : Cond.selects "RhymedThenModel" yX12_yearOf yX12_yearOf ∈ uw_U := uw_p3 (q := (yX12_yearOf, 58)) (List.mem_of_getElem? (i := 12) rfl)
theorem ws_X12_worksOn : Cond.selects "RhymedThenModel" yX12_worksOn yX12_worksOn ∈ uw_U := uw_p3 (q := (yX12_worksOn, 58)) (List.mem_of_getElem? (i := 13) rfl)
theorem ws_X12_isOf : Cond.selects "RhymedThenModel" yX12_isOf yX12_isOf ∈ uw_U := uw_p3 (q := (yX12_isOf, 58)) (List.mem_of_getElem? (i := 14) rfl)
theorem ws_X12_isBeside : Cond.selects "RhymedThenModel" yX12_isBeside yX12_isBeside ∈ uw_U := uw_p3 (q := (yX12_isBeside, 58)) (List.mem_of_getElem? (i := 15) rfl)
theorem ws_X12_enters : Cond.selects "RhymedThenModel" yX12_enters yX12_enters ∈ uw_U := uw_p4 (q := (yX12_enters, 58)) (List.mem_of_getElem? (i := 0) rfl)
theorem ws_X12_areAlike : Cond.selects "RhymedThenModel" yX12_areAlike yX12_areAlike ∈ uw_U := uw_p4 (q := (yX12_areAlike, 58)) (List.mem_of_getElem? (i := 1) rfl)
theorem ws_X12_saysBoth : Cond.selects "RhymedThenModel" yX12_saysBoth yX12_saysBoth ∈ uw_U := uw_p4 (q := (yX12_saysBoth, 58)) (List.mem_of_getElem? (i := 2) rfl)
theorem ws_X12_areRhymes : Cond.selects "RhymedThenModel" yX12_areRhymes yX12_areRhymes ∈ uw_U := uw_p4 (q := (yX12_areRhymes, 58)) (List.mem_of_getElem? (i := 3) rfl)
theorem ws_X12_haveTails : Cond.selects "RhymedThenModel" yX12_haveTails yX12_haveTails ∈ uw_U := uw_p4 (q := (yX12_haveTails, 58)) (List.mem_of_getElem? (i := 4) rfl)
theorem ws_X12_tailAt : Cond.selects "RhymedThenModel" yX12_tailAt yX12_tailAt ∈ uw_U := uw_p4 (q := (yX12_tailAt, 58)) (List.mem_of_getElem? (i := 5) rfl)
theorem ws_X12_areTailsAlike : Cond.selects "RhymedThenModel" yX12_areTailsAlike yX12_areTailsAlike ∈ uw_U := uw_p4 (q := (yX12_areTailsAlike, 58)) (List.mem_of_getElem? (i := 6) rfl)
theorem ws_X12_entersFraction : Cond.selects "RhymedThenModel" yX12_entersFraction yX12_entersFraction ∈ uw_U := uw_p4 (q := (yX12_entersFraction, 58)) (List.mem_of_getElem? (i := 7) rfl)
theorem ws_X12_isLaw : Cond.selects "RhymedThenModel" yX12_isLaw yX12_isLaw ∈ uw_U := uw_p4 (q := (yX12_isLaw, 58)) (List.mem_of_getElem? (i := 8) rfl)
theorem ws_X12_isMark : Cond.selects "RhymedThenModel" yX12_isMark yX12_isMark ∈ uw_U := uw_p4 (q := (yX12_isMark, 58)) (List.mem_of_getElem? (i := 9) rfl)
theorem ws_X12_lays : Cond.selects "RhymedThenModel" yX12_lays yX12_lays ∈ uw_U := uw_p4 (q := (yX12_lays, 58)) (List.mem_of_getElem? (i := 10) rfl)
theorem ws_X12_isSign : Cond.selects "RhymedThenModel" yX12_isSign yX12_isSign ∈ uw_U := uw_p4 (q := (yX12_isSign, 58)) (List.mem_of_getElem? (i := 11) rfl)
theorem ws_X12_isHeld : Cond.selects "RhymedThenModel" yX12_isHeld yX12_isHeld ∈ uw_U := uw_p4 (q := (yX12_isHeld, 58)) (List.mem_of_getElem? (i := 12) rfl)
theorem ws_X12_gathers : Cond.selects "RhymedThenModel" yX12_gathers yX12_gathers ∈ uw_U := uw_p4 (q := (yX12_gathers, 58)) (List.mem_of_getElem? (i := 13) rfl)
theorem ws_X12_isFit : Cond.selects "RhymedThenModel" yX12_isFit yX12_isFit ∈ uw_U := uw_p4 (q := (yX12_isFit, 58)) (List.mem_of_getElem? (i := 14) rfl)
theorem ws_X12_wrongs : Cond.selects "RhymedThenModel" yX12_wrongs yX12_wrongs ∈ uw_U := uw_p4 (q := (yX12_wrongs, 58)) (List.mem_of_getElem? (i := 15) rfl)
theorem ws_X12_packs : Cond.selects "RhymedThenModel" yX12_packs yX12_packs ∈ uw_U := uw_p5 (q := (yX12_packs, 58)) (List.mem_of_getElem? (i := 0) rfl)
theorem ws_X12_notes : Cond.selects "RhymedThenModel" yX12_notes yX12_notes ∈ uw_U := uw_p5 (q := (yX12_notes, 58)) (List.mem_of_getElem? (i := 1) rfl)
theorem ws_X12_onMany : Cond.selects "RhymedThenModel" yX12_onMany yX12_onMany ∈ uw_U := uw_p5 (q := (yX12_onMany, 58)) (List.mem_of_getElem? (i := 2) rfl)
theorem ws_X12_weightOf : Cond.selects "RhymedThenModel" yX12_weightOf yX12_weightOf ∈ uw_U := uw_p5 (q := (yX12_weightOf, 58)) (List.mem_of_getElem? (i := 3) rfl)
theorem ws_X12_weighsAll : Cond.selects "RhymedThenModel" yX12_weighsAll yX12_weighsAll ∈ uw_U := uw_p5 (q := (yX12_weighsAll, 58)) (List.mem_of_getElem? (i := 4) rfl)
theorem ws_X12_likeliest : Cond.selects "RhymedThenModel" yX12_likeliest yX12_likeliest ∈ uw_U := uw_p5 (q := (yX12_likeliest, 58)) (List.mem_of_getElem? (i := 5) rfl)
theorem ws_X12_heldBy : Cond.selects "RhymedThenModel" yX12_heldBy yX12_heldBy ∈ uw_U := uw_p5 (q := (yX12_heldBy, 58)) (List.mem_of_getElem? (i := 6) rfl)
theorem ws_X12_isAnyFit : Cond.selects "RhymedThenModel" yX12_isAnyFit yX12_isAnyFit ∈ uw_U := uw_p5 (q := (yX12_isAnyFit, 58)) (List.mem_of_getElem? (i := 7) rfl)
theorem ws_X12_isOnStage : Cond.selects "RhymedThenModel" yX12_isOnStage yX12_isOnStage ∈ uw_U := uw_p5 (q := (yX12_isOnStage, 58)) (List.mem_of_getElem? (i := 8) rfl)
theorem ws_X12_stages : Cond.selects "RhymedThenModel" yX12_stages yX12_stages ∈ uw_U := uw_p5 (q := (yX12_stages, 58)) (List.mem_of_getElem? (i := 9) rfl)
theorem ws_X12_stagedAt : Cond.selects "RhymedThenModel" yX12_stagedAt yX12_stagedAt ∈ uw_U := uw_p5 (q := (yX12_stagedAt, 58)) (List.mem_of_getElem? (i := 10) rfl)
theorem ws_X12_isOneWay : Cond.selects "RhymedThenModel" yX12_isOneWay yX12_isOneWay ∈ uw_U := uw_p5 (q := (yX12_isOneWay, 58)) (List.mem_of_getElem? (i := 11) rfl)
theorem ws_X12_hasCome : Cond.selects "RhymedThenModel" yX12_hasCome yX12_hasCome ∈ uw_U := uw_p5 (q := (yX12_hasCome, 58)) (List.mem_of_getElem? (i := 12) rfl)
theorem ws_X12_onBits : Cond.selects "RhymedThenModel" yX12_onBits yX12_onBits ∈ uw_U := uw_p5 (q := (yX12_onBits, 58)) (List.mem_of_getElem? (i := 13) rfl)
theorem wl_X1 : ∀ w ∈ u_ws RX1 TX1 7, w ∈ uw_U := by
  intro w h
  obtain ⟨k, hk, rfl⟩ := List.mem_map.mp h
  have hk := List.mem_range.mp hk
  match k, hk with
  | 0, _ => exact wl_X1_0
  | 1, _ => exact wl_X1_1
  | 2, _ => exact wl_X1_2
  | 3, _ => exact wl_X1_3
  | 4, _ => exact wl_X1_4
  | 5, _ => exact wl_X1_5
  | 6, _ => exact wl_X1_6
  | k + 7, hk => exact absurd hk (by omega)
theorem wl_X2 : ∀ w ∈ u_ws RX2 TX2 7, w ∈ uw_U := by
  intro w h
  obtain ⟨k, hk, rfl⟩ := List.mem_map.mp h
  have hk := List.mem_range.mp hk
  match k, hk with
  | 0, _ => exact wl_X2_0
  | 1, _ => exact wl_X2_1
  | 2, _ => exact wl_X2_2
  | 3, _ => exact wl_X2_3
  | 4, _ => exact wl_X2_4
  | 5, _ => exact wl_X2_5
  | 6, _ => exact wl_X2_6
  | k + 7, hk => exact absurd hk (by omega)
theorem wl_X3 : ∀ w ∈ u_ws RX3 TX3 7, w ∈ uw_U := by
  intro w h
  obtain ⟨k, hk, rfl⟩ := List.mem_map.mp h
  have hk := List.mem_range.mp hk
  match k, hk with
  | 0, _ => exact wl_X3_0
  | 1, _ => exact wl_X3_1
  | 2, _ => exact wl_X3_2
  | 3, _ => exact wl_X3_3
  | 4, _ => exact wl_X3_4
  | 5, _ => exact wl_X3_5
  | 6, _ => exact wl_X3_6
  | k + 7, hk => exact absurd hk (by omega)
theorem wl_X4 : ∀ w ∈ u_ws RX4 TX4 2, w ∈ uw_U := by
  intro w h
  obtain ⟨k, hk, rfl⟩ := List.mem_map.mp h
  have hk := List.mem_range.mp hk
  match k, hk with
  | 0, _ => exact wl_X4_0
  | 1, _ => exact wl_X4_1
  | k + 2, hk => exact absurd hk (by omega)
theorem wl_X5 : ∀ w ∈ u_ws RX5 TX5 8, w ∈ uw_U := by
  intro w h
  obtain ⟨k, hk, rfl⟩ := List.mem_map.mp h
  have hk := List.mem_range.mp hk
  match k, hk with
  | 0, _ => exact wl_X5_0
  | 1, _ => exact wl_X5_1
  | 2, _ => exact wl_X5_2
  | 3, _ => exact wl_X5_3
  | 4, _ => exact wl_X5_4
  | 5, _ => exact wl_X5_5
  | 6, _ => exact wl_X5_6
  | 7, _ => exact wl_X5_7
  | k + 8, hk => exact absurd hk (by omega)
theorem wl_X6 : ∀ w ∈ u_ws RX6 TX6 7, w ∈ uw_U := by
  intro w h
  obtain ⟨k, hk, rfl⟩ := List.mem_map.mp h
  have hk := List.mem_range.mp hk
  match k, hk with
  | 0, _ => exact wl_X6_0
  | 1, _ => exact wl_X6_1
  | 2, _ => exact wl_X6_2
  | 3, _ => exact wl_X6_3
  | 4, _ => exact wl_X6_4
  | 5, _ => exact wl_X6_5
  | 6, _ => exact wl_X6_6
  | k + 7, hk => exact absurd hk (by omega)
theorem wl_X7 : ∀ w ∈ u_ws RX7 TX7 10, w ∈ uw_U := by
  intro w h
  obtain ⟨k, hk, rfl⟩ := List.mem_map.mp h
  have hk := List.mem_range.mp hk
  match k, hk with
  | 0, _ => exact wl_X7_0
  | 1, _ => exact wl_X7_1
  | 2, _ => exact wl_X7_2
  | 3, _ => exact wl_X7_3
  | 4, _ => exact wl_X7_4
  | 5, _ => exact wl_X7_5
  | 6, _ => exact wl_X7_6
  | 7, _ => exact wl_X7_7
  | 8, _ => exact wl_X7_8
  | 9, _ => exact wl_X7_9
  | k + 10, hk => exact absurd hk (by omega)
theorem wl_X8 : ∀ w ∈ u_ws RX8 TX8 2, w ∈ uw_U := by
  intro w h
  obtain ⟨k, hk, rfl⟩ := List.mem_map.mp h
  have hk := List.mem_range.mp hk
  match k, hk with
  | 0, _ => exact wl_X8_0
  | 1, _ => exact wl_X8_1
  | k + 2, hk => exact absurd hk (by omega)
theorem wl_X9 : ∀ w ∈ u_ws RX9 TX9 7, w ∈ uw_U := by
  intro w h
  obtain ⟨k, hk, rfl⟩ := List.mem_map.mp h
  have hk := List.mem_range.mp hk
  match k, hk with
  | 0, _ => exact wl_X9_0
  | 1, _ => exact wl_X9_1
  | 2, _ => exact wl_X9_2
  | 3, _ => exact wl_X9_3
  | 4, _ => exact wl_X9_4
  | 5, _ => exact wl_X9_5
  | 6, _ => exact wl_X9_6
  | k + 7, hk => exact absurd hk (by omega)
theorem wl_X10 : ∀ w ∈ u_ws RX10 TX10 3, w ∈ uw_U := by
  intro w h
  obtain ⟨k, hk, rfl⟩ := List.mem_map.mp h
  have hk := List.mem_range.mp hk
  match k, hk with
  | 0, _ => exact wl_X10_0
  | 1, _ => exact wl_X10_1
  | 2, _ => exact wl_X10_2
  | k + 3, hk => exact absurd hk (by omega)
theorem wl_X11 : ∀ w ∈ u_ws RX11 TX11 13, w ∈ uw_U := by
  intro w h
  obtain ⟨k, hk, rfl⟩ := List.mem_map.mp h
  have hk := List.mem_range.mp hk
  match k, hk with
  | 0, _ => exact wl_X11_0
  | 1, _ => exact wl_X11_1
  | 2, _ => exact wl_X11_2
  | 3, _ => exact wl_X11_3
  | 4, _ => exact wl_X11_4
  | 5, _ => exact wl_X11_5
  | 6, _ => exact wl_X11_6
  | 7, _ => exact wl_X11_7
  | 8, _ => exact wl_X11_8
  | 9, _ => exact wl_X11_9
  | 10, _ => exact wl_X11_10
  | 11, _ => exact wl_X11_11
  | 12, _ => exact wl_X11_12
  | k + 13, hk => exact absurd hk (by omega)
theorem wl_X12 : ∀ w ∈ u_ws RX12 TX12 58, w ∈ uw_U := by
  intro w h
  obtain ⟨k, hk, rfl⟩ := List.mem_map.mp h
  have hk := List.mem_range.mp hk
  match k, hk with
  | 0, _ => exact wl_X12_0
  | 1, _ => exact wl_X12_1
  | 2, _ => exact wl_X12_2
  | 3, _ => exact wl_X12_3
  | 4, _ => exact wl_X12_4
  | 5, _ => exact wl_X12_5
  | 6, _ => exact wl_X12_6
  | 7, _ => exact wl_X12_7
  | 8, _ => exact wl_X12_8
  | 9, _ => exact wl_X12_9
  | 10, _ => exact wl_X12_10
  | 11, _ => exact wl_X12_11
  | 12, _ => exact wl_X12_12
  | 13, _ => exact wl_X12_13
  | 14, _ => exact wl_X12_14
  | 15, _ => exact wl_X12_15
  | 16, _ => exact wl_X12_16
  | 17, _ => exact wl_X12_17
  | 18, _ => exact wl_X12_18
  | 19, _ => exact wl_X12_19
  | 20, _ => exact wl_X12_20
  | 21, _ => exact wl_X12_21
  | 22, _ => exact wl_X12_22
  | 23, _ => exact wl_X12_23
  | 24, _ => exact wl_X12_24
  | 25, _ => exact wl_X12_25
  | 26, _ => exact wl_X12_26
  | 27, _ => exact wl_X12_27
  | 28, _ => exact wl_X12_28
  | 29, _ => exact wl_X12_29
  | 30, _ => exact wl_X12_30
  | 31, _ => exact wl_X12_31
  | 32, _ => exact wl_X12_32
  | 33, _ => exact wl_X12_33
  | 34, _ => exact wl_X12_34
  | 35, _ => exact wl_X12_35
  | 36, _ => exact wl_X12_36
  | 37, _ => exact wl_X12_37
  | 38, _ => exact wl_X12_38
  | 39, _ => exact wl_X12_39
  | 40, _ => exact wl_X12_40
  | 41, _ => exact wl_X12_41
  | 42, _ => exact wl_X12_42
  | 43, _ => exact wl_X12_43
  | 44, _ => exact wl_X12_44
  | 45, _ => exact wl_X12_45
  | 46, _ => exact wl_X12_46
  | 47, _ => exact wl_X12_47
  | 48, _ => exact wl_X12_48
  | 49, _ => exact wl_X12_49
  | 50, _ => exact wl_X12_50
  | 51, _ => exact wl_X12_51
  | 52, _ => exact wl_X12_52
  | 53, _ => exact wl_X12_53
  | 54, _ => exact wl_X12_54
  | 55, _ => exact wl_X12_55
  | 56, _ => exact wl_X12_56
  | 57, _ => exact wl_X12_57
  | k + 58, hk => exact absurd hk (by omega)
def uw_m (w : Cond) : List Cond := w :: uw_U
theorem uw_of {w x : Cond} (h : x ∈ uw_U) : x ∈ uw_m w := List.mem_cons_of_mem _ h
theorem uw_gm {w x : Cond} (h : x ∈ uw_U) : GoodIn (uw_m w) (uw_m x) := fun z hz => by
  rcases List.mem_cons.mp hz with rfl | hz
  · exact ⟨uw_of h, uw_good h⟩
  · exact ⟨uw_of hz, uw_good hz⟩
theorem uw_gV {w x : Cond} {own C : String} {i : Nat} {y : MethodName} (hx : x ∈ uw_U) (h1 : Cond.methodLink own i y ∈ uw_U) (h2 : Cond.instanceMethod y ∈ uw_U) (h3 : Cond.selects C y y ∈ uw_U) (h4 : Cond.initialized C ∈ uw_U) : GoodIn (uw_m w) (wsV own i C y (uw_m x)) := fun z hz => by
  rcases List.mem_append.mp hz with hz | hz
  · have hz2 : z ∈ uw_U := by
      simp only [List.mem_cons, List.not_mem_nil, or_false] at hz
      rcases hz with rfl | rfl | rfl | rfl <;> assumption
    exact ⟨uw_of hz2, uw_good hz2⟩
  · exact uw_gm hx z hz
theorem uw_gS {w x : Cond} {own : String} {i : Nat} {y : MethodName} (hx : x ∈ uw_U) (h1 : Cond.methodLink own i y ∈ uw_U) (h2 : Cond.static y ∈ uw_U) (h4 : Cond.initialized y.cls ∈ uw_U) : GoodIn (uw_m w) (va_wsS own i y (uw_m x)) := fun z hz => by
  rcases List.mem_append.mp hz with hz | hz
  · have hz2 : z ∈ uw_U := by
      simp only [List.mem_cons, List.not_mem_nil, or_false] at hz
      rcases hz with rfl | rfl | rfl <;> assumption
    exact ⟨uw_of hz2, uw_good hz2⟩
  · exact uw_gm hx z hz
