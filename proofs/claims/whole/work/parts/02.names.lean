/-! ===== BEGIN words of one list among another's, by their places ===== -/
theorem goodIn_r {big : List Cond} (ws : List Cond) (ps : List Nat) (hp : ws = ps.filterMap (fun i => big[i]?)) (h : ws.all goodWord = true) : GoodIn big ws := by
  intro w hw
  have h1 := List.all_eq_true.mp h w hw
  rw [hp] at hw
  obtain ⟨i, -, hi⟩ := List.mem_filterMap.mp hw
  have hm : w ∈ big := by first | exact List.mem_of_getElem? hi | exact List.getElem?_mem hi
  exact ⟨hm, good_of_word h1⟩
theorem goodIn_app {big a b : List Cond} (ha : GoodIn big a) (hb : GoodIn big b) : GoodIn big (a ++ b) := fun w h => (List.mem_append.mp h).elim (ha w) (hb w)
theorem goodIn_ca {big a b : List Cond} {c : Cond} (ha : GoodIn big (c :: a)) (hb : GoodIn big b) : GoodIn big (c :: (a ++ b)) := fun w h => (List.mem_cons.mp h).elim (fun e => ha w (List.mem_cons.mpr (Or.inl e))) (fun h => (List.mem_append.mp h).elim (fun h => ha w (List.mem_cons.mpr (Or.inr h))) (hb w))
theorem goodIn_sub {big ws : List Cond} (hm : ∀ w ∈ ws, w ∈ big) (h : ws.all goodWord = true) : GoodIn big ws := fun w hw => ⟨hm w hw, good_of_word (List.all_eq_true.mp h w hw)⟩
/-! ===== END ===== -/

def RX0 : String := "NineHouses$Crier"
def TX0 : u_T := fun k => match k with
  | 0 => ("NineHouses$Crier", "plan", "LNineHouses$Plan;", true)
  | 1 => ("NineHouses$Crier", "best", "[I", true)
  | 2 => ("NineHouses$Crier", "stands", "I", false)
  | _ => ("NineHouses$Crier", "first", "I", false)
def tyX0 : Nat → FieldType := fun k => match k with
  | 0 => .object "NineHouses$Plan"
  | 1 => .array .int
  | 2 => .int
  | _ => .int
abbrev wsX00 : List Cond := u_ws RX0 TX0 4
theorem nmX0 : ∀ a, a < 4 → ∀ b, b < 4 → a ≠ b → (TX0 a).2.1 ≠ (TX0 b).2.1 := by decide +kernel
theorem tyX0_ok : ∀ k, k < 4 → parseFieldDescriptor (TX0 k).2.2.1 = some (tyX0 k) := by decide +kernel
abbrev cX0_init : ByteArray := prog_2_method_1_code
def yX0_init : MethodName := ⟨RX0, "<init>", "()V"⟩
abbrev cX0_sendOut : ByteArray := prog_2_method_2_code
def yX0_sendOut : MethodName := ⟨RX0, "sendOut", "(LNineHouses$Parish;LNineHouses$Now;I)Z"⟩
abbrev cX0_search : ByteArray := prog_2_method_3_code
def yX0_search : MethodName := ⟨RX0, "search", "(LNineHouses$Parish;LNineHouses$Now;LNineHouses$Waking;LNineHouses$Raising;I)V"⟩
abbrev cX0_turnToNext : ByteArray := prog_2_method_4_code
def yX0_turnToNext : MethodName := ⟨RX0, "turnToNext", "()Z"⟩
def RX1 : String := "NineHouses$Moves"
def TX1 : u_T := fun k => match k with
  | 0 => ("NineHouses$Moves", "count", "I", false)
  | 1 => ("NineHouses$Moves", "part", "[I", true)
  | 2 => ("NineHouses$Moves", "to", "[I", true)
  | 3 => ("NineHouses$Moves", "keptAt", "[I", true)
  | 4 => ("NineHouses$Moves", "arrivals", "[[I", true)
  | 5 => ("NineHouses$Moves", "fires", "[I", true)
  | 6 => ("NineHouses$Moves", "raising", "LNineHouses$Raising;", true)
  | _ => ("NineHouses$Moves", "minutes", "I", false)
def tyX1 : Nat → FieldType := fun k => match k with
  | 0 => .int
  | 1 => .array .int
  | 2 => .array .int
  | 3 => .array .int
  | 4 => .array (.array .int)
  | 5 => .array .int
  | 6 => .object "NineHouses$Raising"
  | _ => .int
abbrev wsX10 : List Cond := u_ws RX1 TX1 8
theorem nmX1 : ∀ a, a < 8 → ∀ b, b < 8 → a ≠ b → (TX1 a).2.1 ≠ (TX1 b).2.1 := by decide +kernel
theorem tyX1_ok : ∀ k, k < 8 → parseFieldDescriptor (TX1 k).2.2.1 = some (tyX1 k) := by decide +kernel
abbrev cX1_init : ByteArray := prog_3_method_1_code
def yX1_init : MethodName := ⟨RX1, "<init>", "()V"⟩
abbrev cX1_find : ByteArray := prog_3_method_2_code
def yX1_find : MethodName := ⟨RX1, "find", "(LNineHouses$Parish;LNineHouses$Waking;[II)V"⟩
abbrev cX1_moveOne : ByteArray := prog_3_method_3_code
def yX1_moveOne : MethodName := ⟨RX1, "moveOne", "(LNineHouses$Parish;II)Z"⟩
abbrev cX1_moveTwo : ByteArray := prog_3_method_4_code
def yX1_moveTwo : MethodName := ⟨RX1, "moveTwo", "(LNineHouses$Parish;)Z"⟩
abbrev cX1_hold : ByteArray := prog_3_method_5_code
def yX1_hold : MethodName := ⟨RX1, "hold", "(III)V"⟩
abbrev cX1_isInTime : ByteArray := prog_3_method_6_code
def yX1_isInTime : MethodName := ⟨RX1, "isInTime", "(LNineHouses$Parish;)Z"⟩
def RX2 : String := "NineHouses$Now"
def TX2 : u_T := fun k => match k with
  | 0 => ("NineHouses$Now", "keptAt", "[I", true)
  | 1 => ("NineHouses$Now", "fits", "[I", true)
  | 2 => ("NineHouses$Now", "away", "I", false)
  | 3 => ("NineHouses$Now", "seed", "I", false)
  | _ => ("NineHouses$Now", "isThere", "Z", false)
def tyX2 : Nat → FieldType := fun k => match k with
  | 0 => .array .int
  | 1 => .array .int
  | 2 => .int
  | 3 => .int
  | _ => .boolean
abbrev wsX20 : List Cond := u_ws RX2 TX2 5
theorem nmX2 : ∀ a, a < 5 → ∀ b, b < 5 → a ≠ b → (TX2 a).2.1 ≠ (TX2 b).2.1 := by decide +kernel
theorem tyX2_ok : ∀ k, k < 5 → parseFieldDescriptor (TX2 k).2.2.1 = some (tyX2 k) := by decide +kernel
abbrev cX2_init : ByteArray := prog_4_method_1_code
def yX2_init : MethodName := ⟨RX2, "<init>", "()V"⟩
abbrev cX2_begin : ByteArray := prog_4_method_2_code
def yX2_begin : MethodName := ⟨RX2, "begin", "(LNineHouses$Parish;)V"⟩
abbrev cX2_becomes : ByteArray := prog_4_method_3_code
def yX2_becomes : MethodName := ⟨RX2, "becomes", "(LNineHouses$Now;)V"⟩
abbrev cX2_partsAt : ByteArray := prog_4_method_4_code
def yX2_partsAt : MethodName := ⟨RX2, "partsAt", "(II)I"⟩
abbrev cX2_draw : ByteArray := prog_4_method_5_code
def yX2_draw : MethodName := ⟨RX2, "draw", "(I)I"⟩
def RX3 : String := "NineHouses$Parish"
def TX3 : u_T := fun k => match k with
  | 0 => ("NineHouses$Parish", "houses", "I", false)
  | 1 => ("NineHouses$Parish", "parts", "I", false)
  | 2 => ("NineHouses$Parish", "wake", "[I", true)
  | 3 => ("NineHouses$Parish", "key", "[I", true)
  | 4 => ("NineHouses$Parish", "odds", "[[I", true)
  | 5 => ("NineHouses$Parish", "far", "[[I", true)
  | 6 => ("NineHouses$Parish", "home", "[I", true)
  | 7 => ("NineHouses$Parish", "minutes", "[I", true)
  | 8 => ("NineHouses$Parish", "gain", "[I", true)
  | _ => ("NineHouses$Parish", "behind", "[I", true)
def tyX3 : Nat → FieldType := fun k => match k with
  | 0 => .int
  | 1 => .int
  | 2 => .array .int
  | 3 => .array .int
  | 4 => .array (.array .int)
  | 5 => .array (.array .int)
  | 6 => .array .int
  | 7 => .array .int
  | 8 => .array .int
  | _ => .array .int
abbrev wsX30 : List Cond := u_ws RX3 TX3 10
theorem nmX3 : ∀ a, a < 10 → ∀ b, b < 10 → a ≠ b → (TX3 a).2.1 ≠ (TX3 b).2.1 := by decide +kernel
theorem tyX3_ok : ∀ k, k < 10 → parseFieldDescriptor (TX3 k).2.2.1 = some (tyX3 k) := by decide +kernel
abbrev cX3_init : ByteArray := prog_5_method_1_code
def yX3_init : MethodName := ⟨RX3, "<init>", "()V"⟩
abbrev cX3_learn : ByteArray := prog_5_method_2_code
def yX3_learn : MethodName := ⟨RX3, "learn", "(LNineHouses$Text;)V"⟩
abbrev cX3_allParts : ByteArray := prog_5_method_3_code
def yX3_allParts : MethodName := ⟨RX3, "allParts", "()I"⟩
abbrev cX3_canBeIn : ByteArray := prog_5_method_4_code
def yX3_canBeIn : MethodName := ⟨RX3, "canBeIn", "(I)I"⟩
abbrev cX3_gainOf : ByteArray := prog_5_method_5_code
def yX3_gainOf : MethodName := ⟨RX3, "gainOf", "(I)I"⟩
abbrev cX3_shareOf : ByteArray := prog_5_method_6_code
def yX3_shareOf : MethodName := ⟨RX3, "shareOf", "(III)J"⟩
abbrev cX3_forget : ByteArray := prog_5_method_7_code
def yX3_forget : MethodName := ⟨RX3, "forget", "()V"⟩
abbrev cX3_learnHouse : ByteArray := prog_5_method_8_code
def yX3_learnHouse : MethodName := ⟨RX3, "learnHouse", "(LNineHouses$Text;)V"⟩
abbrev cX3_learnWay : ByteArray := prog_5_method_9_code
def yX3_learnWay : MethodName := ⟨RX3, "learnWay", "(LNineHouses$Text;)V"⟩
abbrev cX3_learnPart : ByteArray := prog_5_method_10_code
def yX3_learnPart : MethodName := ⟨RX3, "learnPart", "(LNineHouses$Text;)V"⟩
abbrev cX3_learnBehind : ByteArray := prog_5_method_11_code
def yX3_learnBehind : MethodName := ⟨RX3, "learnBehind", "(LNineHouses$Text;)I"⟩
abbrev cX3_shortenWays : ByteArray := prog_5_method_12_code
def yX3_shortenWays : MethodName := ⟨RX3, "shortenWays", "()V"⟩
def RX4 : String := "NineHouses$Plan"
def TX4 : u_T := fun k => match k with
  | 0 => ("NineHouses$Plan", "count", "I", false)
  | 1 => ("NineHouses$Plan", "waker", "[I", true)
  | _ => ("NineHouses$Plan", "woken", "[I", true)
def tyX4 : Nat → FieldType := fun k => match k with
  | 0 => .int
  | 1 => .array .int
  | _ => .array .int
abbrev wsX40 : List Cond := u_ws RX4 TX4 3
theorem nmX4 : ∀ a, a < 3 → ∀ b, b < 3 → a ≠ b → (TX4 a).2.1 ≠ (TX4 b).2.1 := by decide +kernel
theorem tyX4_ok : ∀ k, k < 3 → parseFieldDescriptor (TX4 k).2.2.1 = some (tyX4 k) := by decide +kernel
abbrev cX4_init : ByteArray := prog_6_method_1_code
def yX4_init : MethodName := ⟨RX4, "<init>", "()V"⟩
abbrev cX4_learn : ByteArray := prog_6_method_2_code
def yX4_learn : MethodName := ⟨RX4, "learn", "(LNineHouses$Text;I)V"⟩
abbrev cX4_learnWake : ByteArray := prog_6_method_3_code
def yX4_learnWake : MethodName := ⟨RX4, "learnWake", "(LNineHouses$Text;I)V"⟩
abbrev cX4_isWoken : ByteArray := prog_6_method_4_code
def yX4_isWoken : MethodName := ⟨RX4, "isWoken", "(I)Z"⟩
def RX5 : String := "NineHouses$Raising"
def TX5 : u_T := fun k => match k with
  | 0 => ("NineHouses$Raising", "coming", "[I", true)
  | 1 => ("NineHouses$Raising", "order", "[I", true)
  | 2 => ("NineHouses$Raising", "count", "I", false)
  | 3 => ("NineHouses$Raising", "waitedFor", "I", false)
  | _ => ("NineHouses$Raising", "ready", "[I", true)
def tyX5 : Nat → FieldType := fun k => match k with
  | 0 => .array .int
  | 1 => .array .int
  | 2 => .int
  | 3 => .int
  | _ => .array .int
abbrev wsX50 : List Cond := u_ws RX5 TX5 5
theorem nmX5 : ∀ a, a < 5 → ∀ b, b < 5 → a ≠ b → (TX5 a).2.1 ≠ (TX5 b).2.1 := by decide +kernel
theorem tyX5_ok : ∀ k, k < 5 → parseFieldDescriptor (TX5 k).2.2.1 = some (tyX5 k) := by decide +kernel
abbrev cX5_init : ByteArray := prog_7_method_1_code
def yX5_init : MethodName := ⟨RX5, "<init>", "()V"⟩
abbrev cX5_gather : ByteArray := prog_7_method_2_code
def yX5_gather : MethodName := ⟨RX5, "gather", "(LNineHouses$Parish;LNineHouses$Waking;[II)V"⟩
abbrev cX5_countNever : ByteArray := prog_7_method_3_code
def yX5_countNever : MethodName := ⟨RX5, "countNever", "(I)V"⟩
abbrev cX5_laterThan : ByteArray := prog_7_method_4_code
def yX5_laterThan : MethodName := ⟨RX5, "laterThan", "(II)I"⟩
abbrev cX5_run : ByteArray := prog_7_method_5_code
def yX5_run : MethodName := ⟨RX5, "run", "(LNineHouses$Parish;I)I"⟩
abbrev cX5_makeReady : ByteArray := prog_7_method_6_code
def yX5_makeReady : MethodName := ⟨RX5, "makeReady", "(LNineHouses$Parish;I)V"⟩
abbrev cX5_queueUp : ByteArray := prog_7_method_7_code
def yX5_queueUp : MethodName := ⟨RX5, "queueUp", "(I)V"⟩
abbrev cX5_putAll : ByteArray := prog_7_method_8_code
def yX5_putAll : MethodName := ⟨RX5, "putAll", "(LNineHouses$Parish;)I"⟩
def RX6 : String := "NineHouses$Text"
def TX6 : u_T := fun k => match k with
  | 0 => ("NineHouses$Text", "signs", "[C", true)
  | 1 => ("NineHouses$Text", "length", "I", false)
  | 2 => ("NineHouses$Text", "start", "I", false)
  | 3 => ("NineHouses$Text", "fault", "I", false)
  | 4 => ("NineHouses$Text", "faultAt", "I", false)
  | _ => ("NineHouses$Text", "at", "I", false)
def tyX6 : Nat → FieldType := fun k => match k with
  | 0 => .array .char
  | 1 => .int
  | 2 => .int
  | 3 => .int
  | 4 => .int
  | _ => .int
abbrev wsX60 : List Cond := u_ws RX6 TX6 6
theorem nmX6 : ∀ a, a < 6 → ∀ b, b < 6 → a ≠ b → (TX6 a).2.1 ≠ (TX6 b).2.1 := by decide +kernel
theorem tyX6_ok : ∀ k, k < 6 → parseFieldDescriptor (TX6 k).2.2.1 = some (tyX6 k) := by decide +kernel
abbrev cX6_init : ByteArray := prog_8_method_1_code
def yX6_init : MethodName := ⟨RX6, "<init>", "()V"⟩
abbrev cX6_append : ByteArray := prog_8_method_2_code
def yX6_append : MethodName := ⟨RX6, "append", "(IJ)V"⟩
abbrev cX6_begin : ByteArray := prog_8_method_3_code
def yX6_begin : MethodName := ⟨RX6, "begin", "()V"⟩
abbrev cX6_isSound : ByteArray := prog_8_method_4_code
def yX6_isSound : MethodName := ⟨RX6, "isSound", "()Z"⟩
abbrev cX6_blame : ByteArray := prog_8_method_5_code
def yX6_blame : MethodName := ⟨RX6, "blame", "(II)V"⟩
abbrev cX6_blameHere : ByteArray := prog_8_method_6_code
def yX6_blameHere : MethodName := ⟨RX6, "blameHere", "()V"⟩
abbrev cX6_goesOn : ByteArray := prog_8_method_7_code
def yX6_goesOn : MethodName := ⟨RX6, "goesOn", "()Z"⟩
abbrev cX6_takesWord : ByteArray := prog_8_method_8_code
def yX6_takesWord : MethodName := ⟨RX6, "takesWord", "(Ljava/lang/String;)Z"⟩
abbrev cX6_takesSign : ByteArray := prog_8_method_9_code
def yX6_takesSign : MethodName := ⟨RX6, "takesSign", "(C)Z"⟩
abbrev cX6_endClause : ByteArray := prog_8_method_10_code
def yX6_endClause : MethodName := ⟨RX6, "endClause", "()V"⟩
abbrev cX6_takeNumber : ByteArray := prog_8_method_11_code
def yX6_takeNumber : MethodName := ⟨RX6, "takeNumber", "(II)I"⟩
abbrev cX6_skipBlanks : ByteArray := prog_8_method_12_code
def yX6_skipBlanks : MethodName := ⟨RX6, "skipBlanks", "()V"⟩
abbrev cX6_isLetter : ByteArray := prog_8_method_13_code
def yX6_isLetter : MethodName := ⟨RX6, "isLetter", "(C)Z"⟩
abbrev cX6_isFigure : ByteArray := prog_8_method_14_code
def yX6_isFigure : MethodName := ⟨RX6, "isFigure", "(C)Z"⟩
def RX7 : String := "NineHouses$Waking"
def TX7 : u_T := fun k => match k with
  | 0 => ("NineHouses$Waking", "awake", "[I", true)
  | 1 => ("NineHouses$Waking", "setsOut", "[I", true)
  | 2 => ("NineHouses$Waking", "whence", "[I", true)
  | 3 => ("NineHouses$Waking", "wakers", "[I", true)
  | _ => ("NineHouses$Waking", "count", "I", false)
def tyX7 : Nat → FieldType := fun k => match k with
  | 0 => .array .int
  | 1 => .array .int
  | 2 => .array .int
  | 3 => .array .int
  | _ => .int
abbrev wsX70 : List Cond := u_ws RX7 TX7 5
theorem nmX7 : ∀ a, a < 5 → ∀ b, b < 5 → a ≠ b → (TX7 a).2.1 ≠ (TX7 b).2.1 := by decide +kernel
theorem tyX7_ok : ∀ k, k < 5 → parseFieldDescriptor (TX7 k).2.2.1 = some (tyX7 k) := by decide +kernel
abbrev cX7_init : ByteArray := prog_9_method_1_code
def yX7_init : MethodName := ⟨RX7, "<init>", "()V"⟩
abbrev cX7_run : ByteArray := prog_9_method_2_code
def yX7_run : MethodName := ⟨RX7, "run", "(LNineHouses$Parish;LNineHouses$Plan;II)V"⟩
abbrev cX7_arrival : ByteArray := prog_9_method_3_code
def yX7_arrival : MethodName := ⟨RX7, "arrival", "(LNineHouses$Parish;II)I"⟩
abbrev cX7_rouse : ByteArray := prog_9_method_4_code
def yX7_rouse : MethodName := ⟨RX7, "rouse", "(II)V"⟩
abbrev cX7_goRound : ByteArray := prog_9_method_5_code
def yX7_goRound : MethodName := ⟨RX7, "goRound", "(LNineHouses$Parish;LNineHouses$Plan;III)V"⟩
def RX8 : String := "NineHouses"
def TX8 : u_T := fun k => match k with
  | 0 => ("NineHouses", "text", "LNineHouses$Text;", true)
  | 1 => ("NineHouses", "now", "LNineHouses$Now;", true)
  | 2 => ("NineHouses", "image0", "LNineHouses$Now;", true)
  | 3 => ("NineHouses", "image1", "LNineHouses$Now;", true)
  | 4 => ("NineHouses", "waking", "LNineHouses$Waking;", true)
  | 5 => ("NineHouses", "raising", "LNineHouses$Raising;", true)
  | 6 => ("NineHouses", "beside", "LNineHouses$Raising;", true)
  | 7 => ("NineHouses", "crier", "LNineHouses$Crier;", true)
  | 8 => ("NineHouses", "cost", "[I", true)
  | 9 => ("NineHouses", "logged", "[I", true)
  | 10 => ("NineHouses", "ways", "[I", true)
  | 11 => ("NineHouses", "parish", "LNineHouses$Parish;", false)
  | 12 => ("NineHouses", "unusedParish", "LNineHouses$Parish;", false)
  | 13 => ("NineHouses", "plan", "LNineHouses$Plan;", false)
  | 14 => ("NineHouses", "unusedPlan", "LNineHouses$Plan;", false)
  | 15 => ("NineHouses", "moves", "LNineHouses$Moves;", true)
  | _ => ("NineHouses", "store", "I", false)
def tyX8 : Nat → FieldType := fun k => match k with
  | 0 => .object "NineHouses$Text"
  | 1 => .object "NineHouses$Now"
  | 2 => .object "NineHouses$Now"
  | 3 => .object "NineHouses$Now"
  | 4 => .object "NineHouses$Waking"
  | 5 => .object "NineHouses$Raising"
  | 6 => .object "NineHouses$Raising"
  | 7 => .object "NineHouses$Crier"
  | 8 => .array .int
  | 9 => .array .int
  | 10 => .array .int
  | 11 => .object "NineHouses$Parish"
  | 12 => .object "NineHouses$Parish"
  | 13 => .object "NineHouses$Plan"
  | 14 => .object "NineHouses$Plan"
  | 15 => .object "NineHouses$Moves"
  | _ => .int
abbrev wsX80 : List Cond := u_ws RX8 TX8 17
theorem nmX8 : ∀ a, a < 17 → ∀ b, b < 17 → a ≠ b → (TX8 a).2.1 ≠ (TX8 b).2.1 := by decide +kernel
theorem tyX8_ok : ∀ k, k < 17 → parseFieldDescriptor (TX8 k).2.2.1 = some (tyX8 k) := by decide +kernel
abbrev cX8_init : ByteArray := prog_1_method_1_code
def yX8_init : MethodName := ⟨RX8, "<init>", "()V"⟩
abbrev cX8_feed : ByteArray := prog_1_method_2_code
def yX8_feed : MethodName := ⟨RX8, "feed", "(IJ)I"⟩
abbrev cX8_parish : ByteArray := prog_1_method_3_code
def yX8_parish : MethodName := ⟨RX8, "parish", "()I"⟩
abbrev cX8_plan : ByteArray := prog_1_method_4_code
def yX8_plan : MethodName := ⟨RX8, "plan", "()I"⟩
abbrev cX8_fault : ByteArray := prog_1_method_5_code
def yX8_fault : MethodName := ⟨RX8, "fault", "()I"⟩
abbrev cX8_told : ByteArray := prog_1_method_6_code
def yX8_told : MethodName := ⟨RX8, "told", "(I)I"⟩
abbrev cX8_house : ByteArray := prog_1_method_7_code
def yX8_house : MethodName := ⟨RX8, "house", "(II)I"⟩
abbrev cX8_far : ByteArray := prog_1_method_8_code
def yX8_far : MethodName := ⟨RX8, "far", "(II)I"⟩
abbrev cX8_part : ByteArray := prog_1_method_9_code
def yX8_part : MethodName := ⟨RX8, "part", "(II)I"⟩
abbrev cX8_away : ByteArray := prog_1_method_10_code
def yX8_away : MethodName := ⟨RX8, "away", "(I)I"⟩
abbrev cX8_awake : ByteArray := prog_1_method_11_code
def yX8_awake : MethodName := ⟨RX8, "awake", "(II)I"⟩
abbrev cX8_comes : ByteArray := prog_1_method_12_code
def yX8_comes : MethodName := ⟨RX8, "comes", "(III)I"⟩
abbrev cX8_stands : ByteArray := prog_1_method_13_code
def yX8_stands : MethodName := ⟨RX8, "stands", "(II)I"⟩
abbrev cX8_put : ByteArray := prog_1_method_14_code
def yX8_put : MethodName := ⟨RX8, "put", "(III)I"⟩
abbrev cX8_waited : ByteArray := prog_1_method_15_code
def yX8_waited : MethodName := ⟨RX8, "waited", "(II)I"⟩
abbrev cX8_odds : ByteArray := prog_1_method_16_code
def yX8_odds : MethodName := ⟨RX8, "odds", "(IIII)I"⟩
abbrev cX8_night : ByteArray := prog_1_method_17_code
def yX8_night : MethodName := ⟨RX8, "night", "(I)I"⟩
abbrev cX8_crier : ByteArray := prog_1_method_18_code
def yX8_crier : MethodName := ⟨RX8, "crier", "(III)I"⟩
abbrev cX8_keepAt : ByteArray := prog_1_method_19_code
def yX8_keepAt : MethodName := ⟨RX8, "keepAt", "(II)I"⟩
abbrev cX8_kept : ByteArray := prog_1_method_20_code
def yX8_kept : MethodName := ⟨RX8, "kept", "(III)I"⟩
abbrev cX8_reach : ByteArray := prog_1_method_21_code
def yX8_reach : MethodName := ⟨RX8, "reach", "(I)I"⟩
abbrev cX8_needed : ByteArray := prog_1_method_22_code
def yX8_needed : MethodName := ⟨RX8, "needed", "(I)I"⟩
abbrev cX8_fit : ByteArray := prog_1_method_23_code
def yX8_fit : MethodName := ⟨RX8, "fit", "(II)I"⟩
abbrev cX8_ladders : ByteArray := prog_1_method_24_code
def yX8_ladders : MethodName := ⟨RX8, "ladders", "(II)I"⟩
abbrev cX8_longest : ByteArray := prog_1_method_25_code
def yX8_longest : MethodName := ⟨RX8, "longest", "(I)I"⟩
abbrev cX8_cost : ByteArray := prog_1_method_26_code
def yX8_cost : MethodName := ⟨RX8, "cost", "(II)I"⟩
abbrev cX8_store : ByteArray := prog_1_method_27_code
def yX8_store : MethodName := ⟨RX8, "store", "(I)I"⟩
abbrev cX8_spares : ByteArray := prog_1_method_28_code
def yX8_spares : MethodName := ⟨RX8, "spares", "(IIII)I"⟩
abbrev cX8_two : ByteArray := prog_1_method_29_code
def yX8_two : MethodName := ⟨RX8, "two", "(IIII)I"⟩
abbrev cX8_log : ByteArray := prog_1_method_30_code
def yX8_log : MethodName := ⟨RX8, "log", "(II)I"⟩
abbrev cX8_clear : ByteArray := prog_1_method_31_code
def yX8_clear : MethodName := ⟨RX8, "clear", "()I"⟩
abbrev cX8_late : ByteArray := prog_1_method_32_code
def yX8_late : MethodName := ⟨RX8, "late", "(III)I"⟩
abbrev cX8_judge : ByteArray := prog_1_method_33_code
def yX8_judge : MethodName := ⟨RX8, "judge", "(III)I"⟩
abbrev cX8_seed : ByteArray := prog_1_method_34_code
def yX8_seed : MethodName := ⟨RX8, "seed", "(I)I"⟩
abbrev cX8_keep : ByteArray := prog_1_method_35_code
def yX8_keep : MethodName := ⟨RX8, "keep", "(I)I"⟩
abbrev cX8_goBack : ByteArray := prog_1_method_36_code
def yX8_goBack : MethodName := ⟨RX8, "goBack", "(I)I"⟩
abbrev cX8_startAnew : ByteArray := prog_1_method_37_code
def yX8_startAnew : MethodName := ⟨RX8, "startAnew", "()V"⟩
abbrev cX8_noHouse : ByteArray := prog_1_method_38_code
def yX8_noHouse : MethodName := ⟨RX8, "noHouse", "(I)Z"⟩
abbrev cX8_noPart : ByteArray := prog_1_method_39_code
def yX8_noPart : MethodName := ⟨RX8, "noPart", "(I)Z"⟩
abbrev cX8_beyond : ByteArray := prog_1_method_40_code
def yX8_beyond : MethodName := ⟨RX8, "beyond", "(II)Z"⟩
abbrev cX8_fullSet : ByteArray := prog_1_method_41_code
def yX8_fullSet : MethodName := ⟨RX8, "fullSet", "(I)I"⟩
abbrev cX8_has : ByteArray := prog_1_method_42_code
def yX8_has : MethodName := ⟨RX8, "has", "(II)Z"⟩
abbrev cX8_counted : ByteArray := prog_1_method_43_code
def yX8_counted : MethodName := ⟨RX8, "counted", "(I)I"⟩
abbrev cX8_swap : ByteArray := prog_1_method_44_code
def yX8_swap : MethodName := ⟨RX8, "swap", "([III)V"⟩
abbrev cX8_wakeAll : ByteArray := prog_1_method_45_code
def yX8_wakeAll : MethodName := ⟨RX8, "wakeAll", "(I)V"⟩
abbrev cX8_raiseAll : ByteArray := prog_1_method_46_code
def yX8_raiseAll : MethodName := ⟨RX8, "raiseAll", "(II)I"⟩
abbrev cX8_countWays : ByteArray := prog_1_method_47_code
def yX8_countWays : MethodName := ⟨RX8, "countWays", "(I)V"⟩
abbrev cX8_costOf : ByteArray := prog_1_method_48_code
def yX8_costOf : MethodName := ⟨RX8, "costOf", "(I)I"⟩
abbrev cX8_standsWith : ByteArray := prog_1_method_49_code
def yX8_standsWith : MethodName := ⟨RX8, "standsWith", "(II)I"⟩
abbrev cX8_countLogged : ByteArray := prog_1_method_50_code
def yX8_countLogged : MethodName := ⟨RX8, "countLogged", "()I"⟩
abbrev cX8_lateBy : ByteArray := prog_1_method_51_code
def yX8_lateBy : MethodName := ⟨RX8, "lateBy", "(II)I"⟩
abbrev cX8_findLatest : ByteArray := prog_1_method_52_code
def yX8_findLatest : MethodName := ⟨RX8, "findLatest", "()I"⟩
abbrev cX8_standsByLog : ByteArray := prog_1_method_53_code
def yX8_standsByLog : MethodName := ⟨RX8, "standsByLog", "()I"⟩
def RX9 : String := "NineHousesModel"
def TX9 : u_T := fun k => match k with
  | 0 => ("NineHousesModel", "w", "[I", true)
  | 1 => ("NineHousesModel", "isKept", "[Z", true)
  | 2 => ("NineHousesModel", "house", "[I", true)
  | 3 => ("NineHousesModel", "ways", "[I", true)
  | 4 => ("NineHousesModel", "keptAt", "[I", true)
  | 5 => ("NineHousesModel", "minutes", "[I", true)
  | 6 => ("NineHousesModel", "gains", "[I", true)
  | 7 => ("NineHousesModel", "behind", "[I", true)
  | 8 => ("NineHousesModel", "many", "[I", true)
  | 9 => ("NineHousesModel", "wakeA", "[I", true)
  | 10 => ("NineHousesModel", "wakeB", "[I", true)
  | 11 => ("NineHousesModel", "wakes", "I", false)
  | 12 => ("NineHousesModel", "newWakes", "I", false)
  | 13 => ("NineHousesModel", "costs", "[I", true)
  | 14 => ("NineHousesModel", "store", "I", false)
  | 15 => ("NineHousesModel", "text", "[I", true)
  | 16 => ("NineHousesModel", "textSize", "I", false)
  | 17 => ("NineHousesModel", "at", "I", false)
  | 18 => ("NineHousesModel", "first", "I", false)
  | 19 => ("NineHousesModel", "length", "I", false)
  | 20 => ("NineHousesModel", "faultOf", "I", false)
  | 21 => ("NineHousesModel", "fault", "I", false)
  | 22 => ("NineHousesModel", "fars", "[I", true)
  | 23 => ("NineHousesModel", "wakeAt", "[I", true)
  | 24 => ("NineHousesModel", "arrives", "[I", true)
  | 25 => ("NineHousesModel", "round", "[I", true)
  | 26 => ("NineHousesModel", "rounds", "I", false)
  | 27 => ("NineHousesModel", "come", "[I", true)
  | 28 => ("NineHousesModel", "ready", "[I", true)
  | 29 => ("NineHousesModel", "order", "[I", true)
  | 30 => ("NineHousesModel", "begun", "[I", true)
  | 31 => ("NineHousesModel", "orderMany", "I", false)
  | 32 => ("NineHousesModel", "criers", "[I", true)
  | 33 => ("NineHousesModel", "bestRound", "[I", true)
  | 34 => ("NineHousesModel", "crierMany", "I", false)
  | 35 => ("NineHousesModel", "moved", "[I", true)
  | 36 => ("NineHousesModel", "counts", "[I", true)
  | 37 => ("NineHousesModel", "logged", "I", false)
  | _ => ("NineHousesModel", "logAt", "[I", true)
def tyX9 : Nat → FieldType := fun k => match k with
  | 0 => .array .int
  | 1 => .array .boolean
  | 2 => .array .int
  | 3 => .array .int
  | 4 => .array .int
  | 5 => .array .int
  | 6 => .array .int
  | 7 => .array .int
  | 8 => .array .int
  | 9 => .array .int
  | 10 => .array .int
  | 11 => .int
  | 12 => .int
  | 13 => .array .int
  | 14 => .int
  | 15 => .array .int
  | 16 => .int
  | 17 => .int
  | 18 => .int
  | 19 => .int
  | 20 => .int
  | 21 => .int
  | 22 => .array .int
  | 23 => .array .int
  | 24 => .array .int
  | 25 => .array .int
  | 26 => .int
  | 27 => .array .int
  | 28 => .array .int
  | 29 => .array .int
  | 30 => .array .int
  | 31 => .int
  | 32 => .array .int
  | 33 => .array .int
  | 34 => .int
  | 35 => .array .int
  | 36 => .array .int
  | 37 => .int
  | _ => .array .int
abbrev wsX90 : List Cond := u_ws RX9 TX9 39
theorem nmX9 : ∀ a, a < 39 → ∀ b, b < 39 → a ≠ b → (TX9 a).2.1 ≠ (TX9 b).2.1 := by decide +kernel
theorem tyX9_ok : ∀ k, k < 39 → parseFieldDescriptor (TX9 k).2.2.1 = some (tyX9 k) := by decide +kernel
abbrev cX9_init : ByteArray := prog_11_method_1_code
def yX9_init : MethodName := ⟨RX9, "<init>", "()V"⟩
abbrev cX9_in : ByteArray := prog_11_method_3_code
def yX9_in : MethodName := ⟨RX9, "in", "(JJJ)Z"⟩
abbrev cX9_one : ByteArray := prog_11_method_4_code
def yX9_one : MethodName := ⟨RX9, "one", "(Z)I"⟩
abbrev cX9_has : ByteArray := prog_11_method_5_code
def yX9_has : MethodName := ⟨RX9, "has", "(II)Z"⟩
abbrev cX9_ones : ByteArray := prog_11_method_6_code
def yX9_ones : MethodName := ⟨RX9, "ones", "(I)I"⟩
abbrev cX9_feed : ByteArray := prog_11_method_7_code
def yX9_feed : MethodName := ⟨RX9, "feed", "(IJ)I"⟩
abbrev cX9_here : ByteArray := prog_11_method_8_code
def yX9_here : MethodName := ⟨RX9, "here", "()I"⟩
abbrev cX9_want : ByteArray := prog_11_method_9_code
def yX9_want : MethodName := ⟨RX9, "want", "(ZII)Z"⟩
abbrev cX9_takeWord : ByteArray := prog_11_method_10_code
def yX9_takeWord : MethodName := ⟨RX9, "takeWord", "()V"⟩
abbrev cX9_isWord : ByteArray := prog_11_method_11_code
def yX9_isWord : MethodName := ⟨RX9, "isWord", "(IIIIII)Z"⟩
abbrev cX9_takeNumber : ByteArray := prog_11_method_12_code
def yX9_takeNumber : MethodName := ⟨RX9, "takeNumber", "(II)I"⟩
abbrev cX9_takeEnd : ByteArray := prog_11_method_13_code
def yX9_takeEnd : MethodName := ⟨RX9, "takeEnd", "()V"⟩
abbrev cX9_beginReading : ByteArray := prog_11_method_14_code
def yX9_beginReading : MethodName := ⟨RX9, "beginReading", "()V"⟩
abbrev cX9_takeHouse : ByteArray := prog_11_method_15_code
def yX9_takeHouse : MethodName := ⟨RX9, "takeHouse", "(I)V"⟩
abbrev cX9_takeWay : ByteArray := prog_11_method_16_code
def yX9_takeWay : MethodName := ⟨RX9, "takeWay", "()V"⟩
abbrev cX9_takePart : ByteArray := prog_11_method_17_code
def yX9_takePart : MethodName := ⟨RX9, "takePart", "(I)V"⟩
abbrev cX9_takeClause : ByteArray := prog_11_method_18_code
def yX9_takeClause : MethodName := ⟨RX9, "takeClause", "()V"⟩
abbrev cX9_parish : ByteArray := prog_11_method_19_code
def yX9_parish : MethodName := ⟨RX9, "parish", "()I"⟩
abbrev cX9_plan : ByteArray := prog_11_method_20_code
def yX9_plan : MethodName := ⟨RX9, "plan", "()I"⟩
abbrev cX9_fault : ByteArray := prog_11_method_21_code
def yX9_fault : MethodName := ⟨RX9, "fault", "()I"⟩
abbrev cX9_findFar : ByteArray := prog_11_method_22_code
def yX9_findFar : MethodName := ⟨RX9, "findFar", "()V"⟩
abbrev cX9_farOf : ByteArray := prog_11_method_23_code
def yX9_farOf : MethodName := ⟨RX9, "farOf", "(II)I"⟩
abbrev cX9_isHouse : ByteArray := prog_11_method_24_code
def yX9_isHouse : MethodName := ⟨RX9, "isHouse", "(I)Z"⟩
abbrev cX9_isPart : ByteArray := prog_11_method_25_code
def yX9_isPart : MethodName := ⟨RX9, "isPart", "(I)Z"⟩
abbrev cX9_isParts : ByteArray := prog_11_method_26_code
def yX9_isParts : MethodName := ⟨RX9, "isParts", "(I)Z"⟩
abbrev cX9_told : ByteArray := prog_11_method_27_code
def yX9_told : MethodName := ⟨RX9, "told", "(I)I"⟩
abbrev cX9_partsAt : ByteArray := prog_11_method_28_code
def yX9_partsAt : MethodName := ⟨RX9, "partsAt", "(I)I"⟩
abbrev cX9_house : ByteArray := prog_11_method_29_code
def yX9_house : MethodName := ⟨RX9, "house", "(II)I"⟩
abbrev cX9_far : ByteArray := prog_11_method_30_code
def yX9_far : MethodName := ⟨RX9, "far", "(II)I"⟩
abbrev cX9_part : ByteArray := prog_11_method_31_code
def yX9_part : MethodName := ⟨RX9, "part", "(II)I"⟩
abbrev cX9_isAway : ByteArray := prog_11_method_32_code
def yX9_isAway : MethodName := ⟨RX9, "isAway", "(III)Z"⟩
abbrev cX9_goRound : ByteArray := prog_11_method_33_code
def yX9_goRound : MethodName := ⟨RX9, "goRound", "(IIIII)V"⟩
abbrev cX9_begin : ByteArray := prog_11_method_34_code
def yX9_begin : MethodName := ⟨RX9, "begin", "(I)V"⟩
abbrev cX9_arriveAwake : ByteArray := prog_11_method_35_code
def yX9_arriveAwake : MethodName := ⟨RX9, "arriveAwake", "(I)V"⟩
abbrev cX9_burn : ByteArray := prog_11_method_36_code
def yX9_burn : MethodName := ⟨RX9, "burn", "(III)V"⟩
abbrev cX9_comeAll : ByteArray := prog_11_method_37_code
def yX9_comeAll : MethodName := ⟨RX9, "comeAll", "()V"⟩
abbrev cX9_putIn : ByteArray := prog_11_method_38_code
def yX9_putIn : MethodName := ⟨RX9, "putIn", "(I)I"⟩
abbrev cX9_allParts : ByteArray := prog_11_method_39_code
def yX9_allParts : MethodName := ⟨RX9, "allParts", "()I"⟩
abbrev cX9_standsBy : ByteArray := prog_11_method_40_code
def yX9_standsBy : MethodName := ⟨RX9, "standsBy", "(III)I"⟩
abbrev cX9_held : ByteArray := prog_11_method_41_code
def yX9_held : MethodName := ⟨RX9, "held", "(I)I"⟩
abbrev cX9_away : ByteArray := prog_11_method_42_code
def yX9_away : MethodName := ⟨RX9, "away", "(I)I"⟩
abbrev cX9_awake : ByteArray := prog_11_method_43_code
def yX9_awake : MethodName := ⟨RX9, "awake", "(II)I"⟩
abbrev cX9_comes : ByteArray := prog_11_method_44_code
def yX9_comes : MethodName := ⟨RX9, "comes", "(III)I"⟩
abbrev cX9_stands : ByteArray := prog_11_method_45_code
def yX9_stands : MethodName := ⟨RX9, "stands", "(II)I"⟩
abbrev cX9_put : ByteArray := prog_11_method_46_code
def yX9_put : MethodName := ⟨RX9, "put", "(III)I"⟩
abbrev cX9_waited : ByteArray := prog_11_method_47_code
def yX9_waited : MethodName := ⟨RX9, "waited", "(II)I"⟩
abbrev cX9_oddsOf : ByteArray := prog_11_method_48_code
def yX9_oddsOf : MethodName := ⟨RX9, "oddsOf", "(III)J"⟩
abbrev cX9_odds : ByteArray := prog_11_method_49_code
def yX9_odds : MethodName := ⟨RX9, "odds", "(IIII)I"⟩
abbrev cX9_draw : ByteArray := prog_11_method_50_code
def yX9_draw : MethodName := ⟨RX9, "draw", "(I)I"⟩
abbrev cX9_night : ByteArray := prog_11_method_51_code
def yX9_night : MethodName := ⟨RX9, "night", "(I)I"⟩
abbrev cX9_nextRound : ByteArray := prog_11_method_52_code
def yX9_nextRound : MethodName := ⟨RX9, "nextRound", "()Z"⟩
abbrev cX9_cried : ByteArray := prog_11_method_53_code
def yX9_cried : MethodName := ⟨RX9, "cried", "(II)I"⟩
abbrev cX9_crier : ByteArray := prog_11_method_54_code
def yX9_crier : MethodName := ⟨RX9, "crier", "(III)I"⟩
abbrev cX9_keepAt : ByteArray := prog_11_method_55_code
def yX9_keepAt : MethodName := ⟨RX9, "keepAt", "(II)I"⟩
abbrev cX9_holds : ByteArray := prog_11_method_56_code
def yX9_holds : MethodName := ⟨RX9, "holds", "(II)Z"⟩
abbrev cX9_movesTwo : ByteArray := prog_11_method_57_code
def yX9_movesTwo : MethodName := ⟨RX9, "movesTwo", "(III)Z"⟩
abbrev cX9_findMoved : ByteArray := prog_11_method_58_code
def yX9_findMoved : MethodName := ⟨RX9, "findMoved", "(II)I"⟩
abbrev cX9_kept : ByteArray := prog_11_method_59_code
def yX9_kept : MethodName := ⟨RX9, "kept", "(III)I"⟩
abbrev cX9_canBeIn : ByteArray := prog_11_method_60_code
def yX9_canBeIn : MethodName := ⟨RX9, "canBeIn", "(I)I"⟩
abbrev cX9_reachOf : ByteArray := prog_11_method_61_code
def yX9_reachOf : MethodName := ⟨RX9, "reachOf", "(I)I"⟩
abbrev cX9_reach : ByteArray := prog_11_method_62_code
def yX9_reach : MethodName := ⟨RX9, "reach", "(I)I"⟩
abbrev cX9_needed : ByteArray := prog_11_method_63_code
def yX9_needed : MethodName := ⟨RX9, "needed", "(I)I"⟩
abbrev cX9_fit : ByteArray := prog_11_method_64_code
def yX9_fit : MethodName := ⟨RX9, "fit", "(II)I"⟩
abbrev cX9_laddersOf : ByteArray := prog_11_method_65_code
def yX9_laddersOf : MethodName := ⟨RX9, "laddersOf", "(II)I"⟩
abbrev cX9_ladders : ByteArray := prog_11_method_66_code
def yX9_ladders : MethodName := ⟨RX9, "ladders", "(II)I"⟩
abbrev cX9_longest : ByteArray := prog_11_method_67_code
def yX9_longest : MethodName := ⟨RX9, "longest", "(I)I"⟩
abbrev cX9_cost : ByteArray := prog_11_method_68_code
def yX9_cost : MethodName := ⟨RX9, "cost", "(II)I"⟩
abbrev cX9_store : ByteArray := prog_11_method_69_code
def yX9_store : MethodName := ⟨RX9, "store", "(I)I"⟩
abbrev cX9_spares : ByteArray := prog_11_method_70_code
def yX9_spares : MethodName := ⟨RX9, "spares", "(IIII)I"⟩
abbrev cX9_endAt : ByteArray := prog_11_method_71_code
def yX9_endAt : MethodName := ⟨RX9, "endAt", "(III)I"⟩
abbrev cX9_two : ByteArray := prog_11_method_72_code
def yX9_two : MethodName := ⟨RX9, "two", "(IIII)I"⟩
abbrev cX9_log : ByteArray := prog_11_method_73_code
def yX9_log : MethodName := ⟨RX9, "log", "(II)I"⟩
abbrev cX9_clear : ByteArray := prog_11_method_74_code
def yX9_clear : MethodName := ⟨RX9, "clear", "()I"⟩
abbrev cX9_lateOf : ByteArray := prog_11_method_75_code
def yX9_lateOf : MethodName := ⟨RX9, "lateOf", "(I)I"⟩
abbrev cX9_late : ByteArray := prog_11_method_76_code
def yX9_late : MethodName := ⟨RX9, "late", "(III)I"⟩
abbrev cX9_judge : ByteArray := prog_11_method_77_code
def yX9_judge : MethodName := ⟨RX9, "judge", "(III)I"⟩
abbrev cX9_seed : ByteArray := prog_11_method_78_code
def yX9_seed : MethodName := ⟨RX9, "seed", "(I)I"⟩
abbrev cX9_copy : ByteArray := prog_11_method_79_code
def yX9_copy : MethodName := ⟨RX9, "copy", "(II)V"⟩
abbrev cX9_keep : ByteArray := prog_11_method_80_code
def yX9_keep : MethodName := ⟨RX9, "keep", "(I)I"⟩
abbrev cX9_goBack : ByteArray := prog_11_method_81_code
def yX9_goBack : MethodName := ⟨RX9, "goBack", "(I)I"⟩
def RJx145de : String := "java/io/Serializable"
def TJx145de : u_T := fun k => match k with
  | _ => ("", "", "", false)
def tyJx145de : Nat → FieldType := fun k => match k with
  | _ => .int
abbrev wsJx145de0 : List Cond := u_ws RJx145de TJx145de 0
theorem nmJx145de : ∀ a, a < 0 → ∀ b, b < 0 → a ≠ b → (TJx145de a).2.1 ≠ (TJx145de b).2.1 := by decide +kernel
theorem tyJx145de_ok : ∀ k, k < 0 → parseFieldDescriptor (TJx145de k).2.2.1 = some (tyJx145de k) := by decide +kernel
def RJx9f9b0 : String := "java/lang/CharSequence"
def TJx9f9b0 : u_T := fun k => match k with
  | _ => ("", "", "", false)
def tyJx9f9b0 : Nat → FieldType := fun k => match k with
  | _ => .int
abbrev wsJx9f9b00 : List Cond := u_ws RJx9f9b0 TJx9f9b0 0
theorem nmJx9f9b0 : ∀ a, a < 0 → ∀ b, b < 0 → a ≠ b → (TJx9f9b0 a).2.1 ≠ (TJx9f9b0 b).2.1 := by decide +kernel
theorem tyJx9f9b0_ok : ∀ k, k < 0 → parseFieldDescriptor (TJx9f9b0 k).2.2.1 = some (tyJx9f9b0 k) := by decide +kernel
def RJxb160c : String := "java/lang/Comparable"
def TJxb160c : u_T := fun k => match k with
  | _ => ("", "", "", false)
def tyJxb160c : Nat → FieldType := fun k => match k with
  | _ => .int
abbrev wsJxb160c0 : List Cond := u_ws RJxb160c TJxb160c 0
theorem nmJxb160c : ∀ a, a < 0 → ∀ b, b < 0 → a ≠ b → (TJxb160c a).2.1 ≠ (TJxb160c b).2.1 := by decide +kernel
theorem tyJxb160c_ok : ∀ k, k < 0 → parseFieldDescriptor (TJxb160c k).2.2.1 = some (tyJxb160c k) := by decide +kernel
def RJ6 : String := "java/lang/Integer"
def TJ6 : u_T := fun k => match k with
  | _ => ("", "", "", false)
def tyJ6 : Nat → FieldType := fun k => match k with
  | _ => .int
abbrev wsJ60 : List Cond := u_ws RJ6 TJ6 0
theorem nmJ6 : ∀ a, a < 0 → ∀ b, b < 0 → a ≠ b → (TJ6 a).2.1 ≠ (TJ6 b).2.1 := by decide +kernel
theorem tyJ6_ok : ∀ k, k < 0 → parseFieldDescriptor (TJ6 k).2.2.1 = some (tyJ6 k) := by decide +kernel
abbrev cJ6_bitCount_0f7a4 : ByteArray := prog_12_method_49_code
def yJ6_bitCount_0f7a4 : MethodName := ⟨RJ6, "bitCount", "(I)I"⟩
def RJ9 : String := "java/lang/Math"
def TJ9 : u_T := fun k => match k with
  | _ => ("", "", "", false)
def tyJ9 : Nat → FieldType := fun k => match k with
  | _ => .int
abbrev wsJ90 : List Cond := u_ws RJ9 TJ9 0
theorem nmJ9 : ∀ a, a < 0 → ∀ b, b < 0 → a ≠ b → (TJ9 a).2.1 ≠ (TJ9 b).2.1 := by decide +kernel
theorem tyJ9_ok : ∀ k, k < 0 → parseFieldDescriptor (TJ9 k).2.2.1 = some (tyJ9 k) := by decide +kernel
abbrev cJ9_max_7cf53 : ByteArray := prog_13_method_65_code
def yJ9_max_7cf53 : MethodName := ⟨RJ9, "max", "(II)I"⟩
abbrev cJ9_min_7cf53 : ByteArray := prog_13_method_69_code
def yJ9_min_7cf53 : MethodName := ⟨RJ9, "min", "(II)I"⟩
def RJ0 : String := "java/lang/String"
def TJ0 : u_T := fun k => match k with
  | _ => ("", "", "", false)
def tyJ0 : Nat → FieldType := fun k => match k with
  | _ => .int
abbrev wsJ00 : List Cond := u_ws RJ0 TJ0 0
theorem nmJ0 : ∀ a, a < 0 → ∀ b, b < 0 → a ≠ b → (TJ0 a).2.1 ≠ (TJ0 b).2.1 := by decide +kernel
theorem tyJ0_ok : ∀ k, k < 0 → parseFieldDescriptor (TJ0 k).2.2.1 = some (tyJ0 k) := by decide +kernel
abbrev cJ0_length_8abf5 : ByteArray := prog_14_method_54_code
def yJ0_length_8abf5 : MethodName := ⟨RJ0, "length", "()I"⟩
abbrev cJ0_charAt_5068e : ByteArray := prog_14_method_56_code
def yJ0_charAt_5068e : MethodName := ⟨RJ0, "charAt", "(I)C"⟩
abbrev cJ0_coder_7d493 : ByteArray := prog_14_method_152_code
def yJ0_coder_7d493 : MethodName := ⟨RJ0, "coder", "()B"⟩
abbrev cJ0_isLatin1_aae02 : ByteArray := prog_14_method_154_code
def yJ0_isLatin1_aae02 : MethodName := ⟨RJ0, "isLatin1", "()Z"⟩
abbrev cJ0_checkIndex_df160 : ByteArray := prog_14_method_155_code
def yJ0_checkIndex_df160 : MethodName := ⟨RJ0, "checkIndex", "(II)V"⟩
def RJ1 : String := "java/lang/StringLatin1"
def TJ1 : u_T := fun k => match k with
  | _ => ("", "", "", false)
def tyJ1 : Nat → FieldType := fun k => match k with
  | _ => .int
abbrev wsJ10 : List Cond := u_ws RJ1 TJ1 0
theorem nmJ1 : ∀ a, a < 0 → ∀ b, b < 0 → a ≠ b → (TJ1 a).2.1 ≠ (TJ1 b).2.1 := by decide +kernel
theorem tyJ1_ok : ∀ k, k < 0 → parseFieldDescriptor (TJ1 k).2.2.1 = some (tyJ1 k) := by decide +kernel
abbrev cJ1_charAt_3b067 : ByteArray := prog_15_method_2_code
def yJ1_charAt_3b067 : MethodName := ⟨RJ1, "charAt", "([BI)C"⟩
def RJ2 : String := "java/lang/StringUTF16"
def TJ2 : u_T := fun k => match k with
  | _ => ("", "", "", false)
def tyJ2 : Nat → FieldType := fun k => match k with
  | _ => .int
abbrev wsJ20 : List Cond := u_ws RJ2 TJ2 0
theorem nmJ2 : ∀ a, a < 0 → ∀ b, b < 0 → a ≠ b → (TJ2 a).2.1 ≠ (TJ2 b).2.1 := by decide +kernel
theorem tyJ2_ok : ∀ k, k < 0 → parseFieldDescriptor (TJ2 k).2.2.1 = some (tyJ2 k) := by decide +kernel
abbrev cJ2_getChar_3b067 : ByteArray := prog_16_method_5_code
def yJ2_getChar_3b067 : MethodName := ⟨RJ2, "getChar", "([BI)C"⟩
abbrev cJ2_length_9d52b : ByteArray := prog_16_method_6_code
def yJ2_length_9d52b : MethodName := ⟨RJ2, "length", "([B)I"⟩
abbrev cJ2_charAt_3b067 : ByteArray := prog_16_method_83_code
def yJ2_charAt_3b067 : MethodName := ⟨RJ2, "charAt", "([BI)C"⟩
abbrev cJ2_checkIndex_2214a : ByteArray := prog_16_method_91_code
def yJ2_checkIndex_2214a : MethodName := ⟨RJ2, "checkIndex", "(I[B)V"⟩
def RJ10 : String := "java/lang/System"
def TJ10 : u_T := fun k => match k with
  | _ => ("", "", "", false)
def tyJ10 : Nat → FieldType := fun k => match k with
  | _ => .int
abbrev wsJ100 : List Cond := u_ws RJ10 TJ10 0
theorem nmJ10 : ∀ a, a < 0 → ∀ b, b < 0 → a ≠ b → (TJ10 a).2.1 ≠ (TJ10 b).2.1 := by decide +kernel
theorem tyJ10_ok : ∀ k, k < 0 → parseFieldDescriptor (TJ10 k).2.2.1 = some (tyJ10 k) := by decide +kernel
def RJxfd54e : String := "java/lang/constant/Constable"
def TJxfd54e : u_T := fun k => match k with
  | _ => ("", "", "", false)
def tyJxfd54e : Nat → FieldType := fun k => match k with
  | _ => .int
abbrev wsJxfd54e0 : List Cond := u_ws RJxfd54e TJxfd54e 0
theorem nmJxfd54e : ∀ a, a < 0 → ∀ b, b < 0 → a ≠ b → (TJxfd54e a).2.1 ≠ (TJxfd54e b).2.1 := by decide +kernel
theorem tyJxfd54e_ok : ∀ k, k < 0 → parseFieldDescriptor (TJxfd54e k).2.2.1 = some (tyJxfd54e k) := by decide +kernel
def RJx3cf43 : String := "java/lang/constant/ConstantDesc"
def TJx3cf43 : u_T := fun k => match k with
  | _ => ("", "", "", false)
def tyJx3cf43 : Nat → FieldType := fun k => match k with
  | _ => .int
abbrev wsJx3cf430 : List Cond := u_ws RJx3cf43 TJx3cf43 0
theorem nmJx3cf43 : ∀ a, a < 0 → ∀ b, b < 0 → a ≠ b → (TJx3cf43 a).2.1 ≠ (TJx3cf43 b).2.1 := by decide +kernel
theorem tyJx3cf43_ok : ∀ k, k < 0 → parseFieldDescriptor (TJx3cf43 k).2.2.1 = some (tyJx3cf43 k) := by decide +kernel
def RJ7 : String := "java/util/Arrays"
def TJ7 : u_T := fun k => match k with
  | _ => ("", "", "", false)
def tyJ7 : Nat → FieldType := fun k => match k with
  | _ => .int
abbrev wsJ70 : List Cond := u_ws RJ7 TJ7 0
theorem nmJ7 : ∀ a, a < 0 → ∀ b, b < 0 → a ≠ b → (TJ7 a).2.1 ≠ (TJ7 b).2.1 := by decide +kernel
theorem tyJ7_ok : ∀ k, k < 0 → parseFieldDescriptor (TJ7 k).2.2.1 = some (tyJ7 k) := by decide +kernel
abbrev cJ7_fill_53178 : ByteArray := prog_18_method_103_code
def yJ7_fill_53178 : MethodName := ⟨RJ7, "fill", "([II)V"⟩
def RJ3 : String := "jdk/internal/util/Preconditions"
def TJ3 : u_T := fun k => match k with
  | _ => ("", "", "", false)
def tyJ3 : Nat → FieldType := fun k => match k with
  | _ => .int
abbrev wsJ30 : List Cond := u_ws RJ3 TJ3 0
theorem nmJ3 : ∀ a, a < 0 → ∀ b, b < 0 → a ≠ b → (TJ3 a).2.1 ≠ (TJ3 b).2.1 := by decide +kernel
theorem tyJ3_ok : ∀ k, k < 0 → parseFieldDescriptor (TJ3 k).2.2.1 = some (tyJ3 k) := by decide +kernel
abbrev cJ3_checkIndex_8e157 : ByteArray := prog_19_method_11_code
def yJ3_checkIndex_8e157 : MethodName := ⟨RJ3, "checkIndex", "(IILjava/util/function/BiFunction;)I"⟩
def RL : String := "NineHousesLaw"
abbrev cL_law : ByteArray := code
def yL_law : MethodName := ⟨RL, "law", "([I)Z"⟩
abbrev vwCl : List vw_C := [(RX0, TX0, 4), (RX1, TX1, 8), (RX2, TX2, 5), (RX3, TX3, 10), (RX4, TX4, 3), (RX5, TX5, 5), (RX6, TX6, 6), (RX7, TX7, 5), (RX8, TX8, 17), (RX9, TX9, 39)]
