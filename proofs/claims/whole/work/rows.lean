section
/-! ===== BEGIN words of one list among another's, by their places ===== -/
theorem goodIn_r {big : List Cond} (ws : List Cond) (ps : List Nat) (hp : ws = ps.filterMap (fun i => big[i]?)) (h : ws.all goodWord = true) : GoodIn big ws := by
  intro w hw
  have h1 := List.all_eq_true.mp h w hw
  rw [hp] at hw
  obtain ⟨i, -, hi⟩ := List.mem_filterMap.mp hw
  have hm : w ∈ big := by first | exact List.mem_of_getElem? hi | exact List.getElem?_mem hi
  exact ⟨hm, good_of_word h1⟩
theorem goodIn_app {big a b : List Cond} (ha : GoodIn big a) (hb : GoodIn big b) : GoodIn big (a ++ b) := fun w h => (List.mem_append.mp h).elim (ha w) (hb w)
theorem goodIn_ca {big a b : List Cond} {c : Cond} (ha : GoodIn big (c :: a)) (hb : GoodIn big b) : GoodIn big (c :: (a ++ b)) := fun w h => (List.mem_cons.mp h).elim (fun e => ha w (List.mem_cons.mpr (Or.inl e))) (fun h => (List.mem_append.mp h).elim (fun h => ha w (List.mem_cons.mpr (Or.inr h))) (hb w))
theorem goodIn_sub {big ws : List Cond} (hm : ∀ w ∈ ws, w ∈ big) (h : ws.all goodWord = true) : GoodIn big ws := fun w hw => ⟨hm w hw, good_of_word (List.all_eq_true.mp h w hw)⟩
/-! ===== END ===== -/

/-! ===== BEGIN printed: names, fields, word lists, decode rows ===== -/
def RX0 : String := "FairWheel$Draws"
def TX0 : u_T := fun k => match k with
  | _ => ("", "", "", false)
def tyX0 : Nat → FieldType := fun k => match k with
  | _ => .int
abbrev wsX00 : List Cond := u_ws RX0 TX0 0
theorem nmX0 : ∀ a, a < 0 → ∀ b, b < 0 → a ≠ b → (TX0 a).2.1 ≠ (TX0 b).2.1 := by decide +kernel
theorem tyX0_ok : ∀ k, k < 0 → parseFieldDescriptor (TX0 k).2.2.1 = some (tyX0 k) := by decide +kernel
abbrev cX0_allShares : ByteArray := prog_2_method_2_code
def yX0_allShares : MethodName := ⟨RX0, "allShares", "(I)J"⟩
abbrev cX0_shares : ByteArray := prog_2_method_3_code
def yX0_shares : MethodName := ⟨RX0, "shares", "(LFairWheel$Wheel;II)J"⟩
abbrev cX0_sum : ByteArray := prog_2_method_4_code
def yX0_sum : MethodName := ⟨RX0, "sum", "(LFairWheel$Wheel;II)J"⟩
abbrev cX0_sumLetGo : ByteArray := prog_2_method_5_code
def yX0_sumLetGo : MethodName := ⟨RX0, "sumLetGo", "(LFairWheel$Wheel;II)J"⟩
abbrev cX0_waiting : ByteArray := prog_2_method_6_code
def yX0_waiting : MethodName := ⟨RX0, "waiting", "(LFairWheel$Wheel;)I"⟩
def RX1 : String := "FairWheel$Filling"
def TX1 : u_T := fun k => match k with
  | _ => ("", "", "", false)
def tyX1 : Nat → FieldType := fun k => match k with
  | _ => .int
abbrev wsX10 : List Cond := u_ws RX1 TX1 0
theorem nmX1 : ∀ a, a < 0 → ∀ b, b < 0 → a ≠ b → (TX1 a).2.1 ≠ (TX1 b).2.1 := by decide +kernel
theorem tyX1_ok : ∀ k, k < 0 → parseFieldDescriptor (TX1 k).2.2.1 = some (tyX1 k) := by decide +kernel
abbrev cX1_howMany : ByteArray := prog_3_method_2_code
def yX1_howMany : MethodName := ⟨RX1, "howMany", "(I)I"⟩
abbrev cX1_personAt : ByteArray := prog_3_method_3_code
def yX1_personAt : MethodName := ⟨RX1, "personAt", "(III)I"⟩
def RX2 : String := "FairWheel$Image"
def TX2 : u_T := fun k => match k with
  | 0 => ("FairWheel$Image", "wheel", "LFairWheel$Wheel;", true)
  | 1 => ("FairWheel$Image", "sights", "LFairWheel$Sights;", true)
  | _ => ("FairWheel$Image", "kept", "Z", false)
def tyX2 : Nat → FieldType := fun k => match k with
  | 0 => .object "FairWheel$Wheel"
  | 1 => .object "FairWheel$Sights"
  | _ => .boolean
abbrev wsX20 : List Cond := u_ws RX2 TX2 3
theorem nmX2 : ∀ a, a < 3 → ∀ b, b < 3 → a ≠ b → (TX2 a).2.1 ≠ (TX2 b).2.1 := by decide +kernel
theorem tyX2_ok : ∀ k, k < 3 → parseFieldDescriptor (TX2 k).2.2.1 = some (tyX2 k) := by decide +kernel
abbrev cX2_init : ByteArray := prog_4_method_1_code
def yX2_init : MethodName := ⟨RX2, "<init>", "()V"⟩
abbrev cX2_isKept : ByteArray := prog_4_method_2_code
def yX2_isKept : MethodName := ⟨RX2, "isKept", "()Z"⟩
abbrev cX2_keep : ByteArray := prog_4_method_3_code
def yX2_keep : MethodName := ⟨RX2, "keep", "(LFairWheel$Wheel;LFairWheel$Sights;)V"⟩
abbrev cX2_giveBack : ByteArray := prog_4_method_4_code
def yX2_giveBack : MethodName := ⟨RX2, "giveBack", "(LFairWheel$Wheel;LFairWheel$Sights;)V"⟩
def RX3 : String := "FairWheel$Moves"
def TX3 : u_T := fun k => match k with
  | _ => ("", "", "", false)
def tyX3 : Nat → FieldType := fun k => match k with
  | _ => .int
abbrev wsX30 : List Cond := u_ws RX3 TX3 0
theorem nmX3 : ∀ a, a < 0 → ∀ b, b < 0 → a ≠ b → (TX3 a).2.1 ≠ (TX3 b).2.1 := by decide +kernel
theorem tyX3_ok : ∀ k, k < 0 → parseFieldDescriptor (TX3 k).2.2.1 = some (tyX3 k) := by decide +kernel
abbrev cX3_getsOut : ByteArray := prog_5_method_2_code
def yX3_getsOut : MethodName := ⟨RX3, "getsOut", "(LFairWheel$Wheel;I)Z"⟩
abbrev cX3_canBe : ByteArray := prog_5_method_3_code
def yX3_canBe : MethodName := ⟨RX3, "canBe", "(LFairWheel$Wheel;I)Z"⟩
abbrev cX3_make : ByteArray := prog_5_method_4_code
def yX3_make : MethodName := ⟨RX3, "make", "(LFairWheel$Wheel;I)V"⟩
abbrev cX3_first : ByteArray := prog_5_method_5_code
def yX3_first : MethodName := ⟨RX3, "first", "(LFairWheel$Wheel;II)I"⟩
abbrev cX3_search : ByteArray := prog_5_method_6_code
def yX3_search : MethodName := ⟨RX3, "search", "(LFairWheel$Wheel;II)I"⟩
def RX4 : String := "FairWheel$Pad"
def TX4 : u_T := fun k => match k with
  | 0 => ("FairWheel$Pad", "signs", "[I", true)
  | 1 => ("FairWheel$Pad", "length", "I", false)
  | _ => ("FairWheel$Pad", "asked", "I", false)
def tyX4 : Nat → FieldType := fun k => match k with
  | 0 => .array .int
  | 1 => .int
  | _ => .int
abbrev wsX40 : List Cond := u_ws RX4 TX4 3
theorem nmX4 : ∀ a, a < 3 → ∀ b, b < 3 → a ≠ b → (TX4 a).2.1 ≠ (TX4 b).2.1 := by decide +kernel
theorem tyX4_ok : ∀ k, k < 3 → parseFieldDescriptor (TX4 k).2.2.1 = some (tyX4 k) := by decide +kernel
abbrev cX4_init : ByteArray := prog_6_method_1_code
def yX4_init : MethodName := ⟨RX4, "<init>", "()V"⟩
abbrev cX4_getsIn : ByteArray := prog_6_method_2_code
def yX4_getsIn : MethodName := ⟨RX4, "getsIn", "(I)Z"⟩
abbrev cX4_getsOut : ByteArray := prog_6_method_3_code
def yX4_getsOut : MethodName := ⟨RX4, "getsOut", "(I)Z"⟩
abbrev cX4_isDigit : ByteArray := prog_6_method_4_code
def yX4_isDigit : MethodName := ⟨RX4, "isDigit", "(I)Z"⟩
abbrev cX4_isMotion : ByteArray := prog_6_method_5_code
def yX4_isMotion : MethodName := ⟨RX4, "isMotion", "(I)Z"⟩
abbrev cX4_length : ByteArray := prog_6_method_6_code
def yX4_length : MethodName := ⟨RX4, "length", "()I"⟩
abbrev cX4_signAt : ByteArray := prog_6_method_7_code
def yX4_signAt : MethodName := ⟨RX4, "signAt", "(I)I"⟩
abbrev cX4_write : ByteArray := prog_6_method_8_code
def yX4_write : MethodName := ⟨RX4, "write", "(I)V"⟩
abbrev cX4_clear : ByteArray := prog_6_method_9_code
def yX4_clear : MethodName := ⟨RX4, "clear", "()V"⟩
abbrev cX4_asked : ByteArray := prog_6_method_10_code
def yX4_asked : MethodName := ⟨RX4, "asked", "()I"⟩
abbrev cX4_firstFault : ByteArray := prog_6_method_11_code
def yX4_firstFault : MethodName := ⟨RX4, "firstFault", "()I"⟩
def RX5 : String := "FairWheel$Seating"
def TX5 : u_T := fun k => match k with
  | 0 => ("FairWheel$Seating", "wheel", "LFairWheel$Wheel;", true)
  | 1 => ("FairWheel$Seating", "firstCars", "[I", true)
  | _ => ("FairWheel$Seating", "found", "Z", false)
def tyX5 : Nat → FieldType := fun k => match k with
  | 0 => .object "FairWheel$Wheel"
  | 1 => .array .int
  | _ => .boolean
abbrev wsX50 : List Cond := u_ws RX5 TX5 3
theorem nmX5 : ∀ a, a < 3 → ∀ b, b < 3 → a ≠ b → (TX5 a).2.1 ≠ (TX5 b).2.1 := by decide +kernel
theorem tyX5_ok : ∀ k, k < 3 → parseFieldDescriptor (TX5 k).2.2.1 = some (tyX5 k) := by decide +kernel
abbrev cX5_init : ByteArray := prog_7_method_1_code
def yX5_init : MethodName := ⟨RX5, "<init>", "()V"⟩
abbrev cX5_count : ByteArray := prog_7_method_2_code
def yX5_count : MethodName := ⟨RX5, "count", "(LFairWheel$Wheel;I)I"⟩
abbrev cX5_leastOf : ByteArray := prog_7_method_3_code
def yX5_leastOf : MethodName := ⟨RX5, "leastOf", "(I)I"⟩
abbrev cX5_carInFirst : ByteArray := prog_7_method_4_code
def yX5_carInFirst : MethodName := ⟨RX5, "carInFirst", "(I)I"⟩
abbrev cX5_search : ByteArray := prog_7_method_5_code
def yX5_search : MethodName := ⟨RX5, "search", "(LFairWheel$Seating;II)I"⟩
abbrev cX5_settle : ByteArray := prog_7_method_6_code
def yX5_settle : MethodName := ⟨RX5, "settle", "()I"⟩
def RX6 : String := "FairWheel$Sights"
def TX6 : u_T := fun k => match k with
  | 0 => ("FairWheel$Sights", "people", "[I", true)
  | 1 => ("FairWheel$Sights", "cars", "[I", true)
  | _ => ("FairWheel$Sights", "count", "I", false)
def tyX6 : Nat → FieldType := fun k => match k with
  | 0 => .array .int
  | 1 => .array .int
  | _ => .int
abbrev wsX60 : List Cond := u_ws RX6 TX6 3
theorem nmX6 : ∀ a, a < 3 → ∀ b, b < 3 → a ≠ b → (TX6 a).2.1 ≠ (TX6 b).2.1 := by decide +kernel
theorem tyX6_ok : ∀ k, k < 3 → parseFieldDescriptor (TX6 k).2.2.1 = some (tyX6 k) := by decide +kernel
abbrev cX6_init : ByteArray := prog_8_method_1_code
def yX6_init : MethodName := ⟨RX6, "<init>", "()V"⟩
abbrev cX6_copyFrom : ByteArray := prog_8_method_2_code
def yX6_copyFrom : MethodName := ⟨RX6, "copyFrom", "(LFairWheel$Sights;)V"⟩
abbrev cX6_count : ByteArray := prog_8_method_3_code
def yX6_count : MethodName := ⟨RX6, "count", "()I"⟩
abbrev cX6_add : ByteArray := prog_8_method_4_code
def yX6_add : MethodName := ⟨RX6, "add", "(II)V"⟩
abbrev cX6_clear : ByteArray := prog_8_method_5_code
def yX6_clear : MethodName := ⟨RX6, "clear", "()V"⟩
abbrev cX6_areTrue : ByteArray := prog_8_method_6_code
def yX6_areTrue : MethodName := ⟨RX6, "areTrue", "(LFairWheel$Wheel;)Z"⟩
def RX7 : String := "FairWheel$Telling"
def TX7 : u_T := fun k => match k with
  | 0 => ("FairWheel$Telling", "wheel", "LFairWheel$Wheel;", true)
  | 1 => ("FairWheel$Telling", "failedEvent", "I", false)
  | 2 => ("FairWheel$Telling", "reason", "I", false)
  | 3 => ("FairWheel$Telling", "turned", "I", false)
  | 4 => ("FairWheel$Telling", "filling", "I", false)
  | 5 => ("FairWheel$Telling", "asked", "I", false)
  | _ => ("FairWheel$Telling", "askedBefore", "I", false)
def tyX7 : Nat → FieldType := fun k => match k with
  | 0 => .object "FairWheel$Wheel"
  | 1 => .int
  | 2 => .int
  | 3 => .int
  | 4 => .int
  | 5 => .int
  | _ => .int
abbrev wsX70 : List Cond := u_ws RX7 TX7 7
theorem nmX7 : ∀ a, a < 7 → ∀ b, b < 7 → a ≠ b → (TX7 a).2.1 ≠ (TX7 b).2.1 := by decide +kernel
theorem tyX7_ok : ∀ k, k < 7 → parseFieldDescriptor (TX7 k).2.2.1 = some (tyX7 k) := by decide +kernel
abbrev cX7_init : ByteArray := prog_9_method_1_code
def yX7_init : MethodName := ⟨RX7, "<init>", "()V"⟩
abbrev cX7_wheel : ByteArray := prog_9_method_2_code
def yX7_wheel : MethodName := ⟨RX7, "wheel", "()LFairWheel$Wheel;"⟩
abbrev cX7_failedEvent : ByteArray := prog_9_method_3_code
def yX7_failedEvent : MethodName := ⟨RX7, "failedEvent", "()I"⟩
abbrev cX7_reason : ByteArray := prog_9_method_4_code
def yX7_reason : MethodName := ⟨RX7, "reason", "()I"⟩
abbrev cX7_turned : ByteArray := prog_9_method_5_code
def yX7_turned : MethodName := ⟨RX7, "turned", "()I"⟩
abbrev cX7_tell : ByteArray := prog_9_method_6_code
def yX7_tell : MethodName := ⟨RX7, "tell", "(LFairWheel$Wheel;LFairWheel$Pad;II)Z"⟩
abbrev cX7_happen : ByteArray := prog_9_method_7_code
def yX7_happen : MethodName := ⟨RX7, "happen", "(I)I"⟩
abbrev cX7_load : ByteArray := prog_9_method_8_code
def yX7_load : MethodName := ⟨RX7, "load", "(I)I"⟩
abbrev cX7_letIn : ByteArray := prog_9_method_9_code
def yX7_letIn : MethodName := ⟨RX7, "letIn", "(I)I"⟩
abbrev cX7_letOut : ByteArray := prog_9_method_10_code
def yX7_letOut : MethodName := ⟨RX7, "letOut", "(I)I"⟩
def RX8 : String := "FairWheel$Turns"
def TX8 : u_T := fun k => match k with
  | 0 => ("FairWheel$Turns", "wheel", "LFairWheel$Wheel;", true)
  | 1 => ("FairWheel$Turns", "timesLowest", "[I", true)
  | _ => ("FairWheel$Turns", "turned", "I", false)
def tyX8 : Nat → FieldType := fun k => match k with
  | 0 => .object "FairWheel$Wheel"
  | 1 => .array .int
  | _ => .int
abbrev wsX80 : List Cond := u_ws RX8 TX8 3
theorem nmX8 : ∀ a, a < 3 → ∀ b, b < 3 → a ≠ b → (TX8 a).2.1 ≠ (TX8 b).2.1 := by decide +kernel
theorem tyX8_ok : ∀ k, k < 3 → parseFieldDescriptor (TX8 k).2.2.1 = some (tyX8 k) := by decide +kernel
abbrev cX8_init : ByteArray := prog_10_method_1_code
def yX8_init : MethodName := ⟨RX8, "<init>", "()V"⟩
abbrev cX8_turned : ByteArray := prog_10_method_2_code
def yX8_turned : MethodName := ⟨RX8, "turned", "()I"⟩
abbrev cX8_timesLowest : ByteArray := prog_10_method_3_code
def yX8_timesLowest : MethodName := ⟨RX8, "timesLowest", "(I)I"⟩
abbrev cX8_take : ByteArray := prog_10_method_4_code
def yX8_take : MethodName := ⟨RX8, "take", "(LFairWheel$Wheel;II)V"⟩
abbrev cX8_change : ByteArray := prog_10_method_5_code
def yX8_change : MethodName := ⟨RX8, "change", "(I)V"⟩
def RX9 : String := "FairWheel$Wheel"
def TX9 : u_T := fun k => match k with
  | 0 => ("FairWheel$Wheel", "weights", "[I", true)
  | 1 => ("FairWheel$Wheel", "cars", "[I", true)
  | 2 => ("FairWheel$Wheel", "riders", "[I", true)
  | 3 => ("FairWheel$Wheel", "loads", "[I", true)
  | 4 => ("FairWheel$Wheel", "lowest", "I", false)
  | _ => ("FairWheel$Wheel", "friction", "I", false)
def tyX9 : Nat → FieldType := fun k => match k with
  | 0 => .array .int
  | 1 => .array .int
  | 2 => .array .int
  | 3 => .array .int
  | 4 => .int
  | _ => .int
abbrev wsX90 : List Cond := u_ws RX9 TX9 6
theorem nmX9 : ∀ a, a < 6 → ∀ b, b < 6 → a ≠ b → (TX9 a).2.1 ≠ (TX9 b).2.1 := by decide +kernel
theorem tyX9_ok : ∀ k, k < 6 → parseFieldDescriptor (TX9 k).2.2.1 = some (tyX9 k) := by decide +kernel
abbrev cX9_init : ByteArray := prog_11_method_1_code
def yX9_init : MethodName := ⟨RX9, "<init>", "()V"⟩
abbrev cX9_copyFrom : ByteArray := prog_11_method_2_code
def yX9_copyFrom : MethodName := ⟨RX9, "copyFrom", "(LFairWheel$Wheel;)V"⟩
abbrev cX9_clear : ByteArray := prog_11_method_3_code
def yX9_clear : MethodName := ⟨RX9, "clear", "()V"⟩
abbrev cX9_weightOf : ByteArray := prog_11_method_4_code
def yX9_weightOf : MethodName := ⟨RX9, "weightOf", "(I)I"⟩
abbrev cX9_setWeight : ByteArray := prog_11_method_5_code
def yX9_setWeight : MethodName := ⟨RX9, "setWeight", "(II)V"⟩
abbrev cX9_friction : ByteArray := prog_11_method_6_code
def yX9_friction : MethodName := ⟨RX9, "friction", "()I"⟩
abbrev cX9_setFriction : ByteArray := prog_11_method_7_code
def yX9_setFriction : MethodName := ⟨RX9, "setFriction", "(I)V"⟩
abbrev cX9_lowest : ByteArray := prog_11_method_8_code
def yX9_lowest : MethodName := ⟨RX9, "lowest", "()I"⟩
abbrev cX9_riderOf : ByteArray := prog_11_method_9_code
def yX9_riderOf : MethodName := ⟨RX9, "riderOf", "(I)I"⟩
abbrev cX9_carOf : ByteArray := prog_11_method_10_code
def yX9_carOf : MethodName := ⟨RX9, "carOf", "(I)I"⟩
abbrev cX9_isAboard : ByteArray := prog_11_method_11_code
def yX9_isAboard : MethodName := ⟨RX9, "isAboard", "(I)Z"⟩
abbrev cX9_isLowest : ByteArray := prog_11_method_12_code
def yX9_isLowest : MethodName := ⟨RX9, "isLowest", "(I)Z"⟩
abbrev cX9_isTaken : ByteArray := prog_11_method_13_code
def yX9_isTaken : MethodName := ⟨RX9, "isTaken", "()Z"⟩
abbrev cX9_loadOf : ByteArray := prog_11_method_14_code
def yX9_loadOf : MethodName := ⟨RX9, "loadOf", "(I)I"⟩
abbrev cX9_setLoad : ByteArray := prog_11_method_15_code
def yX9_setLoad : MethodName := ⟨RX9, "setLoad", "(II)V"⟩
abbrev cX9_placeOf : ByteArray := prog_11_method_16_code
def yX9_placeOf : MethodName := ⟨RX9, "placeOf", "(I)I"⟩
abbrev cX9_takenCars : ByteArray := prog_11_method_17_code
def yX9_takenCars : MethodName := ⟨RX9, "takenCars", "()I"⟩
abbrev cX9_seat : ByteArray := prog_11_method_18_code
def yX9_seat : MethodName := ⟨RX9, "seat", "(II)V"⟩
abbrev cX9_unseat : ByteArray := prog_11_method_19_code
def yX9_unseat : MethodName := ⟨RX9, "unseat", "(I)V"⟩
abbrev cX9_turn : ByteArray := prog_11_method_20_code
def yX9_turn : MethodName := ⟨RX9, "turn", "(I)V"⟩
abbrev cX9_takeBack : ByteArray := prog_11_method_21_code
def yX9_takeBack : MethodName := ⟨RX9, "takeBack", "(II)V"⟩
abbrev cX9_pullNow : ByteArray := prog_11_method_22_code
def yX9_pullNow : MethodName := ⟨RX9, "pullNow", "()I"⟩
abbrev cX9_pullAt : ByteArray := prog_11_method_23_code
def yX9_pullAt : MethodName := ⟨RX9, "pullAt", "(I)I"⟩
abbrev cX9_greatestPull : ByteArray := prog_11_method_24_code
def yX9_greatestPull : MethodName := ⟨RX9, "greatestPull", "()I"⟩
abbrev cX9_letGo : ByteArray := prog_11_method_25_code
def yX9_letGo : MethodName := ⟨RX9, "letGo", "()I"⟩
abbrev cX9_wayOf : ByteArray := prog_11_method_26_code
def yX9_wayOf : MethodName := ⟨RX9, "wayOf", "(I)I"⟩
def RX10 : String := "FairWheel"
def TX10 : u_T := fun k => match k with
  | 0 => ("FairWheel", "wheel", "LFairWheel$Wheel;", true)
  | 1 => ("FairWheel", "trial", "LFairWheel$Wheel;", true)
  | 2 => ("FairWheel", "pad", "LFairWheel$Pad;", true)
  | 3 => ("FairWheel", "sights", "LFairWheel$Sights;", true)
  | 4 => ("FairWheel", "telling", "LFairWheel$Telling;", true)
  | 5 => ("FairWheel", "seating", "LFairWheel$Seating;", true)
  | 6 => ("FairWheel", "turns", "LFairWheel$Turns;", true)
  | 7 => ("FairWheel", "firstImage", "LFairWheel$Image;", true)
  | _ => ("FairWheel", "secondImage", "LFairWheel$Image;", true)
def tyX10 : Nat → FieldType := fun k => match k with
  | 0 => .object "FairWheel$Wheel"
  | 1 => .object "FairWheel$Wheel"
  | 2 => .object "FairWheel$Pad"
  | 3 => .object "FairWheel$Sights"
  | 4 => .object "FairWheel$Telling"
  | 5 => .object "FairWheel$Seating"
  | 6 => .object "FairWheel$Turns"
  | 7 => .object "FairWheel$Image"
  | _ => .object "FairWheel$Image"
abbrev wsX100 : List Cond := u_ws RX10 TX10 9
theorem nmX10 : ∀ a, a < 9 → ∀ b, b < 9 → a ≠ b → (TX10 a).2.1 ≠ (TX10 b).2.1 := by decide +kernel
theorem tyX10_ok : ∀ k, k < 9 → parseFieldDescriptor (TX10 k).2.2.1 = some (tyX10 k) := by decide +kernel
abbrev cX10_init : ByteArray := prog_1_method_1_code
def yX10_init : MethodName := ⟨RX10, "<init>", "()V"⟩
abbrev cX10_weigh : ByteArray := prog_1_method_2_code
def yX10_weigh : MethodName := ⟨RX10, "weigh", "(II)I"⟩
abbrev cX10_drag : ByteArray := prog_1_method_3_code
def yX10_drag : MethodName := ⟨RX10, "drag", "(I)I"⟩
abbrev cX10_say : ByteArray := prog_1_method_4_code
def yX10_say : MethodName := ⟨RX10, "say", "(I)I"⟩
abbrev cX10_wipe : ByteArray := prog_1_method_5_code
def yX10_wipe : MethodName := ⟨RX10, "wipe", "()I"⟩
abbrev cX10_fault : ByteArray := prog_1_method_6_code
def yX10_fault : MethodName := ⟨RX10, "fault", "()I"⟩
abbrev cX10_judge : ByteArray := prog_1_method_7_code
def yX10_judge : MethodName := ⟨RX10, "judge", "(I)I"⟩
abbrev cX10_done : ByteArray := prog_1_method_8_code
def yX10_done : MethodName := ⟨RX10, "done", "()I"⟩
abbrev cX10_foot : ByteArray := prog_1_method_9_code
def yX10_foot : MethodName := ⟨RX10, "foot", "()I"⟩
abbrev cX10_car : ByteArray := prog_1_method_10_code
def yX10_car : MethodName := ⟨RX10, "car", "(II)I"⟩
abbrev cX10_pull : ByteArray := prog_1_method_11_code
def yX10_pull : MethodName := ⟨RX10, "pull", "()I"⟩
abbrev cX10_behind : ByteArray := prog_1_method_12_code
def yX10_behind : MethodName := ⟨RX10, "behind", "(I)I"⟩
abbrev cX10_leftOut : ByteArray := prog_1_method_13_code
def yX10_leftOut : MethodName := ⟨RX10, "leftOut", "(I)I"⟩
abbrev cX10_down : ByteArray := prog_1_method_14_code
def yX10_down : MethodName := ⟨RX10, "down", "(II)I"⟩
abbrev cX10_pebbles : ByteArray := prog_1_method_15_code
def yX10_pebbles : MethodName := ⟨RX10, "pebbles", "(I)I"⟩
abbrev cX10_brake : ByteArray := prog_1_method_16_code
def yX10_brake : MethodName := ⟨RX10, "brake", "()I"⟩
abbrev cX10_balance : ByteArray := prog_1_method_17_code
def yX10_balance : MethodName := ⟨RX10, "balance", "(II)I"⟩
abbrev cX10_could : ByteArray := prog_1_method_18_code
def yX10_could : MethodName := ⟨RX10, "could", "(III)I"⟩
abbrev cX10_seen : ByteArray := prog_1_method_19_code
def yX10_seen : MethodName := ⟨RX10, "seen", "(II)I"⟩
abbrev cX10_forget : ByteArray := prog_1_method_20_code
def yX10_forget : MethodName := ⟨RX10, "forget", "()I"⟩
abbrev cX10_filled : ByteArray := prog_1_method_21_code
def yX10_filled : MethodName := ⟨RX10, "filled", "(I)I"⟩
abbrev cX10_chance : ByteArray := prog_1_method_22_code
def yX10_chance : MethodName := ⟨RX10, "chance", "(III)J"⟩
abbrev cX10_year : ByteArray := prog_1_method_23_code
def yX10_year : MethodName := ⟨RX10, "year", "(III)I"⟩
abbrev cX10_image : ByteArray := prog_1_method_24_code
def yX10_image : MethodName := ⟨RX10, "image", "(I)I"⟩
abbrev cX10_restore : ByteArray := prog_1_method_25_code
def yX10_restore : MethodName := ⟨RX10, "restore", "(I)I"⟩
abbrev cX10_told : ByteArray := prog_1_method_26_code
def yX10_told : MethodName := ⟨RX10, "told", "(I)I"⟩
abbrev cX10_isPerson : ByteArray := prog_1_method_27_code
def yX10_isPerson : MethodName := ⟨RX10, "isPerson", "(I)Z"⟩
abbrev cX10_isCar : ByteArray := prog_1_method_28_code
def yX10_isCar : MethodName := ⟨RX10, "isCar", "(I)Z"⟩
abbrev cX10_isOf : ByteArray := prog_1_method_29_code
def yX10_isOf : MethodName := ⟨RX10, "isOf", "(II)Z"⟩
abbrev cX10_at : ByteArray := prog_1_method_30_code
def yX10_at : MethodName := ⟨RX10, "at", "([II)I"⟩
abbrev cX10_put : ByteArray := prog_1_method_31_code
def yX10_put : MethodName := ⟨RX10, "put", "([III)V"⟩
abbrev cX10_copyRow : ByteArray := prog_1_method_32_code
def yX10_copyRow : MethodName := ⟨RX10, "copyRow", "([I[I)V"⟩
abbrev cX10_greatestDivisor : ByteArray := prog_1_method_33_code
def yX10_greatestDivisor : MethodName := ⟨RX10, "greatestDivisor", "(JJ)J"⟩
abbrev cX10_imageOf : ByteArray := prog_1_method_34_code
def yX10_imageOf : MethodName := ⟨RX10, "imageOf", "(I)LFairWheel$Image;"⟩
abbrev cX10_refuseText : ByteArray := prog_1_method_35_code
def yX10_refuseText : MethodName := ⟨RX10, "refuseText", "()I"⟩
abbrev cX10_refuseEvening : ByteArray := prog_1_method_36_code
def yX10_refuseEvening : MethodName := ⟨RX10, "refuseEvening", "()I"⟩
abbrev cX10_canBeLeftOut : ByteArray := prog_1_method_37_code
def yX10_canBeLeftOut : MethodName := ⟨RX10, "canBeLeftOut", "(II)Z"⟩
abbrev cX10_tellMove : ByteArray := prog_1_method_38_code
def yX10_tellMove : MethodName := ⟨RX10, "tellMove", "(II)I"⟩
abbrev cX10_endsAt : ByteArray := prog_1_method_39_code
def yX10_endsAt : MethodName := ⟨RX10, "endsAt", "(III)Z"⟩
abbrev cX10_holds : ByteArray := prog_1_method_40_code
def yX10_holds : MethodName := ⟨RX10, "holds", "(I)Z"⟩
def RX11 : String := "FairWheelModel"
def TX11 : u_T := fun k => match k with
  | 0 => ("FairWheelModel", "weight", "[I", true)
  | 1 => ("FairWheelModel", "sits", "[I", true)
  | 2 => ("FairWheelModel", "stones", "[I", true)
  | 3 => ("FairWheelModel", "at", "I", false)
  | 4 => ("FairWheelModel", "drag", "I", false)
  | 5 => ("FairWheelModel", "sights", "I", false)
  | 6 => ("FairWheelModel", "sight", "[I", true)
  | 7 => ("FairWheelModel", "signs", "I", false)
  | 8 => ("FairWheelModel", "pad", "[I", true)
  | 9 => ("FairWheelModel", "foot", "I", false)
  | 10 => ("FairWheelModel", "turned", "I", false)
  | 11 => ("FairWheelModel", "bothWays", "I", false)
  | 12 => ("FairWheelModel", "now", "[I", true)
  | 13 => ("FairWheelModel", "heap", "[I", true)
  | 14 => ("FairWheelModel", "reason", "I", false)
  | 15 => ("FairWheelModel", "image", "[I", true)
  | _ => ("FairWheelModel", "isKept", "[Z", true)
def tyX11 : Nat → FieldType := fun k => match k with
  | 0 => .array .int
  | 1 => .array .int
  | 2 => .array .int
  | 3 => .int
  | 4 => .int
  | 5 => .int
  | 6 => .array .int
  | 7 => .int
  | 8 => .array .int
  | 9 => .int
  | 10 => .int
  | 11 => .int
  | 12 => .array .int
  | 13 => .array .int
  | 14 => .int
  | 15 => .array .int
  | _ => .array .boolean
abbrev wsX110 : List Cond := u_ws RX11 TX11 17
theorem nmX11 : ∀ a, a < 17 → ∀ b, b < 17 → a ≠ b → (TX11 a).2.1 ≠ (TX11 b).2.1 := by decide +kernel
theorem tyX11_ok : ∀ k, k < 17 → parseFieldDescriptor (TX11 k).2.2.1 = some (tyX11 k) := by decide +kernel
abbrev cX11_init : ByteArray := prog_13_method_1_code
def yX11_init : MethodName := ⟨RX11, "<init>", "()V"⟩
abbrev cX11_in : ByteArray := prog_13_method_2_code
def yX11_in : MethodName := ⟨RX11, "in", "(III)Z"⟩
abbrev cX11_has : ByteArray := prog_13_method_3_code
def yX11_has : MethodName := ⟨RX11, "has", "(II)Z"⟩
abbrev cX11_is8 : ByteArray := prog_13_method_4_code
def yX11_is8 : MethodName := ⟨RX11, "is8", "(I)Z"⟩
abbrev cX11_arm : ByteArray := prog_13_method_5_code
def yX11_arm : MethodName := ⟨RX11, "arm", "(I)I"⟩
abbrev cX11_weigh : ByteArray := prog_13_method_6_code
def yX11_weigh : MethodName := ⟨RX11, "weigh", "(II)I"⟩
abbrev cX11_drag : ByteArray := prog_13_method_7_code
def yX11_drag : MethodName := ⟨RX11, "drag", "(I)I"⟩
abbrev cX11_say : ByteArray := prog_13_method_8_code
def yX11_say : MethodName := ⟨RX11, "say", "(I)I"⟩
abbrev cX11_wipe : ByteArray := prog_13_method_9_code
def yX11_wipe : MethodName := ⟨RX11, "wipe", "()I"⟩
abbrev cX11_faultOf : ByteArray := prog_13_method_10_code
def yX11_faultOf : MethodName := ⟨RX11, "faultOf", "()I"⟩
abbrev cX11_fault : ByteArray := prog_13_method_11_code
def yX11_fault : MethodName := ⟨RX11, "fault", "()I"⟩
abbrev cX11_opens : ByteArray := prog_13_method_12_code
def yX11_opens : MethodName := ⟨RX11, "opens", "()I"⟩
abbrev cX11_asNow : ByteArray := prog_13_method_13_code
def yX11_asNow : MethodName := ⟨RX11, "asNow", "()V"⟩
abbrev cX11_pullAt : ByteArray := prog_13_method_14_code
def yX11_pullAt : MethodName := ⟨RX11, "pullAt", "(I)I"⟩
abbrev cX11_letGo : ByteArray := prog_13_method_15_code
def yX11_letGo : MethodName := ⟨RX11, "letGo", "()V"⟩
abbrev cX11_carOf : ByteArray := prog_13_method_16_code
def yX11_carOf : MethodName := ⟨RX11, "carOf", "(I)I"⟩
abbrev cX11_goText : ByteArray := prog_13_method_17_code
def yX11_goText : MethodName := ⟨RX11, "goText", "(II)I"⟩
abbrev cX11_judge : ByteArray := prog_13_method_18_code
def yX11_judge : MethodName := ⟨RX11, "judge", "(I)I"⟩
abbrev cX11_barOfText : ByteArray := prog_13_method_19_code
def yX11_barOfText : MethodName := ⟨RX11, "barOfText", "()I"⟩
abbrev cX11_done : ByteArray := prog_13_method_20_code
def yX11_done : MethodName := ⟨RX11, "done", "()I"⟩
abbrev cX11_foot : ByteArray := prog_13_method_21_code
def yX11_foot : MethodName := ⟨RX11, "foot", "()I"⟩
abbrev cX11_car : ByteArray := prog_13_method_22_code
def yX11_car : MethodName := ⟨RX11, "car", "(II)I"⟩
abbrev cX11_pull : ByteArray := prog_13_method_23_code
def yX11_pull : MethodName := ⟨RX11, "pull", "()I"⟩
abbrev cX11_behind : ByteArray := prog_13_method_24_code
def yX11_behind : MethodName := ⟨RX11, "behind", "(I)I"⟩
abbrev cX11_leftOut : ByteArray := prog_13_method_25_code
def yX11_leftOut : MethodName := ⟨RX11, "leftOut", "(I)I"⟩
abbrev cX11_move : ByteArray := prog_13_method_26_code
def yX11_move : MethodName := ⟨RX11, "move", "(I)Z"⟩
abbrev cX11_powerOf : ByteArray := prog_13_method_27_code
def yX11_powerOf : MethodName := ⟨RX11, "powerOf", "(II)I"⟩
abbrev cX11_down : ByteArray := prog_13_method_28_code
def yX11_down : MethodName := ⟨RX11, "down", "(II)I"⟩
abbrev cX11_pebbles : ByteArray := prog_13_method_29_code
def yX11_pebbles : MethodName := ⟨RX11, "pebbles", "(I)I"⟩
abbrev cX11_greatestPull : ByteArray := prog_13_method_30_code
def yX11_greatestPull : MethodName := ⟨RX11, "greatestPull", "()I"⟩
abbrev cX11_brake : ByteArray := prog_13_method_31_code
def yX11_brake : MethodName := ⟨RX11, "brake", "()I"⟩
abbrev cX11_balance : ByteArray := prog_13_method_32_code
def yX11_balance : MethodName := ⟨RX11, "balance", "(II)I"⟩
abbrev cX11_isSeated : ByteArray := prog_13_method_33_code
def yX11_isSeated : MethodName := ⟨RX11, "isSeated", "(III)Z"⟩
abbrev cX11_could : ByteArray := prog_13_method_34_code
def yX11_could : MethodName := ⟨RX11, "could", "(III)I"⟩
abbrev cX11_seen : ByteArray := prog_13_method_35_code
def yX11_seen : MethodName := ⟨RX11, "seen", "(II)I"⟩
abbrev cX11_forget : ByteArray := prog_13_method_36_code
def yX11_forget : MethodName := ⟨RX11, "forget", "()I"⟩
abbrev cX11_filled : ByteArray := prog_13_method_37_code
def yX11_filled : MethodName := ⟨RX11, "filled", "(I)I"⟩
abbrev cX11_offWheel : ByteArray := prog_13_method_38_code
def yX11_offWheel : MethodName := ⟨RX11, "offWheel", "(I)I"⟩
abbrev cX11_chance : ByteArray := prog_13_method_39_code
def yX11_chance : MethodName := ⟨RX11, "chance", "(III)J"⟩
abbrev cX11_year : ByteArray := prog_13_method_40_code
def yX11_year : MethodName := ⟨RX11, "year", "(III)I"⟩
abbrev cX11_image : ByteArray := prog_13_method_41_code
def yX11_image : MethodName := ⟨RX11, "image", "(I)I"⟩
abbrev cX11_restore : ByteArray := prog_13_method_42_code
def yX11_restore : MethodName := ⟨RX11, "restore", "(I)I"⟩
abbrev cX11_told : ByteArray := prog_13_method_43_code
def yX11_told : MethodName := ⟨RX11, "told", "(I)I"⟩
def RJ6 : String := "java/lang/Integer"
def TJ6 : u_T := fun k => match k with
  | _ => ("", "", "", false)
def tyJ6 : Nat → FieldType := fun k => match k with
  | _ => .int
abbrev wsJ60 : List Cond := u_ws RJ6 TJ6 0
theorem nmJ6 : ∀ a, a < 0 → ∀ b, b < 0 → a ≠ b → (TJ6 a).2.1 ≠ (TJ6 b).2.1 := by decide +kernel
theorem tyJ6_ok : ∀ k, k < 0 → parseFieldDescriptor (TJ6 k).2.2.1 = some (tyJ6 k) := by decide +kernel
abbrev cJ6_bitCount_0f7a4 : ByteArray := prog_14_method_49_code
def yJ6_bitCount_0f7a4 : MethodName := ⟨RJ6, "bitCount", "(I)I"⟩
def RJ9 : String := "java/lang/Math"
def TJ9 : u_T := fun k => match k with
  | _ => ("", "", "", false)
def tyJ9 : Nat → FieldType := fun k => match k with
  | _ => .int
abbrev wsJ90 : List Cond := u_ws RJ9 TJ9 0
theorem nmJ9 : ∀ a, a < 0 → ∀ b, b < 0 → a ≠ b → (TJ9 a).2.1 ≠ (TJ9 b).2.1 := by decide +kernel
theorem tyJ9_ok : ∀ k, k < 0 → parseFieldDescriptor (TJ9 k).2.2.1 = some (tyJ9 k) := by decide +kernel
abbrev cJ9_floorMod_7cf53 : ByteArray := prog_15_method_50_code
def yJ9_floorMod_7cf53 : MethodName := ⟨RJ9, "floorMod", "(II)I"⟩
abbrev cJ9_abs_0f7a4 : ByteArray := prog_15_method_59_code
def yJ9_abs_0f7a4 : MethodName := ⟨RJ9, "abs", "(I)I"⟩
abbrev cJ9_max_7cf53 : ByteArray := prog_15_method_65_code
def yJ9_max_7cf53 : MethodName := ⟨RJ9, "max", "(II)I"⟩
abbrev cJ9_min_7cf53 : ByteArray := prog_15_method_69_code
def yJ9_min_7cf53 : MethodName := ⟨RJ9, "min", "(II)I"⟩
def RJ10 : String := "java/lang/System"
def TJ10 : u_T := fun k => match k with
  | _ => ("", "", "", false)
def tyJ10 : Nat → FieldType := fun k => match k with
  | _ => .int
abbrev wsJ100 : List Cond := u_ws RJ10 TJ10 0
theorem nmJ10 : ∀ a, a < 0 → ∀ b, b < 0 → a ≠ b → (TJ10 a).2.1 ≠ (TJ10 b).2.1 := by decide +kernel
theorem tyJ10_ok : ∀ k, k < 0 → parseFieldDescriptor (TJ10 k).2.2.1 = some (tyJ10 k) := by decide +kernel
def RJ7 : String := "java/util/Arrays"
def TJ7 : u_T := fun k => match k with
  | _ => ("", "", "", false)
def tyJ7 : Nat → FieldType := fun k => match k with
  | _ => .int
abbrev wsJ70 : List Cond := u_ws RJ7 TJ7 0
theorem nmJ7 : ∀ a, a < 0 → ∀ b, b < 0 → a ≠ b → (TJ7 a).2.1 ≠ (TJ7 b).2.1 := by decide +kernel
theorem tyJ7_ok : ∀ k, k < 0 → parseFieldDescriptor (TJ7 k).2.2.1 = some (tyJ7 k) := by decide +kernel
abbrev cJ7_fill_53178 : ByteArray := prog_17_method_103_code
def yJ7_fill_53178 : MethodName := ⟨RJ7, "fill", "([II)V"⟩
def RL : String := "FairWheelLaw"
abbrev cL_law : ByteArray := code
def yL_law : MethodName := ⟨RL, "law", "([I)Z"⟩
def wsX0_allShares : List Cond := .code yX0_allShares cX0_allShares 4 (some .long) :: ([.constantLong RX0 11 (840)])
def wsX10_at : List Cond := .code yX10_at cX10_at 2 (some .int) :: ([])
def wsX9_isLowest : List Cond := .code yX9_isLowest cX9_isLowest 2 (some .boolean) :: ([.fieldLink RX9 15 "FairWheel$Wheel" "cars" "[I", .fieldLink RX9 24 "FairWheel$Wheel" "lowest" "I", .static yX10_at, .initialized RX10, .code yX10_at cX10_at 2 (some .int)] ++ wsX90)
def wsX9_isAboard : List Cond := .code yX9_isAboard cX9_isAboard 2 (some .boolean) :: ([.fieldLink RX9 15 "FairWheel$Wheel" "cars" "[I", .static yX10_at, .initialized RX10, .code yX10_at cX10_at 2 (some .int)] ++ wsX90)
def wsX0_waiting : List Cond := .code yX0_waiting cX0_waiting 3 (some .int) :: ([.methodLink RX0 38 yX9_isAboard, .instanceMethod yX9_isAboard, .selects RX9 yX9_isAboard yX9_isAboard, .initialized RX9, .code yX9_isAboard cX9_isAboard 2 (some .boolean), .fieldLink RX9 15 "FairWheel$Wheel" "cars" "[I", .static yX10_at, .initialized RX10, .code yX10_at cX10_at 2 (some .int)] ++ wsX90)
def wsX9_isTaken : List Cond := .code yX9_isTaken cX9_isTaken 1 (some .boolean) :: ([.fieldLink RX9 18 "FairWheel$Wheel" "riders" "[I", .fieldLink RX9 24 "FairWheel$Wheel" "lowest" "I", .static yX10_at, .initialized RX10, .code yX10_at cX10_at 2 (some .int)] ++ wsX90)
def wsX9_lowest : List Cond := .code yX9_lowest cX9_lowest 1 (some .int) :: ([.fieldLink RX9 24 "FairWheel$Wheel" "lowest" "I"] ++ wsX90)
def wsX10_put : List Cond := .code yX10_put cX10_put 3 none :: ([])
def wsX9_seat : List Cond := .code yX9_seat cX9_seat 3 none :: ([.fieldLink RX9 18 "FairWheel$Wheel" "riders" "[I", .fieldLink RX9 15 "FairWheel$Wheel" "cars" "[I", .static yX10_put, .initialized RX10, .code yX10_put cX10_put 3 none] ++ wsX90)
def wsX9_unseat : List Cond := .code yX9_unseat cX9_unseat 2 none :: ([.fieldLink RX9 15 "FairWheel$Wheel" "cars" "[I", .fieldLink RX9 18 "FairWheel$Wheel" "riders" "[I", .static yX10_at, .initialized RX10, .code yX10_at cX10_at 2 (some .int), .static yX10_put, .code yX10_put cX10_put 3 none] ++ wsX90)
def wsJ9_floorMod_7cf53 : List Cond := .code yJ9_floorMod_7cf53 cJ9_floorMod_7cf53 3 (some .int) :: ([])
def wsX9_pullAt : List Cond := .code yX9_pullAt cX9_pullAt 6 (some .int) :: ([.fieldLink RX9 18 "FairWheel$Wheel" "riders" "[I", .fieldLink RX9 21 "FairWheel$Wheel" "loads" "[I", .fieldLink RX9 9 "FairWheel$Wheel" "weights" "[I", .fieldLink RX9 67 "FairWheel$Wheel" "ARMS" "[I", .static yX10_at, .initialized RX10, .code yX10_at cX10_at 2 (some .int), .methodLink RX9 49 yJ9_floorMod_7cf53, .static yJ9_floorMod_7cf53, .initialized RJ9, .code yJ9_floorMod_7cf53 cJ9_floorMod_7cf53 3 (some .int)] ++ wsX90)
def wsX9_wayOf : List Cond := .code yX9_wayOf cX9_wayOf 2 (some .int) :: ([.fieldLink RX9 28 "FairWheel$Wheel" "friction" "I"] ++ wsX90)
def wsX9_turn : List Cond := .code yX9_turn cX9_turn 2 none :: ([.fieldLink RX9 24 "FairWheel$Wheel" "lowest" "I", .methodLink RX9 49 yJ9_floorMod_7cf53, .static yJ9_floorMod_7cf53, .initialized RJ9, .code yJ9_floorMod_7cf53 cJ9_floorMod_7cf53 3 (some .int)] ++ wsX90)
def wsX9_letGo_r1 : List Cond := [Cond.fieldLink RX9 24 "FairWheel$Wheel" "lowest" "I", Cond.methodLink RX9 63 yX9_pullAt, Cond.instanceMethod yX9_pullAt, Cond.selects RX9 yX9_pullAt yX9_pullAt, Cond.initialized RX9, Cond.code yX9_pullAt cX9_pullAt 6 (some .int), Cond.fieldLink RX9 18 "FairWheel$Wheel" "riders" "[I", Cond.fieldLink RX9 21 "FairWheel$Wheel" "loads" "[I", Cond.fieldLink RX9 9 "FairWheel$Wheel" "weights" "[I", Cond.fieldLink RX9 67 "FairWheel$Wheel" "ARMS" "[I", Cond.static yX10_at, Cond.initialized RX10, Cond.code yX10_at cX10_at 2 (some .int), Cond.methodLink RX9 49 yJ9_floorMod_7cf53, Cond.static yJ9_floorMod_7cf53, Cond.initialized RJ9, Cond.code yJ9_floorMod_7cf53 cJ9_floorMod_7cf53 3 (some .int), Cond.methodLink RX9 76 yX9_wayOf, Cond.instanceMethod yX9_wayOf, Cond.selects RX9 yX9_wayOf yX9_wayOf, Cond.code yX9_wayOf cX9_wayOf 2 (some .int), Cond.fieldLink RX9 28 "FairWheel$Wheel" "friction" "I", Cond.methodLink RX9 79 yX9_turn, Cond.instanceMethod yX9_turn]
def wsX9_letGo_r2 : List Cond := [Cond.selects RX9 yX9_turn yX9_turn, Cond.code yX9_turn cX9_turn 2 none]
def wsX9_letGo : List Cond := .code yX9_letGo cX9_letGo 5 (some .int) :: ((wsX9_letGo_r1 ++ wsX9_letGo_r2) ++ wsX90)
def wsX0_sum_r1 : List Cond := [Cond.constantLong RX0 11 (840), Cond.methodLink RX0 17 yX9_isLowest, Cond.instanceMethod yX9_isLowest, Cond.selects RX9 yX9_isLowest yX9_isLowest, Cond.initialized RX9, Cond.code yX9_isLowest cX9_isLowest 2 (some .boolean), Cond.fieldLink RX9 15 "FairWheel$Wheel" "cars" "[I", Cond.fieldLink RX9 24 "FairWheel$Wheel" "lowest" "I", Cond.static yX10_at, Cond.initialized RX10, Cond.code yX10_at cX10_at 2 (some .int), Cond.methodLink RX0 23 yX0_waiting, Cond.static yX0_waiting, Cond.initialized RX0, Cond.code yX0_waiting cX0_waiting 3 (some .int), Cond.methodLink RX0 38 yX9_isAboard, Cond.instanceMethod yX9_isAboard, Cond.selects RX9 yX9_isAboard yX9_isAboard, Cond.code yX9_isAboard cX9_isAboard 2 (some .boolean), Cond.methodLink RX0 27 yX9_isTaken, Cond.instanceMethod yX9_isTaken, Cond.selects RX9 yX9_isTaken yX9_isTaken, Cond.code yX9_isTaken cX9_isTaken 1 (some .boolean), Cond.fieldLink RX9 18 "FairWheel$Wheel" "riders" "[I"]
def wsX0_sum_r2 : List Cond := [Cond.methodLink RX0 31 yX0_sumLetGo, Cond.static yX0_sumLetGo, Cond.methodLink RX0 34 yX9_lowest, Cond.instanceMethod yX9_lowest, Cond.selects RX9 yX9_lowest yX9_lowest, Cond.code yX9_lowest cX9_lowest 1 (some .int), Cond.methodLink RX0 41 yX9_seat, Cond.instanceMethod yX9_seat, Cond.selects RX9 yX9_seat yX9_seat, Cond.code yX9_seat cX9_seat 3 none, Cond.static yX10_put, Cond.code yX10_put cX10_put 3 none, Cond.methodLink RX0 45 yX9_unseat, Cond.instanceMethod yX9_unseat, Cond.selects RX9 yX9_unseat yX9_unseat, Cond.code yX9_unseat cX9_unseat 2 none, Cond.code yX0_sumLetGo cX0_sumLetGo 6 (some .long), Cond.methodLink RX0 49 yX9_letGo, Cond.instanceMethod yX9_letGo, Cond.selects RX9 yX9_letGo yX9_letGo, Cond.code yX9_letGo cX9_letGo 5 (some .int), Cond.methodLink RX9 63 yX9_pullAt, Cond.instanceMethod yX9_pullAt, Cond.selects RX9 yX9_pullAt yX9_pullAt]
def wsX0_sum_r3 : List Cond := [Cond.code yX9_pullAt cX9_pullAt 6 (some .int), Cond.fieldLink RX9 21 "FairWheel$Wheel" "loads" "[I", Cond.fieldLink RX9 9 "FairWheel$Wheel" "weights" "[I", Cond.fieldLink RX9 67 "FairWheel$Wheel" "ARMS" "[I", Cond.methodLink RX9 49 yJ9_floorMod_7cf53, Cond.static yJ9_floorMod_7cf53, Cond.initialized RJ9, Cond.code yJ9_floorMod_7cf53 cJ9_floorMod_7cf53 3 (some .int), Cond.methodLink RX9 76 yX9_wayOf, Cond.instanceMethod yX9_wayOf, Cond.selects RX9 yX9_wayOf yX9_wayOf, Cond.code yX9_wayOf cX9_wayOf 2 (some .int), Cond.fieldLink RX9 28 "FairWheel$Wheel" "friction" "I", Cond.methodLink RX9 79 yX9_turn, Cond.instanceMethod yX9_turn, Cond.selects RX9 yX9_turn yX9_turn, Cond.code yX9_turn cX9_turn 2 none, Cond.methodLink RX0 13 yX0_sum, Cond.static yX0_sum, Cond.methodLink RX0 52 yX9_turn]
def wsX0_sum : List Cond := .code yX0_sum cX0_sum 8 (some .long) :: ((wsX0_sum_r1 ++ (wsX0_sum_r2 ++ wsX0_sum_r3)) ++ wsX90)
def wsX0_sumLetGo_r1 : List Cond := [Cond.methodLink RX0 49 yX9_letGo, Cond.instanceMethod yX9_letGo, Cond.selects RX9 yX9_letGo yX9_letGo, Cond.initialized RX9, Cond.code yX9_letGo cX9_letGo 5 (some .int), Cond.fieldLink RX9 24 "FairWheel$Wheel" "lowest" "I", Cond.methodLink RX9 63 yX9_pullAt, Cond.instanceMethod yX9_pullAt, Cond.selects RX9 yX9_pullAt yX9_pullAt, Cond.code yX9_pullAt cX9_pullAt 6 (some .int), Cond.fieldLink RX9 18 "FairWheel$Wheel" "riders" "[I", Cond.fieldLink RX9 21 "FairWheel$Wheel" "loads" "[I", Cond.fieldLink RX9 9 "FairWheel$Wheel" "weights" "[I", Cond.fieldLink RX9 67 "FairWheel$Wheel" "ARMS" "[I", Cond.static yX10_at, Cond.initialized RX10, Cond.code yX10_at cX10_at 2 (some .int), Cond.methodLink RX9 49 yJ9_floorMod_7cf53, Cond.static yJ9_floorMod_7cf53, Cond.initialized RJ9, Cond.code yJ9_floorMod_7cf53 cJ9_floorMod_7cf53 3 (some .int), Cond.methodLink RX9 76 yX9_wayOf, Cond.instanceMethod yX9_wayOf, Cond.selects RX9 yX9_wayOf yX9_wayOf]
def wsX0_sumLetGo_r2 : List Cond := [Cond.code yX9_wayOf cX9_wayOf 2 (some .int), Cond.fieldLink RX9 28 "FairWheel$Wheel" "friction" "I", Cond.methodLink RX9 79 yX9_turn, Cond.instanceMethod yX9_turn, Cond.selects RX9 yX9_turn yX9_turn, Cond.code yX9_turn cX9_turn 2 none, Cond.methodLink RX0 13 yX0_sum, Cond.static yX0_sum, Cond.initialized RX0, Cond.methodLink RX0 52 yX9_turn, Cond.code yX0_sum cX0_sum 8 (some .long), Cond.constantLong RX0 11 (840), Cond.methodLink RX0 17 yX9_isLowest, Cond.instanceMethod yX9_isLowest, Cond.selects RX9 yX9_isLowest yX9_isLowest, Cond.code yX9_isLowest cX9_isLowest 2 (some .boolean), Cond.fieldLink RX9 15 "FairWheel$Wheel" "cars" "[I", Cond.methodLink RX0 23 yX0_waiting, Cond.static yX0_waiting, Cond.code yX0_waiting cX0_waiting 3 (some .int), Cond.methodLink RX0 38 yX9_isAboard, Cond.instanceMethod yX9_isAboard, Cond.selects RX9 yX9_isAboard yX9_isAboard, Cond.code yX9_isAboard cX9_isAboard 2 (some .boolean)]
def wsX0_sumLetGo_r3 : List Cond := [Cond.methodLink RX0 27 yX9_isTaken, Cond.instanceMethod yX9_isTaken, Cond.selects RX9 yX9_isTaken yX9_isTaken, Cond.code yX9_isTaken cX9_isTaken 1 (some .boolean), Cond.methodLink RX0 31 yX0_sumLetGo, Cond.static yX0_sumLetGo, Cond.methodLink RX0 34 yX9_lowest, Cond.instanceMethod yX9_lowest, Cond.selects RX9 yX9_lowest yX9_lowest, Cond.code yX9_lowest cX9_lowest 1 (some .int), Cond.methodLink RX0 41 yX9_seat, Cond.instanceMethod yX9_seat, Cond.selects RX9 yX9_seat yX9_seat, Cond.code yX9_seat cX9_seat 3 none, Cond.static yX10_put, Cond.code yX10_put cX10_put 3 none, Cond.methodLink RX0 45 yX9_unseat, Cond.instanceMethod yX9_unseat, Cond.selects RX9 yX9_unseat yX9_unseat, Cond.code yX9_unseat cX9_unseat 2 none]
def wsX0_sumLetGo : List Cond := .code yX0_sumLetGo cX0_sumLetGo 6 (some .long) :: ((wsX0_sumLetGo_r1 ++ (wsX0_sumLetGo_r2 ++ wsX0_sumLetGo_r3)) ++ wsX90)
def wsX0_shares_r1 : List Cond := [Cond.methodLink RX0 13 yX0_sum, Cond.static yX0_sum, Cond.initialized RX0, Cond.code yX0_sum cX0_sum 8 (some .long), Cond.constantLong RX0 11 (840), Cond.methodLink RX0 17 yX9_isLowest, Cond.instanceMethod yX9_isLowest, Cond.selects RX9 yX9_isLowest yX9_isLowest, Cond.initialized RX9, Cond.code yX9_isLowest cX9_isLowest 2 (some .boolean), Cond.fieldLink RX9 15 "FairWheel$Wheel" "cars" "[I", Cond.fieldLink RX9 24 "FairWheel$Wheel" "lowest" "I", Cond.static yX10_at, Cond.initialized RX10, Cond.code yX10_at cX10_at 2 (some .int), Cond.methodLink RX0 23 yX0_waiting, Cond.static yX0_waiting, Cond.code yX0_waiting cX0_waiting 3 (some .int), Cond.methodLink RX0 38 yX9_isAboard, Cond.instanceMethod yX9_isAboard, Cond.selects RX9 yX9_isAboard yX9_isAboard, Cond.code yX9_isAboard cX9_isAboard 2 (some .boolean), Cond.methodLink RX0 27 yX9_isTaken, Cond.instanceMethod yX9_isTaken]
def wsX0_shares_r2 : List Cond := [Cond.selects RX9 yX9_isTaken yX9_isTaken, Cond.code yX9_isTaken cX9_isTaken 1 (some .boolean), Cond.fieldLink RX9 18 "FairWheel$Wheel" "riders" "[I", Cond.methodLink RX0 31 yX0_sumLetGo, Cond.static yX0_sumLetGo, Cond.methodLink RX0 34 yX9_lowest, Cond.instanceMethod yX9_lowest, Cond.selects RX9 yX9_lowest yX9_lowest, Cond.code yX9_lowest cX9_lowest 1 (some .int), Cond.methodLink RX0 41 yX9_seat, Cond.instanceMethod yX9_seat, Cond.selects RX9 yX9_seat yX9_seat, Cond.code yX9_seat cX9_seat 3 none, Cond.static yX10_put, Cond.code yX10_put cX10_put 3 none, Cond.methodLink RX0 45 yX9_unseat, Cond.instanceMethod yX9_unseat, Cond.selects RX9 yX9_unseat yX9_unseat, Cond.code yX9_unseat cX9_unseat 2 none, Cond.code yX0_sumLetGo cX0_sumLetGo 6 (some .long), Cond.methodLink RX0 49 yX9_letGo, Cond.instanceMethod yX9_letGo, Cond.selects RX9 yX9_letGo yX9_letGo, Cond.code yX9_letGo cX9_letGo 5 (some .int)]
def wsX0_shares_r3 : List Cond := [Cond.methodLink RX9 63 yX9_pullAt, Cond.instanceMethod yX9_pullAt, Cond.selects RX9 yX9_pullAt yX9_pullAt, Cond.code yX9_pullAt cX9_pullAt 6 (some .int), Cond.fieldLink RX9 21 "FairWheel$Wheel" "loads" "[I", Cond.fieldLink RX9 9 "FairWheel$Wheel" "weights" "[I", Cond.fieldLink RX9 67 "FairWheel$Wheel" "ARMS" "[I", Cond.methodLink RX9 49 yJ9_floorMod_7cf53, Cond.static yJ9_floorMod_7cf53, Cond.initialized RJ9, Cond.code yJ9_floorMod_7cf53 cJ9_floorMod_7cf53 3 (some .int), Cond.methodLink RX9 76 yX9_wayOf, Cond.instanceMethod yX9_wayOf, Cond.selects RX9 yX9_wayOf yX9_wayOf, Cond.code yX9_wayOf cX9_wayOf 2 (some .int), Cond.fieldLink RX9 28 "FairWheel$Wheel" "friction" "I", Cond.methodLink RX9 79 yX9_turn, Cond.instanceMethod yX9_turn, Cond.selects RX9 yX9_turn yX9_turn, Cond.code yX9_turn cX9_turn 2 none, Cond.methodLink RX0 52 yX9_turn]
def wsX0_shares : List Cond := .code yX0_shares cX0_shares 3 (some .long) :: ((wsX0_shares_r1 ++ (wsX0_shares_r2 ++ wsX0_shares_r3)) ++ wsX90)
def wsX1_howMany : List Cond := .code yX1_howMany cX1_howMany 1 (some .int) :: ([])
def wsX1_personAt : List Cond := .code yX1_personAt cX1_personAt 3 (some .int) :: ([])
def wsJ7_fill_53178 : List Cond := .code yJ7_fill_53178 cJ7_fill_53178 4 none :: ([])
def wsX9_init : List Cond := .code yX9_init cX9_init 1 none :: ([.methodLink RX9 3 objectInit, .instanceMethod objectInit, .code objectInit ⟨#[0xb1]⟩ 1 none, .arrayClass .int, .fieldLink RX9 9 "FairWheel$Wheel" "weights" "[I", .fieldLink RX9 15 "FairWheel$Wheel" "cars" "[I", .fieldLink RX9 18 "FairWheel$Wheel" "riders" "[I", .fieldLink RX9 21 "FairWheel$Wheel" "loads" "[I", .fieldLink RX9 24 "FairWheel$Wheel" "lowest" "I", .fieldLink RX9 28 "FairWheel$Wheel" "friction" "I", .methodLink RX9 31 yJ7_fill_53178, .static yJ7_fill_53178, .initialized RJ7, .code yJ7_fill_53178 cJ7_fill_53178 4 none] ++ wsX90)
def wsX6_init : List Cond := .code yX6_init cX6_init 1 none :: ([.methodLink RX6 3 objectInit, .instanceMethod objectInit, .code objectInit ⟨#[0xb1]⟩ 1 none, .arrayClass .int, .fieldLink RX6 9 "FairWheel$Sights" "people" "[I", .fieldLink RX6 15 "FairWheel$Sights" "cars" "[I", .fieldLink RX6 18 "FairWheel$Sights" "count" "I"] ++ wsX60)
def wsX2_init_r1 : List Cond := [Cond.methodLink RX2 1 objectInit, Cond.instanceMethod objectInit, Cond.code objectInit ⟨#[0xb1]⟩ 1 none, Cond.classLink RX2 7 RX9, Cond.instantiable RX9 6, Cond.initialized RX9, Cond.fieldLink RX2 10 "FairWheel$Image" "wheel" "LFairWheel$Wheel;", Cond.classLink RX2 16 RX6, Cond.instantiable RX6 3, Cond.initialized RX6, Cond.fieldLink RX2 19 "FairWheel$Image" "sights" "LFairWheel$Sights;", Cond.fieldLink RX2 23 "FairWheel$Image" "kept" "Z", Cond.methodLink RX2 9 yX9_init, Cond.instanceMethod yX9_init, Cond.code yX9_init cX9_init 1 none, Cond.methodLink RX9 3 objectInit, Cond.arrayClass .int, Cond.fieldLink RX9 9 "FairWheel$Wheel" "weights" "[I", Cond.fieldLink RX9 15 "FairWheel$Wheel" "cars" "[I", Cond.fieldLink RX9 18 "FairWheel$Wheel" "riders" "[I", Cond.fieldLink RX9 21 "FairWheel$Wheel" "loads" "[I", Cond.fieldLink RX9 24 "FairWheel$Wheel" "lowest" "I", Cond.fieldLink RX9 28 "FairWheel$Wheel" "friction" "I", Cond.methodLink RX9 31 yJ7_fill_53178]
def wsX2_init_r2 : List Cond := [Cond.static yJ7_fill_53178, Cond.initialized RJ7, Cond.code yJ7_fill_53178 cJ7_fill_53178 4 none, Cond.methodLink RX2 18 yX6_init, Cond.instanceMethod yX6_init, Cond.code yX6_init cX6_init 1 none, Cond.methodLink RX6 3 objectInit, Cond.fieldLink RX6 9 "FairWheel$Sights" "people" "[I", Cond.fieldLink RX6 15 "FairWheel$Sights" "cars" "[I", Cond.fieldLink RX6 18 "FairWheel$Sights" "count" "I"]
def wsX2_init : List Cond := .code yX2_init cX2_init 1 none :: ((wsX2_init_r1 ++ wsX2_init_r2) ++ wsX90 ++ wsX20 ++ wsX60)
def wsX2_isKept : List Cond := .code yX2_isKept cX2_isKept 1 (some .boolean) :: ([.fieldLink RX2 23 "FairWheel$Image" "kept" "Z"] ++ wsX20)
def wsX10_copyRow : List Cond := .code yX10_copyRow cX10_copyRow 2 none :: ([.methodLink RX10 257 Lib.Math.min.name, .static Lib.Math.min.name, .initialized "java/lang/Math", .code Lib.Math.min.name Lib.Math.min.code 2 (some .int), .methodLink RX10 262 arraycopyName, .native arraycopyName, .static arraycopyName, .initialized "java/lang/System"])
def wsX9_copyFrom : List Cond := .code yX9_copyFrom cX9_copyFrom 2 none :: ([.fieldLink RX9 9 "FairWheel$Wheel" "weights" "[I", .fieldLink RX9 15 "FairWheel$Wheel" "cars" "[I", .fieldLink RX9 18 "FairWheel$Wheel" "riders" "[I", .fieldLink RX9 21 "FairWheel$Wheel" "loads" "[I", .fieldLink RX9 24 "FairWheel$Wheel" "lowest" "I", .fieldLink RX9 28 "FairWheel$Wheel" "friction" "I", .static yX10_copyRow, .initialized RX10, .code yX10_copyRow cX10_copyRow 2 none, .methodLink RX10 257 Lib.Math.min.name, .static Lib.Math.min.name, .initialized "java/lang/Math", .code Lib.Math.min.name Lib.Math.min.code 2 (some .int), .methodLink RX10 262 arraycopyName, .native arraycopyName, .static arraycopyName, .initialized "java/lang/System"] ++ wsX90)
def wsX6_copyFrom : List Cond := .code yX6_copyFrom cX6_copyFrom 2 none :: ([.fieldLink RX6 9 "FairWheel$Sights" "people" "[I", .fieldLink RX6 15 "FairWheel$Sights" "cars" "[I", .fieldLink RX6 18 "FairWheel$Sights" "count" "I", .static yX10_copyRow, .initialized RX10, .code yX10_copyRow cX10_copyRow 2 none, .methodLink RX10 257 Lib.Math.min.name, .static Lib.Math.min.name, .initialized "java/lang/Math", .code Lib.Math.min.name Lib.Math.min.code 2 (some .int), .methodLink RX10 262 arraycopyName, .native arraycopyName, .static arraycopyName, .initialized "java/lang/System"] ++ wsX60)
def wsX2_keep_r1 : List Cond := [Cond.fieldLink RX2 10 "FairWheel$Image" "wheel" "LFairWheel$Wheel;", Cond.fieldLink RX2 19 "FairWheel$Image" "sights" "LFairWheel$Sights;", Cond.fieldLink RX2 23 "FairWheel$Image" "kept" "Z", Cond.methodLink RX2 27 yX9_copyFrom, Cond.instanceMethod yX9_copyFrom, Cond.selects RX9 yX9_copyFrom yX9_copyFrom, Cond.initialized RX9, Cond.code yX9_copyFrom cX9_copyFrom 2 none, Cond.fieldLink RX9 9 "FairWheel$Wheel" "weights" "[I", Cond.fieldLink RX9 15 "FairWheel$Wheel" "cars" "[I", Cond.fieldLink RX9 18 "FairWheel$Wheel" "riders" "[I", Cond.fieldLink RX9 21 "FairWheel$Wheel" "loads" "[I", Cond.fieldLink RX9 24 "FairWheel$Wheel" "lowest" "I", Cond.fieldLink RX9 28 "FairWheel$Wheel" "friction" "I", Cond.static yX10_copyRow, Cond.initialized RX10, Cond.code yX10_copyRow cX10_copyRow 2 none, Cond.methodLink RX10 257 Lib.Math.min.name, Cond.static Lib.Math.min.name, Cond.initialized "java/lang/Math", Cond.code Lib.Math.min.name Lib.Math.min.code 2 (some .int), Cond.methodLink RX10 262 arraycopyName, Cond.native arraycopyName, Cond.static arraycopyName]
def wsX2_keep_r2 : List Cond := [Cond.initialized "java/lang/System", Cond.methodLink RX2 31 yX6_copyFrom, Cond.instanceMethod yX6_copyFrom, Cond.selects RX6 yX6_copyFrom yX6_copyFrom, Cond.initialized RX6, Cond.code yX6_copyFrom cX6_copyFrom 2 none, Cond.fieldLink RX6 9 "FairWheel$Sights" "people" "[I", Cond.fieldLink RX6 15 "FairWheel$Sights" "cars" "[I", Cond.fieldLink RX6 18 "FairWheel$Sights" "count" "I"]
def wsX2_keep : List Cond := .code yX2_keep cX2_keep 3 none :: ((wsX2_keep_r1 ++ wsX2_keep_r2) ++ wsX20 ++ wsX90 ++ wsX60)
def wsX2_giveBack_r1 : List Cond := [Cond.fieldLink RX2 10 "FairWheel$Image" "wheel" "LFairWheel$Wheel;", Cond.fieldLink RX2 19 "FairWheel$Image" "sights" "LFairWheel$Sights;", Cond.methodLink RX2 27 yX9_copyFrom, Cond.instanceMethod yX9_copyFrom, Cond.selects RX9 yX9_copyFrom yX9_copyFrom, Cond.initialized RX9, Cond.code yX9_copyFrom cX9_copyFrom 2 none, Cond.fieldLink RX9 9 "FairWheel$Wheel" "weights" "[I", Cond.fieldLink RX9 15 "FairWheel$Wheel" "cars" "[I", Cond.fieldLink RX9 18 "FairWheel$Wheel" "riders" "[I", Cond.fieldLink RX9 21 "FairWheel$Wheel" "loads" "[I", Cond.fieldLink RX9 24 "FairWheel$Wheel" "lowest" "I", Cond.fieldLink RX9 28 "FairWheel$Wheel" "friction" "I", Cond.static yX10_copyRow, Cond.initialized RX10, Cond.code yX10_copyRow cX10_copyRow 2 none, Cond.methodLink RX10 257 Lib.Math.min.name, Cond.static Lib.Math.min.name, Cond.initialized "java/lang/Math", Cond.code Lib.Math.min.name Lib.Math.min.code 2 (some .int), Cond.methodLink RX10 262 arraycopyName, Cond.native arraycopyName, Cond.static arraycopyName, Cond.initialized "java/lang/System"]
def wsX2_giveBack_r2 : List Cond := [Cond.methodLink RX2 31 yX6_copyFrom, Cond.instanceMethod yX6_copyFrom, Cond.selects RX6 yX6_copyFrom yX6_copyFrom, Cond.initialized RX6, Cond.code yX6_copyFrom cX6_copyFrom 2 none, Cond.fieldLink RX6 9 "FairWheel$Sights" "people" "[I", Cond.fieldLink RX6 15 "FairWheel$Sights" "cars" "[I", Cond.fieldLink RX6 18 "FairWheel$Sights" "count" "I"]
def wsX2_giveBack : List Cond := .code yX2_giveBack cX2_giveBack 3 none :: ((wsX2_giveBack_r1 ++ wsX2_giveBack_r2) ++ wsX20 ++ wsX90 ++ wsX60)
def wsX3_getsOut : List Cond := .code yX3_getsOut cX3_getsOut 2 (some .boolean) :: ([.methodLink RX3 11 yX9_isTaken, .instanceMethod yX9_isTaken, .selects RX9 yX9_isTaken yX9_isTaken, .initialized RX9, .code yX9_isTaken cX9_isTaken 1 (some .boolean), .fieldLink RX9 18 "FairWheel$Wheel" "riders" "[I", .fieldLink RX9 24 "FairWheel$Wheel" "lowest" "I", .static yX10_at, .initialized RX10, .code yX10_at cX10_at 2 (some .int)] ++ wsX90)
def wsX3_canBe : List Cond := .code yX3_canBe cX3_canBe 2 (some .boolean) :: ([.methodLink RX3 11 yX9_isTaken, .instanceMethod yX9_isTaken, .selects RX9 yX9_isTaken yX9_isTaken, .initialized RX9, .code yX9_isTaken cX9_isTaken 1 (some .boolean), .fieldLink RX9 18 "FairWheel$Wheel" "riders" "[I", .fieldLink RX9 24 "FairWheel$Wheel" "lowest" "I", .static yX10_at, .initialized RX10, .code yX10_at cX10_at 2 (some .int), .methodLink RX3 17 yX9_isLowest, .instanceMethod yX9_isLowest, .selects RX9 yX9_isLowest yX9_isLowest, .code yX9_isLowest cX9_isLowest 2 (some .boolean), .fieldLink RX9 15 "FairWheel$Wheel" "cars" "[I", .methodLink RX3 21 yX9_isAboard, .instanceMethod yX9_isAboard, .selects RX9 yX9_isAboard yX9_isAboard, .code yX9_isAboard cX9_isAboard 2 (some .boolean)] ++ wsX90)
def wsX10_isPerson : List Cond := .code yX10_isPerson cX10_isPerson 1 (some .boolean) :: ([])
def wsX3_make_r1 : List Cond := [Cond.methodLink RX3 24 yX9_lowest, Cond.instanceMethod yX9_lowest, Cond.selects RX9 yX9_lowest yX9_lowest, Cond.initialized RX9, Cond.code yX9_lowest cX9_lowest 1 (some .int), Cond.fieldLink RX9 24 "FairWheel$Wheel" "lowest" "I", Cond.methodLink RX3 28 yX9_unseat, Cond.instanceMethod yX9_unseat, Cond.selects RX9 yX9_unseat yX9_unseat, Cond.code yX9_unseat cX9_unseat 2 none, Cond.fieldLink RX9 15 "FairWheel$Wheel" "cars" "[I", Cond.fieldLink RX9 18 "FairWheel$Wheel" "riders" "[I", Cond.static yX10_at, Cond.initialized RX10, Cond.code yX10_at cX10_at 2 (some .int), Cond.static yX10_put, Cond.code yX10_put cX10_put 3 none, Cond.static yX10_isPerson, Cond.code yX10_isPerson cX10_isPerson 1 (some .boolean), Cond.methodLink RX3 35 yX9_seat, Cond.instanceMethod yX9_seat, Cond.selects RX9 yX9_seat yX9_seat, Cond.code yX9_seat cX9_seat 3 none, Cond.methodLink RX3 39 yX9_letGo]
def wsX3_make_r2 : List Cond := [Cond.instanceMethod yX9_letGo, Cond.selects RX9 yX9_letGo yX9_letGo, Cond.code yX9_letGo cX9_letGo 5 (some .int), Cond.methodLink RX9 63 yX9_pullAt, Cond.instanceMethod yX9_pullAt, Cond.selects RX9 yX9_pullAt yX9_pullAt, Cond.code yX9_pullAt cX9_pullAt 6 (some .int), Cond.fieldLink RX9 21 "FairWheel$Wheel" "loads" "[I", Cond.fieldLink RX9 9 "FairWheel$Wheel" "weights" "[I", Cond.fieldLink RX9 67 "FairWheel$Wheel" "ARMS" "[I", Cond.methodLink RX9 49 yJ9_floorMod_7cf53, Cond.static yJ9_floorMod_7cf53, Cond.initialized RJ9, Cond.code yJ9_floorMod_7cf53 cJ9_floorMod_7cf53 3 (some .int), Cond.methodLink RX9 76 yX9_wayOf, Cond.instanceMethod yX9_wayOf, Cond.selects RX9 yX9_wayOf yX9_wayOf, Cond.code yX9_wayOf cX9_wayOf 2 (some .int), Cond.fieldLink RX9 28 "FairWheel$Wheel" "friction" "I", Cond.methodLink RX9 79 yX9_turn, Cond.instanceMethod yX9_turn, Cond.selects RX9 yX9_turn yX9_turn, Cond.code yX9_turn cX9_turn 2 none]
def wsX3_make : List Cond := .code yX3_make cX3_make 2 none :: ((wsX3_make_r1 ++ wsX3_make_r2) ++ wsX90)
def wsX9_riderOf : List Cond := .code yX9_riderOf cX9_riderOf 2 (some .int) :: ([.fieldLink RX9 18 "FairWheel$Wheel" "riders" "[I", .static yX10_at, .initialized RX10, .code yX10_at cX10_at 2 (some .int)] ++ wsX90)
def wsX9_takeBack : List Cond := .code yX9_takeBack cX9_takeBack 3 none :: ([.fieldLink RX9 24 "FairWheel$Wheel" "lowest" "I", .methodLink RX9 49 yJ9_floorMod_7cf53, .static yJ9_floorMod_7cf53, .initialized RJ9, .code yJ9_floorMod_7cf53 cJ9_floorMod_7cf53 3 (some .int), .methodLink RX9 55 yX9_unseat, .instanceMethod yX9_unseat, .selects RX9 yX9_unseat yX9_unseat, .initialized RX9, .code yX9_unseat cX9_unseat 2 none, .fieldLink RX9 15 "FairWheel$Wheel" "cars" "[I", .fieldLink RX9 18 "FairWheel$Wheel" "riders" "[I", .static yX10_at, .initialized RX10, .code yX10_at cX10_at 2 (some .int), .static yX10_put, .code yX10_put cX10_put 3 none, .methodLink RX9 59 yX9_seat, .instanceMethod yX9_seat, .selects RX9 yX9_seat yX9_seat, .code yX9_seat cX9_seat 3 none] ++ wsX90)
def wsX3_search_r1 : List Cond := [Cond.methodLink RX3 24 yX9_lowest, Cond.instanceMethod yX9_lowest, Cond.selects RX9 yX9_lowest yX9_lowest, Cond.initialized RX9, Cond.code yX9_lowest cX9_lowest 1 (some .int), Cond.fieldLink RX9 24 "FairWheel$Wheel" "lowest" "I", Cond.methodLink RX3 46 yX9_riderOf, Cond.instanceMethod yX9_riderOf, Cond.selects RX9 yX9_riderOf yX9_riderOf, Cond.code yX9_riderOf cX9_riderOf 2 (some .int), Cond.fieldLink RX9 18 "FairWheel$Wheel" "riders" "[I", Cond.static yX10_at, Cond.initialized RX10, Cond.code yX10_at cX10_at 2 (some .int), Cond.methodLink RX3 50 yX3_canBe, Cond.static yX3_canBe, Cond.initialized RX3, Cond.code yX3_canBe cX3_canBe 2 (some .boolean), Cond.methodLink RX3 11 yX9_isTaken, Cond.instanceMethod yX9_isTaken, Cond.selects RX9 yX9_isTaken yX9_isTaken, Cond.code yX9_isTaken cX9_isTaken 1 (some .boolean), Cond.methodLink RX3 17 yX9_isLowest, Cond.instanceMethod yX9_isLowest]
def wsX3_search_r2 : List Cond := [Cond.selects RX9 yX9_isLowest yX9_isLowest, Cond.code yX9_isLowest cX9_isLowest 2 (some .boolean), Cond.fieldLink RX9 15 "FairWheel$Wheel" "cars" "[I", Cond.methodLink RX3 21 yX9_isAboard, Cond.instanceMethod yX9_isAboard, Cond.selects RX9 yX9_isAboard yX9_isAboard, Cond.code yX9_isAboard cX9_isAboard 2 (some .boolean), Cond.methodLink RX3 54 yX3_make, Cond.static yX3_make, Cond.code yX3_make cX3_make 2 none, Cond.methodLink RX3 28 yX9_unseat, Cond.instanceMethod yX9_unseat, Cond.selects RX9 yX9_unseat yX9_unseat, Cond.code yX9_unseat cX9_unseat 2 none, Cond.static yX10_put, Cond.code yX10_put cX10_put 3 none, Cond.static yX10_isPerson, Cond.code yX10_isPerson cX10_isPerson 1 (some .boolean), Cond.methodLink RX3 35 yX9_seat, Cond.instanceMethod yX9_seat, Cond.selects RX9 yX9_seat yX9_seat, Cond.code yX9_seat cX9_seat 3 none, Cond.methodLink RX3 39 yX9_letGo, Cond.instanceMethod yX9_letGo]
def wsX3_search_r3 : List Cond := [Cond.selects RX9 yX9_letGo yX9_letGo, Cond.code yX9_letGo cX9_letGo 5 (some .int), Cond.methodLink RX9 63 yX9_pullAt, Cond.instanceMethod yX9_pullAt, Cond.selects RX9 yX9_pullAt yX9_pullAt, Cond.code yX9_pullAt cX9_pullAt 6 (some .int), Cond.fieldLink RX9 21 "FairWheel$Wheel" "loads" "[I", Cond.fieldLink RX9 9 "FairWheel$Wheel" "weights" "[I", Cond.fieldLink RX9 67 "FairWheel$Wheel" "ARMS" "[I", Cond.methodLink RX9 49 yJ9_floorMod_7cf53, Cond.static yJ9_floorMod_7cf53, Cond.initialized RJ9, Cond.code yJ9_floorMod_7cf53 cJ9_floorMod_7cf53 3 (some .int), Cond.methodLink RX9 76 yX9_wayOf, Cond.instanceMethod yX9_wayOf, Cond.selects RX9 yX9_wayOf yX9_wayOf, Cond.code yX9_wayOf cX9_wayOf 2 (some .int), Cond.fieldLink RX9 28 "FairWheel$Wheel" "friction" "I", Cond.methodLink RX9 79 yX9_turn, Cond.instanceMethod yX9_turn, Cond.selects RX9 yX9_turn yX9_turn, Cond.code yX9_turn cX9_turn 2 none, Cond.methodLink RX3 42 yX3_search, Cond.static yX3_search]
def wsX3_search_r4 : List Cond := [Cond.methodLink RX3 58 yX9_takeBack, Cond.instanceMethod yX9_takeBack, Cond.selects RX9 yX9_takeBack yX9_takeBack, Cond.code yX9_takeBack cX9_takeBack 3 none, Cond.methodLink RX9 55 yX9_unseat, Cond.methodLink RX9 59 yX9_seat]
def wsX3_search : List Cond := .code yX3_search cX3_search 7 (some .int) :: ((wsX3_search_r1 ++ (wsX3_search_r2 ++ (wsX3_search_r3 ++ wsX3_search_r4))) ++ wsX90)
def wsX3_first_r1 : List Cond := [Cond.methodLink RX3 42 yX3_search, Cond.static yX3_search, Cond.initialized RX3, Cond.code yX3_search cX3_search 7 (some .int), Cond.methodLink RX3 24 yX9_lowest, Cond.instanceMethod yX9_lowest, Cond.selects RX9 yX9_lowest yX9_lowest, Cond.initialized RX9, Cond.code yX9_lowest cX9_lowest 1 (some .int), Cond.fieldLink RX9 24 "FairWheel$Wheel" "lowest" "I", Cond.methodLink RX3 46 yX9_riderOf, Cond.instanceMethod yX9_riderOf, Cond.selects RX9 yX9_riderOf yX9_riderOf, Cond.code yX9_riderOf cX9_riderOf 2 (some .int), Cond.fieldLink RX9 18 "FairWheel$Wheel" "riders" "[I", Cond.static yX10_at, Cond.initialized RX10, Cond.code yX10_at cX10_at 2 (some .int), Cond.methodLink RX3 50 yX3_canBe, Cond.static yX3_canBe, Cond.code yX3_canBe cX3_canBe 2 (some .boolean), Cond.methodLink RX3 11 yX9_isTaken, Cond.instanceMethod yX9_isTaken, Cond.selects RX9 yX9_isTaken yX9_isTaken]
def wsX3_first_r2 : List Cond := [Cond.code yX9_isTaken cX9_isTaken 1 (some .boolean), Cond.methodLink RX3 17 yX9_isLowest, Cond.instanceMethod yX9_isLowest, Cond.selects RX9 yX9_isLowest yX9_isLowest, Cond.code yX9_isLowest cX9_isLowest 2 (some .boolean), Cond.fieldLink RX9 15 "FairWheel$Wheel" "cars" "[I", Cond.methodLink RX3 21 yX9_isAboard, Cond.instanceMethod yX9_isAboard, Cond.selects RX9 yX9_isAboard yX9_isAboard, Cond.code yX9_isAboard cX9_isAboard 2 (some .boolean), Cond.methodLink RX3 54 yX3_make, Cond.static yX3_make, Cond.code yX3_make cX3_make 2 none, Cond.methodLink RX3 28 yX9_unseat, Cond.instanceMethod yX9_unseat, Cond.selects RX9 yX9_unseat yX9_unseat, Cond.code yX9_unseat cX9_unseat 2 none, Cond.static yX10_put, Cond.code yX10_put cX10_put 3 none, Cond.static yX10_isPerson, Cond.code yX10_isPerson cX10_isPerson 1 (some .boolean), Cond.methodLink RX3 35 yX9_seat, Cond.instanceMethod yX9_seat, Cond.selects RX9 yX9_seat yX9_seat]
def wsX3_first_r3 : List Cond := [Cond.code yX9_seat cX9_seat 3 none, Cond.methodLink RX3 39 yX9_letGo, Cond.instanceMethod yX9_letGo, Cond.selects RX9 yX9_letGo yX9_letGo, Cond.code yX9_letGo cX9_letGo 5 (some .int), Cond.methodLink RX9 63 yX9_pullAt, Cond.instanceMethod yX9_pullAt, Cond.selects RX9 yX9_pullAt yX9_pullAt, Cond.code yX9_pullAt cX9_pullAt 6 (some .int), Cond.fieldLink RX9 21 "FairWheel$Wheel" "loads" "[I", Cond.fieldLink RX9 9 "FairWheel$Wheel" "weights" "[I", Cond.fieldLink RX9 67 "FairWheel$Wheel" "ARMS" "[I", Cond.methodLink RX9 49 yJ9_floorMod_7cf53, Cond.static yJ9_floorMod_7cf53, Cond.initialized RJ9, Cond.code yJ9_floorMod_7cf53 cJ9_floorMod_7cf53 3 (some .int), Cond.methodLink RX9 76 yX9_wayOf, Cond.instanceMethod yX9_wayOf, Cond.selects RX9 yX9_wayOf yX9_wayOf, Cond.code yX9_wayOf cX9_wayOf 2 (some .int), Cond.fieldLink RX9 28 "FairWheel$Wheel" "friction" "I", Cond.methodLink RX9 79 yX9_turn, Cond.instanceMethod yX9_turn, Cond.selects RX9 yX9_turn yX9_turn]
def wsX3_first_r4 : List Cond := [Cond.code yX9_turn cX9_turn 2 none, Cond.methodLink RX3 58 yX9_takeBack, Cond.instanceMethod yX9_takeBack, Cond.selects RX9 yX9_takeBack yX9_takeBack, Cond.code yX9_takeBack cX9_takeBack 3 none, Cond.methodLink RX9 55 yX9_unseat, Cond.methodLink RX9 59 yX9_seat]
def wsX3_first : List Cond := .code yX3_first cX3_first 3 (some .int) :: ((wsX3_first_r1 ++ (wsX3_first_r2 ++ (wsX3_first_r3 ++ wsX3_first_r4))) ++ wsX90)
def wsX4_init : List Cond := .code yX4_init cX4_init 1 none :: ([.methodLink RX4 3 objectInit, .instanceMethod objectInit, .code objectInit ⟨#[0xb1]⟩ 1 none, .arrayClass .int, .fieldLink RX4 9 "FairWheel$Pad" "signs" "[I", .fieldLink RX4 15 "FairWheel$Pad" "length" "I", .fieldLink RX4 19 "FairWheel$Pad" "asked" "I"] ++ wsX40)
def wsX4_getsIn : List Cond := .code yX4_getsIn cX4_getsIn 1 (some .boolean) :: ([])
def wsX4_getsOut : List Cond := .code yX4_getsOut cX4_getsOut 1 (some .boolean) :: ([])
def wsX4_isDigit : List Cond := .code yX4_isDigit cX4_isDigit 1 (some .boolean) :: ([])
def wsX4_isMotion : List Cond := .code yX4_isMotion cX4_isMotion 1 (some .boolean) :: ([])
def wsX4_length : List Cond := .code yX4_length cX4_length 1 (some .int) :: ([.fieldLink RX4 15 "FairWheel$Pad" "length" "I"] ++ wsX40)
def wsX4_signAt : List Cond := .code yX4_signAt cX4_signAt 2 (some .int) :: ([.fieldLink RX4 9 "FairWheel$Pad" "signs" "[I", .static yX10_at, .initialized RX10, .code yX10_at cX10_at 2 (some .int)] ++ wsX40)
def wsX4_write : List Cond := .code yX4_write cX4_write 2 none :: ([.fieldLink RX4 15 "FairWheel$Pad" "length" "I", .fieldLink RX4 9 "FairWheel$Pad" "signs" "[I", .fieldLink RX4 19 "FairWheel$Pad" "asked" "I", .static yX10_put, .initialized RX10, .code yX10_put cX10_put 3 none] ++ wsX40)
def wsX4_clear : List Cond := .code yX4_clear cX4_clear 1 none :: ([.fieldLink RX4 15 "FairWheel$Pad" "length" "I", .fieldLink RX4 19 "FairWheel$Pad" "asked" "I"] ++ wsX40)
def wsX4_asked : List Cond := .code yX4_asked cX4_asked 1 (some .int) :: ([.fieldLink RX4 19 "FairWheel$Pad" "asked" "I"] ++ wsX40)
def wsX4_firstFault : List Cond := .code yX4_firstFault cX4_firstFault 5 (some .int) :: ([.fieldLink RX4 15 "FairWheel$Pad" "length" "I", .methodLink RX4 30 yX4_signAt, .instanceMethod yX4_signAt, .selects RX4 yX4_signAt yX4_signAt, .initialized RX4, .code yX4_signAt cX4_signAt 2 (some .int), .fieldLink RX4 9 "FairWheel$Pad" "signs" "[I", .static yX10_at, .initialized RX10, .code yX10_at cX10_at 2 (some .int), .methodLink RX4 34 yX4_getsIn, .static yX4_getsIn, .code yX4_getsIn cX4_getsIn 1 (some .boolean), .methodLink RX4 38 yX4_getsOut, .static yX4_getsOut, .code yX4_getsOut cX4_getsOut 1 (some .boolean), .methodLink RX4 41 yX4_isDigit, .static yX4_isDigit, .code yX4_isDigit cX4_isDigit 1 (some .boolean), .methodLink RX4 44 yX4_isMotion, .static yX4_isMotion, .code yX4_isMotion cX4_isMotion 1 (some .boolean)] ++ wsX40)
def wsX5_init : List Cond := .code yX5_init cX5_init 1 none :: ([.methodLink RX5 3 objectInit, .instanceMethod objectInit, .code objectInit ⟨#[0xb1]⟩ 1 none, .classLink RX5 9 RX9, .instantiable RX9 6, .initialized RX9, .fieldLink RX5 12 "FairWheel$Seating" "wheel" "LFairWheel$Wheel;", .arrayClass .int, .fieldLink RX5 18 "FairWheel$Seating" "firstCars" "[I", .fieldLink RX5 22 "FairWheel$Seating" "found" "Z", .methodLink RX5 11 yX9_init, .instanceMethod yX9_init, .code yX9_init cX9_init 1 none, .methodLink RX9 3 objectInit, .fieldLink RX9 9 "FairWheel$Wheel" "weights" "[I", .fieldLink RX9 15 "FairWheel$Wheel" "cars" "[I", .fieldLink RX9 18 "FairWheel$Wheel" "riders" "[I", .fieldLink RX9 21 "FairWheel$Wheel" "loads" "[I", .fieldLink RX9 24 "FairWheel$Wheel" "lowest" "I", .fieldLink RX9 28 "FairWheel$Wheel" "friction" "I", .methodLink RX9 31 yJ7_fill_53178, .static yJ7_fill_53178, .initialized RJ7, .code yJ7_fill_53178 cJ7_fill_53178 4 none] ++ wsX90 ++ wsX50)
def wsX9_clear : List Cond := .code yX9_clear cX9_clear 1 none :: ([.fieldLink RX9 15 "FairWheel$Wheel" "cars" "[I", .fieldLink RX9 18 "FairWheel$Wheel" "riders" "[I", .fieldLink RX9 21 "FairWheel$Wheel" "loads" "[I", .methodLink RX9 31 yJ7_fill_53178, .static yJ7_fill_53178, .initialized RJ7, .code yJ7_fill_53178 cJ7_fill_53178 4 none] ++ wsX90)
def wsX10_isOf : List Cond := .code yX10_isOf cX10_isOf 2 (some .boolean) :: ([])
def wsX5_leastOf : List Cond := .code yX5_leastOf cX5_leastOf 2 (some .int) :: ([.static yX10_isOf, .initialized RX10, .code yX10_isOf cX10_isOf 2 (some .boolean)])
def wsX9_greatestPull : List Cond := .code yX9_greatestPull cX9_greatestPull 3 (some .int) :: ([.methodLink RX9 70 Lib.Math.abs.name, .static Lib.Math.abs.name, .initialized "java/lang/Math", .code Lib.Math.abs.name Lib.Math.abs.code 1 (some .int), .methodLink RX9 73 Lib.Math.max.name, .static Lib.Math.max.name, .code Lib.Math.max.name Lib.Math.max.code 2 (some .int), .methodLink RX9 63 yX9_pullAt, .instanceMethod yX9_pullAt, .selects RX9 yX9_pullAt yX9_pullAt, .initialized RX9, .code yX9_pullAt cX9_pullAt 6 (some .int), .fieldLink RX9 18 "FairWheel$Wheel" "riders" "[I", .fieldLink RX9 21 "FairWheel$Wheel" "loads" "[I", .fieldLink RX9 9 "FairWheel$Wheel" "weights" "[I", .fieldLink RX9 67 "FairWheel$Wheel" "ARMS" "[I", .static yX10_at, .initialized RX10, .code yX10_at cX10_at 2 (some .int), .methodLink RX9 49 yJ9_floorMod_7cf53, .static yJ9_floorMod_7cf53, .initialized RJ9, .code yJ9_floorMod_7cf53 cJ9_floorMod_7cf53 3 (some .int)] ++ wsX90)
def wsX9_friction : List Cond := .code yX9_friction cX9_friction 1 (some .int) :: ([.fieldLink RX9 28 "FairWheel$Wheel" "friction" "I"] ++ wsX90)
def wsX5_settle_r1 : List Cond := [Cond.fieldLink RX5 12 "FairWheel$Seating" "wheel" "LFairWheel$Wheel;", Cond.fieldLink RX5 22 "FairWheel$Seating" "found" "Z", Cond.fieldLink RX5 18 "FairWheel$Seating" "firstCars" "[I", Cond.methodLink RX5 64 yX9_greatestPull, Cond.instanceMethod yX9_greatestPull, Cond.selects RX9 yX9_greatestPull yX9_greatestPull, Cond.initialized RX9, Cond.code yX9_greatestPull cX9_greatestPull 3 (some .int), Cond.methodLink RX9 70 Lib.Math.abs.name, Cond.static Lib.Math.abs.name, Cond.initialized "java/lang/Math", Cond.code Lib.Math.abs.name Lib.Math.abs.code 1 (some .int), Cond.methodLink RX9 73 Lib.Math.max.name, Cond.static Lib.Math.max.name, Cond.code Lib.Math.max.name Lib.Math.max.code 2 (some .int), Cond.methodLink RX9 63 yX9_pullAt, Cond.instanceMethod yX9_pullAt, Cond.selects RX9 yX9_pullAt yX9_pullAt, Cond.code yX9_pullAt cX9_pullAt 6 (some .int), Cond.fieldLink RX9 18 "FairWheel$Wheel" "riders" "[I", Cond.fieldLink RX9 21 "FairWheel$Wheel" "loads" "[I", Cond.fieldLink RX9 9 "FairWheel$Wheel" "weights" "[I", Cond.fieldLink RX9 67 "FairWheel$Wheel" "ARMS" "[I", Cond.static yX10_at]
def wsX5_settle_r2 : List Cond := [Cond.initialized RX10, Cond.code yX10_at cX10_at 2 (some .int), Cond.methodLink RX9 49 yJ9_floorMod_7cf53, Cond.static yJ9_floorMod_7cf53, Cond.initialized RJ9, Cond.code yJ9_floorMod_7cf53 cJ9_floorMod_7cf53 3 (some .int), Cond.methodLink RX5 67 yX9_friction, Cond.instanceMethod yX9_friction, Cond.selects RX9 yX9_friction yX9_friction, Cond.code yX9_friction cX9_friction 1 (some .int), Cond.fieldLink RX9 28 "FairWheel$Wheel" "friction" "I", Cond.static yX10_copyRow, Cond.code yX10_copyRow cX10_copyRow 2 none, Cond.methodLink RX10 257 Lib.Math.min.name, Cond.static Lib.Math.min.name, Cond.code Lib.Math.min.name Lib.Math.min.code 2 (some .int), Cond.methodLink RX10 262 arraycopyName, Cond.native arraycopyName, Cond.static arraycopyName, Cond.initialized "java/lang/System"]
def wsX5_settle : List Cond := .code yX5_settle cX5_settle 1 (some .int) :: ((wsX5_settle_r1 ++ wsX5_settle_r2) ++ wsX50 ++ wsX90)
def wsX5_search_r1 : List Cond := [Cond.fieldLink RX5 12 "FairWheel$Seating" "wheel" "LFairWheel$Wheel;", Cond.methodLink RX5 37 yX5_settle, Cond.instanceMethod yX5_settle, Cond.selects RX5 yX5_settle yX5_settle, Cond.initialized RX5, Cond.code yX5_settle cX5_settle 1 (some .int), Cond.fieldLink RX5 22 "FairWheel$Seating" "found" "Z", Cond.fieldLink RX5 18 "FairWheel$Seating" "firstCars" "[I", Cond.methodLink RX5 64 yX9_greatestPull, Cond.instanceMethod yX9_greatestPull, Cond.selects RX9 yX9_greatestPull yX9_greatestPull, Cond.initialized RX9, Cond.code yX9_greatestPull cX9_greatestPull 3 (some .int), Cond.methodLink RX9 70 Lib.Math.abs.name, Cond.static Lib.Math.abs.name, Cond.initialized "java/lang/Math", Cond.code Lib.Math.abs.name Lib.Math.abs.code 1 (some .int), Cond.methodLink RX9 73 Lib.Math.max.name, Cond.static Lib.Math.max.name, Cond.code Lib.Math.max.name Lib.Math.max.code 2 (some .int), Cond.methodLink RX9 63 yX9_pullAt, Cond.instanceMethod yX9_pullAt, Cond.selects RX9 yX9_pullAt yX9_pullAt, Cond.code yX9_pullAt cX9_pullAt 6 (some .int)]
def wsX5_search_r2 : List Cond := [Cond.fieldLink RX9 18 "FairWheel$Wheel" "riders" "[I", Cond.fieldLink RX9 21 "FairWheel$Wheel" "loads" "[I", Cond.fieldLink RX9 9 "FairWheel$Wheel" "weights" "[I", Cond.fieldLink RX9 67 "FairWheel$Wheel" "ARMS" "[I", Cond.static yX10_at, Cond.initialized RX10, Cond.code yX10_at cX10_at 2 (some .int), Cond.methodLink RX9 49 yJ9_floorMod_7cf53, Cond.static yJ9_floorMod_7cf53, Cond.initialized RJ9, Cond.code yJ9_floorMod_7cf53 cJ9_floorMod_7cf53 3 (some .int), Cond.methodLink RX5 67 yX9_friction, Cond.instanceMethod yX9_friction, Cond.selects RX9 yX9_friction yX9_friction, Cond.code yX9_friction cX9_friction 1 (some .int), Cond.fieldLink RX9 28 "FairWheel$Wheel" "friction" "I", Cond.static yX10_copyRow, Cond.code yX10_copyRow cX10_copyRow 2 none, Cond.methodLink RX10 257 Lib.Math.min.name, Cond.static Lib.Math.min.name, Cond.code Lib.Math.min.name Lib.Math.min.code 2 (some .int), Cond.methodLink RX10 262 arraycopyName, Cond.native arraycopyName, Cond.static arraycopyName]
def wsX5_search_r3 : List Cond := [Cond.initialized "java/lang/System", Cond.static yX10_isOf, Cond.code yX10_isOf cX10_isOf 2 (some .boolean), Cond.methodLink RX5 45 yX5_search, Cond.static yX5_search, Cond.methodLink RX5 57 yX9_riderOf, Cond.instanceMethod yX9_riderOf, Cond.selects RX9 yX9_riderOf yX9_riderOf, Cond.code yX9_riderOf cX9_riderOf 2 (some .int), Cond.methodLink RX5 41 yX9_seat, Cond.instanceMethod yX9_seat, Cond.selects RX9 yX9_seat yX9_seat, Cond.code yX9_seat cX9_seat 3 none, Cond.fieldLink RX9 15 "FairWheel$Wheel" "cars" "[I", Cond.static yX10_put, Cond.code yX10_put cX10_put 3 none, Cond.methodLink RX5 60 yX9_unseat, Cond.instanceMethod yX9_unseat, Cond.selects RX9 yX9_unseat yX9_unseat, Cond.code yX9_unseat cX9_unseat 2 none]
def wsX5_search : List Cond := .code yX5_search cX5_search 5 (some .int) :: ((wsX5_search_r1 ++ (wsX5_search_r2 ++ wsX5_search_r3)) ++ wsX50 ++ wsX90)
def wsX5_count_r1 : List Cond := [Cond.fieldLink RX5 22 "FairWheel$Seating" "found" "Z", Cond.fieldLink RX5 12 "FairWheel$Seating" "wheel" "LFairWheel$Wheel;", Cond.methodLink RX5 26 yX9_copyFrom, Cond.instanceMethod yX9_copyFrom, Cond.selects RX9 yX9_copyFrom yX9_copyFrom, Cond.initialized RX9, Cond.code yX9_copyFrom cX9_copyFrom 2 none, Cond.fieldLink RX9 9 "FairWheel$Wheel" "weights" "[I", Cond.fieldLink RX9 15 "FairWheel$Wheel" "cars" "[I", Cond.fieldLink RX9 18 "FairWheel$Wheel" "riders" "[I", Cond.fieldLink RX9 21 "FairWheel$Wheel" "loads" "[I", Cond.fieldLink RX9 24 "FairWheel$Wheel" "lowest" "I", Cond.fieldLink RX9 28 "FairWheel$Wheel" "friction" "I", Cond.static yX10_copyRow, Cond.initialized RX10, Cond.code yX10_copyRow cX10_copyRow 2 none, Cond.methodLink RX10 257 Lib.Math.min.name, Cond.static Lib.Math.min.name, Cond.initialized "java/lang/Math", Cond.code Lib.Math.min.name Lib.Math.min.code 2 (some .int), Cond.methodLink RX10 262 arraycopyName, Cond.native arraycopyName, Cond.static arraycopyName, Cond.initialized "java/lang/System"]
def wsX5_count_r2 : List Cond := [Cond.methodLink RX5 30 yX9_clear, Cond.instanceMethod yX9_clear, Cond.selects RX9 yX9_clear yX9_clear, Cond.code yX9_clear cX9_clear 1 none, Cond.methodLink RX9 31 yJ7_fill_53178, Cond.static yJ7_fill_53178, Cond.initialized RJ7, Cond.code yJ7_fill_53178 cJ7_fill_53178 4 none, Cond.methodLink RX5 33 yX5_leastOf, Cond.static yX5_leastOf, Cond.initialized RX5, Cond.code yX5_leastOf cX5_leastOf 2 (some .int), Cond.static yX10_isOf, Cond.code yX10_isOf cX10_isOf 2 (some .boolean), Cond.methodLink RX5 37 yX5_settle, Cond.instanceMethod yX5_settle, Cond.selects RX5 yX5_settle yX5_settle, Cond.code yX5_settle cX5_settle 1 (some .int), Cond.fieldLink RX5 18 "FairWheel$Seating" "firstCars" "[I", Cond.methodLink RX5 64 yX9_greatestPull, Cond.instanceMethod yX9_greatestPull, Cond.selects RX9 yX9_greatestPull yX9_greatestPull, Cond.code yX9_greatestPull cX9_greatestPull 3 (some .int), Cond.methodLink RX9 70 Lib.Math.abs.name]
def wsX5_count_r3 : List Cond := [Cond.static Lib.Math.abs.name, Cond.code Lib.Math.abs.name Lib.Math.abs.code 1 (some .int), Cond.methodLink RX9 73 Lib.Math.max.name, Cond.static Lib.Math.max.name, Cond.code Lib.Math.max.name Lib.Math.max.code 2 (some .int), Cond.methodLink RX9 63 yX9_pullAt, Cond.instanceMethod yX9_pullAt, Cond.selects RX9 yX9_pullAt yX9_pullAt, Cond.code yX9_pullAt cX9_pullAt 6 (some .int), Cond.fieldLink RX9 67 "FairWheel$Wheel" "ARMS" "[I", Cond.static yX10_at, Cond.code yX10_at cX10_at 2 (some .int), Cond.methodLink RX9 49 yJ9_floorMod_7cf53, Cond.static yJ9_floorMod_7cf53, Cond.initialized RJ9, Cond.code yJ9_floorMod_7cf53 cJ9_floorMod_7cf53 3 (some .int), Cond.methodLink RX5 67 yX9_friction, Cond.instanceMethod yX9_friction, Cond.selects RX9 yX9_friction yX9_friction, Cond.code yX9_friction cX9_friction 1 (some .int), Cond.methodLink RX5 41 yX9_seat, Cond.instanceMethod yX9_seat, Cond.selects RX9 yX9_seat yX9_seat, Cond.code yX9_seat cX9_seat 3 none]
def wsX5_count_r4 : List Cond := [Cond.static yX10_put, Cond.code yX10_put cX10_put 3 none, Cond.methodLink RX5 45 yX5_search, Cond.static yX5_search, Cond.code yX5_search cX5_search 5 (some .int), Cond.methodLink RX5 57 yX9_riderOf, Cond.instanceMethod yX9_riderOf, Cond.selects RX9 yX9_riderOf yX9_riderOf, Cond.code yX9_riderOf cX9_riderOf 2 (some .int), Cond.methodLink RX5 60 yX9_unseat, Cond.instanceMethod yX9_unseat, Cond.selects RX9 yX9_unseat yX9_unseat, Cond.code yX9_unseat cX9_unseat 2 none]
def wsX5_count : List Cond := .code yX5_count cX5_count 4 (some .int) :: ((wsX5_count_r1 ++ (wsX5_count_r2 ++ (wsX5_count_r3 ++ wsX5_count_r4))) ++ wsX50 ++ wsX90)
def wsX5_carInFirst : List Cond := .code yX5_carInFirst cX5_carInFirst 2 (some .int) :: ([.fieldLink RX5 18 "FairWheel$Seating" "firstCars" "[I", .static yX10_at, .initialized RX10, .code yX10_at cX10_at 2 (some .int)] ++ wsX50)
def wsX6_count : List Cond := .code yX6_count cX6_count 1 (some .int) :: ([.fieldLink RX6 18 "FairWheel$Sights" "count" "I"] ++ wsX60)
def wsX6_add : List Cond := .code yX6_add cX6_add 3 none :: ([.fieldLink RX6 18 "FairWheel$Sights" "count" "I", .fieldLink RX6 9 "FairWheel$Sights" "people" "[I", .fieldLink RX6 15 "FairWheel$Sights" "cars" "[I", .static yX10_put, .initialized RX10, .code yX10_put cX10_put 3 none] ++ wsX60)
def wsX6_clear : List Cond := .code yX6_clear cX6_clear 1 none :: ([.fieldLink RX6 18 "FairWheel$Sights" "count" "I"] ++ wsX60)
def wsX9_carOf : List Cond := .code yX9_carOf cX9_carOf 2 (some .int) :: ([.fieldLink RX9 15 "FairWheel$Wheel" "cars" "[I", .static yX10_at, .initialized RX10, .code yX10_at cX10_at 2 (some .int)] ++ wsX90)
def wsX6_areTrue : List Cond := .code yX6_areTrue cX6_areTrue 3 (some .boolean) :: ([.fieldLink RX6 18 "FairWheel$Sights" "count" "I", .fieldLink RX6 9 "FairWheel$Sights" "people" "[I", .fieldLink RX6 15 "FairWheel$Sights" "cars" "[I", .static yX10_at, .initialized RX10, .code yX10_at cX10_at 2 (some .int), .methodLink RX6 34 yX9_carOf, .instanceMethod yX9_carOf, .selects RX9 yX9_carOf yX9_carOf, .initialized RX9, .code yX9_carOf cX9_carOf 2 (some .int), .fieldLink RX9 15 "FairWheel$Wheel" "cars" "[I"] ++ wsX60 ++ wsX90)
def wsX7_init_r1 : List Cond := [Cond.methodLink RX7 3 objectInit, Cond.instanceMethod objectInit, Cond.code objectInit ⟨#[0xb1]⟩ 1 none, Cond.classLink RX7 9 RX9, Cond.instantiable RX9 6, Cond.initialized RX9, Cond.fieldLink RX7 12 "FairWheel$Telling" "wheel" "LFairWheel$Wheel;", Cond.fieldLink RX7 18 "FairWheel$Telling" "failedEvent" "I", Cond.fieldLink RX7 22 "FairWheel$Telling" "reason" "I", Cond.fieldLink RX7 25 "FairWheel$Telling" "turned" "I", Cond.fieldLink RX7 28 "FairWheel$Telling" "filling" "I", Cond.fieldLink RX7 31 "FairWheel$Telling" "asked" "I", Cond.fieldLink RX7 34 "FairWheel$Telling" "askedBefore" "I", Cond.methodLink RX7 11 yX9_init, Cond.instanceMethod yX9_init, Cond.code yX9_init cX9_init 1 none, Cond.methodLink RX9 3 objectInit, Cond.arrayClass .int, Cond.fieldLink RX9 9 "FairWheel$Wheel" "weights" "[I", Cond.fieldLink RX9 15 "FairWheel$Wheel" "cars" "[I", Cond.fieldLink RX9 18 "FairWheel$Wheel" "riders" "[I", Cond.fieldLink RX9 21 "FairWheel$Wheel" "loads" "[I", Cond.fieldLink RX9 24 "FairWheel$Wheel" "lowest" "I", Cond.fieldLink RX9 28 "FairWheel$Wheel" "friction" "I"]
def wsX7_init_r2 : List Cond := [Cond.methodLink RX9 31 yJ7_fill_53178, Cond.static yJ7_fill_53178, Cond.initialized RJ7, Cond.code yJ7_fill_53178 cJ7_fill_53178 4 none]
def wsX7_init : List Cond := .code yX7_init cX7_init 1 none :: ((wsX7_init_r1 ++ wsX7_init_r2) ++ wsX90 ++ wsX70)
def wsX7_wheel : List Cond := .code yX7_wheel cX7_wheel 1 (some (.object "FairWheel$Wheel")) :: ([.fieldLink RX7 12 "FairWheel$Telling" "wheel" "LFairWheel$Wheel;"] ++ wsX70)
def wsX7_failedEvent : List Cond := .code yX7_failedEvent cX7_failedEvent 1 (some .int) :: ([.fieldLink RX7 18 "FairWheel$Telling" "failedEvent" "I"] ++ wsX70)
def wsX7_reason : List Cond := .code yX7_reason cX7_reason 1 (some .int) :: ([.fieldLink RX7 22 "FairWheel$Telling" "reason" "I"] ++ wsX70)
def wsX7_turned : List Cond := .code yX7_turned cX7_turned 1 (some .int) :: ([.fieldLink RX7 25 "FairWheel$Telling" "turned" "I"] ++ wsX70)
def wsX9_loadOf : List Cond := .code yX9_loadOf cX9_loadOf 2 (some .int) :: ([.fieldLink RX9 21 "FairWheel$Wheel" "loads" "[I", .static yX10_at, .initialized RX10, .code yX10_at cX10_at 2 (some .int)] ++ wsX90)
def wsX9_setLoad : List Cond := .code yX9_setLoad cX9_setLoad 3 none :: ([.fieldLink RX9 21 "FairWheel$Wheel" "loads" "[I", .static yX10_put, .initialized RX10, .code yX10_put cX10_put 3 none] ++ wsX90)
def wsX7_load : List Cond := .code yX7_load cX7_load 4 (some .int) :: ([.fieldLink RX7 12 "FairWheel$Telling" "wheel" "LFairWheel$Wheel;", .methodLink RX7 88 yX9_lowest, .instanceMethod yX9_lowest, .selects RX9 yX9_lowest yX9_lowest, .initialized RX9, .code yX9_lowest cX9_lowest 1 (some .int), .fieldLink RX9 24 "FairWheel$Wheel" "lowest" "I", .methodLink RX7 91 yX9_loadOf, .instanceMethod yX9_loadOf, .selects RX9 yX9_loadOf yX9_loadOf, .code yX9_loadOf cX9_loadOf 2 (some .int), .fieldLink RX9 21 "FairWheel$Wheel" "loads" "[I", .static yX10_at, .initialized RX10, .code yX10_at cX10_at 2 (some .int), .methodLink RX7 94 yX9_setLoad, .instanceMethod yX9_setLoad, .selects RX9 yX9_setLoad yX9_setLoad, .code yX9_setLoad cX9_setLoad 3 none, .static yX10_put, .code yX10_put cX10_put 3 none] ++ wsX70 ++ wsX90)
def wsX7_letOut : List Cond := .code yX7_letOut cX7_letOut 2 (some .int) :: ([.fieldLink RX7 12 "FairWheel$Telling" "wheel" "LFairWheel$Wheel;", .methodLink RX7 108 yX9_isLowest, .instanceMethod yX9_isLowest, .selects RX9 yX9_isLowest yX9_isLowest, .initialized RX9, .code yX9_isLowest cX9_isLowest 2 (some .boolean), .fieldLink RX9 15 "FairWheel$Wheel" "cars" "[I", .fieldLink RX9 24 "FairWheel$Wheel" "lowest" "I", .static yX10_at, .initialized RX10, .code yX10_at cX10_at 2 (some .int), .methodLink RX7 88 yX9_lowest, .instanceMethod yX9_lowest, .selects RX9 yX9_lowest yX9_lowest, .code yX9_lowest cX9_lowest 1 (some .int), .methodLink RX7 111 yX9_unseat, .instanceMethod yX9_unseat, .selects RX9 yX9_unseat yX9_unseat, .code yX9_unseat cX9_unseat 2 none, .fieldLink RX9 18 "FairWheel$Wheel" "riders" "[I", .static yX10_put, .code yX10_put cX10_put 3 none] ++ wsX70 ++ wsX90)
def wsX7_letIn_r1 : List Cond := [Cond.fieldLink RX7 12 "FairWheel$Telling" "wheel" "LFairWheel$Wheel;", Cond.methodLink RX7 98 yX9_isAboard, Cond.instanceMethod yX9_isAboard, Cond.selects RX9 yX9_isAboard yX9_isAboard, Cond.initialized RX9, Cond.code yX9_isAboard cX9_isAboard 2 (some .boolean), Cond.fieldLink RX9 15 "FairWheel$Wheel" "cars" "[I", Cond.static yX10_at, Cond.initialized RX10, Cond.code yX10_at cX10_at 2 (some .int), Cond.methodLink RX7 101 yX9_isTaken, Cond.instanceMethod yX9_isTaken, Cond.selects RX9 yX9_isTaken yX9_isTaken, Cond.code yX9_isTaken cX9_isTaken 1 (some .boolean), Cond.fieldLink RX9 18 "FairWheel$Wheel" "riders" "[I", Cond.fieldLink RX9 24 "FairWheel$Wheel" "lowest" "I", Cond.methodLink RX7 88 yX9_lowest, Cond.instanceMethod yX9_lowest, Cond.selects RX9 yX9_lowest yX9_lowest, Cond.code yX9_lowest cX9_lowest 1 (some .int), Cond.methodLink RX7 105 yX9_seat, Cond.instanceMethod yX9_seat, Cond.selects RX9 yX9_seat yX9_seat, Cond.code yX9_seat cX9_seat 3 none]
def wsX7_letIn_r2 : List Cond := [Cond.static yX10_put, Cond.code yX10_put cX10_put 3 none]
def wsX7_letIn : List Cond := .code yX7_letIn cX7_letIn 2 (some .int) :: ((wsX7_letIn_r1 ++ wsX7_letIn_r2) ++ wsX70 ++ wsX90)
def wsX7_happen_r1 : List Cond := [Cond.fieldLink RX7 25 "FairWheel$Telling" "turned" "I", Cond.fieldLink RX7 12 "FairWheel$Telling" "wheel" "LFairWheel$Wheel;", Cond.fieldLink RX7 28 "FairWheel$Telling" "filling" "I", Cond.fieldLink RX7 34 "FairWheel$Telling" "askedBefore" "I", Cond.fieldLink RX7 31 "FairWheel$Telling" "asked" "I", Cond.methodLink RX7 56 yX9_letGo, Cond.instanceMethod yX9_letGo, Cond.selects RX9 yX9_letGo yX9_letGo, Cond.initialized RX9, Cond.code yX9_letGo cX9_letGo 5 (some .int), Cond.fieldLink RX9 24 "FairWheel$Wheel" "lowest" "I", Cond.methodLink RX9 63 yX9_pullAt, Cond.instanceMethod yX9_pullAt, Cond.selects RX9 yX9_pullAt yX9_pullAt, Cond.code yX9_pullAt cX9_pullAt 6 (some .int), Cond.fieldLink RX9 18 "FairWheel$Wheel" "riders" "[I", Cond.fieldLink RX9 21 "FairWheel$Wheel" "loads" "[I", Cond.fieldLink RX9 9 "FairWheel$Wheel" "weights" "[I", Cond.fieldLink RX9 67 "FairWheel$Wheel" "ARMS" "[I", Cond.static yX10_at, Cond.initialized RX10, Cond.code yX10_at cX10_at 2 (some .int), Cond.methodLink RX9 49 yJ9_floorMod_7cf53, Cond.static yJ9_floorMod_7cf53]
def wsX7_happen_r2 : List Cond := [Cond.initialized RJ9, Cond.code yJ9_floorMod_7cf53 cJ9_floorMod_7cf53 3 (some .int), Cond.methodLink RX9 76 yX9_wayOf, Cond.instanceMethod yX9_wayOf, Cond.selects RX9 yX9_wayOf yX9_wayOf, Cond.code yX9_wayOf cX9_wayOf 2 (some .int), Cond.fieldLink RX9 28 "FairWheel$Wheel" "friction" "I", Cond.methodLink RX9 79 yX9_turn, Cond.instanceMethod yX9_turn, Cond.selects RX9 yX9_turn yX9_turn, Cond.code yX9_turn cX9_turn 2 none, Cond.methodLink RX7 59 yX4_isMotion, Cond.static yX4_isMotion, Cond.initialized RX4, Cond.code yX4_isMotion cX4_isMotion 1 (some .boolean), Cond.methodLink RX7 63 yX9_turn, Cond.methodLink RX7 67 yX4_isDigit, Cond.static yX4_isDigit, Cond.code yX4_isDigit cX4_isDigit 1 (some .boolean), Cond.methodLink RX7 70 yX7_load, Cond.instanceMethod yX7_load, Cond.selects RX7 yX7_load yX7_load, Cond.initialized RX7, Cond.code yX7_load cX7_load 4 (some .int)]
def wsX7_happen_r3 : List Cond := [Cond.methodLink RX7 88 yX9_lowest, Cond.instanceMethod yX9_lowest, Cond.selects RX9 yX9_lowest yX9_lowest, Cond.code yX9_lowest cX9_lowest 1 (some .int), Cond.methodLink RX7 91 yX9_loadOf, Cond.instanceMethod yX9_loadOf, Cond.selects RX9 yX9_loadOf yX9_loadOf, Cond.code yX9_loadOf cX9_loadOf 2 (some .int), Cond.methodLink RX7 94 yX9_setLoad, Cond.instanceMethod yX9_setLoad, Cond.selects RX9 yX9_setLoad yX9_setLoad, Cond.code yX9_setLoad cX9_setLoad 3 none, Cond.static yX10_put, Cond.code yX10_put cX10_put 3 none, Cond.methodLink RX7 73 yX4_getsOut, Cond.static yX4_getsOut, Cond.code yX4_getsOut cX4_getsOut 1 (some .boolean), Cond.methodLink RX7 76 yX7_letOut, Cond.instanceMethod yX7_letOut, Cond.selects RX7 yX7_letOut yX7_letOut, Cond.code yX7_letOut cX7_letOut 2 (some .int), Cond.methodLink RX7 108 yX9_isLowest, Cond.instanceMethod yX9_isLowest, Cond.selects RX9 yX9_isLowest yX9_isLowest]
def wsX7_happen_r4 : List Cond := [Cond.code yX9_isLowest cX9_isLowest 2 (some .boolean), Cond.fieldLink RX9 15 "FairWheel$Wheel" "cars" "[I", Cond.methodLink RX7 111 yX9_unseat, Cond.instanceMethod yX9_unseat, Cond.selects RX9 yX9_unseat yX9_unseat, Cond.code yX9_unseat cX9_unseat 2 none, Cond.methodLink RX7 79 yX1_personAt, Cond.static yX1_personAt, Cond.initialized RX1, Cond.code yX1_personAt cX1_personAt 3 (some .int), Cond.methodLink RX7 85 yX7_letIn, Cond.instanceMethod yX7_letIn, Cond.selects RX7 yX7_letIn yX7_letIn, Cond.code yX7_letIn cX7_letIn 2 (some .int), Cond.methodLink RX7 98 yX9_isAboard, Cond.instanceMethod yX9_isAboard, Cond.selects RX9 yX9_isAboard yX9_isAboard, Cond.code yX9_isAboard cX9_isAboard 2 (some .boolean), Cond.methodLink RX7 101 yX9_isTaken, Cond.instanceMethod yX9_isTaken, Cond.selects RX9 yX9_isTaken yX9_isTaken, Cond.code yX9_isTaken cX9_isTaken 1 (some .boolean), Cond.methodLink RX7 105 yX9_seat, Cond.instanceMethod yX9_seat]
def wsX7_happen_r5 : List Cond := [Cond.selects RX9 yX9_seat yX9_seat, Cond.code yX9_seat cX9_seat 3 none]
def wsX7_happen : List Cond := .code yX7_happen cX7_happen 3 (some .int) :: ((wsX7_happen_r1 ++ (wsX7_happen_r2 ++ (wsX7_happen_r3 ++ (wsX7_happen_r4 ++ wsX7_happen_r5)))) ++ wsX70 ++ wsX90)
def wsX7_tell_r1 : List Cond := [Cond.fieldLink RX7 12 "FairWheel$Telling" "wheel" "LFairWheel$Wheel;", Cond.fieldLink RX7 18 "FairWheel$Telling" "failedEvent" "I", Cond.fieldLink RX7 22 "FairWheel$Telling" "reason" "I", Cond.fieldLink RX7 25 "FairWheel$Telling" "turned" "I", Cond.fieldLink RX7 28 "FairWheel$Telling" "filling" "I", Cond.fieldLink RX7 31 "FairWheel$Telling" "asked" "I", Cond.fieldLink RX7 34 "FairWheel$Telling" "askedBefore" "I", Cond.methodLink RX7 37 yX9_copyFrom, Cond.instanceMethod yX9_copyFrom, Cond.selects RX9 yX9_copyFrom yX9_copyFrom, Cond.initialized RX9, Cond.code yX9_copyFrom cX9_copyFrom 2 none, Cond.fieldLink RX9 9 "FairWheel$Wheel" "weights" "[I", Cond.fieldLink RX9 15 "FairWheel$Wheel" "cars" "[I", Cond.fieldLink RX9 18 "FairWheel$Wheel" "riders" "[I", Cond.fieldLink RX9 21 "FairWheel$Wheel" "loads" "[I", Cond.fieldLink RX9 24 "FairWheel$Wheel" "lowest" "I", Cond.fieldLink RX9 28 "FairWheel$Wheel" "friction" "I", Cond.static yX10_copyRow, Cond.initialized RX10, Cond.code yX10_copyRow cX10_copyRow 2 none, Cond.methodLink RX10 257 Lib.Math.min.name, Cond.static Lib.Math.min.name, Cond.initialized "java/lang/Math"]
def wsX7_tell_r2 : List Cond := [Cond.code Lib.Math.min.name Lib.Math.min.code 2 (some .int), Cond.methodLink RX10 262 arraycopyName, Cond.native arraycopyName, Cond.static arraycopyName, Cond.initialized "java/lang/System", Cond.methodLink RX7 41 yX4_asked, Cond.instanceMethod yX4_asked, Cond.selects RX4 yX4_asked yX4_asked, Cond.initialized RX4, Cond.code yX4_asked cX4_asked 1 (some .int), Cond.fieldLink RX4 19 "FairWheel$Pad" "asked" "I", Cond.methodLink RX7 46 yX4_length, Cond.instanceMethod yX4_length, Cond.selects RX4 yX4_length yX4_length, Cond.code yX4_length cX4_length 1 (some .int), Cond.fieldLink RX4 15 "FairWheel$Pad" "length" "I", Cond.methodLink RX7 49 yX4_signAt, Cond.instanceMethod yX4_signAt, Cond.selects RX4 yX4_signAt yX4_signAt, Cond.code yX4_signAt cX4_signAt 2 (some .int), Cond.fieldLink RX4 9 "FairWheel$Pad" "signs" "[I", Cond.static yX10_at, Cond.code yX10_at cX10_at 2 (some .int), Cond.methodLink RX7 53 yX7_happen]
def wsX7_tell_r3 : List Cond := [Cond.instanceMethod yX7_happen, Cond.selects RX7 yX7_happen yX7_happen, Cond.initialized RX7, Cond.code yX7_happen cX7_happen 3 (some .int), Cond.methodLink RX7 56 yX9_letGo, Cond.instanceMethod yX9_letGo, Cond.selects RX9 yX9_letGo yX9_letGo, Cond.code yX9_letGo cX9_letGo 5 (some .int), Cond.methodLink RX9 63 yX9_pullAt, Cond.instanceMethod yX9_pullAt, Cond.selects RX9 yX9_pullAt yX9_pullAt, Cond.code yX9_pullAt cX9_pullAt 6 (some .int), Cond.fieldLink RX9 67 "FairWheel$Wheel" "ARMS" "[I", Cond.methodLink RX9 49 yJ9_floorMod_7cf53, Cond.static yJ9_floorMod_7cf53, Cond.initialized RJ9, Cond.code yJ9_floorMod_7cf53 cJ9_floorMod_7cf53 3 (some .int), Cond.methodLink RX9 76 yX9_wayOf, Cond.instanceMethod yX9_wayOf, Cond.selects RX9 yX9_wayOf yX9_wayOf, Cond.code yX9_wayOf cX9_wayOf 2 (some .int), Cond.methodLink RX9 79 yX9_turn, Cond.instanceMethod yX9_turn, Cond.selects RX9 yX9_turn yX9_turn]
def wsX7_tell_r4 : List Cond := [Cond.code yX9_turn cX9_turn 2 none, Cond.methodLink RX7 59 yX4_isMotion, Cond.static yX4_isMotion, Cond.code yX4_isMotion cX4_isMotion 1 (some .boolean), Cond.methodLink RX7 63 yX9_turn, Cond.methodLink RX7 67 yX4_isDigit, Cond.static yX4_isDigit, Cond.code yX4_isDigit cX4_isDigit 1 (some .boolean), Cond.methodLink RX7 70 yX7_load, Cond.instanceMethod yX7_load, Cond.selects RX7 yX7_load yX7_load, Cond.code yX7_load cX7_load 4 (some .int), Cond.methodLink RX7 88 yX9_lowest, Cond.instanceMethod yX9_lowest, Cond.selects RX9 yX9_lowest yX9_lowest, Cond.code yX9_lowest cX9_lowest 1 (some .int), Cond.methodLink RX7 91 yX9_loadOf, Cond.instanceMethod yX9_loadOf, Cond.selects RX9 yX9_loadOf yX9_loadOf, Cond.code yX9_loadOf cX9_loadOf 2 (some .int), Cond.methodLink RX7 94 yX9_setLoad, Cond.instanceMethod yX9_setLoad, Cond.selects RX9 yX9_setLoad yX9_setLoad, Cond.code yX9_setLoad cX9_setLoad 3 none]
def wsX7_tell_r5 : List Cond := [Cond.static yX10_put, Cond.code yX10_put cX10_put 3 none, Cond.methodLink RX7 73 yX4_getsOut, Cond.static yX4_getsOut, Cond.code yX4_getsOut cX4_getsOut 1 (some .boolean), Cond.methodLink RX7 76 yX7_letOut, Cond.instanceMethod yX7_letOut, Cond.selects RX7 yX7_letOut yX7_letOut, Cond.code yX7_letOut cX7_letOut 2 (some .int), Cond.methodLink RX7 108 yX9_isLowest, Cond.instanceMethod yX9_isLowest, Cond.selects RX9 yX9_isLowest yX9_isLowest, Cond.code yX9_isLowest cX9_isLowest 2 (some .boolean), Cond.methodLink RX7 111 yX9_unseat, Cond.instanceMethod yX9_unseat, Cond.selects RX9 yX9_unseat yX9_unseat, Cond.code yX9_unseat cX9_unseat 2 none, Cond.methodLink RX7 79 yX1_personAt, Cond.static yX1_personAt, Cond.initialized RX1, Cond.code yX1_personAt cX1_personAt 3 (some .int), Cond.methodLink RX7 85 yX7_letIn, Cond.instanceMethod yX7_letIn, Cond.selects RX7 yX7_letIn yX7_letIn]
def wsX7_tell_r6 : List Cond := [Cond.code yX7_letIn cX7_letIn 2 (some .int), Cond.methodLink RX7 98 yX9_isAboard, Cond.instanceMethod yX9_isAboard, Cond.selects RX9 yX9_isAboard yX9_isAboard, Cond.code yX9_isAboard cX9_isAboard 2 (some .boolean), Cond.methodLink RX7 101 yX9_isTaken, Cond.instanceMethod yX9_isTaken, Cond.selects RX9 yX9_isTaken yX9_isTaken, Cond.code yX9_isTaken cX9_isTaken 1 (some .boolean), Cond.methodLink RX7 105 yX9_seat, Cond.instanceMethod yX9_seat, Cond.selects RX9 yX9_seat yX9_seat, Cond.code yX9_seat cX9_seat 3 none]
def wsX7_tell : List Cond := .code yX7_tell cX7_tell 7 (some .boolean) :: ((wsX7_tell_r1 ++ (wsX7_tell_r2 ++ (wsX7_tell_r3 ++ (wsX7_tell_r4 ++ (wsX7_tell_r5 ++ wsX7_tell_r6))))) ++ wsX70 ++ wsX90 ++ wsX40)
def wsX8_init : List Cond := .code yX8_init cX8_init 1 none :: ([.methodLink RX8 3 objectInit, .instanceMethod objectInit, .code objectInit ⟨#[0xb1]⟩ 1 none, .classLink RX8 9 RX9, .instantiable RX9 6, .initialized RX9, .fieldLink RX8 12 "FairWheel$Turns" "wheel" "LFairWheel$Wheel;", .arrayClass .int, .fieldLink RX8 18 "FairWheel$Turns" "timesLowest" "[I", .fieldLink RX8 22 "FairWheel$Turns" "turned" "I", .methodLink RX8 11 yX9_init, .instanceMethod yX9_init, .code yX9_init cX9_init 1 none, .methodLink RX9 3 objectInit, .fieldLink RX9 9 "FairWheel$Wheel" "weights" "[I", .fieldLink RX9 15 "FairWheel$Wheel" "cars" "[I", .fieldLink RX9 18 "FairWheel$Wheel" "riders" "[I", .fieldLink RX9 21 "FairWheel$Wheel" "loads" "[I", .fieldLink RX9 24 "FairWheel$Wheel" "lowest" "I", .fieldLink RX9 28 "FairWheel$Wheel" "friction" "I", .methodLink RX9 31 yJ7_fill_53178, .static yJ7_fill_53178, .initialized RJ7, .code yJ7_fill_53178 cJ7_fill_53178 4 none] ++ wsX90 ++ wsX80)
def wsX8_turned : List Cond := .code yX8_turned cX8_turned 1 (some .int) :: ([.fieldLink RX8 22 "FairWheel$Turns" "turned" "I"] ++ wsX80)
def wsX8_timesLowest : List Cond := .code yX8_timesLowest cX8_timesLowest 2 (some .int) :: ([.fieldLink RX8 18 "FairWheel$Turns" "timesLowest" "[I", .static yX10_at, .initialized RX10, .code yX10_at cX10_at 2 (some .int)] ++ wsX80)
def wsX8_change_r1 : List Cond := [Cond.fieldLink RX8 12 "FairWheel$Turns" "wheel" "LFairWheel$Wheel;", Cond.methodLink RX8 62 yX9_lowest, Cond.instanceMethod yX9_lowest, Cond.selects RX9 yX9_lowest yX9_lowest, Cond.initialized RX9, Cond.code yX9_lowest cX9_lowest 1 (some .int), Cond.fieldLink RX9 24 "FairWheel$Wheel" "lowest" "I", Cond.methodLink RX8 69 yX9_unseat, Cond.instanceMethod yX9_unseat, Cond.selects RX9 yX9_unseat yX9_unseat, Cond.code yX9_unseat cX9_unseat 2 none, Cond.fieldLink RX9 15 "FairWheel$Wheel" "cars" "[I", Cond.fieldLink RX9 18 "FairWheel$Wheel" "riders" "[I", Cond.static yX10_at, Cond.initialized RX10, Cond.code yX10_at cX10_at 2 (some .int), Cond.static yX10_put, Cond.code yX10_put cX10_put 3 none, Cond.methodLink RX8 72 yX9_isTaken, Cond.instanceMethod yX9_isTaken, Cond.selects RX9 yX9_isTaken yX9_isTaken, Cond.code yX9_isTaken cX9_isTaken 1 (some .boolean), Cond.methodLink RX8 76 yX9_isAboard, Cond.instanceMethod yX9_isAboard]
def wsX8_change_r2 : List Cond := [Cond.selects RX9 yX9_isAboard yX9_isAboard, Cond.code yX9_isAboard cX9_isAboard 2 (some .boolean), Cond.methodLink RX8 80 yX9_seat, Cond.instanceMethod yX9_seat, Cond.selects RX9 yX9_seat yX9_seat, Cond.code yX9_seat cX9_seat 3 none]
def wsX8_change : List Cond := .code yX8_change cX8_change 4 none :: ((wsX8_change_r1 ++ wsX8_change_r2) ++ wsX80 ++ wsX90)
def wsX8_take_r1 : List Cond := [Cond.fieldLink RX8 12 "FairWheel$Turns" "wheel" "LFairWheel$Wheel;", Cond.fieldLink RX8 22 "FairWheel$Turns" "turned" "I", Cond.fieldLink RX8 18 "FairWheel$Turns" "timesLowest" "[I", Cond.constant RX8 40 (65537), Cond.methodLink RX8 58 Lib.Math.abs.name, Cond.static Lib.Math.abs.name, Cond.initialized "java/lang/Math", Cond.code Lib.Math.abs.name Lib.Math.abs.code 1 (some .int), Cond.methodLink RX8 30 yX9_copyFrom, Cond.instanceMethod yX9_copyFrom, Cond.selects RX9 yX9_copyFrom yX9_copyFrom, Cond.initialized RX9, Cond.code yX9_copyFrom cX9_copyFrom 2 none, Cond.fieldLink RX9 9 "FairWheel$Wheel" "weights" "[I", Cond.fieldLink RX9 15 "FairWheel$Wheel" "cars" "[I", Cond.fieldLink RX9 18 "FairWheel$Wheel" "riders" "[I", Cond.fieldLink RX9 21 "FairWheel$Wheel" "loads" "[I", Cond.fieldLink RX9 24 "FairWheel$Wheel" "lowest" "I", Cond.fieldLink RX9 28 "FairWheel$Wheel" "friction" "I", Cond.static yX10_copyRow, Cond.initialized RX10, Cond.code yX10_copyRow cX10_copyRow 2 none, Cond.methodLink RX10 257 Lib.Math.min.name, Cond.static Lib.Math.min.name]
def wsX8_take_r2 : List Cond := [Cond.code Lib.Math.min.name Lib.Math.min.code 2 (some .int), Cond.methodLink RX10 262 arraycopyName, Cond.native arraycopyName, Cond.static arraycopyName, Cond.initialized "java/lang/System", Cond.methodLink RX8 34 yJ7_fill_53178, Cond.static yJ7_fill_53178, Cond.initialized RJ7, Cond.code yJ7_fill_53178 cJ7_fill_53178 4 none, Cond.methodLink RX8 41 yJ9_floorMod_7cf53, Cond.static yJ9_floorMod_7cf53, Cond.initialized RJ9, Cond.code yJ9_floorMod_7cf53 cJ9_floorMod_7cf53 3 (some .int), Cond.methodLink RX8 47 yX8_change, Cond.instanceMethod yX8_change, Cond.selects RX8 yX8_change yX8_change, Cond.initialized RX8, Cond.code yX8_change cX8_change 4 none, Cond.methodLink RX8 62 yX9_lowest, Cond.instanceMethod yX9_lowest, Cond.selects RX9 yX9_lowest yX9_lowest, Cond.code yX9_lowest cX9_lowest 1 (some .int), Cond.methodLink RX8 69 yX9_unseat, Cond.instanceMethod yX9_unseat]
def wsX8_take_r3 : List Cond := [Cond.selects RX9 yX9_unseat yX9_unseat, Cond.code yX9_unseat cX9_unseat 2 none, Cond.static yX10_at, Cond.code yX10_at cX10_at 2 (some .int), Cond.static yX10_put, Cond.code yX10_put cX10_put 3 none, Cond.methodLink RX8 72 yX9_isTaken, Cond.instanceMethod yX9_isTaken, Cond.selects RX9 yX9_isTaken yX9_isTaken, Cond.code yX9_isTaken cX9_isTaken 1 (some .boolean), Cond.methodLink RX8 76 yX9_isAboard, Cond.instanceMethod yX9_isAboard, Cond.selects RX9 yX9_isAboard yX9_isAboard, Cond.code yX9_isAboard cX9_isAboard 2 (some .boolean), Cond.methodLink RX8 80 yX9_seat, Cond.instanceMethod yX9_seat, Cond.selects RX9 yX9_seat yX9_seat, Cond.code yX9_seat cX9_seat 3 none, Cond.methodLink RX8 51 yX9_turn, Cond.instanceMethod yX9_turn, Cond.selects RX9 yX9_turn yX9_turn, Cond.code yX9_turn cX9_turn 2 none, Cond.methodLink RX9 49 yJ9_floorMod_7cf53, Cond.methodLink RX8 54 yX9_letGo]
def wsX8_take_r4 : List Cond := [Cond.instanceMethod yX9_letGo, Cond.selects RX9 yX9_letGo yX9_letGo, Cond.code yX9_letGo cX9_letGo 5 (some .int), Cond.methodLink RX9 63 yX9_pullAt, Cond.instanceMethod yX9_pullAt, Cond.selects RX9 yX9_pullAt yX9_pullAt, Cond.code yX9_pullAt cX9_pullAt 6 (some .int), Cond.fieldLink RX9 67 "FairWheel$Wheel" "ARMS" "[I", Cond.methodLink RX9 76 yX9_wayOf, Cond.instanceMethod yX9_wayOf, Cond.selects RX9 yX9_wayOf yX9_wayOf, Cond.code yX9_wayOf cX9_wayOf 2 (some .int), Cond.methodLink RX9 79 yX9_turn]
def wsX8_take : List Cond := .code yX8_take cX8_take 6 none :: ((wsX8_take_r1 ++ (wsX8_take_r2 ++ (wsX8_take_r3 ++ wsX8_take_r4))) ++ wsX80 ++ wsX90)
def wsX9_weightOf : List Cond := .code yX9_weightOf cX9_weightOf 2 (some .int) :: ([.fieldLink RX9 9 "FairWheel$Wheel" "weights" "[I", .static yX10_at, .initialized RX10, .code yX10_at cX10_at 2 (some .int)] ++ wsX90)
def wsX9_setWeight : List Cond := .code yX9_setWeight cX9_setWeight 3 none :: ([.fieldLink RX9 9 "FairWheel$Wheel" "weights" "[I", .static yX10_put, .initialized RX10, .code yX10_put cX10_put 3 none] ++ wsX90)
def wsX9_setFriction : List Cond := .code yX9_setFriction cX9_setFriction 2 none :: ([.fieldLink RX9 28 "FairWheel$Wheel" "friction" "I"] ++ wsX90)
def wsX9_placeOf : List Cond := .code yX9_placeOf cX9_placeOf 2 (some .int) :: ([.fieldLink RX9 24 "FairWheel$Wheel" "lowest" "I", .methodLink RX9 49 yJ9_floorMod_7cf53, .static yJ9_floorMod_7cf53, .initialized RJ9, .code yJ9_floorMod_7cf53 cJ9_floorMod_7cf53 3 (some .int)] ++ wsX90)
def wsX9_takenCars : List Cond := .code yX9_takenCars cX9_takenCars 3 (some .int) :: ([.fieldLink RX9 18 "FairWheel$Wheel" "riders" "[I", .static yX10_at, .initialized RX10, .code yX10_at cX10_at 2 (some .int)] ++ wsX90)
def wsX9_pullNow : List Cond := .code yX9_pullNow cX9_pullNow 1 (some .int) :: ([.fieldLink RX9 24 "FairWheel$Wheel" "lowest" "I", .methodLink RX9 63 yX9_pullAt, .instanceMethod yX9_pullAt, .selects RX9 yX9_pullAt yX9_pullAt, .initialized RX9, .code yX9_pullAt cX9_pullAt 6 (some .int), .fieldLink RX9 18 "FairWheel$Wheel" "riders" "[I", .fieldLink RX9 21 "FairWheel$Wheel" "loads" "[I", .fieldLink RX9 9 "FairWheel$Wheel" "weights" "[I", .fieldLink RX9 67 "FairWheel$Wheel" "ARMS" "[I", .static yX10_at, .initialized RX10, .code yX10_at cX10_at 2 (some .int), .methodLink RX9 49 yJ9_floorMod_7cf53, .static yJ9_floorMod_7cf53, .initialized RJ9, .code yJ9_floorMod_7cf53 cJ9_floorMod_7cf53 3 (some .int)] ++ wsX90)
def wsX10_init_r1 : List Cond := [Cond.methodLink RX10 1 objectInit, Cond.instanceMethod objectInit, Cond.code objectInit ⟨#[0xb1]⟩ 1 none, Cond.classLink RX10 7 RX9, Cond.instantiable RX9 6, Cond.initialized RX9, Cond.fieldLink RX10 10 "FairWheel" "wheel" "LFairWheel$Wheel;", Cond.fieldLink RX10 16 "FairWheel" "trial" "LFairWheel$Wheel;", Cond.classLink RX10 19 RX4, Cond.instantiable RX4 3, Cond.initialized RX4, Cond.fieldLink RX10 22 "FairWheel" "pad" "LFairWheel$Pad;", Cond.classLink RX10 26 RX6, Cond.instantiable RX6 3, Cond.initialized RX6, Cond.fieldLink RX10 29 "FairWheel" "sights" "LFairWheel$Sights;", Cond.classLink RX10 33 RX7, Cond.instantiable RX7 7, Cond.initialized RX7, Cond.fieldLink RX10 36 "FairWheel" "telling" "LFairWheel$Telling;", Cond.classLink RX10 40 RX5, Cond.instantiable RX5 3, Cond.initialized RX5, Cond.fieldLink RX10 43 "FairWheel" "seating" "LFairWheel$Seating;"]
def wsX10_init_r2 : List Cond := [Cond.classLink RX10 47 RX8, Cond.instantiable RX8 3, Cond.initialized RX8, Cond.fieldLink RX10 50 "FairWheel" "turns" "LFairWheel$Turns;", Cond.classLink RX10 54 RX2, Cond.instantiable RX2 3, Cond.initialized RX2, Cond.fieldLink RX10 57 "FairWheel" "firstImage" "LFairWheel$Image;", Cond.fieldLink RX10 61 "FairWheel" "secondImage" "LFairWheel$Image;", Cond.methodLink RX10 9 yX9_init, Cond.instanceMethod yX9_init, Cond.code yX9_init cX9_init 1 none, Cond.methodLink RX9 3 objectInit, Cond.arrayClass .int, Cond.fieldLink RX9 9 "FairWheel$Wheel" "weights" "[I", Cond.fieldLink RX9 15 "FairWheel$Wheel" "cars" "[I", Cond.fieldLink RX9 18 "FairWheel$Wheel" "riders" "[I", Cond.fieldLink RX9 21 "FairWheel$Wheel" "loads" "[I", Cond.fieldLink RX9 24 "FairWheel$Wheel" "lowest" "I", Cond.fieldLink RX9 28 "FairWheel$Wheel" "friction" "I", Cond.methodLink RX9 31 yJ7_fill_53178, Cond.static yJ7_fill_53178, Cond.initialized RJ7, Cond.code yJ7_fill_53178 cJ7_fill_53178 4 none]
def wsX10_init_r3 : List Cond := [Cond.methodLink RX10 21 yX4_init, Cond.instanceMethod yX4_init, Cond.code yX4_init cX4_init 1 none, Cond.methodLink RX4 3 objectInit, Cond.fieldLink RX4 9 "FairWheel$Pad" "signs" "[I", Cond.fieldLink RX4 15 "FairWheel$Pad" "length" "I", Cond.fieldLink RX4 19 "FairWheel$Pad" "asked" "I", Cond.methodLink RX10 28 yX6_init, Cond.instanceMethod yX6_init, Cond.code yX6_init cX6_init 1 none, Cond.methodLink RX6 3 objectInit, Cond.fieldLink RX6 9 "FairWheel$Sights" "people" "[I", Cond.fieldLink RX6 15 "FairWheel$Sights" "cars" "[I", Cond.fieldLink RX6 18 "FairWheel$Sights" "count" "I", Cond.methodLink RX10 35 yX7_init, Cond.instanceMethod yX7_init, Cond.code yX7_init cX7_init 1 none, Cond.methodLink RX7 3 objectInit, Cond.classLink RX7 9 RX9, Cond.fieldLink RX7 12 "FairWheel$Telling" "wheel" "LFairWheel$Wheel;", Cond.fieldLink RX7 18 "FairWheel$Telling" "failedEvent" "I", Cond.fieldLink RX7 22 "FairWheel$Telling" "reason" "I", Cond.fieldLink RX7 25 "FairWheel$Telling" "turned" "I", Cond.fieldLink RX7 28 "FairWheel$Telling" "filling" "I"]
def wsX10_init_r4 : List Cond := [Cond.fieldLink RX7 31 "FairWheel$Telling" "asked" "I", Cond.fieldLink RX7 34 "FairWheel$Telling" "askedBefore" "I", Cond.methodLink RX7 11 yX9_init, Cond.methodLink RX10 42 yX5_init, Cond.instanceMethod yX5_init, Cond.code yX5_init cX5_init 1 none, Cond.methodLink RX5 3 objectInit, Cond.classLink RX5 9 RX9, Cond.fieldLink RX5 12 "FairWheel$Seating" "wheel" "LFairWheel$Wheel;", Cond.fieldLink RX5 18 "FairWheel$Seating" "firstCars" "[I", Cond.fieldLink RX5 22 "FairWheel$Seating" "found" "Z", Cond.methodLink RX5 11 yX9_init, Cond.methodLink RX10 49 yX8_init, Cond.instanceMethod yX8_init, Cond.code yX8_init cX8_init 1 none, Cond.methodLink RX8 3 objectInit, Cond.classLink RX8 9 RX9, Cond.fieldLink RX8 12 "FairWheel$Turns" "wheel" "LFairWheel$Wheel;", Cond.fieldLink RX8 18 "FairWheel$Turns" "timesLowest" "[I", Cond.fieldLink RX8 22 "FairWheel$Turns" "turned" "I", Cond.methodLink RX8 11 yX9_init, Cond.methodLink RX10 56 yX2_init, Cond.instanceMethod yX2_init, Cond.code yX2_init cX2_init 1 none]
def wsX10_init_r5 : List Cond := [Cond.methodLink RX2 1 objectInit, Cond.classLink RX2 7 RX9, Cond.fieldLink RX2 10 "FairWheel$Image" "wheel" "LFairWheel$Wheel;", Cond.classLink RX2 16 RX6, Cond.fieldLink RX2 19 "FairWheel$Image" "sights" "LFairWheel$Sights;", Cond.fieldLink RX2 23 "FairWheel$Image" "kept" "Z", Cond.methodLink RX2 9 yX9_init, Cond.methodLink RX2 18 yX6_init]
def wsX10_init : List Cond := .code yX10_init cX10_init 1 none :: ((wsX10_init_r1 ++ (wsX10_init_r2 ++ (wsX10_init_r3 ++ (wsX10_init_r4 ++ wsX10_init_r5)))) ++ wsX90 ++ wsX100 ++ wsX40 ++ wsX60 ++ wsX70 ++ wsX50 ++ wsX80 ++ wsX20)
def wsX10_weigh : List Cond := .code yX10_weigh cX10_weigh 4 (some .int) :: ([.fieldLink RX10 10 "FairWheel" "wheel" "LFairWheel$Wheel;", .methodLink RX10 64 yX10_isPerson, .static yX10_isPerson, .initialized RX10, .code yX10_isPerson cX10_isPerson 1 (some .boolean), .methodLink RX10 68 yX9_weightOf, .instanceMethod yX9_weightOf, .selects RX9 yX9_weightOf yX9_weightOf, .initialized RX9, .code yX9_weightOf cX9_weightOf 2 (some .int), .fieldLink RX9 9 "FairWheel$Wheel" "weights" "[I", .static yX10_at, .code yX10_at cX10_at 2 (some .int), .methodLink RX10 72 yX9_setWeight, .instanceMethod yX9_setWeight, .selects RX9 yX9_setWeight yX9_setWeight, .code yX9_setWeight cX9_setWeight 3 none, .static yX10_put, .code yX10_put cX10_put 3 none] ++ wsX100 ++ wsX90)
def wsX10_drag : List Cond := .code yX10_drag cX10_drag 3 (some .int) :: ([.fieldLink RX10 10 "FairWheel" "wheel" "LFairWheel$Wheel;", .methodLink RX10 76 yX9_friction, .instanceMethod yX9_friction, .selects RX9 yX9_friction yX9_friction, .initialized RX9, .code yX9_friction cX9_friction 1 (some .int), .fieldLink RX9 28 "FairWheel$Wheel" "friction" "I", .methodLink RX10 80 yX9_setFriction, .instanceMethod yX9_setFriction, .selects RX9 yX9_setFriction yX9_setFriction, .code yX9_setFriction cX9_setFriction 2 none] ++ wsX100 ++ wsX90)
def wsX10_say : List Cond := .code yX10_say cX10_say 2 (some .int) :: ([.fieldLink RX10 22 "FairWheel" "pad" "LFairWheel$Pad;", .methodLink RX10 84 yX4_length, .instanceMethod yX4_length, .selects RX4 yX4_length yX4_length, .initialized RX4, .code yX4_length cX4_length 1 (some .int), .fieldLink RX4 15 "FairWheel$Pad" "length" "I", .methodLink RX10 87 yX4_write, .instanceMethod yX4_write, .selects RX4 yX4_write yX4_write, .code yX4_write cX4_write 2 none, .fieldLink RX4 9 "FairWheel$Pad" "signs" "[I", .fieldLink RX4 19 "FairWheel$Pad" "asked" "I", .static yX10_put, .initialized RX10, .code yX10_put cX10_put 3 none] ++ wsX100 ++ wsX40)
def wsX10_wipe : List Cond := .code yX10_wipe cX10_wipe 2 (some .int) :: ([.fieldLink RX10 22 "FairWheel" "pad" "LFairWheel$Pad;", .methodLink RX10 84 yX4_length, .instanceMethod yX4_length, .selects RX4 yX4_length yX4_length, .initialized RX4, .code yX4_length cX4_length 1 (some .int), .fieldLink RX4 15 "FairWheel$Pad" "length" "I", .methodLink RX10 90 yX4_clear, .instanceMethod yX4_clear, .selects RX4 yX4_clear yX4_clear, .code yX4_clear cX4_clear 1 none, .fieldLink RX4 19 "FairWheel$Pad" "asked" "I"] ++ wsX100 ++ wsX40)
def wsX10_fault_r1 : List Cond := [Cond.fieldLink RX10 22 "FairWheel" "pad" "LFairWheel$Pad;", Cond.methodLink RX10 93 yX4_firstFault, Cond.instanceMethod yX4_firstFault, Cond.selects RX4 yX4_firstFault yX4_firstFault, Cond.initialized RX4, Cond.code yX4_firstFault cX4_firstFault 5 (some .int), Cond.fieldLink RX4 15 "FairWheel$Pad" "length" "I", Cond.methodLink RX4 30 yX4_signAt, Cond.instanceMethod yX4_signAt, Cond.selects RX4 yX4_signAt yX4_signAt, Cond.code yX4_signAt cX4_signAt 2 (some .int), Cond.fieldLink RX4 9 "FairWheel$Pad" "signs" "[I", Cond.static yX10_at, Cond.initialized RX10, Cond.code yX10_at cX10_at 2 (some .int), Cond.methodLink RX4 34 yX4_getsIn, Cond.static yX4_getsIn, Cond.code yX4_getsIn cX4_getsIn 1 (some .boolean), Cond.methodLink RX4 38 yX4_getsOut, Cond.static yX4_getsOut, Cond.code yX4_getsOut cX4_getsOut 1 (some .boolean), Cond.methodLink RX4 41 yX4_isDigit, Cond.static yX4_isDigit, Cond.code yX4_isDigit cX4_isDigit 1 (some .boolean)]
def wsX10_fault_r2 : List Cond := [Cond.methodLink RX4 44 yX4_isMotion, Cond.static yX4_isMotion, Cond.code yX4_isMotion cX4_isMotion 1 (some .boolean)]
def wsX10_fault : List Cond := .code yX10_fault cX10_fault 1 (some .int) :: ((wsX10_fault_r1 ++ wsX10_fault_r2) ++ wsX100 ++ wsX40)
def wsX10_refuseText_r1 : List Cond := [Cond.fieldLink RX10 22 "FairWheel" "pad" "LFairWheel$Pad;", Cond.methodLink RX10 93 yX4_firstFault, Cond.instanceMethod yX4_firstFault, Cond.selects RX4 yX4_firstFault yX4_firstFault, Cond.initialized RX4, Cond.code yX4_firstFault cX4_firstFault 5 (some .int), Cond.fieldLink RX4 15 "FairWheel$Pad" "length" "I", Cond.methodLink RX4 30 yX4_signAt, Cond.instanceMethod yX4_signAt, Cond.selects RX4 yX4_signAt yX4_signAt, Cond.code yX4_signAt cX4_signAt 2 (some .int), Cond.fieldLink RX4 9 "FairWheel$Pad" "signs" "[I", Cond.static yX10_at, Cond.initialized RX10, Cond.code yX10_at cX10_at 2 (some .int), Cond.methodLink RX4 34 yX4_getsIn, Cond.static yX4_getsIn, Cond.code yX4_getsIn cX4_getsIn 1 (some .boolean), Cond.methodLink RX4 38 yX4_getsOut, Cond.static yX4_getsOut, Cond.code yX4_getsOut cX4_getsOut 1 (some .boolean), Cond.methodLink RX4 41 yX4_isDigit, Cond.static yX4_isDigit, Cond.code yX4_isDigit cX4_isDigit 1 (some .boolean)]
def wsX10_refuseText_r2 : List Cond := [Cond.methodLink RX4 44 yX4_isMotion, Cond.static yX4_isMotion, Cond.code yX4_isMotion cX4_isMotion 1 (some .boolean), Cond.methodLink RX10 195 yX4_asked, Cond.instanceMethod yX4_asked, Cond.selects RX4 yX4_asked yX4_asked, Cond.code yX4_asked cX4_asked 1 (some .int), Cond.fieldLink RX4 19 "FairWheel$Pad" "asked" "I"]
def wsX10_refuseText : List Cond := .code yX10_refuseText cX10_refuseText 1 (some .int) :: ((wsX10_refuseText_r1 ++ wsX10_refuseText_r2) ++ wsX100 ++ wsX40)
def wsX10_judge_r1 : List Cond := [Cond.fieldLink RX10 36 "FairWheel" "telling" "LFairWheel$Telling;", Cond.fieldLink RX10 10 "FairWheel" "wheel" "LFairWheel$Wheel;", Cond.fieldLink RX10 22 "FairWheel" "pad" "LFairWheel$Pad;", Cond.methodLink RX10 96 yX10_refuseText, Cond.instanceMethod yX10_refuseText, Cond.selects RX10 yX10_refuseText yX10_refuseText, Cond.initialized RX10, Cond.code yX10_refuseText cX10_refuseText 1 (some .int), Cond.methodLink RX10 93 yX4_firstFault, Cond.instanceMethod yX4_firstFault, Cond.selects RX4 yX4_firstFault yX4_firstFault, Cond.initialized RX4, Cond.code yX4_firstFault cX4_firstFault 5 (some .int), Cond.fieldLink RX4 15 "FairWheel$Pad" "length" "I", Cond.methodLink RX4 30 yX4_signAt, Cond.instanceMethod yX4_signAt, Cond.selects RX4 yX4_signAt yX4_signAt, Cond.code yX4_signAt cX4_signAt 2 (some .int), Cond.fieldLink RX4 9 "FairWheel$Pad" "signs" "[I", Cond.static yX10_at, Cond.code yX10_at cX10_at 2 (some .int), Cond.methodLink RX4 34 yX4_getsIn, Cond.static yX4_getsIn, Cond.code yX4_getsIn cX4_getsIn 1 (some .boolean)]
def wsX10_judge_r2 : List Cond := [Cond.methodLink RX4 38 yX4_getsOut, Cond.static yX4_getsOut, Cond.code yX4_getsOut cX4_getsOut 1 (some .boolean), Cond.methodLink RX4 41 yX4_isDigit, Cond.static yX4_isDigit, Cond.code yX4_isDigit cX4_isDigit 1 (some .boolean), Cond.methodLink RX4 44 yX4_isMotion, Cond.static yX4_isMotion, Cond.code yX4_isMotion cX4_isMotion 1 (some .boolean), Cond.methodLink RX10 195 yX4_asked, Cond.instanceMethod yX4_asked, Cond.selects RX4 yX4_asked yX4_asked, Cond.code yX4_asked cX4_asked 1 (some .int), Cond.fieldLink RX4 19 "FairWheel$Pad" "asked" "I", Cond.methodLink RX10 99 yX7_tell, Cond.instanceMethod yX7_tell, Cond.selects RX7 yX7_tell yX7_tell, Cond.initialized RX7, Cond.code yX7_tell cX7_tell 7 (some .boolean), Cond.fieldLink RX7 12 "FairWheel$Telling" "wheel" "LFairWheel$Wheel;", Cond.fieldLink RX7 18 "FairWheel$Telling" "failedEvent" "I", Cond.fieldLink RX7 22 "FairWheel$Telling" "reason" "I", Cond.fieldLink RX7 25 "FairWheel$Telling" "turned" "I", Cond.fieldLink RX7 28 "FairWheel$Telling" "filling" "I"]
def wsX10_judge_r3 : List Cond := [Cond.fieldLink RX7 31 "FairWheel$Telling" "asked" "I", Cond.fieldLink RX7 34 "FairWheel$Telling" "askedBefore" "I", Cond.methodLink RX7 37 yX9_copyFrom, Cond.instanceMethod yX9_copyFrom, Cond.selects RX9 yX9_copyFrom yX9_copyFrom, Cond.initialized RX9, Cond.code yX9_copyFrom cX9_copyFrom 2 none, Cond.fieldLink RX9 9 "FairWheel$Wheel" "weights" "[I", Cond.fieldLink RX9 15 "FairWheel$Wheel" "cars" "[I", Cond.fieldLink RX9 18 "FairWheel$Wheel" "riders" "[I", Cond.fieldLink RX9 21 "FairWheel$Wheel" "loads" "[I", Cond.fieldLink RX9 24 "FairWheel$Wheel" "lowest" "I", Cond.fieldLink RX9 28 "FairWheel$Wheel" "friction" "I", Cond.static yX10_copyRow, Cond.code yX10_copyRow cX10_copyRow 2 none, Cond.methodLink RX10 257 Lib.Math.min.name, Cond.static Lib.Math.min.name, Cond.initialized "java/lang/Math", Cond.code Lib.Math.min.name Lib.Math.min.code 2 (some .int), Cond.methodLink RX10 262 arraycopyName, Cond.native arraycopyName, Cond.static arraycopyName, Cond.initialized "java/lang/System", Cond.methodLink RX7 41 yX4_asked]
def wsX10_judge_r4 : List Cond := [Cond.methodLink RX7 46 yX4_length, Cond.instanceMethod yX4_length, Cond.selects RX4 yX4_length yX4_length, Cond.code yX4_length cX4_length 1 (some .int), Cond.methodLink RX7 49 yX4_signAt, Cond.methodLink RX7 53 yX7_happen, Cond.instanceMethod yX7_happen, Cond.selects RX7 yX7_happen yX7_happen, Cond.code yX7_happen cX7_happen 3 (some .int), Cond.methodLink RX7 56 yX9_letGo, Cond.instanceMethod yX9_letGo, Cond.selects RX9 yX9_letGo yX9_letGo, Cond.code yX9_letGo cX9_letGo 5 (some .int), Cond.methodLink RX9 63 yX9_pullAt, Cond.instanceMethod yX9_pullAt, Cond.selects RX9 yX9_pullAt yX9_pullAt, Cond.code yX9_pullAt cX9_pullAt 6 (some .int), Cond.fieldLink RX9 67 "FairWheel$Wheel" "ARMS" "[I", Cond.methodLink RX9 49 yJ9_floorMod_7cf53, Cond.static yJ9_floorMod_7cf53, Cond.initialized RJ9, Cond.code yJ9_floorMod_7cf53 cJ9_floorMod_7cf53 3 (some .int), Cond.methodLink RX9 76 yX9_wayOf, Cond.instanceMethod yX9_wayOf]
def wsX10_judge_r5 : List Cond := [Cond.selects RX9 yX9_wayOf yX9_wayOf, Cond.code yX9_wayOf cX9_wayOf 2 (some .int), Cond.methodLink RX9 79 yX9_turn, Cond.instanceMethod yX9_turn, Cond.selects RX9 yX9_turn yX9_turn, Cond.code yX9_turn cX9_turn 2 none, Cond.methodLink RX7 59 yX4_isMotion, Cond.methodLink RX7 63 yX9_turn, Cond.methodLink RX7 67 yX4_isDigit, Cond.methodLink RX7 70 yX7_load, Cond.instanceMethod yX7_load, Cond.selects RX7 yX7_load yX7_load, Cond.code yX7_load cX7_load 4 (some .int), Cond.methodLink RX7 88 yX9_lowest, Cond.instanceMethod yX9_lowest, Cond.selects RX9 yX9_lowest yX9_lowest, Cond.code yX9_lowest cX9_lowest 1 (some .int), Cond.methodLink RX7 91 yX9_loadOf, Cond.instanceMethod yX9_loadOf, Cond.selects RX9 yX9_loadOf yX9_loadOf, Cond.code yX9_loadOf cX9_loadOf 2 (some .int), Cond.methodLink RX7 94 yX9_setLoad, Cond.instanceMethod yX9_setLoad, Cond.selects RX9 yX9_setLoad yX9_setLoad]
def wsX10_judge_r6 : List Cond := [Cond.code yX9_setLoad cX9_setLoad 3 none, Cond.static yX10_put, Cond.code yX10_put cX10_put 3 none, Cond.methodLink RX7 73 yX4_getsOut, Cond.methodLink RX7 76 yX7_letOut, Cond.instanceMethod yX7_letOut, Cond.selects RX7 yX7_letOut yX7_letOut, Cond.code yX7_letOut cX7_letOut 2 (some .int), Cond.methodLink RX7 108 yX9_isLowest, Cond.instanceMethod yX9_isLowest, Cond.selects RX9 yX9_isLowest yX9_isLowest, Cond.code yX9_isLowest cX9_isLowest 2 (some .boolean), Cond.methodLink RX7 111 yX9_unseat, Cond.instanceMethod yX9_unseat, Cond.selects RX9 yX9_unseat yX9_unseat, Cond.code yX9_unseat cX9_unseat 2 none, Cond.methodLink RX7 79 yX1_personAt, Cond.static yX1_personAt, Cond.initialized RX1, Cond.code yX1_personAt cX1_personAt 3 (some .int), Cond.methodLink RX7 85 yX7_letIn, Cond.instanceMethod yX7_letIn, Cond.selects RX7 yX7_letIn yX7_letIn, Cond.code yX7_letIn cX7_letIn 2 (some .int)]
def wsX10_judge_r7 : List Cond := [Cond.methodLink RX7 98 yX9_isAboard, Cond.instanceMethod yX9_isAboard, Cond.selects RX9 yX9_isAboard yX9_isAboard, Cond.code yX9_isAboard cX9_isAboard 2 (some .boolean), Cond.methodLink RX7 101 yX9_isTaken, Cond.instanceMethod yX9_isTaken, Cond.selects RX9 yX9_isTaken yX9_isTaken, Cond.code yX9_isTaken cX9_isTaken 1 (some .boolean), Cond.methodLink RX7 105 yX9_seat, Cond.instanceMethod yX9_seat, Cond.selects RX9 yX9_seat yX9_seat, Cond.code yX9_seat cX9_seat 3 none, Cond.methodLink RX10 103 yX7_failedEvent, Cond.instanceMethod yX7_failedEvent, Cond.selects RX7 yX7_failedEvent yX7_failedEvent, Cond.code yX7_failedEvent cX7_failedEvent 1 (some .int), Cond.methodLink RX10 106 yX7_reason, Cond.instanceMethod yX7_reason, Cond.selects RX7 yX7_reason yX7_reason, Cond.code yX7_reason cX7_reason 1 (some .int)]
def wsX10_judge : List Cond := .code yX10_judge cX10_judge 3 (some .int) :: ((wsX10_judge_r1 ++ (wsX10_judge_r2 ++ (wsX10_judge_r3 ++ (wsX10_judge_r4 ++ (wsX10_judge_r5 ++ (wsX10_judge_r6 ++ wsX10_judge_r7)))))) ++ wsX100 ++ wsX40 ++ wsX70 ++ wsX90)
def wsX10_refuseEvening_r1 : List Cond := [Cond.fieldLink RX10 36 "FairWheel" "telling" "LFairWheel$Telling;", Cond.fieldLink RX10 10 "FairWheel" "wheel" "LFairWheel$Wheel;", Cond.fieldLink RX10 22 "FairWheel" "pad" "LFairWheel$Pad;", Cond.methodLink RX10 96 yX10_refuseText, Cond.instanceMethod yX10_refuseText, Cond.selects RX10 yX10_refuseText yX10_refuseText, Cond.initialized RX10, Cond.code yX10_refuseText cX10_refuseText 1 (some .int), Cond.methodLink RX10 93 yX4_firstFault, Cond.instanceMethod yX4_firstFault, Cond.selects RX4 yX4_firstFault yX4_firstFault, Cond.initialized RX4, Cond.code yX4_firstFault cX4_firstFault 5 (some .int), Cond.fieldLink RX4 15 "FairWheel$Pad" "length" "I", Cond.methodLink RX4 30 yX4_signAt, Cond.instanceMethod yX4_signAt, Cond.selects RX4 yX4_signAt yX4_signAt, Cond.code yX4_signAt cX4_signAt 2 (some .int), Cond.fieldLink RX4 9 "FairWheel$Pad" "signs" "[I", Cond.static yX10_at, Cond.code yX10_at cX10_at 2 (some .int), Cond.methodLink RX4 34 yX4_getsIn, Cond.static yX4_getsIn, Cond.code yX4_getsIn cX4_getsIn 1 (some .boolean)]
def wsX10_refuseEvening_r2 : List Cond := [Cond.methodLink RX4 38 yX4_getsOut, Cond.static yX4_getsOut, Cond.code yX4_getsOut cX4_getsOut 1 (some .boolean), Cond.methodLink RX4 41 yX4_isDigit, Cond.static yX4_isDigit, Cond.code yX4_isDigit cX4_isDigit 1 (some .boolean), Cond.methodLink RX4 44 yX4_isMotion, Cond.static yX4_isMotion, Cond.code yX4_isMotion cX4_isMotion 1 (some .boolean), Cond.methodLink RX10 195 yX4_asked, Cond.instanceMethod yX4_asked, Cond.selects RX4 yX4_asked yX4_asked, Cond.code yX4_asked cX4_asked 1 (some .int), Cond.fieldLink RX4 19 "FairWheel$Pad" "asked" "I", Cond.methodLink RX10 99 yX7_tell, Cond.instanceMethod yX7_tell, Cond.selects RX7 yX7_tell yX7_tell, Cond.initialized RX7, Cond.code yX7_tell cX7_tell 7 (some .boolean), Cond.fieldLink RX7 12 "FairWheel$Telling" "wheel" "LFairWheel$Wheel;", Cond.fieldLink RX7 18 "FairWheel$Telling" "failedEvent" "I", Cond.fieldLink RX7 22 "FairWheel$Telling" "reason" "I", Cond.fieldLink RX7 25 "FairWheel$Telling" "turned" "I", Cond.fieldLink RX7 28 "FairWheel$Telling" "filling" "I"]
def wsX10_refuseEvening_r3 : List Cond := [Cond.fieldLink RX7 31 "FairWheel$Telling" "asked" "I", Cond.fieldLink RX7 34 "FairWheel$Telling" "askedBefore" "I", Cond.methodLink RX7 37 yX9_copyFrom, Cond.instanceMethod yX9_copyFrom, Cond.selects RX9 yX9_copyFrom yX9_copyFrom, Cond.initialized RX9, Cond.code yX9_copyFrom cX9_copyFrom 2 none, Cond.fieldLink RX9 9 "FairWheel$Wheel" "weights" "[I", Cond.fieldLink RX9 15 "FairWheel$Wheel" "cars" "[I", Cond.fieldLink RX9 18 "FairWheel$Wheel" "riders" "[I", Cond.fieldLink RX9 21 "FairWheel$Wheel" "loads" "[I", Cond.fieldLink RX9 24 "FairWheel$Wheel" "lowest" "I", Cond.fieldLink RX9 28 "FairWheel$Wheel" "friction" "I", Cond.static yX10_copyRow, Cond.code yX10_copyRow cX10_copyRow 2 none, Cond.methodLink RX10 257 Lib.Math.min.name, Cond.static Lib.Math.min.name, Cond.initialized "java/lang/Math", Cond.code Lib.Math.min.name Lib.Math.min.code 2 (some .int), Cond.methodLink RX10 262 arraycopyName, Cond.native arraycopyName, Cond.static arraycopyName, Cond.initialized "java/lang/System", Cond.methodLink RX7 41 yX4_asked]
def wsX10_refuseEvening_r4 : List Cond := [Cond.methodLink RX7 46 yX4_length, Cond.instanceMethod yX4_length, Cond.selects RX4 yX4_length yX4_length, Cond.code yX4_length cX4_length 1 (some .int), Cond.methodLink RX7 49 yX4_signAt, Cond.methodLink RX7 53 yX7_happen, Cond.instanceMethod yX7_happen, Cond.selects RX7 yX7_happen yX7_happen, Cond.code yX7_happen cX7_happen 3 (some .int), Cond.methodLink RX7 56 yX9_letGo, Cond.instanceMethod yX9_letGo, Cond.selects RX9 yX9_letGo yX9_letGo, Cond.code yX9_letGo cX9_letGo 5 (some .int), Cond.methodLink RX9 63 yX9_pullAt, Cond.instanceMethod yX9_pullAt, Cond.selects RX9 yX9_pullAt yX9_pullAt, Cond.code yX9_pullAt cX9_pullAt 6 (some .int), Cond.fieldLink RX9 67 "FairWheel$Wheel" "ARMS" "[I", Cond.methodLink RX9 49 yJ9_floorMod_7cf53, Cond.static yJ9_floorMod_7cf53, Cond.initialized RJ9, Cond.code yJ9_floorMod_7cf53 cJ9_floorMod_7cf53 3 (some .int), Cond.methodLink RX9 76 yX9_wayOf, Cond.instanceMethod yX9_wayOf]
def wsX10_refuseEvening_r5 : List Cond := [Cond.selects RX9 yX9_wayOf yX9_wayOf, Cond.code yX9_wayOf cX9_wayOf 2 (some .int), Cond.methodLink RX9 79 yX9_turn, Cond.instanceMethod yX9_turn, Cond.selects RX9 yX9_turn yX9_turn, Cond.code yX9_turn cX9_turn 2 none, Cond.methodLink RX7 59 yX4_isMotion, Cond.methodLink RX7 63 yX9_turn, Cond.methodLink RX7 67 yX4_isDigit, Cond.methodLink RX7 70 yX7_load, Cond.instanceMethod yX7_load, Cond.selects RX7 yX7_load yX7_load, Cond.code yX7_load cX7_load 4 (some .int), Cond.methodLink RX7 88 yX9_lowest, Cond.instanceMethod yX9_lowest, Cond.selects RX9 yX9_lowest yX9_lowest, Cond.code yX9_lowest cX9_lowest 1 (some .int), Cond.methodLink RX7 91 yX9_loadOf, Cond.instanceMethod yX9_loadOf, Cond.selects RX9 yX9_loadOf yX9_loadOf, Cond.code yX9_loadOf cX9_loadOf 2 (some .int), Cond.methodLink RX7 94 yX9_setLoad, Cond.instanceMethod yX9_setLoad, Cond.selects RX9 yX9_setLoad yX9_setLoad]
def wsX10_refuseEvening_r6 : List Cond := [Cond.code yX9_setLoad cX9_setLoad 3 none, Cond.static yX10_put, Cond.code yX10_put cX10_put 3 none, Cond.methodLink RX7 73 yX4_getsOut, Cond.methodLink RX7 76 yX7_letOut, Cond.instanceMethod yX7_letOut, Cond.selects RX7 yX7_letOut yX7_letOut, Cond.code yX7_letOut cX7_letOut 2 (some .int), Cond.methodLink RX7 108 yX9_isLowest, Cond.instanceMethod yX9_isLowest, Cond.selects RX9 yX9_isLowest yX9_isLowest, Cond.code yX9_isLowest cX9_isLowest 2 (some .boolean), Cond.methodLink RX7 111 yX9_unseat, Cond.instanceMethod yX9_unseat, Cond.selects RX9 yX9_unseat yX9_unseat, Cond.code yX9_unseat cX9_unseat 2 none, Cond.methodLink RX7 79 yX1_personAt, Cond.static yX1_personAt, Cond.initialized RX1, Cond.code yX1_personAt cX1_personAt 3 (some .int), Cond.methodLink RX7 85 yX7_letIn, Cond.instanceMethod yX7_letIn, Cond.selects RX7 yX7_letIn yX7_letIn, Cond.code yX7_letIn cX7_letIn 2 (some .int)]
def wsX10_refuseEvening_r7 : List Cond := [Cond.methodLink RX7 98 yX9_isAboard, Cond.instanceMethod yX9_isAboard, Cond.selects RX9 yX9_isAboard yX9_isAboard, Cond.code yX9_isAboard cX9_isAboard 2 (some .boolean), Cond.methodLink RX7 101 yX9_isTaken, Cond.instanceMethod yX9_isTaken, Cond.selects RX9 yX9_isTaken yX9_isTaken, Cond.code yX9_isTaken cX9_isTaken 1 (some .boolean), Cond.methodLink RX7 105 yX9_seat, Cond.instanceMethod yX9_seat, Cond.selects RX9 yX9_seat yX9_seat, Cond.code yX9_seat cX9_seat 3 none]
def wsX10_refuseEvening : List Cond := .code yX10_refuseEvening cX10_refuseEvening 2 (some .int) :: ((wsX10_refuseEvening_r1 ++ (wsX10_refuseEvening_r2 ++ (wsX10_refuseEvening_r3 ++ (wsX10_refuseEvening_r4 ++ (wsX10_refuseEvening_r5 ++ (wsX10_refuseEvening_r6 ++ wsX10_refuseEvening_r7)))))) ++ wsX100 ++ wsX40 ++ wsX70 ++ wsX90)
def wsX10_done_r1 : List Cond := [Cond.fieldLink RX10 10 "FairWheel" "wheel" "LFairWheel$Wheel;", Cond.fieldLink RX10 36 "FairWheel" "telling" "LFairWheel$Telling;", Cond.fieldLink RX10 22 "FairWheel" "pad" "LFairWheel$Pad;", Cond.methodLink RX10 109 yX10_refuseEvening, Cond.instanceMethod yX10_refuseEvening, Cond.selects RX10 yX10_refuseEvening yX10_refuseEvening, Cond.initialized RX10, Cond.code yX10_refuseEvening cX10_refuseEvening 2 (some .int), Cond.methodLink RX10 96 yX10_refuseText, Cond.instanceMethod yX10_refuseText, Cond.selects RX10 yX10_refuseText yX10_refuseText, Cond.code yX10_refuseText cX10_refuseText 1 (some .int), Cond.methodLink RX10 93 yX4_firstFault, Cond.instanceMethod yX4_firstFault, Cond.selects RX4 yX4_firstFault yX4_firstFault, Cond.initialized RX4, Cond.code yX4_firstFault cX4_firstFault 5 (some .int), Cond.fieldLink RX4 15 "FairWheel$Pad" "length" "I", Cond.methodLink RX4 30 yX4_signAt, Cond.instanceMethod yX4_signAt, Cond.selects RX4 yX4_signAt yX4_signAt, Cond.code yX4_signAt cX4_signAt 2 (some .int), Cond.fieldLink RX4 9 "FairWheel$Pad" "signs" "[I", Cond.static yX10_at]
def wsX10_done_r2 : List Cond := [Cond.code yX10_at cX10_at 2 (some .int), Cond.methodLink RX4 34 yX4_getsIn, Cond.static yX4_getsIn, Cond.code yX4_getsIn cX4_getsIn 1 (some .boolean), Cond.methodLink RX4 38 yX4_getsOut, Cond.static yX4_getsOut, Cond.code yX4_getsOut cX4_getsOut 1 (some .boolean), Cond.methodLink RX4 41 yX4_isDigit, Cond.static yX4_isDigit, Cond.code yX4_isDigit cX4_isDigit 1 (some .boolean), Cond.methodLink RX4 44 yX4_isMotion, Cond.static yX4_isMotion, Cond.code yX4_isMotion cX4_isMotion 1 (some .boolean), Cond.methodLink RX10 195 yX4_asked, Cond.instanceMethod yX4_asked, Cond.selects RX4 yX4_asked yX4_asked, Cond.code yX4_asked cX4_asked 1 (some .int), Cond.fieldLink RX4 19 "FairWheel$Pad" "asked" "I", Cond.methodLink RX10 99 yX7_tell, Cond.instanceMethod yX7_tell, Cond.selects RX7 yX7_tell yX7_tell, Cond.initialized RX7, Cond.code yX7_tell cX7_tell 7 (some .boolean), Cond.fieldLink RX7 12 "FairWheel$Telling" "wheel" "LFairWheel$Wheel;"]
def wsX10_done_r3 : List Cond := [Cond.fieldLink RX7 18 "FairWheel$Telling" "failedEvent" "I", Cond.fieldLink RX7 22 "FairWheel$Telling" "reason" "I", Cond.fieldLink RX7 25 "FairWheel$Telling" "turned" "I", Cond.fieldLink RX7 28 "FairWheel$Telling" "filling" "I", Cond.fieldLink RX7 31 "FairWheel$Telling" "asked" "I", Cond.fieldLink RX7 34 "FairWheel$Telling" "askedBefore" "I", Cond.methodLink RX7 37 yX9_copyFrom, Cond.instanceMethod yX9_copyFrom, Cond.selects RX9 yX9_copyFrom yX9_copyFrom, Cond.initialized RX9, Cond.code yX9_copyFrom cX9_copyFrom 2 none, Cond.fieldLink RX9 9 "FairWheel$Wheel" "weights" "[I", Cond.fieldLink RX9 15 "FairWheel$Wheel" "cars" "[I", Cond.fieldLink RX9 18 "FairWheel$Wheel" "riders" "[I", Cond.fieldLink RX9 21 "FairWheel$Wheel" "loads" "[I", Cond.fieldLink RX9 24 "FairWheel$Wheel" "lowest" "I", Cond.fieldLink RX9 28 "FairWheel$Wheel" "friction" "I", Cond.static yX10_copyRow, Cond.code yX10_copyRow cX10_copyRow 2 none, Cond.methodLink RX10 257 Lib.Math.min.name, Cond.static Lib.Math.min.name, Cond.initialized "java/lang/Math", Cond.code Lib.Math.min.name Lib.Math.min.code 2 (some .int), Cond.methodLink RX10 262 arraycopyName]
def wsX10_done_r4 : List Cond := [Cond.native arraycopyName, Cond.static arraycopyName, Cond.initialized "java/lang/System", Cond.methodLink RX7 41 yX4_asked, Cond.methodLink RX7 46 yX4_length, Cond.instanceMethod yX4_length, Cond.selects RX4 yX4_length yX4_length, Cond.code yX4_length cX4_length 1 (some .int), Cond.methodLink RX7 49 yX4_signAt, Cond.methodLink RX7 53 yX7_happen, Cond.instanceMethod yX7_happen, Cond.selects RX7 yX7_happen yX7_happen, Cond.code yX7_happen cX7_happen 3 (some .int), Cond.methodLink RX7 56 yX9_letGo, Cond.instanceMethod yX9_letGo, Cond.selects RX9 yX9_letGo yX9_letGo, Cond.code yX9_letGo cX9_letGo 5 (some .int), Cond.methodLink RX9 63 yX9_pullAt, Cond.instanceMethod yX9_pullAt, Cond.selects RX9 yX9_pullAt yX9_pullAt, Cond.code yX9_pullAt cX9_pullAt 6 (some .int), Cond.fieldLink RX9 67 "FairWheel$Wheel" "ARMS" "[I", Cond.methodLink RX9 49 yJ9_floorMod_7cf53, Cond.static yJ9_floorMod_7cf53]
def wsX10_done_r5 : List Cond := [Cond.initialized RJ9, Cond.code yJ9_floorMod_7cf53 cJ9_floorMod_7cf53 3 (some .int), Cond.methodLink RX9 76 yX9_wayOf, Cond.instanceMethod yX9_wayOf, Cond.selects RX9 yX9_wayOf yX9_wayOf, Cond.code yX9_wayOf cX9_wayOf 2 (some .int), Cond.methodLink RX9 79 yX9_turn, Cond.instanceMethod yX9_turn, Cond.selects RX9 yX9_turn yX9_turn, Cond.code yX9_turn cX9_turn 2 none, Cond.methodLink RX7 59 yX4_isMotion, Cond.methodLink RX7 63 yX9_turn, Cond.methodLink RX7 67 yX4_isDigit, Cond.methodLink RX7 70 yX7_load, Cond.instanceMethod yX7_load, Cond.selects RX7 yX7_load yX7_load, Cond.code yX7_load cX7_load 4 (some .int), Cond.methodLink RX7 88 yX9_lowest, Cond.instanceMethod yX9_lowest, Cond.selects RX9 yX9_lowest yX9_lowest, Cond.code yX9_lowest cX9_lowest 1 (some .int), Cond.methodLink RX7 91 yX9_loadOf, Cond.instanceMethod yX9_loadOf, Cond.selects RX9 yX9_loadOf yX9_loadOf]
def wsX10_done_r6 : List Cond := [Cond.code yX9_loadOf cX9_loadOf 2 (some .int), Cond.methodLink RX7 94 yX9_setLoad, Cond.instanceMethod yX9_setLoad, Cond.selects RX9 yX9_setLoad yX9_setLoad, Cond.code yX9_setLoad cX9_setLoad 3 none, Cond.static yX10_put, Cond.code yX10_put cX10_put 3 none, Cond.methodLink RX7 73 yX4_getsOut, Cond.methodLink RX7 76 yX7_letOut, Cond.instanceMethod yX7_letOut, Cond.selects RX7 yX7_letOut yX7_letOut, Cond.code yX7_letOut cX7_letOut 2 (some .int), Cond.methodLink RX7 108 yX9_isLowest, Cond.instanceMethod yX9_isLowest, Cond.selects RX9 yX9_isLowest yX9_isLowest, Cond.code yX9_isLowest cX9_isLowest 2 (some .boolean), Cond.methodLink RX7 111 yX9_unseat, Cond.instanceMethod yX9_unseat, Cond.selects RX9 yX9_unseat yX9_unseat, Cond.code yX9_unseat cX9_unseat 2 none, Cond.methodLink RX7 79 yX1_personAt, Cond.static yX1_personAt, Cond.initialized RX1, Cond.code yX1_personAt cX1_personAt 3 (some .int)]
def wsX10_done_r7 : List Cond := [Cond.methodLink RX7 85 yX7_letIn, Cond.instanceMethod yX7_letIn, Cond.selects RX7 yX7_letIn yX7_letIn, Cond.code yX7_letIn cX7_letIn 2 (some .int), Cond.methodLink RX7 98 yX9_isAboard, Cond.instanceMethod yX9_isAboard, Cond.selects RX9 yX9_isAboard yX9_isAboard, Cond.code yX9_isAboard cX9_isAboard 2 (some .boolean), Cond.methodLink RX7 101 yX9_isTaken, Cond.instanceMethod yX9_isTaken, Cond.selects RX9 yX9_isTaken yX9_isTaken, Cond.code yX9_isTaken cX9_isTaken 1 (some .boolean), Cond.methodLink RX7 105 yX9_seat, Cond.instanceMethod yX9_seat, Cond.selects RX9 yX9_seat yX9_seat, Cond.code yX9_seat cX9_seat 3 none, Cond.methodLink RX10 112 yX7_wheel, Cond.instanceMethod yX7_wheel, Cond.selects RX7 yX7_wheel yX7_wheel, Cond.code yX7_wheel cX7_wheel 1 (some (.object "FairWheel$Wheel")), Cond.methodLink RX10 115 yX9_copyFrom, Cond.methodLink RX10 84 yX4_length, Cond.methodLink RX10 90 yX4_clear, Cond.instanceMethod yX4_clear]
def wsX10_done_r8 : List Cond := [Cond.selects RX4 yX4_clear yX4_clear, Cond.code yX4_clear cX4_clear 1 none]
def wsX10_done : List Cond := .code yX10_done cX10_done 3 (some .int) :: ((wsX10_done_r1 ++ (wsX10_done_r2 ++ (wsX10_done_r3 ++ (wsX10_done_r4 ++ (wsX10_done_r5 ++ (wsX10_done_r6 ++ (wsX10_done_r7 ++ wsX10_done_r8))))))) ++ wsX100 ++ wsX40 ++ wsX70 ++ wsX90)
def wsX10_foot : List Cond := .code yX10_foot cX10_foot 1 (some .int) :: ([.fieldLink RX10 10 "FairWheel" "wheel" "LFairWheel$Wheel;", .methodLink RX10 119 yX9_lowest, .instanceMethod yX9_lowest, .selects RX9 yX9_lowest yX9_lowest, .initialized RX9, .code yX9_lowest cX9_lowest 1 (some .int), .fieldLink RX9 24 "FairWheel$Wheel" "lowest" "I"] ++ wsX100 ++ wsX90)
def wsX10_isCar : List Cond := .code yX10_isCar cX10_isCar 1 (some .boolean) :: ([])
def wsX10_car_r1 : List Cond := [Cond.fieldLink RX10 10 "FairWheel" "wheel" "LFairWheel$Wheel;", Cond.methodLink RX10 122 yX10_isCar, Cond.static yX10_isCar, Cond.initialized RX10, Cond.code yX10_isCar cX10_isCar 1 (some .boolean), Cond.methodLink RX10 125 yX9_riderOf, Cond.instanceMethod yX9_riderOf, Cond.selects RX9 yX9_riderOf yX9_riderOf, Cond.initialized RX9, Cond.code yX9_riderOf cX9_riderOf 2 (some .int), Cond.fieldLink RX9 18 "FairWheel$Wheel" "riders" "[I", Cond.static yX10_at, Cond.code yX10_at cX10_at 2 (some .int), Cond.methodLink RX10 128 yX9_loadOf, Cond.instanceMethod yX9_loadOf, Cond.selects RX9 yX9_loadOf yX9_loadOf, Cond.code yX9_loadOf cX9_loadOf 2 (some .int), Cond.fieldLink RX9 21 "FairWheel$Wheel" "loads" "[I", Cond.methodLink RX10 131 yX9_placeOf, Cond.instanceMethod yX9_placeOf, Cond.selects RX9 yX9_placeOf yX9_placeOf, Cond.code yX9_placeOf cX9_placeOf 2 (some .int), Cond.fieldLink RX9 24 "FairWheel$Wheel" "lowest" "I", Cond.methodLink RX9 49 yJ9_floorMod_7cf53]
def wsX10_car_r2 : List Cond := [Cond.static yJ9_floorMod_7cf53, Cond.initialized RJ9, Cond.code yJ9_floorMod_7cf53 cJ9_floorMod_7cf53 3 (some .int)]
def wsX10_car : List Cond := .code yX10_car cX10_car 3 (some .int) :: ((wsX10_car_r1 ++ wsX10_car_r2) ++ wsX100 ++ wsX90)
def wsX10_pull : List Cond := .code yX10_pull cX10_pull 1 (some .int) :: ([.fieldLink RX10 10 "FairWheel" "wheel" "LFairWheel$Wheel;", .constant RX10 137 (1000000), .methodLink RX10 134 yX9_pullNow, .instanceMethod yX9_pullNow, .selects RX9 yX9_pullNow yX9_pullNow, .initialized RX9, .code yX9_pullNow cX9_pullNow 1 (some .int), .fieldLink RX9 24 "FairWheel$Wheel" "lowest" "I", .methodLink RX9 63 yX9_pullAt, .instanceMethod yX9_pullAt, .selects RX9 yX9_pullAt yX9_pullAt, .code yX9_pullAt cX9_pullAt 6 (some .int), .fieldLink RX9 18 "FairWheel$Wheel" "riders" "[I", .fieldLink RX9 21 "FairWheel$Wheel" "loads" "[I", .fieldLink RX9 9 "FairWheel$Wheel" "weights" "[I", .fieldLink RX9 67 "FairWheel$Wheel" "ARMS" "[I", .static yX10_at, .initialized RX10, .code yX10_at cX10_at 2 (some .int), .methodLink RX9 49 yJ9_floorMod_7cf53, .static yJ9_floorMod_7cf53, .initialized RJ9, .code yJ9_floorMod_7cf53 cJ9_floorMod_7cf53 3 (some .int)] ++ wsX100 ++ wsX90)
def wsX10_behind_r1 : List Cond := [Cond.fieldLink RX10 36 "FairWheel" "telling" "LFairWheel$Telling;", Cond.constant RX10 137 (1000000), Cond.methodLink RX10 109 yX10_refuseEvening, Cond.instanceMethod yX10_refuseEvening, Cond.selects RX10 yX10_refuseEvening yX10_refuseEvening, Cond.initialized RX10, Cond.code yX10_refuseEvening cX10_refuseEvening 2 (some .int), Cond.fieldLink RX10 10 "FairWheel" "wheel" "LFairWheel$Wheel;", Cond.fieldLink RX10 22 "FairWheel" "pad" "LFairWheel$Pad;", Cond.methodLink RX10 96 yX10_refuseText, Cond.instanceMethod yX10_refuseText, Cond.selects RX10 yX10_refuseText yX10_refuseText, Cond.code yX10_refuseText cX10_refuseText 1 (some .int), Cond.methodLink RX10 93 yX4_firstFault, Cond.instanceMethod yX4_firstFault, Cond.selects RX4 yX4_firstFault yX4_firstFault, Cond.initialized RX4, Cond.code yX4_firstFault cX4_firstFault 5 (some .int), Cond.fieldLink RX4 15 "FairWheel$Pad" "length" "I", Cond.methodLink RX4 30 yX4_signAt, Cond.instanceMethod yX4_signAt, Cond.selects RX4 yX4_signAt yX4_signAt, Cond.code yX4_signAt cX4_signAt 2 (some .int), Cond.fieldLink RX4 9 "FairWheel$Pad" "signs" "[I"]
def wsX10_behind_r2 : List Cond := [Cond.static yX10_at, Cond.code yX10_at cX10_at 2 (some .int), Cond.methodLink RX4 34 yX4_getsIn, Cond.static yX4_getsIn, Cond.code yX4_getsIn cX4_getsIn 1 (some .boolean), Cond.methodLink RX4 38 yX4_getsOut, Cond.static yX4_getsOut, Cond.code yX4_getsOut cX4_getsOut 1 (some .boolean), Cond.methodLink RX4 41 yX4_isDigit, Cond.static yX4_isDigit, Cond.code yX4_isDigit cX4_isDigit 1 (some .boolean), Cond.methodLink RX4 44 yX4_isMotion, Cond.static yX4_isMotion, Cond.code yX4_isMotion cX4_isMotion 1 (some .boolean), Cond.methodLink RX10 195 yX4_asked, Cond.instanceMethod yX4_asked, Cond.selects RX4 yX4_asked yX4_asked, Cond.code yX4_asked cX4_asked 1 (some .int), Cond.fieldLink RX4 19 "FairWheel$Pad" "asked" "I", Cond.methodLink RX10 99 yX7_tell, Cond.instanceMethod yX7_tell, Cond.selects RX7 yX7_tell yX7_tell, Cond.initialized RX7, Cond.code yX7_tell cX7_tell 7 (some .boolean)]
def wsX10_behind_r3 : List Cond := [Cond.fieldLink RX7 12 "FairWheel$Telling" "wheel" "LFairWheel$Wheel;", Cond.fieldLink RX7 18 "FairWheel$Telling" "failedEvent" "I", Cond.fieldLink RX7 22 "FairWheel$Telling" "reason" "I", Cond.fieldLink RX7 25 "FairWheel$Telling" "turned" "I", Cond.fieldLink RX7 28 "FairWheel$Telling" "filling" "I", Cond.fieldLink RX7 31 "FairWheel$Telling" "asked" "I", Cond.fieldLink RX7 34 "FairWheel$Telling" "askedBefore" "I", Cond.methodLink RX7 37 yX9_copyFrom, Cond.instanceMethod yX9_copyFrom, Cond.selects RX9 yX9_copyFrom yX9_copyFrom, Cond.initialized RX9, Cond.code yX9_copyFrom cX9_copyFrom 2 none, Cond.fieldLink RX9 9 "FairWheel$Wheel" "weights" "[I", Cond.fieldLink RX9 15 "FairWheel$Wheel" "cars" "[I", Cond.fieldLink RX9 18 "FairWheel$Wheel" "riders" "[I", Cond.fieldLink RX9 21 "FairWheel$Wheel" "loads" "[I", Cond.fieldLink RX9 24 "FairWheel$Wheel" "lowest" "I", Cond.fieldLink RX9 28 "FairWheel$Wheel" "friction" "I", Cond.static yX10_copyRow, Cond.code yX10_copyRow cX10_copyRow 2 none, Cond.methodLink RX10 257 Lib.Math.min.name, Cond.static Lib.Math.min.name, Cond.initialized "java/lang/Math", Cond.code Lib.Math.min.name Lib.Math.min.code 2 (some .int)]
def wsX10_behind_r4 : List Cond := [Cond.methodLink RX10 262 arraycopyName, Cond.native arraycopyName, Cond.static arraycopyName, Cond.initialized "java/lang/System", Cond.methodLink RX7 41 yX4_asked, Cond.methodLink RX7 46 yX4_length, Cond.instanceMethod yX4_length, Cond.selects RX4 yX4_length yX4_length, Cond.code yX4_length cX4_length 1 (some .int), Cond.methodLink RX7 49 yX4_signAt, Cond.methodLink RX7 53 yX7_happen, Cond.instanceMethod yX7_happen, Cond.selects RX7 yX7_happen yX7_happen, Cond.code yX7_happen cX7_happen 3 (some .int), Cond.methodLink RX7 56 yX9_letGo, Cond.instanceMethod yX9_letGo, Cond.selects RX9 yX9_letGo yX9_letGo, Cond.code yX9_letGo cX9_letGo 5 (some .int), Cond.methodLink RX9 63 yX9_pullAt, Cond.instanceMethod yX9_pullAt, Cond.selects RX9 yX9_pullAt yX9_pullAt, Cond.code yX9_pullAt cX9_pullAt 6 (some .int), Cond.fieldLink RX9 67 "FairWheel$Wheel" "ARMS" "[I", Cond.methodLink RX9 49 yJ9_floorMod_7cf53]
def wsX10_behind_r5 : List Cond := [Cond.static yJ9_floorMod_7cf53, Cond.initialized RJ9, Cond.code yJ9_floorMod_7cf53 cJ9_floorMod_7cf53 3 (some .int), Cond.methodLink RX9 76 yX9_wayOf, Cond.instanceMethod yX9_wayOf, Cond.selects RX9 yX9_wayOf yX9_wayOf, Cond.code yX9_wayOf cX9_wayOf 2 (some .int), Cond.methodLink RX9 79 yX9_turn, Cond.instanceMethod yX9_turn, Cond.selects RX9 yX9_turn yX9_turn, Cond.code yX9_turn cX9_turn 2 none, Cond.methodLink RX7 59 yX4_isMotion, Cond.methodLink RX7 63 yX9_turn, Cond.methodLink RX7 67 yX4_isDigit, Cond.methodLink RX7 70 yX7_load, Cond.instanceMethod yX7_load, Cond.selects RX7 yX7_load yX7_load, Cond.code yX7_load cX7_load 4 (some .int), Cond.methodLink RX7 88 yX9_lowest, Cond.instanceMethod yX9_lowest, Cond.selects RX9 yX9_lowest yX9_lowest, Cond.code yX9_lowest cX9_lowest 1 (some .int), Cond.methodLink RX7 91 yX9_loadOf, Cond.instanceMethod yX9_loadOf]
def wsX10_behind_r6 : List Cond := [Cond.selects RX9 yX9_loadOf yX9_loadOf, Cond.code yX9_loadOf cX9_loadOf 2 (some .int), Cond.methodLink RX7 94 yX9_setLoad, Cond.instanceMethod yX9_setLoad, Cond.selects RX9 yX9_setLoad yX9_setLoad, Cond.code yX9_setLoad cX9_setLoad 3 none, Cond.static yX10_put, Cond.code yX10_put cX10_put 3 none, Cond.methodLink RX7 73 yX4_getsOut, Cond.methodLink RX7 76 yX7_letOut, Cond.instanceMethod yX7_letOut, Cond.selects RX7 yX7_letOut yX7_letOut, Cond.code yX7_letOut cX7_letOut 2 (some .int), Cond.methodLink RX7 108 yX9_isLowest, Cond.instanceMethod yX9_isLowest, Cond.selects RX9 yX9_isLowest yX9_isLowest, Cond.code yX9_isLowest cX9_isLowest 2 (some .boolean), Cond.methodLink RX7 111 yX9_unseat, Cond.instanceMethod yX9_unseat, Cond.selects RX9 yX9_unseat yX9_unseat, Cond.code yX9_unseat cX9_unseat 2 none, Cond.methodLink RX7 79 yX1_personAt, Cond.static yX1_personAt, Cond.initialized RX1]
def wsX10_behind_r7 : List Cond := [Cond.code yX1_personAt cX1_personAt 3 (some .int), Cond.methodLink RX7 85 yX7_letIn, Cond.instanceMethod yX7_letIn, Cond.selects RX7 yX7_letIn yX7_letIn, Cond.code yX7_letIn cX7_letIn 2 (some .int), Cond.methodLink RX7 98 yX9_isAboard, Cond.instanceMethod yX9_isAboard, Cond.selects RX9 yX9_isAboard yX9_isAboard, Cond.code yX9_isAboard cX9_isAboard 2 (some .boolean), Cond.methodLink RX7 101 yX9_isTaken, Cond.instanceMethod yX9_isTaken, Cond.selects RX9 yX9_isTaken yX9_isTaken, Cond.code yX9_isTaken cX9_isTaken 1 (some .boolean), Cond.methodLink RX7 105 yX9_seat, Cond.instanceMethod yX9_seat, Cond.selects RX9 yX9_seat yX9_seat, Cond.code yX9_seat cX9_seat 3 none, Cond.methodLink RX10 112 yX7_wheel, Cond.instanceMethod yX7_wheel, Cond.selects RX7 yX7_wheel yX7_wheel, Cond.code yX7_wheel cX7_wheel 1 (some (.object "FairWheel$Wheel")), Cond.methodLink RX10 119 yX9_lowest, Cond.methodLink RX10 134 yX9_pullNow, Cond.instanceMethod yX9_pullNow]
def wsX10_behind_r8 : List Cond := [Cond.selects RX9 yX9_pullNow yX9_pullNow, Cond.code yX9_pullNow cX9_pullNow 1 (some .int), Cond.methodLink RX10 138 yX7_turned, Cond.instanceMethod yX7_turned, Cond.selects RX7 yX7_turned yX7_turned, Cond.code yX7_turned cX7_turned 1 (some .int)]
def wsX10_behind : List Cond := .code yX10_behind cX10_behind 3 (some .int) :: ((wsX10_behind_r1 ++ (wsX10_behind_r2 ++ (wsX10_behind_r3 ++ (wsX10_behind_r4 ++ (wsX10_behind_r5 ++ (wsX10_behind_r6 ++ (wsX10_behind_r7 ++ wsX10_behind_r8))))))) ++ wsX100 ++ wsX40 ++ wsX70 ++ wsX90)
def wsX10_canBeLeftOut_r1 : List Cond := [Cond.fieldLink RX10 22 "FairWheel" "pad" "LFairWheel$Pad;", Cond.fieldLink RX10 36 "FairWheel" "telling" "LFairWheel$Telling;", Cond.fieldLink RX10 10 "FairWheel" "wheel" "LFairWheel$Wheel;", Cond.methodLink RX10 268 yX4_signAt, Cond.instanceMethod yX4_signAt, Cond.selects RX4 yX4_signAt yX4_signAt, Cond.initialized RX4, Cond.code yX4_signAt cX4_signAt 2 (some .int), Cond.fieldLink RX4 9 "FairWheel$Pad" "signs" "[I", Cond.static yX10_at, Cond.initialized RX10, Cond.code yX10_at cX10_at 2 (some .int), Cond.methodLink RX10 271 yX4_isMotion, Cond.static yX4_isMotion, Cond.code yX4_isMotion cX4_isMotion 1 (some .boolean), Cond.methodLink RX10 99 yX7_tell, Cond.instanceMethod yX7_tell, Cond.selects RX7 yX7_tell yX7_tell, Cond.initialized RX7, Cond.code yX7_tell cX7_tell 7 (some .boolean), Cond.fieldLink RX7 12 "FairWheel$Telling" "wheel" "LFairWheel$Wheel;", Cond.fieldLink RX7 18 "FairWheel$Telling" "failedEvent" "I", Cond.fieldLink RX7 22 "FairWheel$Telling" "reason" "I", Cond.fieldLink RX7 25 "FairWheel$Telling" "turned" "I"]
def wsX10_canBeLeftOut_r2 : List Cond := [Cond.fieldLink RX7 28 "FairWheel$Telling" "filling" "I", Cond.fieldLink RX7 31 "FairWheel$Telling" "asked" "I", Cond.fieldLink RX7 34 "FairWheel$Telling" "askedBefore" "I", Cond.methodLink RX7 37 yX9_copyFrom, Cond.instanceMethod yX9_copyFrom, Cond.selects RX9 yX9_copyFrom yX9_copyFrom, Cond.initialized RX9, Cond.code yX9_copyFrom cX9_copyFrom 2 none, Cond.fieldLink RX9 9 "FairWheel$Wheel" "weights" "[I", Cond.fieldLink RX9 15 "FairWheel$Wheel" "cars" "[I", Cond.fieldLink RX9 18 "FairWheel$Wheel" "riders" "[I", Cond.fieldLink RX9 21 "FairWheel$Wheel" "loads" "[I", Cond.fieldLink RX9 24 "FairWheel$Wheel" "lowest" "I", Cond.fieldLink RX9 28 "FairWheel$Wheel" "friction" "I", Cond.static yX10_copyRow, Cond.code yX10_copyRow cX10_copyRow 2 none, Cond.methodLink RX10 257 Lib.Math.min.name, Cond.static Lib.Math.min.name, Cond.initialized "java/lang/Math", Cond.code Lib.Math.min.name Lib.Math.min.code 2 (some .int), Cond.methodLink RX10 262 arraycopyName, Cond.native arraycopyName, Cond.static arraycopyName, Cond.initialized "java/lang/System"]
def wsX10_canBeLeftOut_r3 : List Cond := [Cond.methodLink RX7 41 yX4_asked, Cond.instanceMethod yX4_asked, Cond.selects RX4 yX4_asked yX4_asked, Cond.code yX4_asked cX4_asked 1 (some .int), Cond.fieldLink RX4 19 "FairWheel$Pad" "asked" "I", Cond.methodLink RX7 46 yX4_length, Cond.instanceMethod yX4_length, Cond.selects RX4 yX4_length yX4_length, Cond.code yX4_length cX4_length 1 (some .int), Cond.fieldLink RX4 15 "FairWheel$Pad" "length" "I", Cond.methodLink RX7 49 yX4_signAt, Cond.methodLink RX7 53 yX7_happen, Cond.instanceMethod yX7_happen, Cond.selects RX7 yX7_happen yX7_happen, Cond.code yX7_happen cX7_happen 3 (some .int), Cond.methodLink RX7 56 yX9_letGo, Cond.instanceMethod yX9_letGo, Cond.selects RX9 yX9_letGo yX9_letGo, Cond.code yX9_letGo cX9_letGo 5 (some .int), Cond.methodLink RX9 63 yX9_pullAt, Cond.instanceMethod yX9_pullAt, Cond.selects RX9 yX9_pullAt yX9_pullAt, Cond.code yX9_pullAt cX9_pullAt 6 (some .int), Cond.fieldLink RX9 67 "FairWheel$Wheel" "ARMS" "[I"]
def wsX10_canBeLeftOut_r4 : List Cond := [Cond.methodLink RX9 49 yJ9_floorMod_7cf53, Cond.static yJ9_floorMod_7cf53, Cond.initialized RJ9, Cond.code yJ9_floorMod_7cf53 cJ9_floorMod_7cf53 3 (some .int), Cond.methodLink RX9 76 yX9_wayOf, Cond.instanceMethod yX9_wayOf, Cond.selects RX9 yX9_wayOf yX9_wayOf, Cond.code yX9_wayOf cX9_wayOf 2 (some .int), Cond.methodLink RX9 79 yX9_turn, Cond.instanceMethod yX9_turn, Cond.selects RX9 yX9_turn yX9_turn, Cond.code yX9_turn cX9_turn 2 none, Cond.methodLink RX7 59 yX4_isMotion, Cond.methodLink RX7 63 yX9_turn, Cond.methodLink RX7 67 yX4_isDigit, Cond.static yX4_isDigit, Cond.code yX4_isDigit cX4_isDigit 1 (some .boolean), Cond.methodLink RX7 70 yX7_load, Cond.instanceMethod yX7_load, Cond.selects RX7 yX7_load yX7_load, Cond.code yX7_load cX7_load 4 (some .int), Cond.methodLink RX7 88 yX9_lowest, Cond.instanceMethod yX9_lowest, Cond.selects RX9 yX9_lowest yX9_lowest]
def wsX10_canBeLeftOut_r5 : List Cond := [Cond.code yX9_lowest cX9_lowest 1 (some .int), Cond.methodLink RX7 91 yX9_loadOf, Cond.instanceMethod yX9_loadOf, Cond.selects RX9 yX9_loadOf yX9_loadOf, Cond.code yX9_loadOf cX9_loadOf 2 (some .int), Cond.methodLink RX7 94 yX9_setLoad, Cond.instanceMethod yX9_setLoad, Cond.selects RX9 yX9_setLoad yX9_setLoad, Cond.code yX9_setLoad cX9_setLoad 3 none, Cond.static yX10_put, Cond.code yX10_put cX10_put 3 none, Cond.methodLink RX7 73 yX4_getsOut, Cond.static yX4_getsOut, Cond.code yX4_getsOut cX4_getsOut 1 (some .boolean), Cond.methodLink RX7 76 yX7_letOut, Cond.instanceMethod yX7_letOut, Cond.selects RX7 yX7_letOut yX7_letOut, Cond.code yX7_letOut cX7_letOut 2 (some .int), Cond.methodLink RX7 108 yX9_isLowest, Cond.instanceMethod yX9_isLowest, Cond.selects RX9 yX9_isLowest yX9_isLowest, Cond.code yX9_isLowest cX9_isLowest 2 (some .boolean), Cond.methodLink RX7 111 yX9_unseat, Cond.instanceMethod yX9_unseat]
def wsX10_canBeLeftOut_r6 : List Cond := [Cond.selects RX9 yX9_unseat yX9_unseat, Cond.code yX9_unseat cX9_unseat 2 none, Cond.methodLink RX7 79 yX1_personAt, Cond.static yX1_personAt, Cond.initialized RX1, Cond.code yX1_personAt cX1_personAt 3 (some .int), Cond.methodLink RX7 85 yX7_letIn, Cond.instanceMethod yX7_letIn, Cond.selects RX7 yX7_letIn yX7_letIn, Cond.code yX7_letIn cX7_letIn 2 (some .int), Cond.methodLink RX7 98 yX9_isAboard, Cond.instanceMethod yX9_isAboard, Cond.selects RX9 yX9_isAboard yX9_isAboard, Cond.code yX9_isAboard cX9_isAboard 2 (some .boolean), Cond.methodLink RX7 101 yX9_isTaken, Cond.instanceMethod yX9_isTaken, Cond.selects RX9 yX9_isTaken yX9_isTaken, Cond.code yX9_isTaken cX9_isTaken 1 (some .boolean), Cond.methodLink RX7 105 yX9_seat, Cond.instanceMethod yX9_seat, Cond.selects RX9 yX9_seat yX9_seat, Cond.code yX9_seat cX9_seat 3 none, Cond.methodLink RX10 112 yX7_wheel, Cond.instanceMethod yX7_wheel]
def wsX10_canBeLeftOut_r7 : List Cond := [Cond.selects RX7 yX7_wheel yX7_wheel, Cond.code yX7_wheel cX7_wheel 1 (some (.object "FairWheel$Wheel")), Cond.methodLink RX10 119 yX9_lowest]
def wsX10_canBeLeftOut : List Cond := .code yX10_canBeLeftOut cX10_canBeLeftOut 3 (some .boolean) :: ((wsX10_canBeLeftOut_r1 ++ (wsX10_canBeLeftOut_r2 ++ (wsX10_canBeLeftOut_r3 ++ (wsX10_canBeLeftOut_r4 ++ (wsX10_canBeLeftOut_r5 ++ (wsX10_canBeLeftOut_r6 ++ wsX10_canBeLeftOut_r7)))))) ++ wsX100 ++ wsX40 ++ wsX70 ++ wsX90)
def wsX10_leftOut_r1 : List Cond := [Cond.fieldLink RX10 36 "FairWheel" "telling" "LFairWheel$Telling;", Cond.fieldLink RX10 22 "FairWheel" "pad" "LFairWheel$Pad;", Cond.methodLink RX10 109 yX10_refuseEvening, Cond.instanceMethod yX10_refuseEvening, Cond.selects RX10 yX10_refuseEvening yX10_refuseEvening, Cond.initialized RX10, Cond.code yX10_refuseEvening cX10_refuseEvening 2 (some .int), Cond.fieldLink RX10 10 "FairWheel" "wheel" "LFairWheel$Wheel;", Cond.methodLink RX10 96 yX10_refuseText, Cond.instanceMethod yX10_refuseText, Cond.selects RX10 yX10_refuseText yX10_refuseText, Cond.code yX10_refuseText cX10_refuseText 1 (some .int), Cond.methodLink RX10 93 yX4_firstFault, Cond.instanceMethod yX4_firstFault, Cond.selects RX4 yX4_firstFault yX4_firstFault, Cond.initialized RX4, Cond.code yX4_firstFault cX4_firstFault 5 (some .int), Cond.fieldLink RX4 15 "FairWheel$Pad" "length" "I", Cond.methodLink RX4 30 yX4_signAt, Cond.instanceMethod yX4_signAt, Cond.selects RX4 yX4_signAt yX4_signAt, Cond.code yX4_signAt cX4_signAt 2 (some .int), Cond.fieldLink RX4 9 "FairWheel$Pad" "signs" "[I", Cond.static yX10_at]
def wsX10_leftOut_r2 : List Cond := [Cond.code yX10_at cX10_at 2 (some .int), Cond.methodLink RX4 34 yX4_getsIn, Cond.static yX4_getsIn, Cond.code yX4_getsIn cX4_getsIn 1 (some .boolean), Cond.methodLink RX4 38 yX4_getsOut, Cond.static yX4_getsOut, Cond.code yX4_getsOut cX4_getsOut 1 (some .boolean), Cond.methodLink RX4 41 yX4_isDigit, Cond.static yX4_isDigit, Cond.code yX4_isDigit cX4_isDigit 1 (some .boolean), Cond.methodLink RX4 44 yX4_isMotion, Cond.static yX4_isMotion, Cond.code yX4_isMotion cX4_isMotion 1 (some .boolean), Cond.methodLink RX10 195 yX4_asked, Cond.instanceMethod yX4_asked, Cond.selects RX4 yX4_asked yX4_asked, Cond.code yX4_asked cX4_asked 1 (some .int), Cond.fieldLink RX4 19 "FairWheel$Pad" "asked" "I", Cond.methodLink RX10 99 yX7_tell, Cond.instanceMethod yX7_tell, Cond.selects RX7 yX7_tell yX7_tell, Cond.initialized RX7, Cond.code yX7_tell cX7_tell 7 (some .boolean), Cond.fieldLink RX7 12 "FairWheel$Telling" "wheel" "LFairWheel$Wheel;"]
def wsX10_leftOut_r3 : List Cond := [Cond.fieldLink RX7 18 "FairWheel$Telling" "failedEvent" "I", Cond.fieldLink RX7 22 "FairWheel$Telling" "reason" "I", Cond.fieldLink RX7 25 "FairWheel$Telling" "turned" "I", Cond.fieldLink RX7 28 "FairWheel$Telling" "filling" "I", Cond.fieldLink RX7 31 "FairWheel$Telling" "asked" "I", Cond.fieldLink RX7 34 "FairWheel$Telling" "askedBefore" "I", Cond.methodLink RX7 37 yX9_copyFrom, Cond.instanceMethod yX9_copyFrom, Cond.selects RX9 yX9_copyFrom yX9_copyFrom, Cond.initialized RX9, Cond.code yX9_copyFrom cX9_copyFrom 2 none, Cond.fieldLink RX9 9 "FairWheel$Wheel" "weights" "[I", Cond.fieldLink RX9 15 "FairWheel$Wheel" "cars" "[I", Cond.fieldLink RX9 18 "FairWheel$Wheel" "riders" "[I", Cond.fieldLink RX9 21 "FairWheel$Wheel" "loads" "[I", Cond.fieldLink RX9 24 "FairWheel$Wheel" "lowest" "I", Cond.fieldLink RX9 28 "FairWheel$Wheel" "friction" "I", Cond.static yX10_copyRow, Cond.code yX10_copyRow cX10_copyRow 2 none, Cond.methodLink RX10 257 Lib.Math.min.name, Cond.static Lib.Math.min.name, Cond.initialized "java/lang/Math", Cond.code Lib.Math.min.name Lib.Math.min.code 2 (some .int), Cond.methodLink RX10 262 arraycopyName]
def wsX10_leftOut_r4 : List Cond := [Cond.native arraycopyName, Cond.static arraycopyName, Cond.initialized "java/lang/System", Cond.methodLink RX7 41 yX4_asked, Cond.methodLink RX7 46 yX4_length, Cond.instanceMethod yX4_length, Cond.selects RX4 yX4_length yX4_length, Cond.code yX4_length cX4_length 1 (some .int), Cond.methodLink RX7 49 yX4_signAt, Cond.methodLink RX7 53 yX7_happen, Cond.instanceMethod yX7_happen, Cond.selects RX7 yX7_happen yX7_happen, Cond.code yX7_happen cX7_happen 3 (some .int), Cond.methodLink RX7 56 yX9_letGo, Cond.instanceMethod yX9_letGo, Cond.selects RX9 yX9_letGo yX9_letGo, Cond.code yX9_letGo cX9_letGo 5 (some .int), Cond.methodLink RX9 63 yX9_pullAt, Cond.instanceMethod yX9_pullAt, Cond.selects RX9 yX9_pullAt yX9_pullAt, Cond.code yX9_pullAt cX9_pullAt 6 (some .int), Cond.fieldLink RX9 67 "FairWheel$Wheel" "ARMS" "[I", Cond.methodLink RX9 49 yJ9_floorMod_7cf53, Cond.static yJ9_floorMod_7cf53]
def wsX10_leftOut_r5 : List Cond := [Cond.initialized RJ9, Cond.code yJ9_floorMod_7cf53 cJ9_floorMod_7cf53 3 (some .int), Cond.methodLink RX9 76 yX9_wayOf, Cond.instanceMethod yX9_wayOf, Cond.selects RX9 yX9_wayOf yX9_wayOf, Cond.code yX9_wayOf cX9_wayOf 2 (some .int), Cond.methodLink RX9 79 yX9_turn, Cond.instanceMethod yX9_turn, Cond.selects RX9 yX9_turn yX9_turn, Cond.code yX9_turn cX9_turn 2 none, Cond.methodLink RX7 59 yX4_isMotion, Cond.methodLink RX7 63 yX9_turn, Cond.methodLink RX7 67 yX4_isDigit, Cond.methodLink RX7 70 yX7_load, Cond.instanceMethod yX7_load, Cond.selects RX7 yX7_load yX7_load, Cond.code yX7_load cX7_load 4 (some .int), Cond.methodLink RX7 88 yX9_lowest, Cond.instanceMethod yX9_lowest, Cond.selects RX9 yX9_lowest yX9_lowest, Cond.code yX9_lowest cX9_lowest 1 (some .int), Cond.methodLink RX7 91 yX9_loadOf, Cond.instanceMethod yX9_loadOf, Cond.selects RX9 yX9_loadOf yX9_loadOf]
def wsX10_leftOut_r6 : List Cond := [Cond.code yX9_loadOf cX9_loadOf 2 (some .int), Cond.methodLink RX7 94 yX9_setLoad, Cond.instanceMethod yX9_setLoad, Cond.selects RX9 yX9_setLoad yX9_setLoad, Cond.code yX9_setLoad cX9_setLoad 3 none, Cond.static yX10_put, Cond.code yX10_put cX10_put 3 none, Cond.methodLink RX7 73 yX4_getsOut, Cond.methodLink RX7 76 yX7_letOut, Cond.instanceMethod yX7_letOut, Cond.selects RX7 yX7_letOut yX7_letOut, Cond.code yX7_letOut cX7_letOut 2 (some .int), Cond.methodLink RX7 108 yX9_isLowest, Cond.instanceMethod yX9_isLowest, Cond.selects RX9 yX9_isLowest yX9_isLowest, Cond.code yX9_isLowest cX9_isLowest 2 (some .boolean), Cond.methodLink RX7 111 yX9_unseat, Cond.instanceMethod yX9_unseat, Cond.selects RX9 yX9_unseat yX9_unseat, Cond.code yX9_unseat cX9_unseat 2 none, Cond.methodLink RX7 79 yX1_personAt, Cond.static yX1_personAt, Cond.initialized RX1, Cond.code yX1_personAt cX1_personAt 3 (some .int)]
def wsX10_leftOut_r7 : List Cond := [Cond.methodLink RX7 85 yX7_letIn, Cond.instanceMethod yX7_letIn, Cond.selects RX7 yX7_letIn yX7_letIn, Cond.code yX7_letIn cX7_letIn 2 (some .int), Cond.methodLink RX7 98 yX9_isAboard, Cond.instanceMethod yX9_isAboard, Cond.selects RX9 yX9_isAboard yX9_isAboard, Cond.code yX9_isAboard cX9_isAboard 2 (some .boolean), Cond.methodLink RX7 101 yX9_isTaken, Cond.instanceMethod yX9_isTaken, Cond.selects RX9 yX9_isTaken yX9_isTaken, Cond.code yX9_isTaken cX9_isTaken 1 (some .boolean), Cond.methodLink RX7 105 yX9_seat, Cond.instanceMethod yX9_seat, Cond.selects RX9 yX9_seat yX9_seat, Cond.code yX9_seat cX9_seat 3 none, Cond.methodLink RX10 112 yX7_wheel, Cond.instanceMethod yX7_wheel, Cond.selects RX7 yX7_wheel yX7_wheel, Cond.code yX7_wheel cX7_wheel 1 (some (.object "FairWheel$Wheel")), Cond.methodLink RX10 119 yX9_lowest, Cond.methodLink RX10 84 yX4_length, Cond.methodLink RX10 141 yX10_canBeLeftOut, Cond.instanceMethod yX10_canBeLeftOut]
def wsX10_leftOut_r8 : List Cond := [Cond.selects RX10 yX10_canBeLeftOut yX10_canBeLeftOut, Cond.code yX10_canBeLeftOut cX10_canBeLeftOut 3 (some .boolean), Cond.methodLink RX10 268 yX4_signAt, Cond.methodLink RX10 271 yX4_isMotion]
def wsX10_leftOut : List Cond := .code yX10_leftOut cX10_leftOut 6 (some .int) :: ((wsX10_leftOut_r1 ++ (wsX10_leftOut_r2 ++ (wsX10_leftOut_r3 ++ (wsX10_leftOut_r4 ++ (wsX10_leftOut_r5 ++ (wsX10_leftOut_r6 ++ (wsX10_leftOut_r7 ++ wsX10_leftOut_r8))))))) ++ wsX100 ++ wsX40 ++ wsX70 ++ wsX90)
def wsX10_tellMove : List Cond := .code yX10_tellMove cX10_tellMove 3 (some .int) :: ([.fieldLink RX10 10 "FairWheel" "wheel" "LFairWheel$Wheel;", .methodLink RX10 274 yX3_getsOut, .static yX3_getsOut, .initialized RX3, .code yX3_getsOut cX3_getsOut 2 (some .boolean), .methodLink RX3 11 yX9_isTaken, .instanceMethod yX9_isTaken, .selects RX9 yX9_isTaken yX9_isTaken, .initialized RX9, .code yX9_isTaken cX9_isTaken 1 (some .boolean), .fieldLink RX9 18 "FairWheel$Wheel" "riders" "[I", .fieldLink RX9 24 "FairWheel$Wheel" "lowest" "I", .static yX10_at, .initialized RX10, .code yX10_at cX10_at 2 (some .int), .methodLink RX10 64 yX10_isPerson, .static yX10_isPerson, .code yX10_isPerson cX10_isPerson 1 (some .boolean)] ++ wsX100 ++ wsX90)
def wsX10_down_r1 : List Cond := [Cond.fieldLink RX10 10 "FairWheel" "wheel" "LFairWheel$Wheel;", Cond.fieldLink RX10 16 "FairWheel" "trial" "LFairWheel$Wheel;", Cond.methodLink RX10 64 yX10_isPerson, Cond.static yX10_isPerson, Cond.initialized RX10, Cond.code yX10_isPerson cX10_isPerson 1 (some .boolean), Cond.methodLink RX10 145 yX9_isAboard, Cond.instanceMethod yX9_isAboard, Cond.selects RX9 yX9_isAboard yX9_isAboard, Cond.initialized RX9, Cond.code yX9_isAboard cX9_isAboard 2 (some .boolean), Cond.fieldLink RX9 15 "FairWheel$Wheel" "cars" "[I", Cond.static yX10_at, Cond.code yX10_at cX10_at 2 (some .int), Cond.methodLink RX10 148 yX9_isLowest, Cond.instanceMethod yX9_isLowest, Cond.selects RX9 yX9_isLowest yX9_isLowest, Cond.code yX9_isLowest cX9_isLowest 2 (some .boolean), Cond.fieldLink RX9 24 "FairWheel$Wheel" "lowest" "I", Cond.methodLink RX10 115 yX9_copyFrom, Cond.instanceMethod yX9_copyFrom, Cond.selects RX9 yX9_copyFrom yX9_copyFrom, Cond.code yX9_copyFrom cX9_copyFrom 2 none, Cond.fieldLink RX9 9 "FairWheel$Wheel" "weights" "[I"]
def wsX10_down_r2 : List Cond := [Cond.fieldLink RX9 18 "FairWheel$Wheel" "riders" "[I", Cond.fieldLink RX9 21 "FairWheel$Wheel" "loads" "[I", Cond.fieldLink RX9 28 "FairWheel$Wheel" "friction" "I", Cond.static yX10_copyRow, Cond.code yX10_copyRow cX10_copyRow 2 none, Cond.methodLink RX10 257 Lib.Math.min.name, Cond.static Lib.Math.min.name, Cond.initialized "java/lang/Math", Cond.code Lib.Math.min.name Lib.Math.min.code 2 (some .int), Cond.methodLink RX10 262 arraycopyName, Cond.native arraycopyName, Cond.static arraycopyName, Cond.initialized "java/lang/System", Cond.methodLink RX10 151 yX3_first, Cond.static yX3_first, Cond.initialized RX3, Cond.code yX3_first cX3_first 3 (some .int), Cond.methodLink RX3 42 yX3_search, Cond.static yX3_search, Cond.code yX3_search cX3_search 7 (some .int), Cond.methodLink RX3 24 yX9_lowest, Cond.instanceMethod yX9_lowest, Cond.selects RX9 yX9_lowest yX9_lowest, Cond.code yX9_lowest cX9_lowest 1 (some .int)]
def wsX10_down_r3 : List Cond := [Cond.methodLink RX3 46 yX9_riderOf, Cond.instanceMethod yX9_riderOf, Cond.selects RX9 yX9_riderOf yX9_riderOf, Cond.code yX9_riderOf cX9_riderOf 2 (some .int), Cond.methodLink RX3 50 yX3_canBe, Cond.static yX3_canBe, Cond.code yX3_canBe cX3_canBe 2 (some .boolean), Cond.methodLink RX3 11 yX9_isTaken, Cond.instanceMethod yX9_isTaken, Cond.selects RX9 yX9_isTaken yX9_isTaken, Cond.code yX9_isTaken cX9_isTaken 1 (some .boolean), Cond.methodLink RX3 17 yX9_isLowest, Cond.methodLink RX3 21 yX9_isAboard, Cond.methodLink RX3 54 yX3_make, Cond.static yX3_make, Cond.code yX3_make cX3_make 2 none, Cond.methodLink RX3 28 yX9_unseat, Cond.instanceMethod yX9_unseat, Cond.selects RX9 yX9_unseat yX9_unseat, Cond.code yX9_unseat cX9_unseat 2 none, Cond.static yX10_put, Cond.code yX10_put cX10_put 3 none, Cond.methodLink RX3 35 yX9_seat, Cond.instanceMethod yX9_seat]
def wsX10_down_r4 : List Cond := [Cond.selects RX9 yX9_seat yX9_seat, Cond.code yX9_seat cX9_seat 3 none, Cond.methodLink RX3 39 yX9_letGo, Cond.instanceMethod yX9_letGo, Cond.selects RX9 yX9_letGo yX9_letGo, Cond.code yX9_letGo cX9_letGo 5 (some .int), Cond.methodLink RX9 63 yX9_pullAt, Cond.instanceMethod yX9_pullAt, Cond.selects RX9 yX9_pullAt yX9_pullAt, Cond.code yX9_pullAt cX9_pullAt 6 (some .int), Cond.fieldLink RX9 67 "FairWheel$Wheel" "ARMS" "[I", Cond.methodLink RX9 49 yJ9_floorMod_7cf53, Cond.static yJ9_floorMod_7cf53, Cond.initialized RJ9, Cond.code yJ9_floorMod_7cf53 cJ9_floorMod_7cf53 3 (some .int), Cond.methodLink RX9 76 yX9_wayOf, Cond.instanceMethod yX9_wayOf, Cond.selects RX9 yX9_wayOf yX9_wayOf, Cond.code yX9_wayOf cX9_wayOf 2 (some .int), Cond.methodLink RX9 79 yX9_turn, Cond.instanceMethod yX9_turn, Cond.selects RX9 yX9_turn yX9_turn, Cond.code yX9_turn cX9_turn 2 none, Cond.methodLink RX3 58 yX9_takeBack]
def wsX10_down_r5 : List Cond := [Cond.instanceMethod yX9_takeBack, Cond.selects RX9 yX9_takeBack yX9_takeBack, Cond.code yX9_takeBack cX9_takeBack 3 none, Cond.methodLink RX9 55 yX9_unseat, Cond.methodLink RX9 59 yX9_seat, Cond.methodLink RX10 157 yX10_tellMove, Cond.instanceMethod yX10_tellMove, Cond.selects RX10 yX10_tellMove yX10_tellMove, Cond.code yX10_tellMove cX10_tellMove 3 (some .int), Cond.methodLink RX10 274 yX3_getsOut, Cond.static yX3_getsOut, Cond.code yX3_getsOut cX3_getsOut 2 (some .boolean)]
def wsX10_down : List Cond := .code yX10_down cX10_down 5 (some .int) :: ((wsX10_down_r1 ++ (wsX10_down_r2 ++ (wsX10_down_r3 ++ (wsX10_down_r4 ++ wsX10_down_r5)))) ++ wsX100 ++ wsX90)
def wsX10_pebbles_r1 : List Cond := [Cond.fieldLink RX10 10 "FairWheel" "wheel" "LFairWheel$Wheel;", Cond.fieldLink RX10 16 "FairWheel" "trial" "LFairWheel$Wheel;", Cond.methodLink RX10 64 yX10_isPerson, Cond.static yX10_isPerson, Cond.initialized RX10, Cond.code yX10_isPerson cX10_isPerson 1 (some .boolean), Cond.methodLink RX10 145 yX9_isAboard, Cond.instanceMethod yX9_isAboard, Cond.selects RX9 yX9_isAboard yX9_isAboard, Cond.initialized RX9, Cond.code yX9_isAboard cX9_isAboard 2 (some .boolean), Cond.fieldLink RX9 15 "FairWheel$Wheel" "cars" "[I", Cond.static yX10_at, Cond.code yX10_at cX10_at 2 (some .int), Cond.methodLink RX10 115 yX9_copyFrom, Cond.instanceMethod yX9_copyFrom, Cond.selects RX9 yX9_copyFrom yX9_copyFrom, Cond.code yX9_copyFrom cX9_copyFrom 2 none, Cond.fieldLink RX9 9 "FairWheel$Wheel" "weights" "[I", Cond.fieldLink RX9 18 "FairWheel$Wheel" "riders" "[I", Cond.fieldLink RX9 21 "FairWheel$Wheel" "loads" "[I", Cond.fieldLink RX9 24 "FairWheel$Wheel" "lowest" "I", Cond.fieldLink RX9 28 "FairWheel$Wheel" "friction" "I", Cond.static yX10_copyRow]
def wsX10_pebbles_r2 : List Cond := [Cond.code yX10_copyRow cX10_copyRow 2 none, Cond.methodLink RX10 257 Lib.Math.min.name, Cond.static Lib.Math.min.name, Cond.initialized "java/lang/Math", Cond.code Lib.Math.min.name Lib.Math.min.code 2 (some .int), Cond.methodLink RX10 262 arraycopyName, Cond.native arraycopyName, Cond.static arraycopyName, Cond.initialized "java/lang/System", Cond.methodLink RX10 119 yX9_lowest, Cond.instanceMethod yX9_lowest, Cond.selects RX9 yX9_lowest yX9_lowest, Cond.code yX9_lowest cX9_lowest 1 (some .int), Cond.methodLink RX10 161 yX9_setLoad, Cond.instanceMethod yX9_setLoad, Cond.selects RX9 yX9_setLoad yX9_setLoad, Cond.code yX9_setLoad cX9_setLoad 3 none, Cond.static yX10_put, Cond.code yX10_put cX10_put 3 none, Cond.methodLink RX10 164 yX9_letGo, Cond.instanceMethod yX9_letGo, Cond.selects RX9 yX9_letGo yX9_letGo, Cond.code yX9_letGo cX9_letGo 5 (some .int), Cond.methodLink RX9 63 yX9_pullAt]
def wsX10_pebbles_r3 : List Cond := [Cond.instanceMethod yX9_pullAt, Cond.selects RX9 yX9_pullAt yX9_pullAt, Cond.code yX9_pullAt cX9_pullAt 6 (some .int), Cond.fieldLink RX9 67 "FairWheel$Wheel" "ARMS" "[I", Cond.methodLink RX9 49 yJ9_floorMod_7cf53, Cond.static yJ9_floorMod_7cf53, Cond.initialized RJ9, Cond.code yJ9_floorMod_7cf53 cJ9_floorMod_7cf53 3 (some .int), Cond.methodLink RX9 76 yX9_wayOf, Cond.instanceMethod yX9_wayOf, Cond.selects RX9 yX9_wayOf yX9_wayOf, Cond.code yX9_wayOf cX9_wayOf 2 (some .int), Cond.methodLink RX9 79 yX9_turn, Cond.instanceMethod yX9_turn, Cond.selects RX9 yX9_turn yX9_turn, Cond.code yX9_turn cX9_turn 2 none, Cond.methodLink RX10 148 yX9_isLowest, Cond.instanceMethod yX9_isLowest, Cond.selects RX9 yX9_isLowest yX9_isLowest, Cond.code yX9_isLowest cX9_isLowest 2 (some .boolean)]
def wsX10_pebbles : List Cond := .code yX10_pebbles cX10_pebbles 3 (some .int) :: ((wsX10_pebbles_r1 ++ (wsX10_pebbles_r2 ++ wsX10_pebbles_r3)) ++ wsX100 ++ wsX90)
def wsX10_brake_r1 : List Cond := [Cond.fieldLink RX10 10 "FairWheel" "wheel" "LFairWheel$Wheel;", Cond.methodLink RX10 167 yX9_greatestPull, Cond.instanceMethod yX9_greatestPull, Cond.selects RX9 yX9_greatestPull yX9_greatestPull, Cond.initialized RX9, Cond.code yX9_greatestPull cX9_greatestPull 3 (some .int), Cond.methodLink RX9 70 Lib.Math.abs.name, Cond.static Lib.Math.abs.name, Cond.initialized "java/lang/Math", Cond.code Lib.Math.abs.name Lib.Math.abs.code 1 (some .int), Cond.methodLink RX9 73 Lib.Math.max.name, Cond.static Lib.Math.max.name, Cond.code Lib.Math.max.name Lib.Math.max.code 2 (some .int), Cond.methodLink RX9 63 yX9_pullAt, Cond.instanceMethod yX9_pullAt, Cond.selects RX9 yX9_pullAt yX9_pullAt, Cond.code yX9_pullAt cX9_pullAt 6 (some .int), Cond.fieldLink RX9 18 "FairWheel$Wheel" "riders" "[I", Cond.fieldLink RX9 21 "FairWheel$Wheel" "loads" "[I", Cond.fieldLink RX9 9 "FairWheel$Wheel" "weights" "[I", Cond.fieldLink RX9 67 "FairWheel$Wheel" "ARMS" "[I", Cond.static yX10_at, Cond.initialized RX10, Cond.code yX10_at cX10_at 2 (some .int)]
def wsX10_brake_r2 : List Cond := [Cond.methodLink RX9 49 yJ9_floorMod_7cf53, Cond.static yJ9_floorMod_7cf53, Cond.initialized RJ9, Cond.code yJ9_floorMod_7cf53 cJ9_floorMod_7cf53 3 (some .int)]
def wsX10_brake : List Cond := .code yX10_brake cX10_brake 1 (some .int) :: ((wsX10_brake_r1 ++ wsX10_brake_r2) ++ wsX100 ++ wsX90)
def wsJ6_bitCount_0f7a4 : List Cond := .code yJ6_bitCount_0f7a4 cJ6_bitCount_0f7a4 1 (some .int) :: ([.constant RJ6 265 (1431655765), .constant RJ6 266 (858993459), .constant RJ6 267 (252645135)])
def wsX10_balance_r1 : List Cond := [Cond.fieldLink RX10 43 "FairWheel" "seating" "LFairWheel$Seating;", Cond.fieldLink RX10 10 "FairWheel" "wheel" "LFairWheel$Wheel;", Cond.methodLink RX10 64 yX10_isPerson, Cond.static yX10_isPerson, Cond.initialized RX10, Cond.code yX10_isPerson cX10_isPerson 1 (some .boolean), Cond.methodLink RX10 170 yX10_isOf, Cond.static yX10_isOf, Cond.code yX10_isOf cX10_isOf 2 (some .boolean), Cond.methodLink RX10 173 yJ6_bitCount_0f7a4, Cond.static yJ6_bitCount_0f7a4, Cond.initialized RJ6, Cond.code yJ6_bitCount_0f7a4 cJ6_bitCount_0f7a4 1 (some .int), Cond.constant RJ6 265 (1431655765), Cond.constant RJ6 266 (858993459), Cond.constant RJ6 267 (252645135), Cond.methodLink RX10 178 yX5_count, Cond.instanceMethod yX5_count, Cond.selects RX5 yX5_count yX5_count, Cond.initialized RX5, Cond.code yX5_count cX5_count 4 (some .int), Cond.fieldLink RX5 22 "FairWheel$Seating" "found" "Z", Cond.fieldLink RX5 12 "FairWheel$Seating" "wheel" "LFairWheel$Wheel;", Cond.methodLink RX5 26 yX9_copyFrom]
def wsX10_balance_r2 : List Cond := [Cond.instanceMethod yX9_copyFrom, Cond.selects RX9 yX9_copyFrom yX9_copyFrom, Cond.initialized RX9, Cond.code yX9_copyFrom cX9_copyFrom 2 none, Cond.fieldLink RX9 9 "FairWheel$Wheel" "weights" "[I", Cond.fieldLink RX9 15 "FairWheel$Wheel" "cars" "[I", Cond.fieldLink RX9 18 "FairWheel$Wheel" "riders" "[I", Cond.fieldLink RX9 21 "FairWheel$Wheel" "loads" "[I", Cond.fieldLink RX9 24 "FairWheel$Wheel" "lowest" "I", Cond.fieldLink RX9 28 "FairWheel$Wheel" "friction" "I", Cond.static yX10_copyRow, Cond.code yX10_copyRow cX10_copyRow 2 none, Cond.methodLink RX10 257 Lib.Math.min.name, Cond.static Lib.Math.min.name, Cond.initialized "java/lang/Math", Cond.code Lib.Math.min.name Lib.Math.min.code 2 (some .int), Cond.methodLink RX10 262 arraycopyName, Cond.native arraycopyName, Cond.static arraycopyName, Cond.initialized "java/lang/System", Cond.methodLink RX5 30 yX9_clear, Cond.instanceMethod yX9_clear, Cond.selects RX9 yX9_clear yX9_clear, Cond.code yX9_clear cX9_clear 1 none]
def wsX10_balance_r3 : List Cond := [Cond.methodLink RX9 31 yJ7_fill_53178, Cond.static yJ7_fill_53178, Cond.initialized RJ7, Cond.code yJ7_fill_53178 cJ7_fill_53178 4 none, Cond.methodLink RX5 33 yX5_leastOf, Cond.static yX5_leastOf, Cond.code yX5_leastOf cX5_leastOf 2 (some .int), Cond.methodLink RX5 37 yX5_settle, Cond.instanceMethod yX5_settle, Cond.selects RX5 yX5_settle yX5_settle, Cond.code yX5_settle cX5_settle 1 (some .int), Cond.fieldLink RX5 18 "FairWheel$Seating" "firstCars" "[I", Cond.methodLink RX5 64 yX9_greatestPull, Cond.instanceMethod yX9_greatestPull, Cond.selects RX9 yX9_greatestPull yX9_greatestPull, Cond.code yX9_greatestPull cX9_greatestPull 3 (some .int), Cond.methodLink RX9 70 Lib.Math.abs.name, Cond.static Lib.Math.abs.name, Cond.code Lib.Math.abs.name Lib.Math.abs.code 1 (some .int), Cond.methodLink RX9 73 Lib.Math.max.name, Cond.static Lib.Math.max.name, Cond.code Lib.Math.max.name Lib.Math.max.code 2 (some .int), Cond.methodLink RX9 63 yX9_pullAt, Cond.instanceMethod yX9_pullAt]
def wsX10_balance_r4 : List Cond := [Cond.selects RX9 yX9_pullAt yX9_pullAt, Cond.code yX9_pullAt cX9_pullAt 6 (some .int), Cond.fieldLink RX9 67 "FairWheel$Wheel" "ARMS" "[I", Cond.static yX10_at, Cond.code yX10_at cX10_at 2 (some .int), Cond.methodLink RX9 49 yJ9_floorMod_7cf53, Cond.static yJ9_floorMod_7cf53, Cond.initialized RJ9, Cond.code yJ9_floorMod_7cf53 cJ9_floorMod_7cf53 3 (some .int), Cond.methodLink RX5 67 yX9_friction, Cond.instanceMethod yX9_friction, Cond.selects RX9 yX9_friction yX9_friction, Cond.code yX9_friction cX9_friction 1 (some .int), Cond.methodLink RX5 41 yX9_seat, Cond.instanceMethod yX9_seat, Cond.selects RX9 yX9_seat yX9_seat, Cond.code yX9_seat cX9_seat 3 none, Cond.static yX10_put, Cond.code yX10_put cX10_put 3 none, Cond.methodLink RX5 45 yX5_search, Cond.static yX5_search, Cond.code yX5_search cX5_search 5 (some .int), Cond.methodLink RX5 57 yX9_riderOf, Cond.instanceMethod yX9_riderOf]
def wsX10_balance_r5 : List Cond := [Cond.selects RX9 yX9_riderOf yX9_riderOf, Cond.code yX9_riderOf cX9_riderOf 2 (some .int), Cond.methodLink RX5 60 yX9_unseat, Cond.instanceMethod yX9_unseat, Cond.selects RX9 yX9_unseat yX9_unseat, Cond.code yX9_unseat cX9_unseat 2 none, Cond.methodLink RX10 182 yX5_carInFirst, Cond.instanceMethod yX5_carInFirst, Cond.selects RX5 yX5_carInFirst yX5_carInFirst, Cond.code yX5_carInFirst cX5_carInFirst 2 (some .int)]
def wsX10_balance : List Cond := .code yX10_balance cX10_balance 4 (some .int) :: ((wsX10_balance_r1 ++ (wsX10_balance_r2 ++ (wsX10_balance_r3 ++ (wsX10_balance_r4 ++ wsX10_balance_r5)))) ++ wsX100 ++ wsX50 ++ wsX90)
def wsX10_endsAt_r1 : List Cond := [Cond.fieldLink RX10 16 "FairWheel" "trial" "LFairWheel$Wheel;", Cond.fieldLink RX10 10 "FairWheel" "wheel" "LFairWheel$Wheel;", Cond.fieldLink RX10 36 "FairWheel" "telling" "LFairWheel$Telling;", Cond.fieldLink RX10 22 "FairWheel" "pad" "LFairWheel$Pad;", Cond.methodLink RX10 115 yX9_copyFrom, Cond.instanceMethod yX9_copyFrom, Cond.selects RX9 yX9_copyFrom yX9_copyFrom, Cond.initialized RX9, Cond.code yX9_copyFrom cX9_copyFrom 2 none, Cond.fieldLink RX9 9 "FairWheel$Wheel" "weights" "[I", Cond.fieldLink RX9 15 "FairWheel$Wheel" "cars" "[I", Cond.fieldLink RX9 18 "FairWheel$Wheel" "riders" "[I", Cond.fieldLink RX9 21 "FairWheel$Wheel" "loads" "[I", Cond.fieldLink RX9 24 "FairWheel$Wheel" "lowest" "I", Cond.fieldLink RX9 28 "FairWheel$Wheel" "friction" "I", Cond.static yX10_copyRow, Cond.initialized RX10, Cond.code yX10_copyRow cX10_copyRow 2 none, Cond.methodLink RX10 257 Lib.Math.min.name, Cond.static Lib.Math.min.name, Cond.initialized "java/lang/Math", Cond.code Lib.Math.min.name Lib.Math.min.code 2 (some .int), Cond.methodLink RX10 262 arraycopyName, Cond.native arraycopyName]
def wsX10_endsAt_r2 : List Cond := [Cond.static arraycopyName, Cond.initialized "java/lang/System", Cond.methodLink RX10 72 yX9_setWeight, Cond.instanceMethod yX9_setWeight, Cond.selects RX9 yX9_setWeight yX9_setWeight, Cond.code yX9_setWeight cX9_setWeight 3 none, Cond.static yX10_put, Cond.code yX10_put cX10_put 3 none, Cond.methodLink RX10 99 yX7_tell, Cond.instanceMethod yX7_tell, Cond.selects RX7 yX7_tell yX7_tell, Cond.initialized RX7, Cond.code yX7_tell cX7_tell 7 (some .boolean), Cond.fieldLink RX7 12 "FairWheel$Telling" "wheel" "LFairWheel$Wheel;", Cond.fieldLink RX7 18 "FairWheel$Telling" "failedEvent" "I", Cond.fieldLink RX7 22 "FairWheel$Telling" "reason" "I", Cond.fieldLink RX7 25 "FairWheel$Telling" "turned" "I", Cond.fieldLink RX7 28 "FairWheel$Telling" "filling" "I", Cond.fieldLink RX7 31 "FairWheel$Telling" "asked" "I", Cond.fieldLink RX7 34 "FairWheel$Telling" "askedBefore" "I", Cond.methodLink RX7 37 yX9_copyFrom, Cond.methodLink RX7 41 yX4_asked, Cond.instanceMethod yX4_asked, Cond.selects RX4 yX4_asked yX4_asked]
def wsX10_endsAt_r3 : List Cond := [Cond.initialized RX4, Cond.code yX4_asked cX4_asked 1 (some .int), Cond.fieldLink RX4 19 "FairWheel$Pad" "asked" "I", Cond.methodLink RX7 46 yX4_length, Cond.instanceMethod yX4_length, Cond.selects RX4 yX4_length yX4_length, Cond.code yX4_length cX4_length 1 (some .int), Cond.fieldLink RX4 15 "FairWheel$Pad" "length" "I", Cond.methodLink RX7 49 yX4_signAt, Cond.instanceMethod yX4_signAt, Cond.selects RX4 yX4_signAt yX4_signAt, Cond.code yX4_signAt cX4_signAt 2 (some .int), Cond.fieldLink RX4 9 "FairWheel$Pad" "signs" "[I", Cond.static yX10_at, Cond.code yX10_at cX10_at 2 (some .int), Cond.methodLink RX7 53 yX7_happen, Cond.instanceMethod yX7_happen, Cond.selects RX7 yX7_happen yX7_happen, Cond.code yX7_happen cX7_happen 3 (some .int), Cond.methodLink RX7 56 yX9_letGo, Cond.instanceMethod yX9_letGo, Cond.selects RX9 yX9_letGo yX9_letGo, Cond.code yX9_letGo cX9_letGo 5 (some .int), Cond.methodLink RX9 63 yX9_pullAt]
def wsX10_endsAt_r4 : List Cond := [Cond.instanceMethod yX9_pullAt, Cond.selects RX9 yX9_pullAt yX9_pullAt, Cond.code yX9_pullAt cX9_pullAt 6 (some .int), Cond.fieldLink RX9 67 "FairWheel$Wheel" "ARMS" "[I", Cond.methodLink RX9 49 yJ9_floorMod_7cf53, Cond.static yJ9_floorMod_7cf53, Cond.initialized RJ9, Cond.code yJ9_floorMod_7cf53 cJ9_floorMod_7cf53 3 (some .int), Cond.methodLink RX9 76 yX9_wayOf, Cond.instanceMethod yX9_wayOf, Cond.selects RX9 yX9_wayOf yX9_wayOf, Cond.code yX9_wayOf cX9_wayOf 2 (some .int), Cond.methodLink RX9 79 yX9_turn, Cond.instanceMethod yX9_turn, Cond.selects RX9 yX9_turn yX9_turn, Cond.code yX9_turn cX9_turn 2 none, Cond.methodLink RX7 59 yX4_isMotion, Cond.static yX4_isMotion, Cond.code yX4_isMotion cX4_isMotion 1 (some .boolean), Cond.methodLink RX7 63 yX9_turn, Cond.methodLink RX7 67 yX4_isDigit, Cond.static yX4_isDigit, Cond.code yX4_isDigit cX4_isDigit 1 (some .boolean), Cond.methodLink RX7 70 yX7_load]
def wsX10_endsAt_r5 : List Cond := [Cond.instanceMethod yX7_load, Cond.selects RX7 yX7_load yX7_load, Cond.code yX7_load cX7_load 4 (some .int), Cond.methodLink RX7 88 yX9_lowest, Cond.instanceMethod yX9_lowest, Cond.selects RX9 yX9_lowest yX9_lowest, Cond.code yX9_lowest cX9_lowest 1 (some .int), Cond.methodLink RX7 91 yX9_loadOf, Cond.instanceMethod yX9_loadOf, Cond.selects RX9 yX9_loadOf yX9_loadOf, Cond.code yX9_loadOf cX9_loadOf 2 (some .int), Cond.methodLink RX7 94 yX9_setLoad, Cond.instanceMethod yX9_setLoad, Cond.selects RX9 yX9_setLoad yX9_setLoad, Cond.code yX9_setLoad cX9_setLoad 3 none, Cond.methodLink RX7 73 yX4_getsOut, Cond.static yX4_getsOut, Cond.code yX4_getsOut cX4_getsOut 1 (some .boolean), Cond.methodLink RX7 76 yX7_letOut, Cond.instanceMethod yX7_letOut, Cond.selects RX7 yX7_letOut yX7_letOut, Cond.code yX7_letOut cX7_letOut 2 (some .int), Cond.methodLink RX7 108 yX9_isLowest, Cond.instanceMethod yX9_isLowest]
def wsX10_endsAt_r6 : List Cond := [Cond.selects RX9 yX9_isLowest yX9_isLowest, Cond.code yX9_isLowest cX9_isLowest 2 (some .boolean), Cond.methodLink RX7 111 yX9_unseat, Cond.instanceMethod yX9_unseat, Cond.selects RX9 yX9_unseat yX9_unseat, Cond.code yX9_unseat cX9_unseat 2 none, Cond.methodLink RX7 79 yX1_personAt, Cond.static yX1_personAt, Cond.initialized RX1, Cond.code yX1_personAt cX1_personAt 3 (some .int), Cond.methodLink RX7 85 yX7_letIn, Cond.instanceMethod yX7_letIn, Cond.selects RX7 yX7_letIn yX7_letIn, Cond.code yX7_letIn cX7_letIn 2 (some .int), Cond.methodLink RX7 98 yX9_isAboard, Cond.instanceMethod yX9_isAboard, Cond.selects RX9 yX9_isAboard yX9_isAboard, Cond.code yX9_isAboard cX9_isAboard 2 (some .boolean), Cond.methodLink RX7 101 yX9_isTaken, Cond.instanceMethod yX9_isTaken, Cond.selects RX9 yX9_isTaken yX9_isTaken, Cond.code yX9_isTaken cX9_isTaken 1 (some .boolean), Cond.methodLink RX7 105 yX9_seat, Cond.instanceMethod yX9_seat]
def wsX10_endsAt_r7 : List Cond := [Cond.selects RX9 yX9_seat yX9_seat, Cond.code yX9_seat cX9_seat 3 none, Cond.methodLink RX10 112 yX7_wheel, Cond.instanceMethod yX7_wheel, Cond.selects RX7 yX7_wheel yX7_wheel, Cond.code yX7_wheel cX7_wheel 1 (some (.object "FairWheel$Wheel")), Cond.methodLink RX10 119 yX9_lowest]
def wsX10_endsAt : List Cond := .code yX10_endsAt cX10_endsAt 4 (some .boolean) :: ((wsX10_endsAt_r1 ++ (wsX10_endsAt_r2 ++ (wsX10_endsAt_r3 ++ (wsX10_endsAt_r4 ++ (wsX10_endsAt_r5 ++ (wsX10_endsAt_r6 ++ wsX10_endsAt_r7)))))) ++ wsX100 ++ wsX90 ++ wsX70 ++ wsX40)
def wsX10_could_r1 : List Cond := [Cond.methodLink RX10 64 yX10_isPerson, Cond.static yX10_isPerson, Cond.initialized RX10, Cond.code yX10_isPerson cX10_isPerson 1 (some .boolean), Cond.methodLink RX10 122 yX10_isCar, Cond.static yX10_isCar, Cond.code yX10_isCar cX10_isCar 1 (some .boolean), Cond.methodLink RX10 96 yX10_refuseText, Cond.instanceMethod yX10_refuseText, Cond.selects RX10 yX10_refuseText yX10_refuseText, Cond.code yX10_refuseText cX10_refuseText 1 (some .int), Cond.fieldLink RX10 22 "FairWheel" "pad" "LFairWheel$Pad;", Cond.methodLink RX10 93 yX4_firstFault, Cond.instanceMethod yX4_firstFault, Cond.selects RX4 yX4_firstFault yX4_firstFault, Cond.initialized RX4, Cond.code yX4_firstFault cX4_firstFault 5 (some .int), Cond.fieldLink RX4 15 "FairWheel$Pad" "length" "I", Cond.methodLink RX4 30 yX4_signAt, Cond.instanceMethod yX4_signAt, Cond.selects RX4 yX4_signAt yX4_signAt, Cond.code yX4_signAt cX4_signAt 2 (some .int), Cond.fieldLink RX4 9 "FairWheel$Pad" "signs" "[I", Cond.static yX10_at]
def wsX10_could_r2 : List Cond := [Cond.code yX10_at cX10_at 2 (some .int), Cond.methodLink RX4 34 yX4_getsIn, Cond.static yX4_getsIn, Cond.code yX4_getsIn cX4_getsIn 1 (some .boolean), Cond.methodLink RX4 38 yX4_getsOut, Cond.static yX4_getsOut, Cond.code yX4_getsOut cX4_getsOut 1 (some .boolean), Cond.methodLink RX4 41 yX4_isDigit, Cond.static yX4_isDigit, Cond.code yX4_isDigit cX4_isDigit 1 (some .boolean), Cond.methodLink RX4 44 yX4_isMotion, Cond.static yX4_isMotion, Cond.code yX4_isMotion cX4_isMotion 1 (some .boolean), Cond.methodLink RX10 195 yX4_asked, Cond.instanceMethod yX4_asked, Cond.selects RX4 yX4_asked yX4_asked, Cond.code yX4_asked cX4_asked 1 (some .int), Cond.fieldLink RX4 19 "FairWheel$Pad" "asked" "I", Cond.methodLink RX10 185 yX10_endsAt, Cond.instanceMethod yX10_endsAt, Cond.selects RX10 yX10_endsAt yX10_endsAt, Cond.code yX10_endsAt cX10_endsAt 4 (some .boolean), Cond.fieldLink RX10 16 "FairWheel" "trial" "LFairWheel$Wheel;", Cond.fieldLink RX10 10 "FairWheel" "wheel" "LFairWheel$Wheel;"]
def wsX10_could_r3 : List Cond := [Cond.fieldLink RX10 36 "FairWheel" "telling" "LFairWheel$Telling;", Cond.methodLink RX10 115 yX9_copyFrom, Cond.instanceMethod yX9_copyFrom, Cond.selects RX9 yX9_copyFrom yX9_copyFrom, Cond.initialized RX9, Cond.code yX9_copyFrom cX9_copyFrom 2 none, Cond.fieldLink RX9 9 "FairWheel$Wheel" "weights" "[I", Cond.fieldLink RX9 15 "FairWheel$Wheel" "cars" "[I", Cond.fieldLink RX9 18 "FairWheel$Wheel" "riders" "[I", Cond.fieldLink RX9 21 "FairWheel$Wheel" "loads" "[I", Cond.fieldLink RX9 24 "FairWheel$Wheel" "lowest" "I", Cond.fieldLink RX9 28 "FairWheel$Wheel" "friction" "I", Cond.static yX10_copyRow, Cond.code yX10_copyRow cX10_copyRow 2 none, Cond.methodLink RX10 257 Lib.Math.min.name, Cond.static Lib.Math.min.name, Cond.initialized "java/lang/Math", Cond.code Lib.Math.min.name Lib.Math.min.code 2 (some .int), Cond.methodLink RX10 262 arraycopyName, Cond.native arraycopyName, Cond.static arraycopyName, Cond.initialized "java/lang/System", Cond.methodLink RX10 72 yX9_setWeight, Cond.instanceMethod yX9_setWeight]
def wsX10_could_r4 : List Cond := [Cond.selects RX9 yX9_setWeight yX9_setWeight, Cond.code yX9_setWeight cX9_setWeight 3 none, Cond.static yX10_put, Cond.code yX10_put cX10_put 3 none, Cond.methodLink RX10 99 yX7_tell, Cond.instanceMethod yX7_tell, Cond.selects RX7 yX7_tell yX7_tell, Cond.initialized RX7, Cond.code yX7_tell cX7_tell 7 (some .boolean), Cond.fieldLink RX7 12 "FairWheel$Telling" "wheel" "LFairWheel$Wheel;", Cond.fieldLink RX7 18 "FairWheel$Telling" "failedEvent" "I", Cond.fieldLink RX7 22 "FairWheel$Telling" "reason" "I", Cond.fieldLink RX7 25 "FairWheel$Telling" "turned" "I", Cond.fieldLink RX7 28 "FairWheel$Telling" "filling" "I", Cond.fieldLink RX7 31 "FairWheel$Telling" "asked" "I", Cond.fieldLink RX7 34 "FairWheel$Telling" "askedBefore" "I", Cond.methodLink RX7 37 yX9_copyFrom, Cond.methodLink RX7 41 yX4_asked, Cond.methodLink RX7 46 yX4_length, Cond.instanceMethod yX4_length, Cond.selects RX4 yX4_length yX4_length, Cond.code yX4_length cX4_length 1 (some .int), Cond.methodLink RX7 49 yX4_signAt, Cond.methodLink RX7 53 yX7_happen]
def wsX10_could_r5 : List Cond := [Cond.instanceMethod yX7_happen, Cond.selects RX7 yX7_happen yX7_happen, Cond.code yX7_happen cX7_happen 3 (some .int), Cond.methodLink RX7 56 yX9_letGo, Cond.instanceMethod yX9_letGo, Cond.selects RX9 yX9_letGo yX9_letGo, Cond.code yX9_letGo cX9_letGo 5 (some .int), Cond.methodLink RX9 63 yX9_pullAt, Cond.instanceMethod yX9_pullAt, Cond.selects RX9 yX9_pullAt yX9_pullAt, Cond.code yX9_pullAt cX9_pullAt 6 (some .int), Cond.fieldLink RX9 67 "FairWheel$Wheel" "ARMS" "[I", Cond.methodLink RX9 49 yJ9_floorMod_7cf53, Cond.static yJ9_floorMod_7cf53, Cond.initialized RJ9, Cond.code yJ9_floorMod_7cf53 cJ9_floorMod_7cf53 3 (some .int), Cond.methodLink RX9 76 yX9_wayOf, Cond.instanceMethod yX9_wayOf, Cond.selects RX9 yX9_wayOf yX9_wayOf, Cond.code yX9_wayOf cX9_wayOf 2 (some .int), Cond.methodLink RX9 79 yX9_turn, Cond.instanceMethod yX9_turn, Cond.selects RX9 yX9_turn yX9_turn, Cond.code yX9_turn cX9_turn 2 none]
def wsX10_could_r6 : List Cond := [Cond.methodLink RX7 59 yX4_isMotion, Cond.methodLink RX7 63 yX9_turn, Cond.methodLink RX7 67 yX4_isDigit, Cond.methodLink RX7 70 yX7_load, Cond.instanceMethod yX7_load, Cond.selects RX7 yX7_load yX7_load, Cond.code yX7_load cX7_load 4 (some .int), Cond.methodLink RX7 88 yX9_lowest, Cond.instanceMethod yX9_lowest, Cond.selects RX9 yX9_lowest yX9_lowest, Cond.code yX9_lowest cX9_lowest 1 (some .int), Cond.methodLink RX7 91 yX9_loadOf, Cond.instanceMethod yX9_loadOf, Cond.selects RX9 yX9_loadOf yX9_loadOf, Cond.code yX9_loadOf cX9_loadOf 2 (some .int), Cond.methodLink RX7 94 yX9_setLoad, Cond.instanceMethod yX9_setLoad, Cond.selects RX9 yX9_setLoad yX9_setLoad, Cond.code yX9_setLoad cX9_setLoad 3 none, Cond.methodLink RX7 73 yX4_getsOut, Cond.methodLink RX7 76 yX7_letOut, Cond.instanceMethod yX7_letOut, Cond.selects RX7 yX7_letOut yX7_letOut, Cond.code yX7_letOut cX7_letOut 2 (some .int)]
def wsX10_could_r7 : List Cond := [Cond.methodLink RX7 108 yX9_isLowest, Cond.instanceMethod yX9_isLowest, Cond.selects RX9 yX9_isLowest yX9_isLowest, Cond.code yX9_isLowest cX9_isLowest 2 (some .boolean), Cond.methodLink RX7 111 yX9_unseat, Cond.instanceMethod yX9_unseat, Cond.selects RX9 yX9_unseat yX9_unseat, Cond.code yX9_unseat cX9_unseat 2 none, Cond.methodLink RX7 79 yX1_personAt, Cond.static yX1_personAt, Cond.initialized RX1, Cond.code yX1_personAt cX1_personAt 3 (some .int), Cond.methodLink RX7 85 yX7_letIn, Cond.instanceMethod yX7_letIn, Cond.selects RX7 yX7_letIn yX7_letIn, Cond.code yX7_letIn cX7_letIn 2 (some .int), Cond.methodLink RX7 98 yX9_isAboard, Cond.instanceMethod yX9_isAboard, Cond.selects RX9 yX9_isAboard yX9_isAboard, Cond.code yX9_isAboard cX9_isAboard 2 (some .boolean), Cond.methodLink RX7 101 yX9_isTaken, Cond.instanceMethod yX9_isTaken, Cond.selects RX9 yX9_isTaken yX9_isTaken, Cond.code yX9_isTaken cX9_isTaken 1 (some .boolean)]
def wsX10_could_r8 : List Cond := [Cond.methodLink RX7 105 yX9_seat, Cond.instanceMethod yX9_seat, Cond.selects RX9 yX9_seat yX9_seat, Cond.code yX9_seat cX9_seat 3 none, Cond.methodLink RX10 112 yX7_wheel, Cond.instanceMethod yX7_wheel, Cond.selects RX7 yX7_wheel yX7_wheel, Cond.code yX7_wheel cX7_wheel 1 (some (.object "FairWheel$Wheel")), Cond.methodLink RX10 119 yX9_lowest]
def wsX10_could : List Cond := .code yX10_could cX10_could 9 (some .int) :: ((wsX10_could_r1 ++ (wsX10_could_r2 ++ (wsX10_could_r3 ++ (wsX10_could_r4 ++ (wsX10_could_r5 ++ (wsX10_could_r6 ++ (wsX10_could_r7 ++ wsX10_could_r8))))))) ++ wsX100 ++ wsX40 ++ wsX90 ++ wsX70)
def wsX10_seen : List Cond := .code yX10_seen cX10_seen 3 (some .int) :: ([.fieldLink RX10 29 "FairWheel" "sights" "LFairWheel$Sights;", .methodLink RX10 64 yX10_isPerson, .static yX10_isPerson, .initialized RX10, .code yX10_isPerson cX10_isPerson 1 (some .boolean), .methodLink RX10 122 yX10_isCar, .static yX10_isCar, .code yX10_isCar cX10_isCar 1 (some .boolean), .methodLink RX10 189 yX6_count, .instanceMethod yX6_count, .selects RX6 yX6_count yX6_count, .initialized RX6, .code yX6_count cX6_count 1 (some .int), .fieldLink RX6 18 "FairWheel$Sights" "count" "I", .methodLink RX10 191 yX6_add, .instanceMethod yX6_add, .selects RX6 yX6_add yX6_add, .code yX6_add cX6_add 3 none, .fieldLink RX6 9 "FairWheel$Sights" "people" "[I", .fieldLink RX6 15 "FairWheel$Sights" "cars" "[I", .static yX10_put, .code yX10_put cX10_put 3 none] ++ wsX100 ++ wsX60)
def wsX10_forget : List Cond := .code yX10_forget cX10_forget 2 (some .int) :: ([.fieldLink RX10 29 "FairWheel" "sights" "LFairWheel$Sights;", .methodLink RX10 189 yX6_count, .instanceMethod yX6_count, .selects RX6 yX6_count yX6_count, .initialized RX6, .code yX6_count cX6_count 1 (some .int), .fieldLink RX6 18 "FairWheel$Sights" "count" "I", .methodLink RX10 194 yX6_clear, .instanceMethod yX6_clear, .selects RX6 yX6_clear yX6_clear, .code yX6_clear cX6_clear 1 none] ++ wsX100 ++ wsX60)
def wsX10_holds_r1 : List Cond := [Cond.fieldLink RX10 36 "FairWheel" "telling" "LFairWheel$Telling;", Cond.fieldLink RX10 10 "FairWheel" "wheel" "LFairWheel$Wheel;", Cond.fieldLink RX10 22 "FairWheel" "pad" "LFairWheel$Pad;", Cond.fieldLink RX10 29 "FairWheel" "sights" "LFairWheel$Sights;", Cond.methodLink RX10 99 yX7_tell, Cond.instanceMethod yX7_tell, Cond.selects RX7 yX7_tell yX7_tell, Cond.initialized RX7, Cond.code yX7_tell cX7_tell 7 (some .boolean), Cond.fieldLink RX7 12 "FairWheel$Telling" "wheel" "LFairWheel$Wheel;", Cond.fieldLink RX7 18 "FairWheel$Telling" "failedEvent" "I", Cond.fieldLink RX7 22 "FairWheel$Telling" "reason" "I", Cond.fieldLink RX7 25 "FairWheel$Telling" "turned" "I", Cond.fieldLink RX7 28 "FairWheel$Telling" "filling" "I", Cond.fieldLink RX7 31 "FairWheel$Telling" "asked" "I", Cond.fieldLink RX7 34 "FairWheel$Telling" "askedBefore" "I", Cond.methodLink RX7 37 yX9_copyFrom, Cond.instanceMethod yX9_copyFrom, Cond.selects RX9 yX9_copyFrom yX9_copyFrom, Cond.initialized RX9, Cond.code yX9_copyFrom cX9_copyFrom 2 none, Cond.fieldLink RX9 9 "FairWheel$Wheel" "weights" "[I", Cond.fieldLink RX9 15 "FairWheel$Wheel" "cars" "[I", Cond.fieldLink RX9 18 "FairWheel$Wheel" "riders" "[I"]
def wsX10_holds_r2 : List Cond := [Cond.fieldLink RX9 21 "FairWheel$Wheel" "loads" "[I", Cond.fieldLink RX9 24 "FairWheel$Wheel" "lowest" "I", Cond.fieldLink RX9 28 "FairWheel$Wheel" "friction" "I", Cond.static yX10_copyRow, Cond.initialized RX10, Cond.code yX10_copyRow cX10_copyRow 2 none, Cond.methodLink RX10 257 Lib.Math.min.name, Cond.static Lib.Math.min.name, Cond.initialized "java/lang/Math", Cond.code Lib.Math.min.name Lib.Math.min.code 2 (some .int), Cond.methodLink RX10 262 arraycopyName, Cond.native arraycopyName, Cond.static arraycopyName, Cond.initialized "java/lang/System", Cond.methodLink RX7 41 yX4_asked, Cond.instanceMethod yX4_asked, Cond.selects RX4 yX4_asked yX4_asked, Cond.initialized RX4, Cond.code yX4_asked cX4_asked 1 (some .int), Cond.fieldLink RX4 19 "FairWheel$Pad" "asked" "I", Cond.methodLink RX7 46 yX4_length, Cond.instanceMethod yX4_length, Cond.selects RX4 yX4_length yX4_length, Cond.code yX4_length cX4_length 1 (some .int)]
def wsX10_holds_r3 : List Cond := [Cond.fieldLink RX4 15 "FairWheel$Pad" "length" "I", Cond.methodLink RX7 49 yX4_signAt, Cond.instanceMethod yX4_signAt, Cond.selects RX4 yX4_signAt yX4_signAt, Cond.code yX4_signAt cX4_signAt 2 (some .int), Cond.fieldLink RX4 9 "FairWheel$Pad" "signs" "[I", Cond.static yX10_at, Cond.code yX10_at cX10_at 2 (some .int), Cond.methodLink RX7 53 yX7_happen, Cond.instanceMethod yX7_happen, Cond.selects RX7 yX7_happen yX7_happen, Cond.code yX7_happen cX7_happen 3 (some .int), Cond.methodLink RX7 56 yX9_letGo, Cond.instanceMethod yX9_letGo, Cond.selects RX9 yX9_letGo yX9_letGo, Cond.code yX9_letGo cX9_letGo 5 (some .int), Cond.methodLink RX9 63 yX9_pullAt, Cond.instanceMethod yX9_pullAt, Cond.selects RX9 yX9_pullAt yX9_pullAt, Cond.code yX9_pullAt cX9_pullAt 6 (some .int), Cond.fieldLink RX9 67 "FairWheel$Wheel" "ARMS" "[I", Cond.methodLink RX9 49 yJ9_floorMod_7cf53, Cond.static yJ9_floorMod_7cf53, Cond.initialized RJ9]
def wsX10_holds_r4 : List Cond := [Cond.code yJ9_floorMod_7cf53 cJ9_floorMod_7cf53 3 (some .int), Cond.methodLink RX9 76 yX9_wayOf, Cond.instanceMethod yX9_wayOf, Cond.selects RX9 yX9_wayOf yX9_wayOf, Cond.code yX9_wayOf cX9_wayOf 2 (some .int), Cond.methodLink RX9 79 yX9_turn, Cond.instanceMethod yX9_turn, Cond.selects RX9 yX9_turn yX9_turn, Cond.code yX9_turn cX9_turn 2 none, Cond.methodLink RX7 59 yX4_isMotion, Cond.static yX4_isMotion, Cond.code yX4_isMotion cX4_isMotion 1 (some .boolean), Cond.methodLink RX7 63 yX9_turn, Cond.methodLink RX7 67 yX4_isDigit, Cond.static yX4_isDigit, Cond.code yX4_isDigit cX4_isDigit 1 (some .boolean), Cond.methodLink RX7 70 yX7_load, Cond.instanceMethod yX7_load, Cond.selects RX7 yX7_load yX7_load, Cond.code yX7_load cX7_load 4 (some .int), Cond.methodLink RX7 88 yX9_lowest, Cond.instanceMethod yX9_lowest, Cond.selects RX9 yX9_lowest yX9_lowest, Cond.code yX9_lowest cX9_lowest 1 (some .int)]
def wsX10_holds_r5 : List Cond := [Cond.methodLink RX7 91 yX9_loadOf, Cond.instanceMethod yX9_loadOf, Cond.selects RX9 yX9_loadOf yX9_loadOf, Cond.code yX9_loadOf cX9_loadOf 2 (some .int), Cond.methodLink RX7 94 yX9_setLoad, Cond.instanceMethod yX9_setLoad, Cond.selects RX9 yX9_setLoad yX9_setLoad, Cond.code yX9_setLoad cX9_setLoad 3 none, Cond.static yX10_put, Cond.code yX10_put cX10_put 3 none, Cond.methodLink RX7 73 yX4_getsOut, Cond.static yX4_getsOut, Cond.code yX4_getsOut cX4_getsOut 1 (some .boolean), Cond.methodLink RX7 76 yX7_letOut, Cond.instanceMethod yX7_letOut, Cond.selects RX7 yX7_letOut yX7_letOut, Cond.code yX7_letOut cX7_letOut 2 (some .int), Cond.methodLink RX7 108 yX9_isLowest, Cond.instanceMethod yX9_isLowest, Cond.selects RX9 yX9_isLowest yX9_isLowest, Cond.code yX9_isLowest cX9_isLowest 2 (some .boolean), Cond.methodLink RX7 111 yX9_unseat, Cond.instanceMethod yX9_unseat, Cond.selects RX9 yX9_unseat yX9_unseat]
def wsX10_holds_r6 : List Cond := [Cond.code yX9_unseat cX9_unseat 2 none, Cond.methodLink RX7 79 yX1_personAt, Cond.static yX1_personAt, Cond.initialized RX1, Cond.code yX1_personAt cX1_personAt 3 (some .int), Cond.methodLink RX7 85 yX7_letIn, Cond.instanceMethod yX7_letIn, Cond.selects RX7 yX7_letIn yX7_letIn, Cond.code yX7_letIn cX7_letIn 2 (some .int), Cond.methodLink RX7 98 yX9_isAboard, Cond.instanceMethod yX9_isAboard, Cond.selects RX9 yX9_isAboard yX9_isAboard, Cond.code yX9_isAboard cX9_isAboard 2 (some .boolean), Cond.methodLink RX7 101 yX9_isTaken, Cond.instanceMethod yX9_isTaken, Cond.selects RX9 yX9_isTaken yX9_isTaken, Cond.code yX9_isTaken cX9_isTaken 1 (some .boolean), Cond.methodLink RX7 105 yX9_seat, Cond.instanceMethod yX9_seat, Cond.selects RX9 yX9_seat yX9_seat, Cond.code yX9_seat cX9_seat 3 none, Cond.methodLink RX10 112 yX7_wheel, Cond.instanceMethod yX7_wheel, Cond.selects RX7 yX7_wheel yX7_wheel]
def wsX10_holds_r7 : List Cond := [Cond.code yX7_wheel cX7_wheel 1 (some (.object "FairWheel$Wheel")), Cond.methodLink RX10 278 yX6_areTrue, Cond.instanceMethod yX6_areTrue, Cond.selects RX6 yX6_areTrue yX6_areTrue, Cond.initialized RX6, Cond.code yX6_areTrue cX6_areTrue 3 (some .boolean), Cond.fieldLink RX6 18 "FairWheel$Sights" "count" "I", Cond.fieldLink RX6 9 "FairWheel$Sights" "people" "[I", Cond.fieldLink RX6 15 "FairWheel$Sights" "cars" "[I", Cond.methodLink RX6 34 yX9_carOf, Cond.instanceMethod yX9_carOf, Cond.selects RX9 yX9_carOf yX9_carOf, Cond.code yX9_carOf cX9_carOf 2 (some .int)]
def wsX10_holds : List Cond := .code yX10_holds cX10_holds 2 (some .boolean) :: ((wsX10_holds_r1 ++ (wsX10_holds_r2 ++ (wsX10_holds_r3 ++ (wsX10_holds_r4 ++ (wsX10_holds_r5 ++ (wsX10_holds_r6 ++ wsX10_holds_r7)))))) ++ wsX100 ++ wsX70 ++ wsX90 ++ wsX40 ++ wsX60)
def wsX10_filled_r1 : List Cond := [Cond.fieldLink RX10 22 "FairWheel" "pad" "LFairWheel$Pad;", Cond.methodLink RX10 93 yX4_firstFault, Cond.instanceMethod yX4_firstFault, Cond.selects RX4 yX4_firstFault yX4_firstFault, Cond.initialized RX4, Cond.code yX4_firstFault cX4_firstFault 5 (some .int), Cond.fieldLink RX4 15 "FairWheel$Pad" "length" "I", Cond.methodLink RX4 30 yX4_signAt, Cond.instanceMethod yX4_signAt, Cond.selects RX4 yX4_signAt yX4_signAt, Cond.code yX4_signAt cX4_signAt 2 (some .int), Cond.fieldLink RX4 9 "FairWheel$Pad" "signs" "[I", Cond.static yX10_at, Cond.initialized RX10, Cond.code yX10_at cX10_at 2 (some .int), Cond.methodLink RX4 34 yX4_getsIn, Cond.static yX4_getsIn, Cond.code yX4_getsIn cX4_getsIn 1 (some .boolean), Cond.methodLink RX4 38 yX4_getsOut, Cond.static yX4_getsOut, Cond.code yX4_getsOut cX4_getsOut 1 (some .boolean), Cond.methodLink RX4 41 yX4_isDigit, Cond.static yX4_isDigit, Cond.code yX4_isDigit cX4_isDigit 1 (some .boolean)]
def wsX10_filled_r2 : List Cond := [Cond.methodLink RX4 44 yX4_isMotion, Cond.static yX4_isMotion, Cond.code yX4_isMotion cX4_isMotion 1 (some .boolean), Cond.methodLink RX10 195 yX4_asked, Cond.instanceMethod yX4_asked, Cond.selects RX4 yX4_asked yX4_asked, Cond.code yX4_asked cX4_asked 1 (some .int), Cond.fieldLink RX4 19 "FairWheel$Pad" "asked" "I", Cond.methodLink RX10 198 yX1_howMany, Cond.static yX1_howMany, Cond.initialized RX1, Cond.code yX1_howMany cX1_howMany 1 (some .int), Cond.methodLink RX10 203 yX10_holds, Cond.instanceMethod yX10_holds, Cond.selects RX10 yX10_holds yX10_holds, Cond.code yX10_holds cX10_holds 2 (some .boolean), Cond.fieldLink RX10 36 "FairWheel" "telling" "LFairWheel$Telling;", Cond.fieldLink RX10 10 "FairWheel" "wheel" "LFairWheel$Wheel;", Cond.fieldLink RX10 29 "FairWheel" "sights" "LFairWheel$Sights;", Cond.methodLink RX10 99 yX7_tell, Cond.instanceMethod yX7_tell, Cond.selects RX7 yX7_tell yX7_tell, Cond.initialized RX7, Cond.code yX7_tell cX7_tell 7 (some .boolean)]
def wsX10_filled_r3 : List Cond := [Cond.fieldLink RX7 12 "FairWheel$Telling" "wheel" "LFairWheel$Wheel;", Cond.fieldLink RX7 18 "FairWheel$Telling" "failedEvent" "I", Cond.fieldLink RX7 22 "FairWheel$Telling" "reason" "I", Cond.fieldLink RX7 25 "FairWheel$Telling" "turned" "I", Cond.fieldLink RX7 28 "FairWheel$Telling" "filling" "I", Cond.fieldLink RX7 31 "FairWheel$Telling" "asked" "I", Cond.fieldLink RX7 34 "FairWheel$Telling" "askedBefore" "I", Cond.methodLink RX7 37 yX9_copyFrom, Cond.instanceMethod yX9_copyFrom, Cond.selects RX9 yX9_copyFrom yX9_copyFrom, Cond.initialized RX9, Cond.code yX9_copyFrom cX9_copyFrom 2 none, Cond.fieldLink RX9 9 "FairWheel$Wheel" "weights" "[I", Cond.fieldLink RX9 15 "FairWheel$Wheel" "cars" "[I", Cond.fieldLink RX9 18 "FairWheel$Wheel" "riders" "[I", Cond.fieldLink RX9 21 "FairWheel$Wheel" "loads" "[I", Cond.fieldLink RX9 24 "FairWheel$Wheel" "lowest" "I", Cond.fieldLink RX9 28 "FairWheel$Wheel" "friction" "I", Cond.static yX10_copyRow, Cond.code yX10_copyRow cX10_copyRow 2 none, Cond.methodLink RX10 257 Lib.Math.min.name, Cond.static Lib.Math.min.name, Cond.initialized "java/lang/Math", Cond.code Lib.Math.min.name Lib.Math.min.code 2 (some .int)]
def wsX10_filled_r4 : List Cond := [Cond.methodLink RX10 262 arraycopyName, Cond.native arraycopyName, Cond.static arraycopyName, Cond.initialized "java/lang/System", Cond.methodLink RX7 41 yX4_asked, Cond.methodLink RX7 46 yX4_length, Cond.instanceMethod yX4_length, Cond.selects RX4 yX4_length yX4_length, Cond.code yX4_length cX4_length 1 (some .int), Cond.methodLink RX7 49 yX4_signAt, Cond.methodLink RX7 53 yX7_happen, Cond.instanceMethod yX7_happen, Cond.selects RX7 yX7_happen yX7_happen, Cond.code yX7_happen cX7_happen 3 (some .int), Cond.methodLink RX7 56 yX9_letGo, Cond.instanceMethod yX9_letGo, Cond.selects RX9 yX9_letGo yX9_letGo, Cond.code yX9_letGo cX9_letGo 5 (some .int), Cond.methodLink RX9 63 yX9_pullAt, Cond.instanceMethod yX9_pullAt, Cond.selects RX9 yX9_pullAt yX9_pullAt, Cond.code yX9_pullAt cX9_pullAt 6 (some .int), Cond.fieldLink RX9 67 "FairWheel$Wheel" "ARMS" "[I", Cond.methodLink RX9 49 yJ9_floorMod_7cf53]
def wsX10_filled_r5 : List Cond := [Cond.static yJ9_floorMod_7cf53, Cond.initialized RJ9, Cond.code yJ9_floorMod_7cf53 cJ9_floorMod_7cf53 3 (some .int), Cond.methodLink RX9 76 yX9_wayOf, Cond.instanceMethod yX9_wayOf, Cond.selects RX9 yX9_wayOf yX9_wayOf, Cond.code yX9_wayOf cX9_wayOf 2 (some .int), Cond.methodLink RX9 79 yX9_turn, Cond.instanceMethod yX9_turn, Cond.selects RX9 yX9_turn yX9_turn, Cond.code yX9_turn cX9_turn 2 none, Cond.methodLink RX7 59 yX4_isMotion, Cond.methodLink RX7 63 yX9_turn, Cond.methodLink RX7 67 yX4_isDigit, Cond.methodLink RX7 70 yX7_load, Cond.instanceMethod yX7_load, Cond.selects RX7 yX7_load yX7_load, Cond.code yX7_load cX7_load 4 (some .int), Cond.methodLink RX7 88 yX9_lowest, Cond.instanceMethod yX9_lowest, Cond.selects RX9 yX9_lowest yX9_lowest, Cond.code yX9_lowest cX9_lowest 1 (some .int), Cond.methodLink RX7 91 yX9_loadOf, Cond.instanceMethod yX9_loadOf]
def wsX10_filled_r6 : List Cond := [Cond.selects RX9 yX9_loadOf yX9_loadOf, Cond.code yX9_loadOf cX9_loadOf 2 (some .int), Cond.methodLink RX7 94 yX9_setLoad, Cond.instanceMethod yX9_setLoad, Cond.selects RX9 yX9_setLoad yX9_setLoad, Cond.code yX9_setLoad cX9_setLoad 3 none, Cond.static yX10_put, Cond.code yX10_put cX10_put 3 none, Cond.methodLink RX7 73 yX4_getsOut, Cond.methodLink RX7 76 yX7_letOut, Cond.instanceMethod yX7_letOut, Cond.selects RX7 yX7_letOut yX7_letOut, Cond.code yX7_letOut cX7_letOut 2 (some .int), Cond.methodLink RX7 108 yX9_isLowest, Cond.instanceMethod yX9_isLowest, Cond.selects RX9 yX9_isLowest yX9_isLowest, Cond.code yX9_isLowest cX9_isLowest 2 (some .boolean), Cond.methodLink RX7 111 yX9_unseat, Cond.instanceMethod yX9_unseat, Cond.selects RX9 yX9_unseat yX9_unseat, Cond.code yX9_unseat cX9_unseat 2 none, Cond.methodLink RX7 79 yX1_personAt, Cond.static yX1_personAt, Cond.code yX1_personAt cX1_personAt 3 (some .int)]
def wsX10_filled_r7 : List Cond := [Cond.methodLink RX7 85 yX7_letIn, Cond.instanceMethod yX7_letIn, Cond.selects RX7 yX7_letIn yX7_letIn, Cond.code yX7_letIn cX7_letIn 2 (some .int), Cond.methodLink RX7 98 yX9_isAboard, Cond.instanceMethod yX9_isAboard, Cond.selects RX9 yX9_isAboard yX9_isAboard, Cond.code yX9_isAboard cX9_isAboard 2 (some .boolean), Cond.methodLink RX7 101 yX9_isTaken, Cond.instanceMethod yX9_isTaken, Cond.selects RX9 yX9_isTaken yX9_isTaken, Cond.code yX9_isTaken cX9_isTaken 1 (some .boolean), Cond.methodLink RX7 105 yX9_seat, Cond.instanceMethod yX9_seat, Cond.selects RX9 yX9_seat yX9_seat, Cond.code yX9_seat cX9_seat 3 none, Cond.methodLink RX10 112 yX7_wheel, Cond.instanceMethod yX7_wheel, Cond.selects RX7 yX7_wheel yX7_wheel, Cond.code yX7_wheel cX7_wheel 1 (some (.object "FairWheel$Wheel")), Cond.methodLink RX10 278 yX6_areTrue, Cond.instanceMethod yX6_areTrue, Cond.selects RX6 yX6_areTrue yX6_areTrue, Cond.initialized RX6]
def wsX10_filled_r8 : List Cond := [Cond.code yX6_areTrue cX6_areTrue 3 (some .boolean), Cond.fieldLink RX6 18 "FairWheel$Sights" "count" "I", Cond.fieldLink RX6 9 "FairWheel$Sights" "people" "[I", Cond.fieldLink RX6 15 "FairWheel$Sights" "cars" "[I", Cond.methodLink RX6 34 yX9_carOf, Cond.instanceMethod yX9_carOf, Cond.selects RX9 yX9_carOf yX9_carOf, Cond.code yX9_carOf cX9_carOf 2 (some .int), Cond.methodLink RX10 206 yX1_personAt]
def wsX10_filled : List Cond := .code yX10_filled cX10_filled 7 (some .int) :: ((wsX10_filled_r1 ++ (wsX10_filled_r2 ++ (wsX10_filled_r3 ++ (wsX10_filled_r4 ++ (wsX10_filled_r5 ++ (wsX10_filled_r6 ++ (wsX10_filled_r7 ++ wsX10_filled_r8))))))) ++ wsX100 ++ wsX40 ++ wsX70 ++ wsX90 ++ wsX60)
def wsX10_greatestDivisor : List Cond := .code yX10_greatestDivisor cX10_greatestDivisor 11 (some .long) :: ([])
def wsX10_chance_r1 : List Cond := [Cond.constantLong RX10 210 (-1000000000000000001), Cond.constantLong RX10 212 (-1000000000000000002), Cond.fieldLink RX10 16 "FairWheel" "trial" "LFairWheel$Wheel;", Cond.fieldLink RX10 10 "FairWheel" "wheel" "LFairWheel$Wheel;", Cond.methodLink RX10 64 yX10_isPerson, Cond.static yX10_isPerson, Cond.initialized RX10, Cond.code yX10_isPerson cX10_isPerson 1 (some .boolean), Cond.methodLink RX10 115 yX9_copyFrom, Cond.instanceMethod yX9_copyFrom, Cond.selects RX9 yX9_copyFrom yX9_copyFrom, Cond.initialized RX9, Cond.code yX9_copyFrom cX9_copyFrom 2 none, Cond.fieldLink RX9 9 "FairWheel$Wheel" "weights" "[I", Cond.fieldLink RX9 15 "FairWheel$Wheel" "cars" "[I", Cond.fieldLink RX9 18 "FairWheel$Wheel" "riders" "[I", Cond.fieldLink RX9 21 "FairWheel$Wheel" "loads" "[I", Cond.fieldLink RX9 24 "FairWheel$Wheel" "lowest" "I", Cond.fieldLink RX9 28 "FairWheel$Wheel" "friction" "I", Cond.static yX10_copyRow, Cond.code yX10_copyRow cX10_copyRow 2 none, Cond.methodLink RX10 257 Lib.Math.min.name, Cond.static Lib.Math.min.name, Cond.initialized "java/lang/Math"]
def wsX10_chance_r2 : List Cond := [Cond.code Lib.Math.min.name Lib.Math.min.code 2 (some .int), Cond.methodLink RX10 262 arraycopyName, Cond.native arraycopyName, Cond.static arraycopyName, Cond.initialized "java/lang/System", Cond.methodLink RX10 214 yX0_shares, Cond.static yX0_shares, Cond.initialized RX0, Cond.code yX0_shares cX0_shares 3 (some .long), Cond.methodLink RX0 13 yX0_sum, Cond.static yX0_sum, Cond.code yX0_sum cX0_sum 8 (some .long), Cond.constantLong RX0 11 (840), Cond.methodLink RX0 17 yX9_isLowest, Cond.instanceMethod yX9_isLowest, Cond.selects RX9 yX9_isLowest yX9_isLowest, Cond.code yX9_isLowest cX9_isLowest 2 (some .boolean), Cond.static yX10_at, Cond.code yX10_at cX10_at 2 (some .int), Cond.methodLink RX0 23 yX0_waiting, Cond.static yX0_waiting, Cond.code yX0_waiting cX0_waiting 3 (some .int), Cond.methodLink RX0 38 yX9_isAboard, Cond.instanceMethod yX9_isAboard]
def wsX10_chance_r3 : List Cond := [Cond.selects RX9 yX9_isAboard yX9_isAboard, Cond.code yX9_isAboard cX9_isAboard 2 (some .boolean), Cond.methodLink RX0 27 yX9_isTaken, Cond.instanceMethod yX9_isTaken, Cond.selects RX9 yX9_isTaken yX9_isTaken, Cond.code yX9_isTaken cX9_isTaken 1 (some .boolean), Cond.methodLink RX0 31 yX0_sumLetGo, Cond.static yX0_sumLetGo, Cond.methodLink RX0 34 yX9_lowest, Cond.instanceMethod yX9_lowest, Cond.selects RX9 yX9_lowest yX9_lowest, Cond.code yX9_lowest cX9_lowest 1 (some .int), Cond.methodLink RX0 41 yX9_seat, Cond.instanceMethod yX9_seat, Cond.selects RX9 yX9_seat yX9_seat, Cond.code yX9_seat cX9_seat 3 none, Cond.static yX10_put, Cond.code yX10_put cX10_put 3 none, Cond.methodLink RX0 45 yX9_unseat, Cond.instanceMethod yX9_unseat, Cond.selects RX9 yX9_unseat yX9_unseat, Cond.code yX9_unseat cX9_unseat 2 none, Cond.code yX0_sumLetGo cX0_sumLetGo 6 (some .long), Cond.methodLink RX0 49 yX9_letGo]
def wsX10_chance_r4 : List Cond := [Cond.instanceMethod yX9_letGo, Cond.selects RX9 yX9_letGo yX9_letGo, Cond.code yX9_letGo cX9_letGo 5 (some .int), Cond.methodLink RX9 63 yX9_pullAt, Cond.instanceMethod yX9_pullAt, Cond.selects RX9 yX9_pullAt yX9_pullAt, Cond.code yX9_pullAt cX9_pullAt 6 (some .int), Cond.fieldLink RX9 67 "FairWheel$Wheel" "ARMS" "[I", Cond.methodLink RX9 49 yJ9_floorMod_7cf53, Cond.static yJ9_floorMod_7cf53, Cond.initialized RJ9, Cond.code yJ9_floorMod_7cf53 cJ9_floorMod_7cf53 3 (some .int), Cond.methodLink RX9 76 yX9_wayOf, Cond.instanceMethod yX9_wayOf, Cond.selects RX9 yX9_wayOf yX9_wayOf, Cond.code yX9_wayOf cX9_wayOf 2 (some .int), Cond.methodLink RX9 79 yX9_turn, Cond.instanceMethod yX9_turn, Cond.selects RX9 yX9_turn yX9_turn, Cond.code yX9_turn cX9_turn 2 none, Cond.methodLink RX0 52 yX9_turn, Cond.methodLink RX10 220 yX0_allShares, Cond.static yX0_allShares, Cond.code yX0_allShares cX0_allShares 4 (some .long)]
def wsX10_chance_r5 : List Cond := [Cond.methodLink RX10 224 yX10_greatestDivisor, Cond.static yX10_greatestDivisor, Cond.code yX10_greatestDivisor cX10_greatestDivisor 11 (some .long)]
def wsX10_chance : List Cond := .code yX10_chance cX10_chance 10 (some .long) :: ((wsX10_chance_r1 ++ (wsX10_chance_r2 ++ (wsX10_chance_r3 ++ (wsX10_chance_r4 ++ wsX10_chance_r5)))) ++ wsX100 ++ wsX90)
def wsX10_year_r1 : List Cond := [Cond.fieldLink RX10 50 "FairWheel" "turns" "LFairWheel$Turns;", Cond.fieldLink RX10 10 "FairWheel" "wheel" "LFairWheel$Wheel;", Cond.methodLink RX10 122 yX10_isCar, Cond.static yX10_isCar, Cond.initialized RX10, Cond.code yX10_isCar cX10_isCar 1 (some .boolean), Cond.methodLink RX10 228 yX8_take, Cond.instanceMethod yX8_take, Cond.selects RX8 yX8_take yX8_take, Cond.initialized RX8, Cond.code yX8_take cX8_take 6 none, Cond.fieldLink RX8 12 "FairWheel$Turns" "wheel" "LFairWheel$Wheel;", Cond.fieldLink RX8 22 "FairWheel$Turns" "turned" "I", Cond.fieldLink RX8 18 "FairWheel$Turns" "timesLowest" "[I", Cond.constant RX8 40 (65537), Cond.methodLink RX8 58 Lib.Math.abs.name, Cond.static Lib.Math.abs.name, Cond.initialized "java/lang/Math", Cond.code Lib.Math.abs.name Lib.Math.abs.code 1 (some .int), Cond.methodLink RX8 30 yX9_copyFrom, Cond.instanceMethod yX9_copyFrom, Cond.selects RX9 yX9_copyFrom yX9_copyFrom, Cond.initialized RX9, Cond.code yX9_copyFrom cX9_copyFrom 2 none]
def wsX10_year_r2 : List Cond := [Cond.fieldLink RX9 9 "FairWheel$Wheel" "weights" "[I", Cond.fieldLink RX9 15 "FairWheel$Wheel" "cars" "[I", Cond.fieldLink RX9 18 "FairWheel$Wheel" "riders" "[I", Cond.fieldLink RX9 21 "FairWheel$Wheel" "loads" "[I", Cond.fieldLink RX9 24 "FairWheel$Wheel" "lowest" "I", Cond.fieldLink RX9 28 "FairWheel$Wheel" "friction" "I", Cond.static yX10_copyRow, Cond.code yX10_copyRow cX10_copyRow 2 none, Cond.methodLink RX10 257 Lib.Math.min.name, Cond.static Lib.Math.min.name, Cond.code Lib.Math.min.name Lib.Math.min.code 2 (some .int), Cond.methodLink RX10 262 arraycopyName, Cond.native arraycopyName, Cond.static arraycopyName, Cond.initialized "java/lang/System", Cond.methodLink RX8 34 yJ7_fill_53178, Cond.static yJ7_fill_53178, Cond.initialized RJ7, Cond.code yJ7_fill_53178 cJ7_fill_53178 4 none, Cond.methodLink RX8 41 yJ9_floorMod_7cf53, Cond.static yJ9_floorMod_7cf53, Cond.initialized RJ9, Cond.code yJ9_floorMod_7cf53 cJ9_floorMod_7cf53 3 (some .int), Cond.methodLink RX8 47 yX8_change]
def wsX10_year_r3 : List Cond := [Cond.instanceMethod yX8_change, Cond.selects RX8 yX8_change yX8_change, Cond.code yX8_change cX8_change 4 none, Cond.methodLink RX8 62 yX9_lowest, Cond.instanceMethod yX9_lowest, Cond.selects RX9 yX9_lowest yX9_lowest, Cond.code yX9_lowest cX9_lowest 1 (some .int), Cond.methodLink RX8 69 yX9_unseat, Cond.instanceMethod yX9_unseat, Cond.selects RX9 yX9_unseat yX9_unseat, Cond.code yX9_unseat cX9_unseat 2 none, Cond.static yX10_at, Cond.code yX10_at cX10_at 2 (some .int), Cond.static yX10_put, Cond.code yX10_put cX10_put 3 none, Cond.methodLink RX8 72 yX9_isTaken, Cond.instanceMethod yX9_isTaken, Cond.selects RX9 yX9_isTaken yX9_isTaken, Cond.code yX9_isTaken cX9_isTaken 1 (some .boolean), Cond.methodLink RX8 76 yX9_isAboard, Cond.instanceMethod yX9_isAboard, Cond.selects RX9 yX9_isAboard yX9_isAboard, Cond.code yX9_isAboard cX9_isAboard 2 (some .boolean), Cond.methodLink RX8 80 yX9_seat]
def wsX10_year_r4 : List Cond := [Cond.instanceMethod yX9_seat, Cond.selects RX9 yX9_seat yX9_seat, Cond.code yX9_seat cX9_seat 3 none, Cond.methodLink RX8 51 yX9_turn, Cond.instanceMethod yX9_turn, Cond.selects RX9 yX9_turn yX9_turn, Cond.code yX9_turn cX9_turn 2 none, Cond.methodLink RX9 49 yJ9_floorMod_7cf53, Cond.methodLink RX8 54 yX9_letGo, Cond.instanceMethod yX9_letGo, Cond.selects RX9 yX9_letGo yX9_letGo, Cond.code yX9_letGo cX9_letGo 5 (some .int), Cond.methodLink RX9 63 yX9_pullAt, Cond.instanceMethod yX9_pullAt, Cond.selects RX9 yX9_pullAt yX9_pullAt, Cond.code yX9_pullAt cX9_pullAt 6 (some .int), Cond.fieldLink RX9 67 "FairWheel$Wheel" "ARMS" "[I", Cond.methodLink RX9 76 yX9_wayOf, Cond.instanceMethod yX9_wayOf, Cond.selects RX9 yX9_wayOf yX9_wayOf, Cond.code yX9_wayOf cX9_wayOf 2 (some .int), Cond.methodLink RX9 79 yX9_turn, Cond.methodLink RX10 232 yX8_turned, Cond.instanceMethod yX8_turned]
def wsX10_year_r5 : List Cond := [Cond.selects RX8 yX8_turned yX8_turned, Cond.code yX8_turned cX8_turned 1 (some .int), Cond.methodLink RX10 233 yX8_timesLowest, Cond.instanceMethod yX8_timesLowest, Cond.selects RX8 yX8_timesLowest yX8_timesLowest, Cond.code yX8_timesLowest cX8_timesLowest 2 (some .int)]
def wsX10_year : List Cond := .code yX10_year cX10_year 4 (some .int) :: ((wsX10_year_r1 ++ (wsX10_year_r2 ++ (wsX10_year_r3 ++ (wsX10_year_r4 ++ wsX10_year_r5)))) ++ wsX100 ++ wsX80 ++ wsX90)
def wsX10_imageOf : List Cond := .code yX10_imageOf cX10_imageOf 2 (some (.object "FairWheel$Image")) :: ([.fieldLink RX10 57 "FairWheel" "firstImage" "LFairWheel$Image;", .fieldLink RX10 61 "FairWheel" "secondImage" "LFairWheel$Image;"] ++ wsX100)
def wsX10_image_r1 : List Cond := [Cond.fieldLink RX10 10 "FairWheel" "wheel" "LFairWheel$Wheel;", Cond.fieldLink RX10 29 "FairWheel" "sights" "LFairWheel$Sights;", Cond.methodLink RX10 236 yX10_imageOf, Cond.instanceMethod yX10_imageOf, Cond.selects RX10 yX10_imageOf yX10_imageOf, Cond.initialized RX10, Cond.code yX10_imageOf cX10_imageOf 2 (some (.object "FairWheel$Image")), Cond.fieldLink RX10 57 "FairWheel" "firstImage" "LFairWheel$Image;", Cond.fieldLink RX10 61 "FairWheel" "secondImage" "LFairWheel$Image;", Cond.methodLink RX10 240 yX2_keep, Cond.instanceMethod yX2_keep, Cond.selects RX2 yX2_keep yX2_keep, Cond.initialized RX2, Cond.code yX2_keep cX2_keep 3 none, Cond.fieldLink RX2 10 "FairWheel$Image" "wheel" "LFairWheel$Wheel;", Cond.fieldLink RX2 19 "FairWheel$Image" "sights" "LFairWheel$Sights;", Cond.fieldLink RX2 23 "FairWheel$Image" "kept" "Z", Cond.methodLink RX2 27 yX9_copyFrom, Cond.instanceMethod yX9_copyFrom, Cond.selects RX9 yX9_copyFrom yX9_copyFrom, Cond.initialized RX9, Cond.code yX9_copyFrom cX9_copyFrom 2 none, Cond.fieldLink RX9 9 "FairWheel$Wheel" "weights" "[I", Cond.fieldLink RX9 15 "FairWheel$Wheel" "cars" "[I"]
def wsX10_image_r2 : List Cond := [Cond.fieldLink RX9 18 "FairWheel$Wheel" "riders" "[I", Cond.fieldLink RX9 21 "FairWheel$Wheel" "loads" "[I", Cond.fieldLink RX9 24 "FairWheel$Wheel" "lowest" "I", Cond.fieldLink RX9 28 "FairWheel$Wheel" "friction" "I", Cond.static yX10_copyRow, Cond.code yX10_copyRow cX10_copyRow 2 none, Cond.methodLink RX10 257 Lib.Math.min.name, Cond.static Lib.Math.min.name, Cond.initialized "java/lang/Math", Cond.code Lib.Math.min.name Lib.Math.min.code 2 (some .int), Cond.methodLink RX10 262 arraycopyName, Cond.native arraycopyName, Cond.static arraycopyName, Cond.initialized "java/lang/System", Cond.methodLink RX2 31 yX6_copyFrom, Cond.instanceMethod yX6_copyFrom, Cond.selects RX6 yX6_copyFrom yX6_copyFrom, Cond.initialized RX6, Cond.code yX6_copyFrom cX6_copyFrom 2 none, Cond.fieldLink RX6 9 "FairWheel$Sights" "people" "[I", Cond.fieldLink RX6 15 "FairWheel$Sights" "cars" "[I", Cond.fieldLink RX6 18 "FairWheel$Sights" "count" "I"]
def wsX10_image : List Cond := .code yX10_image cX10_image 2 (some .int) :: ((wsX10_image_r1 ++ wsX10_image_r2) ++ wsX100 ++ wsX20 ++ wsX90 ++ wsX60)
def wsX10_restore_r1 : List Cond := [Cond.fieldLink RX10 10 "FairWheel" "wheel" "LFairWheel$Wheel;", Cond.fieldLink RX10 29 "FairWheel" "sights" "LFairWheel$Sights;", Cond.methodLink RX10 236 yX10_imageOf, Cond.instanceMethod yX10_imageOf, Cond.selects RX10 yX10_imageOf yX10_imageOf, Cond.initialized RX10, Cond.code yX10_imageOf cX10_imageOf 2 (some (.object "FairWheel$Image")), Cond.fieldLink RX10 57 "FairWheel" "firstImage" "LFairWheel$Image;", Cond.fieldLink RX10 61 "FairWheel" "secondImage" "LFairWheel$Image;", Cond.methodLink RX10 244 yX2_isKept, Cond.instanceMethod yX2_isKept, Cond.selects RX2 yX2_isKept yX2_isKept, Cond.initialized RX2, Cond.code yX2_isKept cX2_isKept 1 (some .boolean), Cond.fieldLink RX2 23 "FairWheel$Image" "kept" "Z", Cond.methodLink RX10 248 yX2_giveBack, Cond.instanceMethod yX2_giveBack, Cond.selects RX2 yX2_giveBack yX2_giveBack, Cond.code yX2_giveBack cX2_giveBack 3 none, Cond.fieldLink RX2 10 "FairWheel$Image" "wheel" "LFairWheel$Wheel;", Cond.fieldLink RX2 19 "FairWheel$Image" "sights" "LFairWheel$Sights;", Cond.methodLink RX2 27 yX9_copyFrom, Cond.instanceMethod yX9_copyFrom, Cond.selects RX9 yX9_copyFrom yX9_copyFrom]
def wsX10_restore_r2 : List Cond := [Cond.initialized RX9, Cond.code yX9_copyFrom cX9_copyFrom 2 none, Cond.fieldLink RX9 9 "FairWheel$Wheel" "weights" "[I", Cond.fieldLink RX9 15 "FairWheel$Wheel" "cars" "[I", Cond.fieldLink RX9 18 "FairWheel$Wheel" "riders" "[I", Cond.fieldLink RX9 21 "FairWheel$Wheel" "loads" "[I", Cond.fieldLink RX9 24 "FairWheel$Wheel" "lowest" "I", Cond.fieldLink RX9 28 "FairWheel$Wheel" "friction" "I", Cond.static yX10_copyRow, Cond.code yX10_copyRow cX10_copyRow 2 none, Cond.methodLink RX10 257 Lib.Math.min.name, Cond.static Lib.Math.min.name, Cond.initialized "java/lang/Math", Cond.code Lib.Math.min.name Lib.Math.min.code 2 (some .int), Cond.methodLink RX10 262 arraycopyName, Cond.native arraycopyName, Cond.static arraycopyName, Cond.initialized "java/lang/System", Cond.methodLink RX2 31 yX6_copyFrom, Cond.instanceMethod yX6_copyFrom, Cond.selects RX6 yX6_copyFrom yX6_copyFrom, Cond.initialized RX6, Cond.code yX6_copyFrom cX6_copyFrom 2 none, Cond.fieldLink RX6 9 "FairWheel$Sights" "people" "[I"]
def wsX10_restore_r3 : List Cond := [Cond.fieldLink RX6 15 "FairWheel$Sights" "cars" "[I", Cond.fieldLink RX6 18 "FairWheel$Sights" "count" "I"]
def wsX10_restore : List Cond := .code yX10_restore cX10_restore 3 (some .int) :: ((wsX10_restore_r1 ++ (wsX10_restore_r2 ++ wsX10_restore_r3)) ++ wsX100 ++ wsX20 ++ wsX90 ++ wsX60)
def wsX10_told_r1 : List Cond := [Cond.fieldLink RX10 10 "FairWheel" "wheel" "LFairWheel$Wheel;", Cond.fieldLink RX10 22 "FairWheel" "pad" "LFairWheel$Pad;", Cond.fieldLink RX10 29 "FairWheel" "sights" "LFairWheel$Sights;", Cond.methodLink RX10 68 yX9_weightOf, Cond.instanceMethod yX9_weightOf, Cond.selects RX9 yX9_weightOf yX9_weightOf, Cond.initialized RX9, Cond.code yX9_weightOf cX9_weightOf 2 (some .int), Cond.fieldLink RX9 9 "FairWheel$Wheel" "weights" "[I", Cond.static yX10_at, Cond.initialized RX10, Cond.code yX10_at cX10_at 2 (some .int), Cond.methodLink RX10 251 yX9_carOf, Cond.instanceMethod yX9_carOf, Cond.selects RX9 yX9_carOf yX9_carOf, Cond.code yX9_carOf cX9_carOf 2 (some .int), Cond.fieldLink RX9 15 "FairWheel$Wheel" "cars" "[I", Cond.methodLink RX10 84 yX4_length, Cond.instanceMethod yX4_length, Cond.selects RX4 yX4_length yX4_length, Cond.initialized RX4, Cond.code yX4_length cX4_length 1 (some .int), Cond.fieldLink RX4 15 "FairWheel$Pad" "length" "I", Cond.methodLink RX10 76 yX9_friction]
def wsX10_told_r2 : List Cond := [Cond.instanceMethod yX9_friction, Cond.selects RX9 yX9_friction yX9_friction, Cond.code yX9_friction cX9_friction 1 (some .int), Cond.fieldLink RX9 28 "FairWheel$Wheel" "friction" "I", Cond.methodLink RX10 189 yX6_count, Cond.instanceMethod yX6_count, Cond.selects RX6 yX6_count yX6_count, Cond.initialized RX6, Cond.code yX6_count cX6_count 1 (some .int), Cond.fieldLink RX6 18 "FairWheel$Sights" "count" "I", Cond.methodLink RX10 254 yX9_takenCars, Cond.instanceMethod yX9_takenCars, Cond.selects RX9 yX9_takenCars yX9_takenCars, Cond.code yX9_takenCars cX9_takenCars 3 (some .int), Cond.fieldLink RX9 18 "FairWheel$Wheel" "riders" "[I"]
def wsX10_told : List Cond := .code yX10_told cX10_told 2 (some .int) :: ((wsX10_told_r1 ++ wsX10_told_r2) ++ wsX100 ++ wsX90 ++ wsX40 ++ wsX60)
def wsX11_init : List Cond := .code yX11_init cX11_init 2 none :: ([.methodLink RX11 1 objectInit, .instanceMethod objectInit, .code objectInit ⟨#[0xb1]⟩ 1 none, .arrayClass .int, .fieldLink RX11 7 "FairWheelModel" "weight" "[I", .fieldLink RX11 13 "FairWheelModel" "sits" "[I", .fieldLink RX11 16 "FairWheelModel" "stones" "[I", .fieldLink RX11 19 "FairWheelModel" "drag" "I", .fieldLink RX11 23 "FairWheelModel" "sight" "[I", .fieldLink RX11 26 "FairWheelModel" "pad" "[I", .fieldLink RX11 29 "FairWheelModel" "now" "[I", .fieldLink RX11 32 "FairWheelModel" "heap" "[I", .fieldLink RX11 35 "FairWheelModel" "image" "[I", .arrayClass .boolean, .fieldLink RX11 38 "FairWheelModel" "isKept" "[Z"] ++ wsX110)
def wsX11_in : List Cond := .code yX11_in cX11_in 3 (some .boolean) :: ([])
def wsX11_has : List Cond := .code yX11_has cX11_has 2 (some .boolean) :: ([])
def wsX11_is8 : List Cond := .code yX11_is8 cX11_is8 1 (some .boolean) :: ([.methodLink RX11 42 yX11_in, .static yX11_in, .initialized RX11, .code yX11_in cX11_in 3 (some .boolean)])
def wsX11_arm : List Cond := .code yX11_arm cX11_arm 3 (some .int) :: ([])
def wsX11_weigh : List Cond := .code yX11_weigh cX11_weigh 4 (some .int) :: ([.fieldLink RX11 7 "FairWheelModel" "weight" "[I", .methodLink RX11 46 yX11_is8, .static yX11_is8, .initialized RX11, .code yX11_is8 cX11_is8 1 (some .boolean), .methodLink RX11 42 yX11_in, .static yX11_in, .code yX11_in cX11_in 3 (some .boolean)] ++ wsX110)
def wsX11_drag : List Cond := .code yX11_drag cX11_drag 3 (some .int) :: ([.fieldLink RX11 19 "FairWheelModel" "drag" "I", .methodLink RX11 42 yX11_in, .static yX11_in, .initialized RX11, .code yX11_in cX11_in 3 (some .boolean)] ++ wsX110)
def wsX11_say : List Cond := .code yX11_say cX11_say 2 (some .int) :: ([.fieldLink RX11 50 "FairWheelModel" "signs" "I", .fieldLink RX11 26 "FairWheelModel" "pad" "[I", .methodLink RX11 42 yX11_in, .static yX11_in, .initialized RX11, .code yX11_in cX11_in 3 (some .boolean)] ++ wsX110)
def wsX11_wipe : List Cond := .code yX11_wipe cX11_wipe 2 (some .int) :: ([.fieldLink RX11 50 "FairWheelModel" "signs" "I"] ++ wsX110)
def wsX11_faultOf : List Cond := .code yX11_faultOf cX11_faultOf 5 (some .int) :: ([.fieldLink RX11 50 "FairWheelModel" "signs" "I", .fieldLink RX11 26 "FairWheelModel" "pad" "[I", .methodLink RX11 42 yX11_in, .static yX11_in, .initialized RX11, .code yX11_in cX11_in 3 (some .boolean)] ++ wsX110)
def wsX11_fault : List Cond := .code yX11_fault cX11_fault 1 (some .int) :: ([.methodLink RX11 53 yX11_faultOf, .instanceMethod yX11_faultOf, .selects RX11 yX11_faultOf yX11_faultOf, .initialized RX11, .code yX11_faultOf cX11_faultOf 5 (some .int), .fieldLink RX11 50 "FairWheelModel" "signs" "I", .fieldLink RX11 26 "FairWheelModel" "pad" "[I", .methodLink RX11 42 yX11_in, .static yX11_in, .code yX11_in cX11_in 3 (some .boolean)] ++ wsX110)
def wsX11_opens : List Cond := .code yX11_opens cX11_opens 3 (some .int) :: ([.fieldLink RX11 50 "FairWheelModel" "signs" "I", .fieldLink RX11 26 "FairWheelModel" "pad" "[I"] ++ wsX110)
def wsX11_asNow : List Cond := .code yX11_asNow cX11_asNow 2 none :: ([.fieldLink RX11 57 "FairWheelModel" "at" "I", .fieldLink RX11 60 "FairWheelModel" "foot" "I", .fieldLink RX11 63 "FairWheelModel" "turned" "I", .fieldLink RX11 66 "FairWheelModel" "bothWays" "I", .fieldLink RX11 29 "FairWheelModel" "now" "[I", .fieldLink RX11 13 "FairWheelModel" "sits" "[I", .fieldLink RX11 32 "FairWheelModel" "heap" "[I", .fieldLink RX11 16 "FairWheelModel" "stones" "[I"] ++ wsX110)
def wsX11_pullAt : List Cond := .code yX11_pullAt cX11_pullAt 5 (some .int) :: ([.fieldLink RX11 32 "FairWheelModel" "heap" "[I", .fieldLink RX11 29 "FairWheelModel" "now" "[I", .fieldLink RX11 7 "FairWheelModel" "weight" "[I", .methodLink RX11 69 yX11_arm, .static yX11_arm, .initialized RX11, .code yX11_arm cX11_arm 3 (some .int)] ++ wsX110)
def wsX11_letGo : List Cond := .code yX11_letGo cX11_letGo 3 none :: ([.fieldLink RX11 60 "FairWheelModel" "foot" "I", .fieldLink RX11 19 "FairWheelModel" "drag" "I", .fieldLink RX11 63 "FairWheelModel" "turned" "I", .fieldLink RX11 66 "FairWheelModel" "bothWays" "I", .methodLink RX11 73 yX11_pullAt, .instanceMethod yX11_pullAt, .selects RX11 yX11_pullAt yX11_pullAt, .initialized RX11, .code yX11_pullAt cX11_pullAt 5 (some .int), .fieldLink RX11 32 "FairWheelModel" "heap" "[I", .fieldLink RX11 29 "FairWheelModel" "now" "[I", .fieldLink RX11 7 "FairWheelModel" "weight" "[I", .methodLink RX11 69 yX11_arm, .static yX11_arm, .code yX11_arm cX11_arm 3 (some .int)] ++ wsX110)
def wsX11_carOf : List Cond := .code yX11_carOf cX11_carOf 4 (some .int) :: ([.fieldLink RX11 29 "FairWheelModel" "now" "[I"] ++ wsX110)
def wsX11_goText_r1 : List Cond := [Cond.fieldLink RX11 79 "FairWheelModel" "reason" "I", Cond.fieldLink RX11 50 "FairWheelModel" "signs" "I", Cond.fieldLink RX11 26 "FairWheelModel" "pad" "[I", Cond.fieldLink RX11 29 "FairWheelModel" "now" "[I", Cond.fieldLink RX11 60 "FairWheelModel" "foot" "I", Cond.fieldLink RX11 32 "FairWheelModel" "heap" "[I", Cond.methodLink RX11 76 yX11_asNow, Cond.instanceMethod yX11_asNow, Cond.selects RX11 yX11_asNow yX11_asNow, Cond.initialized RX11, Cond.code yX11_asNow cX11_asNow 2 none, Cond.fieldLink RX11 57 "FairWheelModel" "at" "I", Cond.fieldLink RX11 63 "FairWheelModel" "turned" "I", Cond.fieldLink RX11 66 "FairWheelModel" "bothWays" "I", Cond.fieldLink RX11 13 "FairWheelModel" "sits" "[I", Cond.fieldLink RX11 16 "FairWheelModel" "stones" "[I", Cond.methodLink RX11 82 yX11_opens, Cond.instanceMethod yX11_opens, Cond.selects RX11 yX11_opens yX11_opens, Cond.code yX11_opens cX11_opens 3 (some .int), Cond.methodLink RX11 42 yX11_in, Cond.static yX11_in, Cond.code yX11_in cX11_in 3 (some .boolean), Cond.methodLink RX11 85 yX11_carOf]
def wsX11_goText_r2 : List Cond := [Cond.instanceMethod yX11_carOf, Cond.selects RX11 yX11_carOf yX11_carOf, Cond.code yX11_carOf cX11_carOf 4 (some .int), Cond.methodLink RX11 88 yX11_letGo, Cond.instanceMethod yX11_letGo, Cond.selects RX11 yX11_letGo yX11_letGo, Cond.code yX11_letGo cX11_letGo 3 none, Cond.fieldLink RX11 19 "FairWheelModel" "drag" "I", Cond.methodLink RX11 73 yX11_pullAt, Cond.instanceMethod yX11_pullAt, Cond.selects RX11 yX11_pullAt yX11_pullAt, Cond.code yX11_pullAt cX11_pullAt 5 (some .int), Cond.fieldLink RX11 7 "FairWheelModel" "weight" "[I", Cond.methodLink RX11 69 yX11_arm, Cond.static yX11_arm, Cond.code yX11_arm cX11_arm 3 (some .int)]
def wsX11_goText : List Cond := .code yX11_goText cX11_goText 7 (some .int) :: ((wsX11_goText_r1 ++ wsX11_goText_r2) ++ wsX110)
def wsX11_judge_r1 : List Cond := [Cond.fieldLink RX11 79 "FairWheelModel" "reason" "I", Cond.methodLink RX11 42 yX11_in, Cond.static yX11_in, Cond.initialized RX11, Cond.code yX11_in cX11_in 3 (some .boolean), Cond.methodLink RX11 53 yX11_faultOf, Cond.instanceMethod yX11_faultOf, Cond.selects RX11 yX11_faultOf yX11_faultOf, Cond.code yX11_faultOf cX11_faultOf 5 (some .int), Cond.fieldLink RX11 50 "FairWheelModel" "signs" "I", Cond.fieldLink RX11 26 "FairWheelModel" "pad" "[I", Cond.methodLink RX11 82 yX11_opens, Cond.instanceMethod yX11_opens, Cond.selects RX11 yX11_opens yX11_opens, Cond.code yX11_opens cX11_opens 3 (some .int), Cond.methodLink RX11 91 yX11_goText, Cond.instanceMethod yX11_goText, Cond.selects RX11 yX11_goText yX11_goText, Cond.code yX11_goText cX11_goText 7 (some .int), Cond.fieldLink RX11 29 "FairWheelModel" "now" "[I", Cond.fieldLink RX11 60 "FairWheelModel" "foot" "I", Cond.fieldLink RX11 32 "FairWheelModel" "heap" "[I", Cond.methodLink RX11 76 yX11_asNow, Cond.instanceMethod yX11_asNow]
def wsX11_judge_r2 : List Cond := [Cond.selects RX11 yX11_asNow yX11_asNow, Cond.code yX11_asNow cX11_asNow 2 none, Cond.fieldLink RX11 57 "FairWheelModel" "at" "I", Cond.fieldLink RX11 63 "FairWheelModel" "turned" "I", Cond.fieldLink RX11 66 "FairWheelModel" "bothWays" "I", Cond.fieldLink RX11 13 "FairWheelModel" "sits" "[I", Cond.fieldLink RX11 16 "FairWheelModel" "stones" "[I", Cond.methodLink RX11 85 yX11_carOf, Cond.instanceMethod yX11_carOf, Cond.selects RX11 yX11_carOf yX11_carOf, Cond.code yX11_carOf cX11_carOf 4 (some .int), Cond.methodLink RX11 88 yX11_letGo, Cond.instanceMethod yX11_letGo, Cond.selects RX11 yX11_letGo yX11_letGo, Cond.code yX11_letGo cX11_letGo 3 none, Cond.fieldLink RX11 19 "FairWheelModel" "drag" "I", Cond.methodLink RX11 73 yX11_pullAt, Cond.instanceMethod yX11_pullAt, Cond.selects RX11 yX11_pullAt yX11_pullAt, Cond.code yX11_pullAt cX11_pullAt 5 (some .int), Cond.fieldLink RX11 7 "FairWheelModel" "weight" "[I", Cond.methodLink RX11 69 yX11_arm, Cond.static yX11_arm, Cond.code yX11_arm cX11_arm 3 (some .int)]
def wsX11_judge : List Cond := .code yX11_judge cX11_judge 3 (some .int) :: ((wsX11_judge_r1 ++ wsX11_judge_r2) ++ wsX110)
def wsX11_barOfText_r1 : List Cond := [Cond.methodLink RX11 53 yX11_faultOf, Cond.instanceMethod yX11_faultOf, Cond.selects RX11 yX11_faultOf yX11_faultOf, Cond.initialized RX11, Cond.code yX11_faultOf cX11_faultOf 5 (some .int), Cond.fieldLink RX11 50 "FairWheelModel" "signs" "I", Cond.fieldLink RX11 26 "FairWheelModel" "pad" "[I", Cond.methodLink RX11 42 yX11_in, Cond.static yX11_in, Cond.code yX11_in cX11_in 3 (some .boolean), Cond.methodLink RX11 82 yX11_opens, Cond.instanceMethod yX11_opens, Cond.selects RX11 yX11_opens yX11_opens, Cond.code yX11_opens cX11_opens 3 (some .int), Cond.methodLink RX11 91 yX11_goText, Cond.instanceMethod yX11_goText, Cond.selects RX11 yX11_goText yX11_goText, Cond.code yX11_goText cX11_goText 7 (some .int), Cond.fieldLink RX11 79 "FairWheelModel" "reason" "I", Cond.fieldLink RX11 29 "FairWheelModel" "now" "[I", Cond.fieldLink RX11 60 "FairWheelModel" "foot" "I", Cond.fieldLink RX11 32 "FairWheelModel" "heap" "[I", Cond.methodLink RX11 76 yX11_asNow, Cond.instanceMethod yX11_asNow]
def wsX11_barOfText_r2 : List Cond := [Cond.selects RX11 yX11_asNow yX11_asNow, Cond.code yX11_asNow cX11_asNow 2 none, Cond.fieldLink RX11 57 "FairWheelModel" "at" "I", Cond.fieldLink RX11 63 "FairWheelModel" "turned" "I", Cond.fieldLink RX11 66 "FairWheelModel" "bothWays" "I", Cond.fieldLink RX11 13 "FairWheelModel" "sits" "[I", Cond.fieldLink RX11 16 "FairWheelModel" "stones" "[I", Cond.methodLink RX11 85 yX11_carOf, Cond.instanceMethod yX11_carOf, Cond.selects RX11 yX11_carOf yX11_carOf, Cond.code yX11_carOf cX11_carOf 4 (some .int), Cond.methodLink RX11 88 yX11_letGo, Cond.instanceMethod yX11_letGo, Cond.selects RX11 yX11_letGo yX11_letGo, Cond.code yX11_letGo cX11_letGo 3 none, Cond.fieldLink RX11 19 "FairWheelModel" "drag" "I", Cond.methodLink RX11 73 yX11_pullAt, Cond.instanceMethod yX11_pullAt, Cond.selects RX11 yX11_pullAt yX11_pullAt, Cond.code yX11_pullAt cX11_pullAt 5 (some .int), Cond.fieldLink RX11 7 "FairWheelModel" "weight" "[I", Cond.methodLink RX11 69 yX11_arm, Cond.static yX11_arm, Cond.code yX11_arm cX11_arm 3 (some .int)]
def wsX11_barOfText : List Cond := .code yX11_barOfText cX11_barOfText 1 (some .int) :: ((wsX11_barOfText_r1 ++ wsX11_barOfText_r2) ++ wsX110)
def wsX11_done_r1 : List Cond := [Cond.fieldLink RX11 60 "FairWheelModel" "foot" "I", Cond.fieldLink RX11 57 "FairWheelModel" "at" "I", Cond.fieldLink RX11 13 "FairWheelModel" "sits" "[I", Cond.fieldLink RX11 29 "FairWheelModel" "now" "[I", Cond.fieldLink RX11 16 "FairWheelModel" "stones" "[I", Cond.fieldLink RX11 32 "FairWheelModel" "heap" "[I", Cond.fieldLink RX11 50 "FairWheelModel" "signs" "I", Cond.methodLink RX11 95 yX11_barOfText, Cond.instanceMethod yX11_barOfText, Cond.selects RX11 yX11_barOfText yX11_barOfText, Cond.initialized RX11, Cond.code yX11_barOfText cX11_barOfText 1 (some .int), Cond.methodLink RX11 53 yX11_faultOf, Cond.instanceMethod yX11_faultOf, Cond.selects RX11 yX11_faultOf yX11_faultOf, Cond.code yX11_faultOf cX11_faultOf 5 (some .int), Cond.fieldLink RX11 26 "FairWheelModel" "pad" "[I", Cond.methodLink RX11 42 yX11_in, Cond.static yX11_in, Cond.code yX11_in cX11_in 3 (some .boolean), Cond.methodLink RX11 82 yX11_opens, Cond.instanceMethod yX11_opens, Cond.selects RX11 yX11_opens yX11_opens, Cond.code yX11_opens cX11_opens 3 (some .int)]
def wsX11_done_r2 : List Cond := [Cond.methodLink RX11 91 yX11_goText, Cond.instanceMethod yX11_goText, Cond.selects RX11 yX11_goText yX11_goText, Cond.code yX11_goText cX11_goText 7 (some .int), Cond.fieldLink RX11 79 "FairWheelModel" "reason" "I", Cond.methodLink RX11 76 yX11_asNow, Cond.instanceMethod yX11_asNow, Cond.selects RX11 yX11_asNow yX11_asNow, Cond.code yX11_asNow cX11_asNow 2 none, Cond.fieldLink RX11 63 "FairWheelModel" "turned" "I", Cond.fieldLink RX11 66 "FairWheelModel" "bothWays" "I", Cond.methodLink RX11 85 yX11_carOf, Cond.instanceMethod yX11_carOf, Cond.selects RX11 yX11_carOf yX11_carOf, Cond.code yX11_carOf cX11_carOf 4 (some .int), Cond.methodLink RX11 88 yX11_letGo, Cond.instanceMethod yX11_letGo, Cond.selects RX11 yX11_letGo yX11_letGo, Cond.code yX11_letGo cX11_letGo 3 none, Cond.fieldLink RX11 19 "FairWheelModel" "drag" "I", Cond.methodLink RX11 73 yX11_pullAt, Cond.instanceMethod yX11_pullAt, Cond.selects RX11 yX11_pullAt yX11_pullAt, Cond.code yX11_pullAt cX11_pullAt 5 (some .int)]
def wsX11_done_r3 : List Cond := [Cond.fieldLink RX11 7 "FairWheelModel" "weight" "[I", Cond.methodLink RX11 69 yX11_arm, Cond.static yX11_arm, Cond.code yX11_arm cX11_arm 3 (some .int)]
def wsX11_done : List Cond := .code yX11_done cX11_done 3 (some .int) :: ((wsX11_done_r1 ++ (wsX11_done_r2 ++ wsX11_done_r3)) ++ wsX110)
def wsX11_foot : List Cond := .code yX11_foot cX11_foot 1 (some .int) :: ([.fieldLink RX11 57 "FairWheelModel" "at" "I"] ++ wsX110)
def wsX11_car : List Cond := .code yX11_car cX11_car 3 (some .int) :: ([.fieldLink RX11 13 "FairWheelModel" "sits" "[I", .fieldLink RX11 16 "FairWheelModel" "stones" "[I", .fieldLink RX11 57 "FairWheelModel" "at" "I", .methodLink RX11 46 yX11_is8, .static yX11_is8, .initialized RX11, .code yX11_is8 cX11_is8 1 (some .boolean), .methodLink RX11 42 yX11_in, .static yX11_in, .code yX11_in cX11_in 3 (some .boolean)] ++ wsX110)
def wsX11_pull : List Cond := .code yX11_pull cX11_pull 1 (some .int) :: ([.fieldLink RX11 60 "FairWheelModel" "foot" "I", .constant RX11 98 (1000000), .methodLink RX11 76 yX11_asNow, .instanceMethod yX11_asNow, .selects RX11 yX11_asNow yX11_asNow, .initialized RX11, .code yX11_asNow cX11_asNow 2 none, .fieldLink RX11 57 "FairWheelModel" "at" "I", .fieldLink RX11 63 "FairWheelModel" "turned" "I", .fieldLink RX11 66 "FairWheelModel" "bothWays" "I", .fieldLink RX11 29 "FairWheelModel" "now" "[I", .fieldLink RX11 13 "FairWheelModel" "sits" "[I", .fieldLink RX11 32 "FairWheelModel" "heap" "[I", .fieldLink RX11 16 "FairWheelModel" "stones" "[I", .methodLink RX11 73 yX11_pullAt, .instanceMethod yX11_pullAt, .selects RX11 yX11_pullAt yX11_pullAt, .code yX11_pullAt cX11_pullAt 5 (some .int), .fieldLink RX11 7 "FairWheelModel" "weight" "[I", .methodLink RX11 69 yX11_arm, .static yX11_arm, .code yX11_arm cX11_arm 3 (some .int)] ++ wsX110)
def wsX11_behind_r1 : List Cond := [Cond.fieldLink RX11 60 "FairWheelModel" "foot" "I", Cond.constant RX11 98 (1000000), Cond.fieldLink RX11 63 "FairWheelModel" "turned" "I", Cond.methodLink RX11 42 yX11_in, Cond.static yX11_in, Cond.initialized RX11, Cond.code yX11_in cX11_in 3 (some .boolean), Cond.methodLink RX11 95 yX11_barOfText, Cond.instanceMethod yX11_barOfText, Cond.selects RX11 yX11_barOfText yX11_barOfText, Cond.code yX11_barOfText cX11_barOfText 1 (some .int), Cond.methodLink RX11 53 yX11_faultOf, Cond.instanceMethod yX11_faultOf, Cond.selects RX11 yX11_faultOf yX11_faultOf, Cond.code yX11_faultOf cX11_faultOf 5 (some .int), Cond.fieldLink RX11 50 "FairWheelModel" "signs" "I", Cond.fieldLink RX11 26 "FairWheelModel" "pad" "[I", Cond.methodLink RX11 82 yX11_opens, Cond.instanceMethod yX11_opens, Cond.selects RX11 yX11_opens yX11_opens, Cond.code yX11_opens cX11_opens 3 (some .int), Cond.methodLink RX11 91 yX11_goText, Cond.instanceMethod yX11_goText, Cond.selects RX11 yX11_goText yX11_goText]
def wsX11_behind_r2 : List Cond := [Cond.code yX11_goText cX11_goText 7 (some .int), Cond.fieldLink RX11 79 "FairWheelModel" "reason" "I", Cond.fieldLink RX11 29 "FairWheelModel" "now" "[I", Cond.fieldLink RX11 32 "FairWheelModel" "heap" "[I", Cond.methodLink RX11 76 yX11_asNow, Cond.instanceMethod yX11_asNow, Cond.selects RX11 yX11_asNow yX11_asNow, Cond.code yX11_asNow cX11_asNow 2 none, Cond.fieldLink RX11 57 "FairWheelModel" "at" "I", Cond.fieldLink RX11 66 "FairWheelModel" "bothWays" "I", Cond.fieldLink RX11 13 "FairWheelModel" "sits" "[I", Cond.fieldLink RX11 16 "FairWheelModel" "stones" "[I", Cond.methodLink RX11 85 yX11_carOf, Cond.instanceMethod yX11_carOf, Cond.selects RX11 yX11_carOf yX11_carOf, Cond.code yX11_carOf cX11_carOf 4 (some .int), Cond.methodLink RX11 88 yX11_letGo, Cond.instanceMethod yX11_letGo, Cond.selects RX11 yX11_letGo yX11_letGo, Cond.code yX11_letGo cX11_letGo 3 none, Cond.fieldLink RX11 19 "FairWheelModel" "drag" "I", Cond.methodLink RX11 73 yX11_pullAt, Cond.instanceMethod yX11_pullAt, Cond.selects RX11 yX11_pullAt yX11_pullAt]
def wsX11_behind_r3 : List Cond := [Cond.code yX11_pullAt cX11_pullAt 5 (some .int), Cond.fieldLink RX11 7 "FairWheelModel" "weight" "[I", Cond.methodLink RX11 69 yX11_arm, Cond.static yX11_arm, Cond.code yX11_arm cX11_arm 3 (some .int)]
def wsX11_behind : List Cond := .code yX11_behind cX11_behind 3 (some .int) :: ((wsX11_behind_r1 ++ (wsX11_behind_r2 ++ wsX11_behind_r3)) ++ wsX110)
def wsX11_leftOut_r1 : List Cond := [Cond.fieldLink RX11 60 "FairWheelModel" "foot" "I", Cond.fieldLink RX11 50 "FairWheelModel" "signs" "I", Cond.fieldLink RX11 26 "FairWheelModel" "pad" "[I", Cond.methodLink RX11 95 yX11_barOfText, Cond.instanceMethod yX11_barOfText, Cond.selects RX11 yX11_barOfText yX11_barOfText, Cond.initialized RX11, Cond.code yX11_barOfText cX11_barOfText 1 (some .int), Cond.methodLink RX11 53 yX11_faultOf, Cond.instanceMethod yX11_faultOf, Cond.selects RX11 yX11_faultOf yX11_faultOf, Cond.code yX11_faultOf cX11_faultOf 5 (some .int), Cond.methodLink RX11 42 yX11_in, Cond.static yX11_in, Cond.code yX11_in cX11_in 3 (some .boolean), Cond.methodLink RX11 82 yX11_opens, Cond.instanceMethod yX11_opens, Cond.selects RX11 yX11_opens yX11_opens, Cond.code yX11_opens cX11_opens 3 (some .int), Cond.methodLink RX11 91 yX11_goText, Cond.instanceMethod yX11_goText, Cond.selects RX11 yX11_goText yX11_goText, Cond.code yX11_goText cX11_goText 7 (some .int), Cond.fieldLink RX11 79 "FairWheelModel" "reason" "I"]
def wsX11_leftOut_r2 : List Cond := [Cond.fieldLink RX11 29 "FairWheelModel" "now" "[I", Cond.fieldLink RX11 32 "FairWheelModel" "heap" "[I", Cond.methodLink RX11 76 yX11_asNow, Cond.instanceMethod yX11_asNow, Cond.selects RX11 yX11_asNow yX11_asNow, Cond.code yX11_asNow cX11_asNow 2 none, Cond.fieldLink RX11 57 "FairWheelModel" "at" "I", Cond.fieldLink RX11 63 "FairWheelModel" "turned" "I", Cond.fieldLink RX11 66 "FairWheelModel" "bothWays" "I", Cond.fieldLink RX11 13 "FairWheelModel" "sits" "[I", Cond.fieldLink RX11 16 "FairWheelModel" "stones" "[I", Cond.methodLink RX11 85 yX11_carOf, Cond.instanceMethod yX11_carOf, Cond.selects RX11 yX11_carOf yX11_carOf, Cond.code yX11_carOf cX11_carOf 4 (some .int), Cond.methodLink RX11 88 yX11_letGo, Cond.instanceMethod yX11_letGo, Cond.selects RX11 yX11_letGo yX11_letGo, Cond.code yX11_letGo cX11_letGo 3 none, Cond.fieldLink RX11 19 "FairWheelModel" "drag" "I", Cond.methodLink RX11 73 yX11_pullAt, Cond.instanceMethod yX11_pullAt, Cond.selects RX11 yX11_pullAt yX11_pullAt, Cond.code yX11_pullAt cX11_pullAt 5 (some .int)]
def wsX11_leftOut_r3 : List Cond := [Cond.fieldLink RX11 7 "FairWheelModel" "weight" "[I", Cond.methodLink RX11 69 yX11_arm, Cond.static yX11_arm, Cond.code yX11_arm cX11_arm 3 (some .int)]
def wsX11_leftOut : List Cond := .code yX11_leftOut cX11_leftOut 7 (some .int) :: ((wsX11_leftOut_r1 ++ (wsX11_leftOut_r2 ++ wsX11_leftOut_r3)) ++ wsX110)
def wsX11_move : List Cond := .code yX11_move cX11_move 4 (some .boolean) :: ([.fieldLink RX11 29 "FairWheelModel" "now" "[I", .fieldLink RX11 60 "FairWheelModel" "foot" "I", .methodLink RX11 85 yX11_carOf, .instanceMethod yX11_carOf, .selects RX11 yX11_carOf yX11_carOf, .initialized RX11, .code yX11_carOf cX11_carOf 4 (some .int), .methodLink RX11 88 yX11_letGo, .instanceMethod yX11_letGo, .selects RX11 yX11_letGo yX11_letGo, .code yX11_letGo cX11_letGo 3 none, .fieldLink RX11 19 "FairWheelModel" "drag" "I", .fieldLink RX11 63 "FairWheelModel" "turned" "I", .fieldLink RX11 66 "FairWheelModel" "bothWays" "I", .methodLink RX11 73 yX11_pullAt, .instanceMethod yX11_pullAt, .selects RX11 yX11_pullAt yX11_pullAt, .code yX11_pullAt cX11_pullAt 5 (some .int), .fieldLink RX11 32 "FairWheelModel" "heap" "[I", .fieldLink RX11 7 "FairWheelModel" "weight" "[I", .methodLink RX11 69 yX11_arm, .static yX11_arm, .code yX11_arm cX11_arm 3 (some .int)] ++ wsX110)
def wsX11_powerOf : List Cond := .code yX11_powerOf cX11_powerOf 4 (some .int) :: ([])
def wsX11_down_r1 : List Cond := [Cond.fieldLink RX11 60 "FairWheelModel" "foot" "I", Cond.methodLink RX11 46 yX11_is8, Cond.static yX11_is8, Cond.initialized RX11, Cond.code yX11_is8 cX11_is8 1 (some .boolean), Cond.methodLink RX11 42 yX11_in, Cond.static yX11_in, Cond.code yX11_in cX11_in 3 (some .boolean), Cond.methodLink RX11 76 yX11_asNow, Cond.instanceMethod yX11_asNow, Cond.selects RX11 yX11_asNow yX11_asNow, Cond.code yX11_asNow cX11_asNow 2 none, Cond.fieldLink RX11 57 "FairWheelModel" "at" "I", Cond.fieldLink RX11 63 "FairWheelModel" "turned" "I", Cond.fieldLink RX11 66 "FairWheelModel" "bothWays" "I", Cond.fieldLink RX11 29 "FairWheelModel" "now" "[I", Cond.fieldLink RX11 13 "FairWheelModel" "sits" "[I", Cond.fieldLink RX11 32 "FairWheelModel" "heap" "[I", Cond.fieldLink RX11 16 "FairWheelModel" "stones" "[I", Cond.methodLink RX11 85 yX11_carOf, Cond.instanceMethod yX11_carOf, Cond.selects RX11 yX11_carOf yX11_carOf, Cond.code yX11_carOf cX11_carOf 4 (some .int), Cond.methodLink RX11 99 yX11_powerOf]
def wsX11_down_r2 : List Cond := [Cond.static yX11_powerOf, Cond.code yX11_powerOf cX11_powerOf 4 (some .int), Cond.methodLink RX11 102 yX11_move, Cond.instanceMethod yX11_move, Cond.selects RX11 yX11_move yX11_move, Cond.code yX11_move cX11_move 4 (some .boolean), Cond.methodLink RX11 88 yX11_letGo, Cond.instanceMethod yX11_letGo, Cond.selects RX11 yX11_letGo yX11_letGo, Cond.code yX11_letGo cX11_letGo 3 none, Cond.fieldLink RX11 19 "FairWheelModel" "drag" "I", Cond.methodLink RX11 73 yX11_pullAt, Cond.instanceMethod yX11_pullAt, Cond.selects RX11 yX11_pullAt yX11_pullAt, Cond.code yX11_pullAt cX11_pullAt 5 (some .int), Cond.fieldLink RX11 7 "FairWheelModel" "weight" "[I", Cond.methodLink RX11 69 yX11_arm, Cond.static yX11_arm, Cond.code yX11_arm cX11_arm 3 (some .int)]
def wsX11_down : List Cond := .code yX11_down cX11_down 9 (some .int) :: ((wsX11_down_r1 ++ wsX11_down_r2) ++ wsX110)
def wsX11_pebbles_r1 : List Cond := [Cond.fieldLink RX11 32 "FairWheelModel" "heap" "[I", Cond.fieldLink RX11 60 "FairWheelModel" "foot" "I", Cond.methodLink RX11 46 yX11_is8, Cond.static yX11_is8, Cond.initialized RX11, Cond.code yX11_is8 cX11_is8 1 (some .boolean), Cond.methodLink RX11 42 yX11_in, Cond.static yX11_in, Cond.code yX11_in cX11_in 3 (some .boolean), Cond.methodLink RX11 76 yX11_asNow, Cond.instanceMethod yX11_asNow, Cond.selects RX11 yX11_asNow yX11_asNow, Cond.code yX11_asNow cX11_asNow 2 none, Cond.fieldLink RX11 57 "FairWheelModel" "at" "I", Cond.fieldLink RX11 63 "FairWheelModel" "turned" "I", Cond.fieldLink RX11 66 "FairWheelModel" "bothWays" "I", Cond.fieldLink RX11 29 "FairWheelModel" "now" "[I", Cond.fieldLink RX11 13 "FairWheelModel" "sits" "[I", Cond.fieldLink RX11 16 "FairWheelModel" "stones" "[I", Cond.methodLink RX11 85 yX11_carOf, Cond.instanceMethod yX11_carOf, Cond.selects RX11 yX11_carOf yX11_carOf, Cond.code yX11_carOf cX11_carOf 4 (some .int), Cond.methodLink RX11 88 yX11_letGo]
def wsX11_pebbles_r2 : List Cond := [Cond.instanceMethod yX11_letGo, Cond.selects RX11 yX11_letGo yX11_letGo, Cond.code yX11_letGo cX11_letGo 3 none, Cond.fieldLink RX11 19 "FairWheelModel" "drag" "I", Cond.methodLink RX11 73 yX11_pullAt, Cond.instanceMethod yX11_pullAt, Cond.selects RX11 yX11_pullAt yX11_pullAt, Cond.code yX11_pullAt cX11_pullAt 5 (some .int), Cond.fieldLink RX11 7 "FairWheelModel" "weight" "[I", Cond.methodLink RX11 69 yX11_arm, Cond.static yX11_arm, Cond.code yX11_arm cX11_arm 3 (some .int)]
def wsX11_pebbles : List Cond := .code yX11_pebbles cX11_pebbles 3 (some .int) :: ((wsX11_pebbles_r1 ++ wsX11_pebbles_r2) ++ wsX110)
def wsX11_greatestPull : List Cond := .code yX11_greatestPull cX11_greatestPull 4 (some .int) :: ([.methodLink RX11 73 yX11_pullAt, .instanceMethod yX11_pullAt, .selects RX11 yX11_pullAt yX11_pullAt, .initialized RX11, .code yX11_pullAt cX11_pullAt 5 (some .int), .fieldLink RX11 32 "FairWheelModel" "heap" "[I", .fieldLink RX11 29 "FairWheelModel" "now" "[I", .fieldLink RX11 7 "FairWheelModel" "weight" "[I", .methodLink RX11 69 yX11_arm, .static yX11_arm, .code yX11_arm cX11_arm 3 (some .int)] ++ wsX110)
def wsX11_brake_r1 : List Cond := [Cond.methodLink RX11 76 yX11_asNow, Cond.instanceMethod yX11_asNow, Cond.selects RX11 yX11_asNow yX11_asNow, Cond.initialized RX11, Cond.code yX11_asNow cX11_asNow 2 none, Cond.fieldLink RX11 57 "FairWheelModel" "at" "I", Cond.fieldLink RX11 60 "FairWheelModel" "foot" "I", Cond.fieldLink RX11 63 "FairWheelModel" "turned" "I", Cond.fieldLink RX11 66 "FairWheelModel" "bothWays" "I", Cond.fieldLink RX11 29 "FairWheelModel" "now" "[I", Cond.fieldLink RX11 13 "FairWheelModel" "sits" "[I", Cond.fieldLink RX11 32 "FairWheelModel" "heap" "[I", Cond.fieldLink RX11 16 "FairWheelModel" "stones" "[I", Cond.methodLink RX11 105 yX11_greatestPull, Cond.instanceMethod yX11_greatestPull, Cond.selects RX11 yX11_greatestPull yX11_greatestPull, Cond.code yX11_greatestPull cX11_greatestPull 4 (some .int), Cond.methodLink RX11 73 yX11_pullAt, Cond.instanceMethod yX11_pullAt, Cond.selects RX11 yX11_pullAt yX11_pullAt, Cond.code yX11_pullAt cX11_pullAt 5 (some .int), Cond.fieldLink RX11 7 "FairWheelModel" "weight" "[I", Cond.methodLink RX11 69 yX11_arm, Cond.static yX11_arm]
def wsX11_brake_r2 : List Cond := [Cond.code yX11_arm cX11_arm 3 (some .int)]
def wsX11_brake : List Cond := .code yX11_brake cX11_brake 1 (some .int) :: ((wsX11_brake_r1 ++ wsX11_brake_r2) ++ wsX110)
def wsX11_isSeated : List Cond := .code yX11_isSeated cX11_isSeated 8 (some .boolean) :: ([.fieldLink RX11 29 "FairWheelModel" "now" "[I", .fieldLink RX11 32 "FairWheelModel" "heap" "[I", .methodLink RX11 99 yX11_powerOf, .static yX11_powerOf, .initialized RX11, .code yX11_powerOf cX11_powerOf 4 (some .int), .methodLink RX11 108 yX11_has, .static yX11_has, .code yX11_has cX11_has 2 (some .boolean)] ++ wsX110)
def wsX11_balance_r1 : List Cond := [Cond.fieldLink RX11 19 "FairWheelModel" "drag" "I", Cond.methodLink RX11 46 yX11_is8, Cond.static yX11_is8, Cond.initialized RX11, Cond.code yX11_is8 cX11_is8 1 (some .boolean), Cond.methodLink RX11 42 yX11_in, Cond.static yX11_in, Cond.code yX11_in cX11_in 3 (some .boolean), Cond.methodLink RX11 108 yX11_has, Cond.static yX11_has, Cond.code yX11_has cX11_has 2 (some .boolean), Cond.methodLink RX11 99 yX11_powerOf, Cond.static yX11_powerOf, Cond.code yX11_powerOf cX11_powerOf 4 (some .int), Cond.methodLink RX11 112 yX11_isSeated, Cond.instanceMethod yX11_isSeated, Cond.selects RX11 yX11_isSeated yX11_isSeated, Cond.code yX11_isSeated cX11_isSeated 8 (some .boolean), Cond.fieldLink RX11 29 "FairWheelModel" "now" "[I", Cond.fieldLink RX11 32 "FairWheelModel" "heap" "[I", Cond.methodLink RX11 105 yX11_greatestPull, Cond.instanceMethod yX11_greatestPull, Cond.selects RX11 yX11_greatestPull yX11_greatestPull, Cond.code yX11_greatestPull cX11_greatestPull 4 (some .int)]
def wsX11_balance_r2 : List Cond := [Cond.methodLink RX11 73 yX11_pullAt, Cond.instanceMethod yX11_pullAt, Cond.selects RX11 yX11_pullAt yX11_pullAt, Cond.code yX11_pullAt cX11_pullAt 5 (some .int), Cond.fieldLink RX11 7 "FairWheelModel" "weight" "[I", Cond.methodLink RX11 69 yX11_arm, Cond.static yX11_arm, Cond.code yX11_arm cX11_arm 3 (some .int)]
def wsX11_balance : List Cond := .code yX11_balance cX11_balance 9 (some .int) :: ((wsX11_balance_r1 ++ wsX11_balance_r2) ++ wsX110)
def wsX11_could_r1 : List Cond := [Cond.fieldLink RX11 7 "FairWheelModel" "weight" "[I", Cond.fieldLink RX11 60 "FairWheelModel" "foot" "I", Cond.methodLink RX11 46 yX11_is8, Cond.static yX11_is8, Cond.initialized RX11, Cond.code yX11_is8 cX11_is8 1 (some .boolean), Cond.methodLink RX11 42 yX11_in, Cond.static yX11_in, Cond.code yX11_in cX11_in 3 (some .boolean), Cond.methodLink RX11 53 yX11_faultOf, Cond.instanceMethod yX11_faultOf, Cond.selects RX11 yX11_faultOf yX11_faultOf, Cond.code yX11_faultOf cX11_faultOf 5 (some .int), Cond.fieldLink RX11 50 "FairWheelModel" "signs" "I", Cond.fieldLink RX11 26 "FairWheelModel" "pad" "[I", Cond.methodLink RX11 82 yX11_opens, Cond.instanceMethod yX11_opens, Cond.selects RX11 yX11_opens yX11_opens, Cond.code yX11_opens cX11_opens 3 (some .int), Cond.methodLink RX11 91 yX11_goText, Cond.instanceMethod yX11_goText, Cond.selects RX11 yX11_goText yX11_goText, Cond.code yX11_goText cX11_goText 7 (some .int), Cond.fieldLink RX11 79 "FairWheelModel" "reason" "I"]
def wsX11_could_r2 : List Cond := [Cond.fieldLink RX11 29 "FairWheelModel" "now" "[I", Cond.fieldLink RX11 32 "FairWheelModel" "heap" "[I", Cond.methodLink RX11 76 yX11_asNow, Cond.instanceMethod yX11_asNow, Cond.selects RX11 yX11_asNow yX11_asNow, Cond.code yX11_asNow cX11_asNow 2 none, Cond.fieldLink RX11 57 "FairWheelModel" "at" "I", Cond.fieldLink RX11 63 "FairWheelModel" "turned" "I", Cond.fieldLink RX11 66 "FairWheelModel" "bothWays" "I", Cond.fieldLink RX11 13 "FairWheelModel" "sits" "[I", Cond.fieldLink RX11 16 "FairWheelModel" "stones" "[I", Cond.methodLink RX11 85 yX11_carOf, Cond.instanceMethod yX11_carOf, Cond.selects RX11 yX11_carOf yX11_carOf, Cond.code yX11_carOf cX11_carOf 4 (some .int), Cond.methodLink RX11 88 yX11_letGo, Cond.instanceMethod yX11_letGo, Cond.selects RX11 yX11_letGo yX11_letGo, Cond.code yX11_letGo cX11_letGo 3 none, Cond.fieldLink RX11 19 "FairWheelModel" "drag" "I", Cond.methodLink RX11 73 yX11_pullAt, Cond.instanceMethod yX11_pullAt, Cond.selects RX11 yX11_pullAt yX11_pullAt, Cond.code yX11_pullAt cX11_pullAt 5 (some .int)]
def wsX11_could_r3 : List Cond := [Cond.methodLink RX11 69 yX11_arm, Cond.static yX11_arm, Cond.code yX11_arm cX11_arm 3 (some .int)]
def wsX11_could : List Cond := .code yX11_could cX11_could 9 (some .int) :: ((wsX11_could_r1 ++ (wsX11_could_r2 ++ wsX11_could_r3)) ++ wsX110)
def wsX11_seen : List Cond := .code yX11_seen cX11_seen 3 (some .int) :: ([.fieldLink RX11 115 "FairWheelModel" "sights" "I", .fieldLink RX11 23 "FairWheelModel" "sight" "[I", .methodLink RX11 46 yX11_is8, .static yX11_is8, .initialized RX11, .code yX11_is8 cX11_is8 1 (some .boolean), .methodLink RX11 42 yX11_in, .static yX11_in, .code yX11_in cX11_in 3 (some .boolean)] ++ wsX110)
def wsX11_forget : List Cond := .code yX11_forget cX11_forget 2 (some .int) :: ([.fieldLink RX11 115 "FairWheelModel" "sights" "I"] ++ wsX110)
def wsX11_filled_r1 : List Cond := [Cond.fieldLink RX11 115 "FairWheelModel" "sights" "I", Cond.fieldLink RX11 29 "FairWheelModel" "now" "[I", Cond.fieldLink RX11 23 "FairWheelModel" "sight" "[I", Cond.methodLink RX11 53 yX11_faultOf, Cond.instanceMethod yX11_faultOf, Cond.selects RX11 yX11_faultOf yX11_faultOf, Cond.initialized RX11, Cond.code yX11_faultOf cX11_faultOf 5 (some .int), Cond.fieldLink RX11 50 "FairWheelModel" "signs" "I", Cond.fieldLink RX11 26 "FairWheelModel" "pad" "[I", Cond.methodLink RX11 42 yX11_in, Cond.static yX11_in, Cond.code yX11_in cX11_in 3 (some .boolean), Cond.methodLink RX11 82 yX11_opens, Cond.instanceMethod yX11_opens, Cond.selects RX11 yX11_opens yX11_opens, Cond.code yX11_opens cX11_opens 3 (some .int), Cond.methodLink RX11 99 yX11_powerOf, Cond.static yX11_powerOf, Cond.code yX11_powerOf cX11_powerOf 4 (some .int), Cond.methodLink RX11 91 yX11_goText, Cond.instanceMethod yX11_goText, Cond.selects RX11 yX11_goText yX11_goText, Cond.code yX11_goText cX11_goText 7 (some .int)]
def wsX11_filled_r2 : List Cond := [Cond.fieldLink RX11 79 "FairWheelModel" "reason" "I", Cond.fieldLink RX11 60 "FairWheelModel" "foot" "I", Cond.fieldLink RX11 32 "FairWheelModel" "heap" "[I", Cond.methodLink RX11 76 yX11_asNow, Cond.instanceMethod yX11_asNow, Cond.selects RX11 yX11_asNow yX11_asNow, Cond.code yX11_asNow cX11_asNow 2 none, Cond.fieldLink RX11 57 "FairWheelModel" "at" "I", Cond.fieldLink RX11 63 "FairWheelModel" "turned" "I", Cond.fieldLink RX11 66 "FairWheelModel" "bothWays" "I", Cond.fieldLink RX11 13 "FairWheelModel" "sits" "[I", Cond.fieldLink RX11 16 "FairWheelModel" "stones" "[I", Cond.methodLink RX11 85 yX11_carOf, Cond.instanceMethod yX11_carOf, Cond.selects RX11 yX11_carOf yX11_carOf, Cond.code yX11_carOf cX11_carOf 4 (some .int), Cond.methodLink RX11 88 yX11_letGo, Cond.instanceMethod yX11_letGo, Cond.selects RX11 yX11_letGo yX11_letGo, Cond.code yX11_letGo cX11_letGo 3 none, Cond.fieldLink RX11 19 "FairWheelModel" "drag" "I", Cond.methodLink RX11 73 yX11_pullAt, Cond.instanceMethod yX11_pullAt, Cond.selects RX11 yX11_pullAt yX11_pullAt]
def wsX11_filled_r3 : List Cond := [Cond.code yX11_pullAt cX11_pullAt 5 (some .int), Cond.fieldLink RX11 7 "FairWheelModel" "weight" "[I", Cond.methodLink RX11 69 yX11_arm, Cond.static yX11_arm, Cond.code yX11_arm cX11_arm 3 (some .int)]
def wsX11_filled : List Cond := .code yX11_filled cX11_filled 8 (some .int) :: ((wsX11_filled_r1 ++ (wsX11_filled_r2 ++ wsX11_filled_r3)) ++ wsX110)
def wsX11_offWheel : List Cond := .code yX11_offWheel cX11_offWheel 4 (some .int) :: ([.methodLink RX11 85 yX11_carOf, .instanceMethod yX11_carOf, .selects RX11 yX11_carOf yX11_carOf, .initialized RX11, .code yX11_carOf cX11_carOf 4 (some .int), .fieldLink RX11 29 "FairWheelModel" "now" "[I"] ++ wsX110)
def wsX11_chance_r1 : List Cond := [Cond.constantLong RX11 118 (-1000000000000000001), Cond.constantLong RX11 120 (-1000000000000000002), Cond.constantLong RX11 122 (840), Cond.fieldLink RX11 29 "FairWheelModel" "now" "[I", Cond.fieldLink RX11 60 "FairWheelModel" "foot" "I", Cond.methodLink RX11 46 yX11_is8, Cond.static yX11_is8, Cond.initialized RX11, Cond.code yX11_is8 cX11_is8 1 (some .boolean), Cond.methodLink RX11 42 yX11_in, Cond.static yX11_in, Cond.code yX11_in cX11_in 3 (some .boolean), Cond.methodLink RX11 99 yX11_powerOf, Cond.static yX11_powerOf, Cond.code yX11_powerOf cX11_powerOf 4 (some .int), Cond.methodLink RX11 76 yX11_asNow, Cond.instanceMethod yX11_asNow, Cond.selects RX11 yX11_asNow yX11_asNow, Cond.code yX11_asNow cX11_asNow 2 none, Cond.fieldLink RX11 57 "FairWheelModel" "at" "I", Cond.fieldLink RX11 63 "FairWheelModel" "turned" "I", Cond.fieldLink RX11 66 "FairWheelModel" "bothWays" "I", Cond.fieldLink RX11 13 "FairWheelModel" "sits" "[I", Cond.fieldLink RX11 32 "FairWheelModel" "heap" "[I"]
def wsX11_chance_r2 : List Cond := [Cond.fieldLink RX11 16 "FairWheelModel" "stones" "[I", Cond.methodLink RX11 85 yX11_carOf, Cond.instanceMethod yX11_carOf, Cond.selects RX11 yX11_carOf yX11_carOf, Cond.code yX11_carOf cX11_carOf 4 (some .int), Cond.methodLink RX11 124 yX11_offWheel, Cond.instanceMethod yX11_offWheel, Cond.selects RX11 yX11_offWheel yX11_offWheel, Cond.code yX11_offWheel cX11_offWheel 4 (some .int), Cond.methodLink RX11 88 yX11_letGo, Cond.instanceMethod yX11_letGo, Cond.selects RX11 yX11_letGo yX11_letGo, Cond.code yX11_letGo cX11_letGo 3 none, Cond.fieldLink RX11 19 "FairWheelModel" "drag" "I", Cond.methodLink RX11 73 yX11_pullAt, Cond.instanceMethod yX11_pullAt, Cond.selects RX11 yX11_pullAt yX11_pullAt, Cond.code yX11_pullAt cX11_pullAt 5 (some .int), Cond.fieldLink RX11 7 "FairWheelModel" "weight" "[I", Cond.methodLink RX11 69 yX11_arm, Cond.static yX11_arm, Cond.code yX11_arm cX11_arm 3 (some .int)]
def wsX11_chance : List Cond := .code yX11_chance cX11_chance 17 (some .long) :: ((wsX11_chance_r1 ++ wsX11_chance_r2) ++ wsX110)
def wsX11_year_r1 : List Cond := [Cond.constant RX11 127 (65537), Cond.fieldLink RX11 29 "FairWheelModel" "now" "[I", Cond.fieldLink RX11 60 "FairWheelModel" "foot" "I", Cond.fieldLink RX11 66 "FairWheelModel" "bothWays" "I", Cond.methodLink RX11 42 yX11_in, Cond.static yX11_in, Cond.initialized RX11, Cond.code yX11_in cX11_in 3 (some .boolean), Cond.methodLink RX11 76 yX11_asNow, Cond.instanceMethod yX11_asNow, Cond.selects RX11 yX11_asNow yX11_asNow, Cond.code yX11_asNow cX11_asNow 2 none, Cond.fieldLink RX11 57 "FairWheelModel" "at" "I", Cond.fieldLink RX11 63 "FairWheelModel" "turned" "I", Cond.fieldLink RX11 13 "FairWheelModel" "sits" "[I", Cond.fieldLink RX11 32 "FairWheelModel" "heap" "[I", Cond.fieldLink RX11 16 "FairWheelModel" "stones" "[I", Cond.methodLink RX11 85 yX11_carOf, Cond.instanceMethod yX11_carOf, Cond.selects RX11 yX11_carOf yX11_carOf, Cond.code yX11_carOf cX11_carOf 4 (some .int), Cond.methodLink RX11 88 yX11_letGo, Cond.instanceMethod yX11_letGo, Cond.selects RX11 yX11_letGo yX11_letGo]
def wsX11_year_r2 : List Cond := [Cond.code yX11_letGo cX11_letGo 3 none, Cond.fieldLink RX11 19 "FairWheelModel" "drag" "I", Cond.methodLink RX11 73 yX11_pullAt, Cond.instanceMethod yX11_pullAt, Cond.selects RX11 yX11_pullAt yX11_pullAt, Cond.code yX11_pullAt cX11_pullAt 5 (some .int), Cond.fieldLink RX11 7 "FairWheelModel" "weight" "[I", Cond.methodLink RX11 69 yX11_arm, Cond.static yX11_arm, Cond.code yX11_arm cX11_arm 3 (some .int)]
def wsX11_year : List Cond := .code yX11_year cX11_year 8 (some .int) :: ((wsX11_year_r1 ++ wsX11_year_r2) ++ wsX110)
def wsX11_image : List Cond := .code yX11_image cX11_image 4 (some .int) :: ([.fieldLink RX11 35 "FairWheelModel" "image" "[I", .fieldLink RX11 7 "FairWheelModel" "weight" "[I", .fieldLink RX11 13 "FairWheelModel" "sits" "[I", .fieldLink RX11 16 "FairWheelModel" "stones" "[I", .fieldLink RX11 23 "FairWheelModel" "sight" "[I", .fieldLink RX11 57 "FairWheelModel" "at" "I", .fieldLink RX11 19 "FairWheelModel" "drag" "I", .fieldLink RX11 115 "FairWheelModel" "sights" "I", .fieldLink RX11 38 "FairWheelModel" "isKept" "[Z", .methodLink RX11 42 yX11_in, .static yX11_in, .initialized RX11, .code yX11_in cX11_in 3 (some .boolean)] ++ wsX110)
def wsX11_restore : List Cond := .code yX11_restore cX11_restore 4 (some .int) :: ([.fieldLink RX11 38 "FairWheelModel" "isKept" "[Z", .fieldLink RX11 7 "FairWheelModel" "weight" "[I", .fieldLink RX11 35 "FairWheelModel" "image" "[I", .fieldLink RX11 13 "FairWheelModel" "sits" "[I", .fieldLink RX11 16 "FairWheelModel" "stones" "[I", .fieldLink RX11 23 "FairWheelModel" "sight" "[I", .fieldLink RX11 57 "FairWheelModel" "at" "I", .fieldLink RX11 19 "FairWheelModel" "drag" "I", .fieldLink RX11 115 "FairWheelModel" "sights" "I", .methodLink RX11 42 yX11_in, .static yX11_in, .initialized RX11, .code yX11_in cX11_in 3 (some .boolean)] ++ wsX110)
def wsX11_told : List Cond := .code yX11_told cX11_told 4 (some .int) :: ([.fieldLink RX11 7 "FairWheelModel" "weight" "[I", .fieldLink RX11 50 "FairWheelModel" "signs" "I", .fieldLink RX11 19 "FairWheelModel" "drag" "I", .fieldLink RX11 115 "FairWheelModel" "sights" "I", .fieldLink RX11 13 "FairWheelModel" "sits" "[I", .methodLink RX11 42 yX11_in, .static yX11_in, .initialized RX11, .code yX11_in cX11_in 3 (some .boolean), .methodLink RX11 76 yX11_asNow, .instanceMethod yX11_asNow, .selects RX11 yX11_asNow yX11_asNow, .code yX11_asNow cX11_asNow 2 none, .fieldLink RX11 57 "FairWheelModel" "at" "I", .fieldLink RX11 60 "FairWheelModel" "foot" "I", .fieldLink RX11 63 "FairWheelModel" "turned" "I", .fieldLink RX11 66 "FairWheelModel" "bothWays" "I", .fieldLink RX11 29 "FairWheelModel" "now" "[I", .fieldLink RX11 32 "FairWheelModel" "heap" "[I", .fieldLink RX11 16 "FairWheelModel" "stones" "[I", .methodLink RX11 85 yX11_carOf, .instanceMethod yX11_carOf, .selects RX11 yX11_carOf yX11_carOf, .code yX11_carOf cX11_carOf 4 (some .int)] ++ wsX110)
def wsJ9_abs_0f7a4 : List Cond := .code yJ9_abs_0f7a4 cJ9_abs_0f7a4 1 (some .int) :: ([])
def wsJ9_max_7cf53 : List Cond := .code yJ9_max_7cf53 cJ9_max_7cf53 2 (some .int) :: ([])
def wsJ9_min_7cf53 : List Cond := .code yJ9_min_7cf53 cJ9_min_7cf53 2 (some .int) :: ([])
abbrev vwCl : List vw_C := [(RX2, TX2, 3), (RX4, TX4, 3), (RX5, TX5, 3), (RX6, TX6, 3), (RX7, TX7, 7), (RX8, TX8, 3), (RX9, TX9, 6), (RX10, TX10, 9), (RX11, TX11, 17)]
end
section
theorem dX0_allShares_0 : decode cX0_allShares 0 = .ok (.lconst 1, 1) := by decide +kernel
theorem dX0_allShares_1 : decode cX0_allShares 1 = .ok (.lstore_n 1, 1) := by decide +kernel
theorem dX0_allShares_2 : decode cX0_allShares 2 = .ok (.iconst 0, 1) := by decide +kernel
theorem dX0_allShares_3 : decode cX0_allShares 3 = .ok (.istore_n 3, 1) := by decide +kernel
theorem dX0_allShares_4 : decode cX0_allShares 4 = .ok (.iload_n 3, 1) := by decide +kernel
theorem dX0_allShares_5 : decode cX0_allShares 5 = .ok (.iload_n 0, 1) := by decide +kernel
theorem dX0_allShares_6 : decode cX0_allShares 6 = .ok (.if_icmp .ge 20, 3) := by decide +kernel
theorem dX0_allShares_9 : decode cX0_allShares 9 = .ok (.iload_n 3, 1) := by decide +kernel
theorem dX0_allShares_10 : decode cX0_allShares 10 = .ok (.iconst 3, 1) := by decide +kernel
theorem dX0_allShares_11 : decode cX0_allShares 11 = .ok (.if_icmp .ge 15, 3) := by decide +kernel
theorem dX0_allShares_14 : decode cX0_allShares 14 = .ok (.lload_n 1, 1) := by decide +kernel
theorem dX0_allShares_15 : decode cX0_allShares 15 = .ok (.ldc2_w 11, 3) := by decide +kernel
theorem dX0_allShares_18 : decode cX0_allShares 18 = .ok (.lmul, 1) := by decide +kernel
theorem dX0_allShares_19 : decode cX0_allShares 19 = .ok (.lstore_n 1, 1) := by decide +kernel
theorem dX0_allShares_20 : decode cX0_allShares 20 = .ok (.iinc 3 1, 3) := by decide +kernel
theorem dX0_allShares_23 : decode cX0_allShares 23 = .ok (.goto (-19), 3) := by decide +kernel
theorem dX0_allShares_26 : decode cX0_allShares 26 = .ok (.lload_n 1, 1) := by decide +kernel
theorem dX0_allShares_27 : decode cX0_allShares 27 = .ok (.lreturn, 1) := by decide +kernel
set_option maxRecDepth 20000 in
theorem ggX0_shares_X0_sum : GoodIn wsX0_shares wsX0_sum := goodIn_r _ [4, 5, 6, 7, 8, 9, 10, 11, 12, 13, 14, 15, 16, 17, 3, 18, 19, 20, 21, 22, 23, 24, 25, 26, 27, 28, 29, 30, 31, 32, 33, 34, 35, 36, 37, 38, 39, 40, 41, 42, 43, 44, 45, 46, 47, 48, 49, 50, 51, 52, 53, 54, 55, 56, 57, 58, 59, 60, 61, 62, 63, 64, 65, 66, 67, 68, 1, 2, 69, 70, 71, 72, 73, 74, 75] (by decide +kernel) (by decide +kernel)
set_option maxRecDepth 20000 in
theorem gX0_shares_X0_sum : GoodIn wsX0_shares (va_wsS RX0 13 yX0_sum wsX0_sum) := goodIn_app (goodIn_of _ (by decide +kernel)) ggX0_shares_X0_sum
theorem dX0_shares_0 : decode cX0_shares 0 = .ok (.iload_n 2, 1) := by decide +kernel
theorem dX0_shares_1 : decode cX0_shares 1 = .ok (.ifCond .lt 8, 3) := by decide +kernel
theorem dX0_shares_4 : decode cX0_shares 4 = .ok (.iload_n 2, 1) := by decide +kernel
theorem dX0_shares_5 : decode cX0_shares 5 = .ok (.iconst 3, 1) := by decide +kernel
theorem dX0_shares_6 : decode cX0_shares 6 = .ok (.if_icmp .le 7, 3) := by decide +kernel
theorem dX0_shares_9 : decode cX0_shares 9 = .ok (.lconst 0, 1) := by decide +kernel
theorem dX0_shares_10 : decode cX0_shares 10 = .ok (.goto 9, 3) := by decide +kernel
theorem dX0_shares_13 : decode cX0_shares 13 = .ok (.aload_n 0, 1) := by decide +kernel
theorem dX0_shares_14 : decode cX0_shares 14 = .ok (.iload_n 1, 1) := by decide +kernel
theorem dX0_shares_15 : decode cX0_shares 15 = .ok (.iload_n 2, 1) := by decide +kernel
theorem dX0_shares_16 : decode cX0_shares 16 = .ok (.invokestatic 13, 3) := by decide +kernel
theorem dX0_shares_19 : decode cX0_shares 19 = .ok (.lreturn, 1) := by decide +kernel
set_option maxRecDepth 20000 in
theorem ggX0_sum_X9_isLowest : GoodIn wsX0_sum wsX9_isLowest := goodIn_r _ [6, 7, 8, 9, 10, 11, 69, 70, 71, 72, 73, 74] (by decide +kernel) (by decide +kernel)
set_option maxRecDepth 20000 in
theorem gX0_sum_X9_isLowest : GoodIn wsX0_sum (wsV RX0 17 RX9 yX9_isLowest wsX9_isLowest) := goodIn_app (goodIn_of _ (by decide +kernel)) ggX0_sum_X9_isLowest
set_option maxRecDepth 20000 in
theorem ggX0_sum_X0_waiting : GoodIn wsX0_sum wsX0_waiting := goodIn_r _ [15, 16, 17, 18, 5, 19, 7, 9, 10, 11, 69, 70, 71, 72, 73, 74] (by decide +kernel) (by decide +kernel)
set_option maxRecDepth 20000 in
theorem gX0_sum_X0_waiting : GoodIn wsX0_sum (va_wsS RX0 23 yX0_waiting wsX0_waiting) := goodIn_app (goodIn_of _ (by decide +kernel)) ggX0_sum_X0_waiting
set_option maxRecDepth 20000 in
theorem ggX0_sum_X9_isTaken : GoodIn wsX0_sum wsX9_isTaken := goodIn_r _ [23, 24, 8, 9, 10, 11, 69, 70, 71, 72, 73, 74] (by decide +kernel) (by decide +kernel)
set_option maxRecDepth 20000 in
theorem gX0_sum_X9_isTaken : GoodIn wsX0_sum (wsV RX0 27 RX9 yX9_isTaken wsX9_isTaken) := goodIn_app (goodIn_of _ (by decide +kernel)) ggX0_sum_X9_isTaken
set_option maxRecDepth 20000 in
theorem ggX0_sum_X0_sumLetGo : GoodIn wsX0_sum wsX0_sumLetGo := goodIn_r _ [41, 42, 43, 44, 5, 45, 8, 46, 47, 48, 49, 24, 50, 51, 52, 9, 10, 11, 53, 54, 55, 56, 57, 58, 59, 60, 61, 62, 63, 64, 65, 66, 67, 14, 68, 0, 1, 2, 3, 4, 6, 7, 12, 13, 15, 16, 17, 18, 19, 20, 21, 22, 23, 25, 26, 27, 28, 29, 30, 31, 32, 33, 34, 35, 36, 37, 38, 39, 40, 69, 70, 71, 72, 73, 74] (by decide +kernel) (by decide +kernel)
set_option maxRecDepth 20000 in
theorem gX0_sum_X0_sumLetGo : GoodIn wsX0_sum (va_wsS RX0 31 yX0_sumLetGo wsX0_sumLetGo) := goodIn_app (goodIn_of _ (by decide +kernel)) ggX0_sum_X0_sumLetGo
set_option maxRecDepth 20000 in
theorem ggX0_sum_X9_lowest : GoodIn wsX0_sum wsX9_lowest := goodIn_r _ [30, 8, 69, 70, 71, 72, 73, 74] (by decide +kernel) (by decide +kernel)
set_option maxRecDepth 20000 in
theorem gX0_sum_X9_lowest : GoodIn wsX0_sum (wsV RX0 34 RX9 yX9_lowest wsX9_lowest) := goodIn_app (goodIn_of _ (by decide +kernel)) ggX0_sum_X9_lowest
set_option maxRecDepth 20000 in
theorem ggX0_sum_X9_isAboard : GoodIn wsX0_sum wsX9_isAboard := goodIn_r _ [19, 7, 9, 10, 11, 69, 70, 71, 72, 73, 74] (by decide +kernel) (by decide +kernel)
set_option maxRecDepth 20000 in
theorem gX0_sum_X9_isAboard : GoodIn wsX0_sum (wsV RX0 38 RX9 yX9_isAboard wsX9_isAboard) := goodIn_app (goodIn_of _ (by decide +kernel)) ggX0_sum_X9_isAboard
set_option maxRecDepth 20000 in
theorem ggX0_sum_X9_seat : GoodIn wsX0_sum wsX9_seat := goodIn_r _ [34, 24, 7, 35, 10, 36, 69, 70, 71, 72, 73, 74] (by decide +kernel) (by decide +kernel)
set_option maxRecDepth 20000 in
theorem gX0_sum_X9_seat : GoodIn wsX0_sum (wsV RX0 41 RX9 yX9_seat wsX9_seat) := goodIn_app (goodIn_of _ (by decide +kernel)) ggX0_sum_X9_seat
set_option maxRecDepth 20000 in
theorem ggX0_sum_X9_unseat : GoodIn wsX0_sum wsX9_unseat := goodIn_r _ [40, 7, 24, 9, 10, 11, 35, 36, 69, 70, 71, 72, 73, 74] (by decide +kernel) (by decide +kernel)
set_option maxRecDepth 20000 in
theorem gX0_sum_X9_unseat : GoodIn wsX0_sum (wsV RX0 45 RX9 yX9_unseat wsX9_unseat) := goodIn_app (goodIn_of _ (by decide +kernel)) ggX0_sum_X9_unseat
theorem dX0_sum_0 : decode cX0_sum 0 = .ok (.iload_n 2, 1) := by decide +kernel
theorem dX0_sum_1 : decode cX0_sum 1 = .ok (.ifCond .gt 17, 3) := by decide +kernel
theorem dX0_sum_4 : decode cX0_sum 4 = .ok (.aload_n 0, 1) := by decide +kernel
theorem dX0_sum_5 : decode cX0_sum 5 = .ok (.iload_n 1, 1) := by decide +kernel
theorem dX0_sum_6 : decode cX0_sum 6 = .ok (.invokevirtual 17, 3) := by decide +kernel
theorem dX0_sum_9 : decode cX0_sum 9 = .ok (.ifCond .eq 7, 3) := by decide +kernel
theorem dX0_sum_12 : decode cX0_sum 12 = .ok (.lconst 1, 1) := by decide +kernel
theorem dX0_sum_13 : decode cX0_sum 13 = .ok (.goto 4, 3) := by decide +kernel
theorem dX0_sum_16 : decode cX0_sum 16 = .ok (.lconst 0, 1) := by decide +kernel
theorem dX0_sum_17 : decode cX0_sum 17 = .ok (.lreturn, 1) := by decide +kernel
theorem dX0_sum_18 : decode cX0_sum 18 = .ok (.aload_n 0, 1) := by decide +kernel
theorem dX0_sum_19 : decode cX0_sum 19 = .ok (.invokestatic 23, 3) := by decide +kernel
theorem dX0_sum_22 : decode cX0_sum 22 = .ok (.istore_n 3, 1) := by decide +kernel
theorem dX0_sum_23 : decode cX0_sum 23 = .ok (.aload_n 0, 1) := by decide +kernel
theorem dX0_sum_24 : decode cX0_sum 24 = .ok (.invokevirtual 27, 3) := by decide +kernel
theorem dX0_sum_27 : decode cX0_sum 27 = .ok (.ifCond .ne 7, 3) := by decide +kernel
theorem dX0_sum_30 : decode cX0_sum 30 = .ok (.iload_n 3, 1) := by decide +kernel
theorem dX0_sum_31 : decode cX0_sum 31 = .ok (.ifCond .gt 14, 3) := by decide +kernel
theorem dX0_sum_34 : decode cX0_sum 34 = .ok (.ldc2_w 11, 3) := by decide +kernel
theorem dX0_sum_37 : decode cX0_sum 37 = .ok (.aload_n 0, 1) := by decide +kernel
theorem dX0_sum_38 : decode cX0_sum 38 = .ok (.iload_n 1, 1) := by decide +kernel
theorem dX0_sum_39 : decode cX0_sum 39 = .ok (.iload_n 2, 1) := by decide +kernel
theorem dX0_sum_40 : decode cX0_sum 40 = .ok (.invokestatic 31, 3) := by decide +kernel
theorem dX0_sum_43 : decode cX0_sum 43 = .ok (.lmul, 1) := by decide +kernel
theorem dX0_sum_44 : decode cX0_sum 44 = .ok (.lreturn, 1) := by decide +kernel
theorem dX0_sum_45 : decode cX0_sum 45 = .ok (.aload_n 0, 1) := by decide +kernel
theorem dX0_sum_46 : decode cX0_sum 46 = .ok (.invokevirtual 34, 3) := by decide +kernel
theorem dX0_sum_49 : decode cX0_sum 49 = .ok (.istore 4, 2) := by decide +kernel
theorem dX0_sum_51 : decode cX0_sum 51 = .ok (.lconst 0, 1) := by decide +kernel
theorem dX0_sum_52 : decode cX0_sum 52 = .ok (.lstore 5, 2) := by decide +kernel
theorem dX0_sum_54 : decode cX0_sum 54 = .ok (.iconst 0, 1) := by decide +kernel
theorem dX0_sum_55 : decode cX0_sum 55 = .ok (.istore 7, 2) := by decide +kernel
theorem dX0_sum_57 : decode cX0_sum 57 = .ok (.iload 7, 2) := by decide +kernel
theorem dX0_sum_59 : decode cX0_sum 59 = .ok (.bipush 8, 2) := by decide +kernel
theorem dX0_sum_61 : decode cX0_sum 61 = .ok (.if_icmp .ge 43, 3) := by decide +kernel
theorem dX0_sum_64 : decode cX0_sum 64 = .ok (.aload_n 0, 1) := by decide +kernel
theorem dX0_sum_65 : decode cX0_sum 65 = .ok (.iload 7, 2) := by decide +kernel
theorem dX0_sum_67 : decode cX0_sum 67 = .ok (.invokevirtual 38, 3) := by decide +kernel
theorem dX0_sum_70 : decode cX0_sum 70 = .ok (.ifCond .ne 28, 3) := by decide +kernel
theorem dX0_sum_73 : decode cX0_sum 73 = .ok (.aload_n 0, 1) := by decide +kernel
theorem dX0_sum_74 : decode cX0_sum 74 = .ok (.iload 7, 2) := by decide +kernel
theorem dX0_sum_76 : decode cX0_sum 76 = .ok (.iload 4, 2) := by decide +kernel
theorem dX0_sum_78 : decode cX0_sum 78 = .ok (.invokevirtual 41, 3) := by decide +kernel
theorem dX0_sum_81 : decode cX0_sum 81 = .ok (.lload 5, 2) := by decide +kernel
theorem dX0_sum_83 : decode cX0_sum 83 = .ok (.aload_n 0, 1) := by decide +kernel
theorem dX0_sum_84 : decode cX0_sum 84 = .ok (.iload_n 1, 1) := by decide +kernel
theorem dX0_sum_85 : decode cX0_sum 85 = .ok (.iload_n 2, 1) := by decide +kernel
theorem dX0_sum_86 : decode cX0_sum 86 = .ok (.invokestatic 31, 3) := by decide +kernel
theorem dX0_sum_89 : decode cX0_sum 89 = .ok (.ladd, 1) := by decide +kernel
theorem dX0_sum_90 : decode cX0_sum 90 = .ok (.lstore 5, 2) := by decide +kernel
theorem dX0_sum_92 : decode cX0_sum 92 = .ok (.aload_n 0, 1) := by decide +kernel
theorem dX0_sum_93 : decode cX0_sum 93 = .ok (.iload 4, 2) := by decide +kernel
theorem dX0_sum_95 : decode cX0_sum 95 = .ok (.invokevirtual 45, 3) := by decide +kernel
theorem dX0_sum_98 : decode cX0_sum 98 = .ok (.iinc 7 1, 3) := by decide +kernel
theorem dX0_sum_101 : decode cX0_sum 101 = .ok (.goto (-44), 3) := by decide +kernel
theorem dX0_sum_104 : decode cX0_sum 104 = .ok (.sipush 840, 3) := by decide +kernel
theorem dX0_sum_107 : decode cX0_sum 107 = .ok (.iload_n 3, 1) := by decide +kernel
theorem dX0_sum_108 : decode cX0_sum 108 = .ok (.idiv, 1) := by decide +kernel
theorem dX0_sum_109 : decode cX0_sum 109 = .ok (.i2l, 1) := by decide +kernel
theorem dX0_sum_110 : decode cX0_sum 110 = .ok (.lload 5, 2) := by decide +kernel
theorem dX0_sum_112 : decode cX0_sum 112 = .ok (.lmul, 1) := by decide +kernel
theorem dX0_sum_113 : decode cX0_sum 113 = .ok (.lreturn, 1) := by decide +kernel
set_option maxRecDepth 20000 in
theorem ggX0_sumLetGo_X9_letGo : GoodIn wsX0_sumLetGo wsX9_letGo := goodIn_r _ [5, 6, 7, 8, 9, 4, 10, 11, 12, 13, 14, 15, 16, 17, 18, 19, 20, 21, 22, 23, 24, 25, 26, 27, 28, 29, 30, 69, 70, 71, 72, 73, 74] (by decide +kernel) (by decide +kernel)
set_option maxRecDepth 20000 in
theorem gX0_sumLetGo_X9_letGo : GoodIn wsX0_sumLetGo (wsV RX0 49 RX9 yX9_letGo wsX9_letGo) := goodIn_app (goodIn_of _ (by decide +kernel)) ggX0_sumLetGo_X9_letGo
set_option maxRecDepth 20000 in
theorem ggX0_sumLetGo_X0_sum : GoodIn wsX0_sumLetGo wsX0_sum := goodIn_r _ [35, 36, 37, 38, 39, 4, 40, 41, 6, 15, 16, 17, 42, 43, 33, 44, 45, 46, 47, 48, 49, 50, 51, 52, 11, 53, 54, 55, 56, 57, 58, 59, 60, 61, 62, 63, 64, 65, 66, 67, 68, 0, 1, 2, 3, 5, 7, 8, 9, 10, 12, 13, 14, 18, 19, 20, 21, 22, 23, 24, 25, 26, 27, 28, 29, 30, 31, 32, 34, 69, 70, 71, 72, 73, 74] (by decide +kernel) (by decide +kernel)
set_option maxRecDepth 20000 in
theorem gX0_sumLetGo_X0_sum : GoodIn wsX0_sumLetGo (va_wsS RX0 13 yX0_sum wsX0_sum) := goodIn_app (goodIn_of _ (by decide +kernel)) ggX0_sumLetGo_X0_sum
set_option maxRecDepth 20000 in
theorem ggX0_sumLetGo_X9_turn : GoodIn wsX0_sumLetGo wsX9_turn := goodIn_r _ [30, 6, 18, 19, 20, 21, 69, 70, 71, 72, 73, 74] (by decide +kernel) (by decide +kernel)
set_option maxRecDepth 20000 in
theorem gX0_sumLetGo_X9_turn : GoodIn wsX0_sumLetGo (wsV RX0 52 RX9 yX9_turn wsX9_turn) := goodIn_app (goodIn_of _ (by decide +kernel)) ggX0_sumLetGo_X9_turn
theorem dX0_sumLetGo_0 : decode cX0_sumLetGo 0 = .ok (.aload_n 0, 1) := by decide +kernel
theorem dX0_sumLetGo_1 : decode cX0_sumLetGo 1 = .ok (.invokevirtual 49, 3) := by decide +kernel
theorem dX0_sumLetGo_4 : decode cX0_sumLetGo 4 = .ok (.istore_n 3, 1) := by decide +kernel
theorem dX0_sumLetGo_5 : decode cX0_sumLetGo 5 = .ok (.aload_n 0, 1) := by decide +kernel
theorem dX0_sumLetGo_6 : decode cX0_sumLetGo 6 = .ok (.iload_n 1, 1) := by decide +kernel
theorem dX0_sumLetGo_7 : decode cX0_sumLetGo 7 = .ok (.iload_n 2, 1) := by decide +kernel
theorem dX0_sumLetGo_8 : decode cX0_sumLetGo 8 = .ok (.iconst 1, 1) := by decide +kernel
theorem dX0_sumLetGo_9 : decode cX0_sumLetGo 9 = .ok (.isub, 1) := by decide +kernel
theorem dX0_sumLetGo_10 : decode cX0_sumLetGo 10 = .ok (.invokestatic 13, 3) := by decide +kernel
theorem dX0_sumLetGo_13 : decode cX0_sumLetGo 13 = .ok (.lstore 4, 2) := by decide +kernel
theorem dX0_sumLetGo_15 : decode cX0_sumLetGo 15 = .ok (.aload_n 0, 1) := by decide +kernel
theorem dX0_sumLetGo_16 : decode cX0_sumLetGo 16 = .ok (.iload_n 3, 1) := by decide +kernel
theorem dX0_sumLetGo_17 : decode cX0_sumLetGo 17 = .ok (.ineg, 1) := by decide +kernel
theorem dX0_sumLetGo_18 : decode cX0_sumLetGo 18 = .ok (.invokevirtual 52, 3) := by decide +kernel
theorem dX0_sumLetGo_21 : decode cX0_sumLetGo 21 = .ok (.lload 4, 2) := by decide +kernel
theorem dX0_sumLetGo_23 : decode cX0_sumLetGo 23 = .ok (.lreturn, 1) := by decide +kernel
set_option maxRecDepth 20000 in
theorem ggX0_waiting_X9_isAboard : GoodIn wsX0_waiting wsX9_isAboard := goodIn_r _ [5, 6, 7, 8, 9, 10, 11, 12, 13, 14, 15] (by decide +kernel) (by decide +kernel)
set_option maxRecDepth 20000 in
theorem gX0_waiting_X9_isAboard : GoodIn wsX0_waiting (wsV RX0 38 RX9 yX9_isAboard wsX9_isAboard) := goodIn_app (goodIn_of _ (by decide +kernel)) ggX0_waiting_X9_isAboard
theorem dX0_waiting_0 : decode cX0_waiting 0 = .ok (.iconst 0, 1) := by decide +kernel
theorem dX0_waiting_1 : decode cX0_waiting 1 = .ok (.istore_n 1, 1) := by decide +kernel
theorem dX0_waiting_2 : decode cX0_waiting 2 = .ok (.iconst 0, 1) := by decide +kernel
theorem dX0_waiting_3 : decode cX0_waiting 3 = .ok (.istore_n 2, 1) := by decide +kernel
theorem dX0_waiting_4 : decode cX0_waiting 4 = .ok (.iload_n 2, 1) := by decide +kernel
theorem dX0_waiting_5 : decode cX0_waiting 5 = .ok (.bipush 8, 2) := by decide +kernel
theorem dX0_waiting_7 : decode cX0_waiting 7 = .ok (.if_icmp .ge 20, 3) := by decide +kernel
theorem dX0_waiting_10 : decode cX0_waiting 10 = .ok (.aload_n 0, 1) := by decide +kernel
theorem dX0_waiting_11 : decode cX0_waiting 11 = .ok (.iload_n 2, 1) := by decide +kernel
theorem dX0_waiting_12 : decode cX0_waiting 12 = .ok (.invokevirtual 38, 3) := by decide +kernel
theorem dX0_waiting_15 : decode cX0_waiting 15 = .ok (.ifCond .ne 6, 3) := by decide +kernel
theorem dX0_waiting_18 : decode cX0_waiting 18 = .ok (.iinc 1 1, 3) := by decide +kernel
theorem dX0_waiting_21 : decode cX0_waiting 21 = .ok (.iinc 2 1, 3) := by decide +kernel
theorem dX0_waiting_24 : decode cX0_waiting 24 = .ok (.goto (-20), 3) := by decide +kernel
theorem dX0_waiting_27 : decode cX0_waiting 27 = .ok (.iload_n 1, 1) := by decide +kernel
theorem dX0_waiting_28 : decode cX0_waiting 28 = .ok (.ireturn, 1) := by decide +kernel
theorem dX1_howMany_0 : decode cX1_howMany 0 = .ok (.iload_n 0, 1) := by decide +kernel
theorem dX1_howMany_1 : decode cX1_howMany 1 = .ok (.ifCond .lt 8, 3) := by decide +kernel
theorem dX1_howMany_4 : decode cX1_howMany 4 = .ok (.iload_n 0, 1) := by decide +kernel
theorem dX1_howMany_5 : decode cX1_howMany 5 = .ok (.iconst 3, 1) := by decide +kernel
theorem dX1_howMany_6 : decode cX1_howMany 6 = .ok (.if_icmp .le 7, 3) := by decide +kernel
theorem dX1_howMany_9 : decode cX1_howMany 9 = .ok (.iconst 0, 1) := by decide +kernel
theorem dX1_howMany_10 : decode cX1_howMany 10 = .ok (.goto 8, 3) := by decide +kernel
theorem dX1_howMany_13 : decode cX1_howMany 13 = .ok (.iconst 1, 1) := by decide +kernel
theorem dX1_howMany_14 : decode cX1_howMany 14 = .ok (.iconst 3, 1) := by decide +kernel
theorem dX1_howMany_15 : decode cX1_howMany 15 = .ok (.iload_n 0, 1) := by decide +kernel
theorem dX1_howMany_16 : decode cX1_howMany 16 = .ok (.imul, 1) := by decide +kernel
theorem dX1_howMany_17 : decode cX1_howMany 17 = .ok (.ishl, 1) := by decide +kernel
theorem dX1_howMany_18 : decode cX1_howMany 18 = .ok (.ireturn, 1) := by decide +kernel
theorem dX1_personAt_0 : decode cX1_personAt 0 = .ok (.iload_n 0, 1) := by decide +kernel
theorem dX1_personAt_1 : decode cX1_personAt 1 = .ok (.iconst 3, 1) := by decide +kernel
theorem dX1_personAt_2 : decode cX1_personAt 2 = .ok (.iload_n 2, 1) := by decide +kernel
theorem dX1_personAt_3 : decode cX1_personAt 3 = .ok (.iconst 1, 1) := by decide +kernel
theorem dX1_personAt_4 : decode cX1_personAt 4 = .ok (.isub, 1) := by decide +kernel
theorem dX1_personAt_5 : decode cX1_personAt 5 = .ok (.iload_n 1, 1) := by decide +kernel
theorem dX1_personAt_6 : decode cX1_personAt 6 = .ok (.isub, 1) := by decide +kernel
theorem dX1_personAt_7 : decode cX1_personAt 7 = .ok (.imul, 1) := by decide +kernel
theorem dX1_personAt_8 : decode cX1_personAt 8 = .ok (.ishr, 1) := by decide +kernel
theorem dX1_personAt_9 : decode cX1_personAt 9 = .ok (.bipush 7, 2) := by decide +kernel
theorem dX1_personAt_11 : decode cX1_personAt 11 = .ok (.iand, 1) := by decide +kernel
theorem dX1_personAt_12 : decode cX1_personAt 12 = .ok (.ireturn, 1) := by decide +kernel
set_option maxRecDepth 20000 in
theorem ggX2_init_X9_init : GoodIn wsX2_init wsX9_init := goodIn_r _ [15, 16, 2, 3, 17, 18, 19, 20, 21, 22, 23, 24, 25, 26, 27, 35, 36, 37, 38, 39, 40] (by decide +kernel) (by decide +kernel)
set_option maxRecDepth 20000 in
theorem gX2_init_X9_init : GoodIn wsX2_init (wsX9_init) := ggX2_init_X9_init
set_option maxRecDepth 20000 in
theorem ggX2_init_X6_init : GoodIn wsX2_init wsX6_init := goodIn_r _ [30, 31, 2, 3, 17, 32, 33, 34, 44, 45, 46] (by decide +kernel) (by decide +kernel)
set_option maxRecDepth 20000 in
theorem gX2_init_X6_init : GoodIn wsX2_init (wsX6_init) := ggX2_init_X6_init
theorem dX2_init_0 : decode cX2_init 0 = .ok (.aload_n 0, 1) := by decide +kernel
theorem dX2_init_1 : decode cX2_init 1 = .ok (.invokespecial 1, 3) := by decide +kernel
theorem dX2_init_4 : decode cX2_init 4 = .ok (.aload_n 0, 1) := by decide +kernel
theorem dX2_init_5 : decode cX2_init 5 = .ok (.new 7, 3) := by decide +kernel
theorem dX2_init_8 : decode cX2_init 8 = .ok (.dup, 1) := by decide +kernel
theorem dX2_init_9 : decode cX2_init 9 = .ok (.invokespecial 9, 3) := by decide +kernel
theorem dX2_init_12 : decode cX2_init 12 = .ok (.putfield 10, 3) := by decide +kernel
theorem dX2_init_15 : decode cX2_init 15 = .ok (.aload_n 0, 1) := by decide +kernel
theorem dX2_init_16 : decode cX2_init 16 = .ok (.new 16, 3) := by decide +kernel
theorem dX2_init_19 : decode cX2_init 19 = .ok (.dup, 1) := by decide +kernel
theorem dX2_init_20 : decode cX2_init 20 = .ok (.invokespecial 18, 3) := by decide +kernel
theorem dX2_init_23 : decode cX2_init 23 = .ok (.putfield 19, 3) := by decide +kernel
theorem dX2_init_26 : decode cX2_init 26 = .ok (.aload_n 0, 1) := by decide +kernel
theorem dX2_init_27 : decode cX2_init 27 = .ok (.iconst 0, 1) := by decide +kernel
theorem dX2_init_28 : decode cX2_init 28 = .ok (.putfield 23, 3) := by decide +kernel
theorem dX2_init_31 : decode cX2_init 31 = .ok (.return_, 1) := by decide +kernel
theorem dX2_isKept_0 : decode cX2_isKept 0 = .ok (.aload_n 0, 1) := by decide +kernel
theorem dX2_isKept_1 : decode cX2_isKept 1 = .ok (.getfield 23, 3) := by decide +kernel
theorem dX2_isKept_4 : decode cX2_isKept 4 = .ok (.ireturn, 1) := by decide +kernel
set_option maxRecDepth 20000 in
theorem ggX2_keep_X9_copyFrom : GoodIn wsX2_keep wsX9_copyFrom := goodIn_r _ [8, 9, 10, 11, 12, 13, 14, 15, 16, 17, 18, 19, 20, 21, 22, 23, 24, 25, 37, 38, 39, 40, 41, 42] (by decide +kernel) (by decide +kernel)
set_option maxRecDepth 20000 in
theorem gX2_keep_X9_copyFrom : GoodIn wsX2_keep (wsV RX2 27 RX9 yX9_copyFrom wsX9_copyFrom) := goodIn_app (goodIn_of _ (by decide +kernel)) ggX2_keep_X9_copyFrom
set_option maxRecDepth 20000 in
theorem ggX2_keep_X6_copyFrom : GoodIn wsX2_keep wsX6_copyFrom := goodIn_r _ [30, 31, 32, 33, 15, 16, 17, 18, 19, 20, 21, 22, 23, 24, 25, 43, 44, 45] (by decide +kernel) (by decide +kernel)
set_option maxRecDepth 20000 in
theorem gX2_keep_X6_copyFrom : GoodIn wsX2_keep (wsV RX2 31 RX6 yX6_copyFrom wsX6_copyFrom) := goodIn_app (goodIn_of _ (by decide +kernel)) ggX2_keep_X6_copyFrom
theorem dX2_keep_0 : decode cX2_keep 0 = .ok (.aload_n 0, 1) := by decide +kernel
theorem dX2_keep_1 : decode cX2_keep 1 = .ok (.getfield 10, 3) := by decide +kernel
theorem dX2_keep_4 : decode cX2_keep 4 = .ok (.aload_n 1, 1) := by decide +kernel
theorem dX2_keep_5 : decode cX2_keep 5 = .ok (.invokevirtual 27, 3) := by decide +kernel
theorem dX2_keep_8 : decode cX2_keep 8 = .ok (.aload_n 0, 1) := by decide +kernel
theorem dX2_keep_9 : decode cX2_keep 9 = .ok (.getfield 19, 3) := by decide +kernel
theorem dX2_keep_12 : decode cX2_keep 12 = .ok (.aload_n 2, 1) := by decide +kernel
theorem dX2_keep_13 : decode cX2_keep 13 = .ok (.invokevirtual 31, 3) := by decide +kernel
theorem dX2_keep_16 : decode cX2_keep 16 = .ok (.aload_n 0, 1) := by decide +kernel
theorem dX2_keep_17 : decode cX2_keep 17 = .ok (.iconst 1, 1) := by decide +kernel
theorem dX2_keep_18 : decode cX2_keep 18 = .ok (.putfield 23, 3) := by decide +kernel
theorem dX2_keep_21 : decode cX2_keep 21 = .ok (.return_, 1) := by decide +kernel
set_option maxRecDepth 20000 in
theorem ggX2_giveBack_X9_copyFrom : GoodIn wsX2_giveBack wsX9_copyFrom := goodIn_r _ [7, 8, 9, 10, 11, 12, 13, 14, 15, 16, 17, 18, 19, 20, 21, 22, 23, 24, 36, 37, 38, 39, 40, 41] (by decide +kernel) (by decide +kernel)
set_option maxRecDepth 20000 in
theorem gX2_giveBack_X9_copyFrom : GoodIn wsX2_giveBack (wsV RX2 27 RX9 yX9_copyFrom wsX9_copyFrom) := goodIn_app (goodIn_of _ (by decide +kernel)) ggX2_giveBack_X9_copyFrom
set_option maxRecDepth 20000 in
theorem ggX2_giveBack_X6_copyFrom : GoodIn wsX2_giveBack wsX6_copyFrom := goodIn_r _ [29, 30, 31, 32, 14, 15, 16, 17, 18, 19, 20, 21, 22, 23, 24, 42, 43, 44] (by decide +kernel) (by decide +kernel)
set_option maxRecDepth 20000 in
theorem gX2_giveBack_X6_copyFrom : GoodIn wsX2_giveBack (wsV RX2 31 RX6 yX6_copyFrom wsX6_copyFrom) := goodIn_app (goodIn_of _ (by decide +kernel)) ggX2_giveBack_X6_copyFrom
theorem dX2_giveBack_0 : decode cX2_giveBack 0 = .ok (.aload_n 1, 1) := by decide +kernel
theorem dX2_giveBack_1 : decode cX2_giveBack 1 = .ok (.aload_n 0, 1) := by decide +kernel
theorem dX2_giveBack_2 : decode cX2_giveBack 2 = .ok (.getfield 10, 3) := by decide +kernel
theorem dX2_giveBack_5 : decode cX2_giveBack 5 = .ok (.invokevirtual 27, 3) := by decide +kernel
theorem dX2_giveBack_8 : decode cX2_giveBack 8 = .ok (.aload_n 2, 1) := by decide +kernel
theorem dX2_giveBack_9 : decode cX2_giveBack 9 = .ok (.aload_n 0, 1) := by decide +kernel
theorem dX2_giveBack_10 : decode cX2_giveBack 10 = .ok (.getfield 19, 3) := by decide +kernel
theorem dX2_giveBack_13 : decode cX2_giveBack 13 = .ok (.invokevirtual 31, 3) := by decide +kernel
theorem dX2_giveBack_16 : decode cX2_giveBack 16 = .ok (.return_, 1) := by decide +kernel
set_option maxRecDepth 20000 in
theorem ggX3_getsOut_X9_isTaken : GoodIn wsX3_getsOut wsX9_isTaken := goodIn_r _ [5, 6, 7, 8, 9, 10, 11, 12, 13, 14, 15, 16] (by decide +kernel) (by decide +kernel)
set_option maxRecDepth 20000 in
theorem gX3_getsOut_X9_isTaken : GoodIn wsX3_getsOut (wsV RX3 11 RX9 yX9_isTaken wsX9_isTaken) := goodIn_app (goodIn_of _ (by decide +kernel)) ggX3_getsOut_X9_isTaken
theorem dX3_getsOut_0 : decode cX3_getsOut 0 = .ok (.iload_n 1, 1) := by decide +kernel
theorem dX3_getsOut_1 : decode cX3_getsOut 1 = .ok (.bipush 8, 2) := by decide +kernel
theorem dX3_getsOut_3 : decode cX3_getsOut 3 = .ok (.if_icmp .eq 14, 3) := by decide +kernel
theorem dX3_getsOut_6 : decode cX3_getsOut 6 = .ok (.aload_n 0, 1) := by decide +kernel
theorem dX3_getsOut_7 : decode cX3_getsOut 7 = .ok (.invokevirtual 11, 3) := by decide +kernel
theorem dX3_getsOut_10 : decode cX3_getsOut 10 = .ok (.ifCond .eq 7, 3) := by decide +kernel
theorem dX3_getsOut_13 : decode cX3_getsOut 13 = .ok (.iconst 1, 1) := by decide +kernel
theorem dX3_getsOut_14 : decode cX3_getsOut 14 = .ok (.goto 4, 3) := by decide +kernel
theorem dX3_getsOut_17 : decode cX3_getsOut 17 = .ok (.iconst 0, 1) := by decide +kernel
theorem dX3_getsOut_18 : decode cX3_getsOut 18 = .ok (.ireturn, 1) := by decide +kernel
set_option maxRecDepth 20000 in
theorem ggX3_canBe_X9_isTaken : GoodIn wsX3_canBe wsX9_isTaken := goodIn_r _ [5, 6, 7, 8, 9, 10, 20, 21, 22, 23, 24, 25] (by decide +kernel) (by decide +kernel)
set_option maxRecDepth 20000 in
theorem gX3_canBe_X9_isTaken : GoodIn wsX3_canBe (wsV RX3 11 RX9 yX9_isTaken wsX9_isTaken) := goodIn_app (goodIn_of _ (by decide +kernel)) ggX3_canBe_X9_isTaken
set_option maxRecDepth 20000 in
theorem ggX3_canBe_X9_isLowest : GoodIn wsX3_canBe wsX9_isLowest := goodIn_r _ [14, 15, 7, 8, 9, 10, 20, 21, 22, 23, 24, 25] (by decide +kernel) (by decide +kernel)
set_option maxRecDepth 20000 in
theorem gX3_canBe_X9_isLowest : GoodIn wsX3_canBe (wsV RX3 17 RX9 yX9_isLowest wsX9_isLowest) := goodIn_app (goodIn_of _ (by decide +kernel)) ggX3_canBe_X9_isLowest
set_option maxRecDepth 20000 in
theorem ggX3_canBe_X9_isAboard : GoodIn wsX3_canBe wsX9_isAboard := goodIn_r _ [19, 15, 8, 9, 10, 20, 21, 22, 23, 24, 25] (by decide +kernel) (by decide +kernel)
set_option maxRecDepth 20000 in
theorem gX3_canBe_X9_isAboard : GoodIn wsX3_canBe (wsV RX3 21 RX9 yX9_isAboard wsX9_isAboard) := goodIn_app (goodIn_of _ (by decide +kernel)) ggX3_canBe_X9_isAboard
theorem dX3_canBe_0 : decode cX3_canBe 0 = .ok (.iload_n 1, 1) := by decide +kernel
theorem dX3_canBe_1 : decode cX3_canBe 1 = .ok (.bipush 8, 2) := by decide +kernel
theorem dX3_canBe_3 : decode cX3_canBe 3 = .ok (.if_icmp .ne 5, 3) := by decide +kernel
theorem dX3_canBe_6 : decode cX3_canBe 6 = .ok (.iconst 1, 1) := by decide +kernel
theorem dX3_canBe_7 : decode cX3_canBe 7 = .ok (.ireturn, 1) := by decide +kernel
theorem dX3_canBe_8 : decode cX3_canBe 8 = .ok (.iload_n 1, 1) := by decide +kernel
theorem dX3_canBe_9 : decode cX3_canBe 9 = .ok (.bipush 9, 2) := by decide +kernel
theorem dX3_canBe_11 : decode cX3_canBe 11 = .ok (.if_icmp .ne 10, 3) := by decide +kernel
theorem dX3_canBe_14 : decode cX3_canBe 14 = .ok (.aload_n 0, 1) := by decide +kernel
theorem dX3_canBe_15 : decode cX3_canBe 15 = .ok (.invokevirtual 11, 3) := by decide +kernel
theorem dX3_canBe_18 : decode cX3_canBe 18 = .ok (.goto 24, 3) := by decide +kernel
theorem dX3_canBe_21 : decode cX3_canBe 21 = .ok (.aload_n 0, 1) := by decide +kernel
theorem dX3_canBe_22 : decode cX3_canBe 22 = .ok (.iload_n 1, 1) := by decide +kernel
theorem dX3_canBe_23 : decode cX3_canBe 23 = .ok (.invokevirtual 17, 3) := by decide +kernel
theorem dX3_canBe_26 : decode cX3_canBe 26 = .ok (.ifCond .ne 11, 3) := by decide +kernel
theorem dX3_canBe_29 : decode cX3_canBe 29 = .ok (.aload_n 0, 1) := by decide +kernel
theorem dX3_canBe_30 : decode cX3_canBe 30 = .ok (.iload_n 1, 1) := by decide +kernel
theorem dX3_canBe_31 : decode cX3_canBe 31 = .ok (.invokevirtual 21, 3) := by decide +kernel
theorem dX3_canBe_34 : decode cX3_canBe 34 = .ok (.ifCond .ne 7, 3) := by decide +kernel
theorem dX3_canBe_37 : decode cX3_canBe 37 = .ok (.iconst 1, 1) := by decide +kernel
theorem dX3_canBe_38 : decode cX3_canBe 38 = .ok (.goto 4, 3) := by decide +kernel
theorem dX3_canBe_41 : decode cX3_canBe 41 = .ok (.iconst 0, 1) := by decide +kernel
theorem dX3_canBe_42 : decode cX3_canBe 42 = .ok (.ireturn, 1) := by decide +kernel
set_option maxRecDepth 20000 in
theorem ggX3_make_X9_lowest : GoodIn wsX3_make wsX9_lowest := goodIn_r _ [5, 6, 48, 49, 50, 51, 52, 53] (by decide +kernel) (by decide +kernel)
set_option maxRecDepth 20000 in
theorem gX3_make_X9_lowest : GoodIn wsX3_make (wsV RX3 24 RX9 yX9_lowest wsX9_lowest) := goodIn_app (goodIn_of _ (by decide +kernel)) ggX3_make_X9_lowest
set_option maxRecDepth 20000 in
theorem ggX3_make_X9_unseat : GoodIn wsX3_make wsX9_unseat := goodIn_r _ [10, 11, 12, 13, 14, 15, 16, 17, 48, 49, 50, 51, 52, 53] (by decide +kernel) (by decide +kernel)
set_option maxRecDepth 20000 in
theorem gX3_make_X9_unseat : GoodIn wsX3_make (wsV RX3 28 RX9 yX9_unseat wsX9_unseat) := goodIn_app (goodIn_of _ (by decide +kernel)) ggX3_make_X9_unseat
set_option maxRecDepth 20000 in
theorem ggX3_make_X10_isPerson : GoodIn wsX3_make wsX10_isPerson := goodIn_r _ [19] (by decide +kernel) (by decide +kernel)
set_option maxRecDepth 20000 in
theorem gX3_make_X10_isPerson_n32 : GoodIn wsX3_make (wsX10_isPerson) := ggX3_make_X10_isPerson
set_option maxRecDepth 20000 in
theorem ggX3_make_X9_seat : GoodIn wsX3_make wsX9_seat := goodIn_r _ [23, 12, 11, 16, 14, 17, 48, 49, 50, 51, 52, 53] (by decide +kernel) (by decide +kernel)
set_option maxRecDepth 20000 in
theorem gX3_make_X9_seat : GoodIn wsX3_make (wsV RX3 35 RX9 yX9_seat wsX9_seat) := goodIn_app (goodIn_of _ (by decide +kernel)) ggX3_make_X9_seat
set_option maxRecDepth 20000 in
theorem ggX3_make_X9_letGo : GoodIn wsX3_make wsX9_letGo := goodIn_r _ [27, 6, 28, 29, 30, 4, 31, 12, 32, 33, 34, 13, 14, 15, 35, 36, 37, 38, 39, 40, 41, 42, 43, 44, 45, 46, 47, 48, 49, 50, 51, 52, 53] (by decide +kernel) (by decide +kernel)
set_option maxRecDepth 20000 in
theorem gX3_make_X9_letGo : GoodIn wsX3_make (wsV RX3 39 RX9 yX9_letGo wsX9_letGo) := goodIn_app (goodIn_of _ (by decide +kernel)) ggX3_make_X9_letGo
theorem dX3_make_0 : decode cX3_make 0 = .ok (.iload_n 1, 1) := by decide +kernel
theorem dX3_make_1 : decode cX3_make 1 = .ok (.bipush 8, 2) := by decide +kernel
theorem dX3_make_3 : decode cX3_make 3 = .ok (.if_icmp .eq 11, 3) := by decide +kernel
theorem dX3_make_6 : decode cX3_make 6 = .ok (.aload_n 0, 1) := by decide +kernel
theorem dX3_make_7 : decode cX3_make 7 = .ok (.aload_n 0, 1) := by decide +kernel
theorem dX3_make_8 : decode cX3_make 8 = .ok (.invokevirtual 24, 3) := by decide +kernel
theorem dX3_make_11 : decode cX3_make 11 = .ok (.invokevirtual 28, 3) := by decide +kernel
theorem dX3_make_14 : decode cX3_make 14 = .ok (.iload_n 1, 1) := by decide +kernel
theorem dX3_make_15 : decode cX3_make 15 = .ok (.invokestatic 32, 3) := by decide +kernel
theorem dX3_make_18 : decode cX3_make 18 = .ok (.ifCond .eq 12, 3) := by decide +kernel
theorem dX3_make_21 : decode cX3_make 21 = .ok (.aload_n 0, 1) := by decide +kernel
theorem dX3_make_22 : decode cX3_make 22 = .ok (.iload_n 1, 1) := by decide +kernel
theorem dX3_make_23 : decode cX3_make 23 = .ok (.aload_n 0, 1) := by decide +kernel
theorem dX3_make_24 : decode cX3_make 24 = .ok (.invokevirtual 24, 3) := by decide +kernel
theorem dX3_make_27 : decode cX3_make 27 = .ok (.invokevirtual 35, 3) := by decide +kernel
theorem dX3_make_30 : decode cX3_make 30 = .ok (.aload_n 0, 1) := by decide +kernel
theorem dX3_make_31 : decode cX3_make 31 = .ok (.invokevirtual 39, 3) := by decide +kernel
theorem dX3_make_34 : decode cX3_make 34 = .ok (.pop, 1) := by decide +kernel
theorem dX3_make_35 : decode cX3_make 35 = .ok (.return_, 1) := by decide +kernel
set_option maxRecDepth 20000 in
theorem ggX3_first_X3_search : GoodIn wsX3_first wsX3_search := goodIn_r _ [4, 5, 6, 7, 8, 9, 10, 11, 12, 13, 14, 15, 16, 17, 18, 19, 20, 3, 21, 22, 23, 24, 25, 26, 27, 28, 29, 30, 31, 32, 33, 34, 35, 36, 37, 38, 39, 40, 41, 42, 43, 44, 45, 46, 47, 48, 49, 50, 51, 52, 53, 54, 55, 56, 57, 58, 59, 60, 61, 62, 63, 64, 65, 66, 67, 68, 69, 70, 71, 72, 73, 1, 2, 74, 75, 76, 77, 78, 79, 80, 81, 82, 83, 84, 85] (by decide +kernel) (by decide +kernel)
set_option maxRecDepth 20000 in
theorem gX3_first_X3_search : GoodIn wsX3_first (va_wsS RX3 42 yX3_search wsX3_search) := goodIn_app (goodIn_of _ (by decide +kernel)) ggX3_first_X3_search
theorem dX3_first_0 : decode cX3_first 0 = .ok (.iload_n 2, 1) := by decide +kernel
theorem dX3_first_1 : decode cX3_first 1 = .ok (.iconst 1, 1) := by decide +kernel
theorem dX3_first_2 : decode cX3_first 2 = .ok (.if_icmp .lt 8, 3) := by decide +kernel
theorem dX3_first_5 : decode cX3_first 5 = .ok (.iload_n 2, 1) := by decide +kernel
theorem dX3_first_6 : decode cX3_first 6 = .ok (.iconst 3, 1) := by decide +kernel
theorem dX3_first_7 : decode cX3_first 7 = .ok (.if_icmp .le 8, 3) := by decide +kernel
theorem dX3_first_10 : decode cX3_first 10 = .ok (.bipush (-6), 2) := by decide +kernel
theorem dX3_first_12 : decode cX3_first 12 = .ok (.goto 9, 3) := by decide +kernel
theorem dX3_first_15 : decode cX3_first 15 = .ok (.aload_n 0, 1) := by decide +kernel
theorem dX3_first_16 : decode cX3_first 16 = .ok (.iload_n 1, 1) := by decide +kernel
theorem dX3_first_17 : decode cX3_first 17 = .ok (.iload_n 2, 1) := by decide +kernel
theorem dX3_first_18 : decode cX3_first 18 = .ok (.invokestatic 42, 3) := by decide +kernel
theorem dX3_first_21 : decode cX3_first 21 = .ok (.ireturn, 1) := by decide +kernel
set_option maxRecDepth 20000 in
theorem ggX3_search_X9_lowest : GoodIn wsX3_search wsX9_lowest := goodIn_r _ [5, 6, 79, 80, 81, 82, 83, 84] (by decide +kernel) (by decide +kernel)
set_option maxRecDepth 20000 in
theorem gX3_search_X9_lowest : GoodIn wsX3_search (wsV RX3 24 RX9 yX9_lowest wsX9_lowest) := goodIn_app (goodIn_of _ (by decide +kernel)) ggX3_search_X9_lowest
set_option maxRecDepth 20000 in
theorem ggX3_search_X9_riderOf : GoodIn wsX3_search wsX9_riderOf := goodIn_r _ [10, 11, 12, 13, 14, 79, 80, 81, 82, 83, 84] (by decide +kernel) (by decide +kernel)
set_option maxRecDepth 20000 in
theorem gX3_search_X9_riderOf : GoodIn wsX3_search (wsV RX3 46 RX9 yX9_riderOf wsX9_riderOf) := goodIn_app (goodIn_of _ (by decide +kernel)) ggX3_search_X9_riderOf
set_option maxRecDepth 20000 in
theorem ggX3_search_X3_canBe : GoodIn wsX3_search wsX3_canBe := goodIn_r _ [18, 19, 20, 21, 4, 22, 11, 6, 12, 13, 14, 23, 24, 25, 26, 27, 28, 29, 30, 31, 79, 80, 81, 82, 83, 84] (by decide +kernel) (by decide +kernel)
set_option maxRecDepth 20000 in
theorem gX3_search_X3_canBe : GoodIn wsX3_search (va_wsS RX3 50 yX3_canBe wsX3_canBe) := goodIn_app (goodIn_of _ (by decide +kernel)) ggX3_search_X3_canBe
set_option maxRecDepth 20000 in
theorem ggX3_search_X3_make : GoodIn wsX3_search wsX3_make := goodIn_r _ [34, 1, 2, 3, 4, 5, 6, 35, 36, 37, 38, 27, 11, 12, 13, 14, 39, 40, 41, 42, 43, 44, 45, 46, 47, 48, 49, 50, 51, 52, 53, 54, 55, 56, 57, 58, 59, 60, 61, 62, 63, 64, 65, 66, 67, 68, 69, 70, 79, 80, 81, 82, 83, 84] (by decide +kernel) (by decide +kernel)
set_option maxRecDepth 20000 in
theorem gX3_search_X3_make : GoodIn wsX3_search (va_wsS RX3 54 yX3_make wsX3_make) := goodIn_app (goodIn_of _ (by decide +kernel)) ggX3_search_X3_make
set_option maxRecDepth 20000 in
theorem ggX3_search_X9_isLowest : GoodIn wsX3_search wsX9_isLowest := goodIn_r _ [26, 27, 6, 12, 13, 14, 79, 80, 81, 82, 83, 84] (by decide +kernel) (by decide +kernel)
set_option maxRecDepth 20000 in
theorem gX3_search_X9_isLowest : GoodIn wsX3_search (wsV RX3 17 RX9 yX9_isLowest wsX9_isLowest) := goodIn_app (goodIn_of _ (by decide +kernel)) ggX3_search_X9_isLowest
set_option maxRecDepth 20000 in
theorem ggX3_search_X3_search : GoodIn wsX3_search wsX3_search := goodIn_r _ [0, 1, 2, 3, 4, 5, 6, 7, 8, 9, 10, 11, 12, 13, 14, 15, 16, 17, 18, 19, 20, 21, 22, 23, 24, 25, 26, 27, 28, 29, 30, 31, 32, 33, 34, 35, 36, 37, 38, 39, 40, 41, 42, 43, 44, 45, 46, 47, 48, 49, 50, 51, 52, 53, 54, 55, 56, 57, 58, 59, 60, 61, 62, 63, 64, 65, 66, 67, 68, 69, 70, 71, 72, 73, 74, 75, 76, 77, 78, 79, 80, 81, 82, 83, 84] (by decide +kernel) (by decide +kernel)
set_option maxRecDepth 20000 in
theorem gX3_search_X3_search : GoodIn wsX3_search (va_wsS RX3 42 yX3_search wsX3_search) := goodIn_app (goodIn_of _ (by decide +kernel)) ggX3_search_X3_search
set_option maxRecDepth 20000 in
theorem ggX3_search_X9_takeBack : GoodIn wsX3_search wsX9_takeBack := goodIn_r _ [76, 6, 58, 59, 60, 61, 77, 36, 37, 4, 38, 27, 11, 12, 13, 14, 39, 40, 78, 44, 45, 46, 79, 80, 81, 82, 83, 84] (by decide +kernel) (by decide +kernel)
set_option maxRecDepth 20000 in
theorem gX3_search_X9_takeBack : GoodIn wsX3_search (wsV RX3 58 RX9 yX9_takeBack wsX9_takeBack) := goodIn_app (goodIn_of _ (by decide +kernel)) ggX3_search_X9_takeBack
theorem dX3_search_0 : decode cX3_search 0 = .ok (.aload_n 0, 1) := by decide +kernel
theorem dX3_search_1 : decode cX3_search 1 = .ok (.invokevirtual 24, 3) := by decide +kernel
theorem dX3_search_4 : decode cX3_search 4 = .ok (.istore_n 3, 1) := by decide +kernel
theorem dX3_search_5 : decode cX3_search 5 = .ok (.aload_n 0, 1) := by decide +kernel
theorem dX3_search_6 : decode cX3_search 6 = .ok (.iload_n 3, 1) := by decide +kernel
theorem dX3_search_7 : decode cX3_search 7 = .ok (.invokevirtual 46, 3) := by decide +kernel
theorem dX3_search_10 : decode cX3_search 10 = .ok (.istore 4, 2) := by decide +kernel
theorem dX3_search_12 : decode cX3_search 12 = .ok (.iconst 0, 1) := by decide +kernel
theorem dX3_search_13 : decode cX3_search 13 = .ok (.istore 5, 2) := by decide +kernel
theorem dX3_search_15 : decode cX3_search 15 = .ok (.iload 5, 2) := by decide +kernel
theorem dX3_search_17 : decode cX3_search 17 = .ok (.bipush 10, 2) := by decide +kernel
theorem dX3_search_19 : decode cX3_search 19 = .ok (.if_icmp .ge 72, 3) := by decide +kernel
theorem dX3_search_22 : decode cX3_search 22 = .ok (.aload_n 0, 1) := by decide +kernel
theorem dX3_search_23 : decode cX3_search 23 = .ok (.iload 5, 2) := by decide +kernel
theorem dX3_search_25 : decode cX3_search 25 = .ok (.invokestatic 50, 3) := by decide +kernel
theorem dX3_search_28 : decode cX3_search 28 = .ok (.ifCond .eq 57, 3) := by decide +kernel
theorem dX3_search_31 : decode cX3_search 31 = .ok (.aload_n 0, 1) := by decide +kernel
theorem dX3_search_32 : decode cX3_search 32 = .ok (.iload 5, 2) := by decide +kernel
theorem dX3_search_34 : decode cX3_search 34 = .ok (.invokestatic 54, 3) := by decide +kernel
theorem dX3_search_37 : decode cX3_search 37 = .ok (.iload_n 2, 1) := by decide +kernel
theorem dX3_search_38 : decode cX3_search 38 = .ok (.iconst 1, 1) := by decide +kernel
theorem dX3_search_39 : decode cX3_search 39 = .ok (.if_icmp .gt 11, 3) := by decide +kernel
theorem dX3_search_42 : decode cX3_search 42 = .ok (.aload_n 0, 1) := by decide +kernel
theorem dX3_search_43 : decode cX3_search 43 = .ok (.iload_n 1, 1) := by decide +kernel
theorem dX3_search_44 : decode cX3_search 44 = .ok (.invokevirtual 17, 3) := by decide +kernel
theorem dX3_search_47 : decode cX3_search 47 = .ok (.goto 21, 3) := by decide +kernel
theorem dX3_search_50 : decode cX3_search 50 = .ok (.aload_n 0, 1) := by decide +kernel
theorem dX3_search_51 : decode cX3_search 51 = .ok (.iload_n 1, 1) := by decide +kernel
theorem dX3_search_52 : decode cX3_search 52 = .ok (.iload_n 2, 1) := by decide +kernel
theorem dX3_search_53 : decode cX3_search 53 = .ok (.iconst 1, 1) := by decide +kernel
theorem dX3_search_54 : decode cX3_search 54 = .ok (.isub, 1) := by decide +kernel
theorem dX3_search_55 : decode cX3_search 55 = .ok (.invokestatic 42, 3) := by decide +kernel
theorem dX3_search_58 : decode cX3_search 58 = .ok (.bipush (-6), 2) := by decide +kernel
theorem dX3_search_60 : decode cX3_search 60 = .ok (.if_icmp .eq 7, 3) := by decide +kernel
theorem dX3_search_63 : decode cX3_search 63 = .ok (.iconst 1, 1) := by decide +kernel
theorem dX3_search_64 : decode cX3_search 64 = .ok (.goto 4, 3) := by decide +kernel
theorem dX3_search_67 : decode cX3_search 67 = .ok (.iconst 0, 1) := by decide +kernel
theorem dX3_search_68 : decode cX3_search 68 = .ok (.istore 6, 2) := by decide +kernel
theorem dX3_search_70 : decode cX3_search 70 = .ok (.aload_n 0, 1) := by decide +kernel
theorem dX3_search_71 : decode cX3_search 71 = .ok (.iload_n 3, 1) := by decide +kernel
theorem dX3_search_72 : decode cX3_search 72 = .ok (.iload 4, 2) := by decide +kernel
theorem dX3_search_74 : decode cX3_search 74 = .ok (.invokevirtual 58, 3) := by decide +kernel
theorem dX3_search_77 : decode cX3_search 77 = .ok (.iload 6, 2) := by decide +kernel
theorem dX3_search_79 : decode cX3_search 79 = .ok (.ifCond .eq 6, 3) := by decide +kernel
theorem dX3_search_82 : decode cX3_search 82 = .ok (.iload 5, 2) := by decide +kernel
theorem dX3_search_84 : decode cX3_search 84 = .ok (.ireturn, 1) := by decide +kernel
theorem dX3_search_85 : decode cX3_search 85 = .ok (.iinc 5 1, 3) := by decide +kernel
theorem dX3_search_88 : decode cX3_search 88 = .ok (.goto (-73), 3) := by decide +kernel
theorem dX3_search_91 : decode cX3_search 91 = .ok (.bipush (-6), 2) := by decide +kernel
theorem dX3_search_93 : decode cX3_search 93 = .ok (.ireturn, 1) := by decide +kernel
theorem dX4_init_0 : decode cX4_init 0 = .ok (.aload_n 0, 1) := by decide +kernel
theorem dX4_init_1 : decode cX4_init 1 = .ok (.invokespecial 3, 3) := by decide +kernel
theorem dX4_init_4 : decode cX4_init 4 = .ok (.aload_n 0, 1) := by decide +kernel
theorem dX4_init_5 : decode cX4_init 5 = .ok (.bipush 60, 2) := by decide +kernel
theorem dX4_init_7 : decode cX4_init 7 = .ok (.newarray .int, 2) := by decide +kernel
theorem dX4_init_9 : decode cX4_init 9 = .ok (.putfield 9, 3) := by decide +kernel
theorem dX4_init_12 : decode cX4_init 12 = .ok (.aload_n 0, 1) := by decide +kernel
theorem dX4_init_13 : decode cX4_init 13 = .ok (.iconst 0, 1) := by decide +kernel
theorem dX4_init_14 : decode cX4_init 14 = .ok (.putfield 15, 3) := by decide +kernel
theorem dX4_init_17 : decode cX4_init 17 = .ok (.aload_n 0, 1) := by decide +kernel
theorem dX4_init_18 : decode cX4_init 18 = .ok (.iconst 0, 1) := by decide +kernel
theorem dX4_init_19 : decode cX4_init 19 = .ok (.putfield 19, 3) := by decide +kernel
theorem dX4_init_22 : decode cX4_init 22 = .ok (.return_, 1) := by decide +kernel
theorem dX4_getsIn_0 : decode cX4_getsIn 0 = .ok (.iload_n 0, 1) := by decide +kernel
theorem dX4_getsIn_1 : decode cX4_getsIn 1 = .ok (.bipush 65, 2) := by decide +kernel
theorem dX4_getsIn_3 : decode cX4_getsIn 3 = .ok (.if_icmp .lt 13, 3) := by decide +kernel
theorem dX4_getsIn_6 : decode cX4_getsIn 6 = .ok (.iload_n 0, 1) := by decide +kernel
theorem dX4_getsIn_7 : decode cX4_getsIn 7 = .ok (.bipush 73, 2) := by decide +kernel
theorem dX4_getsIn_9 : decode cX4_getsIn 9 = .ok (.if_icmp .ge 7, 3) := by decide +kernel
theorem dX4_getsIn_12 : decode cX4_getsIn 12 = .ok (.iconst 1, 1) := by decide +kernel
theorem dX4_getsIn_13 : decode cX4_getsIn 13 = .ok (.goto 4, 3) := by decide +kernel
theorem dX4_getsIn_16 : decode cX4_getsIn 16 = .ok (.iconst 0, 1) := by decide +kernel
theorem dX4_getsIn_17 : decode cX4_getsIn 17 = .ok (.ireturn, 1) := by decide +kernel
theorem dX4_getsOut_0 : decode cX4_getsOut 0 = .ok (.iload_n 0, 1) := by decide +kernel
theorem dX4_getsOut_1 : decode cX4_getsOut 1 = .ok (.bipush 97, 2) := by decide +kernel
theorem dX4_getsOut_3 : decode cX4_getsOut 3 = .ok (.if_icmp .lt 13, 3) := by decide +kernel
theorem dX4_getsOut_6 : decode cX4_getsOut 6 = .ok (.iload_n 0, 1) := by decide +kernel
theorem dX4_getsOut_7 : decode cX4_getsOut 7 = .ok (.bipush 105, 2) := by decide +kernel
theorem dX4_getsOut_9 : decode cX4_getsOut 9 = .ok (.if_icmp .ge 7, 3) := by decide +kernel
theorem dX4_getsOut_12 : decode cX4_getsOut 12 = .ok (.iconst 1, 1) := by decide +kernel
theorem dX4_getsOut_13 : decode cX4_getsOut 13 = .ok (.goto 4, 3) := by decide +kernel
theorem dX4_getsOut_16 : decode cX4_getsOut 16 = .ok (.iconst 0, 1) := by decide +kernel
theorem dX4_getsOut_17 : decode cX4_getsOut 17 = .ok (.ireturn, 1) := by decide +kernel
theorem dX4_isDigit_0 : decode cX4_isDigit 0 = .ok (.iload_n 0, 1) := by decide +kernel
theorem dX4_isDigit_1 : decode cX4_isDigit 1 = .ok (.bipush 48, 2) := by decide +kernel
theorem dX4_isDigit_3 : decode cX4_isDigit 3 = .ok (.if_icmp .lt 13, 3) := by decide +kernel
theorem dX4_isDigit_6 : decode cX4_isDigit 6 = .ok (.iload_n 0, 1) := by decide +kernel
theorem dX4_isDigit_7 : decode cX4_isDigit 7 = .ok (.bipush 57, 2) := by decide +kernel
theorem dX4_isDigit_9 : decode cX4_isDigit 9 = .ok (.if_icmp .gt 7, 3) := by decide +kernel
theorem dX4_isDigit_12 : decode cX4_isDigit 12 = .ok (.iconst 1, 1) := by decide +kernel
theorem dX4_isDigit_13 : decode cX4_isDigit 13 = .ok (.goto 4, 3) := by decide +kernel
theorem dX4_isDigit_16 : decode cX4_isDigit 16 = .ok (.iconst 0, 1) := by decide +kernel
theorem dX4_isDigit_17 : decode cX4_isDigit 17 = .ok (.ireturn, 1) := by decide +kernel
theorem dX4_isMotion_0 : decode cX4_isMotion 0 = .ok (.iload_n 0, 1) := by decide +kernel
theorem dX4_isMotion_1 : decode cX4_isMotion 1 = .ok (.bipush 94, 2) := by decide +kernel
theorem dX4_isMotion_3 : decode cX4_isMotion 3 = .ok (.if_icmp .eq 15, 3) := by decide +kernel
theorem dX4_isMotion_6 : decode cX4_isMotion 6 = .ok (.iload_n 0, 1) := by decide +kernel
theorem dX4_isMotion_7 : decode cX4_isMotion 7 = .ok (.bipush 62, 2) := by decide +kernel
theorem dX4_isMotion_9 : decode cX4_isMotion 9 = .ok (.if_icmp .eq 9, 3) := by decide +kernel
theorem dX4_isMotion_12 : decode cX4_isMotion 12 = .ok (.iload_n 0, 1) := by decide +kernel
theorem dX4_isMotion_13 : decode cX4_isMotion 13 = .ok (.bipush 60, 2) := by decide +kernel
theorem dX4_isMotion_15 : decode cX4_isMotion 15 = .ok (.if_icmp .ne 7, 3) := by decide +kernel
theorem dX4_isMotion_18 : decode cX4_isMotion 18 = .ok (.iconst 1, 1) := by decide +kernel
theorem dX4_isMotion_19 : decode cX4_isMotion 19 = .ok (.goto 4, 3) := by decide +kernel
theorem dX4_isMotion_22 : decode cX4_isMotion 22 = .ok (.iconst 0, 1) := by decide +kernel
theorem dX4_isMotion_23 : decode cX4_isMotion 23 = .ok (.ireturn, 1) := by decide +kernel
theorem dX4_length_0 : decode cX4_length 0 = .ok (.aload_n 0, 1) := by decide +kernel
theorem dX4_length_1 : decode cX4_length 1 = .ok (.getfield 15, 3) := by decide +kernel
theorem dX4_length_4 : decode cX4_length 4 = .ok (.ireturn, 1) := by decide +kernel
set_option maxRecDepth 20000 in
theorem ggX4_signAt_X10_at : GoodIn wsX4_signAt wsX10_at := goodIn_r _ [4] (by decide +kernel) (by decide +kernel)
set_option maxRecDepth 20000 in
theorem gX4_signAt_X10_at_n22 : GoodIn wsX4_signAt (wsX10_at) := ggX4_signAt_X10_at
theorem dX4_signAt_0 : decode cX4_signAt 0 = .ok (.aload_n 0, 1) := by decide +kernel
theorem dX4_signAt_1 : decode cX4_signAt 1 = .ok (.getfield 9, 3) := by decide +kernel
theorem dX4_signAt_4 : decode cX4_signAt 4 = .ok (.iload_n 1, 1) := by decide +kernel
theorem dX4_signAt_5 : decode cX4_signAt 5 = .ok (.invokestatic 22, 3) := by decide +kernel
theorem dX4_signAt_8 : decode cX4_signAt 8 = .ok (.ireturn, 1) := by decide +kernel
set_option maxRecDepth 20000 in
theorem ggX4_write_X10_put : GoodIn wsX4_write wsX10_put := goodIn_r _ [6] (by decide +kernel) (by decide +kernel)
set_option maxRecDepth 20000 in
theorem gX4_write_X10_put_n26 : GoodIn wsX4_write (wsX10_put) := ggX4_write_X10_put
theorem dX4_write_0 : decode cX4_write 0 = .ok (.aload_n 0, 1) := by decide +kernel
theorem dX4_write_1 : decode cX4_write 1 = .ok (.getfield 15, 3) := by decide +kernel
theorem dX4_write_4 : decode cX4_write 4 = .ok (.aload_n 0, 1) := by decide +kernel
theorem dX4_write_5 : decode cX4_write 5 = .ok (.getfield 9, 3) := by decide +kernel
theorem dX4_write_8 : decode cX4_write 8 = .ok (.arraylength, 1) := by decide +kernel
theorem dX4_write_9 : decode cX4_write 9 = .ok (.if_icmp .ge 45, 3) := by decide +kernel
theorem dX4_write_12 : decode cX4_write 12 = .ok (.aload_n 0, 1) := by decide +kernel
theorem dX4_write_13 : decode cX4_write 13 = .ok (.getfield 9, 3) := by decide +kernel
theorem dX4_write_16 : decode cX4_write 16 = .ok (.aload_n 0, 1) := by decide +kernel
theorem dX4_write_17 : decode cX4_write 17 = .ok (.getfield 15, 3) := by decide +kernel
theorem dX4_write_20 : decode cX4_write 20 = .ok (.iload_n 1, 1) := by decide +kernel
theorem dX4_write_21 : decode cX4_write 21 = .ok (.invokestatic 26, 3) := by decide +kernel
theorem dX4_write_24 : decode cX4_write 24 = .ok (.aload_n 0, 1) := by decide +kernel
theorem dX4_write_25 : decode cX4_write 25 = .ok (.dup, 1) := by decide +kernel
theorem dX4_write_26 : decode cX4_write 26 = .ok (.getfield 15, 3) := by decide +kernel
theorem dX4_write_29 : decode cX4_write 29 = .ok (.iconst 1, 1) := by decide +kernel
theorem dX4_write_30 : decode cX4_write 30 = .ok (.iadd, 1) := by decide +kernel
theorem dX4_write_31 : decode cX4_write 31 = .ok (.putfield 15, 3) := by decide +kernel
theorem dX4_write_34 : decode cX4_write 34 = .ok (.aload_n 0, 1) := by decide +kernel
theorem dX4_write_35 : decode cX4_write 35 = .ok (.dup, 1) := by decide +kernel
theorem dX4_write_36 : decode cX4_write 36 = .ok (.getfield 19, 3) := by decide +kernel
theorem dX4_write_39 : decode cX4_write 39 = .ok (.iload_n 1, 1) := by decide +kernel
theorem dX4_write_40 : decode cX4_write 40 = .ok (.bipush 63, 2) := by decide +kernel
theorem dX4_write_42 : decode cX4_write 42 = .ok (.if_icmp .ne 7, 3) := by decide +kernel
theorem dX4_write_45 : decode cX4_write 45 = .ok (.iconst 1, 1) := by decide +kernel
theorem dX4_write_46 : decode cX4_write 46 = .ok (.goto 4, 3) := by decide +kernel
theorem dX4_write_49 : decode cX4_write 49 = .ok (.iconst 0, 1) := by decide +kernel
theorem dX4_write_50 : decode cX4_write 50 = .ok (.iadd, 1) := by decide +kernel
theorem dX4_write_51 : decode cX4_write 51 = .ok (.putfield 19, 3) := by decide +kernel
theorem dX4_write_54 : decode cX4_write 54 = .ok (.return_, 1) := by decide +kernel
theorem dX4_clear_0 : decode cX4_clear 0 = .ok (.aload_n 0, 1) := by decide +kernel
theorem dX4_clear_1 : decode cX4_clear 1 = .ok (.iconst 0, 1) := by decide +kernel
theorem dX4_clear_2 : decode cX4_clear 2 = .ok (.putfield 15, 3) := by decide +kernel
theorem dX4_clear_5 : decode cX4_clear 5 = .ok (.aload_n 0, 1) := by decide +kernel
theorem dX4_clear_6 : decode cX4_clear 6 = .ok (.iconst 0, 1) := by decide +kernel
theorem dX4_clear_7 : decode cX4_clear 7 = .ok (.putfield 19, 3) := by decide +kernel
theorem dX4_clear_10 : decode cX4_clear 10 = .ok (.return_, 1) := by decide +kernel
theorem dX4_asked_0 : decode cX4_asked 0 = .ok (.aload_n 0, 1) := by decide +kernel
theorem dX4_asked_1 : decode cX4_asked 1 = .ok (.getfield 19, 3) := by decide +kernel
theorem dX4_asked_4 : decode cX4_asked 4 = .ok (.ireturn, 1) := by decide +kernel
set_option maxRecDepth 20000 in
theorem ggX4_firstFault_X4_signAt : GoodIn wsX4_firstFault wsX4_signAt := goodIn_r _ [6, 7, 8, 9, 10, 23, 24, 25] (by decide +kernel) (by decide +kernel)
set_option maxRecDepth 20000 in
theorem gX4_firstFault_X4_signAt : GoodIn wsX4_firstFault (wsV RX4 30 RX4 yX4_signAt wsX4_signAt) := goodIn_app (goodIn_of _ (by decide +kernel)) ggX4_firstFault_X4_signAt
set_option maxRecDepth 20000 in
theorem ggX4_firstFault_X4_getsIn : GoodIn wsX4_firstFault wsX4_getsIn := goodIn_r _ [13] (by decide +kernel) (by decide +kernel)
set_option maxRecDepth 20000 in
theorem gX4_firstFault_X4_getsIn : GoodIn wsX4_firstFault (va_wsS RX4 34 yX4_getsIn wsX4_getsIn) := goodIn_app (goodIn_of _ (by decide +kernel)) ggX4_firstFault_X4_getsIn
set_option maxRecDepth 20000 in
theorem ggX4_firstFault_X4_getsOut : GoodIn wsX4_firstFault wsX4_getsOut := goodIn_r _ [16] (by decide +kernel) (by decide +kernel)
set_option maxRecDepth 20000 in
theorem gX4_firstFault_X4_getsOut : GoodIn wsX4_firstFault (va_wsS RX4 38 yX4_getsOut wsX4_getsOut) := goodIn_app (goodIn_of _ (by decide +kernel)) ggX4_firstFault_X4_getsOut
set_option maxRecDepth 20000 in
theorem ggX4_firstFault_X4_isDigit : GoodIn wsX4_firstFault wsX4_isDigit := goodIn_r _ [19] (by decide +kernel) (by decide +kernel)
set_option maxRecDepth 20000 in
theorem gX4_firstFault_X4_isDigit : GoodIn wsX4_firstFault (va_wsS RX4 41 yX4_isDigit wsX4_isDigit) := goodIn_app (goodIn_of _ (by decide +kernel)) ggX4_firstFault_X4_isDigit
set_option maxRecDepth 20000 in
theorem ggX4_firstFault_X4_isMotion : GoodIn wsX4_firstFault wsX4_isMotion := goodIn_r _ [22] (by decide +kernel) (by decide +kernel)
set_option maxRecDepth 20000 in
theorem gX4_firstFault_X4_isMotion : GoodIn wsX4_firstFault (va_wsS RX4 44 yX4_isMotion wsX4_isMotion) := goodIn_app (goodIn_of _ (by decide +kernel)) ggX4_firstFault_X4_isMotion
theorem dX4_firstFault_0 : decode cX4_firstFault 0 = .ok (.iconst 0, 1) := by decide +kernel
theorem dX4_firstFault_1 : decode cX4_firstFault 1 = .ok (.istore_n 1, 1) := by decide +kernel
theorem dX4_firstFault_2 : decode cX4_firstFault 2 = .ok (.iconst 0, 1) := by decide +kernel
theorem dX4_firstFault_3 : decode cX4_firstFault 3 = .ok (.istore_n 2, 1) := by decide +kernel
theorem dX4_firstFault_4 : decode cX4_firstFault 4 = .ok (.iload_n 2, 1) := by decide +kernel
theorem dX4_firstFault_5 : decode cX4_firstFault 5 = .ok (.aload_n 0, 1) := by decide +kernel
theorem dX4_firstFault_6 : decode cX4_firstFault 6 = .ok (.getfield 15, 3) := by decide +kernel
theorem dX4_firstFault_9 : decode cX4_firstFault 9 = .ok (.if_icmp .ge 90, 3) := by decide +kernel
theorem dX4_firstFault_12 : decode cX4_firstFault 12 = .ok (.aload_n 0, 1) := by decide +kernel
theorem dX4_firstFault_13 : decode cX4_firstFault 13 = .ok (.iload_n 2, 1) := by decide +kernel
theorem dX4_firstFault_14 : decode cX4_firstFault 14 = .ok (.invokevirtual 30, 3) := by decide +kernel
theorem dX4_firstFault_17 : decode cX4_firstFault 17 = .ok (.istore_n 3, 1) := by decide +kernel
theorem dX4_firstFault_18 : decode cX4_firstFault 18 = .ok (.iload_n 3, 1) := by decide +kernel
theorem dX4_firstFault_19 : decode cX4_firstFault 19 = .ok (.bipush 63, 2) := by decide +kernel
theorem dX4_firstFault_21 : decode cX4_firstFault 21 = .ok (.if_icmp .ne 16, 3) := by decide +kernel
theorem dX4_firstFault_24 : decode cX4_firstFault 24 = .ok (.iload_n 1, 1) := by decide +kernel
theorem dX4_firstFault_25 : decode cX4_firstFault 25 = .ok (.iconst 3, 1) := by decide +kernel
theorem dX4_firstFault_26 : decode cX4_firstFault 26 = .ok (.if_icmp .ge 7, 3) := by decide +kernel
theorem dX4_firstFault_29 : decode cX4_firstFault 29 = .ok (.iconst 1, 1) := by decide +kernel
theorem dX4_firstFault_30 : decode cX4_firstFault 30 = .ok (.goto 40, 3) := by decide +kernel
theorem dX4_firstFault_33 : decode cX4_firstFault 33 = .ok (.iconst 0, 1) := by decide +kernel
theorem dX4_firstFault_34 : decode cX4_firstFault 34 = .ok (.goto 36, 3) := by decide +kernel
theorem dX4_firstFault_37 : decode cX4_firstFault 37 = .ok (.iload_n 3, 1) := by decide +kernel
theorem dX4_firstFault_38 : decode cX4_firstFault 38 = .ok (.invokestatic 34, 3) := by decide +kernel
theorem dX4_firstFault_41 : decode cX4_firstFault 41 = .ok (.ifCond .ne 24, 3) := by decide +kernel
theorem dX4_firstFault_44 : decode cX4_firstFault 44 = .ok (.iload_n 3, 1) := by decide +kernel
theorem dX4_firstFault_45 : decode cX4_firstFault 45 = .ok (.invokestatic 38, 3) := by decide +kernel
theorem dX4_firstFault_48 : decode cX4_firstFault 48 = .ok (.ifCond .ne 17, 3) := by decide +kernel
theorem dX4_firstFault_51 : decode cX4_firstFault 51 = .ok (.iload_n 3, 1) := by decide +kernel
theorem dX4_firstFault_52 : decode cX4_firstFault 52 = .ok (.invokestatic 41, 3) := by decide +kernel
theorem dX4_firstFault_55 : decode cX4_firstFault 55 = .ok (.ifCond .ne 10, 3) := by decide +kernel
theorem dX4_firstFault_58 : decode cX4_firstFault 58 = .ok (.iload_n 3, 1) := by decide +kernel
theorem dX4_firstFault_59 : decode cX4_firstFault 59 = .ok (.invokestatic 44, 3) := by decide +kernel
theorem dX4_firstFault_62 : decode cX4_firstFault 62 = .ok (.ifCond .eq 7, 3) := by decide +kernel
theorem dX4_firstFault_65 : decode cX4_firstFault 65 = .ok (.iconst 1, 1) := by decide +kernel
theorem dX4_firstFault_66 : decode cX4_firstFault 66 = .ok (.goto 4, 3) := by decide +kernel
theorem dX4_firstFault_69 : decode cX4_firstFault 69 = .ok (.iconst 0, 1) := by decide +kernel
theorem dX4_firstFault_70 : decode cX4_firstFault 70 = .ok (.istore 4, 2) := by decide +kernel
theorem dX4_firstFault_72 : decode cX4_firstFault 72 = .ok (.iload 4, 2) := by decide +kernel
theorem dX4_firstFault_74 : decode cX4_firstFault 74 = .ok (.ifCond .ne 5, 3) := by decide +kernel
theorem dX4_firstFault_77 : decode cX4_firstFault 77 = .ok (.iload_n 2, 1) := by decide +kernel
theorem dX4_firstFault_78 : decode cX4_firstFault 78 = .ok (.ireturn, 1) := by decide +kernel
theorem dX4_firstFault_79 : decode cX4_firstFault 79 = .ok (.iload_n 1, 1) := by decide +kernel
theorem dX4_firstFault_80 : decode cX4_firstFault 80 = .ok (.iload_n 3, 1) := by decide +kernel
theorem dX4_firstFault_81 : decode cX4_firstFault 81 = .ok (.bipush 63, 2) := by decide +kernel
theorem dX4_firstFault_83 : decode cX4_firstFault 83 = .ok (.if_icmp .ne 7, 3) := by decide +kernel
theorem dX4_firstFault_86 : decode cX4_firstFault 86 = .ok (.iconst 1, 1) := by decide +kernel
theorem dX4_firstFault_87 : decode cX4_firstFault 87 = .ok (.goto 4, 3) := by decide +kernel
theorem dX4_firstFault_90 : decode cX4_firstFault 90 = .ok (.iconst 0, 1) := by decide +kernel
theorem dX4_firstFault_91 : decode cX4_firstFault 91 = .ok (.iadd, 1) := by decide +kernel
theorem dX4_firstFault_92 : decode cX4_firstFault 92 = .ok (.istore_n 1, 1) := by decide +kernel
theorem dX4_firstFault_93 : decode cX4_firstFault 93 = .ok (.iinc 2 1, 3) := by decide +kernel
theorem dX4_firstFault_96 : decode cX4_firstFault 96 = .ok (.goto (-92), 3) := by decide +kernel
theorem dX4_firstFault_99 : decode cX4_firstFault 99 = .ok (.bipush (-6), 2) := by decide +kernel
theorem dX4_firstFault_101 : decode cX4_firstFault 101 = .ok (.ireturn, 1) := by decide +kernel
set_option maxRecDepth 20000 in
theorem ggX5_init_X9_init : GoodIn wsX5_init wsX9_init := goodIn_r _ [13, 14, 2, 3, 8, 15, 16, 17, 18, 19, 20, 21, 22, 23, 24, 25, 26, 27, 28, 29, 30] (by decide +kernel) (by decide +kernel)
set_option maxRecDepth 20000 in
theorem gX5_init_X9_init : GoodIn wsX5_init (wsX9_init) := ggX5_init_X9_init
theorem dX5_init_0 : decode cX5_init 0 = .ok (.aload_n 0, 1) := by decide +kernel
theorem dX5_init_1 : decode cX5_init 1 = .ok (.invokespecial 3, 3) := by decide +kernel
theorem dX5_init_4 : decode cX5_init 4 = .ok (.aload_n 0, 1) := by decide +kernel
theorem dX5_init_5 : decode cX5_init 5 = .ok (.new 9, 3) := by decide +kernel
theorem dX5_init_8 : decode cX5_init 8 = .ok (.dup, 1) := by decide +kernel
theorem dX5_init_9 : decode cX5_init 9 = .ok (.invokespecial 11, 3) := by decide +kernel
theorem dX5_init_12 : decode cX5_init 12 = .ok (.putfield 12, 3) := by decide +kernel
theorem dX5_init_15 : decode cX5_init 15 = .ok (.aload_n 0, 1) := by decide +kernel
theorem dX5_init_16 : decode cX5_init 16 = .ok (.bipush 8, 2) := by decide +kernel
theorem dX5_init_18 : decode cX5_init 18 = .ok (.newarray .int, 2) := by decide +kernel
theorem dX5_init_20 : decode cX5_init 20 = .ok (.putfield 18, 3) := by decide +kernel
theorem dX5_init_23 : decode cX5_init 23 = .ok (.aload_n 0, 1) := by decide +kernel
theorem dX5_init_24 : decode cX5_init 24 = .ok (.iconst 0, 1) := by decide +kernel
theorem dX5_init_25 : decode cX5_init 25 = .ok (.putfield 22, 3) := by decide +kernel
theorem dX5_init_28 : decode cX5_init 28 = .ok (.return_, 1) := by decide +kernel
set_option maxRecDepth 20000 in
theorem ggX5_count_X9_copyFrom : GoodIn wsX5_count wsX9_copyFrom := goodIn_r _ [7, 8, 9, 10, 11, 12, 13, 14, 15, 16, 17, 18, 19, 20, 21, 22, 23, 24, 89, 90, 91, 92, 93, 94] (by decide +kernel) (by decide +kernel)
set_option maxRecDepth 20000 in
theorem gX5_count_X9_copyFrom : GoodIn wsX5_count (wsV RX5 26 RX9 yX9_copyFrom wsX9_copyFrom) := goodIn_app (goodIn_of _ (by decide +kernel)) ggX5_count_X9_copyFrom
set_option maxRecDepth 20000 in
theorem ggX5_count_X9_clear : GoodIn wsX5_count wsX9_clear := goodIn_r _ [28, 9, 10, 11, 29, 30, 31, 32, 89, 90, 91, 92, 93, 94] (by decide +kernel) (by decide +kernel)
set_option maxRecDepth 20000 in
theorem gX5_count_X9_clear : GoodIn wsX5_count (wsV RX5 30 RX9 yX9_clear wsX9_clear) := goodIn_app (goodIn_of _ (by decide +kernel)) ggX5_count_X9_clear
set_option maxRecDepth 20000 in
theorem ggX5_count_X5_leastOf : GoodIn wsX5_count wsX5_leastOf := goodIn_r _ [36, 37, 15, 38] (by decide +kernel) (by decide +kernel)
set_option maxRecDepth 20000 in
theorem gX5_count_X5_leastOf : GoodIn wsX5_count (va_wsS RX5 33 yX5_leastOf wsX5_leastOf) := goodIn_app (goodIn_of _ (by decide +kernel)) ggX5_count_X5_leastOf
set_option maxRecDepth 20000 in
theorem ggX5_count_X5_settle : GoodIn wsX5_count wsX5_settle := goodIn_r _ [42, 2, 1, 43, 44, 45, 46, 6, 47, 48, 49, 19, 50, 51, 52, 53, 54, 55, 56, 57, 10, 11, 8, 58, 59, 15, 60, 61, 62, 63, 64, 65, 66, 67, 68, 13, 14, 16, 17, 18, 20, 21, 22, 23, 24, 86, 87, 88, 89, 90, 91, 92, 93, 94] (by decide +kernel) (by decide +kernel)
set_option maxRecDepth 20000 in
theorem gX5_count_X5_settle : GoodIn wsX5_count (wsV RX5 37 RX5 yX5_settle wsX5_settle) := goodIn_app (goodIn_of _ (by decide +kernel)) ggX5_count_X5_settle
set_option maxRecDepth 20000 in
theorem ggX5_count_X9_seat : GoodIn wsX5_count wsX9_seat := goodIn_r _ [72, 10, 9, 73, 15, 74, 89, 90, 91, 92, 93, 94] (by decide +kernel) (by decide +kernel)
set_option maxRecDepth 20000 in
theorem gX5_count_X9_seat : GoodIn wsX5_count (wsV RX5 41 RX9 yX9_seat wsX9_seat) := goodIn_app (goodIn_of _ (by decide +kernel)) ggX5_count_X9_seat
set_option maxRecDepth 20000 in
theorem ggX5_count_X5_search : GoodIn wsX5_count wsX5_search := goodIn_r _ [77, 2, 39, 40, 41, 35, 42, 1, 43, 44, 45, 46, 6, 47, 48, 49, 19, 50, 51, 52, 53, 54, 55, 56, 57, 10, 11, 8, 58, 59, 15, 60, 61, 62, 63, 64, 65, 66, 67, 68, 13, 14, 16, 17, 18, 20, 21, 22, 23, 24, 37, 38, 75, 76, 78, 79, 80, 81, 69, 70, 71, 72, 9, 73, 74, 82, 83, 84, 85, 86, 87, 88, 89, 90, 91, 92, 93, 94] (by decide +kernel) (by decide +kernel)
set_option maxRecDepth 20000 in
theorem gX5_count_X5_search : GoodIn wsX5_count (va_wsS RX5 45 yX5_search wsX5_search) := goodIn_app (goodIn_of _ (by decide +kernel)) ggX5_count_X5_search
theorem dX5_count_0 : decode cX5_count 0 = .ok (.aload_n 0, 1) := by decide +kernel
theorem dX5_count_1 : decode cX5_count 1 = .ok (.iconst 0, 1) := by decide +kernel
theorem dX5_count_2 : decode cX5_count 2 = .ok (.putfield 22, 3) := by decide +kernel
theorem dX5_count_5 : decode cX5_count 5 = .ok (.aload_n 0, 1) := by decide +kernel
theorem dX5_count_6 : decode cX5_count 6 = .ok (.getfield 12, 3) := by decide +kernel
theorem dX5_count_9 : decode cX5_count 9 = .ok (.aload_n 1, 1) := by decide +kernel
theorem dX5_count_10 : decode cX5_count 10 = .ok (.invokevirtual 26, 3) := by decide +kernel
theorem dX5_count_13 : decode cX5_count 13 = .ok (.aload_n 0, 1) := by decide +kernel
theorem dX5_count_14 : decode cX5_count 14 = .ok (.getfield 12, 3) := by decide +kernel
theorem dX5_count_17 : decode cX5_count 17 = .ok (.invokevirtual 30, 3) := by decide +kernel
theorem dX5_count_20 : decode cX5_count 20 = .ok (.iload_n 2, 1) := by decide +kernel
theorem dX5_count_21 : decode cX5_count 21 = .ok (.invokestatic 33, 3) := by decide +kernel
theorem dX5_count_24 : decode cX5_count 24 = .ok (.istore_n 3, 1) := by decide +kernel
theorem dX5_count_25 : decode cX5_count 25 = .ok (.iload_n 3, 1) := by decide +kernel
theorem dX5_count_26 : decode cX5_count 26 = .ok (.bipush (-6), 2) := by decide +kernel
theorem dX5_count_28 : decode cX5_count 28 = .ok (.if_icmp .ne 8, 3) := by decide +kernel
theorem dX5_count_31 : decode cX5_count 31 = .ok (.aload_n 0, 1) := by decide +kernel
theorem dX5_count_32 : decode cX5_count 32 = .ok (.invokevirtual 37, 3) := by decide +kernel
theorem dX5_count_35 : decode cX5_count 35 = .ok (.ireturn, 1) := by decide +kernel
theorem dX5_count_36 : decode cX5_count 36 = .ok (.aload_n 0, 1) := by decide +kernel
theorem dX5_count_37 : decode cX5_count 37 = .ok (.getfield 12, 3) := by decide +kernel
theorem dX5_count_40 : decode cX5_count 40 = .ok (.iload_n 3, 1) := by decide +kernel
theorem dX5_count_41 : decode cX5_count 41 = .ok (.iconst 0, 1) := by decide +kernel
theorem dX5_count_42 : decode cX5_count 42 = .ok (.invokevirtual 41, 3) := by decide +kernel
theorem dX5_count_45 : decode cX5_count 45 = .ok (.bipush 8, 2) := by decide +kernel
theorem dX5_count_47 : decode cX5_count 47 = .ok (.aload_n 0, 1) := by decide +kernel
theorem dX5_count_48 : decode cX5_count 48 = .ok (.iload_n 2, 1) := by decide +kernel
theorem dX5_count_49 : decode cX5_count 49 = .ok (.iload_n 3, 1) := by decide +kernel
theorem dX5_count_50 : decode cX5_count 50 = .ok (.iconst 1, 1) := by decide +kernel
theorem dX5_count_51 : decode cX5_count 51 = .ok (.iadd, 1) := by decide +kernel
theorem dX5_count_52 : decode cX5_count 52 = .ok (.invokestatic 45, 3) := by decide +kernel
theorem dX5_count_55 : decode cX5_count 55 = .ok (.imul, 1) := by decide +kernel
theorem dX5_count_56 : decode cX5_count 56 = .ok (.ireturn, 1) := by decide +kernel
set_option maxRecDepth 20000 in
theorem ggX5_leastOf_X10_isOf : GoodIn wsX5_leastOf wsX10_isOf := goodIn_r _ [3] (by decide +kernel) (by decide +kernel)
set_option maxRecDepth 20000 in
theorem gX5_leastOf_X10_isOf_n49 : GoodIn wsX5_leastOf (wsX10_isOf) := ggX5_leastOf_X10_isOf
theorem dX5_leastOf_0 : decode cX5_leastOf 0 = .ok (.iconst 0, 1) := by decide +kernel
theorem dX5_leastOf_1 : decode cX5_leastOf 1 = .ok (.istore_n 1, 1) := by decide +kernel
theorem dX5_leastOf_2 : decode cX5_leastOf 2 = .ok (.iload_n 1, 1) := by decide +kernel
theorem dX5_leastOf_3 : decode cX5_leastOf 3 = .ok (.bipush 8, 2) := by decide +kernel
theorem dX5_leastOf_5 : decode cX5_leastOf 5 = .ok (.if_icmp .ge 19, 3) := by decide +kernel
theorem dX5_leastOf_8 : decode cX5_leastOf 8 = .ok (.iload_n 0, 1) := by decide +kernel
theorem dX5_leastOf_9 : decode cX5_leastOf 9 = .ok (.iload_n 1, 1) := by decide +kernel
theorem dX5_leastOf_10 : decode cX5_leastOf 10 = .ok (.invokestatic 49, 3) := by decide +kernel
theorem dX5_leastOf_13 : decode cX5_leastOf 13 = .ok (.ifCond .eq 5, 3) := by decide +kernel
theorem dX5_leastOf_16 : decode cX5_leastOf 16 = .ok (.iload_n 1, 1) := by decide +kernel
theorem dX5_leastOf_17 : decode cX5_leastOf 17 = .ok (.ireturn, 1) := by decide +kernel
theorem dX5_leastOf_18 : decode cX5_leastOf 18 = .ok (.iinc 1 1, 3) := by decide +kernel
theorem dX5_leastOf_21 : decode cX5_leastOf 21 = .ok (.goto (-19), 3) := by decide +kernel
theorem dX5_leastOf_24 : decode cX5_leastOf 24 = .ok (.bipush (-6), 2) := by decide +kernel
theorem dX5_leastOf_26 : decode cX5_leastOf 26 = .ok (.ireturn, 1) := by decide +kernel
set_option maxRecDepth 20000 in
theorem ggX5_carInFirst_X10_at : GoodIn wsX5_carInFirst wsX10_at := goodIn_r _ [4] (by decide +kernel) (by decide +kernel)
set_option maxRecDepth 20000 in
theorem gX5_carInFirst_X10_at_n53 : GoodIn wsX5_carInFirst (wsX10_at) := ggX5_carInFirst_X10_at
theorem dX5_carInFirst_0 : decode cX5_carInFirst 0 = .ok (.aload_n 0, 1) := by decide +kernel
theorem dX5_carInFirst_1 : decode cX5_carInFirst 1 = .ok (.getfield 18, 3) := by decide +kernel
theorem dX5_carInFirst_4 : decode cX5_carInFirst 4 = .ok (.iload_n 1, 1) := by decide +kernel
theorem dX5_carInFirst_5 : decode cX5_carInFirst 5 = .ok (.invokestatic 53, 3) := by decide +kernel
theorem dX5_carInFirst_8 : decode cX5_carInFirst 8 = .ok (.ireturn, 1) := by decide +kernel
set_option maxRecDepth 20000 in
theorem ggX5_search_X5_settle : GoodIn wsX5_search wsX5_settle := goodIn_r _ [6, 1, 7, 8, 9, 10, 11, 12, 13, 14, 15, 16, 17, 18, 19, 20, 21, 22, 23, 24, 25, 26, 27, 28, 29, 30, 31, 32, 33, 34, 35, 36, 37, 38, 39, 40, 41, 42, 43, 44, 45, 46, 47, 48, 49, 69, 70, 71, 72, 73, 74, 75, 76, 77] (by decide +kernel) (by decide +kernel)
set_option maxRecDepth 20000 in
theorem gX5_search_X5_settle : GoodIn wsX5_search (wsV RX5 37 RX5 yX5_settle wsX5_settle) := goodIn_app (goodIn_of _ (by decide +kernel)) ggX5_search_X5_settle
set_option maxRecDepth 20000 in
theorem ggX5_search_X10_isOf : GoodIn wsX5_search wsX10_isOf := goodIn_r _ [51] (by decide +kernel) (by decide +kernel)
set_option maxRecDepth 20000 in
theorem gX5_search_X10_isOf_n49 : GoodIn wsX5_search (wsX10_isOf) := ggX5_search_X10_isOf
set_option maxRecDepth 20000 in
theorem ggX5_search_X5_search : GoodIn wsX5_search wsX5_search := goodIn_r _ [0, 1, 2, 3, 4, 5, 6, 7, 8, 9, 10, 11, 12, 13, 14, 15, 16, 17, 18, 19, 20, 21, 22, 23, 24, 25, 26, 27, 28, 29, 30, 31, 32, 33, 34, 35, 36, 37, 38, 39, 40, 41, 42, 43, 44, 45, 46, 47, 48, 49, 50, 51, 52, 53, 54, 55, 56, 57, 58, 59, 60, 61, 62, 63, 64, 65, 66, 67, 68, 69, 70, 71, 72, 73, 74, 75, 76, 77] (by decide +kernel) (by decide +kernel)
set_option maxRecDepth 20000 in
theorem gX5_search_X5_search : GoodIn wsX5_search (va_wsS RX5 45 yX5_search wsX5_search) := goodIn_app (goodIn_of _ (by decide +kernel)) ggX5_search_X5_search
set_option maxRecDepth 20000 in
theorem ggX5_search_X9_riderOf : GoodIn wsX5_search wsX9_riderOf := goodIn_r _ [57, 25, 29, 30, 31, 72, 73, 74, 75, 76, 77] (by decide +kernel) (by decide +kernel)
set_option maxRecDepth 20000 in
theorem gX5_search_X9_riderOf : GoodIn wsX5_search (wsV RX5 57 RX9 yX9_riderOf wsX9_riderOf) := goodIn_app (goodIn_of _ (by decide +kernel)) ggX5_search_X9_riderOf
set_option maxRecDepth 20000 in
theorem ggX5_search_X9_seat : GoodIn wsX5_search wsX9_seat := goodIn_r _ [61, 25, 62, 63, 30, 64, 72, 73, 74, 75, 76, 77] (by decide +kernel) (by decide +kernel)
set_option maxRecDepth 20000 in
theorem gX5_search_X9_seat : GoodIn wsX5_search (wsV RX5 41 RX9 yX9_seat wsX9_seat) := goodIn_app (goodIn_of _ (by decide +kernel)) ggX5_search_X9_seat
set_option maxRecDepth 20000 in
theorem ggX5_search_X9_unseat : GoodIn wsX5_search wsX9_unseat := goodIn_r _ [68, 62, 25, 29, 30, 31, 63, 64, 72, 73, 74, 75, 76, 77] (by decide +kernel) (by decide +kernel)
set_option maxRecDepth 20000 in
theorem gX5_search_X9_unseat : GoodIn wsX5_search (wsV RX5 60 RX9 yX9_unseat wsX9_unseat) := goodIn_app (goodIn_of _ (by decide +kernel)) ggX5_search_X9_unseat
theorem dX5_search_0 : decode cX5_search 0 = .ok (.iload_n 2, 1) := by decide +kernel
theorem dX5_search_1 : decode cX5_search 1 = .ok (.bipush 8, 2) := by decide +kernel
theorem dX5_search_3 : decode cX5_search 3 = .ok (.if_icmp .lt 8, 3) := by decide +kernel
theorem dX5_search_6 : decode cX5_search 6 = .ok (.aload_n 0, 1) := by decide +kernel
theorem dX5_search_7 : decode cX5_search 7 = .ok (.invokevirtual 37, 3) := by decide +kernel
theorem dX5_search_10 : decode cX5_search 10 = .ok (.ireturn, 1) := by decide +kernel
theorem dX5_search_11 : decode cX5_search 11 = .ok (.iload_n 1, 1) := by decide +kernel
theorem dX5_search_12 : decode cX5_search 12 = .ok (.iload_n 2, 1) := by decide +kernel
theorem dX5_search_13 : decode cX5_search 13 = .ok (.invokestatic 49, 3) := by decide +kernel
theorem dX5_search_16 : decode cX5_search 16 = .ok (.ifCond .ne 12, 3) := by decide +kernel
theorem dX5_search_19 : decode cX5_search 19 = .ok (.aload_n 0, 1) := by decide +kernel
theorem dX5_search_20 : decode cX5_search 20 = .ok (.iload_n 1, 1) := by decide +kernel
theorem dX5_search_21 : decode cX5_search 21 = .ok (.iload_n 2, 1) := by decide +kernel
theorem dX5_search_22 : decode cX5_search 22 = .ok (.iconst 1, 1) := by decide +kernel
theorem dX5_search_23 : decode cX5_search 23 = .ok (.iadd, 1) := by decide +kernel
theorem dX5_search_24 : decode cX5_search 24 = .ok (.invokestatic 45, 3) := by decide +kernel
theorem dX5_search_27 : decode cX5_search 27 = .ok (.ireturn, 1) := by decide +kernel
theorem dX5_search_28 : decode cX5_search 28 = .ok (.iconst 0, 1) := by decide +kernel
theorem dX5_search_29 : decode cX5_search 29 = .ok (.istore_n 3, 1) := by decide +kernel
theorem dX5_search_30 : decode cX5_search 30 = .ok (.iconst 0, 1) := by decide +kernel
theorem dX5_search_31 : decode cX5_search 31 = .ok (.istore 4, 2) := by decide +kernel
theorem dX5_search_33 : decode cX5_search 33 = .ok (.iload 4, 2) := by decide +kernel
theorem dX5_search_35 : decode cX5_search 35 = .ok (.bipush 8, 2) := by decide +kernel
theorem dX5_search_37 : decode cX5_search 37 = .ok (.if_icmp .ge 53, 3) := by decide +kernel
theorem dX5_search_40 : decode cX5_search 40 = .ok (.aload_n 0, 1) := by decide +kernel
theorem dX5_search_41 : decode cX5_search 41 = .ok (.getfield 12, 3) := by decide +kernel
theorem dX5_search_44 : decode cX5_search 44 = .ok (.iload 4, 2) := by decide +kernel
theorem dX5_search_46 : decode cX5_search 46 = .ok (.invokevirtual 57, 3) := by decide +kernel
theorem dX5_search_49 : decode cX5_search 49 = .ok (.bipush (-6), 2) := by decide +kernel
theorem dX5_search_51 : decode cX5_search 51 = .ok (.if_icmp .ne 33, 3) := by decide +kernel
theorem dX5_search_54 : decode cX5_search 54 = .ok (.aload_n 0, 1) := by decide +kernel
theorem dX5_search_55 : decode cX5_search 55 = .ok (.getfield 12, 3) := by decide +kernel
theorem dX5_search_58 : decode cX5_search 58 = .ok (.iload_n 2, 1) := by decide +kernel
theorem dX5_search_59 : decode cX5_search 59 = .ok (.iload 4, 2) := by decide +kernel
theorem dX5_search_61 : decode cX5_search 61 = .ok (.invokevirtual 41, 3) := by decide +kernel
theorem dX5_search_64 : decode cX5_search 64 = .ok (.iload_n 3, 1) := by decide +kernel
theorem dX5_search_65 : decode cX5_search 65 = .ok (.aload_n 0, 1) := by decide +kernel
theorem dX5_search_66 : decode cX5_search 66 = .ok (.iload_n 1, 1) := by decide +kernel
theorem dX5_search_67 : decode cX5_search 67 = .ok (.iload_n 2, 1) := by decide +kernel
theorem dX5_search_68 : decode cX5_search 68 = .ok (.iconst 1, 1) := by decide +kernel
theorem dX5_search_69 : decode cX5_search 69 = .ok (.iadd, 1) := by decide +kernel
theorem dX5_search_70 : decode cX5_search 70 = .ok (.invokestatic 45, 3) := by decide +kernel
theorem dX5_search_73 : decode cX5_search 73 = .ok (.iadd, 1) := by decide +kernel
theorem dX5_search_74 : decode cX5_search 74 = .ok (.istore_n 3, 1) := by decide +kernel
theorem dX5_search_75 : decode cX5_search 75 = .ok (.aload_n 0, 1) := by decide +kernel
theorem dX5_search_76 : decode cX5_search 76 = .ok (.getfield 12, 3) := by decide +kernel
theorem dX5_search_79 : decode cX5_search 79 = .ok (.iload 4, 2) := by decide +kernel
theorem dX5_search_81 : decode cX5_search 81 = .ok (.invokevirtual 60, 3) := by decide +kernel
theorem dX5_search_84 : decode cX5_search 84 = .ok (.iinc 4 1, 3) := by decide +kernel
theorem dX5_search_87 : decode cX5_search 87 = .ok (.goto (-54), 3) := by decide +kernel
theorem dX5_search_90 : decode cX5_search 90 = .ok (.iload_n 3, 1) := by decide +kernel
theorem dX5_search_91 : decode cX5_search 91 = .ok (.ireturn, 1) := by decide +kernel
set_option maxRecDepth 20000 in
theorem ggX5_settle_X9_greatestPull : GoodIn wsX5_settle wsX9_greatestPull := goodIn_r _ [8, 9, 10, 11, 12, 13, 14, 15, 16, 17, 18, 7, 19, 20, 21, 22, 23, 24, 25, 26, 27, 28, 29, 30, 48, 49, 50, 51, 52, 53] (by decide +kernel) (by decide +kernel)
set_option maxRecDepth 20000 in
theorem gX5_settle_X9_greatestPull : GoodIn wsX5_settle (wsV RX5 64 RX9 yX9_greatestPull wsX9_greatestPull) := goodIn_app (goodIn_of _ (by decide +kernel)) ggX5_settle_X9_greatestPull
set_option maxRecDepth 20000 in
theorem ggX5_settle_X9_friction : GoodIn wsX5_settle wsX9_friction := goodIn_r _ [34, 35, 48, 49, 50, 51, 52, 53] (by decide +kernel) (by decide +kernel)
set_option maxRecDepth 20000 in
theorem gX5_settle_X9_friction : GoodIn wsX5_settle (wsV RX5 67 RX9 yX9_friction wsX9_friction) := goodIn_app (goodIn_of _ (by decide +kernel)) ggX5_settle_X9_friction
set_option maxRecDepth 20000 in
theorem ggX5_settle_X10_copyRow : GoodIn wsX5_settle wsX10_copyRow := goodIn_r _ [37, 38, 39, 11, 40, 41, 42, 43, 44] (by decide +kernel) (by decide +kernel)
set_option maxRecDepth 20000 in
theorem gX5_settle_X10_copyRow_n73 : GoodIn wsX5_settle (wsX10_copyRow) := ggX5_settle_X10_copyRow
theorem dX5_settle_0 : decode cX5_settle 0 = .ok (.aload_n 0, 1) := by decide +kernel
theorem dX5_settle_1 : decode cX5_settle 1 = .ok (.getfield 12, 3) := by decide +kernel
theorem dX5_settle_4 : decode cX5_settle 4 = .ok (.invokevirtual 64, 3) := by decide +kernel
theorem dX5_settle_7 : decode cX5_settle 7 = .ok (.aload_n 0, 1) := by decide +kernel
theorem dX5_settle_8 : decode cX5_settle 8 = .ok (.getfield 12, 3) := by decide +kernel
theorem dX5_settle_11 : decode cX5_settle 11 = .ok (.invokevirtual 67, 3) := by decide +kernel
theorem dX5_settle_14 : decode cX5_settle 14 = .ok (.if_icmp .le 5, 3) := by decide +kernel
theorem dX5_settle_17 : decode cX5_settle 17 = .ok (.iconst 0, 1) := by decide +kernel
theorem dX5_settle_18 : decode cX5_settle 18 = .ok (.ireturn, 1) := by decide +kernel
theorem dX5_settle_19 : decode cX5_settle 19 = .ok (.aload_n 0, 1) := by decide +kernel
theorem dX5_settle_20 : decode cX5_settle 20 = .ok (.getfield 22, 3) := by decide +kernel
theorem dX5_settle_23 : decode cX5_settle 23 = .ok (.ifCond .ne 22, 3) := by decide +kernel
theorem dX5_settle_26 : decode cX5_settle 26 = .ok (.aload_n 0, 1) := by decide +kernel
theorem dX5_settle_27 : decode cX5_settle 27 = .ok (.iconst 1, 1) := by decide +kernel
theorem dX5_settle_28 : decode cX5_settle 28 = .ok (.putfield 22, 3) := by decide +kernel
theorem dX5_settle_31 : decode cX5_settle 31 = .ok (.aload_n 0, 1) := by decide +kernel
theorem dX5_settle_32 : decode cX5_settle 32 = .ok (.getfield 12, 3) := by decide +kernel
theorem dX5_settle_35 : decode cX5_settle 35 = .ok (.getfield 70, 3) := by decide +kernel
theorem dX5_settle_38 : decode cX5_settle 38 = .ok (.aload_n 0, 1) := by decide +kernel
theorem dX5_settle_39 : decode cX5_settle 39 = .ok (.getfield 18, 3) := by decide +kernel
theorem dX5_settle_42 : decode cX5_settle 42 = .ok (.invokestatic 73, 3) := by decide +kernel
theorem dX5_settle_45 : decode cX5_settle 45 = .ok (.iconst 1, 1) := by decide +kernel
theorem dX5_settle_46 : decode cX5_settle 46 = .ok (.ireturn, 1) := by decide +kernel
theorem dX6_init_0 : decode cX6_init 0 = .ok (.aload_n 0, 1) := by decide +kernel
theorem dX6_init_1 : decode cX6_init 1 = .ok (.invokespecial 3, 3) := by decide +kernel
theorem dX6_init_4 : decode cX6_init 4 = .ok (.aload_n 0, 1) := by decide +kernel
theorem dX6_init_5 : decode cX6_init 5 = .ok (.bipush 6, 2) := by decide +kernel
theorem dX6_init_7 : decode cX6_init 7 = .ok (.newarray .int, 2) := by decide +kernel
theorem dX6_init_9 : decode cX6_init 9 = .ok (.putfield 9, 3) := by decide +kernel
theorem dX6_init_12 : decode cX6_init 12 = .ok (.aload_n 0, 1) := by decide +kernel
theorem dX6_init_13 : decode cX6_init 13 = .ok (.bipush 6, 2) := by decide +kernel
theorem dX6_init_15 : decode cX6_init 15 = .ok (.newarray .int, 2) := by decide +kernel
theorem dX6_init_17 : decode cX6_init 17 = .ok (.putfield 15, 3) := by decide +kernel
theorem dX6_init_20 : decode cX6_init 20 = .ok (.aload_n 0, 1) := by decide +kernel
theorem dX6_init_21 : decode cX6_init 21 = .ok (.iconst 0, 1) := by decide +kernel
theorem dX6_init_22 : decode cX6_init 22 = .ok (.putfield 18, 3) := by decide +kernel
theorem dX6_init_25 : decode cX6_init 25 = .ok (.return_, 1) := by decide +kernel
set_option maxRecDepth 20000 in
theorem ggX6_copyFrom_X10_copyRow : GoodIn wsX6_copyFrom wsX10_copyRow := goodIn_r _ [6, 7, 8, 9, 10, 11, 12, 13, 14] (by decide +kernel) (by decide +kernel)
set_option maxRecDepth 20000 in
theorem gX6_copyFrom_X10_copyRow_n22 : GoodIn wsX6_copyFrom (wsX10_copyRow) := ggX6_copyFrom_X10_copyRow
theorem dX6_copyFrom_0 : decode cX6_copyFrom 0 = .ok (.aload_n 1, 1) := by decide +kernel
theorem dX6_copyFrom_1 : decode cX6_copyFrom 1 = .ok (.getfield 9, 3) := by decide +kernel
theorem dX6_copyFrom_4 : decode cX6_copyFrom 4 = .ok (.aload_n 0, 1) := by decide +kernel
theorem dX6_copyFrom_5 : decode cX6_copyFrom 5 = .ok (.getfield 9, 3) := by decide +kernel
theorem dX6_copyFrom_8 : decode cX6_copyFrom 8 = .ok (.invokestatic 22, 3) := by decide +kernel
theorem dX6_copyFrom_11 : decode cX6_copyFrom 11 = .ok (.aload_n 1, 1) := by decide +kernel
theorem dX6_copyFrom_12 : decode cX6_copyFrom 12 = .ok (.getfield 15, 3) := by decide +kernel
theorem dX6_copyFrom_15 : decode cX6_copyFrom 15 = .ok (.aload_n 0, 1) := by decide +kernel
theorem dX6_copyFrom_16 : decode cX6_copyFrom 16 = .ok (.getfield 15, 3) := by decide +kernel
theorem dX6_copyFrom_19 : decode cX6_copyFrom 19 = .ok (.invokestatic 22, 3) := by decide +kernel
theorem dX6_copyFrom_22 : decode cX6_copyFrom 22 = .ok (.aload_n 0, 1) := by decide +kernel
theorem dX6_copyFrom_23 : decode cX6_copyFrom 23 = .ok (.aload_n 1, 1) := by decide +kernel
theorem dX6_copyFrom_24 : decode cX6_copyFrom 24 = .ok (.getfield 18, 3) := by decide +kernel
theorem dX6_copyFrom_27 : decode cX6_copyFrom 27 = .ok (.putfield 18, 3) := by decide +kernel
theorem dX6_copyFrom_30 : decode cX6_copyFrom 30 = .ok (.return_, 1) := by decide +kernel
theorem dX6_count_0 : decode cX6_count 0 = .ok (.aload_n 0, 1) := by decide +kernel
theorem dX6_count_1 : decode cX6_count 1 = .ok (.getfield 18, 3) := by decide +kernel
theorem dX6_count_4 : decode cX6_count 4 = .ok (.ireturn, 1) := by decide +kernel
set_option maxRecDepth 20000 in
theorem ggX6_add_X10_put : GoodIn wsX6_add wsX10_put := goodIn_r _ [6] (by decide +kernel) (by decide +kernel)
set_option maxRecDepth 20000 in
theorem gX6_add_X10_put_n26 : GoodIn wsX6_add (wsX10_put) := ggX6_add_X10_put
theorem dX6_add_0 : decode cX6_add 0 = .ok (.aload_n 0, 1) := by decide +kernel
theorem dX6_add_1 : decode cX6_add 1 = .ok (.getfield 18, 3) := by decide +kernel
theorem dX6_add_4 : decode cX6_add 4 = .ok (.bipush 6, 2) := by decide +kernel
theorem dX6_add_6 : decode cX6_add 6 = .ok (.if_icmp .ge 37, 3) := by decide +kernel
theorem dX6_add_9 : decode cX6_add 9 = .ok (.aload_n 0, 1) := by decide +kernel
theorem dX6_add_10 : decode cX6_add 10 = .ok (.getfield 9, 3) := by decide +kernel
theorem dX6_add_13 : decode cX6_add 13 = .ok (.aload_n 0, 1) := by decide +kernel
theorem dX6_add_14 : decode cX6_add 14 = .ok (.getfield 18, 3) := by decide +kernel
theorem dX6_add_17 : decode cX6_add 17 = .ok (.iload_n 1, 1) := by decide +kernel
theorem dX6_add_18 : decode cX6_add 18 = .ok (.invokestatic 26, 3) := by decide +kernel
theorem dX6_add_21 : decode cX6_add 21 = .ok (.aload_n 0, 1) := by decide +kernel
theorem dX6_add_22 : decode cX6_add 22 = .ok (.getfield 15, 3) := by decide +kernel
theorem dX6_add_25 : decode cX6_add 25 = .ok (.aload_n 0, 1) := by decide +kernel
theorem dX6_add_26 : decode cX6_add 26 = .ok (.getfield 18, 3) := by decide +kernel
theorem dX6_add_29 : decode cX6_add 29 = .ok (.iload_n 2, 1) := by decide +kernel
theorem dX6_add_30 : decode cX6_add 30 = .ok (.invokestatic 26, 3) := by decide +kernel
theorem dX6_add_33 : decode cX6_add 33 = .ok (.aload_n 0, 1) := by decide +kernel
theorem dX6_add_34 : decode cX6_add 34 = .ok (.dup, 1) := by decide +kernel
theorem dX6_add_35 : decode cX6_add 35 = .ok (.getfield 18, 3) := by decide +kernel
theorem dX6_add_38 : decode cX6_add 38 = .ok (.iconst 1, 1) := by decide +kernel
theorem dX6_add_39 : decode cX6_add 39 = .ok (.iadd, 1) := by decide +kernel
theorem dX6_add_40 : decode cX6_add 40 = .ok (.putfield 18, 3) := by decide +kernel
theorem dX6_add_43 : decode cX6_add 43 = .ok (.return_, 1) := by decide +kernel
theorem dX6_clear_0 : decode cX6_clear 0 = .ok (.aload_n 0, 1) := by decide +kernel
theorem dX6_clear_1 : decode cX6_clear 1 = .ok (.iconst 0, 1) := by decide +kernel
theorem dX6_clear_2 : decode cX6_clear 2 = .ok (.putfield 18, 3) := by decide +kernel
theorem dX6_clear_5 : decode cX6_clear 5 = .ok (.return_, 1) := by decide +kernel
set_option maxRecDepth 20000 in
theorem ggX6_areTrue_X10_at : GoodIn wsX6_areTrue wsX10_at := goodIn_r _ [6] (by decide +kernel) (by decide +kernel)
set_option maxRecDepth 20000 in
theorem gX6_areTrue_X10_at_n30 : GoodIn wsX6_areTrue (wsX10_at) := ggX6_areTrue_X10_at
set_option maxRecDepth 20000 in
theorem ggX6_areTrue_X9_carOf : GoodIn wsX6_areTrue wsX9_carOf := goodIn_r _ [11, 12, 4, 5, 6, 16, 17, 18, 19, 20, 21] (by decide +kernel) (by decide +kernel)
set_option maxRecDepth 20000 in
theorem gX6_areTrue_X9_carOf : GoodIn wsX6_areTrue (wsV RX6 34 RX9 yX9_carOf wsX9_carOf) := goodIn_app (goodIn_of _ (by decide +kernel)) ggX6_areTrue_X9_carOf
theorem dX6_areTrue_0 : decode cX6_areTrue 0 = .ok (.iconst 0, 1) := by decide +kernel
theorem dX6_areTrue_1 : decode cX6_areTrue 1 = .ok (.istore_n 2, 1) := by decide +kernel
theorem dX6_areTrue_2 : decode cX6_areTrue 2 = .ok (.iload_n 2, 1) := by decide +kernel
theorem dX6_areTrue_3 : decode cX6_areTrue 3 = .ok (.aload_n 0, 1) := by decide +kernel
theorem dX6_areTrue_4 : decode cX6_areTrue 4 = .ok (.getfield 18, 3) := by decide +kernel
theorem dX6_areTrue_7 : decode cX6_areTrue 7 = .ok (.if_icmp .ge 34, 3) := by decide +kernel
theorem dX6_areTrue_10 : decode cX6_areTrue 10 = .ok (.aload_n 1, 1) := by decide +kernel
theorem dX6_areTrue_11 : decode cX6_areTrue 11 = .ok (.aload_n 0, 1) := by decide +kernel
theorem dX6_areTrue_12 : decode cX6_areTrue 12 = .ok (.getfield 9, 3) := by decide +kernel
theorem dX6_areTrue_15 : decode cX6_areTrue 15 = .ok (.iload_n 2, 1) := by decide +kernel
theorem dX6_areTrue_16 : decode cX6_areTrue 16 = .ok (.invokestatic 30, 3) := by decide +kernel
theorem dX6_areTrue_19 : decode cX6_areTrue 19 = .ok (.invokevirtual 34, 3) := by decide +kernel
theorem dX6_areTrue_22 : decode cX6_areTrue 22 = .ok (.aload_n 0, 1) := by decide +kernel
theorem dX6_areTrue_23 : decode cX6_areTrue 23 = .ok (.getfield 15, 3) := by decide +kernel
theorem dX6_areTrue_26 : decode cX6_areTrue 26 = .ok (.iload_n 2, 1) := by decide +kernel
theorem dX6_areTrue_27 : decode cX6_areTrue 27 = .ok (.invokestatic 30, 3) := by decide +kernel
theorem dX6_areTrue_30 : decode cX6_areTrue 30 = .ok (.if_icmp .eq 5, 3) := by decide +kernel
theorem dX6_areTrue_33 : decode cX6_areTrue 33 = .ok (.iconst 0, 1) := by decide +kernel
theorem dX6_areTrue_34 : decode cX6_areTrue 34 = .ok (.ireturn, 1) := by decide +kernel
theorem dX6_areTrue_35 : decode cX6_areTrue 35 = .ok (.iinc 2 1, 3) := by decide +kernel
theorem dX6_areTrue_38 : decode cX6_areTrue 38 = .ok (.goto (-36), 3) := by decide +kernel
theorem dX6_areTrue_41 : decode cX6_areTrue 41 = .ok (.iconst 1, 1) := by decide +kernel
theorem dX6_areTrue_42 : decode cX6_areTrue 42 = .ok (.ireturn, 1) := by decide +kernel
set_option maxRecDepth 20000 in
theorem ggX7_init_X9_init : GoodIn wsX7_init wsX9_init := goodIn_r _ [16, 17, 2, 3, 18, 19, 20, 21, 22, 23, 24, 25, 26, 27, 28, 29, 30, 31, 32, 33, 34] (by decide +kernel) (by decide +kernel)
set_option maxRecDepth 20000 in
theorem gX7_init_X9_init : GoodIn wsX7_init (wsX9_init) := ggX7_init_X9_init
theorem dX7_init_0 : decode cX7_init 0 = .ok (.aload_n 0, 1) := by decide +kernel
theorem dX7_init_1 : decode cX7_init 1 = .ok (.invokespecial 3, 3) := by decide +kernel
theorem dX7_init_4 : decode cX7_init 4 = .ok (.aload_n 0, 1) := by decide +kernel
theorem dX7_init_5 : decode cX7_init 5 = .ok (.new 9, 3) := by decide +kernel
theorem dX7_init_8 : decode cX7_init 8 = .ok (.dup, 1) := by decide +kernel
theorem dX7_init_9 : decode cX7_init 9 = .ok (.invokespecial 11, 3) := by decide +kernel
theorem dX7_init_12 : decode cX7_init 12 = .ok (.putfield 12, 3) := by decide +kernel
theorem dX7_init_15 : decode cX7_init 15 = .ok (.aload_n 0, 1) := by decide +kernel
theorem dX7_init_16 : decode cX7_init 16 = .ok (.bipush (-6), 2) := by decide +kernel
theorem dX7_init_18 : decode cX7_init 18 = .ok (.putfield 18, 3) := by decide +kernel
theorem dX7_init_21 : decode cX7_init 21 = .ok (.aload_n 0, 1) := by decide +kernel
theorem dX7_init_22 : decode cX7_init 22 = .ok (.bipush (-6), 2) := by decide +kernel
theorem dX7_init_24 : decode cX7_init 24 = .ok (.putfield 22, 3) := by decide +kernel
theorem dX7_init_27 : decode cX7_init 27 = .ok (.aload_n 0, 1) := by decide +kernel
theorem dX7_init_28 : decode cX7_init 28 = .ok (.iconst 0, 1) := by decide +kernel
theorem dX7_init_29 : decode cX7_init 29 = .ok (.putfield 25, 3) := by decide +kernel
theorem dX7_init_32 : decode cX7_init 32 = .ok (.aload_n 0, 1) := by decide +kernel
theorem dX7_init_33 : decode cX7_init 33 = .ok (.iconst 0, 1) := by decide +kernel
theorem dX7_init_34 : decode cX7_init 34 = .ok (.putfield 28, 3) := by decide +kernel
theorem dX7_init_37 : decode cX7_init 37 = .ok (.aload_n 0, 1) := by decide +kernel
theorem dX7_init_38 : decode cX7_init 38 = .ok (.iconst 0, 1) := by decide +kernel
theorem dX7_init_39 : decode cX7_init 39 = .ok (.putfield 31, 3) := by decide +kernel
theorem dX7_init_42 : decode cX7_init 42 = .ok (.aload_n 0, 1) := by decide +kernel
theorem dX7_init_43 : decode cX7_init 43 = .ok (.iconst 0, 1) := by decide +kernel
theorem dX7_init_44 : decode cX7_init 44 = .ok (.putfield 34, 3) := by decide +kernel
theorem dX7_init_47 : decode cX7_init 47 = .ok (.return_, 1) := by decide +kernel
theorem dX7_wheel_0 : decode cX7_wheel 0 = .ok (.aload_n 0, 1) := by decide +kernel
theorem dX7_wheel_1 : decode cX7_wheel 1 = .ok (.getfield 12, 3) := by decide +kernel
theorem dX7_wheel_4 : decode cX7_wheel 4 = .ok (.areturn, 1) := by decide +kernel
theorem dX7_failedEvent_0 : decode cX7_failedEvent 0 = .ok (.aload_n 0, 1) := by decide +kernel
theorem dX7_failedEvent_1 : decode cX7_failedEvent 1 = .ok (.getfield 18, 3) := by decide +kernel
theorem dX7_failedEvent_4 : decode cX7_failedEvent 4 = .ok (.ireturn, 1) := by decide +kernel
theorem dX7_reason_0 : decode cX7_reason 0 = .ok (.aload_n 0, 1) := by decide +kernel
theorem dX7_reason_1 : decode cX7_reason 1 = .ok (.getfield 22, 3) := by decide +kernel
theorem dX7_reason_4 : decode cX7_reason 4 = .ok (.ireturn, 1) := by decide +kernel
theorem dX7_turned_0 : decode cX7_turned 0 = .ok (.aload_n 0, 1) := by decide +kernel
theorem dX7_turned_1 : decode cX7_turned 1 = .ok (.getfield 25, 3) := by decide +kernel
theorem dX7_turned_4 : decode cX7_turned 4 = .ok (.ireturn, 1) := by decide +kernel
set_option maxRecDepth 20000 in
theorem ggX7_tell_X9_copyFrom : GoodIn wsX7_tell wsX9_copyFrom := goodIn_r _ [12, 13, 14, 15, 16, 17, 18, 19, 20, 21, 22, 23, 24, 25, 26, 27, 28, 29, 141, 142, 143, 144, 145, 146] (by decide +kernel) (by decide +kernel)
set_option maxRecDepth 20000 in
theorem gX7_tell_X9_copyFrom : GoodIn wsX7_tell (wsV RX7 37 RX9 yX9_copyFrom wsX9_copyFrom) := goodIn_app (goodIn_of _ (by decide +kernel)) ggX7_tell_X9_copyFrom
set_option maxRecDepth 20000 in
theorem ggX7_tell_X4_asked : GoodIn wsX7_tell wsX4_asked := goodIn_r _ [34, 35, 147, 148, 149] (by decide +kernel) (by decide +kernel)
set_option maxRecDepth 20000 in
theorem gX7_tell_X4_asked : GoodIn wsX7_tell (wsV RX7 41 RX4 yX4_asked wsX4_asked) := goodIn_app (goodIn_of _ (by decide +kernel)) ggX7_tell_X4_asked
set_option maxRecDepth 20000 in
theorem ggX7_tell_X4_length : GoodIn wsX7_tell wsX4_length := goodIn_r _ [39, 40, 147, 148, 149] (by decide +kernel) (by decide +kernel)
set_option maxRecDepth 20000 in
theorem gX7_tell_X4_length : GoodIn wsX7_tell (wsV RX7 46 RX4 yX4_length wsX4_length) := goodIn_app (goodIn_of _ (by decide +kernel)) ggX7_tell_X4_length
set_option maxRecDepth 20000 in
theorem ggX7_tell_X4_signAt : GoodIn wsX7_tell wsX4_signAt := goodIn_r _ [44, 45, 46, 20, 47, 147, 148, 149] (by decide +kernel) (by decide +kernel)
set_option maxRecDepth 20000 in
theorem gX7_tell_X4_signAt : GoodIn wsX7_tell (wsV RX7 49 RX4 yX4_signAt wsX4_signAt) := goodIn_app (goodIn_of _ (by decide +kernel)) ggX7_tell_X4_signAt
set_option maxRecDepth 20000 in
theorem ggX7_tell_X7_happen : GoodIn wsX7_tell wsX7_happen := goodIn_r _ [52, 4, 1, 5, 7, 6, 53, 54, 55, 11, 56, 17, 57, 58, 59, 60, 15, 16, 13, 61, 46, 20, 47, 62, 63, 64, 65, 66, 67, 68, 69, 18, 70, 71, 72, 73, 74, 75, 33, 76, 77, 78, 79, 80, 81, 82, 83, 51, 84, 85, 86, 87, 88, 89, 90, 91, 92, 93, 94, 95, 96, 97, 98, 99, 100, 101, 102, 103, 104, 105, 106, 107, 108, 109, 14, 110, 111, 112, 113, 114, 115, 116, 117, 118, 119, 120, 121, 122, 123, 124, 125, 126, 127, 128, 129, 130, 131, 132, 133, 134, 135, 136, 137, 138, 139, 140, 141, 142, 143, 144, 145, 146] (by decide +kernel) (by decide +kernel)
set_option maxRecDepth 20000 in
theorem gX7_tell_X7_happen : GoodIn wsX7_tell (wsV RX7 53 RX7 yX7_happen wsX7_happen) := goodIn_app (goodIn_of _ (by decide +kernel)) ggX7_tell_X7_happen
theorem dX7_tell_0 : decode cX7_tell 0 = .ok (.aload_n 0, 1) := by decide +kernel
theorem dX7_tell_1 : decode cX7_tell 1 = .ok (.getfield 12, 3) := by decide +kernel
theorem dX7_tell_4 : decode cX7_tell 4 = .ok (.aload_n 1, 1) := by decide +kernel
theorem dX7_tell_5 : decode cX7_tell 5 = .ok (.invokevirtual 37, 3) := by decide +kernel
theorem dX7_tell_8 : decode cX7_tell 8 = .ok (.aload_n 0, 1) := by decide +kernel
theorem dX7_tell_9 : decode cX7_tell 9 = .ok (.bipush (-6), 2) := by decide +kernel
theorem dX7_tell_11 : decode cX7_tell 11 = .ok (.putfield 18, 3) := by decide +kernel
theorem dX7_tell_14 : decode cX7_tell 14 = .ok (.aload_n 0, 1) := by decide +kernel
theorem dX7_tell_15 : decode cX7_tell 15 = .ok (.bipush (-6), 2) := by decide +kernel
theorem dX7_tell_17 : decode cX7_tell 17 = .ok (.putfield 22, 3) := by decide +kernel
theorem dX7_tell_20 : decode cX7_tell 20 = .ok (.aload_n 0, 1) := by decide +kernel
theorem dX7_tell_21 : decode cX7_tell 21 = .ok (.iconst 0, 1) := by decide +kernel
theorem dX7_tell_22 : decode cX7_tell 22 = .ok (.putfield 25, 3) := by decide +kernel
theorem dX7_tell_25 : decode cX7_tell 25 = .ok (.aload_n 0, 1) := by decide +kernel
theorem dX7_tell_26 : decode cX7_tell 26 = .ok (.iload 4, 2) := by decide +kernel
theorem dX7_tell_28 : decode cX7_tell 28 = .ok (.putfield 28, 3) := by decide +kernel
theorem dX7_tell_31 : decode cX7_tell 31 = .ok (.aload_n 0, 1) := by decide +kernel
theorem dX7_tell_32 : decode cX7_tell 32 = .ok (.aload_n 2, 1) := by decide +kernel
theorem dX7_tell_33 : decode cX7_tell 33 = .ok (.invokevirtual 41, 3) := by decide +kernel
theorem dX7_tell_36 : decode cX7_tell 36 = .ok (.putfield 31, 3) := by decide +kernel
theorem dX7_tell_39 : decode cX7_tell 39 = .ok (.aload_n 0, 1) := by decide +kernel
theorem dX7_tell_40 : decode cX7_tell 40 = .ok (.iconst 0, 1) := by decide +kernel
theorem dX7_tell_41 : decode cX7_tell 41 = .ok (.putfield 34, 3) := by decide +kernel
theorem dX7_tell_44 : decode cX7_tell 44 = .ok (.iconst 0, 1) := by decide +kernel
theorem dX7_tell_45 : decode cX7_tell 45 = .ok (.istore 5, 2) := by decide +kernel
theorem dX7_tell_47 : decode cX7_tell 47 = .ok (.iload 5, 2) := by decide +kernel
theorem dX7_tell_49 : decode cX7_tell 49 = .ok (.aload_n 2, 1) := by decide +kernel
theorem dX7_tell_50 : decode cX7_tell 50 = .ok (.invokevirtual 46, 3) := by decide +kernel
theorem dX7_tell_53 : decode cX7_tell 53 = .ok (.if_icmp .ge 50, 3) := by decide +kernel
theorem dX7_tell_56 : decode cX7_tell 56 = .ok (.iload 5, 2) := by decide +kernel
theorem dX7_tell_58 : decode cX7_tell 58 = .ok (.iload_n 3, 1) := by decide +kernel
theorem dX7_tell_59 : decode cX7_tell 59 = .ok (.if_icmp .ne 7, 3) := by decide +kernel
theorem dX7_tell_62 : decode cX7_tell 62 = .ok (.iconst 0, 1) := by decide +kernel
theorem dX7_tell_63 : decode cX7_tell 63 = .ok (.goto 13, 3) := by decide +kernel
theorem dX7_tell_66 : decode cX7_tell 66 = .ok (.aload_n 0, 1) := by decide +kernel
theorem dX7_tell_67 : decode cX7_tell 67 = .ok (.aload_n 2, 1) := by decide +kernel
theorem dX7_tell_68 : decode cX7_tell 68 = .ok (.iload 5, 2) := by decide +kernel
theorem dX7_tell_70 : decode cX7_tell 70 = .ok (.invokevirtual 49, 3) := by decide +kernel
theorem dX7_tell_73 : decode cX7_tell 73 = .ok (.invokevirtual 53, 3) := by decide +kernel
theorem dX7_tell_76 : decode cX7_tell 76 = .ok (.istore 6, 2) := by decide +kernel
theorem dX7_tell_78 : decode cX7_tell 78 = .ok (.iload 6, 2) := by decide +kernel
theorem dX7_tell_80 : decode cX7_tell 80 = .ok (.ifCond .eq 17, 3) := by decide +kernel
theorem dX7_tell_83 : decode cX7_tell 83 = .ok (.aload_n 0, 1) := by decide +kernel
theorem dX7_tell_84 : decode cX7_tell 84 = .ok (.iload 5, 2) := by decide +kernel
theorem dX7_tell_86 : decode cX7_tell 86 = .ok (.putfield 18, 3) := by decide +kernel
theorem dX7_tell_89 : decode cX7_tell 89 = .ok (.aload_n 0, 1) := by decide +kernel
theorem dX7_tell_90 : decode cX7_tell 90 = .ok (.iload 6, 2) := by decide +kernel
theorem dX7_tell_92 : decode cX7_tell 92 = .ok (.putfield 22, 3) := by decide +kernel
theorem dX7_tell_95 : decode cX7_tell 95 = .ok (.iconst 0, 1) := by decide +kernel
theorem dX7_tell_96 : decode cX7_tell 96 = .ok (.ireturn, 1) := by decide +kernel
theorem dX7_tell_97 : decode cX7_tell 97 = .ok (.iinc 5 1, 3) := by decide +kernel
theorem dX7_tell_100 : decode cX7_tell 100 = .ok (.goto (-53), 3) := by decide +kernel
theorem dX7_tell_103 : decode cX7_tell 103 = .ok (.iconst 1, 1) := by decide +kernel
theorem dX7_tell_104 : decode cX7_tell 104 = .ok (.ireturn, 1) := by decide +kernel
set_option maxRecDepth 20000 in
theorem ggX7_happen_X9_letGo : GoodIn wsX7_happen wsX9_letGo := goodIn_r _ [10, 11, 12, 13, 14, 9, 15, 16, 17, 18, 19, 20, 21, 22, 23, 24, 25, 26, 27, 28, 29, 30, 31, 32, 33, 34, 35, 106, 107, 108, 109, 110, 111] (by decide +kernel) (by decide +kernel)
set_option maxRecDepth 20000 in
theorem gX7_happen_X9_letGo : GoodIn wsX7_happen (wsV RX7 56 RX9 yX9_letGo wsX9_letGo) := goodIn_app (goodIn_of _ (by decide +kernel)) ggX7_happen_X9_letGo
set_option maxRecDepth 20000 in
theorem ggX7_happen_X4_isMotion : GoodIn wsX7_happen wsX4_isMotion := goodIn_r _ [39] (by decide +kernel) (by decide +kernel)
set_option maxRecDepth 20000 in
theorem gX7_happen_X4_isMotion : GoodIn wsX7_happen (va_wsS RX7 59 yX4_isMotion wsX4_isMotion) := goodIn_app (goodIn_of _ (by decide +kernel)) ggX7_happen_X4_isMotion
set_option maxRecDepth 20000 in
theorem ggX7_happen_X9_turn : GoodIn wsX7_happen wsX9_turn := goodIn_r _ [35, 11, 23, 24, 25, 26, 106, 107, 108, 109, 110, 111] (by decide +kernel) (by decide +kernel)
set_option maxRecDepth 20000 in
theorem gX7_happen_X9_turn : GoodIn wsX7_happen (wsV RX7 63 RX9 yX9_turn wsX9_turn) := goodIn_app (goodIn_of _ (by decide +kernel)) ggX7_happen_X9_turn
set_option maxRecDepth 20000 in
theorem ggX7_happen_X4_isDigit : GoodIn wsX7_happen wsX4_isDigit := goodIn_r _ [43] (by decide +kernel) (by decide +kernel)
set_option maxRecDepth 20000 in
theorem gX7_happen_X4_isDigit : GoodIn wsX7_happen (va_wsS RX7 67 yX4_isDigit wsX4_isDigit) := goodIn_app (goodIn_of _ (by decide +kernel)) ggX7_happen_X4_isDigit
set_option maxRecDepth 20000 in
theorem ggX7_happen_X7_load : GoodIn wsX7_happen wsX7_load := goodIn_r _ [48, 2, 49, 50, 51, 9, 52, 11, 53, 54, 55, 56, 17, 20, 21, 22, 57, 58, 59, 60, 61, 62, 99, 100, 101, 102, 103, 104, 105, 106, 107, 108, 109, 110, 111] (by decide +kernel) (by decide +kernel)
set_option maxRecDepth 20000 in
theorem gX7_happen_X7_load : GoodIn wsX7_happen (wsV RX7 70 RX7 yX7_load wsX7_load) := goodIn_app (goodIn_of _ (by decide +kernel)) ggX7_happen_X7_load
set_option maxRecDepth 20000 in
theorem ggX7_happen_X4_getsOut : GoodIn wsX7_happen wsX4_getsOut := goodIn_r _ [65] (by decide +kernel) (by decide +kernel)
set_option maxRecDepth 20000 in
theorem gX7_happen_X4_getsOut : GoodIn wsX7_happen (va_wsS RX7 73 yX4_getsOut wsX4_getsOut) := goodIn_app (goodIn_of _ (by decide +kernel)) ggX7_happen_X4_getsOut
set_option maxRecDepth 20000 in
theorem ggX7_happen_X7_letOut : GoodIn wsX7_happen wsX7_letOut := goodIn_r _ [69, 2, 70, 71, 72, 9, 73, 74, 11, 20, 21, 22, 49, 50, 51, 52, 75, 76, 77, 78, 16, 61, 62, 99, 100, 101, 102, 103, 104, 105, 106, 107, 108, 109, 110, 111] (by decide +kernel) (by decide +kernel)
set_option maxRecDepth 20000 in
theorem gX7_happen_X7_letOut : GoodIn wsX7_happen (wsV RX7 76 RX7 yX7_letOut wsX7_letOut) := goodIn_app (goodIn_of _ (by decide +kernel)) ggX7_happen_X7_letOut
set_option maxRecDepth 20000 in
theorem ggX7_happen_X1_personAt : GoodIn wsX7_happen wsX1_personAt := goodIn_r _ [82] (by decide +kernel) (by decide +kernel)
set_option maxRecDepth 20000 in
theorem gX7_happen_X1_personAt : GoodIn wsX7_happen (va_wsS RX7 79 yX1_personAt wsX1_personAt) := goodIn_app (goodIn_of _ (by decide +kernel)) ggX7_happen_X1_personAt
set_option maxRecDepth 20000 in
theorem ggX7_happen_X7_letIn : GoodIn wsX7_happen wsX7_letIn := goodIn_r _ [86, 2, 87, 88, 89, 9, 90, 74, 20, 21, 22, 91, 92, 93, 94, 16, 11, 49, 50, 51, 52, 95, 96, 97, 98, 61, 62, 99, 100, 101, 102, 103, 104, 105, 106, 107, 108, 109, 110, 111] (by decide +kernel) (by decide +kernel)
set_option maxRecDepth 20000 in
theorem gX7_happen_X7_letIn : GoodIn wsX7_happen (wsV RX7 85 RX7 yX7_letIn wsX7_letIn) := goodIn_app (goodIn_of _ (by decide +kernel)) ggX7_happen_X7_letIn
theorem dX7_happen_0 : decode cX7_happen 0 = .ok (.iload_n 1, 1) := by decide +kernel
theorem dX7_happen_1 : decode cX7_happen 1 = .ok (.bipush 94, 2) := by decide +kernel
theorem dX7_happen_3 : decode cX7_happen 3 = .ok (.if_icmp .ne 21, 3) := by decide +kernel
theorem dX7_happen_6 : decode cX7_happen 6 = .ok (.aload_n 0, 1) := by decide +kernel
theorem dX7_happen_7 : decode cX7_happen 7 = .ok (.dup, 1) := by decide +kernel
theorem dX7_happen_8 : decode cX7_happen 8 = .ok (.getfield 25, 3) := by decide +kernel
theorem dX7_happen_11 : decode cX7_happen 11 = .ok (.aload_n 0, 1) := by decide +kernel
theorem dX7_happen_12 : decode cX7_happen 12 = .ok (.getfield 12, 3) := by decide +kernel
theorem dX7_happen_15 : decode cX7_happen 15 = .ok (.invokevirtual 56, 3) := by decide +kernel
theorem dX7_happen_18 : decode cX7_happen 18 = .ok (.iadd, 1) := by decide +kernel
theorem dX7_happen_19 : decode cX7_happen 19 = .ok (.putfield 25, 3) := by decide +kernel
theorem dX7_happen_22 : decode cX7_happen 22 = .ok (.iconst 0, 1) := by decide +kernel
theorem dX7_happen_23 : decode cX7_happen 23 = .ok (.ireturn, 1) := by decide +kernel
theorem dX7_happen_24 : decode cX7_happen 24 = .ok (.iload_n 1, 1) := by decide +kernel
theorem dX7_happen_25 : decode cX7_happen 25 = .ok (.invokestatic 59, 3) := by decide +kernel
theorem dX7_happen_28 : decode cX7_happen 28 = .ok (.ifCond .eq 23, 3) := by decide +kernel
theorem dX7_happen_31 : decode cX7_happen 31 = .ok (.aload_n 0, 1) := by decide +kernel
theorem dX7_happen_32 : decode cX7_happen 32 = .ok (.getfield 12, 3) := by decide +kernel
theorem dX7_happen_35 : decode cX7_happen 35 = .ok (.iload_n 1, 1) := by decide +kernel
theorem dX7_happen_36 : decode cX7_happen 36 = .ok (.bipush 62, 2) := by decide +kernel
theorem dX7_happen_38 : decode cX7_happen 38 = .ok (.if_icmp .ne 7, 3) := by decide +kernel
theorem dX7_happen_41 : decode cX7_happen 41 = .ok (.iconst 1, 1) := by decide +kernel
theorem dX7_happen_42 : decode cX7_happen 42 = .ok (.goto 4, 3) := by decide +kernel
theorem dX7_happen_45 : decode cX7_happen 45 = .ok (.iconst (-1), 1) := by decide +kernel
theorem dX7_happen_46 : decode cX7_happen 46 = .ok (.invokevirtual 63, 3) := by decide +kernel
theorem dX7_happen_49 : decode cX7_happen 49 = .ok (.iconst 0, 1) := by decide +kernel
theorem dX7_happen_50 : decode cX7_happen 50 = .ok (.ireturn, 1) := by decide +kernel
theorem dX7_happen_51 : decode cX7_happen 51 = .ok (.iload_n 1, 1) := by decide +kernel
theorem dX7_happen_52 : decode cX7_happen 52 = .ok (.invokestatic 67, 3) := by decide +kernel
theorem dX7_happen_55 : decode cX7_happen 55 = .ok (.ifCond .eq 12, 3) := by decide +kernel
theorem dX7_happen_58 : decode cX7_happen 58 = .ok (.aload_n 0, 1) := by decide +kernel
theorem dX7_happen_59 : decode cX7_happen 59 = .ok (.iload_n 1, 1) := by decide +kernel
theorem dX7_happen_60 : decode cX7_happen 60 = .ok (.bipush 48, 2) := by decide +kernel
theorem dX7_happen_62 : decode cX7_happen 62 = .ok (.isub, 1) := by decide +kernel
theorem dX7_happen_63 : decode cX7_happen 63 = .ok (.invokevirtual 70, 3) := by decide +kernel
theorem dX7_happen_66 : decode cX7_happen 66 = .ok (.ireturn, 1) := by decide +kernel
theorem dX7_happen_67 : decode cX7_happen 67 = .ok (.iload_n 1, 1) := by decide +kernel
theorem dX7_happen_68 : decode cX7_happen 68 = .ok (.invokestatic 73, 3) := by decide +kernel
theorem dX7_happen_71 : decode cX7_happen 71 = .ok (.ifCond .eq 12, 3) := by decide +kernel
theorem dX7_happen_74 : decode cX7_happen 74 = .ok (.aload_n 0, 1) := by decide +kernel
theorem dX7_happen_75 : decode cX7_happen 75 = .ok (.iload_n 1, 1) := by decide +kernel
theorem dX7_happen_76 : decode cX7_happen 76 = .ok (.bipush 97, 2) := by decide +kernel
theorem dX7_happen_78 : decode cX7_happen 78 = .ok (.isub, 1) := by decide +kernel
theorem dX7_happen_79 : decode cX7_happen 79 = .ok (.invokevirtual 76, 3) := by decide +kernel
theorem dX7_happen_82 : decode cX7_happen 82 = .ok (.ireturn, 1) := by decide +kernel
theorem dX7_happen_83 : decode cX7_happen 83 = .ok (.iload_n 1, 1) := by decide +kernel
theorem dX7_happen_84 : decode cX7_happen 84 = .ok (.bipush 63, 2) := by decide +kernel
theorem dX7_happen_86 : decode cX7_happen 86 = .ok (.if_icmp .ne 35, 3) := by decide +kernel
theorem dX7_happen_89 : decode cX7_happen 89 = .ok (.aload_n 0, 1) := by decide +kernel
theorem dX7_happen_90 : decode cX7_happen 90 = .ok (.getfield 28, 3) := by decide +kernel
theorem dX7_happen_93 : decode cX7_happen 93 = .ok (.aload_n 0, 1) := by decide +kernel
theorem dX7_happen_94 : decode cX7_happen 94 = .ok (.getfield 34, 3) := by decide +kernel
theorem dX7_happen_97 : decode cX7_happen 97 = .ok (.aload_n 0, 1) := by decide +kernel
theorem dX7_happen_98 : decode cX7_happen 98 = .ok (.getfield 31, 3) := by decide +kernel
theorem dX7_happen_101 : decode cX7_happen 101 = .ok (.invokestatic 79, 3) := by decide +kernel
theorem dX7_happen_104 : decode cX7_happen 104 = .ok (.istore_n 2, 1) := by decide +kernel
theorem dX7_happen_105 : decode cX7_happen 105 = .ok (.aload_n 0, 1) := by decide +kernel
theorem dX7_happen_106 : decode cX7_happen 106 = .ok (.dup, 1) := by decide +kernel
theorem dX7_happen_107 : decode cX7_happen 107 = .ok (.getfield 34, 3) := by decide +kernel
theorem dX7_happen_110 : decode cX7_happen 110 = .ok (.iconst 1, 1) := by decide +kernel
theorem dX7_happen_111 : decode cX7_happen 111 = .ok (.iadd, 1) := by decide +kernel
theorem dX7_happen_112 : decode cX7_happen 112 = .ok (.putfield 34, 3) := by decide +kernel
theorem dX7_happen_115 : decode cX7_happen 115 = .ok (.aload_n 0, 1) := by decide +kernel
theorem dX7_happen_116 : decode cX7_happen 116 = .ok (.iload_n 2, 1) := by decide +kernel
theorem dX7_happen_117 : decode cX7_happen 117 = .ok (.invokevirtual 85, 3) := by decide +kernel
theorem dX7_happen_120 : decode cX7_happen 120 = .ok (.ireturn, 1) := by decide +kernel
theorem dX7_happen_121 : decode cX7_happen 121 = .ok (.aload_n 0, 1) := by decide +kernel
theorem dX7_happen_122 : decode cX7_happen 122 = .ok (.iload_n 1, 1) := by decide +kernel
theorem dX7_happen_123 : decode cX7_happen 123 = .ok (.bipush 65, 2) := by decide +kernel
theorem dX7_happen_125 : decode cX7_happen 125 = .ok (.isub, 1) := by decide +kernel
theorem dX7_happen_126 : decode cX7_happen 126 = .ok (.invokevirtual 85, 3) := by decide +kernel
theorem dX7_happen_129 : decode cX7_happen 129 = .ok (.ireturn, 1) := by decide +kernel
set_option maxRecDepth 20000 in
theorem ggX7_load_X9_lowest : GoodIn wsX7_load wsX9_lowest := goodIn_r _ [6, 7, 29, 30, 31, 32, 33, 34] (by decide +kernel) (by decide +kernel)
set_option maxRecDepth 20000 in
theorem gX7_load_X9_lowest : GoodIn wsX7_load (wsV RX7 88 RX9 yX9_lowest wsX9_lowest) := goodIn_app (goodIn_of _ (by decide +kernel)) ggX7_load_X9_lowest
set_option maxRecDepth 20000 in
theorem ggX7_load_X9_loadOf : GoodIn wsX7_load wsX9_loadOf := goodIn_r _ [11, 12, 13, 14, 15, 29, 30, 31, 32, 33, 34] (by decide +kernel) (by decide +kernel)
set_option maxRecDepth 20000 in
theorem gX7_load_X9_loadOf : GoodIn wsX7_load (wsV RX7 91 RX9 yX9_loadOf wsX9_loadOf) := goodIn_app (goodIn_of _ (by decide +kernel)) ggX7_load_X9_loadOf
set_option maxRecDepth 20000 in
theorem ggX7_load_X9_setLoad : GoodIn wsX7_load wsX9_setLoad := goodIn_r _ [19, 12, 20, 14, 21, 29, 30, 31, 32, 33, 34] (by decide +kernel) (by decide +kernel)
set_option maxRecDepth 20000 in
theorem gX7_load_X9_setLoad : GoodIn wsX7_load (wsV RX7 94 RX9 yX9_setLoad wsX9_setLoad) := goodIn_app (goodIn_of _ (by decide +kernel)) ggX7_load_X9_setLoad
theorem dX7_load_0 : decode cX7_load 0 = .ok (.aload_n 0, 1) := by decide +kernel
theorem dX7_load_1 : decode cX7_load 1 = .ok (.getfield 12, 3) := by decide +kernel
theorem dX7_load_4 : decode cX7_load 4 = .ok (.invokevirtual 88, 3) := by decide +kernel
theorem dX7_load_7 : decode cX7_load 7 = .ok (.istore_n 2, 1) := by decide +kernel
theorem dX7_load_8 : decode cX7_load 8 = .ok (.iload_n 1, 1) := by decide +kernel
theorem dX7_load_9 : decode cX7_load 9 = .ok (.ifCond .ne 7, 3) := by decide +kernel
theorem dX7_load_12 : decode cX7_load 12 = .ok (.iconst 0, 1) := by decide +kernel
theorem dX7_load_13 : decode cX7_load 13 = .ok (.goto 13, 3) := by decide +kernel
theorem dX7_load_16 : decode cX7_load 16 = .ok (.aload_n 0, 1) := by decide +kernel
theorem dX7_load_17 : decode cX7_load 17 = .ok (.getfield 12, 3) := by decide +kernel
theorem dX7_load_20 : decode cX7_load 20 = .ok (.iload_n 2, 1) := by decide +kernel
theorem dX7_load_21 : decode cX7_load 21 = .ok (.invokevirtual 91, 3) := by decide +kernel
theorem dX7_load_24 : decode cX7_load 24 = .ok (.iload_n 1, 1) := by decide +kernel
theorem dX7_load_25 : decode cX7_load 25 = .ok (.iadd, 1) := by decide +kernel
theorem dX7_load_26 : decode cX7_load 26 = .ok (.istore_n 3, 1) := by decide +kernel
theorem dX7_load_27 : decode cX7_load 27 = .ok (.iload_n 3, 1) := by decide +kernel
theorem dX7_load_28 : decode cX7_load 28 = .ok (.bipush 99, 2) := by decide +kernel
theorem dX7_load_30 : decode cX7_load 30 = .ok (.if_icmp .le 5, 3) := by decide +kernel
theorem dX7_load_33 : decode cX7_load 33 = .ok (.iconst 4, 1) := by decide +kernel
theorem dX7_load_34 : decode cX7_load 34 = .ok (.ireturn, 1) := by decide +kernel
theorem dX7_load_35 : decode cX7_load 35 = .ok (.aload_n 0, 1) := by decide +kernel
theorem dX7_load_36 : decode cX7_load 36 = .ok (.getfield 12, 3) := by decide +kernel
theorem dX7_load_39 : decode cX7_load 39 = .ok (.iload_n 2, 1) := by decide +kernel
theorem dX7_load_40 : decode cX7_load 40 = .ok (.iload_n 3, 1) := by decide +kernel
theorem dX7_load_41 : decode cX7_load 41 = .ok (.invokevirtual 94, 3) := by decide +kernel
theorem dX7_load_44 : decode cX7_load 44 = .ok (.iconst 0, 1) := by decide +kernel
theorem dX7_load_45 : decode cX7_load 45 = .ok (.ireturn, 1) := by decide +kernel
set_option maxRecDepth 20000 in
theorem ggX7_letIn_X9_isAboard : GoodIn wsX7_letIn wsX9_isAboard := goodIn_r _ [6, 7, 8, 9, 10, 34, 35, 36, 37, 38, 39] (by decide +kernel) (by decide +kernel)
set_option maxRecDepth 20000 in
theorem gX7_letIn_X9_isAboard : GoodIn wsX7_letIn (wsV RX7 98 RX9 yX9_isAboard wsX9_isAboard) := goodIn_app (goodIn_of _ (by decide +kernel)) ggX7_letIn_X9_isAboard
set_option maxRecDepth 20000 in
theorem ggX7_letIn_X9_isTaken : GoodIn wsX7_letIn wsX9_isTaken := goodIn_r _ [14, 15, 16, 8, 9, 10, 34, 35, 36, 37, 38, 39] (by decide +kernel) (by decide +kernel)
set_option maxRecDepth 20000 in
theorem gX7_letIn_X9_isTaken : GoodIn wsX7_letIn (wsV RX7 101 RX9 yX9_isTaken wsX9_isTaken) := goodIn_app (goodIn_of _ (by decide +kernel)) ggX7_letIn_X9_isTaken
set_option maxRecDepth 20000 in
theorem ggX7_letIn_X9_lowest : GoodIn wsX7_letIn wsX9_lowest := goodIn_r _ [20, 16, 34, 35, 36, 37, 38, 39] (by decide +kernel) (by decide +kernel)
set_option maxRecDepth 20000 in
theorem gX7_letIn_X9_lowest : GoodIn wsX7_letIn (wsV RX7 88 RX9 yX9_lowest wsX9_lowest) := goodIn_app (goodIn_of _ (by decide +kernel)) ggX7_letIn_X9_lowest
set_option maxRecDepth 20000 in
theorem ggX7_letIn_X9_seat : GoodIn wsX7_letIn wsX9_seat := goodIn_r _ [24, 15, 7, 25, 9, 26, 34, 35, 36, 37, 38, 39] (by decide +kernel) (by decide +kernel)
set_option maxRecDepth 20000 in
theorem gX7_letIn_X9_seat : GoodIn wsX7_letIn (wsV RX7 105 RX9 yX9_seat wsX9_seat) := goodIn_app (goodIn_of _ (by decide +kernel)) ggX7_letIn_X9_seat
theorem dX7_letIn_0 : decode cX7_letIn 0 = .ok (.aload_n 0, 1) := by decide +kernel
theorem dX7_letIn_1 : decode cX7_letIn 1 = .ok (.getfield 12, 3) := by decide +kernel
theorem dX7_letIn_4 : decode cX7_letIn 4 = .ok (.iload_n 1, 1) := by decide +kernel
theorem dX7_letIn_5 : decode cX7_letIn 5 = .ok (.invokevirtual 98, 3) := by decide +kernel
theorem dX7_letIn_8 : decode cX7_letIn 8 = .ok (.ifCond .eq 5, 3) := by decide +kernel
theorem dX7_letIn_11 : decode cX7_letIn 11 = .ok (.iconst 1, 1) := by decide +kernel
theorem dX7_letIn_12 : decode cX7_letIn 12 = .ok (.ireturn, 1) := by decide +kernel
theorem dX7_letIn_13 : decode cX7_letIn 13 = .ok (.aload_n 0, 1) := by decide +kernel
theorem dX7_letIn_14 : decode cX7_letIn 14 = .ok (.getfield 12, 3) := by decide +kernel
theorem dX7_letIn_17 : decode cX7_letIn 17 = .ok (.invokevirtual 101, 3) := by decide +kernel
theorem dX7_letIn_20 : decode cX7_letIn 20 = .ok (.ifCond .eq 5, 3) := by decide +kernel
theorem dX7_letIn_23 : decode cX7_letIn 23 = .ok (.iconst 2, 1) := by decide +kernel
theorem dX7_letIn_24 : decode cX7_letIn 24 = .ok (.ireturn, 1) := by decide +kernel
theorem dX7_letIn_25 : decode cX7_letIn 25 = .ok (.aload_n 0, 1) := by decide +kernel
theorem dX7_letIn_26 : decode cX7_letIn 26 = .ok (.getfield 12, 3) := by decide +kernel
theorem dX7_letIn_29 : decode cX7_letIn 29 = .ok (.iload_n 1, 1) := by decide +kernel
theorem dX7_letIn_30 : decode cX7_letIn 30 = .ok (.aload_n 0, 1) := by decide +kernel
theorem dX7_letIn_31 : decode cX7_letIn 31 = .ok (.getfield 12, 3) := by decide +kernel
theorem dX7_letIn_34 : decode cX7_letIn 34 = .ok (.invokevirtual 88, 3) := by decide +kernel
theorem dX7_letIn_37 : decode cX7_letIn 37 = .ok (.invokevirtual 105, 3) := by decide +kernel
theorem dX7_letIn_40 : decode cX7_letIn 40 = .ok (.iconst 0, 1) := by decide +kernel
theorem dX7_letIn_41 : decode cX7_letIn 41 = .ok (.ireturn, 1) := by decide +kernel
set_option maxRecDepth 20000 in
theorem ggX7_letOut_X9_isLowest : GoodIn wsX7_letOut wsX9_isLowest := goodIn_r _ [6, 7, 8, 9, 10, 11, 30, 31, 32, 33, 34, 35] (by decide +kernel) (by decide +kernel)
set_option maxRecDepth 20000 in
theorem gX7_letOut_X9_isLowest : GoodIn wsX7_letOut (wsV RX7 108 RX9 yX9_isLowest wsX9_isLowest) := goodIn_app (goodIn_of _ (by decide +kernel)) ggX7_letOut_X9_isLowest
set_option maxRecDepth 20000 in
theorem ggX7_letOut_X9_lowest : GoodIn wsX7_letOut wsX9_lowest := goodIn_r _ [15, 8, 30, 31, 32, 33, 34, 35] (by decide +kernel) (by decide +kernel)
set_option maxRecDepth 20000 in
theorem gX7_letOut_X9_lowest : GoodIn wsX7_letOut (wsV RX7 88 RX9 yX9_lowest wsX9_lowest) := goodIn_app (goodIn_of _ (by decide +kernel)) ggX7_letOut_X9_lowest
set_option maxRecDepth 20000 in
theorem ggX7_letOut_X9_unseat : GoodIn wsX7_letOut wsX9_unseat := goodIn_r _ [19, 7, 20, 9, 10, 11, 21, 22, 30, 31, 32, 33, 34, 35] (by decide +kernel) (by decide +kernel)
set_option maxRecDepth 20000 in
theorem gX7_letOut_X9_unseat : GoodIn wsX7_letOut (wsV RX7 111 RX9 yX9_unseat wsX9_unseat) := goodIn_app (goodIn_of _ (by decide +kernel)) ggX7_letOut_X9_unseat
theorem dX7_letOut_0 : decode cX7_letOut 0 = .ok (.aload_n 0, 1) := by decide +kernel
theorem dX7_letOut_1 : decode cX7_letOut 1 = .ok (.getfield 12, 3) := by decide +kernel
theorem dX7_letOut_4 : decode cX7_letOut 4 = .ok (.iload_n 1, 1) := by decide +kernel
theorem dX7_letOut_5 : decode cX7_letOut 5 = .ok (.invokevirtual 108, 3) := by decide +kernel
theorem dX7_letOut_8 : decode cX7_letOut 8 = .ok (.ifCond .ne 5, 3) := by decide +kernel
theorem dX7_letOut_11 : decode cX7_letOut 11 = .ok (.iconst 3, 1) := by decide +kernel
theorem dX7_letOut_12 : decode cX7_letOut 12 = .ok (.ireturn, 1) := by decide +kernel
theorem dX7_letOut_13 : decode cX7_letOut 13 = .ok (.aload_n 0, 1) := by decide +kernel
theorem dX7_letOut_14 : decode cX7_letOut 14 = .ok (.getfield 12, 3) := by decide +kernel
theorem dX7_letOut_17 : decode cX7_letOut 17 = .ok (.aload_n 0, 1) := by decide +kernel
theorem dX7_letOut_18 : decode cX7_letOut 18 = .ok (.getfield 12, 3) := by decide +kernel
theorem dX7_letOut_21 : decode cX7_letOut 21 = .ok (.invokevirtual 88, 3) := by decide +kernel
theorem dX7_letOut_24 : decode cX7_letOut 24 = .ok (.invokevirtual 111, 3) := by decide +kernel
theorem dX7_letOut_27 : decode cX7_letOut 27 = .ok (.iconst 0, 1) := by decide +kernel
theorem dX7_letOut_28 : decode cX7_letOut 28 = .ok (.ireturn, 1) := by decide +kernel
set_option maxRecDepth 20000 in
theorem ggX8_init_X9_init : GoodIn wsX8_init wsX9_init := goodIn_r _ [13, 14, 2, 3, 8, 15, 16, 17, 18, 19, 20, 21, 22, 23, 24, 25, 26, 27, 28, 29, 30] (by decide +kernel) (by decide +kernel)
set_option maxRecDepth 20000 in
theorem gX8_init_X9_init : GoodIn wsX8_init (wsX9_init) := ggX8_init_X9_init
theorem dX8_init_0 : decode cX8_init 0 = .ok (.aload_n 0, 1) := by decide +kernel
theorem dX8_init_1 : decode cX8_init 1 = .ok (.invokespecial 3, 3) := by decide +kernel
theorem dX8_init_4 : decode cX8_init 4 = .ok (.aload_n 0, 1) := by decide +kernel
theorem dX8_init_5 : decode cX8_init 5 = .ok (.new 9, 3) := by decide +kernel
theorem dX8_init_8 : decode cX8_init 8 = .ok (.dup, 1) := by decide +kernel
theorem dX8_init_9 : decode cX8_init 9 = .ok (.invokespecial 11, 3) := by decide +kernel
theorem dX8_init_12 : decode cX8_init 12 = .ok (.putfield 12, 3) := by decide +kernel
theorem dX8_init_15 : decode cX8_init 15 = .ok (.aload_n 0, 1) := by decide +kernel
theorem dX8_init_16 : decode cX8_init 16 = .ok (.bipush 8, 2) := by decide +kernel
theorem dX8_init_18 : decode cX8_init 18 = .ok (.newarray .int, 2) := by decide +kernel
theorem dX8_init_20 : decode cX8_init 20 = .ok (.putfield 18, 3) := by decide +kernel
theorem dX8_init_23 : decode cX8_init 23 = .ok (.aload_n 0, 1) := by decide +kernel
theorem dX8_init_24 : decode cX8_init 24 = .ok (.iconst 0, 1) := by decide +kernel
theorem dX8_init_25 : decode cX8_init 25 = .ok (.putfield 22, 3) := by decide +kernel
theorem dX8_init_28 : decode cX8_init 28 = .ok (.return_, 1) := by decide +kernel
theorem dX8_turned_0 : decode cX8_turned 0 = .ok (.aload_n 0, 1) := by decide +kernel
theorem dX8_turned_1 : decode cX8_turned 1 = .ok (.getfield 22, 3) := by decide +kernel
theorem dX8_turned_4 : decode cX8_turned 4 = .ok (.ireturn, 1) := by decide +kernel
set_option maxRecDepth 20000 in
theorem ggX8_timesLowest_X10_at : GoodIn wsX8_timesLowest wsX10_at := goodIn_r _ [4] (by decide +kernel) (by decide +kernel)
set_option maxRecDepth 20000 in
theorem gX8_timesLowest_X10_at_n26 : GoodIn wsX8_timesLowest (wsX10_at) := ggX8_timesLowest_X10_at
theorem dX8_timesLowest_0 : decode cX8_timesLowest 0 = .ok (.aload_n 0, 1) := by decide +kernel
theorem dX8_timesLowest_1 : decode cX8_timesLowest 1 = .ok (.getfield 18, 3) := by decide +kernel
theorem dX8_timesLowest_4 : decode cX8_timesLowest 4 = .ok (.iload_n 1, 1) := by decide +kernel
theorem dX8_timesLowest_5 : decode cX8_timesLowest 5 = .ok (.invokestatic 26, 3) := by decide +kernel
theorem dX8_timesLowest_8 : decode cX8_timesLowest 8 = .ok (.ireturn, 1) := by decide +kernel
set_option maxRecDepth 20000 in
theorem ggX8_take_X9_copyFrom : GoodIn wsX8_take wsX9_copyFrom := goodIn_r _ [13, 14, 15, 16, 17, 18, 19, 20, 21, 22, 23, 24, 7, 25, 26, 27, 28, 29, 89, 90, 91, 92, 93, 94] (by decide +kernel) (by decide +kernel)
set_option maxRecDepth 20000 in
theorem gX8_take_X9_copyFrom : GoodIn wsX8_take (wsV RX8 30 RX9 yX9_copyFrom wsX9_copyFrom) := goodIn_app (goodIn_of _ (by decide +kernel)) ggX8_take_X9_copyFrom
set_option maxRecDepth 20000 in
theorem ggX8_take_J7_fill_53178 : GoodIn wsX8_take wsJ7_fill_53178 := goodIn_r _ [33] (by decide +kernel) (by decide +kernel)
set_option maxRecDepth 20000 in
theorem gX8_take_J7_fill_53178 : GoodIn wsX8_take (va_wsS RX8 34 yJ7_fill_53178 wsJ7_fill_53178) := goodIn_app (goodIn_of _ (by decide +kernel)) ggX8_take_J7_fill_53178
set_option maxRecDepth 20000 in
theorem ggX8_take_J9_floorMod_7cf53 : GoodIn wsX8_take wsJ9_floorMod_7cf53 := goodIn_r _ [37] (by decide +kernel) (by decide +kernel)
set_option maxRecDepth 20000 in
theorem gX8_take_J9_floorMod_7cf53 : GoodIn wsX8_take (va_wsS RX8 41 yJ9_floorMod_7cf53 wsJ9_floorMod_7cf53) := goodIn_app (goodIn_of _ (by decide +kernel)) ggX8_take_J9_floorMod_7cf53
set_option maxRecDepth 20000 in
theorem ggX8_take_X8_change : GoodIn wsX8_take wsX8_change := goodIn_r _ [42, 1, 43, 44, 45, 12, 46, 18, 47, 48, 49, 50, 15, 16, 51, 21, 52, 53, 54, 55, 56, 57, 58, 59, 60, 61, 62, 63, 64, 65, 66, 86, 87, 88, 89, 90, 91, 92, 93, 94] (by decide +kernel) (by decide +kernel)
set_option maxRecDepth 20000 in
theorem gX8_take_X8_change : GoodIn wsX8_take (wsV RX8 47 RX8 yX8_change wsX8_change) := goodIn_app (goodIn_of _ (by decide +kernel)) ggX8_take_X8_change
set_option maxRecDepth 20000 in
theorem ggX8_take_X9_turn : GoodIn wsX8_take wsX9_turn := goodIn_r _ [70, 18, 71, 35, 36, 37, 89, 90, 91, 92, 93, 94] (by decide +kernel) (by decide +kernel)
set_option maxRecDepth 20000 in
theorem gX8_take_X9_turn : GoodIn wsX8_take (wsV RX8 51 RX9 yX9_turn wsX9_turn) := goodIn_app (goodIn_of _ (by decide +kernel)) ggX8_take_X9_turn
set_option maxRecDepth 20000 in
theorem ggX8_take_X9_letGo : GoodIn wsX8_take wsX9_letGo := goodIn_r _ [75, 18, 76, 77, 78, 12, 79, 16, 17, 14, 80, 51, 21, 52, 71, 35, 36, 37, 81, 82, 83, 84, 19, 85, 68, 69, 70, 89, 90, 91, 92, 93, 94] (by decide +kernel) (by decide +kernel)
set_option maxRecDepth 20000 in
theorem gX8_take_X9_letGo : GoodIn wsX8_take (wsV RX8 54 RX9 yX9_letGo wsX9_letGo) := goodIn_app (goodIn_of _ (by decide +kernel)) ggX8_take_X9_letGo
set_option maxRecDepth 20000 in
theorem ggX8_take_X9_lowest : GoodIn wsX8_take wsX9_lowest := goodIn_r _ [46, 18, 89, 90, 91, 92, 93, 94] (by decide +kernel) (by decide +kernel)
set_option maxRecDepth 20000 in
theorem gX8_take_X9_lowest : GoodIn wsX8_take (wsV RX8 62 RX9 yX9_lowest wsX9_lowest) := goodIn_app (goodIn_of _ (by decide +kernel)) ggX8_take_X9_lowest
set_option maxRecDepth 20000 in
theorem ggX8_take_X10_at : GoodIn wsX8_take wsX10_at := goodIn_r _ [52] (by decide +kernel) (by decide +kernel)
set_option maxRecDepth 20000 in
theorem gX8_take_X10_at_n26 : GoodIn wsX8_take (wsX10_at) := ggX8_take_X10_at
set_option maxRecDepth 20000 in
theorem ggX8_take_X10_put : GoodIn wsX8_take wsX10_put := goodIn_r _ [54] (by decide +kernel) (by decide +kernel)
set_option maxRecDepth 20000 in
theorem gX8_take_X10_put_n65 : GoodIn wsX8_take (wsX10_put) := ggX8_take_X10_put
theorem dX8_take_0 : decode cX8_take 0 = .ok (.aload_n 0, 1) := by decide +kernel
theorem dX8_take_1 : decode cX8_take 1 = .ok (.getfield 12, 3) := by decide +kernel
theorem dX8_take_4 : decode cX8_take 4 = .ok (.aload_n 1, 1) := by decide +kernel
theorem dX8_take_5 : decode cX8_take 5 = .ok (.invokevirtual 30, 3) := by decide +kernel
theorem dX8_take_8 : decode cX8_take 8 = .ok (.aload_n 0, 1) := by decide +kernel
theorem dX8_take_9 : decode cX8_take 9 = .ok (.iconst 0, 1) := by decide +kernel
theorem dX8_take_10 : decode cX8_take 10 = .ok (.putfield 22, 3) := by decide +kernel
theorem dX8_take_13 : decode cX8_take 13 = .ok (.aload_n 0, 1) := by decide +kernel
theorem dX8_take_14 : decode cX8_take 14 = .ok (.getfield 18, 3) := by decide +kernel
theorem dX8_take_17 : decode cX8_take 17 = .ok (.iconst 0, 1) := by decide +kernel
theorem dX8_take_18 : decode cX8_take 18 = .ok (.invokestatic 34, 3) := by decide +kernel
theorem dX8_take_21 : decode cX8_take 21 = .ok (.iload_n 2, 1) := by decide +kernel
theorem dX8_take_22 : decode cX8_take 22 = .ok (.istore 4, 2) := by decide +kernel
theorem dX8_take_24 : decode cX8_take 24 = .ok (.iconst 0, 1) := by decide +kernel
theorem dX8_take_25 : decode cX8_take 25 = .ok (.istore 5, 2) := by decide +kernel
theorem dX8_take_27 : decode cX8_take 27 = .ok (.iload 5, 2) := by decide +kernel
theorem dX8_take_29 : decode cX8_take 29 = .ok (.iload_n 3, 1) := by decide +kernel
theorem dX8_take_30 : decode cX8_take 30 = .ok (.if_icmp .ge 104, 3) := by decide +kernel
theorem dX8_take_33 : decode cX8_take 33 = .ok (.iload 5, 2) := by decide +kernel
theorem dX8_take_35 : decode cX8_take 35 = .ok (.bipush 99, 2) := by decide +kernel
theorem dX8_take_37 : decode cX8_take 37 = .ok (.if_icmp .ge 97, 3) := by decide +kernel
theorem dX8_take_40 : decode cX8_take 40 = .ok (.bipush 75, 2) := by decide +kernel
theorem dX8_take_42 : decode cX8_take 42 = .ok (.iload 4, 2) := by decide +kernel
theorem dX8_take_44 : decode cX8_take 44 = .ok (.imul, 1) := by decide +kernel
theorem dX8_take_45 : decode cX8_take 45 = .ok (.bipush 74, 2) := by decide +kernel
theorem dX8_take_47 : decode cX8_take 47 = .ok (.iadd, 1) := by decide +kernel
theorem dX8_take_48 : decode cX8_take 48 = .ok (.ldc 40, 2) := by decide +kernel
theorem dX8_take_50 : decode cX8_take 50 = .ok (.invokestatic 41, 3) := by decide +kernel
theorem dX8_take_53 : decode cX8_take 53 = .ok (.istore 4, 2) := by decide +kernel
theorem dX8_take_55 : decode cX8_take 55 = .ok (.aload_n 0, 1) := by decide +kernel
theorem dX8_take_56 : decode cX8_take 56 = .ok (.iload 4, 2) := by decide +kernel
theorem dX8_take_58 : decode cX8_take 58 = .ok (.invokevirtual 47, 3) := by decide +kernel
theorem dX8_take_61 : decode cX8_take 61 = .ok (.iload 4, 2) := by decide +kernel
theorem dX8_take_63 : decode cX8_take 63 = .ok (.bipush 16, 2) := by decide +kernel
theorem dX8_take_65 : decode cX8_take 65 = .ok (.idiv, 1) := by decide +kernel
theorem dX8_take_66 : decode cX8_take 66 = .ok (.iconst 3, 1) := by decide +kernel
theorem dX8_take_67 : decode cX8_take 67 = .ok (.irem, 1) := by decide +kernel
theorem dX8_take_68 : decode cX8_take 68 = .ok (.ifCond .ne 11, 3) := by decide +kernel
theorem dX8_take_71 : decode cX8_take 71 = .ok (.aload_n 0, 1) := by decide +kernel
theorem dX8_take_72 : decode cX8_take 72 = .ok (.getfield 12, 3) := by decide +kernel
theorem dX8_take_75 : decode cX8_take 75 = .ok (.iconst 1, 1) := by decide +kernel
theorem dX8_take_76 : decode cX8_take 76 = .ok (.invokevirtual 51, 3) := by decide +kernel
theorem dX8_take_79 : decode cX8_take 79 = .ok (.aload_n 0, 1) := by decide +kernel
theorem dX8_take_80 : decode cX8_take 80 = .ok (.dup, 1) := by decide +kernel
theorem dX8_take_81 : decode cX8_take 81 = .ok (.getfield 22, 3) := by decide +kernel
theorem dX8_take_84 : decode cX8_take 84 = .ok (.aload_n 0, 1) := by decide +kernel
theorem dX8_take_85 : decode cX8_take 85 = .ok (.getfield 12, 3) := by decide +kernel
theorem dX8_take_88 : decode cX8_take 88 = .ok (.invokevirtual 54, 3) := by decide +kernel
theorem dX8_take_91 : decode cX8_take 91 = .ok (.invokestatic 58, 3) := by decide +kernel
theorem dX8_take_94 : decode cX8_take 94 = .ok (.iadd, 1) := by decide +kernel
theorem dX8_take_95 : decode cX8_take 95 = .ok (.putfield 22, 3) := by decide +kernel
theorem dX8_take_98 : decode cX8_take 98 = .ok (.aload_n 0, 1) := by decide +kernel
theorem dX8_take_99 : decode cX8_take 99 = .ok (.getfield 18, 3) := by decide +kernel
theorem dX8_take_102 : decode cX8_take 102 = .ok (.aload_n 0, 1) := by decide +kernel
theorem dX8_take_103 : decode cX8_take 103 = .ok (.getfield 12, 3) := by decide +kernel
theorem dX8_take_106 : decode cX8_take 106 = .ok (.invokevirtual 62, 3) := by decide +kernel
theorem dX8_take_109 : decode cX8_take 109 = .ok (.aload_n 0, 1) := by decide +kernel
theorem dX8_take_110 : decode cX8_take 110 = .ok (.getfield 18, 3) := by decide +kernel
theorem dX8_take_113 : decode cX8_take 113 = .ok (.aload_n 0, 1) := by decide +kernel
theorem dX8_take_114 : decode cX8_take 114 = .ok (.getfield 12, 3) := by decide +kernel
theorem dX8_take_117 : decode cX8_take 117 = .ok (.invokevirtual 62, 3) := by decide +kernel
theorem dX8_take_120 : decode cX8_take 120 = .ok (.invokestatic 26, 3) := by decide +kernel
theorem dX8_take_123 : decode cX8_take 123 = .ok (.iconst 1, 1) := by decide +kernel
theorem dX8_take_124 : decode cX8_take 124 = .ok (.iadd, 1) := by decide +kernel
theorem dX8_take_125 : decode cX8_take 125 = .ok (.invokestatic 65, 3) := by decide +kernel
theorem dX8_take_128 : decode cX8_take 128 = .ok (.iinc 5 1, 3) := by decide +kernel
theorem dX8_take_131 : decode cX8_take 131 = .ok (.goto (-104), 3) := by decide +kernel
theorem dX8_take_134 : decode cX8_take 134 = .ok (.return_, 1) := by decide +kernel
set_option maxRecDepth 20000 in
theorem ggX8_change_X9_lowest : GoodIn wsX8_change wsX9_lowest := goodIn_r _ [6, 7, 34, 35, 36, 37, 38, 39] (by decide +kernel) (by decide +kernel)
set_option maxRecDepth 20000 in
theorem gX8_change_X9_lowest : GoodIn wsX8_change (wsV RX8 62 RX9 yX9_lowest wsX9_lowest) := goodIn_app (goodIn_of _ (by decide +kernel)) ggX8_change_X9_lowest
set_option maxRecDepth 20000 in
theorem ggX8_change_X9_unseat : GoodIn wsX8_change wsX9_unseat := goodIn_r _ [11, 12, 13, 14, 15, 16, 17, 18, 34, 35, 36, 37, 38, 39] (by decide +kernel) (by decide +kernel)
set_option maxRecDepth 20000 in
theorem gX8_change_X9_unseat : GoodIn wsX8_change (wsV RX8 69 RX9 yX9_unseat wsX9_unseat) := goodIn_app (goodIn_of _ (by decide +kernel)) ggX8_change_X9_unseat
set_option maxRecDepth 20000 in
theorem ggX8_change_X9_isTaken : GoodIn wsX8_change wsX9_isTaken := goodIn_r _ [22, 13, 7, 14, 15, 16, 34, 35, 36, 37, 38, 39] (by decide +kernel) (by decide +kernel)
set_option maxRecDepth 20000 in
theorem gX8_change_X9_isTaken : GoodIn wsX8_change (wsV RX8 72 RX9 yX9_isTaken wsX9_isTaken) := goodIn_app (goodIn_of _ (by decide +kernel)) ggX8_change_X9_isTaken
set_option maxRecDepth 20000 in
theorem ggX8_change_X9_isAboard : GoodIn wsX8_change wsX9_isAboard := goodIn_r _ [26, 12, 14, 15, 16, 34, 35, 36, 37, 38, 39] (by decide +kernel) (by decide +kernel)
set_option maxRecDepth 20000 in
theorem gX8_change_X9_isAboard : GoodIn wsX8_change (wsV RX8 76 RX9 yX9_isAboard wsX9_isAboard) := goodIn_app (goodIn_of _ (by decide +kernel)) ggX8_change_X9_isAboard
set_option maxRecDepth 20000 in
theorem ggX8_change_X9_seat : GoodIn wsX8_change wsX9_seat := goodIn_r _ [30, 13, 12, 17, 15, 18, 34, 35, 36, 37, 38, 39] (by decide +kernel) (by decide +kernel)
set_option maxRecDepth 20000 in
theorem gX8_change_X9_seat : GoodIn wsX8_change (wsV RX8 80 RX9 yX9_seat wsX9_seat) := goodIn_app (goodIn_of _ (by decide +kernel)) ggX8_change_X9_seat
theorem dX8_change_0 : decode cX8_change 0 = .ok (.aload_n 0, 1) := by decide +kernel
theorem dX8_change_1 : decode cX8_change 1 = .ok (.getfield 12, 3) := by decide +kernel
theorem dX8_change_4 : decode cX8_change 4 = .ok (.invokevirtual 62, 3) := by decide +kernel
theorem dX8_change_7 : decode cX8_change 7 = .ok (.istore_n 2, 1) := by decide +kernel
theorem dX8_change_8 : decode cX8_change 8 = .ok (.iload_n 1, 1) := by decide +kernel
theorem dX8_change_9 : decode cX8_change 9 = .ok (.iconst 2, 1) := by decide +kernel
theorem dX8_change_10 : decode cX8_change 10 = .ok (.irem, 1) := by decide +kernel
theorem dX8_change_11 : decode cX8_change 11 = .ok (.iconst 1, 1) := by decide +kernel
theorem dX8_change_12 : decode cX8_change 12 = .ok (.if_icmp .ne 11, 3) := by decide +kernel
theorem dX8_change_15 : decode cX8_change 15 = .ok (.aload_n 0, 1) := by decide +kernel
theorem dX8_change_16 : decode cX8_change 16 = .ok (.getfield 12, 3) := by decide +kernel
theorem dX8_change_19 : decode cX8_change 19 = .ok (.iload_n 2, 1) := by decide +kernel
theorem dX8_change_20 : decode cX8_change 20 = .ok (.invokevirtual 69, 3) := by decide +kernel
theorem dX8_change_23 : decode cX8_change 23 = .ok (.iload_n 1, 1) := by decide +kernel
theorem dX8_change_24 : decode cX8_change 24 = .ok (.iconst 2, 1) := by decide +kernel
theorem dX8_change_25 : decode cX8_change 25 = .ok (.idiv, 1) := by decide +kernel
theorem dX8_change_26 : decode cX8_change 26 = .ok (.bipush 8, 2) := by decide +kernel
theorem dX8_change_28 : decode cX8_change 28 = .ok (.irem, 1) := by decide +kernel
theorem dX8_change_29 : decode cX8_change 29 = .ok (.istore_n 3, 1) := by decide +kernel
theorem dX8_change_30 : decode cX8_change 30 = .ok (.aload_n 0, 1) := by decide +kernel
theorem dX8_change_31 : decode cX8_change 31 = .ok (.getfield 12, 3) := by decide +kernel
theorem dX8_change_34 : decode cX8_change 34 = .ok (.invokevirtual 72, 3) := by decide +kernel
theorem dX8_change_37 : decode cX8_change 37 = .ok (.ifCond .ne 23, 3) := by decide +kernel
theorem dX8_change_40 : decode cX8_change 40 = .ok (.aload_n 0, 1) := by decide +kernel
theorem dX8_change_41 : decode cX8_change 41 = .ok (.getfield 12, 3) := by decide +kernel
theorem dX8_change_44 : decode cX8_change 44 = .ok (.iload_n 3, 1) := by decide +kernel
theorem dX8_change_45 : decode cX8_change 45 = .ok (.invokevirtual 76, 3) := by decide +kernel
theorem dX8_change_48 : decode cX8_change 48 = .ok (.ifCond .ne 12, 3) := by decide +kernel
theorem dX8_change_51 : decode cX8_change 51 = .ok (.aload_n 0, 1) := by decide +kernel
theorem dX8_change_52 : decode cX8_change 52 = .ok (.getfield 12, 3) := by decide +kernel
theorem dX8_change_55 : decode cX8_change 55 = .ok (.iload_n 3, 1) := by decide +kernel
theorem dX8_change_56 : decode cX8_change 56 = .ok (.iload_n 2, 1) := by decide +kernel
theorem dX8_change_57 : decode cX8_change 57 = .ok (.invokevirtual 80, 3) := by decide +kernel
theorem dX8_change_60 : decode cX8_change 60 = .ok (.return_, 1) := by decide +kernel
set_option maxRecDepth 20000 in
theorem ggX9_init_J7_fill_53178 : GoodIn wsX9_init wsJ7_fill_53178 := goodIn_r _ [14] (by decide +kernel) (by decide +kernel)
set_option maxRecDepth 20000 in
theorem gX9_init_J7_fill_53178 : GoodIn wsX9_init (va_wsS RX9 31 yJ7_fill_53178 wsJ7_fill_53178) := goodIn_app (goodIn_of _ (by decide +kernel)) ggX9_init_J7_fill_53178
theorem dX9_init_0 : decode cX9_init 0 = .ok (.aload_n 0, 1) := by decide +kernel
theorem dX9_init_1 : decode cX9_init 1 = .ok (.invokespecial 3, 3) := by decide +kernel
theorem dX9_init_4 : decode cX9_init 4 = .ok (.aload_n 0, 1) := by decide +kernel
theorem dX9_init_5 : decode cX9_init 5 = .ok (.bipush 8, 2) := by decide +kernel
theorem dX9_init_7 : decode cX9_init 7 = .ok (.newarray .int, 2) := by decide +kernel
theorem dX9_init_9 : decode cX9_init 9 = .ok (.putfield 9, 3) := by decide +kernel
theorem dX9_init_12 : decode cX9_init 12 = .ok (.aload_n 0, 1) := by decide +kernel
theorem dX9_init_13 : decode cX9_init 13 = .ok (.bipush 8, 2) := by decide +kernel
theorem dX9_init_15 : decode cX9_init 15 = .ok (.newarray .int, 2) := by decide +kernel
theorem dX9_init_17 : decode cX9_init 17 = .ok (.putfield 15, 3) := by decide +kernel
theorem dX9_init_20 : decode cX9_init 20 = .ok (.aload_n 0, 1) := by decide +kernel
theorem dX9_init_21 : decode cX9_init 21 = .ok (.bipush 8, 2) := by decide +kernel
theorem dX9_init_23 : decode cX9_init 23 = .ok (.newarray .int, 2) := by decide +kernel
theorem dX9_init_25 : decode cX9_init 25 = .ok (.putfield 18, 3) := by decide +kernel
theorem dX9_init_28 : decode cX9_init 28 = .ok (.aload_n 0, 1) := by decide +kernel
theorem dX9_init_29 : decode cX9_init 29 = .ok (.bipush 8, 2) := by decide +kernel
theorem dX9_init_31 : decode cX9_init 31 = .ok (.newarray .int, 2) := by decide +kernel
theorem dX9_init_33 : decode cX9_init 33 = .ok (.putfield 21, 3) := by decide +kernel
theorem dX9_init_36 : decode cX9_init 36 = .ok (.aload_n 0, 1) := by decide +kernel
theorem dX9_init_37 : decode cX9_init 37 = .ok (.iconst 0, 1) := by decide +kernel
theorem dX9_init_38 : decode cX9_init 38 = .ok (.putfield 24, 3) := by decide +kernel
theorem dX9_init_41 : decode cX9_init 41 = .ok (.aload_n 0, 1) := by decide +kernel
theorem dX9_init_42 : decode cX9_init 42 = .ok (.bipush 20, 2) := by decide +kernel
theorem dX9_init_44 : decode cX9_init 44 = .ok (.putfield 28, 3) := by decide +kernel
theorem dX9_init_47 : decode cX9_init 47 = .ok (.aload_n 0, 1) := by decide +kernel
theorem dX9_init_48 : decode cX9_init 48 = .ok (.getfield 9, 3) := by decide +kernel
theorem dX9_init_51 : decode cX9_init 51 = .ok (.bipush 10, 2) := by decide +kernel
theorem dX9_init_53 : decode cX9_init 53 = .ok (.invokestatic 31, 3) := by decide +kernel
theorem dX9_init_56 : decode cX9_init 56 = .ok (.aload_n 0, 1) := by decide +kernel
theorem dX9_init_57 : decode cX9_init 57 = .ok (.getfield 15, 3) := by decide +kernel
theorem dX9_init_60 : decode cX9_init 60 = .ok (.bipush (-6), 2) := by decide +kernel
theorem dX9_init_62 : decode cX9_init 62 = .ok (.invokestatic 31, 3) := by decide +kernel
theorem dX9_init_65 : decode cX9_init 65 = .ok (.aload_n 0, 1) := by decide +kernel
theorem dX9_init_66 : decode cX9_init 66 = .ok (.getfield 18, 3) := by decide +kernel
theorem dX9_init_69 : decode cX9_init 69 = .ok (.bipush (-6), 2) := by decide +kernel
theorem dX9_init_71 : decode cX9_init 71 = .ok (.invokestatic 31, 3) := by decide +kernel
theorem dX9_init_74 : decode cX9_init 74 = .ok (.return_, 1) := by decide +kernel
set_option maxRecDepth 20000 in
theorem ggX9_copyFrom_X10_copyRow : GoodIn wsX9_copyFrom wsX10_copyRow := goodIn_r _ [9, 10, 11, 12, 13, 14, 15, 16, 17] (by decide +kernel) (by decide +kernel)
set_option maxRecDepth 20000 in
theorem gX9_copyFrom_X10_copyRow_n37 : GoodIn wsX9_copyFrom (wsX10_copyRow) := ggX9_copyFrom_X10_copyRow
theorem dX9_copyFrom_0 : decode cX9_copyFrom 0 = .ok (.aload_n 1, 1) := by decide +kernel
theorem dX9_copyFrom_1 : decode cX9_copyFrom 1 = .ok (.getfield 9, 3) := by decide +kernel
theorem dX9_copyFrom_4 : decode cX9_copyFrom 4 = .ok (.aload_n 0, 1) := by decide +kernel
theorem dX9_copyFrom_5 : decode cX9_copyFrom 5 = .ok (.getfield 9, 3) := by decide +kernel
theorem dX9_copyFrom_8 : decode cX9_copyFrom 8 = .ok (.invokestatic 37, 3) := by decide +kernel
theorem dX9_copyFrom_11 : decode cX9_copyFrom 11 = .ok (.aload_n 1, 1) := by decide +kernel
theorem dX9_copyFrom_12 : decode cX9_copyFrom 12 = .ok (.getfield 15, 3) := by decide +kernel
theorem dX9_copyFrom_15 : decode cX9_copyFrom 15 = .ok (.aload_n 0, 1) := by decide +kernel
theorem dX9_copyFrom_16 : decode cX9_copyFrom 16 = .ok (.getfield 15, 3) := by decide +kernel
theorem dX9_copyFrom_19 : decode cX9_copyFrom 19 = .ok (.invokestatic 37, 3) := by decide +kernel
theorem dX9_copyFrom_22 : decode cX9_copyFrom 22 = .ok (.aload_n 1, 1) := by decide +kernel
theorem dX9_copyFrom_23 : decode cX9_copyFrom 23 = .ok (.getfield 18, 3) := by decide +kernel
theorem dX9_copyFrom_26 : decode cX9_copyFrom 26 = .ok (.aload_n 0, 1) := by decide +kernel
theorem dX9_copyFrom_27 : decode cX9_copyFrom 27 = .ok (.getfield 18, 3) := by decide +kernel
theorem dX9_copyFrom_30 : decode cX9_copyFrom 30 = .ok (.invokestatic 37, 3) := by decide +kernel
theorem dX9_copyFrom_33 : decode cX9_copyFrom 33 = .ok (.aload_n 1, 1) := by decide +kernel
theorem dX9_copyFrom_34 : decode cX9_copyFrom 34 = .ok (.getfield 21, 3) := by decide +kernel
theorem dX9_copyFrom_37 : decode cX9_copyFrom 37 = .ok (.aload_n 0, 1) := by decide +kernel
theorem dX9_copyFrom_38 : decode cX9_copyFrom 38 = .ok (.getfield 21, 3) := by decide +kernel
theorem dX9_copyFrom_41 : decode cX9_copyFrom 41 = .ok (.invokestatic 37, 3) := by decide +kernel
theorem dX9_copyFrom_44 : decode cX9_copyFrom 44 = .ok (.aload_n 0, 1) := by decide +kernel
theorem dX9_copyFrom_45 : decode cX9_copyFrom 45 = .ok (.aload_n 1, 1) := by decide +kernel
theorem dX9_copyFrom_46 : decode cX9_copyFrom 46 = .ok (.getfield 24, 3) := by decide +kernel
theorem dX9_copyFrom_49 : decode cX9_copyFrom 49 = .ok (.putfield 24, 3) := by decide +kernel
theorem dX9_copyFrom_52 : decode cX9_copyFrom 52 = .ok (.aload_n 0, 1) := by decide +kernel
theorem dX9_copyFrom_53 : decode cX9_copyFrom 53 = .ok (.aload_n 1, 1) := by decide +kernel
theorem dX9_copyFrom_54 : decode cX9_copyFrom 54 = .ok (.getfield 28, 3) := by decide +kernel
theorem dX9_copyFrom_57 : decode cX9_copyFrom 57 = .ok (.putfield 28, 3) := by decide +kernel
theorem dX9_copyFrom_60 : decode cX9_copyFrom 60 = .ok (.return_, 1) := by decide +kernel
set_option maxRecDepth 20000 in
theorem ggX9_clear_J7_fill_53178 : GoodIn wsX9_clear wsJ7_fill_53178 := goodIn_r _ [7] (by decide +kernel) (by decide +kernel)
set_option maxRecDepth 20000 in
theorem gX9_clear_J7_fill_53178 : GoodIn wsX9_clear (va_wsS RX9 31 yJ7_fill_53178 wsJ7_fill_53178) := goodIn_app (goodIn_of _ (by decide +kernel)) ggX9_clear_J7_fill_53178
theorem dX9_clear_0 : decode cX9_clear 0 = .ok (.aload_n 0, 1) := by decide +kernel
theorem dX9_clear_1 : decode cX9_clear 1 = .ok (.getfield 15, 3) := by decide +kernel
theorem dX9_clear_4 : decode cX9_clear 4 = .ok (.bipush (-6), 2) := by decide +kernel
theorem dX9_clear_6 : decode cX9_clear 6 = .ok (.invokestatic 31, 3) := by decide +kernel
theorem dX9_clear_9 : decode cX9_clear 9 = .ok (.aload_n 0, 1) := by decide +kernel
theorem dX9_clear_10 : decode cX9_clear 10 = .ok (.getfield 18, 3) := by decide +kernel
theorem dX9_clear_13 : decode cX9_clear 13 = .ok (.bipush (-6), 2) := by decide +kernel
theorem dX9_clear_15 : decode cX9_clear 15 = .ok (.invokestatic 31, 3) := by decide +kernel
theorem dX9_clear_18 : decode cX9_clear 18 = .ok (.aload_n 0, 1) := by decide +kernel
end
section
theorem dX9_clear_19 : decode cX9_clear 19 = .ok (.getfield 21, 3) := by decide +kernel
theorem dX9_clear_22 : decode cX9_clear 22 = .ok (.iconst 0, 1) := by decide +kernel
theorem dX9_clear_23 : decode cX9_clear 23 = .ok (.invokestatic 31, 3) := by decide +kernel
theorem dX9_clear_26 : decode cX9_clear 26 = .ok (.return_, 1) := by decide +kernel
set_option maxRecDepth 20000 in
theorem ggX9_weightOf_X10_at : GoodIn wsX9_weightOf wsX10_at := goodIn_r _ [4] (by decide +kernel) (by decide +kernel)
set_option maxRecDepth 20000 in
theorem gX9_weightOf_X10_at_n41 : GoodIn wsX9_weightOf (wsX10_at) := ggX9_weightOf_X10_at
theorem dX9_weightOf_0 : decode cX9_weightOf 0 = .ok (.aload_n 0, 1) := by decide +kernel
theorem dX9_weightOf_1 : decode cX9_weightOf 1 = .ok (.getfield 9, 3) := by decide +kernel
theorem dX9_weightOf_4 : decode cX9_weightOf 4 = .ok (.iload_n 1, 1) := by decide +kernel
theorem dX9_weightOf_5 : decode cX9_weightOf 5 = .ok (.invokestatic 41, 3) := by decide +kernel
theorem dX9_weightOf_8 : decode cX9_weightOf 8 = .ok (.ireturn, 1) := by decide +kernel
set_option maxRecDepth 20000 in
theorem ggX9_setWeight_X10_put : GoodIn wsX9_setWeight wsX10_put := goodIn_r _ [4] (by decide +kernel) (by decide +kernel)
set_option maxRecDepth 20000 in
theorem gX9_setWeight_X10_put_n45 : GoodIn wsX9_setWeight (wsX10_put) := ggX9_setWeight_X10_put
theorem dX9_setWeight_0 : decode cX9_setWeight 0 = .ok (.aload_n 0, 1) := by decide +kernel
theorem dX9_setWeight_1 : decode cX9_setWeight 1 = .ok (.getfield 9, 3) := by decide +kernel
theorem dX9_setWeight_4 : decode cX9_setWeight 4 = .ok (.iload_n 1, 1) := by decide +kernel
theorem dX9_setWeight_5 : decode cX9_setWeight 5 = .ok (.iload_n 2, 1) := by decide +kernel
theorem dX9_setWeight_6 : decode cX9_setWeight 6 = .ok (.invokestatic 45, 3) := by decide +kernel
theorem dX9_setWeight_9 : decode cX9_setWeight 9 = .ok (.return_, 1) := by decide +kernel
theorem dX9_friction_0 : decode cX9_friction 0 = .ok (.aload_n 0, 1) := by decide +kernel
theorem dX9_friction_1 : decode cX9_friction 1 = .ok (.getfield 28, 3) := by decide +kernel
theorem dX9_friction_4 : decode cX9_friction 4 = .ok (.ireturn, 1) := by decide +kernel
theorem dX9_setFriction_0 : decode cX9_setFriction 0 = .ok (.aload_n 0, 1) := by decide +kernel
theorem dX9_setFriction_1 : decode cX9_setFriction 1 = .ok (.iload_n 1, 1) := by decide +kernel
theorem dX9_setFriction_2 : decode cX9_setFriction 2 = .ok (.putfield 28, 3) := by decide +kernel
theorem dX9_setFriction_5 : decode cX9_setFriction 5 = .ok (.return_, 1) := by decide +kernel
theorem dX9_lowest_0 : decode cX9_lowest 0 = .ok (.aload_n 0, 1) := by decide +kernel
theorem dX9_lowest_1 : decode cX9_lowest 1 = .ok (.getfield 24, 3) := by decide +kernel
theorem dX9_lowest_4 : decode cX9_lowest 4 = .ok (.ireturn, 1) := by decide +kernel
set_option maxRecDepth 20000 in
theorem ggX9_riderOf_X10_at : GoodIn wsX9_riderOf wsX10_at := goodIn_r _ [4] (by decide +kernel) (by decide +kernel)
set_option maxRecDepth 20000 in
theorem gX9_riderOf_X10_at_n41 : GoodIn wsX9_riderOf (wsX10_at) := ggX9_riderOf_X10_at
theorem dX9_riderOf_0 : decode cX9_riderOf 0 = .ok (.aload_n 0, 1) := by decide +kernel
theorem dX9_riderOf_1 : decode cX9_riderOf 1 = .ok (.getfield 18, 3) := by decide +kernel
theorem dX9_riderOf_4 : decode cX9_riderOf 4 = .ok (.iload_n 1, 1) := by decide +kernel
theorem dX9_riderOf_5 : decode cX9_riderOf 5 = .ok (.invokestatic 41, 3) := by decide +kernel
theorem dX9_riderOf_8 : decode cX9_riderOf 8 = .ok (.ireturn, 1) := by decide +kernel
set_option maxRecDepth 20000 in
theorem ggX9_carOf_X10_at : GoodIn wsX9_carOf wsX10_at := goodIn_r _ [4] (by decide +kernel) (by decide +kernel)
set_option maxRecDepth 20000 in
theorem gX9_carOf_X10_at_n41 : GoodIn wsX9_carOf (wsX10_at) := ggX9_carOf_X10_at
theorem dX9_carOf_0 : decode cX9_carOf 0 = .ok (.aload_n 0, 1) := by decide +kernel
theorem dX9_carOf_1 : decode cX9_carOf 1 = .ok (.getfield 15, 3) := by decide +kernel
theorem dX9_carOf_4 : decode cX9_carOf 4 = .ok (.iload_n 1, 1) := by decide +kernel
theorem dX9_carOf_5 : decode cX9_carOf 5 = .ok (.invokestatic 41, 3) := by decide +kernel
theorem dX9_carOf_8 : decode cX9_carOf 8 = .ok (.ireturn, 1) := by decide +kernel
set_option maxRecDepth 20000 in
theorem ggX9_isAboard_X10_at : GoodIn wsX9_isAboard wsX10_at := goodIn_r _ [4] (by decide +kernel) (by decide +kernel)
set_option maxRecDepth 20000 in
theorem gX9_isAboard_X10_at_n41 : GoodIn wsX9_isAboard (wsX10_at) := ggX9_isAboard_X10_at
theorem dX9_isAboard_0 : decode cX9_isAboard 0 = .ok (.aload_n 0, 1) := by decide +kernel
theorem dX9_isAboard_1 : decode cX9_isAboard 1 = .ok (.getfield 15, 3) := by decide +kernel
theorem dX9_isAboard_4 : decode cX9_isAboard 4 = .ok (.iload_n 1, 1) := by decide +kernel
theorem dX9_isAboard_5 : decode cX9_isAboard 5 = .ok (.invokestatic 41, 3) := by decide +kernel
theorem dX9_isAboard_8 : decode cX9_isAboard 8 = .ok (.bipush (-6), 2) := by decide +kernel
theorem dX9_isAboard_10 : decode cX9_isAboard 10 = .ok (.if_icmp .eq 7, 3) := by decide +kernel
theorem dX9_isAboard_13 : decode cX9_isAboard 13 = .ok (.iconst 1, 1) := by decide +kernel
theorem dX9_isAboard_14 : decode cX9_isAboard 14 = .ok (.goto 4, 3) := by decide +kernel
theorem dX9_isAboard_17 : decode cX9_isAboard 17 = .ok (.iconst 0, 1) := by decide +kernel
theorem dX9_isAboard_18 : decode cX9_isAboard 18 = .ok (.ireturn, 1) := by decide +kernel
set_option maxRecDepth 20000 in
theorem ggX9_isLowest_X10_at : GoodIn wsX9_isLowest wsX10_at := goodIn_r _ [5] (by decide +kernel) (by decide +kernel)
set_option maxRecDepth 20000 in
theorem gX9_isLowest_X10_at_n41 : GoodIn wsX9_isLowest (wsX10_at) := ggX9_isLowest_X10_at
theorem dX9_isLowest_0 : decode cX9_isLowest 0 = .ok (.aload_n 0, 1) := by decide +kernel
theorem dX9_isLowest_1 : decode cX9_isLowest 1 = .ok (.getfield 15, 3) := by decide +kernel
theorem dX9_isLowest_4 : decode cX9_isLowest 4 = .ok (.iload_n 1, 1) := by decide +kernel
theorem dX9_isLowest_5 : decode cX9_isLowest 5 = .ok (.invokestatic 41, 3) := by decide +kernel
theorem dX9_isLowest_8 : decode cX9_isLowest 8 = .ok (.aload_n 0, 1) := by decide +kernel
theorem dX9_isLowest_9 : decode cX9_isLowest 9 = .ok (.getfield 24, 3) := by decide +kernel
theorem dX9_isLowest_12 : decode cX9_isLowest 12 = .ok (.if_icmp .ne 7, 3) := by decide +kernel
theorem dX9_isLowest_15 : decode cX9_isLowest 15 = .ok (.iconst 1, 1) := by decide +kernel
theorem dX9_isLowest_16 : decode cX9_isLowest 16 = .ok (.goto 4, 3) := by decide +kernel
theorem dX9_isLowest_19 : decode cX9_isLowest 19 = .ok (.iconst 0, 1) := by decide +kernel
theorem dX9_isLowest_20 : decode cX9_isLowest 20 = .ok (.ireturn, 1) := by decide +kernel
set_option maxRecDepth 20000 in
theorem ggX9_isTaken_X10_at : GoodIn wsX9_isTaken wsX10_at := goodIn_r _ [5] (by decide +kernel) (by decide +kernel)
set_option maxRecDepth 20000 in
theorem gX9_isTaken_X10_at_n41 : GoodIn wsX9_isTaken (wsX10_at) := ggX9_isTaken_X10_at
theorem dX9_isTaken_0 : decode cX9_isTaken 0 = .ok (.aload_n 0, 1) := by decide +kernel
theorem dX9_isTaken_1 : decode cX9_isTaken 1 = .ok (.getfield 18, 3) := by decide +kernel
theorem dX9_isTaken_4 : decode cX9_isTaken 4 = .ok (.aload_n 0, 1) := by decide +kernel
theorem dX9_isTaken_5 : decode cX9_isTaken 5 = .ok (.getfield 24, 3) := by decide +kernel
theorem dX9_isTaken_8 : decode cX9_isTaken 8 = .ok (.invokestatic 41, 3) := by decide +kernel
theorem dX9_isTaken_11 : decode cX9_isTaken 11 = .ok (.bipush (-6), 2) := by decide +kernel
theorem dX9_isTaken_13 : decode cX9_isTaken 13 = .ok (.if_icmp .eq 7, 3) := by decide +kernel
theorem dX9_isTaken_16 : decode cX9_isTaken 16 = .ok (.iconst 1, 1) := by decide +kernel
theorem dX9_isTaken_17 : decode cX9_isTaken 17 = .ok (.goto 4, 3) := by decide +kernel
theorem dX9_isTaken_20 : decode cX9_isTaken 20 = .ok (.iconst 0, 1) := by decide +kernel
theorem dX9_isTaken_21 : decode cX9_isTaken 21 = .ok (.ireturn, 1) := by decide +kernel
set_option maxRecDepth 20000 in
theorem ggX9_loadOf_X10_at : GoodIn wsX9_loadOf wsX10_at := goodIn_r _ [4] (by decide +kernel) (by decide +kernel)
set_option maxRecDepth 20000 in
theorem gX9_loadOf_X10_at_n41 : GoodIn wsX9_loadOf (wsX10_at) := ggX9_loadOf_X10_at
theorem dX9_loadOf_0 : decode cX9_loadOf 0 = .ok (.aload_n 0, 1) := by decide +kernel
theorem dX9_loadOf_1 : decode cX9_loadOf 1 = .ok (.getfield 21, 3) := by decide +kernel
theorem dX9_loadOf_4 : decode cX9_loadOf 4 = .ok (.iload_n 1, 1) := by decide +kernel
theorem dX9_loadOf_5 : decode cX9_loadOf 5 = .ok (.invokestatic 41, 3) := by decide +kernel
theorem dX9_loadOf_8 : decode cX9_loadOf 8 = .ok (.ireturn, 1) := by decide +kernel
set_option maxRecDepth 20000 in
theorem ggX9_setLoad_X10_put : GoodIn wsX9_setLoad wsX10_put := goodIn_r _ [4] (by decide +kernel) (by decide +kernel)
set_option maxRecDepth 20000 in
theorem gX9_setLoad_X10_put_n45 : GoodIn wsX9_setLoad (wsX10_put) := ggX9_setLoad_X10_put
theorem dX9_setLoad_0 : decode cX9_setLoad 0 = .ok (.aload_n 0, 1) := by decide +kernel
theorem dX9_setLoad_1 : decode cX9_setLoad 1 = .ok (.getfield 21, 3) := by decide +kernel
theorem dX9_setLoad_4 : decode cX9_setLoad 4 = .ok (.iload_n 1, 1) := by decide +kernel
theorem dX9_setLoad_5 : decode cX9_setLoad 5 = .ok (.iload_n 2, 1) := by decide +kernel
theorem dX9_setLoad_6 : decode cX9_setLoad 6 = .ok (.invokestatic 45, 3) := by decide +kernel
theorem dX9_setLoad_9 : decode cX9_setLoad 9 = .ok (.return_, 1) := by decide +kernel
set_option maxRecDepth 20000 in
theorem ggX9_placeOf_J9_floorMod_7cf53 : GoodIn wsX9_placeOf wsJ9_floorMod_7cf53 := goodIn_r _ [5] (by decide +kernel) (by decide +kernel)
set_option maxRecDepth 20000 in
theorem gX9_placeOf_J9_floorMod_7cf53 : GoodIn wsX9_placeOf (va_wsS RX9 49 yJ9_floorMod_7cf53 wsJ9_floorMod_7cf53) := goodIn_app (goodIn_of _ (by decide +kernel)) ggX9_placeOf_J9_floorMod_7cf53
theorem dX9_placeOf_0 : decode cX9_placeOf 0 = .ok (.iload_n 1, 1) := by decide +kernel
theorem dX9_placeOf_1 : decode cX9_placeOf 1 = .ok (.aload_n 0, 1) := by decide +kernel
theorem dX9_placeOf_2 : decode cX9_placeOf 2 = .ok (.getfield 24, 3) := by decide +kernel
theorem dX9_placeOf_5 : decode cX9_placeOf 5 = .ok (.isub, 1) := by decide +kernel
theorem dX9_placeOf_6 : decode cX9_placeOf 6 = .ok (.bipush 8, 2) := by decide +kernel
theorem dX9_placeOf_8 : decode cX9_placeOf 8 = .ok (.invokestatic 49, 3) := by decide +kernel
theorem dX9_placeOf_11 : decode cX9_placeOf 11 = .ok (.ireturn, 1) := by decide +kernel
set_option maxRecDepth 20000 in
theorem ggX9_takenCars_X10_at : GoodIn wsX9_takenCars wsX10_at := goodIn_r _ [4] (by decide +kernel) (by decide +kernel)
set_option maxRecDepth 20000 in
theorem gX9_takenCars_X10_at_n41 : GoodIn wsX9_takenCars (wsX10_at) := ggX9_takenCars_X10_at
theorem dX9_takenCars_0 : decode cX9_takenCars 0 = .ok (.iconst 0, 1) := by decide +kernel
theorem dX9_takenCars_1 : decode cX9_takenCars 1 = .ok (.istore_n 1, 1) := by decide +kernel
theorem dX9_takenCars_2 : decode cX9_takenCars 2 = .ok (.iconst 0, 1) := by decide +kernel
theorem dX9_takenCars_3 : decode cX9_takenCars 3 = .ok (.istore_n 2, 1) := by decide +kernel
theorem dX9_takenCars_4 : decode cX9_takenCars 4 = .ok (.iload_n 2, 1) := by decide +kernel
theorem dX9_takenCars_5 : decode cX9_takenCars 5 = .ok (.bipush 8, 2) := by decide +kernel
theorem dX9_takenCars_7 : decode cX9_takenCars 7 = .ok (.if_icmp .ge 28, 3) := by decide +kernel
theorem dX9_takenCars_10 : decode cX9_takenCars 10 = .ok (.aload_n 0, 1) := by decide +kernel
theorem dX9_takenCars_11 : decode cX9_takenCars 11 = .ok (.getfield 18, 3) := by decide +kernel
theorem dX9_takenCars_14 : decode cX9_takenCars 14 = .ok (.iload_n 2, 1) := by decide +kernel
theorem dX9_takenCars_15 : decode cX9_takenCars 15 = .ok (.invokestatic 41, 3) := by decide +kernel
theorem dX9_takenCars_18 : decode cX9_takenCars 18 = .ok (.bipush (-6), 2) := by decide +kernel
theorem dX9_takenCars_20 : decode cX9_takenCars 20 = .ok (.if_icmp .eq 9, 3) := by decide +kernel
theorem dX9_takenCars_23 : decode cX9_takenCars 23 = .ok (.iload_n 1, 1) := by decide +kernel
theorem dX9_takenCars_24 : decode cX9_takenCars 24 = .ok (.iconst 1, 1) := by decide +kernel
theorem dX9_takenCars_25 : decode cX9_takenCars 25 = .ok (.iload_n 2, 1) := by decide +kernel
theorem dX9_takenCars_26 : decode cX9_takenCars 26 = .ok (.ishl, 1) := by decide +kernel
theorem dX9_takenCars_27 : decode cX9_takenCars 27 = .ok (.ior, 1) := by decide +kernel
theorem dX9_takenCars_28 : decode cX9_takenCars 28 = .ok (.istore_n 1, 1) := by decide +kernel
theorem dX9_takenCars_29 : decode cX9_takenCars 29 = .ok (.iinc 2 1, 3) := by decide +kernel
theorem dX9_takenCars_32 : decode cX9_takenCars 32 = .ok (.goto (-28), 3) := by decide +kernel
theorem dX9_takenCars_35 : decode cX9_takenCars 35 = .ok (.iload_n 1, 1) := by decide +kernel
theorem dX9_takenCars_36 : decode cX9_takenCars 36 = .ok (.ireturn, 1) := by decide +kernel
set_option maxRecDepth 20000 in
theorem ggX9_seat_X10_put : GoodIn wsX9_seat wsX10_put := goodIn_r _ [5] (by decide +kernel) (by decide +kernel)
set_option maxRecDepth 20000 in
theorem gX9_seat_X10_put_n45 : GoodIn wsX9_seat (wsX10_put) := ggX9_seat_X10_put
theorem dX9_seat_0 : decode cX9_seat 0 = .ok (.aload_n 0, 1) := by decide +kernel
theorem dX9_seat_1 : decode cX9_seat 1 = .ok (.getfield 18, 3) := by decide +kernel
theorem dX9_seat_4 : decode cX9_seat 4 = .ok (.iload_n 2, 1) := by decide +kernel
theorem dX9_seat_5 : decode cX9_seat 5 = .ok (.iload_n 1, 1) := by decide +kernel
theorem dX9_seat_6 : decode cX9_seat 6 = .ok (.invokestatic 45, 3) := by decide +kernel
theorem dX9_seat_9 : decode cX9_seat 9 = .ok (.aload_n 0, 1) := by decide +kernel
theorem dX9_seat_10 : decode cX9_seat 10 = .ok (.getfield 15, 3) := by decide +kernel
theorem dX9_seat_13 : decode cX9_seat 13 = .ok (.iload_n 1, 1) := by decide +kernel
theorem dX9_seat_14 : decode cX9_seat 14 = .ok (.iload_n 2, 1) := by decide +kernel
theorem dX9_seat_15 : decode cX9_seat 15 = .ok (.invokestatic 45, 3) := by decide +kernel
theorem dX9_seat_18 : decode cX9_seat 18 = .ok (.return_, 1) := by decide +kernel
set_option maxRecDepth 20000 in
theorem ggX9_unseat_X10_at : GoodIn wsX9_unseat wsX10_at := goodIn_r _ [5] (by decide +kernel) (by decide +kernel)
set_option maxRecDepth 20000 in
theorem gX9_unseat_X10_at_n41 : GoodIn wsX9_unseat (wsX10_at) := ggX9_unseat_X10_at
set_option maxRecDepth 20000 in
theorem ggX9_unseat_X10_put : GoodIn wsX9_unseat wsX10_put := goodIn_r _ [7] (by decide +kernel) (by decide +kernel)
set_option maxRecDepth 20000 in
theorem gX9_unseat_X10_put_n45 : GoodIn wsX9_unseat (wsX10_put) := ggX9_unseat_X10_put
theorem dX9_unseat_0 : decode cX9_unseat 0 = .ok (.aload_n 0, 1) := by decide +kernel
theorem dX9_unseat_1 : decode cX9_unseat 1 = .ok (.getfield 15, 3) := by decide +kernel
theorem dX9_unseat_4 : decode cX9_unseat 4 = .ok (.aload_n 0, 1) := by decide +kernel
theorem dX9_unseat_5 : decode cX9_unseat 5 = .ok (.getfield 18, 3) := by decide +kernel
theorem dX9_unseat_8 : decode cX9_unseat 8 = .ok (.iload_n 1, 1) := by decide +kernel
theorem dX9_unseat_9 : decode cX9_unseat 9 = .ok (.invokestatic 41, 3) := by decide +kernel
theorem dX9_unseat_12 : decode cX9_unseat 12 = .ok (.bipush (-6), 2) := by decide +kernel
theorem dX9_unseat_14 : decode cX9_unseat 14 = .ok (.invokestatic 45, 3) := by decide +kernel
theorem dX9_unseat_17 : decode cX9_unseat 17 = .ok (.aload_n 0, 1) := by decide +kernel
theorem dX9_unseat_18 : decode cX9_unseat 18 = .ok (.getfield 18, 3) := by decide +kernel
theorem dX9_unseat_21 : decode cX9_unseat 21 = .ok (.iload_n 1, 1) := by decide +kernel
theorem dX9_unseat_22 : decode cX9_unseat 22 = .ok (.bipush (-6), 2) := by decide +kernel
theorem dX9_unseat_24 : decode cX9_unseat 24 = .ok (.invokestatic 45, 3) := by decide +kernel
theorem dX9_unseat_27 : decode cX9_unseat 27 = .ok (.return_, 1) := by decide +kernel
set_option maxRecDepth 20000 in
theorem ggX9_turn_J9_floorMod_7cf53 : GoodIn wsX9_turn wsJ9_floorMod_7cf53 := goodIn_r _ [5] (by decide +kernel) (by decide +kernel)
set_option maxRecDepth 20000 in
theorem gX9_turn_J9_floorMod_7cf53 : GoodIn wsX9_turn (va_wsS RX9 49 yJ9_floorMod_7cf53 wsJ9_floorMod_7cf53) := goodIn_app (goodIn_of _ (by decide +kernel)) ggX9_turn_J9_floorMod_7cf53
theorem dX9_turn_0 : decode cX9_turn 0 = .ok (.aload_n 0, 1) := by decide +kernel
theorem dX9_turn_1 : decode cX9_turn 1 = .ok (.aload_n 0, 1) := by decide +kernel
theorem dX9_turn_2 : decode cX9_turn 2 = .ok (.getfield 24, 3) := by decide +kernel
theorem dX9_turn_5 : decode cX9_turn 5 = .ok (.iload_n 1, 1) := by decide +kernel
theorem dX9_turn_6 : decode cX9_turn 6 = .ok (.iadd, 1) := by decide +kernel
theorem dX9_turn_7 : decode cX9_turn 7 = .ok (.bipush 8, 2) := by decide +kernel
theorem dX9_turn_9 : decode cX9_turn 9 = .ok (.invokestatic 49, 3) := by decide +kernel
theorem dX9_turn_12 : decode cX9_turn 12 = .ok (.putfield 24, 3) := by decide +kernel
theorem dX9_turn_15 : decode cX9_turn 15 = .ok (.return_, 1) := by decide +kernel
set_option maxRecDepth 20000 in
theorem ggX9_takeBack_J9_floorMod_7cf53 : GoodIn wsX9_takeBack wsJ9_floorMod_7cf53 := goodIn_r _ [5] (by decide +kernel) (by decide +kernel)
set_option maxRecDepth 20000 in
theorem gX9_takeBack_J9_floorMod_7cf53 : GoodIn wsX9_takeBack (va_wsS RX9 49 yJ9_floorMod_7cf53 wsJ9_floorMod_7cf53) := goodIn_app (goodIn_of _ (by decide +kernel)) ggX9_takeBack_J9_floorMod_7cf53
set_option maxRecDepth 20000 in
theorem ggX9_takeBack_X9_unseat : GoodIn wsX9_takeBack wsX9_unseat := goodIn_r _ [10, 11, 12, 13, 14, 15, 16, 17, 22, 23, 24, 25, 26, 27] (by decide +kernel) (by decide +kernel)
set_option maxRecDepth 20000 in
theorem gX9_takeBack_X9_unseat : GoodIn wsX9_takeBack (wsV RX9 55 RX9 yX9_unseat wsX9_unseat) := goodIn_app (goodIn_of _ (by decide +kernel)) ggX9_takeBack_X9_unseat
set_option maxRecDepth 20000 in
theorem ggX9_takeBack_X9_seat : GoodIn wsX9_takeBack wsX9_seat := goodIn_r _ [21, 12, 11, 16, 14, 17, 22, 23, 24, 25, 26, 27] (by decide +kernel) (by decide +kernel)
set_option maxRecDepth 20000 in
theorem gX9_takeBack_X9_seat : GoodIn wsX9_takeBack (wsV RX9 59 RX9 yX9_seat wsX9_seat) := goodIn_app (goodIn_of _ (by decide +kernel)) ggX9_takeBack_X9_seat
theorem dX9_takeBack_0 : decode cX9_takeBack 0 = .ok (.aload_n 0, 1) := by decide +kernel
theorem dX9_takeBack_1 : decode cX9_takeBack 1 = .ok (.iload_n 1, 1) := by decide +kernel
theorem dX9_takeBack_2 : decode cX9_takeBack 2 = .ok (.bipush 8, 2) := by decide +kernel
theorem dX9_takeBack_4 : decode cX9_takeBack 4 = .ok (.invokestatic 49, 3) := by decide +kernel
theorem dX9_takeBack_7 : decode cX9_takeBack 7 = .ok (.putfield 24, 3) := by decide +kernel
theorem dX9_takeBack_10 : decode cX9_takeBack 10 = .ok (.aload_n 0, 1) := by decide +kernel
theorem dX9_takeBack_11 : decode cX9_takeBack 11 = .ok (.iload_n 1, 1) := by decide +kernel
theorem dX9_takeBack_12 : decode cX9_takeBack 12 = .ok (.invokevirtual 55, 3) := by decide +kernel
theorem dX9_takeBack_15 : decode cX9_takeBack 15 = .ok (.iload_n 2, 1) := by decide +kernel
theorem dX9_takeBack_16 : decode cX9_takeBack 16 = .ok (.bipush (-6), 2) := by decide +kernel
theorem dX9_takeBack_18 : decode cX9_takeBack 18 = .ok (.if_icmp .eq 9, 3) := by decide +kernel
theorem dX9_takeBack_21 : decode cX9_takeBack 21 = .ok (.aload_n 0, 1) := by decide +kernel
theorem dX9_takeBack_22 : decode cX9_takeBack 22 = .ok (.iload_n 2, 1) := by decide +kernel
theorem dX9_takeBack_23 : decode cX9_takeBack 23 = .ok (.iload_n 1, 1) := by decide +kernel
theorem dX9_takeBack_24 : decode cX9_takeBack 24 = .ok (.invokevirtual 59, 3) := by decide +kernel
theorem dX9_takeBack_27 : decode cX9_takeBack 27 = .ok (.return_, 1) := by decide +kernel
set_option maxRecDepth 20000 in
theorem ggX9_pullNow_X9_pullAt : GoodIn wsX9_pullNow wsX9_pullAt := goodIn_r _ [6, 7, 8, 9, 10, 11, 12, 13, 14, 15, 16, 17, 18, 19, 20, 21, 22, 23] (by decide +kernel) (by decide +kernel)
set_option maxRecDepth 20000 in
theorem gX9_pullNow_X9_pullAt : GoodIn wsX9_pullNow (wsV RX9 63 RX9 yX9_pullAt wsX9_pullAt) := goodIn_app (goodIn_of _ (by decide +kernel)) ggX9_pullNow_X9_pullAt
theorem dX9_pullNow_0 : decode cX9_pullNow 0 = .ok (.aload_n 0, 1) := by decide +kernel
theorem dX9_pullNow_1 : decode cX9_pullNow 1 = .ok (.aload_n 0, 1) := by decide +kernel
theorem dX9_pullNow_2 : decode cX9_pullNow 2 = .ok (.getfield 24, 3) := by decide +kernel
theorem dX9_pullNow_5 : decode cX9_pullNow 5 = .ok (.invokevirtual 63, 3) := by decide +kernel
theorem dX9_pullNow_8 : decode cX9_pullNow 8 = .ok (.ireturn, 1) := by decide +kernel
set_option maxRecDepth 20000 in
theorem ggX9_pullAt_X10_at : GoodIn wsX9_pullAt wsX10_at := goodIn_r _ [7] (by decide +kernel) (by decide +kernel)
set_option maxRecDepth 20000 in
theorem gX9_pullAt_X10_at_n41 : GoodIn wsX9_pullAt (wsX10_at) := ggX9_pullAt_X10_at
set_option maxRecDepth 20000 in
theorem ggX9_pullAt_J9_floorMod_7cf53 : GoodIn wsX9_pullAt wsJ9_floorMod_7cf53 := goodIn_r _ [11] (by decide +kernel) (by decide +kernel)
set_option maxRecDepth 20000 in
theorem gX9_pullAt_J9_floorMod_7cf53 : GoodIn wsX9_pullAt (va_wsS RX9 49 yJ9_floorMod_7cf53 wsJ9_floorMod_7cf53) := goodIn_app (goodIn_of _ (by decide +kernel)) ggX9_pullAt_J9_floorMod_7cf53
theorem dX9_pullAt_0 : decode cX9_pullAt 0 = .ok (.iconst 0, 1) := by decide +kernel
theorem dX9_pullAt_1 : decode cX9_pullAt 1 = .ok (.istore_n 2, 1) := by decide +kernel
theorem dX9_pullAt_2 : decode cX9_pullAt 2 = .ok (.iconst 0, 1) := by decide +kernel
theorem dX9_pullAt_3 : decode cX9_pullAt 3 = .ok (.istore_n 3, 1) := by decide +kernel
theorem dX9_pullAt_4 : decode cX9_pullAt 4 = .ok (.iload_n 3, 1) := by decide +kernel
theorem dX9_pullAt_5 : decode cX9_pullAt 5 = .ok (.bipush 8, 2) := by decide +kernel
theorem dX9_pullAt_7 : decode cX9_pullAt 7 = .ok (.if_icmp .ge 70, 3) := by decide +kernel
theorem dX9_pullAt_10 : decode cX9_pullAt 10 = .ok (.aload_n 0, 1) := by decide +kernel
theorem dX9_pullAt_11 : decode cX9_pullAt 11 = .ok (.getfield 18, 3) := by decide +kernel
theorem dX9_pullAt_14 : decode cX9_pullAt 14 = .ok (.iload_n 3, 1) := by decide +kernel
theorem dX9_pullAt_15 : decode cX9_pullAt 15 = .ok (.invokestatic 41, 3) := by decide +kernel
theorem dX9_pullAt_18 : decode cX9_pullAt 18 = .ok (.istore 4, 2) := by decide +kernel
theorem dX9_pullAt_20 : decode cX9_pullAt 20 = .ok (.aload_n 0, 1) := by decide +kernel
theorem dX9_pullAt_21 : decode cX9_pullAt 21 = .ok (.getfield 21, 3) := by decide +kernel
theorem dX9_pullAt_24 : decode cX9_pullAt 24 = .ok (.iload_n 3, 1) := by decide +kernel
theorem dX9_pullAt_25 : decode cX9_pullAt 25 = .ok (.invokestatic 41, 3) := by decide +kernel
theorem dX9_pullAt_28 : decode cX9_pullAt 28 = .ok (.iload 4, 2) := by decide +kernel
theorem dX9_pullAt_30 : decode cX9_pullAt 30 = .ok (.bipush (-6), 2) := by decide +kernel
theorem dX9_pullAt_32 : decode cX9_pullAt 32 = .ok (.if_icmp .ne 7, 3) := by decide +kernel
theorem dX9_pullAt_35 : decode cX9_pullAt 35 = .ok (.iconst 0, 1) := by decide +kernel
theorem dX9_pullAt_36 : decode cX9_pullAt 36 = .ok (.goto 12, 3) := by decide +kernel
theorem dX9_pullAt_39 : decode cX9_pullAt 39 = .ok (.aload_n 0, 1) := by decide +kernel
theorem dX9_pullAt_40 : decode cX9_pullAt 40 = .ok (.getfield 9, 3) := by decide +kernel
theorem dX9_pullAt_43 : decode cX9_pullAt 43 = .ok (.iload 4, 2) := by decide +kernel
theorem dX9_pullAt_45 : decode cX9_pullAt 45 = .ok (.invokestatic 41, 3) := by decide +kernel
theorem dX9_pullAt_48 : decode cX9_pullAt 48 = .ok (.iadd, 1) := by decide +kernel
theorem dX9_pullAt_49 : decode cX9_pullAt 49 = .ok (.istore 5, 2) := by decide +kernel
theorem dX9_pullAt_51 : decode cX9_pullAt 51 = .ok (.iload_n 2, 1) := by decide +kernel
theorem dX9_pullAt_52 : decode cX9_pullAt 52 = .ok (.iload 5, 2) := by decide +kernel
theorem dX9_pullAt_54 : decode cX9_pullAt 54 = .ok (.getstatic 67, 3) := by decide +kernel
theorem dX9_pullAt_57 : decode cX9_pullAt 57 = .ok (.iload_n 3, 1) := by decide +kernel
theorem dX9_pullAt_58 : decode cX9_pullAt 58 = .ok (.iload_n 1, 1) := by decide +kernel
theorem dX9_pullAt_59 : decode cX9_pullAt 59 = .ok (.isub, 1) := by decide +kernel
theorem dX9_pullAt_60 : decode cX9_pullAt 60 = .ok (.bipush 8, 2) := by decide +kernel
theorem dX9_pullAt_62 : decode cX9_pullAt 62 = .ok (.invokestatic 49, 3) := by decide +kernel
theorem dX9_pullAt_65 : decode cX9_pullAt 65 = .ok (.invokestatic 41, 3) := by decide +kernel
theorem dX9_pullAt_68 : decode cX9_pullAt 68 = .ok (.imul, 1) := by decide +kernel
theorem dX9_pullAt_69 : decode cX9_pullAt 69 = .ok (.iadd, 1) := by decide +kernel
theorem dX9_pullAt_70 : decode cX9_pullAt 70 = .ok (.istore_n 2, 1) := by decide +kernel
theorem dX9_pullAt_71 : decode cX9_pullAt 71 = .ok (.iinc 3 1, 3) := by decide +kernel
theorem dX9_pullAt_74 : decode cX9_pullAt 74 = .ok (.goto (-70), 3) := by decide +kernel
theorem dX9_pullAt_77 : decode cX9_pullAt 77 = .ok (.iload_n 2, 1) := by decide +kernel
theorem dX9_pullAt_78 : decode cX9_pullAt 78 = .ok (.ireturn, 1) := by decide +kernel
set_option maxRecDepth 20000 in
theorem ggX9_greatestPull_X9_pullAt : GoodIn wsX9_greatestPull wsX9_pullAt := goodIn_r _ [12, 13, 14, 15, 16, 17, 18, 19, 20, 21, 22, 23, 24, 25, 26, 27, 28, 29] (by decide +kernel) (by decide +kernel)
set_option maxRecDepth 20000 in
theorem gX9_greatestPull_X9_pullAt : GoodIn wsX9_greatestPull (wsV RX9 63 RX9 yX9_pullAt wsX9_pullAt) := goodIn_app (goodIn_of _ (by decide +kernel)) ggX9_greatestPull_X9_pullAt
theorem dX9_greatestPull_0 : decode cX9_greatestPull 0 = .ok (.iconst 0, 1) := by decide +kernel
theorem dX9_greatestPull_1 : decode cX9_greatestPull 1 = .ok (.istore_n 1, 1) := by decide +kernel
theorem dX9_greatestPull_2 : decode cX9_greatestPull 2 = .ok (.iconst 0, 1) := by decide +kernel
theorem dX9_greatestPull_3 : decode cX9_greatestPull 3 = .ok (.istore_n 2, 1) := by decide +kernel
theorem dX9_greatestPull_4 : decode cX9_greatestPull 4 = .ok (.iload_n 2, 1) := by decide +kernel
theorem dX9_greatestPull_5 : decode cX9_greatestPull 5 = .ok (.bipush 8, 2) := by decide +kernel
theorem dX9_greatestPull_7 : decode cX9_greatestPull 7 = .ok (.if_icmp .ge 22, 3) := by decide +kernel
theorem dX9_greatestPull_10 : decode cX9_greatestPull 10 = .ok (.iload_n 1, 1) := by decide +kernel
theorem dX9_greatestPull_11 : decode cX9_greatestPull 11 = .ok (.aload_n 0, 1) := by decide +kernel
theorem dX9_greatestPull_12 : decode cX9_greatestPull 12 = .ok (.iload_n 2, 1) := by decide +kernel
theorem dX9_greatestPull_13 : decode cX9_greatestPull 13 = .ok (.invokevirtual 63, 3) := by decide +kernel
theorem dX9_greatestPull_16 : decode cX9_greatestPull 16 = .ok (.invokestatic 70, 3) := by decide +kernel
theorem dX9_greatestPull_19 : decode cX9_greatestPull 19 = .ok (.invokestatic 73, 3) := by decide +kernel
theorem dX9_greatestPull_22 : decode cX9_greatestPull 22 = .ok (.istore_n 1, 1) := by decide +kernel
theorem dX9_greatestPull_23 : decode cX9_greatestPull 23 = .ok (.iinc 2 1, 3) := by decide +kernel
theorem dX9_greatestPull_26 : decode cX9_greatestPull 26 = .ok (.goto (-22), 3) := by decide +kernel
theorem dX9_greatestPull_29 : decode cX9_greatestPull 29 = .ok (.iload_n 1, 1) := by decide +kernel
theorem dX9_greatestPull_30 : decode cX9_greatestPull 30 = .ok (.ireturn, 1) := by decide +kernel
set_option maxRecDepth 20000 in
theorem ggX9_letGo_X9_pullAt : GoodIn wsX9_letGo wsX9_pullAt := goodIn_r _ [6, 7, 8, 9, 10, 11, 12, 13, 14, 15, 16, 17, 27, 28, 29, 30, 31, 32] (by decide +kernel) (by decide +kernel)
set_option maxRecDepth 20000 in
theorem gX9_letGo_X9_pullAt : GoodIn wsX9_letGo (wsV RX9 63 RX9 yX9_pullAt wsX9_pullAt) := goodIn_app (goodIn_of _ (by decide +kernel)) ggX9_letGo_X9_pullAt
set_option maxRecDepth 20000 in
theorem ggX9_letGo_X9_wayOf : GoodIn wsX9_letGo wsX9_wayOf := goodIn_r _ [21, 22, 27, 28, 29, 30, 31, 32] (by decide +kernel) (by decide +kernel)
set_option maxRecDepth 20000 in
theorem gX9_letGo_X9_wayOf : GoodIn wsX9_letGo (wsV RX9 76 RX9 yX9_wayOf wsX9_wayOf) := goodIn_app (goodIn_of _ (by decide +kernel)) ggX9_letGo_X9_wayOf
set_option maxRecDepth 20000 in
theorem ggX9_letGo_X9_turn : GoodIn wsX9_letGo wsX9_turn := goodIn_r _ [26, 1, 14, 15, 16, 17, 27, 28, 29, 30, 31, 32] (by decide +kernel) (by decide +kernel)
set_option maxRecDepth 20000 in
theorem gX9_letGo_X9_turn : GoodIn wsX9_letGo (wsV RX9 79 RX9 yX9_turn wsX9_turn) := goodIn_app (goodIn_of _ (by decide +kernel)) ggX9_letGo_X9_turn
theorem dX9_letGo_0 : decode cX9_letGo 0 = .ok (.aload_n 0, 1) := by decide +kernel
theorem dX9_letGo_1 : decode cX9_letGo 1 = .ok (.aload_n 0, 1) := by decide +kernel
theorem dX9_letGo_2 : decode cX9_letGo 2 = .ok (.aload_n 0, 1) := by decide +kernel
theorem dX9_letGo_3 : decode cX9_letGo 3 = .ok (.getfield 24, 3) := by decide +kernel
theorem dX9_letGo_6 : decode cX9_letGo 6 = .ok (.invokevirtual 63, 3) := by decide +kernel
theorem dX9_letGo_9 : decode cX9_letGo 9 = .ok (.invokevirtual 76, 3) := by decide +kernel
theorem dX9_letGo_12 : decode cX9_letGo 12 = .ok (.istore_n 1, 1) := by decide +kernel
theorem dX9_letGo_13 : decode cX9_letGo 13 = .ok (.iload_n 1, 1) := by decide +kernel
theorem dX9_letGo_14 : decode cX9_letGo 14 = .ok (.istore_n 2, 1) := by decide +kernel
theorem dX9_letGo_15 : decode cX9_letGo 15 = .ok (.iconst 0, 1) := by decide +kernel
theorem dX9_letGo_16 : decode cX9_letGo 16 = .ok (.istore_n 3, 1) := by decide +kernel
theorem dX9_letGo_17 : decode cX9_letGo 17 = .ok (.iconst 0, 1) := by decide +kernel
theorem dX9_letGo_18 : decode cX9_letGo 18 = .ok (.istore 4, 2) := by decide +kernel
theorem dX9_letGo_20 : decode cX9_letGo 20 = .ok (.iload 4, 2) := by decide +kernel
theorem dX9_letGo_22 : decode cX9_letGo 22 = .ok (.bipush 8, 2) := by decide +kernel
theorem dX9_letGo_24 : decode cX9_letGo 24 = .ok (.if_icmp .ge 40, 3) := by decide +kernel
theorem dX9_letGo_27 : decode cX9_letGo 27 = .ok (.iload_n 2, 1) := by decide +kernel
theorem dX9_letGo_28 : decode cX9_letGo 28 = .ok (.ifCond .eq 36, 3) := by decide +kernel
theorem dX9_letGo_31 : decode cX9_letGo 31 = .ok (.iload_n 2, 1) := by decide +kernel
theorem dX9_letGo_32 : decode cX9_letGo 32 = .ok (.iload_n 1, 1) := by decide +kernel
theorem dX9_letGo_33 : decode cX9_letGo 33 = .ok (.if_icmp .ne 31, 3) := by decide +kernel
theorem dX9_letGo_36 : decode cX9_letGo 36 = .ok (.aload_n 0, 1) := by decide +kernel
theorem dX9_letGo_37 : decode cX9_letGo 37 = .ok (.iload_n 1, 1) := by decide +kernel
theorem dX9_letGo_38 : decode cX9_letGo 38 = .ok (.invokevirtual 79, 3) := by decide +kernel
theorem dX9_letGo_41 : decode cX9_letGo 41 = .ok (.iload_n 3, 1) := by decide +kernel
theorem dX9_letGo_42 : decode cX9_letGo 42 = .ok (.iload_n 1, 1) := by decide +kernel
theorem dX9_letGo_43 : decode cX9_letGo 43 = .ok (.iadd, 1) := by decide +kernel
theorem dX9_letGo_44 : decode cX9_letGo 44 = .ok (.istore_n 3, 1) := by decide +kernel
theorem dX9_letGo_45 : decode cX9_letGo 45 = .ok (.aload_n 0, 1) := by decide +kernel
theorem dX9_letGo_46 : decode cX9_letGo 46 = .ok (.aload_n 0, 1) := by decide +kernel
theorem dX9_letGo_47 : decode cX9_letGo 47 = .ok (.aload_n 0, 1) := by decide +kernel
theorem dX9_letGo_48 : decode cX9_letGo 48 = .ok (.getfield 24, 3) := by decide +kernel
theorem dX9_letGo_51 : decode cX9_letGo 51 = .ok (.invokevirtual 63, 3) := by decide +kernel
theorem dX9_letGo_54 : decode cX9_letGo 54 = .ok (.invokevirtual 76, 3) := by decide +kernel
theorem dX9_letGo_57 : decode cX9_letGo 57 = .ok (.istore_n 2, 1) := by decide +kernel
theorem dX9_letGo_58 : decode cX9_letGo 58 = .ok (.iinc 4 1, 3) := by decide +kernel
theorem dX9_letGo_61 : decode cX9_letGo 61 = .ok (.goto (-41), 3) := by decide +kernel
theorem dX9_letGo_64 : decode cX9_letGo 64 = .ok (.iload_n 3, 1) := by decide +kernel
theorem dX9_letGo_65 : decode cX9_letGo 65 = .ok (.ireturn, 1) := by decide +kernel
theorem dX9_wayOf_0 : decode cX9_wayOf 0 = .ok (.iload_n 1, 1) := by decide +kernel
theorem dX9_wayOf_1 : decode cX9_wayOf 1 = .ok (.aload_n 0, 1) := by decide +kernel
theorem dX9_wayOf_2 : decode cX9_wayOf 2 = .ok (.getfield 28, 3) := by decide +kernel
theorem dX9_wayOf_5 : decode cX9_wayOf 5 = .ok (.if_icmp .le 5, 3) := by decide +kernel
theorem dX9_wayOf_8 : decode cX9_wayOf 8 = .ok (.iconst 1, 1) := by decide +kernel
theorem dX9_wayOf_9 : decode cX9_wayOf 9 = .ok (.ireturn, 1) := by decide +kernel
theorem dX9_wayOf_10 : decode cX9_wayOf 10 = .ok (.iload_n 1, 1) := by decide +kernel
theorem dX9_wayOf_11 : decode cX9_wayOf 11 = .ok (.aload_n 0, 1) := by decide +kernel
theorem dX9_wayOf_12 : decode cX9_wayOf 12 = .ok (.getfield 28, 3) := by decide +kernel
theorem dX9_wayOf_15 : decode cX9_wayOf 15 = .ok (.ineg, 1) := by decide +kernel
theorem dX9_wayOf_16 : decode cX9_wayOf 16 = .ok (.if_icmp .ge 7, 3) := by decide +kernel
theorem dX9_wayOf_19 : decode cX9_wayOf 19 = .ok (.iconst (-1), 1) := by decide +kernel
theorem dX9_wayOf_20 : decode cX9_wayOf 20 = .ok (.goto 4, 3) := by decide +kernel
theorem dX9_wayOf_23 : decode cX9_wayOf 23 = .ok (.iconst 0, 1) := by decide +kernel
theorem dX9_wayOf_24 : decode cX9_wayOf 24 = .ok (.ireturn, 1) := by decide +kernel
set_option maxRecDepth 20000 in
theorem ggX10_init_X9_init : GoodIn wsX10_init wsX9_init := goodIn_r _ [36, 37, 2, 3, 38, 39, 40, 41, 42, 43, 44, 45, 46, 47, 48, 105, 106, 107, 108, 109, 110] (by decide +kernel) (by decide +kernel)
set_option maxRecDepth 20000 in
theorem gX10_init_X9_init : GoodIn wsX10_init (wsX9_init) := ggX10_init_X9_init
set_option maxRecDepth 20000 in
theorem ggX10_init_X4_init : GoodIn wsX10_init wsX4_init := goodIn_r _ [51, 52, 2, 3, 38, 53, 54, 55, 120, 121, 122] (by decide +kernel) (by decide +kernel)
set_option maxRecDepth 20000 in
theorem gX10_init_X4_init : GoodIn wsX10_init (wsX4_init) := ggX10_init_X4_init
set_option maxRecDepth 20000 in
theorem ggX10_init_X6_init : GoodIn wsX10_init wsX6_init := goodIn_r _ [58, 59, 2, 3, 38, 60, 61, 62, 123, 124, 125] (by decide +kernel) (by decide +kernel)
set_option maxRecDepth 20000 in
theorem gX10_init_X6_init : GoodIn wsX10_init (wsX6_init) := ggX10_init_X6_init
set_option maxRecDepth 20000 in
theorem ggX10_init_X7_init : GoodIn wsX10_init wsX7_init := goodIn_r _ [65, 66, 2, 3, 67, 5, 6, 68, 69, 70, 71, 72, 73, 74, 75, 35, 36, 37, 38, 39, 40, 41, 42, 43, 44, 45, 46, 47, 48, 105, 106, 107, 108, 109, 110, 126, 127, 128, 129, 130, 131, 132] (by decide +kernel) (by decide +kernel)
set_option maxRecDepth 20000 in
theorem gX10_init_X7_init : GoodIn wsX10_init (wsX7_init) := ggX10_init_X7_init
set_option maxRecDepth 20000 in
theorem ggX10_init_X5_init : GoodIn wsX10_init wsX5_init := goodIn_r _ [78, 79, 2, 3, 80, 5, 6, 81, 38, 82, 83, 84, 35, 36, 37, 39, 40, 41, 42, 43, 44, 45, 46, 47, 48, 105, 106, 107, 108, 109, 110, 133, 134, 135] (by decide +kernel) (by decide +kernel)
set_option maxRecDepth 20000 in
theorem gX10_init_X5_init : GoodIn wsX10_init (wsX5_init) := ggX10_init_X5_init
set_option maxRecDepth 20000 in
theorem ggX10_init_X8_init : GoodIn wsX10_init wsX8_init := goodIn_r _ [87, 88, 2, 3, 89, 5, 6, 90, 38, 91, 92, 93, 35, 36, 37, 39, 40, 41, 42, 43, 44, 45, 46, 47, 48, 105, 106, 107, 108, 109, 110, 136, 137, 138] (by decide +kernel) (by decide +kernel)
set_option maxRecDepth 20000 in
theorem gX10_init_X8_init : GoodIn wsX10_init (wsX8_init) := ggX10_init_X8_init
set_option maxRecDepth 20000 in
theorem ggX10_init_X2_init : GoodIn wsX10_init wsX2_init := goodIn_r _ [96, 97, 2, 3, 98, 5, 6, 99, 100, 14, 15, 101, 102, 103, 35, 36, 37, 38, 39, 40, 41, 42, 43, 44, 45, 46, 47, 48, 104, 57, 58, 59, 60, 61, 62, 105, 106, 107, 108, 109, 110, 139, 140, 141, 123, 124, 125] (by decide +kernel) (by decide +kernel)
set_option maxRecDepth 20000 in
theorem gX10_init_X2_init : GoodIn wsX10_init (wsX2_init) := ggX10_init_X2_init
theorem dX10_init_0 : decode cX10_init 0 = .ok (.aload_n 0, 1) := by decide +kernel
theorem dX10_init_1 : decode cX10_init 1 = .ok (.invokespecial 1, 3) := by decide +kernel
theorem dX10_init_4 : decode cX10_init 4 = .ok (.aload_n 0, 1) := by decide +kernel
theorem dX10_init_5 : decode cX10_init 5 = .ok (.new 7, 3) := by decide +kernel
theorem dX10_init_8 : decode cX10_init 8 = .ok (.dup, 1) := by decide +kernel
theorem dX10_init_9 : decode cX10_init 9 = .ok (.invokespecial 9, 3) := by decide +kernel
theorem dX10_init_12 : decode cX10_init 12 = .ok (.putfield 10, 3) := by decide +kernel
theorem dX10_init_15 : decode cX10_init 15 = .ok (.aload_n 0, 1) := by decide +kernel
theorem dX10_init_16 : decode cX10_init 16 = .ok (.new 7, 3) := by decide +kernel
theorem dX10_init_19 : decode cX10_init 19 = .ok (.dup, 1) := by decide +kernel
theorem dX10_init_20 : decode cX10_init 20 = .ok (.invokespecial 9, 3) := by decide +kernel
theorem dX10_init_23 : decode cX10_init 23 = .ok (.putfield 16, 3) := by decide +kernel
theorem dX10_init_26 : decode cX10_init 26 = .ok (.aload_n 0, 1) := by decide +kernel
theorem dX10_init_27 : decode cX10_init 27 = .ok (.new 19, 3) := by decide +kernel
theorem dX10_init_30 : decode cX10_init 30 = .ok (.dup, 1) := by decide +kernel
theorem dX10_init_31 : decode cX10_init 31 = .ok (.invokespecial 21, 3) := by decide +kernel
theorem dX10_init_34 : decode cX10_init 34 = .ok (.putfield 22, 3) := by decide +kernel
theorem dX10_init_37 : decode cX10_init 37 = .ok (.aload_n 0, 1) := by decide +kernel
theorem dX10_init_38 : decode cX10_init 38 = .ok (.new 26, 3) := by decide +kernel
theorem dX10_init_41 : decode cX10_init 41 = .ok (.dup, 1) := by decide +kernel
theorem dX10_init_42 : decode cX10_init 42 = .ok (.invokespecial 28, 3) := by decide +kernel
theorem dX10_init_45 : decode cX10_init 45 = .ok (.putfield 29, 3) := by decide +kernel
theorem dX10_init_48 : decode cX10_init 48 = .ok (.aload_n 0, 1) := by decide +kernel
theorem dX10_init_49 : decode cX10_init 49 = .ok (.new 33, 3) := by decide +kernel
theorem dX10_init_52 : decode cX10_init 52 = .ok (.dup, 1) := by decide +kernel
theorem dX10_init_53 : decode cX10_init 53 = .ok (.invokespecial 35, 3) := by decide +kernel
theorem dX10_init_56 : decode cX10_init 56 = .ok (.putfield 36, 3) := by decide +kernel
theorem dX10_init_59 : decode cX10_init 59 = .ok (.aload_n 0, 1) := by decide +kernel
theorem dX10_init_60 : decode cX10_init 60 = .ok (.new 40, 3) := by decide +kernel
theorem dX10_init_63 : decode cX10_init 63 = .ok (.dup, 1) := by decide +kernel
theorem dX10_init_64 : decode cX10_init 64 = .ok (.invokespecial 42, 3) := by decide +kernel
theorem dX10_init_67 : decode cX10_init 67 = .ok (.putfield 43, 3) := by decide +kernel
theorem dX10_init_70 : decode cX10_init 70 = .ok (.aload_n 0, 1) := by decide +kernel
theorem dX10_init_71 : decode cX10_init 71 = .ok (.new 47, 3) := by decide +kernel
theorem dX10_init_74 : decode cX10_init 74 = .ok (.dup, 1) := by decide +kernel
theorem dX10_init_75 : decode cX10_init 75 = .ok (.invokespecial 49, 3) := by decide +kernel
theorem dX10_init_78 : decode cX10_init 78 = .ok (.putfield 50, 3) := by decide +kernel
theorem dX10_init_81 : decode cX10_init 81 = .ok (.aload_n 0, 1) := by decide +kernel
theorem dX10_init_82 : decode cX10_init 82 = .ok (.new 54, 3) := by decide +kernel
theorem dX10_init_85 : decode cX10_init 85 = .ok (.dup, 1) := by decide +kernel
theorem dX10_init_86 : decode cX10_init 86 = .ok (.invokespecial 56, 3) := by decide +kernel
theorem dX10_init_89 : decode cX10_init 89 = .ok (.putfield 57, 3) := by decide +kernel
theorem dX10_init_92 : decode cX10_init 92 = .ok (.aload_n 0, 1) := by decide +kernel
theorem dX10_init_93 : decode cX10_init 93 = .ok (.new 54, 3) := by decide +kernel
theorem dX10_init_96 : decode cX10_init 96 = .ok (.dup, 1) := by decide +kernel
theorem dX10_init_97 : decode cX10_init 97 = .ok (.invokespecial 56, 3) := by decide +kernel
theorem dX10_init_100 : decode cX10_init 100 = .ok (.putfield 61, 3) := by decide +kernel
theorem dX10_init_103 : decode cX10_init 103 = .ok (.return_, 1) := by decide +kernel
set_option maxRecDepth 20000 in
theorem ggX10_weigh_X10_isPerson : GoodIn wsX10_weigh wsX10_isPerson := goodIn_r _ [5] (by decide +kernel) (by decide +kernel)
set_option maxRecDepth 20000 in
theorem gX10_weigh_X10_isPerson : GoodIn wsX10_weigh (va_wsS RX10 64 yX10_isPerson wsX10_isPerson) := goodIn_app (goodIn_of _ (by decide +kernel)) ggX10_weigh_X10_isPerson
set_option maxRecDepth 20000 in
theorem ggX10_weigh_X9_weightOf : GoodIn wsX10_weigh wsX9_weightOf := goodIn_r _ [10, 11, 12, 4, 13, 29, 30, 31, 32, 33, 34] (by decide +kernel) (by decide +kernel)
set_option maxRecDepth 20000 in
theorem gX10_weigh_X9_weightOf : GoodIn wsX10_weigh (wsV RX10 68 RX9 yX9_weightOf wsX9_weightOf) := goodIn_app (goodIn_of _ (by decide +kernel)) ggX10_weigh_X9_weightOf
set_option maxRecDepth 20000 in
theorem ggX10_weigh_X9_setWeight : GoodIn wsX10_weigh wsX9_setWeight := goodIn_r _ [17, 11, 18, 4, 19, 29, 30, 31, 32, 33, 34] (by decide +kernel) (by decide +kernel)
set_option maxRecDepth 20000 in
theorem gX10_weigh_X9_setWeight : GoodIn wsX10_weigh (wsV RX10 72 RX9 yX9_setWeight wsX9_setWeight) := goodIn_app (goodIn_of _ (by decide +kernel)) ggX10_weigh_X9_setWeight
theorem dX10_weigh_0 : decode cX10_weigh 0 = .ok (.iload_n 1, 1) := by decide +kernel
theorem dX10_weigh_1 : decode cX10_weigh 1 = .ok (.invokestatic 64, 3) := by decide +kernel
theorem dX10_weigh_4 : decode cX10_weigh 4 = .ok (.ifCond .ne 5, 3) := by decide +kernel
theorem dX10_weigh_7 : decode cX10_weigh 7 = .ok (.iconst (-1), 1) := by decide +kernel
theorem dX10_weigh_8 : decode cX10_weigh 8 = .ok (.ireturn, 1) := by decide +kernel
theorem dX10_weigh_9 : decode cX10_weigh 9 = .ok (.iload_n 2, 1) := by decide +kernel
theorem dX10_weigh_10 : decode cX10_weigh 10 = .ok (.iconst 1, 1) := by decide +kernel
theorem dX10_weigh_11 : decode cX10_weigh 11 = .ok (.if_icmp .lt 9, 3) := by decide +kernel
theorem dX10_weigh_14 : decode cX10_weigh 14 = .ok (.iload_n 2, 1) := by decide +kernel
theorem dX10_weigh_15 : decode cX10_weigh 15 = .ok (.bipush 99, 2) := by decide +kernel
theorem dX10_weigh_17 : decode cX10_weigh 17 = .ok (.if_icmp .le 6, 3) := by decide +kernel
theorem dX10_weigh_20 : decode cX10_weigh 20 = .ok (.bipush (-2), 2) := by decide +kernel
theorem dX10_weigh_22 : decode cX10_weigh 22 = .ok (.ireturn, 1) := by decide +kernel
theorem dX10_weigh_23 : decode cX10_weigh 23 = .ok (.aload_n 0, 1) := by decide +kernel
theorem dX10_weigh_24 : decode cX10_weigh 24 = .ok (.getfield 10, 3) := by decide +kernel
theorem dX10_weigh_27 : decode cX10_weigh 27 = .ok (.iload_n 1, 1) := by decide +kernel
theorem dX10_weigh_28 : decode cX10_weigh 28 = .ok (.invokevirtual 68, 3) := by decide +kernel
theorem dX10_weigh_31 : decode cX10_weigh 31 = .ok (.istore_n 3, 1) := by decide +kernel
theorem dX10_weigh_32 : decode cX10_weigh 32 = .ok (.aload_n 0, 1) := by decide +kernel
theorem dX10_weigh_33 : decode cX10_weigh 33 = .ok (.getfield 10, 3) := by decide +kernel
theorem dX10_weigh_36 : decode cX10_weigh 36 = .ok (.iload_n 1, 1) := by decide +kernel
theorem dX10_weigh_37 : decode cX10_weigh 37 = .ok (.iload_n 2, 1) := by decide +kernel
theorem dX10_weigh_38 : decode cX10_weigh 38 = .ok (.invokevirtual 72, 3) := by decide +kernel
theorem dX10_weigh_41 : decode cX10_weigh 41 = .ok (.iload_n 3, 1) := by decide +kernel
theorem dX10_weigh_42 : decode cX10_weigh 42 = .ok (.ireturn, 1) := by decide +kernel
set_option maxRecDepth 20000 in
theorem ggX10_drag_X9_friction : GoodIn wsX10_drag wsX9_friction := goodIn_r _ [6, 7, 21, 22, 23, 24, 25, 26] (by decide +kernel) (by decide +kernel)
set_option maxRecDepth 20000 in
theorem gX10_drag_X9_friction : GoodIn wsX10_drag (wsV RX10 76 RX9 yX9_friction wsX9_friction) := goodIn_app (goodIn_of _ (by decide +kernel)) ggX10_drag_X9_friction
set_option maxRecDepth 20000 in
theorem ggX10_drag_X9_setFriction : GoodIn wsX10_drag wsX9_setFriction := goodIn_r _ [11, 7, 21, 22, 23, 24, 25, 26] (by decide +kernel) (by decide +kernel)
set_option maxRecDepth 20000 in
theorem gX10_drag_X9_setFriction : GoodIn wsX10_drag (wsV RX10 80 RX9 yX9_setFriction wsX9_setFriction) := goodIn_app (goodIn_of _ (by decide +kernel)) ggX10_drag_X9_setFriction
theorem dX10_drag_0 : decode cX10_drag 0 = .ok (.iload_n 1, 1) := by decide +kernel
theorem dX10_drag_1 : decode cX10_drag 1 = .ok (.ifCond .lt 10, 3) := by decide +kernel
theorem dX10_drag_4 : decode cX10_drag 4 = .ok (.iload_n 1, 1) := by decide +kernel
theorem dX10_drag_5 : decode cX10_drag 5 = .ok (.sipush 9999, 3) := by decide +kernel
theorem dX10_drag_8 : decode cX10_drag 8 = .ok (.if_icmp .le 6, 3) := by decide +kernel
theorem dX10_drag_11 : decode cX10_drag 11 = .ok (.bipush (-2), 2) := by decide +kernel
theorem dX10_drag_13 : decode cX10_drag 13 = .ok (.ireturn, 1) := by decide +kernel
theorem dX10_drag_14 : decode cX10_drag 14 = .ok (.aload_n 0, 1) := by decide +kernel
theorem dX10_drag_15 : decode cX10_drag 15 = .ok (.getfield 10, 3) := by decide +kernel
theorem dX10_drag_18 : decode cX10_drag 18 = .ok (.invokevirtual 76, 3) := by decide +kernel
theorem dX10_drag_21 : decode cX10_drag 21 = .ok (.istore_n 2, 1) := by decide +kernel
theorem dX10_drag_22 : decode cX10_drag 22 = .ok (.aload_n 0, 1) := by decide +kernel
theorem dX10_drag_23 : decode cX10_drag 23 = .ok (.getfield 10, 3) := by decide +kernel
theorem dX10_drag_26 : decode cX10_drag 26 = .ok (.iload_n 1, 1) := by decide +kernel
theorem dX10_drag_27 : decode cX10_drag 27 = .ok (.invokevirtual 80, 3) := by decide +kernel
theorem dX10_drag_30 : decode cX10_drag 30 = .ok (.iload_n 2, 1) := by decide +kernel
theorem dX10_drag_31 : decode cX10_drag 31 = .ok (.ireturn, 1) := by decide +kernel
set_option maxRecDepth 20000 in
theorem ggX10_say_X4_length : GoodIn wsX10_say wsX4_length := goodIn_r _ [6, 7, 26, 27, 28] (by decide +kernel) (by decide +kernel)
set_option maxRecDepth 20000 in
theorem gX10_say_X4_length : GoodIn wsX10_say (wsV RX10 84 RX4 yX4_length wsX4_length) := goodIn_app (goodIn_of _ (by decide +kernel)) ggX10_say_X4_length
set_option maxRecDepth 20000 in
theorem ggX10_say_X4_write : GoodIn wsX10_say wsX4_write := goodIn_r _ [11, 7, 12, 13, 14, 15, 16, 26, 27, 28] (by decide +kernel) (by decide +kernel)
set_option maxRecDepth 20000 in
theorem gX10_say_X4_write : GoodIn wsX10_say (wsV RX10 87 RX4 yX4_write wsX4_write) := goodIn_app (goodIn_of _ (by decide +kernel)) ggX10_say_X4_write
theorem dX10_say_0 : decode cX10_say 0 = .ok (.iload_n 1, 1) := by decide +kernel
theorem dX10_say_1 : decode cX10_say 1 = .ok (.bipush 33, 2) := by decide +kernel
theorem dX10_say_3 : decode cX10_say 3 = .ok (.if_icmp .lt 9, 3) := by decide +kernel
theorem dX10_say_6 : decode cX10_say 6 = .ok (.iload_n 1, 1) := by decide +kernel
theorem dX10_say_7 : decode cX10_say 7 = .ok (.bipush 126, 2) := by decide +kernel
theorem dX10_say_9 : decode cX10_say 9 = .ok (.if_icmp .le 6, 3) := by decide +kernel
theorem dX10_say_12 : decode cX10_say 12 = .ok (.bipush (-2), 2) := by decide +kernel
theorem dX10_say_14 : decode cX10_say 14 = .ok (.ireturn, 1) := by decide +kernel
theorem dX10_say_15 : decode cX10_say 15 = .ok (.aload_n 0, 1) := by decide +kernel
theorem dX10_say_16 : decode cX10_say 16 = .ok (.getfield 22, 3) := by decide +kernel
theorem dX10_say_19 : decode cX10_say 19 = .ok (.invokevirtual 84, 3) := by decide +kernel
theorem dX10_say_22 : decode cX10_say 22 = .ok (.bipush 60, 2) := by decide +kernel
theorem dX10_say_24 : decode cX10_say 24 = .ok (.if_icmp .lt 6, 3) := by decide +kernel
theorem dX10_say_27 : decode cX10_say 27 = .ok (.bipush (-4), 2) := by decide +kernel
theorem dX10_say_29 : decode cX10_say 29 = .ok (.ireturn, 1) := by decide +kernel
theorem dX10_say_30 : decode cX10_say 30 = .ok (.aload_n 0, 1) := by decide +kernel
theorem dX10_say_31 : decode cX10_say 31 = .ok (.getfield 22, 3) := by decide +kernel
theorem dX10_say_34 : decode cX10_say 34 = .ok (.iload_n 1, 1) := by decide +kernel
theorem dX10_say_35 : decode cX10_say 35 = .ok (.invokevirtual 87, 3) := by decide +kernel
theorem dX10_say_38 : decode cX10_say 38 = .ok (.aload_n 0, 1) := by decide +kernel
theorem dX10_say_39 : decode cX10_say 39 = .ok (.getfield 22, 3) := by decide +kernel
theorem dX10_say_42 : decode cX10_say 42 = .ok (.invokevirtual 84, 3) := by decide +kernel
theorem dX10_say_45 : decode cX10_say 45 = .ok (.ireturn, 1) := by decide +kernel
set_option maxRecDepth 20000 in
theorem ggX10_wipe_X4_length : GoodIn wsX10_wipe wsX4_length := goodIn_r _ [6, 7, 22, 23, 24] (by decide +kernel) (by decide +kernel)
set_option maxRecDepth 20000 in
theorem gX10_wipe_X4_length : GoodIn wsX10_wipe (wsV RX10 84 RX4 yX4_length wsX4_length) := goodIn_app (goodIn_of _ (by decide +kernel)) ggX10_wipe_X4_length
set_option maxRecDepth 20000 in
theorem ggX10_wipe_X4_clear : GoodIn wsX10_wipe wsX4_clear := goodIn_r _ [11, 7, 12, 22, 23, 24] (by decide +kernel) (by decide +kernel)
set_option maxRecDepth 20000 in
theorem gX10_wipe_X4_clear : GoodIn wsX10_wipe (wsV RX10 90 RX4 yX4_clear wsX4_clear) := goodIn_app (goodIn_of _ (by decide +kernel)) ggX10_wipe_X4_clear
theorem dX10_wipe_0 : decode cX10_wipe 0 = .ok (.aload_n 0, 1) := by decide +kernel
theorem dX10_wipe_1 : decode cX10_wipe 1 = .ok (.getfield 22, 3) := by decide +kernel
theorem dX10_wipe_4 : decode cX10_wipe 4 = .ok (.invokevirtual 84, 3) := by decide +kernel
theorem dX10_wipe_7 : decode cX10_wipe 7 = .ok (.istore_n 1, 1) := by decide +kernel
theorem dX10_wipe_8 : decode cX10_wipe 8 = .ok (.aload_n 0, 1) := by decide +kernel
theorem dX10_wipe_9 : decode cX10_wipe 9 = .ok (.getfield 22, 3) := by decide +kernel
theorem dX10_wipe_12 : decode cX10_wipe 12 = .ok (.invokevirtual 90, 3) := by decide +kernel
theorem dX10_wipe_15 : decode cX10_wipe 15 = .ok (.iload_n 1, 1) := by decide +kernel
theorem dX10_wipe_16 : decode cX10_wipe 16 = .ok (.ireturn, 1) := by decide +kernel
set_option maxRecDepth 20000 in
theorem ggX10_fault_X4_firstFault : GoodIn wsX10_fault wsX4_firstFault := goodIn_r _ [6, 7, 8, 9, 10, 5, 11, 12, 13, 14, 15, 16, 17, 18, 19, 20, 21, 22, 23, 24, 25, 26, 27, 37, 38, 39] (by decide +kernel) (by decide +kernel)
set_option maxRecDepth 20000 in
theorem gX10_fault_X4_firstFault : GoodIn wsX10_fault (wsV RX10 93 RX4 yX4_firstFault wsX4_firstFault) := goodIn_app (goodIn_of _ (by decide +kernel)) ggX10_fault_X4_firstFault
theorem dX10_fault_0 : decode cX10_fault 0 = .ok (.aload_n 0, 1) := by decide +kernel
theorem dX10_fault_1 : decode cX10_fault 1 = .ok (.getfield 22, 3) := by decide +kernel
theorem dX10_fault_4 : decode cX10_fault 4 = .ok (.invokevirtual 93, 3) := by decide +kernel
theorem dX10_fault_7 : decode cX10_fault 7 = .ok (.ireturn, 1) := by decide +kernel
set_option maxRecDepth 20000 in
theorem ggX10_judge_X10_refuseText : GoodIn wsX10_judge wsX10_refuseText := goodIn_r _ [8, 3, 9, 10, 11, 12, 13, 14, 15, 16, 17, 18, 19, 20, 7, 21, 22, 23, 24, 25, 26, 27, 28, 29, 30, 31, 32, 33, 34, 35, 36, 37, 38, 165, 166, 167, 168, 169, 170, 171, 172, 173, 174, 175, 176] (by decide +kernel) (by decide +kernel)
set_option maxRecDepth 20000 in
theorem gX10_judge_X10_refuseText : GoodIn wsX10_judge (wsV RX10 96 RX10 yX10_refuseText wsX10_refuseText) := goodIn_app (goodIn_of _ (by decide +kernel)) ggX10_judge_X10_refuseText
set_option maxRecDepth 20000 in
theorem ggX10_judge_X7_tell : GoodIn wsX10_judge wsX7_tell := goodIn_r _ [43, 44, 45, 46, 47, 48, 49, 50, 51, 52, 53, 54, 55, 56, 57, 58, 59, 60, 61, 62, 7, 63, 64, 65, 66, 67, 68, 69, 70, 71, 72, 35, 36, 12, 37, 38, 73, 74, 75, 76, 14, 77, 16, 17, 18, 19, 20, 21, 78, 79, 80, 42, 81, 82, 83, 84, 85, 86, 87, 88, 89, 90, 91, 92, 93, 94, 95, 96, 97, 98, 99, 100, 101, 102, 103, 32, 33, 104, 105, 29, 30, 106, 107, 108, 109, 110, 111, 112, 113, 114, 115, 116, 117, 118, 119, 120, 121, 122, 123, 124, 26, 27, 125, 126, 127, 128, 129, 130, 131, 132, 133, 134, 135, 136, 137, 138, 139, 140, 141, 142, 143, 144, 145, 146, 147, 148, 149, 150, 151, 152, 153, 154, 155, 156, 177, 178, 179, 180, 181, 182, 183, 184, 185, 186, 187, 188, 189, 174, 175, 176] (by decide +kernel) (by decide +kernel)
set_option maxRecDepth 20000 in
theorem gX10_judge_X7_tell : GoodIn wsX10_judge (wsV RX10 99 RX7 yX7_tell wsX7_tell) := goodIn_app (goodIn_of _ (by decide +kernel)) ggX10_judge_X7_tell
set_option maxRecDepth 20000 in
theorem ggX10_judge_X7_failedEvent : GoodIn wsX10_judge wsX7_failedEvent := goodIn_r _ [160, 45, 177, 178, 179, 180, 181, 182, 183] (by decide +kernel) (by decide +kernel)
set_option maxRecDepth 20000 in
theorem gX10_judge_X7_failedEvent : GoodIn wsX10_judge (wsV RX10 103 RX7 yX7_failedEvent wsX7_failedEvent) := goodIn_app (goodIn_of _ (by decide +kernel)) ggX10_judge_X7_failedEvent
set_option maxRecDepth 20000 in
theorem ggX10_judge_X7_reason : GoodIn wsX10_judge wsX7_reason := goodIn_r _ [164, 46, 177, 178, 179, 180, 181, 182, 183] (by decide +kernel) (by decide +kernel)
set_option maxRecDepth 20000 in
theorem gX10_judge_X7_reason : GoodIn wsX10_judge (wsV RX10 106 RX7 yX7_reason wsX7_reason) := goodIn_app (goodIn_of _ (by decide +kernel)) ggX10_judge_X7_reason
theorem dX10_judge_0 : decode cX10_judge 0 = .ok (.iload_n 1, 1) := by decide +kernel
theorem dX10_judge_1 : decode cX10_judge 1 = .ok (.ifCond .lt 8, 3) := by decide +kernel
theorem dX10_judge_4 : decode cX10_judge 4 = .ok (.iload_n 1, 1) := by decide +kernel
theorem dX10_judge_5 : decode cX10_judge 5 = .ok (.iconst 1, 1) := by decide +kernel
theorem dX10_judge_6 : decode cX10_judge 6 = .ok (.if_icmp .le 6, 3) := by decide +kernel
theorem dX10_judge_9 : decode cX10_judge 9 = .ok (.bipush (-2), 2) := by decide +kernel
theorem dX10_judge_11 : decode cX10_judge 11 = .ok (.ireturn, 1) := by decide +kernel
theorem dX10_judge_12 : decode cX10_judge 12 = .ok (.aload_n 0, 1) := by decide +kernel
theorem dX10_judge_13 : decode cX10_judge 13 = .ok (.invokevirtual 96, 3) := by decide +kernel
theorem dX10_judge_16 : decode cX10_judge 16 = .ok (.istore_n 2, 1) := by decide +kernel
theorem dX10_judge_17 : decode cX10_judge 17 = .ok (.iload_n 2, 1) := by decide +kernel
theorem dX10_judge_18 : decode cX10_judge 18 = .ok (.ifCond .eq 5, 3) := by decide +kernel
theorem dX10_judge_21 : decode cX10_judge 21 = .ok (.iload_n 2, 1) := by decide +kernel
theorem dX10_judge_22 : decode cX10_judge 22 = .ok (.ireturn, 1) := by decide +kernel
theorem dX10_judge_23 : decode cX10_judge 23 = .ok (.aload_n 0, 1) := by decide +kernel
theorem dX10_judge_24 : decode cX10_judge 24 = .ok (.getfield 36, 3) := by decide +kernel
theorem dX10_judge_27 : decode cX10_judge 27 = .ok (.aload_n 0, 1) := by decide +kernel
theorem dX10_judge_28 : decode cX10_judge 28 = .ok (.getfield 10, 3) := by decide +kernel
theorem dX10_judge_31 : decode cX10_judge 31 = .ok (.aload_n 0, 1) := by decide +kernel
theorem dX10_judge_32 : decode cX10_judge 32 = .ok (.getfield 22, 3) := by decide +kernel
theorem dX10_judge_35 : decode cX10_judge 35 = .ok (.bipush (-6), 2) := by decide +kernel
theorem dX10_judge_37 : decode cX10_judge 37 = .ok (.iconst 0, 1) := by decide +kernel
theorem dX10_judge_38 : decode cX10_judge 38 = .ok (.invokevirtual 99, 3) := by decide +kernel
theorem dX10_judge_41 : decode cX10_judge 41 = .ok (.pop, 1) := by decide +kernel
theorem dX10_judge_42 : decode cX10_judge 42 = .ok (.iload_n 1, 1) := by decide +kernel
theorem dX10_judge_43 : decode cX10_judge 43 = .ok (.ifCond .ne 13, 3) := by decide +kernel
theorem dX10_judge_46 : decode cX10_judge 46 = .ok (.aload_n 0, 1) := by decide +kernel
theorem dX10_judge_47 : decode cX10_judge 47 = .ok (.getfield 36, 3) := by decide +kernel
theorem dX10_judge_50 : decode cX10_judge 50 = .ok (.invokevirtual 103, 3) := by decide +kernel
theorem dX10_judge_53 : decode cX10_judge 53 = .ok (.goto 10, 3) := by decide +kernel
theorem dX10_judge_56 : decode cX10_judge 56 = .ok (.aload_n 0, 1) := by decide +kernel
theorem dX10_judge_57 : decode cX10_judge 57 = .ok (.getfield 36, 3) := by decide +kernel
theorem dX10_judge_60 : decode cX10_judge 60 = .ok (.invokevirtual 106, 3) := by decide +kernel
theorem dX10_judge_63 : decode cX10_judge 63 = .ok (.ireturn, 1) := by decide +kernel
set_option maxRecDepth 20000 in
theorem ggX10_done_X10_refuseEvening : GoodIn wsX10_done wsX10_refuseEvening := goodIn_r _ [8, 2, 1, 3, 9, 10, 11, 7, 12, 13, 14, 15, 16, 17, 18, 19, 20, 21, 22, 23, 24, 25, 26, 27, 28, 29, 30, 31, 32, 33, 34, 35, 36, 37, 38, 39, 40, 41, 42, 43, 44, 45, 46, 47, 48, 49, 50, 51, 52, 53, 54, 55, 56, 57, 58, 59, 60, 61, 62, 63, 64, 65, 66, 67, 68, 69, 70, 71, 72, 73, 74, 75, 76, 77, 78, 79, 80, 81, 82, 83, 84, 85, 86, 87, 88, 89, 90, 91, 92, 93, 94, 95, 96, 97, 98, 99, 100, 101, 102, 103, 104, 105, 106, 107, 108, 109, 110, 111, 112, 113, 114, 115, 116, 117, 118, 119, 120, 121, 122, 123, 124, 125, 126, 127, 128, 129, 130, 131, 132, 133, 134, 135, 136, 137, 138, 139, 140, 141, 142, 143, 144, 145, 146, 147, 148, 149, 150, 151, 152, 153, 154, 155, 156, 157, 158, 159, 160, 171, 172, 173, 174, 175, 176, 177, 178, 179, 180, 181, 182, 183, 184, 185, 186, 187, 188, 189, 190, 191, 192, 193, 194, 195] (by decide +kernel) (by decide +kernel)
set_option maxRecDepth 20000 in
theorem gX10_done_X10_refuseEvening : GoodIn wsX10_done (wsV RX10 109 RX10 yX10_refuseEvening wsX10_refuseEvening) := goodIn_app (goodIn_of _ (by decide +kernel)) ggX10_done_X10_refuseEvening
set_option maxRecDepth 20000 in
theorem ggX10_done_X7_wheel : GoodIn wsX10_done wsX7_wheel := goodIn_r _ [164, 48, 183, 184, 185, 186, 187, 188, 189] (by decide +kernel) (by decide +kernel)
set_option maxRecDepth 20000 in
theorem gX10_done_X7_wheel : GoodIn wsX10_done (wsV RX10 112 RX7 yX7_wheel wsX7_wheel) := goodIn_app (goodIn_of _ (by decide +kernel)) ggX10_done_X7_wheel
set_option maxRecDepth 20000 in
theorem ggX10_done_X9_copyFrom : GoodIn wsX10_done wsX9_copyFrom := goodIn_r _ [59, 60, 61, 62, 63, 64, 65, 66, 7, 67, 68, 69, 70, 71, 72, 73, 74, 75, 190, 191, 192, 193, 194, 195] (by decide +kernel) (by decide +kernel)
set_option maxRecDepth 20000 in
theorem gX10_done_X9_copyFrom : GoodIn wsX10_done (wsV RX10 115 RX9 yX9_copyFrom wsX9_copyFrom) := goodIn_app (goodIn_of _ (by decide +kernel)) ggX10_done_X9_copyFrom
set_option maxRecDepth 20000 in
theorem ggX10_done_X4_length : GoodIn wsX10_done wsX4_length := goodIn_r _ [80, 18, 180, 181, 182] (by decide +kernel) (by decide +kernel)
set_option maxRecDepth 20000 in
theorem gX10_done_X4_length : GoodIn wsX10_done (wsV RX10 84 RX4 yX4_length wsX4_length) := goodIn_app (goodIn_of _ (by decide +kernel)) ggX10_done_X4_length
set_option maxRecDepth 20000 in
theorem ggX10_done_X4_clear : GoodIn wsX10_done wsX4_clear := goodIn_r _ [170, 18, 42, 180, 181, 182] (by decide +kernel) (by decide +kernel)
set_option maxRecDepth 20000 in
theorem gX10_done_X4_clear : GoodIn wsX10_done (wsV RX10 90 RX4 yX4_clear wsX4_clear) := goodIn_app (goodIn_of _ (by decide +kernel)) ggX10_done_X4_clear
theorem dX10_done_0 : decode cX10_done 0 = .ok (.aload_n 0, 1) := by decide +kernel
theorem dX10_done_1 : decode cX10_done 1 = .ok (.invokevirtual 109, 3) := by decide +kernel
theorem dX10_done_4 : decode cX10_done 4 = .ok (.istore_n 1, 1) := by decide +kernel
theorem dX10_done_5 : decode cX10_done 5 = .ok (.iload_n 1, 1) := by decide +kernel
theorem dX10_done_6 : decode cX10_done 6 = .ok (.ifCond .eq 5, 3) := by decide +kernel
theorem dX10_done_9 : decode cX10_done 9 = .ok (.iload_n 1, 1) := by decide +kernel
theorem dX10_done_10 : decode cX10_done 10 = .ok (.ireturn, 1) := by decide +kernel
theorem dX10_done_11 : decode cX10_done 11 = .ok (.aload_n 0, 1) := by decide +kernel
theorem dX10_done_12 : decode cX10_done 12 = .ok (.getfield 10, 3) := by decide +kernel
theorem dX10_done_15 : decode cX10_done 15 = .ok (.aload_n 0, 1) := by decide +kernel
theorem dX10_done_16 : decode cX10_done 16 = .ok (.getfield 36, 3) := by decide +kernel
theorem dX10_done_19 : decode cX10_done 19 = .ok (.invokevirtual 112, 3) := by decide +kernel
theorem dX10_done_22 : decode cX10_done 22 = .ok (.invokevirtual 115, 3) := by decide +kernel
theorem dX10_done_25 : decode cX10_done 25 = .ok (.aload_n 0, 1) := by decide +kernel
theorem dX10_done_26 : decode cX10_done 26 = .ok (.getfield 22, 3) := by decide +kernel
theorem dX10_done_29 : decode cX10_done 29 = .ok (.invokevirtual 84, 3) := by decide +kernel
theorem dX10_done_32 : decode cX10_done 32 = .ok (.istore_n 2, 1) := by decide +kernel
theorem dX10_done_33 : decode cX10_done 33 = .ok (.aload_n 0, 1) := by decide +kernel
theorem dX10_done_34 : decode cX10_done 34 = .ok (.getfield 22, 3) := by decide +kernel
theorem dX10_done_37 : decode cX10_done 37 = .ok (.invokevirtual 90, 3) := by decide +kernel
theorem dX10_done_40 : decode cX10_done 40 = .ok (.iload_n 2, 1) := by decide +kernel
theorem dX10_done_41 : decode cX10_done 41 = .ok (.ireturn, 1) := by decide +kernel
set_option maxRecDepth 20000 in
theorem ggX10_foot_X9_lowest : GoodIn wsX10_foot wsX9_lowest := goodIn_r _ [6, 7, 17, 18, 19, 20, 21, 22] (by decide +kernel) (by decide +kernel)
set_option maxRecDepth 20000 in
theorem gX10_foot_X9_lowest : GoodIn wsX10_foot (wsV RX10 119 RX9 yX9_lowest wsX9_lowest) := goodIn_app (goodIn_of _ (by decide +kernel)) ggX10_foot_X9_lowest
theorem dX10_foot_0 : decode cX10_foot 0 = .ok (.aload_n 0, 1) := by decide +kernel
theorem dX10_foot_1 : decode cX10_foot 1 = .ok (.getfield 10, 3) := by decide +kernel
theorem dX10_foot_4 : decode cX10_foot 4 = .ok (.invokevirtual 119, 3) := by decide +kernel
theorem dX10_foot_7 : decode cX10_foot 7 = .ok (.ireturn, 1) := by decide +kernel
set_option maxRecDepth 20000 in
theorem ggX10_car_X10_isCar : GoodIn wsX10_car wsX10_isCar := goodIn_r _ [5] (by decide +kernel) (by decide +kernel)
set_option maxRecDepth 20000 in
theorem gX10_car_X10_isCar : GoodIn wsX10_car (va_wsS RX10 122 yX10_isCar wsX10_isCar) := goodIn_app (goodIn_of _ (by decide +kernel)) ggX10_car_X10_isCar
set_option maxRecDepth 20000 in
theorem ggX10_car_X9_riderOf : GoodIn wsX10_car wsX9_riderOf := goodIn_r _ [10, 11, 12, 4, 13, 37, 38, 39, 40, 41, 42] (by decide +kernel) (by decide +kernel)
set_option maxRecDepth 20000 in
theorem gX10_car_X9_riderOf : GoodIn wsX10_car (wsV RX10 125 RX9 yX9_riderOf wsX9_riderOf) := goodIn_app (goodIn_of _ (by decide +kernel)) ggX10_car_X9_riderOf
set_option maxRecDepth 20000 in
theorem ggX10_car_X9_loadOf : GoodIn wsX10_car wsX9_loadOf := goodIn_r _ [17, 18, 12, 4, 13, 37, 38, 39, 40, 41, 42] (by decide +kernel) (by decide +kernel)
set_option maxRecDepth 20000 in
theorem gX10_car_X9_loadOf : GoodIn wsX10_car (wsV RX10 128 RX9 yX9_loadOf wsX9_loadOf) := goodIn_app (goodIn_of _ (by decide +kernel)) ggX10_car_X9_loadOf
set_option maxRecDepth 20000 in
theorem ggX10_car_X9_placeOf : GoodIn wsX10_car wsX9_placeOf := goodIn_r _ [22, 23, 24, 25, 26, 27, 37, 38, 39, 40, 41, 42] (by decide +kernel) (by decide +kernel)
set_option maxRecDepth 20000 in
theorem gX10_car_X9_placeOf : GoodIn wsX10_car (wsV RX10 131 RX9 yX9_placeOf wsX9_placeOf) := goodIn_app (goodIn_of _ (by decide +kernel)) ggX10_car_X9_placeOf
theorem dX10_car_0 : decode cX10_car 0 = .ok (.iload_n 1, 1) := by decide +kernel
theorem dX10_car_1 : decode cX10_car 1 = .ok (.invokestatic 122, 3) := by decide +kernel
theorem dX10_car_4 : decode cX10_car 4 = .ok (.ifCond .ne 5, 3) := by decide +kernel
theorem dX10_car_7 : decode cX10_car 7 = .ok (.iconst (-1), 1) := by decide +kernel
theorem dX10_car_8 : decode cX10_car 8 = .ok (.ireturn, 1) := by decide +kernel
theorem dX10_car_9 : decode cX10_car 9 = .ok (.iload_n 2, 1) := by decide +kernel
theorem dX10_car_10 : decode cX10_car 10 = .ok (.ifCond .lt 8, 3) := by decide +kernel
theorem dX10_car_13 : decode cX10_car 13 = .ok (.iload_n 2, 1) := by decide +kernel
theorem dX10_car_14 : decode cX10_car 14 = .ok (.iconst 2, 1) := by decide +kernel
theorem dX10_car_15 : decode cX10_car 15 = .ok (.if_icmp .le 6, 3) := by decide +kernel
theorem dX10_car_18 : decode cX10_car 18 = .ok (.bipush (-2), 2) := by decide +kernel
theorem dX10_car_20 : decode cX10_car 20 = .ok (.ireturn, 1) := by decide +kernel
theorem dX10_car_21 : decode cX10_car 21 = .ok (.iload_n 2, 1) := by decide +kernel
theorem dX10_car_22 : decode cX10_car 22 = .ok (.ifCond .ne 12, 3) := by decide +kernel
theorem dX10_car_25 : decode cX10_car 25 = .ok (.aload_n 0, 1) := by decide +kernel
theorem dX10_car_26 : decode cX10_car 26 = .ok (.getfield 10, 3) := by decide +kernel
theorem dX10_car_29 : decode cX10_car 29 = .ok (.iload_n 1, 1) := by decide +kernel
theorem dX10_car_30 : decode cX10_car 30 = .ok (.invokevirtual 125, 3) := by decide +kernel
theorem dX10_car_33 : decode cX10_car 33 = .ok (.ireturn, 1) := by decide +kernel
theorem dX10_car_34 : decode cX10_car 34 = .ok (.iload_n 2, 1) := by decide +kernel
theorem dX10_car_35 : decode cX10_car 35 = .ok (.iconst 1, 1) := by decide +kernel
theorem dX10_car_36 : decode cX10_car 36 = .ok (.if_icmp .ne 14, 3) := by decide +kernel
theorem dX10_car_39 : decode cX10_car 39 = .ok (.aload_n 0, 1) := by decide +kernel
theorem dX10_car_40 : decode cX10_car 40 = .ok (.getfield 10, 3) := by decide +kernel
theorem dX10_car_43 : decode cX10_car 43 = .ok (.iload_n 1, 1) := by decide +kernel
theorem dX10_car_44 : decode cX10_car 44 = .ok (.invokevirtual 128, 3) := by decide +kernel
theorem dX10_car_47 : decode cX10_car 47 = .ok (.goto 11, 3) := by decide +kernel
theorem dX10_car_50 : decode cX10_car 50 = .ok (.aload_n 0, 1) := by decide +kernel
theorem dX10_car_51 : decode cX10_car 51 = .ok (.getfield 10, 3) := by decide +kernel
theorem dX10_car_54 : decode cX10_car 54 = .ok (.iload_n 1, 1) := by decide +kernel
theorem dX10_car_55 : decode cX10_car 55 = .ok (.invokevirtual 131, 3) := by decide +kernel
theorem dX10_car_58 : decode cX10_car 58 = .ok (.ireturn, 1) := by decide +kernel
set_option maxRecDepth 20000 in
theorem ggX10_pull_X9_pullNow : GoodIn wsX10_pull wsX9_pullNow := goodIn_r _ [7, 8, 9, 10, 11, 6, 12, 13, 14, 15, 16, 17, 18, 19, 20, 21, 22, 23, 33, 34, 35, 36, 37, 38] (by decide +kernel) (by decide +kernel)
set_option maxRecDepth 20000 in
theorem gX10_pull_X9_pullNow : GoodIn wsX10_pull (wsV RX10 134 RX9 yX9_pullNow wsX9_pullNow) := goodIn_app (goodIn_of _ (by decide +kernel)) ggX10_pull_X9_pullNow
theorem dX10_pull_0 : decode cX10_pull 0 = .ok (.aload_n 0, 1) := by decide +kernel
theorem dX10_pull_1 : decode cX10_pull 1 = .ok (.getfield 10, 3) := by decide +kernel
theorem dX10_pull_4 : decode cX10_pull 4 = .ok (.invokevirtual 134, 3) := by decide +kernel
theorem dX10_pull_7 : decode cX10_pull 7 = .ok (.ldc 137, 2) := by decide +kernel
theorem dX10_pull_9 : decode cX10_pull 9 = .ok (.iadd, 1) := by decide +kernel
theorem dX10_pull_10 : decode cX10_pull 10 = .ok (.ireturn, 1) := by decide +kernel
set_option maxRecDepth 20000 in
theorem ggX10_behind_X10_refuseEvening : GoodIn wsX10_behind wsX10_refuseEvening := goodIn_r _ [7, 1, 8, 9, 10, 11, 12, 6, 13, 14, 15, 16, 17, 18, 19, 20, 21, 22, 23, 24, 25, 26, 27, 28, 29, 30, 31, 32, 33, 34, 35, 36, 37, 38, 39, 40, 41, 42, 43, 44, 45, 46, 47, 48, 49, 50, 51, 52, 53, 54, 55, 56, 57, 58, 59, 60, 61, 62, 63, 64, 65, 66, 67, 68, 69, 70, 71, 72, 73, 74, 75, 76, 77, 78, 79, 80, 81, 82, 83, 84, 85, 86, 87, 88, 89, 90, 91, 92, 93, 94, 95, 96, 97, 98, 99, 100, 101, 102, 103, 104, 105, 106, 107, 108, 109, 110, 111, 112, 113, 114, 115, 116, 117, 118, 119, 120, 121, 122, 123, 124, 125, 126, 127, 128, 129, 130, 131, 132, 133, 134, 135, 136, 137, 138, 139, 140, 141, 142, 143, 144, 145, 146, 147, 148, 149, 150, 151, 152, 153, 154, 155, 156, 157, 158, 159, 160, 161, 175, 176, 177, 178, 179, 180, 181, 182, 183, 184, 185, 186, 187, 188, 189, 190, 191, 192, 193, 194, 195, 196, 197, 198, 199] (by decide +kernel) (by decide +kernel)
set_option maxRecDepth 20000 in
theorem gX10_behind_X10_refuseEvening : GoodIn wsX10_behind (wsV RX10 109 RX10 yX10_refuseEvening wsX10_refuseEvening) := goodIn_app (goodIn_of _ (by decide +kernel)) ggX10_behind_X10_refuseEvening
set_option maxRecDepth 20000 in
theorem ggX10_behind_X7_wheel : GoodIn wsX10_behind wsX7_wheel := goodIn_r _ [165, 49, 187, 188, 189, 190, 191, 192, 193] (by decide +kernel) (by decide +kernel)
set_option maxRecDepth 20000 in
theorem gX10_behind_X7_wheel : GoodIn wsX10_behind (wsV RX10 112 RX7 yX7_wheel wsX7_wheel) := goodIn_app (goodIn_of _ (by decide +kernel)) ggX10_behind_X7_wheel
set_option maxRecDepth 20000 in
theorem ggX10_behind_X9_lowest : GoodIn wsX10_behind wsX9_lowest := goodIn_r _ [118, 65, 194, 195, 196, 197, 198, 199] (by decide +kernel) (by decide +kernel)
set_option maxRecDepth 20000 in
theorem gX10_behind_X9_lowest : GoodIn wsX10_behind (wsV RX10 119 RX9 yX9_lowest wsX9_lowest) := goodIn_app (goodIn_of _ (by decide +kernel)) ggX10_behind_X9_lowest
set_option maxRecDepth 20000 in
theorem ggX10_behind_X9_pullNow : GoodIn wsX10_behind wsX9_pullNow := goodIn_r _ [170, 65, 91, 92, 93, 59, 94, 63, 64, 61, 95, 25, 6, 26, 96, 97, 98, 99, 194, 195, 196, 197, 198, 199] (by decide +kernel) (by decide +kernel)
set_option maxRecDepth 20000 in
theorem gX10_behind_X9_pullNow : GoodIn wsX10_behind (wsV RX10 134 RX9 yX9_pullNow wsX9_pullNow) := goodIn_app (goodIn_of _ (by decide +kernel)) ggX10_behind_X9_pullNow
set_option maxRecDepth 20000 in
theorem ggX10_behind_X7_turned : GoodIn wsX10_behind wsX7_turned := goodIn_r _ [174, 52, 187, 188, 189, 190, 191, 192, 193] (by decide +kernel) (by decide +kernel)
set_option maxRecDepth 20000 in
theorem gX10_behind_X7_turned : GoodIn wsX10_behind (wsV RX10 138 RX7 yX7_turned wsX7_turned) := goodIn_app (goodIn_of _ (by decide +kernel)) ggX10_behind_X7_turned
theorem dX10_behind_0 : decode cX10_behind 0 = .ok (.iload_n 1, 1) := by decide +kernel
theorem dX10_behind_1 : decode cX10_behind 1 = .ok (.ifCond .lt 8, 3) := by decide +kernel
theorem dX10_behind_4 : decode cX10_behind 4 = .ok (.iload_n 1, 1) := by decide +kernel
theorem dX10_behind_5 : decode cX10_behind 5 = .ok (.iconst 2, 1) := by decide +kernel
theorem dX10_behind_6 : decode cX10_behind 6 = .ok (.if_icmp .le 6, 3) := by decide +kernel
theorem dX10_behind_9 : decode cX10_behind 9 = .ok (.bipush (-2), 2) := by decide +kernel
theorem dX10_behind_11 : decode cX10_behind 11 = .ok (.ireturn, 1) := by decide +kernel
theorem dX10_behind_12 : decode cX10_behind 12 = .ok (.aload_n 0, 1) := by decide +kernel
theorem dX10_behind_13 : decode cX10_behind 13 = .ok (.invokevirtual 109, 3) := by decide +kernel
theorem dX10_behind_16 : decode cX10_behind 16 = .ok (.istore_n 2, 1) := by decide +kernel
theorem dX10_behind_17 : decode cX10_behind 17 = .ok (.iload_n 2, 1) := by decide +kernel
theorem dX10_behind_18 : decode cX10_behind 18 = .ok (.ifCond .eq 5, 3) := by decide +kernel
theorem dX10_behind_21 : decode cX10_behind 21 = .ok (.iload_n 2, 1) := by decide +kernel
theorem dX10_behind_22 : decode cX10_behind 22 = .ok (.ireturn, 1) := by decide +kernel
theorem dX10_behind_23 : decode cX10_behind 23 = .ok (.iload_n 1, 1) := by decide +kernel
theorem dX10_behind_24 : decode cX10_behind 24 = .ok (.ifCond .ne 14, 3) := by decide +kernel
theorem dX10_behind_27 : decode cX10_behind 27 = .ok (.aload_n 0, 1) := by decide +kernel
theorem dX10_behind_28 : decode cX10_behind 28 = .ok (.getfield 36, 3) := by decide +kernel
theorem dX10_behind_31 : decode cX10_behind 31 = .ok (.invokevirtual 112, 3) := by decide +kernel
theorem dX10_behind_34 : decode cX10_behind 34 = .ok (.invokevirtual 119, 3) := by decide +kernel
theorem dX10_behind_37 : decode cX10_behind 37 = .ok (.ireturn, 1) := by decide +kernel
theorem dX10_behind_38 : decode cX10_behind 38 = .ok (.iload_n 1, 1) := by decide +kernel
theorem dX10_behind_39 : decode cX10_behind 39 = .ok (.iconst 1, 1) := by decide +kernel
theorem dX10_behind_40 : decode cX10_behind 40 = .ok (.if_icmp .ne 19, 3) := by decide +kernel
theorem dX10_behind_43 : decode cX10_behind 43 = .ok (.aload_n 0, 1) := by decide +kernel
theorem dX10_behind_44 : decode cX10_behind 44 = .ok (.getfield 36, 3) := by decide +kernel
theorem dX10_behind_47 : decode cX10_behind 47 = .ok (.invokevirtual 112, 3) := by decide +kernel
theorem dX10_behind_50 : decode cX10_behind 50 = .ok (.invokevirtual 134, 3) := by decide +kernel
theorem dX10_behind_53 : decode cX10_behind 53 = .ok (.ldc 137, 2) := by decide +kernel
theorem dX10_behind_55 : decode cX10_behind 55 = .ok (.iadd, 1) := by decide +kernel
theorem dX10_behind_56 : decode cX10_behind 56 = .ok (.goto 14, 3) := by decide +kernel
theorem dX10_behind_59 : decode cX10_behind 59 = .ok (.aload_n 0, 1) := by decide +kernel
theorem dX10_behind_60 : decode cX10_behind 60 = .ok (.getfield 36, 3) := by decide +kernel
theorem dX10_behind_63 : decode cX10_behind 63 = .ok (.invokevirtual 138, 3) := by decide +kernel
theorem dX10_behind_66 : decode cX10_behind 66 = .ok (.sipush 1000, 3) := by decide +kernel
theorem dX10_behind_69 : decode cX10_behind 69 = .ok (.iadd, 1) := by decide +kernel
theorem dX10_behind_70 : decode cX10_behind 70 = .ok (.ireturn, 1) := by decide +kernel
set_option maxRecDepth 20000 in
theorem ggX10_leftOut_X10_refuseEvening : GoodIn wsX10_leftOut wsX10_refuseEvening := goodIn_r _ [7, 1, 8, 2, 9, 10, 11, 6, 12, 13, 14, 15, 16, 17, 18, 19, 20, 21, 22, 23, 24, 25, 26, 27, 28, 29, 30, 31, 32, 33, 34, 35, 36, 37, 38, 39, 40, 41, 42, 43, 44, 45, 46, 47, 48, 49, 50, 51, 52, 53, 54, 55, 56, 57, 58, 59, 60, 61, 62, 63, 64, 65, 66, 67, 68, 69, 70, 71, 72, 73, 74, 75, 76, 77, 78, 79, 80, 81, 82, 83, 84, 85, 86, 87, 88, 89, 90, 91, 92, 93, 94, 95, 96, 97, 98, 99, 100, 101, 102, 103, 104, 105, 106, 107, 108, 109, 110, 111, 112, 113, 114, 115, 116, 117, 118, 119, 120, 121, 122, 123, 124, 125, 126, 127, 128, 129, 130, 131, 132, 133, 134, 135, 136, 137, 138, 139, 140, 141, 142, 143, 144, 145, 146, 147, 148, 149, 150, 151, 152, 153, 154, 155, 156, 157, 158, 159, 160, 173, 174, 175, 176, 177, 178, 179, 180, 181, 182, 183, 184, 185, 186, 187, 188, 189, 190, 191, 192, 193, 194, 195, 196, 197] (by decide +kernel) (by decide +kernel)
set_option maxRecDepth 20000 in
theorem gX10_leftOut_X10_refuseEvening : GoodIn wsX10_leftOut (wsV RX10 109 RX10 yX10_refuseEvening wsX10_refuseEvening) := goodIn_app (goodIn_of _ (by decide +kernel)) ggX10_leftOut_X10_refuseEvening
set_option maxRecDepth 20000 in
theorem ggX10_leftOut_X7_wheel : GoodIn wsX10_leftOut wsX7_wheel := goodIn_r _ [164, 48, 185, 186, 187, 188, 189, 190, 191] (by decide +kernel) (by decide +kernel)
set_option maxRecDepth 20000 in
theorem gX10_leftOut_X7_wheel : GoodIn wsX10_leftOut (wsV RX10 112 RX7 yX7_wheel wsX7_wheel) := goodIn_app (goodIn_of _ (by decide +kernel)) ggX10_leftOut_X7_wheel
set_option maxRecDepth 20000 in
theorem ggX10_leftOut_X9_lowest : GoodIn wsX10_leftOut wsX9_lowest := goodIn_r _ [117, 64, 192, 193, 194, 195, 196, 197] (by decide +kernel) (by decide +kernel)
set_option maxRecDepth 20000 in
theorem gX10_leftOut_X9_lowest : GoodIn wsX10_leftOut (wsV RX10 119 RX9 yX9_lowest wsX9_lowest) := goodIn_app (goodIn_of _ (by decide +kernel)) ggX10_leftOut_X9_lowest
set_option maxRecDepth 20000 in
theorem ggX10_leftOut_X4_length : GoodIn wsX10_leftOut wsX4_length := goodIn_r _ [80, 18, 182, 183, 184] (by decide +kernel) (by decide +kernel)
set_option maxRecDepth 20000 in
theorem gX10_leftOut_X4_length : GoodIn wsX10_leftOut (wsV RX10 84 RX4 yX4_length wsX4_length) := goodIn_app (goodIn_of _ (by decide +kernel)) ggX10_leftOut_X4_length
set_option maxRecDepth 20000 in
theorem ggX10_leftOut_X10_canBeLeftOut : GoodIn wsX10_leftOut wsX10_canBeLeftOut := goodIn_r _ [170, 2, 1, 8, 171, 20, 21, 16, 22, 23, 24, 6, 25, 172, 36, 37, 43, 44, 45, 46, 47, 48, 49, 50, 51, 52, 53, 54, 55, 56, 57, 58, 59, 60, 61, 62, 63, 64, 65, 66, 67, 68, 69, 70, 71, 72, 73, 74, 75, 76, 39, 40, 41, 42, 77, 78, 79, 80, 18, 81, 82, 83, 84, 85, 86, 87, 88, 89, 90, 91, 92, 93, 94, 95, 96, 97, 98, 99, 100, 101, 102, 103, 104, 105, 106, 107, 108, 109, 33, 34, 110, 111, 112, 113, 114, 115, 116, 117, 118, 119, 120, 121, 122, 123, 124, 125, 126, 127, 128, 30, 31, 129, 130, 131, 132, 133, 134, 135, 136, 137, 138, 139, 140, 141, 142, 143, 144, 145, 146, 147, 148, 149, 150, 151, 152, 153, 154, 155, 156, 157, 158, 159, 160, 161, 162, 163, 164, 165, 173, 174, 175, 176, 177, 178, 179, 180, 181, 182, 183, 184, 185, 186, 187, 188, 189, 190, 191, 192, 193, 194, 195, 196, 197] (by decide +kernel) (by decide +kernel)
set_option maxRecDepth 20000 in
theorem gX10_leftOut_X10_canBeLeftOut : GoodIn wsX10_leftOut (wsV RX10 141 RX10 yX10_canBeLeftOut wsX10_canBeLeftOut) := goodIn_app (goodIn_of _ (by decide +kernel)) ggX10_leftOut_X10_canBeLeftOut
theorem dX10_leftOut_0 : decode cX10_leftOut 0 = .ok (.aload_n 0, 1) := by decide +kernel
theorem dX10_leftOut_1 : decode cX10_leftOut 1 = .ok (.invokevirtual 109, 3) := by decide +kernel
theorem dX10_leftOut_4 : decode cX10_leftOut 4 = .ok (.istore_n 2, 1) := by decide +kernel
theorem dX10_leftOut_5 : decode cX10_leftOut 5 = .ok (.iload_n 2, 1) := by decide +kernel
theorem dX10_leftOut_6 : decode cX10_leftOut 6 = .ok (.ifCond .eq 5, 3) := by decide +kernel
theorem dX10_leftOut_9 : decode cX10_leftOut 9 = .ok (.iload_n 2, 1) := by decide +kernel
theorem dX10_leftOut_10 : decode cX10_leftOut 10 = .ok (.ireturn, 1) := by decide +kernel
theorem dX10_leftOut_11 : decode cX10_leftOut 11 = .ok (.aload_n 0, 1) := by decide +kernel
theorem dX10_leftOut_12 : decode cX10_leftOut 12 = .ok (.getfield 36, 3) := by decide +kernel
theorem dX10_leftOut_15 : decode cX10_leftOut 15 = .ok (.invokevirtual 112, 3) := by decide +kernel
theorem dX10_leftOut_18 : decode cX10_leftOut 18 = .ok (.invokevirtual 119, 3) := by decide +kernel
theorem dX10_leftOut_21 : decode cX10_leftOut 21 = .ok (.istore_n 3, 1) := by decide +kernel
theorem dX10_leftOut_22 : decode cX10_leftOut 22 = .ok (.iconst 0, 1) := by decide +kernel
theorem dX10_leftOut_23 : decode cX10_leftOut 23 = .ok (.istore 4, 2) := by decide +kernel
theorem dX10_leftOut_25 : decode cX10_leftOut 25 = .ok (.iconst 0, 1) := by decide +kernel
theorem dX10_leftOut_26 : decode cX10_leftOut 26 = .ok (.istore 5, 2) := by decide +kernel
theorem dX10_leftOut_28 : decode cX10_leftOut 28 = .ok (.iload 5, 2) := by decide +kernel
theorem dX10_leftOut_30 : decode cX10_leftOut 30 = .ok (.aload_n 0, 1) := by decide +kernel
theorem dX10_leftOut_31 : decode cX10_leftOut 31 = .ok (.getfield 22, 3) := by decide +kernel
theorem dX10_leftOut_34 : decode cX10_leftOut 34 = .ok (.invokevirtual 84, 3) := by decide +kernel
theorem dX10_leftOut_37 : decode cX10_leftOut 37 = .ok (.if_icmp .ge 31, 3) := by decide +kernel
theorem dX10_leftOut_40 : decode cX10_leftOut 40 = .ok (.aload_n 0, 1) := by decide +kernel
theorem dX10_leftOut_41 : decode cX10_leftOut 41 = .ok (.iload 5, 2) := by decide +kernel
theorem dX10_leftOut_43 : decode cX10_leftOut 43 = .ok (.iload_n 3, 1) := by decide +kernel
theorem dX10_leftOut_44 : decode cX10_leftOut 44 = .ok (.invokevirtual 141, 3) := by decide +kernel
theorem dX10_leftOut_47 : decode cX10_leftOut 47 = .ok (.ifCond .eq 15, 3) := by decide +kernel
theorem dX10_leftOut_50 : decode cX10_leftOut 50 = .ok (.iload 4, 2) := by decide +kernel
theorem dX10_leftOut_52 : decode cX10_leftOut 52 = .ok (.iload_n 1, 1) := by decide +kernel
theorem dX10_leftOut_53 : decode cX10_leftOut 53 = .ok (.if_icmp .ne 6, 3) := by decide +kernel
theorem dX10_leftOut_56 : decode cX10_leftOut 56 = .ok (.iload 5, 2) := by decide +kernel
theorem dX10_leftOut_58 : decode cX10_leftOut 58 = .ok (.ireturn, 1) := by decide +kernel
theorem dX10_leftOut_59 : decode cX10_leftOut 59 = .ok (.iinc 4 1, 3) := by decide +kernel
theorem dX10_leftOut_62 : decode cX10_leftOut 62 = .ok (.iinc 5 1, 3) := by decide +kernel
theorem dX10_leftOut_65 : decode cX10_leftOut 65 = .ok (.goto (-37), 3) := by decide +kernel
theorem dX10_leftOut_68 : decode cX10_leftOut 68 = .ok (.iload_n 1, 1) := by decide +kernel
theorem dX10_leftOut_69 : decode cX10_leftOut 69 = .ok (.iconst (-1), 1) := by decide +kernel
theorem dX10_leftOut_70 : decode cX10_leftOut 70 = .ok (.if_icmp .ne 8, 3) := by decide +kernel
theorem dX10_leftOut_73 : decode cX10_leftOut 73 = .ok (.iload 4, 2) := by decide +kernel
theorem dX10_leftOut_75 : decode cX10_leftOut 75 = .ok (.goto 5, 3) := by decide +kernel
theorem dX10_leftOut_78 : decode cX10_leftOut 78 = .ok (.bipush (-6), 2) := by decide +kernel
theorem dX10_leftOut_80 : decode cX10_leftOut 80 = .ok (.ireturn, 1) := by decide +kernel
set_option maxRecDepth 20000 in
theorem ggX10_down_X10_isPerson : GoodIn wsX10_down wsX10_isPerson := goodIn_r _ [6] (by decide +kernel) (by decide +kernel)
set_option maxRecDepth 20000 in
theorem gX10_down_X10_isPerson : GoodIn wsX10_down (va_wsS RX10 64 yX10_isPerson wsX10_isPerson) := goodIn_app (goodIn_of _ (by decide +kernel)) ggX10_down_X10_isPerson
set_option maxRecDepth 20000 in
theorem ggX10_down_X9_isAboard : GoodIn wsX10_down wsX9_isAboard := goodIn_r _ [11, 12, 13, 5, 14, 118, 119, 120, 121, 122, 123] (by decide +kernel) (by decide +kernel)
set_option maxRecDepth 20000 in
theorem gX10_down_X9_isAboard : GoodIn wsX10_down (wsV RX10 145 RX9 yX9_isAboard wsX9_isAboard) := goodIn_app (goodIn_of _ (by decide +kernel)) ggX10_down_X9_isAboard
set_option maxRecDepth 20000 in
theorem ggX10_down_X9_isLowest : GoodIn wsX10_down wsX9_isLowest := goodIn_r _ [18, 12, 19, 13, 5, 14, 118, 119, 120, 121, 122, 123] (by decide +kernel) (by decide +kernel)
set_option maxRecDepth 20000 in
theorem gX10_down_X9_isLowest : GoodIn wsX10_down (wsV RX10 148 RX9 yX9_isLowest wsX9_isLowest) := goodIn_app (goodIn_of _ (by decide +kernel)) ggX10_down_X9_isLowest
set_option maxRecDepth 20000 in
theorem ggX10_down_X9_copyFrom : GoodIn wsX10_down wsX9_copyFrom := goodIn_r _ [23, 24, 12, 25, 26, 19, 27, 28, 5, 29, 30, 31, 32, 33, 34, 35, 36, 37, 118, 119, 120, 121, 122, 123] (by decide +kernel) (by decide +kernel)
set_option maxRecDepth 20000 in
theorem gX10_down_X9_copyFrom : GoodIn wsX10_down (wsV RX10 115 RX9 yX9_copyFrom wsX9_copyFrom) := goodIn_app (goodIn_of _ (by decide +kernel)) ggX10_down_X9_copyFrom
set_option maxRecDepth 20000 in
theorem ggX10_down_X3_first : GoodIn wsX10_down wsX3_first := goodIn_r _ [41, 42, 43, 40, 44, 45, 46, 47, 10, 48, 19, 49, 50, 51, 52, 25, 13, 5, 14, 53, 54, 55, 56, 57, 58, 59, 60, 16, 17, 18, 12, 61, 8, 9, 11, 62, 63, 64, 65, 66, 67, 68, 69, 70, 4, 6, 71, 72, 73, 74, 75, 76, 77, 78, 79, 80, 81, 82, 26, 24, 83, 84, 85, 86, 87, 88, 89, 90, 91, 27, 92, 93, 94, 95, 96, 97, 98, 99, 100, 101, 118, 119, 120, 121, 122, 123] (by decide +kernel) (by decide +kernel)
set_option maxRecDepth 20000 in
theorem gX10_down_X3_first : GoodIn wsX10_down (va_wsS RX10 151 yX3_first wsX3_first) := goodIn_app (goodIn_of _ (by decide +kernel)) ggX10_down_X3_first
set_option maxRecDepth 20000 in
theorem ggX10_down_X10_tellMove : GoodIn wsX10_down wsX10_tellMove := goodIn_r _ [105, 1, 106, 107, 40, 108, 56, 57, 58, 10, 59, 25, 19, 13, 5, 14, 3, 4, 6, 109, 110, 111, 112, 113, 114, 115, 116, 117, 118, 119, 120, 121, 122, 123] (by decide +kernel) (by decide +kernel)
set_option maxRecDepth 20000 in
theorem gX10_down_X10_tellMove : GoodIn wsX10_down (wsV RX10 157 RX10 yX10_tellMove wsX10_tellMove) := goodIn_app (goodIn_of _ (by decide +kernel)) ggX10_down_X10_tellMove
theorem dX10_down_0 : decode cX10_down 0 = .ok (.iload_n 1, 1) := by decide +kernel
theorem dX10_down_1 : decode cX10_down 1 = .ok (.invokestatic 64, 3) := by decide +kernel
theorem dX10_down_4 : decode cX10_down 4 = .ok (.ifCond .ne 5, 3) := by decide +kernel
theorem dX10_down_7 : decode cX10_down 7 = .ok (.iconst (-1), 1) := by decide +kernel
theorem dX10_down_8 : decode cX10_down 8 = .ok (.ireturn, 1) := by decide +kernel
theorem dX10_down_9 : decode cX10_down 9 = .ok (.iload_n 2, 1) := by decide +kernel
theorem dX10_down_10 : decode cX10_down 10 = .ok (.ifCond .lt 8, 3) := by decide +kernel
theorem dX10_down_13 : decode cX10_down 13 = .ok (.iload_n 2, 1) := by decide +kernel
theorem dX10_down_14 : decode cX10_down 14 = .ok (.iconst 2, 1) := by decide +kernel
theorem dX10_down_15 : decode cX10_down 15 = .ok (.if_icmp .le 6, 3) := by decide +kernel
theorem dX10_down_18 : decode cX10_down 18 = .ok (.bipush (-2), 2) := by decide +kernel
theorem dX10_down_20 : decode cX10_down 20 = .ok (.ireturn, 1) := by decide +kernel
theorem dX10_down_21 : decode cX10_down 21 = .ok (.aload_n 0, 1) := by decide +kernel
theorem dX10_down_22 : decode cX10_down 22 = .ok (.getfield 10, 3) := by decide +kernel
theorem dX10_down_25 : decode cX10_down 25 = .ok (.iload_n 1, 1) := by decide +kernel
theorem dX10_down_26 : decode cX10_down 26 = .ok (.invokevirtual 145, 3) := by decide +kernel
theorem dX10_down_29 : decode cX10_down 29 = .ok (.ifCond .ne 6, 3) := by decide +kernel
theorem dX10_down_32 : decode cX10_down 32 = .ok (.bipush (-3), 2) := by decide +kernel
theorem dX10_down_34 : decode cX10_down 34 = .ok (.ireturn, 1) := by decide +kernel
theorem dX10_down_35 : decode cX10_down 35 = .ok (.aload_n 0, 1) := by decide +kernel
theorem dX10_down_36 : decode cX10_down 36 = .ok (.getfield 10, 3) := by decide +kernel
theorem dX10_down_39 : decode cX10_down 39 = .ok (.iload_n 1, 1) := by decide +kernel
theorem dX10_down_40 : decode cX10_down 40 = .ok (.invokevirtual 148, 3) := by decide +kernel
theorem dX10_down_43 : decode cX10_down 43 = .ok (.ifCond .eq 14, 3) := by decide +kernel
theorem dX10_down_46 : decode cX10_down 46 = .ok (.iload_n 2, 1) := by decide +kernel
theorem dX10_down_47 : decode cX10_down 47 = .ok (.ifCond .ne 7, 3) := by decide +kernel
theorem dX10_down_50 : decode cX10_down 50 = .ok (.iconst 0, 1) := by decide +kernel
theorem dX10_down_51 : decode cX10_down 51 = .ok (.goto 5, 3) := by decide +kernel
theorem dX10_down_54 : decode cX10_down 54 = .ok (.bipush (-6), 2) := by decide +kernel
theorem dX10_down_56 : decode cX10_down 56 = .ok (.ireturn, 1) := by decide +kernel
theorem dX10_down_57 : decode cX10_down 57 = .ok (.aload_n 0, 1) := by decide +kernel
theorem dX10_down_58 : decode cX10_down 58 = .ok (.getfield 16, 3) := by decide +kernel
theorem dX10_down_61 : decode cX10_down 61 = .ok (.aload_n 0, 1) := by decide +kernel
theorem dX10_down_62 : decode cX10_down 62 = .ok (.getfield 10, 3) := by decide +kernel
theorem dX10_down_65 : decode cX10_down 65 = .ok (.invokevirtual 115, 3) := by decide +kernel
theorem dX10_down_68 : decode cX10_down 68 = .ok (.iconst 1, 1) := by decide +kernel
theorem dX10_down_69 : decode cX10_down 69 = .ok (.istore_n 3, 1) := by decide +kernel
theorem dX10_down_70 : decode cX10_down 70 = .ok (.iload_n 3, 1) := by decide +kernel
theorem dX10_down_71 : decode cX10_down 71 = .ok (.iconst 3, 1) := by decide +kernel
theorem dX10_down_72 : decode cX10_down 72 = .ok (.if_icmp .gt 43, 3) := by decide +kernel
theorem dX10_down_75 : decode cX10_down 75 = .ok (.aload_n 0, 1) := by decide +kernel
theorem dX10_down_76 : decode cX10_down 76 = .ok (.getfield 16, 3) := by decide +kernel
theorem dX10_down_79 : decode cX10_down 79 = .ok (.iload_n 1, 1) := by decide +kernel
theorem dX10_down_80 : decode cX10_down 80 = .ok (.iload_n 3, 1) := by decide +kernel
theorem dX10_down_81 : decode cX10_down 81 = .ok (.invokestatic 151, 3) := by decide +kernel
theorem dX10_down_84 : decode cX10_down 84 = .ok (.istore 4, 2) := by decide +kernel
theorem dX10_down_86 : decode cX10_down 86 = .ok (.iload 4, 2) := by decide +kernel
theorem dX10_down_88 : decode cX10_down 88 = .ok (.bipush (-6), 2) := by decide +kernel
theorem dX10_down_90 : decode cX10_down 90 = .ok (.if_icmp .eq 19, 3) := by decide +kernel
theorem dX10_down_93 : decode cX10_down 93 = .ok (.iload_n 2, 1) := by decide +kernel
theorem dX10_down_94 : decode cX10_down 94 = .ok (.ifCond .ne 7, 3) := by decide +kernel
theorem dX10_down_97 : decode cX10_down 97 = .ok (.iload_n 3, 1) := by decide +kernel
theorem dX10_down_98 : decode cX10_down 98 = .ok (.goto 10, 3) := by decide +kernel
theorem dX10_down_101 : decode cX10_down 101 = .ok (.aload_n 0, 1) := by decide +kernel
theorem dX10_down_102 : decode cX10_down 102 = .ok (.iload 4, 2) := by decide +kernel
theorem dX10_down_104 : decode cX10_down 104 = .ok (.iload_n 2, 1) := by decide +kernel
theorem dX10_down_105 : decode cX10_down 105 = .ok (.invokevirtual 157, 3) := by decide +kernel
theorem dX10_down_108 : decode cX10_down 108 = .ok (.ireturn, 1) := by decide +kernel
theorem dX10_down_109 : decode cX10_down 109 = .ok (.iinc 3 1, 3) := by decide +kernel
theorem dX10_down_112 : decode cX10_down 112 = .ok (.goto (-42), 3) := by decide +kernel
theorem dX10_down_115 : decode cX10_down 115 = .ok (.bipush (-6), 2) := by decide +kernel
theorem dX10_down_117 : decode cX10_down 117 = .ok (.ireturn, 1) := by decide +kernel
set_option maxRecDepth 20000 in
theorem ggX10_pebbles_X10_isPerson : GoodIn wsX10_pebbles wsX10_isPerson := goodIn_r _ [6] (by decide +kernel) (by decide +kernel)
set_option maxRecDepth 20000 in
theorem gX10_pebbles_X10_isPerson : GoodIn wsX10_pebbles (va_wsS RX10 64 yX10_isPerson wsX10_isPerson) := goodIn_app (goodIn_of _ (by decide +kernel)) ggX10_pebbles_X10_isPerson
set_option maxRecDepth 20000 in
theorem ggX10_pebbles_X9_isAboard : GoodIn wsX10_pebbles wsX9_isAboard := goodIn_r _ [11, 12, 13, 5, 14, 78, 79, 80, 81, 82, 83] (by decide +kernel) (by decide +kernel)
set_option maxRecDepth 20000 in
theorem gX10_pebbles_X9_isAboard : GoodIn wsX10_pebbles (wsV RX10 145 RX9 yX9_isAboard wsX9_isAboard) := goodIn_app (goodIn_of _ (by decide +kernel)) ggX10_pebbles_X9_isAboard
set_option maxRecDepth 20000 in
theorem ggX10_pebbles_X9_copyFrom : GoodIn wsX10_pebbles wsX9_copyFrom := goodIn_r _ [18, 19, 12, 20, 21, 22, 23, 24, 5, 25, 26, 27, 28, 29, 30, 31, 32, 33, 78, 79, 80, 81, 82, 83] (by decide +kernel) (by decide +kernel)
set_option maxRecDepth 20000 in
theorem gX10_pebbles_X9_copyFrom : GoodIn wsX10_pebbles (wsV RX10 115 RX9 yX9_copyFrom wsX9_copyFrom) := goodIn_app (goodIn_of _ (by decide +kernel)) ggX10_pebbles_X9_copyFrom
set_option maxRecDepth 20000 in
theorem ggX10_pebbles_X9_lowest : GoodIn wsX10_pebbles wsX9_lowest := goodIn_r _ [37, 22, 78, 79, 80, 81, 82, 83] (by decide +kernel) (by decide +kernel)
set_option maxRecDepth 20000 in
theorem gX10_pebbles_X9_lowest : GoodIn wsX10_pebbles (wsV RX10 119 RX9 yX9_lowest wsX9_lowest) := goodIn_app (goodIn_of _ (by decide +kernel)) ggX10_pebbles_X9_lowest
set_option maxRecDepth 20000 in
theorem ggX10_pebbles_X9_setLoad : GoodIn wsX10_pebbles wsX9_setLoad := goodIn_r _ [41, 21, 42, 5, 43, 78, 79, 80, 81, 82, 83] (by decide +kernel) (by decide +kernel)
set_option maxRecDepth 20000 in
theorem gX10_pebbles_X9_setLoad : GoodIn wsX10_pebbles (wsV RX10 161 RX9 yX9_setLoad wsX9_setLoad) := goodIn_app (goodIn_of _ (by decide +kernel)) ggX10_pebbles_X9_setLoad
set_option maxRecDepth 20000 in
theorem ggX10_pebbles_X9_letGo : GoodIn wsX10_pebbles wsX9_letGo := goodIn_r _ [47, 22, 48, 49, 50, 10, 51, 20, 21, 19, 52, 13, 5, 14, 53, 54, 55, 56, 57, 58, 59, 60, 23, 61, 62, 63, 64, 78, 79, 80, 81, 82, 83] (by decide +kernel) (by decide +kernel)
set_option maxRecDepth 20000 in
theorem gX10_pebbles_X9_letGo : GoodIn wsX10_pebbles (wsV RX10 164 RX9 yX9_letGo wsX9_letGo) := goodIn_app (goodIn_of _ (by decide +kernel)) ggX10_pebbles_X9_letGo
set_option maxRecDepth 20000 in
theorem ggX10_pebbles_X9_isLowest : GoodIn wsX10_pebbles wsX9_isLowest := goodIn_r _ [68, 12, 22, 13, 5, 14, 78, 79, 80, 81, 82, 83] (by decide +kernel) (by decide +kernel)
set_option maxRecDepth 20000 in
theorem gX10_pebbles_X9_isLowest : GoodIn wsX10_pebbles (wsV RX10 148 RX9 yX9_isLowest wsX9_isLowest) := goodIn_app (goodIn_of _ (by decide +kernel)) ggX10_pebbles_X9_isLowest
theorem dX10_pebbles_0 : decode cX10_pebbles 0 = .ok (.iload_n 1, 1) := by decide +kernel
theorem dX10_pebbles_1 : decode cX10_pebbles 1 = .ok (.invokestatic 64, 3) := by decide +kernel
theorem dX10_pebbles_4 : decode cX10_pebbles 4 = .ok (.ifCond .ne 5, 3) := by decide +kernel
theorem dX10_pebbles_7 : decode cX10_pebbles 7 = .ok (.iconst (-1), 1) := by decide +kernel
theorem dX10_pebbles_8 : decode cX10_pebbles 8 = .ok (.ireturn, 1) := by decide +kernel
theorem dX10_pebbles_9 : decode cX10_pebbles 9 = .ok (.aload_n 0, 1) := by decide +kernel
theorem dX10_pebbles_10 : decode cX10_pebbles 10 = .ok (.getfield 10, 3) := by decide +kernel
theorem dX10_pebbles_13 : decode cX10_pebbles 13 = .ok (.iload_n 1, 1) := by decide +kernel
theorem dX10_pebbles_14 : decode cX10_pebbles 14 = .ok (.invokevirtual 145, 3) := by decide +kernel
theorem dX10_pebbles_17 : decode cX10_pebbles 17 = .ok (.ifCond .ne 6, 3) := by decide +kernel
theorem dX10_pebbles_20 : decode cX10_pebbles 20 = .ok (.bipush (-3), 2) := by decide +kernel
theorem dX10_pebbles_22 : decode cX10_pebbles 22 = .ok (.ireturn, 1) := by decide +kernel
theorem dX10_pebbles_23 : decode cX10_pebbles 23 = .ok (.iconst 0, 1) := by decide +kernel
theorem dX10_pebbles_24 : decode cX10_pebbles 24 = .ok (.istore_n 2, 1) := by decide +kernel
theorem dX10_pebbles_25 : decode cX10_pebbles 25 = .ok (.iload_n 2, 1) := by decide +kernel
theorem dX10_pebbles_26 : decode cX10_pebbles 26 = .ok (.bipush 99, 2) := by decide +kernel
theorem dX10_pebbles_28 : decode cX10_pebbles 28 = .ok (.if_icmp .gt 56, 3) := by decide +kernel
theorem dX10_pebbles_31 : decode cX10_pebbles 31 = .ok (.aload_n 0, 1) := by decide +kernel
theorem dX10_pebbles_32 : decode cX10_pebbles 32 = .ok (.getfield 16, 3) := by decide +kernel
theorem dX10_pebbles_35 : decode cX10_pebbles 35 = .ok (.aload_n 0, 1) := by decide +kernel
theorem dX10_pebbles_36 : decode cX10_pebbles 36 = .ok (.getfield 10, 3) := by decide +kernel
theorem dX10_pebbles_39 : decode cX10_pebbles 39 = .ok (.invokevirtual 115, 3) := by decide +kernel
theorem dX10_pebbles_42 : decode cX10_pebbles 42 = .ok (.aload_n 0, 1) := by decide +kernel
theorem dX10_pebbles_43 : decode cX10_pebbles 43 = .ok (.getfield 16, 3) := by decide +kernel
theorem dX10_pebbles_46 : decode cX10_pebbles 46 = .ok (.aload_n 0, 1) := by decide +kernel
theorem dX10_pebbles_47 : decode cX10_pebbles 47 = .ok (.getfield 16, 3) := by decide +kernel
theorem dX10_pebbles_50 : decode cX10_pebbles 50 = .ok (.invokevirtual 119, 3) := by decide +kernel
theorem dX10_pebbles_53 : decode cX10_pebbles 53 = .ok (.iload_n 2, 1) := by decide +kernel
theorem dX10_pebbles_54 : decode cX10_pebbles 54 = .ok (.invokevirtual 161, 3) := by decide +kernel
theorem dX10_pebbles_57 : decode cX10_pebbles 57 = .ok (.aload_n 0, 1) := by decide +kernel
theorem dX10_pebbles_58 : decode cX10_pebbles 58 = .ok (.getfield 16, 3) := by decide +kernel
theorem dX10_pebbles_61 : decode cX10_pebbles 61 = .ok (.invokevirtual 164, 3) := by decide +kernel
theorem dX10_pebbles_64 : decode cX10_pebbles 64 = .ok (.pop, 1) := by decide +kernel
theorem dX10_pebbles_65 : decode cX10_pebbles 65 = .ok (.aload_n 0, 1) := by decide +kernel
theorem dX10_pebbles_66 : decode cX10_pebbles 66 = .ok (.getfield 16, 3) := by decide +kernel
theorem dX10_pebbles_69 : decode cX10_pebbles 69 = .ok (.iload_n 1, 1) := by decide +kernel
theorem dX10_pebbles_70 : decode cX10_pebbles 70 = .ok (.invokevirtual 148, 3) := by decide +kernel
theorem dX10_pebbles_73 : decode cX10_pebbles 73 = .ok (.ifCond .eq 5, 3) := by decide +kernel
theorem dX10_pebbles_76 : decode cX10_pebbles 76 = .ok (.iload_n 2, 1) := by decide +kernel
theorem dX10_pebbles_77 : decode cX10_pebbles 77 = .ok (.ireturn, 1) := by decide +kernel
theorem dX10_pebbles_78 : decode cX10_pebbles 78 = .ok (.iinc 2 1, 3) := by decide +kernel
theorem dX10_pebbles_81 : decode cX10_pebbles 81 = .ok (.goto (-56), 3) := by decide +kernel
theorem dX10_pebbles_84 : decode cX10_pebbles 84 = .ok (.bipush (-6), 2) := by decide +kernel
theorem dX10_pebbles_86 : decode cX10_pebbles 86 = .ok (.ireturn, 1) := by decide +kernel
set_option maxRecDepth 20000 in
theorem ggX10_brake_X9_greatestPull : GoodIn wsX10_brake wsX9_greatestPull := goodIn_r _ [6, 7, 8, 9, 10, 11, 12, 13, 14, 15, 16, 5, 17, 18, 19, 20, 21, 22, 23, 24, 25, 26, 27, 28, 38, 39, 40, 41, 42, 43] (by decide +kernel) (by decide +kernel)
set_option maxRecDepth 20000 in
theorem gX10_brake_X9_greatestPull : GoodIn wsX10_brake (wsV RX10 167 RX9 yX9_greatestPull wsX9_greatestPull) := goodIn_app (goodIn_of _ (by decide +kernel)) ggX10_brake_X9_greatestPull
theorem dX10_brake_0 : decode cX10_brake 0 = .ok (.aload_n 0, 1) := by decide +kernel
theorem dX10_brake_1 : decode cX10_brake 1 = .ok (.getfield 10, 3) := by decide +kernel
theorem dX10_brake_4 : decode cX10_brake 4 = .ok (.invokevirtual 167, 3) := by decide +kernel
theorem dX10_brake_7 : decode cX10_brake 7 = .ok (.ireturn, 1) := by decide +kernel
set_option maxRecDepth 20000 in
theorem ggX10_balance_X10_isPerson : GoodIn wsX10_balance wsX10_isPerson := goodIn_r _ [6] (by decide +kernel) (by decide +kernel)
set_option maxRecDepth 20000 in
theorem gX10_balance_X10_isPerson : GoodIn wsX10_balance (va_wsS RX10 64 yX10_isPerson wsX10_isPerson) := goodIn_app (goodIn_of _ (by decide +kernel)) ggX10_balance_X10_isPerson
set_option maxRecDepth 20000 in
theorem ggX10_balance_X10_isOf : GoodIn wsX10_balance wsX10_isOf := goodIn_r _ [9] (by decide +kernel) (by decide +kernel)
set_option maxRecDepth 20000 in
theorem gX10_balance_X10_isOf : GoodIn wsX10_balance (va_wsS RX10 170 yX10_isOf wsX10_isOf) := goodIn_app (goodIn_of _ (by decide +kernel)) ggX10_balance_X10_isOf
set_option maxRecDepth 20000 in
theorem ggX10_balance_J6_bitCount_0f7a4 : GoodIn wsX10_balance wsJ6_bitCount_0f7a4 := goodIn_r _ [13, 14, 15, 16] (by decide +kernel) (by decide +kernel)
set_option maxRecDepth 20000 in
theorem gX10_balance_J6_bitCount_0f7a4 : GoodIn wsX10_balance (va_wsS RX10 173 yJ6_bitCount_0f7a4 wsJ6_bitCount_0f7a4) := goodIn_app (goodIn_of _ (by decide +kernel)) ggX10_balance_J6_bitCount_0f7a4
set_option maxRecDepth 20000 in
theorem ggX10_balance_X5_count : GoodIn wsX10_balance wsX5_count := goodIn_r _ [21, 22, 23, 24, 25, 26, 27, 28, 29, 30, 31, 32, 33, 34, 35, 5, 36, 37, 38, 39, 40, 41, 42, 43, 44, 45, 46, 47, 48, 49, 50, 51, 52, 53, 54, 20, 55, 8, 9, 56, 57, 58, 59, 60, 61, 62, 63, 64, 65, 66, 67, 68, 69, 70, 71, 72, 73, 74, 75, 76, 77, 78, 79, 80, 81, 82, 83, 84, 85, 86, 87, 88, 89, 90, 91, 92, 93, 94, 95, 96, 97, 98, 99, 100, 101, 102, 116, 117, 118, 119, 120, 121, 122, 123, 124] (by decide +kernel) (by decide +kernel)
set_option maxRecDepth 20000 in
theorem gX10_balance_X5_count : GoodIn wsX10_balance (wsV RX10 178 RX5 yX5_count wsX5_count) := goodIn_app (goodIn_of _ (by decide +kernel)) ggX10_balance_X5_count
set_option maxRecDepth 20000 in
theorem ggX10_balance_X5_carInFirst : GoodIn wsX10_balance wsX5_carInFirst := goodIn_r _ [106, 60, 76, 5, 77, 116, 117, 118] (by decide +kernel) (by decide +kernel)
set_option maxRecDepth 20000 in
theorem gX10_balance_X5_carInFirst : GoodIn wsX10_balance (wsV RX10 182 RX5 yX5_carInFirst wsX5_carInFirst) := goodIn_app (goodIn_of _ (by decide +kernel)) ggX10_balance_X5_carInFirst
theorem dX10_balance_0 : decode cX10_balance 0 = .ok (.iload_n 2, 1) := by decide +kernel
theorem dX10_balance_1 : decode cX10_balance 1 = .ok (.iconst (-1), 1) := by decide +kernel
theorem dX10_balance_2 : decode cX10_balance 2 = .ok (.if_icmp .eq 12, 3) := by decide +kernel
theorem dX10_balance_5 : decode cX10_balance 5 = .ok (.iload_n 2, 1) := by decide +kernel
theorem dX10_balance_6 : decode cX10_balance 6 = .ok (.invokestatic 64, 3) := by decide +kernel
theorem dX10_balance_9 : decode cX10_balance 9 = .ok (.ifCond .ne 5, 3) := by decide +kernel
theorem dX10_balance_12 : decode cX10_balance 12 = .ok (.iconst (-1), 1) := by decide +kernel
theorem dX10_balance_13 : decode cX10_balance 13 = .ok (.ireturn, 1) := by decide +kernel
theorem dX10_balance_14 : decode cX10_balance 14 = .ok (.iload_n 1, 1) := by decide +kernel
theorem dX10_balance_15 : decode cX10_balance 15 = .ok (.ifCond .lt 10, 3) := by decide +kernel
theorem dX10_balance_18 : decode cX10_balance 18 = .ok (.iload_n 1, 1) := by decide +kernel
theorem dX10_balance_19 : decode cX10_balance 19 = .ok (.sipush 256, 3) := by decide +kernel
theorem dX10_balance_22 : decode cX10_balance 22 = .ok (.if_icmp .lt 6, 3) := by decide +kernel
theorem dX10_balance_25 : decode cX10_balance 25 = .ok (.bipush (-2), 2) := by decide +kernel
theorem dX10_balance_27 : decode cX10_balance 27 = .ok (.ireturn, 1) := by decide +kernel
theorem dX10_balance_28 : decode cX10_balance 28 = .ok (.iload_n 2, 1) := by decide +kernel
theorem dX10_balance_29 : decode cX10_balance 29 = .ok (.iconst (-1), 1) := by decide +kernel
theorem dX10_balance_30 : decode cX10_balance 30 = .ok (.if_icmp .eq 13, 3) := by decide +kernel
theorem dX10_balance_33 : decode cX10_balance 33 = .ok (.iload_n 1, 1) := by decide +kernel
theorem dX10_balance_34 : decode cX10_balance 34 = .ok (.iload_n 2, 1) := by decide +kernel
theorem dX10_balance_35 : decode cX10_balance 35 = .ok (.invokestatic 170, 3) := by decide +kernel
theorem dX10_balance_38 : decode cX10_balance 38 = .ok (.ifCond .ne 5, 3) := by decide +kernel
theorem dX10_balance_41 : decode cX10_balance 41 = .ok (.iconst (-1), 1) := by decide +kernel
theorem dX10_balance_42 : decode cX10_balance 42 = .ok (.ireturn, 1) := by decide +kernel
theorem dX10_balance_43 : decode cX10_balance 43 = .ok (.iload_n 1, 1) := by decide +kernel
theorem dX10_balance_44 : decode cX10_balance 44 = .ok (.invokestatic 173, 3) := by decide +kernel
theorem dX10_balance_47 : decode cX10_balance 47 = .ok (.iconst 5, 1) := by decide +kernel
theorem dX10_balance_48 : decode cX10_balance 48 = .ok (.if_icmp .le 6, 3) := by decide +kernel
theorem dX10_balance_51 : decode cX10_balance 51 = .ok (.bipush (-4), 2) := by decide +kernel
theorem dX10_balance_53 : decode cX10_balance 53 = .ok (.ireturn, 1) := by decide +kernel
theorem dX10_balance_54 : decode cX10_balance 54 = .ok (.aload_n 0, 1) := by decide +kernel
theorem dX10_balance_55 : decode cX10_balance 55 = .ok (.getfield 43, 3) := by decide +kernel
theorem dX10_balance_58 : decode cX10_balance 58 = .ok (.aload_n 0, 1) := by decide +kernel
theorem dX10_balance_59 : decode cX10_balance 59 = .ok (.getfield 10, 3) := by decide +kernel
theorem dX10_balance_62 : decode cX10_balance 62 = .ok (.iload_n 1, 1) := by decide +kernel
theorem dX10_balance_63 : decode cX10_balance 63 = .ok (.invokevirtual 178, 3) := by decide +kernel
theorem dX10_balance_66 : decode cX10_balance 66 = .ok (.istore_n 3, 1) := by decide +kernel
theorem dX10_balance_67 : decode cX10_balance 67 = .ok (.iload_n 2, 1) := by decide +kernel
theorem dX10_balance_68 : decode cX10_balance 68 = .ok (.iconst (-1), 1) := by decide +kernel
theorem dX10_balance_69 : decode cX10_balance 69 = .ok (.if_icmp .ne 5, 3) := by decide +kernel
theorem dX10_balance_72 : decode cX10_balance 72 = .ok (.iload_n 3, 1) := by decide +kernel
theorem dX10_balance_73 : decode cX10_balance 73 = .ok (.ireturn, 1) := by decide +kernel
theorem dX10_balance_74 : decode cX10_balance 74 = .ok (.iload_n 3, 1) := by decide +kernel
theorem dX10_balance_75 : decode cX10_balance 75 = .ok (.ifCond .ne 8, 3) := by decide +kernel
theorem dX10_balance_78 : decode cX10_balance 78 = .ok (.bipush (-6), 2) := by decide +kernel
theorem dX10_balance_80 : decode cX10_balance 80 = .ok (.goto 11, 3) := by decide +kernel
theorem dX10_balance_83 : decode cX10_balance 83 = .ok (.aload_n 0, 1) := by decide +kernel
theorem dX10_balance_84 : decode cX10_balance 84 = .ok (.getfield 43, 3) := by decide +kernel
theorem dX10_balance_87 : decode cX10_balance 87 = .ok (.iload_n 2, 1) := by decide +kernel
theorem dX10_balance_88 : decode cX10_balance 88 = .ok (.invokevirtual 182, 3) := by decide +kernel
theorem dX10_balance_91 : decode cX10_balance 91 = .ok (.ireturn, 1) := by decide +kernel
set_option maxRecDepth 20000 in
theorem ggX10_could_X10_isPerson : GoodIn wsX10_could wsX10_isPerson := goodIn_r _ [4] (by decide +kernel) (by decide +kernel)
set_option maxRecDepth 20000 in
theorem gX10_could_X10_isPerson : GoodIn wsX10_could (va_wsS RX10 64 yX10_isPerson wsX10_isPerson) := goodIn_app (goodIn_of _ (by decide +kernel)) ggX10_could_X10_isPerson
set_option maxRecDepth 20000 in
theorem ggX10_could_X10_isCar : GoodIn wsX10_could wsX10_isCar := goodIn_r _ [7] (by decide +kernel) (by decide +kernel)
set_option maxRecDepth 20000 in
theorem gX10_could_X10_isCar : GoodIn wsX10_could (va_wsS RX10 122 yX10_isCar wsX10_isCar) := goodIn_app (goodIn_of _ (by decide +kernel)) ggX10_could_X10_isCar
set_option maxRecDepth 20000 in
theorem ggX10_could_X10_refuseText : GoodIn wsX10_could wsX10_refuseText := goodIn_r _ [11, 12, 13, 14, 15, 16, 17, 18, 19, 20, 21, 22, 23, 24, 3, 25, 26, 27, 28, 29, 30, 31, 32, 33, 34, 35, 36, 37, 38, 39, 40, 41, 42, 178, 179, 180, 181, 182, 183, 184, 185, 186, 187, 188, 189] (by decide +kernel) (by decide +kernel)
set_option maxRecDepth 20000 in
theorem gX10_could_X10_refuseText : GoodIn wsX10_could (wsV RX10 96 RX10 yX10_refuseText wsX10_refuseText) := goodIn_app (goodIn_of _ (by decide +kernel)) ggX10_could_X10_refuseText
set_option maxRecDepth 20000 in
theorem ggX10_could_X10_endsAt : GoodIn wsX10_could wsX10_endsAt := goodIn_r _ [46, 47, 48, 49, 12, 50, 51, 52, 53, 54, 55, 56, 57, 58, 59, 60, 61, 3, 62, 63, 64, 65, 66, 67, 68, 69, 70, 71, 72, 73, 74, 75, 76, 77, 78, 79, 80, 81, 82, 83, 84, 85, 86, 87, 88, 89, 90, 39, 40, 16, 41, 42, 91, 92, 93, 94, 18, 95, 20, 21, 22, 23, 24, 25, 96, 97, 98, 99, 100, 101, 102, 103, 104, 105, 106, 107, 108, 109, 110, 111, 112, 113, 114, 115, 116, 117, 118, 119, 120, 121, 36, 37, 122, 123, 33, 34, 124, 125, 126, 127, 128, 129, 130, 131, 132, 133, 134, 135, 136, 137, 138, 139, 140, 30, 31, 141, 142, 143, 144, 145, 146, 147, 148, 149, 150, 151, 152, 153, 154, 155, 156, 157, 158, 159, 160, 161, 162, 163, 164, 165, 166, 167, 168, 169, 170, 171, 172, 173, 174, 175, 176, 177, 178, 179, 180, 181, 182, 183, 184, 185, 186, 190, 191, 192, 193, 194, 195, 196, 197, 198, 199, 200, 201, 202, 187, 188, 189] (by decide +kernel) (by decide +kernel)
set_option maxRecDepth 20000 in
theorem gX10_could_X10_endsAt : GoodIn wsX10_could (wsV RX10 185 RX10 yX10_endsAt wsX10_endsAt) := goodIn_app (goodIn_of _ (by decide +kernel)) ggX10_could_X10_endsAt
theorem dX10_could_0 : decode cX10_could 0 = .ok (.iload_n 1, 1) := by decide +kernel
theorem dX10_could_1 : decode cX10_could 1 = .ok (.invokestatic 64, 3) := by decide +kernel
theorem dX10_could_4 : decode cX10_could 4 = .ok (.ifCond .eq 10, 3) := by decide +kernel
theorem dX10_could_7 : decode cX10_could 7 = .ok (.iload_n 2, 1) := by decide +kernel
theorem dX10_could_8 : decode cX10_could 8 = .ok (.invokestatic 122, 3) := by decide +kernel
theorem dX10_could_11 : decode cX10_could 11 = .ok (.ifCond .ne 5, 3) := by decide +kernel
theorem dX10_could_14 : decode cX10_could 14 = .ok (.iconst (-1), 1) := by decide +kernel
theorem dX10_could_15 : decode cX10_could 15 = .ok (.ireturn, 1) := by decide +kernel
theorem dX10_could_16 : decode cX10_could 16 = .ok (.iload_n 3, 1) := by decide +kernel
theorem dX10_could_17 : decode cX10_could 17 = .ok (.ifCond .lt 8, 3) := by decide +kernel
theorem dX10_could_20 : decode cX10_could 20 = .ok (.iload_n 3, 1) := by decide +kernel
theorem dX10_could_21 : decode cX10_could 21 = .ok (.iconst 2, 1) := by decide +kernel
theorem dX10_could_22 : decode cX10_could 22 = .ok (.if_icmp .le 6, 3) := by decide +kernel
theorem dX10_could_25 : decode cX10_could 25 = .ok (.bipush (-2), 2) := by decide +kernel
theorem dX10_could_27 : decode cX10_could 27 = .ok (.ireturn, 1) := by decide +kernel
theorem dX10_could_28 : decode cX10_could 28 = .ok (.aload_n 0, 1) := by decide +kernel
theorem dX10_could_29 : decode cX10_could 29 = .ok (.invokevirtual 96, 3) := by decide +kernel
theorem dX10_could_32 : decode cX10_could 32 = .ok (.istore 4, 2) := by decide +kernel
theorem dX10_could_34 : decode cX10_could 34 = .ok (.iload 4, 2) := by decide +kernel
theorem dX10_could_36 : decode cX10_could 36 = .ok (.ifCond .eq 6, 3) := by decide +kernel
theorem dX10_could_39 : decode cX10_could 39 = .ok (.iload 4, 2) := by decide +kernel
theorem dX10_could_41 : decode cX10_could 41 = .ok (.ireturn, 1) := by decide +kernel
theorem dX10_could_42 : decode cX10_could 42 = .ok (.iconst 0, 1) := by decide +kernel
theorem dX10_could_43 : decode cX10_could 43 = .ok (.istore 5, 2) := by decide +kernel
theorem dX10_could_45 : decode cX10_could 45 = .ok (.bipush (-6), 2) := by decide +kernel
theorem dX10_could_47 : decode cX10_could 47 = .ok (.istore 6, 2) := by decide +kernel
theorem dX10_could_49 : decode cX10_could 49 = .ok (.bipush (-6), 2) := by decide +kernel
theorem dX10_could_51 : decode cX10_could 51 = .ok (.istore 7, 2) := by decide +kernel
theorem dX10_could_53 : decode cX10_could 53 = .ok (.iconst 1, 1) := by decide +kernel
theorem dX10_could_54 : decode cX10_could 54 = .ok (.istore 8, 2) := by decide +kernel
theorem dX10_could_56 : decode cX10_could 56 = .ok (.iload 8, 2) := by decide +kernel
theorem dX10_could_58 : decode cX10_could 58 = .ok (.bipush 99, 2) := by decide +kernel
theorem dX10_could_60 : decode cX10_could 60 = .ok (.if_icmp .gt 43, 3) := by decide +kernel
theorem dX10_could_63 : decode cX10_could 63 = .ok (.aload_n 0, 1) := by decide +kernel
theorem dX10_could_64 : decode cX10_could 64 = .ok (.iload_n 1, 1) := by decide +kernel
theorem dX10_could_65 : decode cX10_could 65 = .ok (.iload 8, 2) := by decide +kernel
theorem dX10_could_67 : decode cX10_could 67 = .ok (.iload_n 2, 1) := by decide +kernel
theorem dX10_could_68 : decode cX10_could 68 = .ok (.invokevirtual 185, 3) := by decide +kernel
theorem dX10_could_71 : decode cX10_could 71 = .ok (.ifCond .eq 26, 3) := by decide +kernel
theorem dX10_could_74 : decode cX10_could 74 = .ok (.iinc 5 1, 3) := by decide +kernel
theorem dX10_could_77 : decode cX10_could 77 = .ok (.iload 6, 2) := by decide +kernel
theorem dX10_could_79 : decode cX10_could 79 = .ok (.bipush (-6), 2) := by decide +kernel
theorem dX10_could_81 : decode cX10_could 81 = .ok (.if_icmp .ne 8, 3) := by decide +kernel
theorem dX10_could_84 : decode cX10_could 84 = .ok (.iload 8, 2) := by decide +kernel
theorem dX10_could_86 : decode cX10_could 86 = .ok (.goto 5, 3) := by decide +kernel
theorem dX10_could_89 : decode cX10_could 89 = .ok (.iload 6, 2) := by decide +kernel
theorem dX10_could_91 : decode cX10_could 91 = .ok (.istore 6, 2) := by decide +kernel
theorem dX10_could_93 : decode cX10_could 93 = .ok (.iload 8, 2) := by decide +kernel
theorem dX10_could_95 : decode cX10_could 95 = .ok (.istore 7, 2) := by decide +kernel
theorem dX10_could_97 : decode cX10_could 97 = .ok (.iinc 8 1, 3) := by decide +kernel
theorem dX10_could_100 : decode cX10_could 100 = .ok (.goto (-44), 3) := by decide +kernel
theorem dX10_could_103 : decode cX10_could 103 = .ok (.iload_n 3, 1) := by decide +kernel
theorem dX10_could_104 : decode cX10_could 104 = .ok (.ifCond .ne 6, 3) := by decide +kernel
theorem dX10_could_107 : decode cX10_could 107 = .ok (.iload 5, 2) := by decide +kernel
theorem dX10_could_109 : decode cX10_could 109 = .ok (.ireturn, 1) := by decide +kernel
theorem dX10_could_110 : decode cX10_could 110 = .ok (.iload_n 3, 1) := by decide +kernel
theorem dX10_could_111 : decode cX10_could 111 = .ok (.iconst 1, 1) := by decide +kernel
theorem dX10_could_112 : decode cX10_could 112 = .ok (.if_icmp .ne 8, 3) := by decide +kernel
theorem dX10_could_115 : decode cX10_could 115 = .ok (.iload 6, 2) := by decide +kernel
theorem dX10_could_117 : decode cX10_could 117 = .ok (.goto 5, 3) := by decide +kernel
theorem dX10_could_120 : decode cX10_could 120 = .ok (.iload 7, 2) := by decide +kernel
theorem dX10_could_122 : decode cX10_could 122 = .ok (.ireturn, 1) := by decide +kernel
set_option maxRecDepth 20000 in
theorem ggX10_seen_X10_isPerson : GoodIn wsX10_seen wsX10_isPerson := goodIn_r _ [5] (by decide +kernel) (by decide +kernel)
set_option maxRecDepth 20000 in
theorem gX10_seen_X10_isPerson : GoodIn wsX10_seen (va_wsS RX10 64 yX10_isPerson wsX10_isPerson) := goodIn_app (goodIn_of _ (by decide +kernel)) ggX10_seen_X10_isPerson
set_option maxRecDepth 20000 in
theorem ggX10_seen_X10_isCar : GoodIn wsX10_seen wsX10_isCar := goodIn_r _ [8] (by decide +kernel) (by decide +kernel)
set_option maxRecDepth 20000 in
theorem gX10_seen_X10_isCar : GoodIn wsX10_seen (va_wsS RX10 122 yX10_isCar wsX10_isCar) := goodIn_app (goodIn_of _ (by decide +kernel)) ggX10_seen_X10_isCar
set_option maxRecDepth 20000 in
theorem ggX10_seen_X6_count : GoodIn wsX10_seen wsX6_count := goodIn_r _ [13, 14, 32, 33, 34] (by decide +kernel) (by decide +kernel)
set_option maxRecDepth 20000 in
theorem gX10_seen_X6_count : GoodIn wsX10_seen (wsV RX10 189 RX6 yX6_count wsX6_count) := goodIn_app (goodIn_of _ (by decide +kernel)) ggX10_seen_X6_count
set_option maxRecDepth 20000 in
theorem ggX10_seen_X6_add : GoodIn wsX10_seen wsX6_add := goodIn_r _ [18, 14, 19, 20, 21, 4, 22, 32, 33, 34] (by decide +kernel) (by decide +kernel)
set_option maxRecDepth 20000 in
theorem gX10_seen_X6_add : GoodIn wsX10_seen (wsV RX10 191 RX6 yX6_add wsX6_add) := goodIn_app (goodIn_of _ (by decide +kernel)) ggX10_seen_X6_add
theorem dX10_seen_0 : decode cX10_seen 0 = .ok (.iload_n 1, 1) := by decide +kernel
theorem dX10_seen_1 : decode cX10_seen 1 = .ok (.invokestatic 64, 3) := by decide +kernel
theorem dX10_seen_4 : decode cX10_seen 4 = .ok (.ifCond .eq 10, 3) := by decide +kernel
theorem dX10_seen_7 : decode cX10_seen 7 = .ok (.iload_n 2, 1) := by decide +kernel
theorem dX10_seen_8 : decode cX10_seen 8 = .ok (.invokestatic 122, 3) := by decide +kernel
theorem dX10_seen_11 : decode cX10_seen 11 = .ok (.ifCond .ne 5, 3) := by decide +kernel
theorem dX10_seen_14 : decode cX10_seen 14 = .ok (.iconst (-1), 1) := by decide +kernel
theorem dX10_seen_15 : decode cX10_seen 15 = .ok (.ireturn, 1) := by decide +kernel
theorem dX10_seen_16 : decode cX10_seen 16 = .ok (.aload_n 0, 1) := by decide +kernel
theorem dX10_seen_17 : decode cX10_seen 17 = .ok (.getfield 29, 3) := by decide +kernel
theorem dX10_seen_20 : decode cX10_seen 20 = .ok (.invokevirtual 189, 3) := by decide +kernel
theorem dX10_seen_23 : decode cX10_seen 23 = .ok (.bipush 6, 2) := by decide +kernel
theorem dX10_seen_25 : decode cX10_seen 25 = .ok (.if_icmp .lt 6, 3) := by decide +kernel
theorem dX10_seen_28 : decode cX10_seen 28 = .ok (.bipush (-4), 2) := by decide +kernel
theorem dX10_seen_30 : decode cX10_seen 30 = .ok (.ireturn, 1) := by decide +kernel
theorem dX10_seen_31 : decode cX10_seen 31 = .ok (.aload_n 0, 1) := by decide +kernel
theorem dX10_seen_32 : decode cX10_seen 32 = .ok (.getfield 29, 3) := by decide +kernel
theorem dX10_seen_35 : decode cX10_seen 35 = .ok (.iload_n 1, 1) := by decide +kernel
theorem dX10_seen_36 : decode cX10_seen 36 = .ok (.iload_n 2, 1) := by decide +kernel
theorem dX10_seen_37 : decode cX10_seen 37 = .ok (.invokevirtual 191, 3) := by decide +kernel
theorem dX10_seen_40 : decode cX10_seen 40 = .ok (.aload_n 0, 1) := by decide +kernel
theorem dX10_seen_41 : decode cX10_seen 41 = .ok (.getfield 29, 3) := by decide +kernel
theorem dX10_seen_44 : decode cX10_seen 44 = .ok (.invokevirtual 189, 3) := by decide +kernel
theorem dX10_seen_47 : decode cX10_seen 47 = .ok (.ireturn, 1) := by decide +kernel
set_option maxRecDepth 20000 in
theorem ggX10_forget_X6_count : GoodIn wsX10_forget wsX6_count := goodIn_r _ [6, 7, 21, 22, 23] (by decide +kernel) (by decide +kernel)
set_option maxRecDepth 20000 in
theorem gX10_forget_X6_count : GoodIn wsX10_forget (wsV RX10 189 RX6 yX6_count wsX6_count) := goodIn_app (goodIn_of _ (by decide +kernel)) ggX10_forget_X6_count
set_option maxRecDepth 20000 in
theorem ggX10_forget_X6_clear : GoodIn wsX10_forget wsX6_clear := goodIn_r _ [11, 7, 21, 22, 23] (by decide +kernel) (by decide +kernel)
set_option maxRecDepth 20000 in
theorem gX10_forget_X6_clear : GoodIn wsX10_forget (wsV RX10 194 RX6 yX6_clear wsX6_clear) := goodIn_app (goodIn_of _ (by decide +kernel)) ggX10_forget_X6_clear
theorem dX10_forget_0 : decode cX10_forget 0 = .ok (.aload_n 0, 1) := by decide +kernel
theorem dX10_forget_1 : decode cX10_forget 1 = .ok (.getfield 29, 3) := by decide +kernel
theorem dX10_forget_4 : decode cX10_forget 4 = .ok (.invokevirtual 189, 3) := by decide +kernel
theorem dX10_forget_7 : decode cX10_forget 7 = .ok (.istore_n 1, 1) := by decide +kernel
theorem dX10_forget_8 : decode cX10_forget 8 = .ok (.aload_n 0, 1) := by decide +kernel
theorem dX10_forget_9 : decode cX10_forget 9 = .ok (.getfield 29, 3) := by decide +kernel
theorem dX10_forget_12 : decode cX10_forget 12 = .ok (.invokevirtual 194, 3) := by decide +kernel
theorem dX10_forget_15 : decode cX10_forget 15 = .ok (.iload_n 1, 1) := by decide +kernel
theorem dX10_forget_16 : decode cX10_forget 16 = .ok (.ireturn, 1) := by decide +kernel
set_option maxRecDepth 20000 in
theorem ggX10_filled_X4_firstFault : GoodIn wsX10_filled wsX4_firstFault := goodIn_r _ [6, 7, 8, 9, 10, 5, 11, 12, 13, 14, 15, 16, 17, 18, 19, 20, 21, 22, 23, 24, 25, 26, 27, 187, 188, 189] (by decide +kernel) (by decide +kernel)
set_option maxRecDepth 20000 in
theorem gX10_filled_X4_firstFault : GoodIn wsX10_filled (wsV RX10 93 RX4 yX4_firstFault wsX4_firstFault) := goodIn_app (goodIn_of _ (by decide +kernel)) ggX10_filled_X4_firstFault
set_option maxRecDepth 20000 in
theorem ggX10_filled_X4_asked : GoodIn wsX10_filled wsX4_asked := goodIn_r _ [31, 32, 187, 188, 189] (by decide +kernel) (by decide +kernel)
set_option maxRecDepth 20000 in
theorem gX10_filled_X4_asked : GoodIn wsX10_filled (wsV RX10 195 RX4 yX4_asked wsX4_asked) := goodIn_app (goodIn_of _ (by decide +kernel)) ggX10_filled_X4_asked
set_option maxRecDepth 20000 in
theorem ggX10_filled_X1_howMany : GoodIn wsX10_filled wsX1_howMany := goodIn_r _ [36] (by decide +kernel) (by decide +kernel)
set_option maxRecDepth 20000 in
theorem gX10_filled_X1_howMany : GoodIn wsX10_filled (va_wsS RX10 198 yX1_howMany wsX1_howMany) := goodIn_app (goodIn_of _ (by decide +kernel)) ggX10_filled_X1_howMany
set_option maxRecDepth 20000 in
theorem ggX10_filled_X10_holds : GoodIn wsX10_filled wsX10_holds := goodIn_r _ [40, 41, 42, 1, 43, 44, 45, 46, 47, 48, 49, 50, 51, 52, 53, 54, 55, 56, 57, 58, 59, 60, 61, 62, 63, 64, 65, 66, 67, 14, 68, 69, 70, 71, 72, 73, 74, 75, 76, 77, 29, 30, 5, 31, 32, 78, 79, 80, 81, 7, 82, 9, 10, 11, 12, 13, 15, 83, 84, 85, 86, 87, 88, 89, 90, 91, 92, 93, 94, 95, 96, 97, 98, 99, 100, 101, 102, 103, 104, 105, 106, 107, 108, 26, 27, 109, 110, 23, 24, 111, 112, 113, 114, 115, 116, 117, 118, 119, 120, 121, 122, 123, 124, 125, 126, 127, 128, 129, 20, 21, 130, 131, 132, 133, 134, 135, 136, 137, 138, 139, 140, 141, 142, 143, 35, 144, 145, 146, 147, 148, 149, 150, 151, 152, 153, 154, 155, 156, 157, 158, 159, 160, 161, 162, 163, 164, 165, 166, 167, 168, 169, 170, 171, 172, 173, 174, 175, 176, 178, 179, 180, 181, 182, 183, 184, 185, 186, 190, 191, 192, 193, 194, 195, 196, 197, 198, 199, 200, 201, 202, 187, 188, 189, 203, 204, 205] (by decide +kernel) (by decide +kernel)
set_option maxRecDepth 20000 in
theorem gX10_filled_X10_holds : GoodIn wsX10_filled (wsV RX10 203 RX10 yX10_holds wsX10_holds) := goodIn_app (goodIn_of _ (by decide +kernel)) ggX10_filled_X10_holds
set_option maxRecDepth 20000 in
theorem ggX10_filled_X1_personAt : GoodIn wsX10_filled wsX1_personAt := goodIn_r _ [144] (by decide +kernel) (by decide +kernel)
set_option maxRecDepth 20000 in
theorem gX10_filled_X1_personAt : GoodIn wsX10_filled (va_wsS RX10 206 yX1_personAt wsX1_personAt) := goodIn_app (goodIn_of _ (by decide +kernel)) ggX10_filled_X1_personAt
theorem dX10_filled_0 : decode cX10_filled 0 = .ok (.aload_n 0, 1) := by decide +kernel
theorem dX10_filled_1 : decode cX10_filled 1 = .ok (.getfield 22, 3) := by decide +kernel
theorem dX10_filled_4 : decode cX10_filled 4 = .ok (.invokevirtual 93, 3) := by decide +kernel
theorem dX10_filled_7 : decode cX10_filled 7 = .ok (.bipush (-6), 2) := by decide +kernel
theorem dX10_filled_9 : decode cX10_filled 9 = .ok (.if_icmp .eq 6, 3) := by decide +kernel
theorem dX10_filled_12 : decode cX10_filled 12 = .ok (.bipush (-5), 2) := by decide +kernel
theorem dX10_filled_14 : decode cX10_filled 14 = .ok (.ireturn, 1) := by decide +kernel
theorem dX10_filled_15 : decode cX10_filled 15 = .ok (.aload_n 0, 1) := by decide +kernel
theorem dX10_filled_16 : decode cX10_filled 16 = .ok (.getfield 22, 3) := by decide +kernel
theorem dX10_filled_19 : decode cX10_filled 19 = .ok (.invokevirtual 195, 3) := by decide +kernel
theorem dX10_filled_22 : decode cX10_filled 22 = .ok (.istore_n 2, 1) := by decide +kernel
theorem dX10_filled_23 : decode cX10_filled 23 = .ok (.iload_n 2, 1) := by decide +kernel
theorem dX10_filled_24 : decode cX10_filled 24 = .ok (.invokestatic 198, 3) := by decide +kernel
theorem dX10_filled_27 : decode cX10_filled 27 = .ok (.istore_n 3, 1) := by decide +kernel
theorem dX10_filled_28 : decode cX10_filled 28 = .ok (.iconst 0, 1) := by decide +kernel
theorem dX10_filled_29 : decode cX10_filled 29 = .ok (.istore 4, 2) := by decide +kernel
theorem dX10_filled_31 : decode cX10_filled 31 = .ok (.bipush (-6), 2) := by decide +kernel
theorem dX10_filled_33 : decode cX10_filled 33 = .ok (.istore 5, 2) := by decide +kernel
theorem dX10_filled_35 : decode cX10_filled 35 = .ok (.iconst 0, 1) := by decide +kernel
theorem dX10_filled_36 : decode cX10_filled 36 = .ok (.istore 6, 2) := by decide +kernel
theorem dX10_filled_38 : decode cX10_filled 38 = .ok (.iload 6, 2) := by decide +kernel
theorem dX10_filled_40 : decode cX10_filled 40 = .ok (.iload_n 3, 1) := by decide +kernel
theorem dX10_filled_41 : decode cX10_filled 41 = .ok (.if_icmp .ge 37, 3) := by decide +kernel
theorem dX10_filled_44 : decode cX10_filled 44 = .ok (.aload_n 0, 1) := by decide +kernel
theorem dX10_filled_45 : decode cX10_filled 45 = .ok (.iload 6, 2) := by decide +kernel
theorem dX10_filled_47 : decode cX10_filled 47 = .ok (.invokevirtual 203, 3) := by decide +kernel
theorem dX10_filled_50 : decode cX10_filled 50 = .ok (.ifCond .eq 22, 3) := by decide +kernel
theorem dX10_filled_53 : decode cX10_filled 53 = .ok (.iinc 4 1, 3) := by decide +kernel
theorem dX10_filled_56 : decode cX10_filled 56 = .ok (.iload 5, 2) := by decide +kernel
theorem dX10_filled_58 : decode cX10_filled 58 = .ok (.bipush (-6), 2) := by decide +kernel
theorem dX10_filled_60 : decode cX10_filled 60 = .ok (.if_icmp .ne 8, 3) := by decide +kernel
theorem dX10_filled_63 : decode cX10_filled 63 = .ok (.iload 6, 2) := by decide +kernel
theorem dX10_filled_65 : decode cX10_filled 65 = .ok (.goto 5, 3) := by decide +kernel
theorem dX10_filled_68 : decode cX10_filled 68 = .ok (.iload 5, 2) := by decide +kernel
theorem dX10_filled_70 : decode cX10_filled 70 = .ok (.istore 5, 2) := by decide +kernel
theorem dX10_filled_72 : decode cX10_filled 72 = .ok (.iinc 6 1, 3) := by decide +kernel
theorem dX10_filled_75 : decode cX10_filled 75 = .ok (.goto (-37), 3) := by decide +kernel
theorem dX10_filled_78 : decode cX10_filled 78 = .ok (.iload_n 1, 1) := by decide +kernel
theorem dX10_filled_79 : decode cX10_filled 79 = .ok (.iconst (-1), 1) := by decide +kernel
theorem dX10_filled_80 : decode cX10_filled 80 = .ok (.if_icmp .ne 6, 3) := by decide +kernel
theorem dX10_filled_83 : decode cX10_filled 83 = .ok (.iload 4, 2) := by decide +kernel
theorem dX10_filled_85 : decode cX10_filled 85 = .ok (.ireturn, 1) := by decide +kernel
theorem dX10_filled_86 : decode cX10_filled 86 = .ok (.iload 4, 2) := by decide +kernel
theorem dX10_filled_88 : decode cX10_filled 88 = .ok (.ifCond .eq 12, 3) := by decide +kernel
theorem dX10_filled_91 : decode cX10_filled 91 = .ok (.iload_n 1, 1) := by decide +kernel
theorem dX10_filled_92 : decode cX10_filled 92 = .ok (.ifCond .lt 8, 3) := by decide +kernel
theorem dX10_filled_95 : decode cX10_filled 95 = .ok (.iload_n 1, 1) := by decide +kernel
theorem dX10_filled_96 : decode cX10_filled 96 = .ok (.iload_n 2, 1) := by decide +kernel
theorem dX10_filled_97 : decode cX10_filled 97 = .ok (.if_icmp .lt 7, 3) := by decide +kernel
theorem dX10_filled_100 : decode cX10_filled 100 = .ok (.iconst 1, 1) := by decide +kernel
theorem dX10_filled_101 : decode cX10_filled 101 = .ok (.goto 4, 3) := by decide +kernel
theorem dX10_filled_104 : decode cX10_filled 104 = .ok (.iconst 0, 1) := by decide +kernel
theorem dX10_filled_105 : decode cX10_filled 105 = .ok (.istore 6, 2) := by decide +kernel
theorem dX10_filled_107 : decode cX10_filled 107 = .ok (.iload 6, 2) := by decide +kernel
theorem dX10_filled_109 : decode cX10_filled 109 = .ok (.ifCond .eq 8, 3) := by decide +kernel
theorem dX10_filled_112 : decode cX10_filled 112 = .ok (.bipush (-6), 2) := by decide +kernel
theorem dX10_filled_114 : decode cX10_filled 114 = .ok (.goto 10, 3) := by decide +kernel
theorem dX10_filled_117 : decode cX10_filled 117 = .ok (.iload 5, 2) := by decide +kernel
theorem dX10_filled_119 : decode cX10_filled 119 = .ok (.iload_n 1, 1) := by decide +kernel
theorem dX10_filled_120 : decode cX10_filled 120 = .ok (.iload_n 2, 1) := by decide +kernel
theorem dX10_filled_121 : decode cX10_filled 121 = .ok (.invokestatic 206, 3) := by decide +kernel
theorem dX10_filled_124 : decode cX10_filled 124 = .ok (.ireturn, 1) := by decide +kernel
set_option maxRecDepth 20000 in
theorem ggX10_chance_X10_isPerson : GoodIn wsX10_chance wsX10_isPerson := goodIn_r _ [8] (by decide +kernel) (by decide +kernel)
set_option maxRecDepth 20000 in
theorem gX10_chance_X10_isPerson : GoodIn wsX10_chance (va_wsS RX10 64 yX10_isPerson wsX10_isPerson) := goodIn_app (goodIn_of _ (by decide +kernel)) ggX10_chance_X10_isPerson
set_option maxRecDepth 20000 in
theorem ggX10_chance_X9_copyFrom : GoodIn wsX10_chance wsX9_copyFrom := goodIn_r _ [13, 14, 15, 16, 17, 18, 19, 20, 7, 21, 22, 23, 24, 25, 26, 27, 28, 29, 109, 110, 111, 112, 113, 114] (by decide +kernel) (by decide +kernel)
set_option maxRecDepth 20000 in
theorem gX10_chance_X9_copyFrom : GoodIn wsX10_chance (wsV RX10 115 RX9 yX9_copyFrom wsX9_copyFrom) := goodIn_app (goodIn_of _ (by decide +kernel)) ggX10_chance_X9_copyFrom
set_option maxRecDepth 20000 in
theorem ggX10_chance_X0_shares : GoodIn wsX10_chance wsX0_shares := goodIn_r _ [33, 34, 35, 32, 36, 37, 38, 39, 40, 12, 41, 15, 18, 42, 7, 43, 44, 45, 46, 47, 48, 49, 50, 51, 52, 53, 54, 16, 55, 56, 57, 58, 59, 60, 61, 62, 63, 64, 65, 66, 67, 68, 69, 70, 71, 72, 73, 74, 75, 76, 77, 78, 79, 17, 14, 80, 81, 82, 83, 84, 85, 86, 87, 88, 19, 89, 90, 91, 92, 93, 109, 110, 111, 112, 113, 114] (by decide +kernel) (by decide +kernel)
set_option maxRecDepth 20000 in
theorem gX10_chance_X0_shares : GoodIn wsX10_chance (va_wsS RX10 214 yX0_shares wsX0_shares) := goodIn_app (goodIn_of _ (by decide +kernel)) ggX10_chance_X0_shares
set_option maxRecDepth 20000 in
theorem ggX10_chance_X0_allShares : GoodIn wsX10_chance wsX0_allShares := goodIn_r _ [96, 37] (by decide +kernel) (by decide +kernel)
set_option maxRecDepth 20000 in
theorem gX10_chance_X0_allShares : GoodIn wsX10_chance (va_wsS RX10 220 yX0_allShares wsX0_allShares) := goodIn_app (goodIn_of _ (by decide +kernel)) ggX10_chance_X0_allShares
set_option maxRecDepth 20000 in
theorem ggX10_chance_X10_greatestDivisor : GoodIn wsX10_chance wsX10_greatestDivisor := goodIn_r _ [99] (by decide +kernel) (by decide +kernel)
set_option maxRecDepth 20000 in
theorem gX10_chance_X10_greatestDivisor : GoodIn wsX10_chance (va_wsS RX10 224 yX10_greatestDivisor wsX10_greatestDivisor) := goodIn_app (goodIn_of _ (by decide +kernel)) ggX10_chance_X10_greatestDivisor
theorem dX10_chance_0 : decode cX10_chance 0 = .ok (.iload_n 1, 1) := by decide +kernel
theorem dX10_chance_1 : decode cX10_chance 1 = .ok (.invokestatic 64, 3) := by decide +kernel
theorem dX10_chance_4 : decode cX10_chance 4 = .ok (.ifCond .ne 7, 3) := by decide +kernel
theorem dX10_chance_7 : decode cX10_chance 7 = .ok (.ldc2_w 210, 3) := by decide +kernel
theorem dX10_chance_10 : decode cX10_chance 10 = .ok (.lreturn, 1) := by decide +kernel
theorem dX10_chance_11 : decode cX10_chance 11 = .ok (.iload_n 2, 1) := by decide +kernel
theorem dX10_chance_12 : decode cX10_chance 12 = .ok (.ifCond .lt 17, 3) := by decide +kernel
theorem dX10_chance_15 : decode cX10_chance 15 = .ok (.iload_n 2, 1) := by decide +kernel
theorem dX10_chance_16 : decode cX10_chance 16 = .ok (.iconst 3, 1) := by decide +kernel
theorem dX10_chance_17 : decode cX10_chance 17 = .ok (.if_icmp .gt 12, 3) := by decide +kernel
theorem dX10_chance_20 : decode cX10_chance 20 = .ok (.iload_n 3, 1) := by decide +kernel
theorem dX10_chance_21 : decode cX10_chance 21 = .ok (.ifCond .lt 8, 3) := by decide +kernel
theorem dX10_chance_24 : decode cX10_chance 24 = .ok (.iload_n 3, 1) := by decide +kernel
theorem dX10_chance_25 : decode cX10_chance 25 = .ok (.iconst 1, 1) := by decide +kernel
theorem dX10_chance_26 : decode cX10_chance 26 = .ok (.if_icmp .le 7, 3) := by decide +kernel
theorem dX10_chance_29 : decode cX10_chance 29 = .ok (.ldc2_w 212, 3) := by decide +kernel
theorem dX10_chance_32 : decode cX10_chance 32 = .ok (.lreturn, 1) := by decide +kernel
theorem dX10_chance_33 : decode cX10_chance 33 = .ok (.aload_n 0, 1) := by decide +kernel
theorem dX10_chance_34 : decode cX10_chance 34 = .ok (.getfield 16, 3) := by decide +kernel
theorem dX10_chance_37 : decode cX10_chance 37 = .ok (.aload_n 0, 1) := by decide +kernel
theorem dX10_chance_38 : decode cX10_chance 38 = .ok (.getfield 10, 3) := by decide +kernel
theorem dX10_chance_41 : decode cX10_chance 41 = .ok (.invokevirtual 115, 3) := by decide +kernel
theorem dX10_chance_44 : decode cX10_chance 44 = .ok (.aload_n 0, 1) := by decide +kernel
theorem dX10_chance_45 : decode cX10_chance 45 = .ok (.getfield 16, 3) := by decide +kernel
theorem dX10_chance_48 : decode cX10_chance 48 = .ok (.iload_n 1, 1) := by decide +kernel
theorem dX10_chance_49 : decode cX10_chance 49 = .ok (.iload_n 2, 1) := by decide +kernel
theorem dX10_chance_50 : decode cX10_chance 50 = .ok (.invokestatic 214, 3) := by decide +kernel
theorem dX10_chance_53 : decode cX10_chance 53 = .ok (.lstore 4, 2) := by decide +kernel
theorem dX10_chance_55 : decode cX10_chance 55 = .ok (.iload_n 2, 1) := by decide +kernel
theorem dX10_chance_56 : decode cX10_chance 56 = .ok (.invokestatic 220, 3) := by decide +kernel
theorem dX10_chance_59 : decode cX10_chance 59 = .ok (.lstore 6, 2) := by decide +kernel
theorem dX10_chance_61 : decode cX10_chance 61 = .ok (.lload 4, 2) := by decide +kernel
theorem dX10_chance_63 : decode cX10_chance 63 = .ok (.lload 6, 2) := by decide +kernel
theorem dX10_chance_65 : decode cX10_chance 65 = .ok (.invokestatic 224, 3) := by decide +kernel
theorem dX10_chance_68 : decode cX10_chance 68 = .ok (.lstore 8, 2) := by decide +kernel
theorem dX10_chance_70 : decode cX10_chance 70 = .ok (.lload 8, 2) := by decide +kernel
theorem dX10_chance_72 : decode cX10_chance 72 = .ok (.lconst 0, 1) := by decide +kernel
theorem dX10_chance_73 : decode cX10_chance 73 = .ok (.lcmp, 1) := by decide +kernel
theorem dX10_chance_74 : decode cX10_chance 74 = .ok (.ifCond .gt 6, 3) := by decide +kernel
theorem dX10_chance_77 : decode cX10_chance 77 = .ok (.iload_n 3, 1) := by decide +kernel
theorem dX10_chance_78 : decode cX10_chance 78 = .ok (.i2l, 1) := by decide +kernel
theorem dX10_chance_79 : decode cX10_chance 79 = .ok (.lreturn, 1) := by decide +kernel
theorem dX10_chance_80 : decode cX10_chance 80 = .ok (.iload_n 3, 1) := by decide +kernel
theorem dX10_chance_81 : decode cX10_chance 81 = .ok (.ifCond .ne 11, 3) := by decide +kernel
theorem dX10_chance_84 : decode cX10_chance 84 = .ok (.lload 4, 2) := by decide +kernel
theorem dX10_chance_86 : decode cX10_chance 86 = .ok (.lload 8, 2) := by decide +kernel
theorem dX10_chance_88 : decode cX10_chance 88 = .ok (.ldiv, 1) := by decide +kernel
theorem dX10_chance_89 : decode cX10_chance 89 = .ok (.goto 8, 3) := by decide +kernel
theorem dX10_chance_92 : decode cX10_chance 92 = .ok (.lload 6, 2) := by decide +kernel
theorem dX10_chance_94 : decode cX10_chance 94 = .ok (.lload 8, 2) := by decide +kernel
theorem dX10_chance_96 : decode cX10_chance 96 = .ok (.ldiv, 1) := by decide +kernel
theorem dX10_chance_97 : decode cX10_chance 97 = .ok (.lreturn, 1) := by decide +kernel
set_option maxRecDepth 20000 in
theorem ggX10_year_X10_isCar : GoodIn wsX10_year wsX10_isCar := goodIn_r _ [6] (by decide +kernel) (by decide +kernel)
set_option maxRecDepth 20000 in
theorem gX10_year_X10_isCar : GoodIn wsX10_year (va_wsS RX10 122 yX10_isCar wsX10_isCar) := goodIn_app (goodIn_of _ (by decide +kernel)) ggX10_year_X10_isCar
set_option maxRecDepth 20000 in
theorem ggX10_year_X8_take : GoodIn wsX10_year wsX8_take := goodIn_r _ [11, 12, 13, 14, 15, 16, 17, 18, 19, 20, 21, 22, 23, 24, 25, 26, 27, 28, 29, 30, 31, 5, 32, 33, 34, 35, 36, 37, 38, 39, 40, 41, 42, 43, 44, 45, 46, 47, 48, 49, 50, 10, 51, 52, 53, 54, 55, 56, 57, 58, 59, 60, 61, 62, 63, 64, 65, 66, 67, 68, 69, 70, 71, 72, 73, 74, 75, 76, 77, 78, 79, 80, 81, 82, 83, 84, 85, 86, 87, 88, 89, 90, 91, 92, 93, 94, 112, 113, 114, 115, 116, 117, 118, 119, 120] (by decide +kernel) (by decide +kernel)
set_option maxRecDepth 20000 in
theorem gX10_year_X8_take : GoodIn wsX10_year (wsV RX10 228 RX8 yX8_take wsX8_take) := goodIn_app (goodIn_of _ (by decide +kernel)) ggX10_year_X8_take
set_option maxRecDepth 20000 in
theorem ggX10_year_X8_turned : GoodIn wsX10_year wsX8_turned := goodIn_r _ [98, 13, 112, 113, 114] (by decide +kernel) (by decide +kernel)
set_option maxRecDepth 20000 in
theorem gX10_year_X8_turned : GoodIn wsX10_year (wsV RX10 232 RX8 yX8_turned wsX8_turned) := goodIn_app (goodIn_of _ (by decide +kernel)) ggX10_year_X8_turned
set_option maxRecDepth 20000 in
theorem ggX10_year_X8_timesLowest : GoodIn wsX10_year wsX8_timesLowest := goodIn_r _ [102, 14, 60, 5, 61, 112, 113, 114] (by decide +kernel) (by decide +kernel)
set_option maxRecDepth 20000 in
theorem gX10_year_X8_timesLowest : GoodIn wsX10_year (wsV RX10 233 RX8 yX8_timesLowest wsX8_timesLowest) := goodIn_app (goodIn_of _ (by decide +kernel)) ggX10_year_X8_timesLowest
theorem dX10_year_0 : decode cX10_year 0 = .ok (.iload_n 3, 1) := by decide +kernel
theorem dX10_year_1 : decode cX10_year 1 = .ok (.iconst (-1), 1) := by decide +kernel
theorem dX10_year_2 : decode cX10_year 2 = .ok (.if_icmp .eq 12, 3) := by decide +kernel
theorem dX10_year_5 : decode cX10_year 5 = .ok (.iload_n 3, 1) := by decide +kernel
theorem dX10_year_6 : decode cX10_year 6 = .ok (.invokestatic 122, 3) := by decide +kernel
theorem dX10_year_9 : decode cX10_year 9 = .ok (.ifCond .ne 5, 3) := by decide +kernel
theorem dX10_year_12 : decode cX10_year 12 = .ok (.iconst (-1), 1) := by decide +kernel
theorem dX10_year_13 : decode cX10_year 13 = .ok (.ireturn, 1) := by decide +kernel
theorem dX10_year_14 : decode cX10_year 14 = .ok (.iload_n 1, 1) := by decide +kernel
theorem dX10_year_15 : decode cX10_year 15 = .ok (.ifCond .lt 21, 3) := by decide +kernel
theorem dX10_year_18 : decode cX10_year 18 = .ok (.iload_n 1, 1) := by decide +kernel
theorem dX10_year_19 : decode cX10_year 19 = .ok (.sipush 9999, 3) := by decide +kernel
theorem dX10_year_22 : decode cX10_year 22 = .ok (.if_icmp .gt 14, 3) := by decide +kernel
theorem dX10_year_25 : decode cX10_year 25 = .ok (.iload_n 2, 1) := by decide +kernel
theorem dX10_year_26 : decode cX10_year 26 = .ok (.iconst 1, 1) := by decide +kernel
theorem dX10_year_27 : decode cX10_year 27 = .ok (.if_icmp .lt 9, 3) := by decide +kernel
theorem dX10_year_30 : decode cX10_year 30 = .ok (.iload_n 2, 1) := by decide +kernel
theorem dX10_year_31 : decode cX10_year 31 = .ok (.bipush 99, 2) := by decide +kernel
theorem dX10_year_33 : decode cX10_year 33 = .ok (.if_icmp .le 6, 3) := by decide +kernel
theorem dX10_year_36 : decode cX10_year 36 = .ok (.bipush (-2), 2) := by decide +kernel
theorem dX10_year_38 : decode cX10_year 38 = .ok (.ireturn, 1) := by decide +kernel
theorem dX10_year_39 : decode cX10_year 39 = .ok (.aload_n 0, 1) := by decide +kernel
theorem dX10_year_40 : decode cX10_year 40 = .ok (.getfield 50, 3) := by decide +kernel
theorem dX10_year_43 : decode cX10_year 43 = .ok (.aload_n 0, 1) := by decide +kernel
theorem dX10_year_44 : decode cX10_year 44 = .ok (.getfield 10, 3) := by decide +kernel
theorem dX10_year_47 : decode cX10_year 47 = .ok (.iload_n 1, 1) := by decide +kernel
theorem dX10_year_48 : decode cX10_year 48 = .ok (.iload_n 2, 1) := by decide +kernel
theorem dX10_year_49 : decode cX10_year 49 = .ok (.invokevirtual 228, 3) := by decide +kernel
theorem dX10_year_52 : decode cX10_year 52 = .ok (.iload_n 3, 1) := by decide +kernel
theorem dX10_year_53 : decode cX10_year 53 = .ok (.iconst (-1), 1) := by decide +kernel
theorem dX10_year_54 : decode cX10_year 54 = .ok (.if_icmp .ne 13, 3) := by decide +kernel
theorem dX10_year_57 : decode cX10_year 57 = .ok (.aload_n 0, 1) := by decide +kernel
theorem dX10_year_58 : decode cX10_year 58 = .ok (.getfield 50, 3) := by decide +kernel
theorem dX10_year_61 : decode cX10_year 61 = .ok (.invokevirtual 232, 3) := by decide +kernel
theorem dX10_year_64 : decode cX10_year 64 = .ok (.goto 11, 3) := by decide +kernel
theorem dX10_year_67 : decode cX10_year 67 = .ok (.aload_n 0, 1) := by decide +kernel
theorem dX10_year_68 : decode cX10_year 68 = .ok (.getfield 50, 3) := by decide +kernel
theorem dX10_year_71 : decode cX10_year 71 = .ok (.iload_n 3, 1) := by decide +kernel
theorem dX10_year_72 : decode cX10_year 72 = .ok (.invokevirtual 233, 3) := by decide +kernel
theorem dX10_year_75 : decode cX10_year 75 = .ok (.ireturn, 1) := by decide +kernel
set_option maxRecDepth 20000 in
theorem ggX10_image_X10_imageOf : GoodIn wsX10_image wsX10_imageOf := goodIn_r _ [7, 8, 9, 47, 48, 49, 50, 51, 52, 53, 54, 55] (by decide +kernel) (by decide +kernel)
set_option maxRecDepth 20000 in
theorem gX10_image_X10_imageOf : GoodIn wsX10_image (wsV RX10 236 RX10 yX10_imageOf wsX10_imageOf) := goodIn_app (goodIn_of _ (by decide +kernel)) ggX10_image_X10_imageOf
set_option maxRecDepth 20000 in
theorem ggX10_image_X2_keep : GoodIn wsX10_image wsX2_keep := goodIn_r _ [14, 15, 16, 17, 18, 19, 20, 21, 22, 23, 24, 25, 26, 27, 28, 29, 6, 30, 31, 32, 33, 34, 35, 36, 37, 38, 39, 40, 41, 42, 43, 44, 45, 46, 56, 57, 58, 59, 60, 61, 62, 63, 64, 65, 66, 67] (by decide +kernel) (by decide +kernel)
set_option maxRecDepth 20000 in
theorem gX10_image_X2_keep : GoodIn wsX10_image (wsV RX10 240 RX2 yX2_keep wsX2_keep) := goodIn_app (goodIn_of _ (by decide +kernel)) ggX10_image_X2_keep
theorem dX10_image_0 : decode cX10_image 0 = .ok (.iload_n 1, 1) := by decide +kernel
theorem dX10_image_1 : decode cX10_image 1 = .ok (.ifCond .lt 8, 3) := by decide +kernel
theorem dX10_image_4 : decode cX10_image 4 = .ok (.iload_n 1, 1) := by decide +kernel
theorem dX10_image_5 : decode cX10_image 5 = .ok (.iconst 1, 1) := by decide +kernel
theorem dX10_image_6 : decode cX10_image 6 = .ok (.if_icmp .le 6, 3) := by decide +kernel
theorem dX10_image_9 : decode cX10_image 9 = .ok (.bipush (-2), 2) := by decide +kernel
theorem dX10_image_11 : decode cX10_image 11 = .ok (.ireturn, 1) := by decide +kernel
theorem dX10_image_12 : decode cX10_image 12 = .ok (.aload_n 0, 1) := by decide +kernel
theorem dX10_image_13 : decode cX10_image 13 = .ok (.iload_n 1, 1) := by decide +kernel
theorem dX10_image_14 : decode cX10_image 14 = .ok (.invokevirtual 236, 3) := by decide +kernel
theorem dX10_image_17 : decode cX10_image 17 = .ok (.aload_n 0, 1) := by decide +kernel
theorem dX10_image_18 : decode cX10_image 18 = .ok (.getfield 10, 3) := by decide +kernel
theorem dX10_image_21 : decode cX10_image 21 = .ok (.aload_n 0, 1) := by decide +kernel
theorem dX10_image_22 : decode cX10_image 22 = .ok (.getfield 29, 3) := by decide +kernel
theorem dX10_image_25 : decode cX10_image 25 = .ok (.invokevirtual 240, 3) := by decide +kernel
theorem dX10_image_28 : decode cX10_image 28 = .ok (.iconst 1, 1) := by decide +kernel
theorem dX10_image_29 : decode cX10_image 29 = .ok (.ireturn, 1) := by decide +kernel
set_option maxRecDepth 20000 in
theorem ggX10_restore_X10_imageOf : GoodIn wsX10_restore wsX10_imageOf := goodIn_r _ [7, 8, 9, 51, 52, 53, 54, 55, 56, 57, 58, 59] (by decide +kernel) (by decide +kernel)
set_option maxRecDepth 20000 in
theorem gX10_restore_X10_imageOf : GoodIn wsX10_restore (wsV RX10 236 RX10 yX10_imageOf wsX10_imageOf) := goodIn_app (goodIn_of _ (by decide +kernel)) ggX10_restore_X10_imageOf
set_option maxRecDepth 20000 in
theorem ggX10_restore_X2_isKept : GoodIn wsX10_restore wsX2_isKept := goodIn_r _ [14, 15, 60, 61, 62] (by decide +kernel) (by decide +kernel)
set_option maxRecDepth 20000 in
theorem gX10_restore_X2_isKept : GoodIn wsX10_restore (wsV RX10 244 RX2 yX2_isKept wsX2_isKept) := goodIn_app (goodIn_of _ (by decide +kernel)) ggX10_restore_X2_isKept
set_option maxRecDepth 20000 in
theorem ggX10_restore_X2_giveBack : GoodIn wsX10_restore wsX2_giveBack := goodIn_r _ [19, 20, 21, 22, 23, 24, 25, 26, 27, 28, 29, 30, 31, 32, 33, 6, 34, 35, 36, 37, 38, 39, 40, 41, 42, 43, 44, 45, 46, 47, 48, 49, 50, 60, 61, 62, 63, 64, 65, 66, 67, 68, 69, 70, 71] (by decide +kernel) (by decide +kernel)
set_option maxRecDepth 20000 in
theorem gX10_restore_X2_giveBack : GoodIn wsX10_restore (wsV RX10 248 RX2 yX2_giveBack wsX2_giveBack) := goodIn_app (goodIn_of _ (by decide +kernel)) ggX10_restore_X2_giveBack
theorem dX10_restore_0 : decode cX10_restore 0 = .ok (.iload_n 1, 1) := by decide +kernel
theorem dX10_restore_1 : decode cX10_restore 1 = .ok (.ifCond .lt 8, 3) := by decide +kernel
theorem dX10_restore_4 : decode cX10_restore 4 = .ok (.iload_n 1, 1) := by decide +kernel
theorem dX10_restore_5 : decode cX10_restore 5 = .ok (.iconst 1, 1) := by decide +kernel
theorem dX10_restore_6 : decode cX10_restore 6 = .ok (.if_icmp .le 6, 3) := by decide +kernel
theorem dX10_restore_9 : decode cX10_restore 9 = .ok (.bipush (-2), 2) := by decide +kernel
theorem dX10_restore_11 : decode cX10_restore 11 = .ok (.ireturn, 1) := by decide +kernel
theorem dX10_restore_12 : decode cX10_restore 12 = .ok (.aload_n 0, 1) := by decide +kernel
theorem dX10_restore_13 : decode cX10_restore 13 = .ok (.iload_n 1, 1) := by decide +kernel
theorem dX10_restore_14 : decode cX10_restore 14 = .ok (.invokevirtual 236, 3) := by decide +kernel
theorem dX10_restore_17 : decode cX10_restore 17 = .ok (.astore_n 2, 1) := by decide +kernel
theorem dX10_restore_18 : decode cX10_restore 18 = .ok (.aload_n 2, 1) := by decide +kernel
theorem dX10_restore_19 : decode cX10_restore 19 = .ok (.invokevirtual 244, 3) := by decide +kernel
theorem dX10_restore_22 : decode cX10_restore 22 = .ok (.ifCond .ne 6, 3) := by decide +kernel
theorem dX10_restore_25 : decode cX10_restore 25 = .ok (.bipush (-3), 2) := by decide +kernel
theorem dX10_restore_27 : decode cX10_restore 27 = .ok (.ireturn, 1) := by decide +kernel
theorem dX10_restore_28 : decode cX10_restore 28 = .ok (.aload_n 2, 1) := by decide +kernel
theorem dX10_restore_29 : decode cX10_restore 29 = .ok (.aload_n 0, 1) := by decide +kernel
theorem dX10_restore_30 : decode cX10_restore 30 = .ok (.getfield 10, 3) := by decide +kernel
theorem dX10_restore_33 : decode cX10_restore 33 = .ok (.aload_n 0, 1) := by decide +kernel
theorem dX10_restore_34 : decode cX10_restore 34 = .ok (.getfield 29, 3) := by decide +kernel
theorem dX10_restore_37 : decode cX10_restore 37 = .ok (.invokevirtual 248, 3) := by decide +kernel
theorem dX10_restore_40 : decode cX10_restore 40 = .ok (.iconst 1, 1) := by decide +kernel
theorem dX10_restore_41 : decode cX10_restore 41 = .ok (.ireturn, 1) := by decide +kernel
set_option maxRecDepth 20000 in
theorem ggX10_told_X9_weightOf : GoodIn wsX10_told wsX9_weightOf := goodIn_r _ [8, 9, 10, 11, 12, 49, 50, 51, 52, 53, 54] (by decide +kernel) (by decide +kernel)
set_option maxRecDepth 20000 in
theorem gX10_told_X9_weightOf : GoodIn wsX10_told (wsV RX10 68 RX9 yX9_weightOf wsX9_weightOf) := goodIn_app (goodIn_of _ (by decide +kernel)) ggX10_told_X9_weightOf
set_option maxRecDepth 20000 in
theorem ggX10_told_X9_carOf : GoodIn wsX10_told wsX9_carOf := goodIn_r _ [16, 17, 10, 11, 12, 49, 50, 51, 52, 53, 54] (by decide +kernel) (by decide +kernel)
set_option maxRecDepth 20000 in
theorem gX10_told_X9_carOf : GoodIn wsX10_told (wsV RX10 251 RX9 yX9_carOf wsX9_carOf) := goodIn_app (goodIn_of _ (by decide +kernel)) ggX10_told_X9_carOf
set_option maxRecDepth 20000 in
theorem ggX10_told_X4_length : GoodIn wsX10_told wsX4_length := goodIn_r _ [22, 23, 55, 56, 57] (by decide +kernel) (by decide +kernel)
set_option maxRecDepth 20000 in
theorem gX10_told_X4_length : GoodIn wsX10_told (wsV RX10 84 RX4 yX4_length wsX4_length) := goodIn_app (goodIn_of _ (by decide +kernel)) ggX10_told_X4_length
set_option maxRecDepth 20000 in
theorem ggX10_told_X9_friction : GoodIn wsX10_told wsX9_friction := goodIn_r _ [27, 28, 49, 50, 51, 52, 53, 54] (by decide +kernel) (by decide +kernel)
set_option maxRecDepth 20000 in
theorem gX10_told_X9_friction : GoodIn wsX10_told (wsV RX10 76 RX9 yX9_friction wsX9_friction) := goodIn_app (goodIn_of _ (by decide +kernel)) ggX10_told_X9_friction
set_option maxRecDepth 20000 in
theorem ggX10_told_X6_count : GoodIn wsX10_told wsX6_count := goodIn_r _ [33, 34, 58, 59, 60] (by decide +kernel) (by decide +kernel)
set_option maxRecDepth 20000 in
theorem gX10_told_X6_count : GoodIn wsX10_told (wsV RX10 189 RX6 yX6_count wsX6_count) := goodIn_app (goodIn_of _ (by decide +kernel)) ggX10_told_X6_count
set_option maxRecDepth 20000 in
theorem ggX10_told_X9_takenCars : GoodIn wsX10_told wsX9_takenCars := goodIn_r _ [38, 39, 10, 11, 12, 49, 50, 51, 52, 53, 54] (by decide +kernel) (by decide +kernel)
set_option maxRecDepth 20000 in
theorem gX10_told_X9_takenCars : GoodIn wsX10_told (wsV RX10 254 RX9 yX9_takenCars wsX9_takenCars) := goodIn_app (goodIn_of _ (by decide +kernel)) ggX10_told_X9_takenCars
theorem dX10_told_0 : decode cX10_told 0 = .ok (.iload_n 1, 1) := by decide +kernel
theorem dX10_told_1 : decode cX10_told 1 = .ok (.bipush 10, 2) := by decide +kernel
theorem dX10_told_3 : decode cX10_told 3 = .ok (.if_icmp .lt 21, 3) := by decide +kernel
theorem dX10_told_6 : decode cX10_told 6 = .ok (.iload_n 1, 1) := by decide +kernel
theorem dX10_told_7 : decode cX10_told 7 = .ok (.bipush 18, 2) := by decide +kernel
theorem dX10_told_9 : decode cX10_told 9 = .ok (.if_icmp .ge 15, 3) := by decide +kernel
theorem dX10_told_12 : decode cX10_told 12 = .ok (.aload_n 0, 1) := by decide +kernel
theorem dX10_told_13 : decode cX10_told 13 = .ok (.getfield 10, 3) := by decide +kernel
theorem dX10_told_16 : decode cX10_told 16 = .ok (.iload_n 1, 1) := by decide +kernel
theorem dX10_told_17 : decode cX10_told 17 = .ok (.bipush 10, 2) := by decide +kernel
theorem dX10_told_19 : decode cX10_told 19 = .ok (.isub, 1) := by decide +kernel
theorem dX10_told_20 : decode cX10_told 20 = .ok (.invokevirtual 68, 3) := by decide +kernel
theorem dX10_told_23 : decode cX10_told 23 = .ok (.ireturn, 1) := by decide +kernel
theorem dX10_told_24 : decode cX10_told 24 = .ok (.iload_n 1, 1) := by decide +kernel
theorem dX10_told_25 : decode cX10_told 25 = .ok (.bipush 20, 2) := by decide +kernel
theorem dX10_told_27 : decode cX10_told 27 = .ok (.if_icmp .lt 21, 3) := by decide +kernel
theorem dX10_told_30 : decode cX10_told 30 = .ok (.iload_n 1, 1) := by decide +kernel
theorem dX10_told_31 : decode cX10_told 31 = .ok (.bipush 28, 2) := by decide +kernel
theorem dX10_told_33 : decode cX10_told 33 = .ok (.if_icmp .ge 15, 3) := by decide +kernel
theorem dX10_told_36 : decode cX10_told 36 = .ok (.aload_n 0, 1) := by decide +kernel
theorem dX10_told_37 : decode cX10_told 37 = .ok (.getfield 10, 3) := by decide +kernel
theorem dX10_told_40 : decode cX10_told 40 = .ok (.iload_n 1, 1) := by decide +kernel
theorem dX10_told_41 : decode cX10_told 41 = .ok (.bipush 20, 2) := by decide +kernel
theorem dX10_told_43 : decode cX10_told 43 = .ok (.isub, 1) := by decide +kernel
theorem dX10_told_44 : decode cX10_told 44 = .ok (.invokevirtual 251, 3) := by decide +kernel
theorem dX10_told_47 : decode cX10_told 47 = .ok (.ireturn, 1) := by decide +kernel
theorem dX10_told_48 : decode cX10_told 48 = .ok (.iload_n 1, 1) := by decide +kernel
theorem dX10_told_49 : decode cX10_told 49 = .ok (.tableswitch 63 0 3 #[31, 39, 47, 55], 31) := by decide +kernel
theorem dX10_told_80 : decode cX10_told 80 = .ok (.aload_n 0, 1) := by decide +kernel
theorem dX10_told_81 : decode cX10_told 81 = .ok (.getfield 22, 3) := by decide +kernel
theorem dX10_told_84 : decode cX10_told 84 = .ok (.invokevirtual 84, 3) := by decide +kernel
theorem dX10_told_87 : decode cX10_told 87 = .ok (.ireturn, 1) := by decide +kernel
theorem dX10_told_88 : decode cX10_told 88 = .ok (.aload_n 0, 1) := by decide +kernel
theorem dX10_told_89 : decode cX10_told 89 = .ok (.getfield 10, 3) := by decide +kernel
theorem dX10_told_92 : decode cX10_told 92 = .ok (.invokevirtual 76, 3) := by decide +kernel
theorem dX10_told_95 : decode cX10_told 95 = .ok (.ireturn, 1) := by decide +kernel
theorem dX10_told_96 : decode cX10_told 96 = .ok (.aload_n 0, 1) := by decide +kernel
theorem dX10_told_97 : decode cX10_told 97 = .ok (.getfield 29, 3) := by decide +kernel
theorem dX10_told_100 : decode cX10_told 100 = .ok (.invokevirtual 189, 3) := by decide +kernel
theorem dX10_told_103 : decode cX10_told 103 = .ok (.ireturn, 1) := by decide +kernel
theorem dX10_told_104 : decode cX10_told 104 = .ok (.aload_n 0, 1) := by decide +kernel
theorem dX10_told_105 : decode cX10_told 105 = .ok (.getfield 10, 3) := by decide +kernel
theorem dX10_told_108 : decode cX10_told 108 = .ok (.invokevirtual 254, 3) := by decide +kernel
theorem dX10_told_111 : decode cX10_told 111 = .ok (.ireturn, 1) := by decide +kernel
theorem dX10_told_112 : decode cX10_told 112 = .ok (.bipush (-2), 2) := by decide +kernel
theorem dX10_told_114 : decode cX10_told 114 = .ok (.ireturn, 1) := by decide +kernel
theorem dX10_isPerson_0 : decode cX10_isPerson 0 = .ok (.iload_n 0, 1) := by decide +kernel
theorem dX10_isPerson_1 : decode cX10_isPerson 1 = .ok (.ifCond .lt 13, 3) := by decide +kernel
theorem dX10_isPerson_4 : decode cX10_isPerson 4 = .ok (.iload_n 0, 1) := by decide +kernel
theorem dX10_isPerson_5 : decode cX10_isPerson 5 = .ok (.bipush 8, 2) := by decide +kernel
theorem dX10_isPerson_7 : decode cX10_isPerson 7 = .ok (.if_icmp .ge 7, 3) := by decide +kernel
theorem dX10_isPerson_10 : decode cX10_isPerson 10 = .ok (.iconst 1, 1) := by decide +kernel
theorem dX10_isPerson_11 : decode cX10_isPerson 11 = .ok (.goto 4, 3) := by decide +kernel
theorem dX10_isPerson_14 : decode cX10_isPerson 14 = .ok (.iconst 0, 1) := by decide +kernel
theorem dX10_isPerson_15 : decode cX10_isPerson 15 = .ok (.ireturn, 1) := by decide +kernel
theorem dX10_isCar_0 : decode cX10_isCar 0 = .ok (.iload_n 0, 1) := by decide +kernel
theorem dX10_isCar_1 : decode cX10_isCar 1 = .ok (.ifCond .lt 13, 3) := by decide +kernel
theorem dX10_isCar_4 : decode cX10_isCar 4 = .ok (.iload_n 0, 1) := by decide +kernel
theorem dX10_isCar_5 : decode cX10_isCar 5 = .ok (.bipush 8, 2) := by decide +kernel
theorem dX10_isCar_7 : decode cX10_isCar 7 = .ok (.if_icmp .ge 7, 3) := by decide +kernel
theorem dX10_isCar_10 : decode cX10_isCar 10 = .ok (.iconst 1, 1) := by decide +kernel
end
section
theorem dX10_isCar_11 : decode cX10_isCar 11 = .ok (.goto 4, 3) := by decide +kernel
theorem dX10_isCar_14 : decode cX10_isCar 14 = .ok (.iconst 0, 1) := by decide +kernel
theorem dX10_isCar_15 : decode cX10_isCar 15 = .ok (.ireturn, 1) := by decide +kernel
theorem dX10_isOf_0 : decode cX10_isOf 0 = .ok (.iload_n 0, 1) := by decide +kernel
theorem dX10_isOf_1 : decode cX10_isOf 1 = .ok (.iload_n 1, 1) := by decide +kernel
theorem dX10_isOf_2 : decode cX10_isOf 2 = .ok (.ishr, 1) := by decide +kernel
theorem dX10_isOf_3 : decode cX10_isOf 3 = .ok (.iconst 1, 1) := by decide +kernel
theorem dX10_isOf_4 : decode cX10_isOf 4 = .ok (.iand, 1) := by decide +kernel
theorem dX10_isOf_5 : decode cX10_isOf 5 = .ok (.iconst 1, 1) := by decide +kernel
theorem dX10_isOf_6 : decode cX10_isOf 6 = .ok (.if_icmp .ne 7, 3) := by decide +kernel
theorem dX10_isOf_9 : decode cX10_isOf 9 = .ok (.iconst 1, 1) := by decide +kernel
theorem dX10_isOf_10 : decode cX10_isOf 10 = .ok (.goto 4, 3) := by decide +kernel
theorem dX10_isOf_13 : decode cX10_isOf 13 = .ok (.iconst 0, 1) := by decide +kernel
theorem dX10_isOf_14 : decode cX10_isOf 14 = .ok (.ireturn, 1) := by decide +kernel
theorem dX10_at_0 : decode cX10_at 0 = .ok (.iload_n 1, 1) := by decide +kernel
theorem dX10_at_1 : decode cX10_at 1 = .ok (.ifCond .lt 15, 3) := by decide +kernel
theorem dX10_at_4 : decode cX10_at 4 = .ok (.iload_n 1, 1) := by decide +kernel
theorem dX10_at_5 : decode cX10_at 5 = .ok (.aload_n 0, 1) := by decide +kernel
theorem dX10_at_6 : decode cX10_at 6 = .ok (.arraylength, 1) := by decide +kernel
theorem dX10_at_7 : decode cX10_at 7 = .ok (.if_icmp .ge 9, 3) := by decide +kernel
theorem dX10_at_10 : decode cX10_at 10 = .ok (.aload_n 0, 1) := by decide +kernel
theorem dX10_at_11 : decode cX10_at 11 = .ok (.iload_n 1, 1) := by decide +kernel
theorem dX10_at_12 : decode cX10_at 12 = .ok (.iaload, 1) := by decide +kernel
theorem dX10_at_13 : decode cX10_at 13 = .ok (.goto 5, 3) := by decide +kernel
theorem dX10_at_16 : decode cX10_at 16 = .ok (.bipush (-6), 2) := by decide +kernel
theorem dX10_at_18 : decode cX10_at 18 = .ok (.ireturn, 1) := by decide +kernel
theorem dX10_put_0 : decode cX10_put 0 = .ok (.iload_n 1, 1) := by decide +kernel
theorem dX10_put_1 : decode cX10_put 1 = .ok (.ifCond .lt 13, 3) := by decide +kernel
theorem dX10_put_4 : decode cX10_put 4 = .ok (.iload_n 1, 1) := by decide +kernel
theorem dX10_put_5 : decode cX10_put 5 = .ok (.aload_n 0, 1) := by decide +kernel
theorem dX10_put_6 : decode cX10_put 6 = .ok (.arraylength, 1) := by decide +kernel
theorem dX10_put_7 : decode cX10_put 7 = .ok (.if_icmp .ge 7, 3) := by decide +kernel
theorem dX10_put_10 : decode cX10_put 10 = .ok (.aload_n 0, 1) := by decide +kernel
theorem dX10_put_11 : decode cX10_put 11 = .ok (.iload_n 1, 1) := by decide +kernel
theorem dX10_put_12 : decode cX10_put 12 = .ok (.iload_n 2, 1) := by decide +kernel
theorem dX10_put_13 : decode cX10_put 13 = .ok (.iastore, 1) := by decide +kernel
theorem dX10_put_14 : decode cX10_put 14 = .ok (.return_, 1) := by decide +kernel
theorem dX10_copyRow_0 : decode cX10_copyRow 0 = .ok (.aload_n 0, 1) := by decide +kernel
theorem dX10_copyRow_1 : decode cX10_copyRow 1 = .ok (.iconst 0, 1) := by decide +kernel
theorem dX10_copyRow_2 : decode cX10_copyRow 2 = .ok (.aload_n 1, 1) := by decide +kernel
theorem dX10_copyRow_3 : decode cX10_copyRow 3 = .ok (.iconst 0, 1) := by decide +kernel
theorem dX10_copyRow_4 : decode cX10_copyRow 4 = .ok (.aload_n 0, 1) := by decide +kernel
theorem dX10_copyRow_5 : decode cX10_copyRow 5 = .ok (.arraylength, 1) := by decide +kernel
theorem dX10_copyRow_6 : decode cX10_copyRow 6 = .ok (.aload_n 1, 1) := by decide +kernel
theorem dX10_copyRow_7 : decode cX10_copyRow 7 = .ok (.arraylength, 1) := by decide +kernel
theorem dX10_copyRow_8 : decode cX10_copyRow 8 = .ok (.invokestatic 257, 3) := by decide +kernel
theorem dX10_copyRow_11 : decode cX10_copyRow 11 = .ok (.invokestatic 262, 3) := by decide +kernel
theorem dX10_copyRow_14 : decode cX10_copyRow 14 = .ok (.return_, 1) := by decide +kernel
theorem dX10_greatestDivisor_0 : decode cX10_greatestDivisor 0 = .ok (.lload_n 0, 1) := by decide +kernel
theorem dX10_greatestDivisor_1 : decode cX10_greatestDivisor 1 = .ok (.lstore 4, 2) := by decide +kernel
theorem dX10_greatestDivisor_3 : decode cX10_greatestDivisor 3 = .ok (.lload_n 2, 1) := by decide +kernel
theorem dX10_greatestDivisor_4 : decode cX10_greatestDivisor 4 = .ok (.lstore 6, 2) := by decide +kernel
theorem dX10_greatestDivisor_6 : decode cX10_greatestDivisor 6 = .ok (.iconst 0, 1) := by decide +kernel
theorem dX10_greatestDivisor_7 : decode cX10_greatestDivisor 7 = .ok (.istore 8, 2) := by decide +kernel
theorem dX10_greatestDivisor_9 : decode cX10_greatestDivisor 9 = .ok (.iload 8, 2) := by decide +kernel
theorem dX10_greatestDivisor_11 : decode cX10_greatestDivisor 11 = .ok (.sipush 128, 3) := by decide +kernel
theorem dX10_greatestDivisor_14 : decode cX10_greatestDivisor 14 = .ok (.if_icmp .ge 31, 3) := by decide +kernel
theorem dX10_greatestDivisor_17 : decode cX10_greatestDivisor 17 = .ok (.lload 6, 2) := by decide +kernel
theorem dX10_greatestDivisor_19 : decode cX10_greatestDivisor 19 = .ok (.lconst 0, 1) := by decide +kernel
theorem dX10_greatestDivisor_20 : decode cX10_greatestDivisor 20 = .ok (.lcmp, 1) := by decide +kernel
theorem dX10_greatestDivisor_21 : decode cX10_greatestDivisor 21 = .ok (.ifCond .eq 24, 3) := by decide +kernel
theorem dX10_greatestDivisor_24 : decode cX10_greatestDivisor 24 = .ok (.lload 4, 2) := by decide +kernel
theorem dX10_greatestDivisor_26 : decode cX10_greatestDivisor 26 = .ok (.lload 6, 2) := by decide +kernel
theorem dX10_greatestDivisor_28 : decode cX10_greatestDivisor 28 = .ok (.lrem, 1) := by decide +kernel
theorem dX10_greatestDivisor_29 : decode cX10_greatestDivisor 29 = .ok (.lstore 9, 2) := by decide +kernel
theorem dX10_greatestDivisor_31 : decode cX10_greatestDivisor 31 = .ok (.lload 6, 2) := by decide +kernel
theorem dX10_greatestDivisor_33 : decode cX10_greatestDivisor 33 = .ok (.lstore 4, 2) := by decide +kernel
theorem dX10_greatestDivisor_35 : decode cX10_greatestDivisor 35 = .ok (.lload 9, 2) := by decide +kernel
theorem dX10_greatestDivisor_37 : decode cX10_greatestDivisor 37 = .ok (.lstore 6, 2) := by decide +kernel
theorem dX10_greatestDivisor_39 : decode cX10_greatestDivisor 39 = .ok (.iinc 8 1, 3) := by decide +kernel
theorem dX10_greatestDivisor_42 : decode cX10_greatestDivisor 42 = .ok (.goto (-33), 3) := by decide +kernel
theorem dX10_greatestDivisor_45 : decode cX10_greatestDivisor 45 = .ok (.lload 4, 2) := by decide +kernel
theorem dX10_greatestDivisor_47 : decode cX10_greatestDivisor 47 = .ok (.lreturn, 1) := by decide +kernel
theorem dX10_imageOf_0 : decode cX10_imageOf 0 = .ok (.iload_n 1, 1) := by decide +kernel
theorem dX10_imageOf_1 : decode cX10_imageOf 1 = .ok (.ifCond .ne 10, 3) := by decide +kernel
theorem dX10_imageOf_4 : decode cX10_imageOf 4 = .ok (.aload_n 0, 1) := by decide +kernel
theorem dX10_imageOf_5 : decode cX10_imageOf 5 = .ok (.getfield 57, 3) := by decide +kernel
theorem dX10_imageOf_8 : decode cX10_imageOf 8 = .ok (.goto 7, 3) := by decide +kernel
theorem dX10_imageOf_11 : decode cX10_imageOf 11 = .ok (.aload_n 0, 1) := by decide +kernel
theorem dX10_imageOf_12 : decode cX10_imageOf 12 = .ok (.getfield 61, 3) := by decide +kernel
theorem dX10_imageOf_15 : decode cX10_imageOf 15 = .ok (.areturn, 1) := by decide +kernel
set_option maxRecDepth 20000 in
theorem ggX10_refuseText_X4_firstFault : GoodIn wsX10_refuseText wsX4_firstFault := goodIn_r _ [6, 7, 8, 9, 10, 5, 11, 12, 13, 14, 15, 16, 17, 18, 19, 20, 21, 22, 23, 24, 25, 26, 27, 42, 43, 44] (by decide +kernel) (by decide +kernel)
set_option maxRecDepth 20000 in
theorem gX10_refuseText_X4_firstFault : GoodIn wsX10_refuseText (wsV RX10 93 RX4 yX4_firstFault wsX4_firstFault) := goodIn_app (goodIn_of _ (by decide +kernel)) ggX10_refuseText_X4_firstFault
set_option maxRecDepth 20000 in
theorem ggX10_refuseText_X4_asked : GoodIn wsX10_refuseText wsX4_asked := goodIn_r _ [31, 32, 42, 43, 44] (by decide +kernel) (by decide +kernel)
set_option maxRecDepth 20000 in
theorem gX10_refuseText_X4_asked : GoodIn wsX10_refuseText (wsV RX10 195 RX4 yX4_asked wsX4_asked) := goodIn_app (goodIn_of _ (by decide +kernel)) ggX10_refuseText_X4_asked
theorem dX10_refuseText_0 : decode cX10_refuseText 0 = .ok (.aload_n 0, 1) := by decide +kernel
theorem dX10_refuseText_1 : decode cX10_refuseText 1 = .ok (.getfield 22, 3) := by decide +kernel
theorem dX10_refuseText_4 : decode cX10_refuseText 4 = .ok (.invokevirtual 93, 3) := by decide +kernel
theorem dX10_refuseText_7 : decode cX10_refuseText 7 = .ok (.bipush (-6), 2) := by decide +kernel
theorem dX10_refuseText_9 : decode cX10_refuseText 9 = .ok (.if_icmp .eq 6, 3) := by decide +kernel
theorem dX10_refuseText_12 : decode cX10_refuseText 12 = .ok (.bipush (-5), 2) := by decide +kernel
theorem dX10_refuseText_14 : decode cX10_refuseText 14 = .ok (.ireturn, 1) := by decide +kernel
theorem dX10_refuseText_15 : decode cX10_refuseText 15 = .ok (.aload_n 0, 1) := by decide +kernel
theorem dX10_refuseText_16 : decode cX10_refuseText 16 = .ok (.getfield 22, 3) := by decide +kernel
theorem dX10_refuseText_19 : decode cX10_refuseText 19 = .ok (.invokevirtual 195, 3) := by decide +kernel
theorem dX10_refuseText_22 : decode cX10_refuseText 22 = .ok (.ifCond .le 8, 3) := by decide +kernel
theorem dX10_refuseText_25 : decode cX10_refuseText 25 = .ok (.bipush (-3), 2) := by decide +kernel
theorem dX10_refuseText_27 : decode cX10_refuseText 27 = .ok (.goto 4, 3) := by decide +kernel
theorem dX10_refuseText_30 : decode cX10_refuseText 30 = .ok (.iconst 0, 1) := by decide +kernel
theorem dX10_refuseText_31 : decode cX10_refuseText 31 = .ok (.ireturn, 1) := by decide +kernel
set_option maxRecDepth 20000 in
theorem ggX10_refuseEvening_X10_refuseText : GoodIn wsX10_refuseEvening wsX10_refuseText := goodIn_r _ [8, 3, 9, 10, 11, 12, 13, 14, 15, 16, 17, 18, 19, 20, 7, 21, 22, 23, 24, 25, 26, 27, 28, 29, 30, 31, 32, 33, 34, 35, 36, 37, 38, 157, 158, 159, 160, 161, 162, 163, 164, 165, 166, 167, 168] (by decide +kernel) (by decide +kernel)
set_option maxRecDepth 20000 in
theorem gX10_refuseEvening_X10_refuseText : GoodIn wsX10_refuseEvening (wsV RX10 96 RX10 yX10_refuseText wsX10_refuseText) := goodIn_app (goodIn_of _ (by decide +kernel)) ggX10_refuseEvening_X10_refuseText
set_option maxRecDepth 20000 in
theorem ggX10_refuseEvening_X7_tell : GoodIn wsX10_refuseEvening wsX7_tell := goodIn_r _ [43, 44, 45, 46, 47, 48, 49, 50, 51, 52, 53, 54, 55, 56, 57, 58, 59, 60, 61, 62, 7, 63, 64, 65, 66, 67, 68, 69, 70, 71, 72, 35, 36, 12, 37, 38, 73, 74, 75, 76, 14, 77, 16, 17, 18, 19, 20, 21, 78, 79, 80, 42, 81, 82, 83, 84, 85, 86, 87, 88, 89, 90, 91, 92, 93, 94, 95, 96, 97, 98, 99, 100, 101, 102, 103, 32, 33, 104, 105, 29, 30, 106, 107, 108, 109, 110, 111, 112, 113, 114, 115, 116, 117, 118, 119, 120, 121, 122, 123, 124, 26, 27, 125, 126, 127, 128, 129, 130, 131, 132, 133, 134, 135, 136, 137, 138, 139, 140, 141, 142, 143, 144, 145, 146, 147, 148, 149, 150, 151, 152, 153, 154, 155, 156, 169, 170, 171, 172, 173, 174, 175, 176, 177, 178, 179, 180, 181, 166, 167, 168] (by decide +kernel) (by decide +kernel)
set_option maxRecDepth 20000 in
theorem gX10_refuseEvening_X7_tell : GoodIn wsX10_refuseEvening (wsV RX10 99 RX7 yX7_tell wsX7_tell) := goodIn_app (goodIn_of _ (by decide +kernel)) ggX10_refuseEvening_X7_tell
theorem dX10_refuseEvening_0 : decode cX10_refuseEvening 0 = .ok (.aload_n 0, 1) := by decide +kernel
theorem dX10_refuseEvening_1 : decode cX10_refuseEvening 1 = .ok (.invokevirtual 96, 3) := by decide +kernel
theorem dX10_refuseEvening_4 : decode cX10_refuseEvening 4 = .ok (.istore_n 1, 1) := by decide +kernel
theorem dX10_refuseEvening_5 : decode cX10_refuseEvening 5 = .ok (.iload_n 1, 1) := by decide +kernel
theorem dX10_refuseEvening_6 : decode cX10_refuseEvening 6 = .ok (.ifCond .eq 5, 3) := by decide +kernel
theorem dX10_refuseEvening_9 : decode cX10_refuseEvening 9 = .ok (.iload_n 1, 1) := by decide +kernel
theorem dX10_refuseEvening_10 : decode cX10_refuseEvening 10 = .ok (.ireturn, 1) := by decide +kernel
theorem dX10_refuseEvening_11 : decode cX10_refuseEvening 11 = .ok (.aload_n 0, 1) := by decide +kernel
theorem dX10_refuseEvening_12 : decode cX10_refuseEvening 12 = .ok (.getfield 36, 3) := by decide +kernel
theorem dX10_refuseEvening_15 : decode cX10_refuseEvening 15 = .ok (.aload_n 0, 1) := by decide +kernel
theorem dX10_refuseEvening_16 : decode cX10_refuseEvening 16 = .ok (.getfield 10, 3) := by decide +kernel
theorem dX10_refuseEvening_19 : decode cX10_refuseEvening 19 = .ok (.aload_n 0, 1) := by decide +kernel
theorem dX10_refuseEvening_20 : decode cX10_refuseEvening 20 = .ok (.getfield 22, 3) := by decide +kernel
theorem dX10_refuseEvening_23 : decode cX10_refuseEvening 23 = .ok (.bipush (-6), 2) := by decide +kernel
theorem dX10_refuseEvening_25 : decode cX10_refuseEvening 25 = .ok (.iconst 0, 1) := by decide +kernel
theorem dX10_refuseEvening_26 : decode cX10_refuseEvening 26 = .ok (.invokevirtual 99, 3) := by decide +kernel
theorem dX10_refuseEvening_29 : decode cX10_refuseEvening 29 = .ok (.ifCond .eq 7, 3) := by decide +kernel
theorem dX10_refuseEvening_32 : decode cX10_refuseEvening 32 = .ok (.iconst 0, 1) := by decide +kernel
theorem dX10_refuseEvening_33 : decode cX10_refuseEvening 33 = .ok (.goto 5, 3) := by decide +kernel
theorem dX10_refuseEvening_36 : decode cX10_refuseEvening 36 = .ok (.bipush (-5), 2) := by decide +kernel
theorem dX10_refuseEvening_38 : decode cX10_refuseEvening 38 = .ok (.ireturn, 1) := by decide +kernel
set_option maxRecDepth 20000 in
theorem ggX10_canBeLeftOut_X4_signAt : GoodIn wsX10_canBeLeftOut wsX4_signAt := goodIn_r _ [8, 9, 10, 11, 12, 157, 158, 159] (by decide +kernel) (by decide +kernel)
set_option maxRecDepth 20000 in
theorem gX10_canBeLeftOut_X4_signAt : GoodIn wsX10_canBeLeftOut (wsV RX10 268 RX4 yX4_signAt wsX4_signAt) := goodIn_app (goodIn_of _ (by decide +kernel)) ggX10_canBeLeftOut_X4_signAt
set_option maxRecDepth 20000 in
theorem ggX10_canBeLeftOut_X4_isMotion : GoodIn wsX10_canBeLeftOut wsX4_isMotion := goodIn_r _ [15] (by decide +kernel) (by decide +kernel)
set_option maxRecDepth 20000 in
theorem gX10_canBeLeftOut_X4_isMotion : GoodIn wsX10_canBeLeftOut (va_wsS RX10 271 yX4_isMotion wsX4_isMotion) := goodIn_app (goodIn_of _ (by decide +kernel)) ggX10_canBeLeftOut_X4_isMotion
set_option maxRecDepth 20000 in
theorem ggX10_canBeLeftOut_X7_tell : GoodIn wsX10_canBeLeftOut wsX7_tell := goodIn_r _ [20, 21, 22, 23, 24, 25, 26, 27, 28, 29, 30, 31, 32, 33, 34, 35, 36, 37, 38, 39, 11, 40, 41, 42, 43, 44, 45, 46, 47, 48, 49, 50, 51, 7, 52, 53, 54, 55, 56, 57, 58, 59, 5, 6, 8, 9, 10, 12, 60, 61, 62, 19, 63, 64, 65, 66, 67, 68, 69, 70, 71, 72, 73, 74, 75, 76, 77, 78, 79, 80, 81, 82, 83, 84, 85, 14, 15, 86, 87, 88, 89, 90, 91, 92, 93, 94, 95, 96, 97, 98, 99, 100, 101, 102, 103, 104, 105, 106, 107, 108, 109, 110, 111, 112, 113, 114, 115, 116, 117, 118, 119, 120, 121, 122, 123, 124, 125, 126, 127, 128, 129, 130, 131, 132, 133, 134, 135, 136, 137, 138, 139, 140, 141, 142, 160, 161, 162, 163, 164, 165, 166, 167, 168, 169, 170, 171, 172, 157, 158, 159] (by decide +kernel) (by decide +kernel)
set_option maxRecDepth 20000 in
theorem gX10_canBeLeftOut_X7_tell : GoodIn wsX10_canBeLeftOut (wsV RX10 99 RX7 yX7_tell wsX7_tell) := goodIn_app (goodIn_of _ (by decide +kernel)) ggX10_canBeLeftOut_X7_tell
set_option maxRecDepth 20000 in
theorem ggX10_canBeLeftOut_X7_wheel : GoodIn wsX10_canBeLeftOut wsX7_wheel := goodIn_r _ [146, 21, 160, 161, 162, 163, 164, 165, 166] (by decide +kernel) (by decide +kernel)
set_option maxRecDepth 20000 in
theorem gX10_canBeLeftOut_X7_wheel : GoodIn wsX10_canBeLeftOut (wsV RX10 112 RX7 yX7_wheel wsX7_wheel) := goodIn_app (goodIn_of _ (by decide +kernel)) ggX10_canBeLeftOut_X7_wheel
set_option maxRecDepth 20000 in
theorem ggX10_canBeLeftOut_X9_lowest : GoodIn wsX10_canBeLeftOut wsX9_lowest := goodIn_r _ [97, 37, 167, 168, 169, 170, 171, 172] (by decide +kernel) (by decide +kernel)
set_option maxRecDepth 20000 in
theorem gX10_canBeLeftOut_X9_lowest : GoodIn wsX10_canBeLeftOut (wsV RX10 119 RX9 yX9_lowest wsX9_lowest) := goodIn_app (goodIn_of _ (by decide +kernel)) ggX10_canBeLeftOut_X9_lowest
theorem dX10_canBeLeftOut_0 : decode cX10_canBeLeftOut 0 = .ok (.aload_n 0, 1) := by decide +kernel
theorem dX10_canBeLeftOut_1 : decode cX10_canBeLeftOut 1 = .ok (.getfield 22, 3) := by decide +kernel
theorem dX10_canBeLeftOut_4 : decode cX10_canBeLeftOut 4 = .ok (.iload_n 1, 1) := by decide +kernel
theorem dX10_canBeLeftOut_5 : decode cX10_canBeLeftOut 5 = .ok (.invokevirtual 268, 3) := by decide +kernel
theorem dX10_canBeLeftOut_8 : decode cX10_canBeLeftOut 8 = .ok (.invokestatic 271, 3) := by decide +kernel
theorem dX10_canBeLeftOut_11 : decode cX10_canBeLeftOut 11 = .ok (.ifCond .eq 5, 3) := by decide +kernel
theorem dX10_canBeLeftOut_14 : decode cX10_canBeLeftOut 14 = .ok (.iconst 0, 1) := by decide +kernel
theorem dX10_canBeLeftOut_15 : decode cX10_canBeLeftOut 15 = .ok (.ireturn, 1) := by decide +kernel
theorem dX10_canBeLeftOut_16 : decode cX10_canBeLeftOut 16 = .ok (.aload_n 0, 1) := by decide +kernel
theorem dX10_canBeLeftOut_17 : decode cX10_canBeLeftOut 17 = .ok (.getfield 36, 3) := by decide +kernel
theorem dX10_canBeLeftOut_20 : decode cX10_canBeLeftOut 20 = .ok (.aload_n 0, 1) := by decide +kernel
theorem dX10_canBeLeftOut_21 : decode cX10_canBeLeftOut 21 = .ok (.getfield 10, 3) := by decide +kernel
theorem dX10_canBeLeftOut_24 : decode cX10_canBeLeftOut 24 = .ok (.aload_n 0, 1) := by decide +kernel
theorem dX10_canBeLeftOut_25 : decode cX10_canBeLeftOut 25 = .ok (.getfield 22, 3) := by decide +kernel
theorem dX10_canBeLeftOut_28 : decode cX10_canBeLeftOut 28 = .ok (.iload_n 1, 1) := by decide +kernel
theorem dX10_canBeLeftOut_29 : decode cX10_canBeLeftOut 29 = .ok (.iconst 0, 1) := by decide +kernel
theorem dX10_canBeLeftOut_30 : decode cX10_canBeLeftOut 30 = .ok (.invokevirtual 99, 3) := by decide +kernel
theorem dX10_canBeLeftOut_33 : decode cX10_canBeLeftOut 33 = .ok (.ifCond .eq 21, 3) := by decide +kernel
theorem dX10_canBeLeftOut_36 : decode cX10_canBeLeftOut 36 = .ok (.aload_n 0, 1) := by decide +kernel
theorem dX10_canBeLeftOut_37 : decode cX10_canBeLeftOut 37 = .ok (.getfield 36, 3) := by decide +kernel
theorem dX10_canBeLeftOut_40 : decode cX10_canBeLeftOut 40 = .ok (.invokevirtual 112, 3) := by decide +kernel
theorem dX10_canBeLeftOut_43 : decode cX10_canBeLeftOut 43 = .ok (.invokevirtual 119, 3) := by decide +kernel
theorem dX10_canBeLeftOut_46 : decode cX10_canBeLeftOut 46 = .ok (.iload_n 2, 1) := by decide +kernel
theorem dX10_canBeLeftOut_47 : decode cX10_canBeLeftOut 47 = .ok (.if_icmp .ne 7, 3) := by decide +kernel
theorem dX10_canBeLeftOut_50 : decode cX10_canBeLeftOut 50 = .ok (.iconst 1, 1) := by decide +kernel
theorem dX10_canBeLeftOut_51 : decode cX10_canBeLeftOut 51 = .ok (.goto 4, 3) := by decide +kernel
theorem dX10_canBeLeftOut_54 : decode cX10_canBeLeftOut 54 = .ok (.iconst 0, 1) := by decide +kernel
theorem dX10_canBeLeftOut_55 : decode cX10_canBeLeftOut 55 = .ok (.ireturn, 1) := by decide +kernel
set_option maxRecDepth 20000 in
theorem ggX10_tellMove_X3_getsOut : GoodIn wsX10_tellMove wsX3_getsOut := goodIn_r _ [5, 6, 7, 8, 9, 10, 11, 12, 13, 14, 15, 28, 29, 30, 31, 32, 33] (by decide +kernel) (by decide +kernel)
set_option maxRecDepth 20000 in
theorem gX10_tellMove_X3_getsOut : GoodIn wsX10_tellMove (va_wsS RX10 274 yX3_getsOut wsX3_getsOut) := goodIn_app (goodIn_of _ (by decide +kernel)) ggX10_tellMove_X3_getsOut
set_option maxRecDepth 20000 in
theorem ggX10_tellMove_X10_isPerson : GoodIn wsX10_tellMove wsX10_isPerson := goodIn_r _ [18] (by decide +kernel) (by decide +kernel)
set_option maxRecDepth 20000 in
theorem gX10_tellMove_X10_isPerson : GoodIn wsX10_tellMove (va_wsS RX10 64 yX10_isPerson wsX10_isPerson) := goodIn_app (goodIn_of _ (by decide +kernel)) ggX10_tellMove_X10_isPerson
theorem dX10_tellMove_0 : decode cX10_tellMove 0 = .ok (.iload_n 2, 1) := by decide +kernel
theorem dX10_tellMove_1 : decode cX10_tellMove 1 = .ok (.iconst 1, 1) := by decide +kernel
theorem dX10_tellMove_2 : decode cX10_tellMove 2 = .ok (.if_icmp .ne 20, 3) := by decide +kernel
theorem dX10_tellMove_5 : decode cX10_tellMove 5 = .ok (.aload_n 0, 1) := by decide +kernel
theorem dX10_tellMove_6 : decode cX10_tellMove 6 = .ok (.getfield 10, 3) := by decide +kernel
theorem dX10_tellMove_9 : decode cX10_tellMove 9 = .ok (.iload_n 1, 1) := by decide +kernel
theorem dX10_tellMove_10 : decode cX10_tellMove 10 = .ok (.invokestatic 274, 3) := by decide +kernel
theorem dX10_tellMove_13 : decode cX10_tellMove 13 = .ok (.ifCond .eq 7, 3) := by decide +kernel
theorem dX10_tellMove_16 : decode cX10_tellMove 16 = .ok (.iconst 1, 1) := by decide +kernel
theorem dX10_tellMove_17 : decode cX10_tellMove 17 = .ok (.goto 4, 3) := by decide +kernel
theorem dX10_tellMove_20 : decode cX10_tellMove 20 = .ok (.iconst 0, 1) := by decide +kernel
theorem dX10_tellMove_21 : decode cX10_tellMove 21 = .ok (.ireturn, 1) := by decide +kernel
theorem dX10_tellMove_22 : decode cX10_tellMove 22 = .ok (.iload_n 1, 1) := by decide +kernel
theorem dX10_tellMove_23 : decode cX10_tellMove 23 = .ok (.invokestatic 64, 3) := by decide +kernel
theorem dX10_tellMove_26 : decode cX10_tellMove 26 = .ok (.ifCond .eq 7, 3) := by decide +kernel
theorem dX10_tellMove_29 : decode cX10_tellMove 29 = .ok (.iload_n 1, 1) := by decide +kernel
theorem dX10_tellMove_30 : decode cX10_tellMove 30 = .ok (.goto 5, 3) := by decide +kernel
theorem dX10_tellMove_33 : decode cX10_tellMove 33 = .ok (.bipush (-6), 2) := by decide +kernel
theorem dX10_tellMove_35 : decode cX10_tellMove 35 = .ok (.ireturn, 1) := by decide +kernel
set_option maxRecDepth 20000 in
theorem ggX10_endsAt_X9_copyFrom : GoodIn wsX10_endsAt wsX9_copyFrom := goodIn_r _ [9, 10, 11, 12, 13, 14, 15, 16, 17, 18, 19, 20, 21, 22, 23, 24, 25, 26, 161, 162, 163, 164, 165, 166] (by decide +kernel) (by decide +kernel)
set_option maxRecDepth 20000 in
theorem gX10_endsAt_X9_copyFrom : GoodIn wsX10_endsAt (wsV RX10 115 RX9 yX9_copyFrom wsX9_copyFrom) := goodIn_app (goodIn_of _ (by decide +kernel)) ggX10_endsAt_X9_copyFrom
set_option maxRecDepth 20000 in
theorem ggX10_endsAt_X9_setWeight : GoodIn wsX10_endsAt wsX9_setWeight := goodIn_r _ [30, 10, 31, 17, 32, 161, 162, 163, 164, 165, 166] (by decide +kernel) (by decide +kernel)
set_option maxRecDepth 20000 in
theorem gX10_endsAt_X9_setWeight : GoodIn wsX10_endsAt (wsV RX10 72 RX9 yX9_setWeight wsX9_setWeight) := goodIn_app (goodIn_of _ (by decide +kernel)) ggX10_endsAt_X9_setWeight
set_option maxRecDepth 20000 in
theorem ggX10_endsAt_X7_tell : GoodIn wsX10_endsAt wsX7_tell := goodIn_r _ [37, 38, 39, 40, 41, 42, 43, 44, 45, 6, 7, 8, 9, 10, 11, 12, 13, 14, 15, 16, 17, 18, 19, 20, 21, 22, 23, 24, 25, 26, 46, 47, 48, 49, 50, 51, 52, 53, 54, 55, 56, 57, 58, 59, 60, 61, 62, 63, 64, 65, 66, 36, 67, 68, 69, 70, 71, 72, 73, 74, 75, 76, 77, 78, 79, 80, 81, 82, 83, 84, 85, 86, 87, 88, 89, 90, 91, 92, 93, 94, 95, 96, 97, 98, 99, 100, 101, 102, 103, 104, 105, 106, 107, 108, 109, 110, 111, 31, 32, 112, 113, 114, 115, 116, 117, 118, 119, 120, 121, 122, 123, 124, 125, 126, 127, 128, 129, 130, 131, 132, 133, 134, 135, 136, 137, 138, 139, 140, 141, 142, 143, 144, 145, 146, 167, 168, 169, 170, 171, 172, 173, 161, 162, 163, 164, 165, 166, 174, 175, 176] (by decide +kernel) (by decide +kernel)
set_option maxRecDepth 20000 in
theorem gX10_endsAt_X7_tell : GoodIn wsX10_endsAt (wsV RX10 99 RX7 yX7_tell wsX7_tell) := goodIn_app (goodIn_of _ (by decide +kernel)) ggX10_endsAt_X7_tell
set_option maxRecDepth 20000 in
theorem ggX10_endsAt_X7_wheel : GoodIn wsX10_endsAt wsX7_wheel := goodIn_r _ [150, 38, 167, 168, 169, 170, 171, 172, 173] (by decide +kernel) (by decide +kernel)
set_option maxRecDepth 20000 in
theorem gX10_endsAt_X7_wheel : GoodIn wsX10_endsAt (wsV RX10 112 RX7 yX7_wheel wsX7_wheel) := goodIn_app (goodIn_of _ (by decide +kernel)) ggX10_endsAt_X7_wheel
set_option maxRecDepth 20000 in
theorem ggX10_endsAt_X9_lowest : GoodIn wsX10_endsAt wsX9_lowest := goodIn_r _ [103, 14, 161, 162, 163, 164, 165, 166] (by decide +kernel) (by decide +kernel)
set_option maxRecDepth 20000 in
theorem gX10_endsAt_X9_lowest : GoodIn wsX10_endsAt (wsV RX10 119 RX9 yX9_lowest wsX9_lowest) := goodIn_app (goodIn_of _ (by decide +kernel)) ggX10_endsAt_X9_lowest
theorem dX10_endsAt_0 : decode cX10_endsAt 0 = .ok (.aload_n 0, 1) := by decide +kernel
theorem dX10_endsAt_1 : decode cX10_endsAt 1 = .ok (.getfield 16, 3) := by decide +kernel
theorem dX10_endsAt_4 : decode cX10_endsAt 4 = .ok (.aload_n 0, 1) := by decide +kernel
theorem dX10_endsAt_5 : decode cX10_endsAt 5 = .ok (.getfield 10, 3) := by decide +kernel
theorem dX10_endsAt_8 : decode cX10_endsAt 8 = .ok (.invokevirtual 115, 3) := by decide +kernel
theorem dX10_endsAt_11 : decode cX10_endsAt 11 = .ok (.aload_n 0, 1) := by decide +kernel
theorem dX10_endsAt_12 : decode cX10_endsAt 12 = .ok (.getfield 16, 3) := by decide +kernel
theorem dX10_endsAt_15 : decode cX10_endsAt 15 = .ok (.iload_n 1, 1) := by decide +kernel
theorem dX10_endsAt_16 : decode cX10_endsAt 16 = .ok (.iload_n 2, 1) := by decide +kernel
theorem dX10_endsAt_17 : decode cX10_endsAt 17 = .ok (.invokevirtual 72, 3) := by decide +kernel
theorem dX10_endsAt_20 : decode cX10_endsAt 20 = .ok (.aload_n 0, 1) := by decide +kernel
theorem dX10_endsAt_21 : decode cX10_endsAt 21 = .ok (.getfield 36, 3) := by decide +kernel
theorem dX10_endsAt_24 : decode cX10_endsAt 24 = .ok (.aload_n 0, 1) := by decide +kernel
theorem dX10_endsAt_25 : decode cX10_endsAt 25 = .ok (.getfield 16, 3) := by decide +kernel
theorem dX10_endsAt_28 : decode cX10_endsAt 28 = .ok (.aload_n 0, 1) := by decide +kernel
theorem dX10_endsAt_29 : decode cX10_endsAt 29 = .ok (.getfield 22, 3) := by decide +kernel
theorem dX10_endsAt_32 : decode cX10_endsAt 32 = .ok (.bipush (-6), 2) := by decide +kernel
theorem dX10_endsAt_34 : decode cX10_endsAt 34 = .ok (.iconst 0, 1) := by decide +kernel
theorem dX10_endsAt_35 : decode cX10_endsAt 35 = .ok (.invokevirtual 99, 3) := by decide +kernel
theorem dX10_endsAt_38 : decode cX10_endsAt 38 = .ok (.ifCond .eq 21, 3) := by decide +kernel
theorem dX10_endsAt_41 : decode cX10_endsAt 41 = .ok (.aload_n 0, 1) := by decide +kernel
theorem dX10_endsAt_42 : decode cX10_endsAt 42 = .ok (.getfield 36, 3) := by decide +kernel
theorem dX10_endsAt_45 : decode cX10_endsAt 45 = .ok (.invokevirtual 112, 3) := by decide +kernel
theorem dX10_endsAt_48 : decode cX10_endsAt 48 = .ok (.invokevirtual 119, 3) := by decide +kernel
theorem dX10_endsAt_51 : decode cX10_endsAt 51 = .ok (.iload_n 3, 1) := by decide +kernel
theorem dX10_endsAt_52 : decode cX10_endsAt 52 = .ok (.if_icmp .ne 7, 3) := by decide +kernel
theorem dX10_endsAt_55 : decode cX10_endsAt 55 = .ok (.iconst 1, 1) := by decide +kernel
theorem dX10_endsAt_56 : decode cX10_endsAt 56 = .ok (.goto 4, 3) := by decide +kernel
theorem dX10_endsAt_59 : decode cX10_endsAt 59 = .ok (.iconst 0, 1) := by decide +kernel
theorem dX10_endsAt_60 : decode cX10_endsAt 60 = .ok (.ireturn, 1) := by decide +kernel
set_option maxRecDepth 20000 in
theorem ggX10_holds_X7_tell : GoodIn wsX10_holds wsX7_tell := goodIn_r _ [9, 10, 11, 12, 13, 14, 15, 16, 17, 18, 19, 20, 21, 22, 23, 24, 25, 26, 27, 28, 29, 30, 31, 32, 33, 34, 35, 36, 37, 38, 39, 40, 41, 42, 43, 44, 45, 46, 47, 48, 49, 50, 51, 52, 53, 54, 55, 56, 57, 58, 59, 8, 60, 61, 62, 63, 64, 65, 66, 67, 68, 69, 70, 71, 72, 73, 74, 75, 76, 77, 78, 79, 80, 81, 82, 83, 84, 85, 86, 87, 88, 89, 90, 91, 92, 93, 94, 95, 96, 97, 98, 99, 100, 101, 102, 103, 104, 105, 106, 107, 108, 109, 110, 111, 112, 113, 114, 115, 116, 117, 118, 119, 120, 121, 122, 123, 124, 125, 126, 127, 128, 129, 130, 131, 132, 133, 134, 135, 136, 137, 138, 139, 140, 141, 167, 168, 169, 170, 171, 172, 173, 174, 175, 176, 177, 178, 179, 180, 181, 182] (by decide +kernel) (by decide +kernel)
set_option maxRecDepth 20000 in
theorem gX10_holds_X7_tell : GoodIn wsX10_holds (wsV RX10 99 RX7 yX7_tell wsX7_tell) := goodIn_app (goodIn_of _ (by decide +kernel)) ggX10_holds_X7_tell
set_option maxRecDepth 20000 in
theorem ggX10_holds_X7_wheel : GoodIn wsX10_holds wsX7_wheel := goodIn_r _ [145, 10, 167, 168, 169, 170, 171, 172, 173] (by decide +kernel) (by decide +kernel)
set_option maxRecDepth 20000 in
theorem gX10_holds_X7_wheel : GoodIn wsX10_holds (wsV RX10 112 RX7 yX7_wheel wsX7_wheel) := goodIn_app (goodIn_of _ (by decide +kernel)) ggX10_holds_X7_wheel
set_option maxRecDepth 20000 in
theorem ggX10_holds_X6_areTrue : GoodIn wsX10_holds wsX6_areTrue := goodIn_r _ [150, 151, 152, 153, 55, 29, 56, 154, 155, 156, 20, 157, 23, 183, 184, 185, 174, 175, 176, 177, 178, 179] (by decide +kernel) (by decide +kernel)
set_option maxRecDepth 20000 in
theorem gX10_holds_X6_areTrue : GoodIn wsX10_holds (wsV RX10 278 RX6 yX6_areTrue wsX6_areTrue) := goodIn_app (goodIn_of _ (by decide +kernel)) ggX10_holds_X6_areTrue
theorem dX10_holds_0 : decode cX10_holds 0 = .ok (.aload_n 0, 1) := by decide +kernel
theorem dX10_holds_1 : decode cX10_holds 1 = .ok (.getfield 36, 3) := by decide +kernel
theorem dX10_holds_4 : decode cX10_holds 4 = .ok (.aload_n 0, 1) := by decide +kernel
theorem dX10_holds_5 : decode cX10_holds 5 = .ok (.getfield 10, 3) := by decide +kernel
theorem dX10_holds_8 : decode cX10_holds 8 = .ok (.aload_n 0, 1) := by decide +kernel
theorem dX10_holds_9 : decode cX10_holds 9 = .ok (.getfield 22, 3) := by decide +kernel
theorem dX10_holds_12 : decode cX10_holds 12 = .ok (.bipush (-6), 2) := by decide +kernel
theorem dX10_holds_14 : decode cX10_holds 14 = .ok (.iload_n 1, 1) := by decide +kernel
theorem dX10_holds_15 : decode cX10_holds 15 = .ok (.invokevirtual 99, 3) := by decide +kernel
theorem dX10_holds_18 : decode cX10_holds 18 = .ok (.ifCond .eq 24, 3) := by decide +kernel
theorem dX10_holds_21 : decode cX10_holds 21 = .ok (.aload_n 0, 1) := by decide +kernel
theorem dX10_holds_22 : decode cX10_holds 22 = .ok (.getfield 29, 3) := by decide +kernel
theorem dX10_holds_25 : decode cX10_holds 25 = .ok (.aload_n 0, 1) := by decide +kernel
theorem dX10_holds_26 : decode cX10_holds 26 = .ok (.getfield 36, 3) := by decide +kernel
theorem dX10_holds_29 : decode cX10_holds 29 = .ok (.invokevirtual 112, 3) := by decide +kernel
theorem dX10_holds_32 : decode cX10_holds 32 = .ok (.invokevirtual 278, 3) := by decide +kernel
theorem dX10_holds_35 : decode cX10_holds 35 = .ok (.ifCond .eq 7, 3) := by decide +kernel
theorem dX10_holds_38 : decode cX10_holds 38 = .ok (.iconst 1, 1) := by decide +kernel
theorem dX10_holds_39 : decode cX10_holds 39 = .ok (.goto 4, 3) := by decide +kernel
theorem dX10_holds_42 : decode cX10_holds 42 = .ok (.iconst 0, 1) := by decide +kernel
theorem dX10_holds_43 : decode cX10_holds 43 = .ok (.ireturn, 1) := by decide +kernel
theorem dX11_init_0 : decode cX11_init 0 = .ok (.aload_n 0, 1) := by decide +kernel
theorem dX11_init_1 : decode cX11_init 1 = .ok (.invokespecial 1, 3) := by decide +kernel
theorem dX11_init_4 : decode cX11_init 4 = .ok (.aload_n 0, 1) := by decide +kernel
theorem dX11_init_5 : decode cX11_init 5 = .ok (.bipush 8, 2) := by decide +kernel
theorem dX11_init_7 : decode cX11_init 7 = .ok (.newarray .int, 2) := by decide +kernel
theorem dX11_init_9 : decode cX11_init 9 = .ok (.putfield 7, 3) := by decide +kernel
theorem dX11_init_12 : decode cX11_init 12 = .ok (.aload_n 0, 1) := by decide +kernel
theorem dX11_init_13 : decode cX11_init 13 = .ok (.bipush 8, 2) := by decide +kernel
theorem dX11_init_15 : decode cX11_init 15 = .ok (.newarray .int, 2) := by decide +kernel
theorem dX11_init_17 : decode cX11_init 17 = .ok (.putfield 13, 3) := by decide +kernel
theorem dX11_init_20 : decode cX11_init 20 = .ok (.aload_n 0, 1) := by decide +kernel
theorem dX11_init_21 : decode cX11_init 21 = .ok (.bipush 8, 2) := by decide +kernel
theorem dX11_init_23 : decode cX11_init 23 = .ok (.newarray .int, 2) := by decide +kernel
theorem dX11_init_25 : decode cX11_init 25 = .ok (.putfield 16, 3) := by decide +kernel
theorem dX11_init_28 : decode cX11_init 28 = .ok (.aload_n 0, 1) := by decide +kernel
theorem dX11_init_29 : decode cX11_init 29 = .ok (.bipush 20, 2) := by decide +kernel
theorem dX11_init_31 : decode cX11_init 31 = .ok (.putfield 19, 3) := by decide +kernel
theorem dX11_init_34 : decode cX11_init 34 = .ok (.aload_n 0, 1) := by decide +kernel
theorem dX11_init_35 : decode cX11_init 35 = .ok (.bipush 12, 2) := by decide +kernel
theorem dX11_init_37 : decode cX11_init 37 = .ok (.newarray .int, 2) := by decide +kernel
theorem dX11_init_39 : decode cX11_init 39 = .ok (.putfield 23, 3) := by decide +kernel
theorem dX11_init_42 : decode cX11_init 42 = .ok (.aload_n 0, 1) := by decide +kernel
theorem dX11_init_43 : decode cX11_init 43 = .ok (.bipush 60, 2) := by decide +kernel
theorem dX11_init_45 : decode cX11_init 45 = .ok (.newarray .int, 2) := by decide +kernel
theorem dX11_init_47 : decode cX11_init 47 = .ok (.putfield 26, 3) := by decide +kernel
theorem dX11_init_50 : decode cX11_init 50 = .ok (.aload_n 0, 1) := by decide +kernel
theorem dX11_init_51 : decode cX11_init 51 = .ok (.bipush 8, 2) := by decide +kernel
theorem dX11_init_53 : decode cX11_init 53 = .ok (.newarray .int, 2) := by decide +kernel
theorem dX11_init_55 : decode cX11_init 55 = .ok (.putfield 29, 3) := by decide +kernel
theorem dX11_init_58 : decode cX11_init 58 = .ok (.aload_n 0, 1) := by decide +kernel
theorem dX11_init_59 : decode cX11_init 59 = .ok (.bipush 8, 2) := by decide +kernel
theorem dX11_init_61 : decode cX11_init 61 = .ok (.newarray .int, 2) := by decide +kernel
theorem dX11_init_63 : decode cX11_init 63 = .ok (.putfield 32, 3) := by decide +kernel
theorem dX11_init_66 : decode cX11_init 66 = .ok (.aload_n 0, 1) := by decide +kernel
theorem dX11_init_67 : decode cX11_init 67 = .ok (.bipush 80, 2) := by decide +kernel
theorem dX11_init_69 : decode cX11_init 69 = .ok (.newarray .int, 2) := by decide +kernel
theorem dX11_init_71 : decode cX11_init 71 = .ok (.putfield 35, 3) := by decide +kernel
theorem dX11_init_74 : decode cX11_init 74 = .ok (.aload_n 0, 1) := by decide +kernel
theorem dX11_init_75 : decode cX11_init 75 = .ok (.iconst 2, 1) := by decide +kernel
theorem dX11_init_76 : decode cX11_init 76 = .ok (.newarray .boolean, 2) := by decide +kernel
theorem dX11_init_78 : decode cX11_init 78 = .ok (.putfield 38, 3) := by decide +kernel
theorem dX11_init_81 : decode cX11_init 81 = .ok (.iconst 0, 1) := by decide +kernel
theorem dX11_init_82 : decode cX11_init 82 = .ok (.istore_n 1, 1) := by decide +kernel
theorem dX11_init_83 : decode cX11_init 83 = .ok (.iload_n 1, 1) := by decide +kernel
theorem dX11_init_84 : decode cX11_init 84 = .ok (.bipush 8, 2) := by decide +kernel
theorem dX11_init_86 : decode cX11_init 86 = .ok (.if_icmp .ge 25, 3) := by decide +kernel
theorem dX11_init_89 : decode cX11_init 89 = .ok (.aload_n 0, 1) := by decide +kernel
theorem dX11_init_90 : decode cX11_init 90 = .ok (.getfield 7, 3) := by decide +kernel
theorem dX11_init_93 : decode cX11_init 93 = .ok (.iload_n 1, 1) := by decide +kernel
theorem dX11_init_94 : decode cX11_init 94 = .ok (.bipush 10, 2) := by decide +kernel
theorem dX11_init_96 : decode cX11_init 96 = .ok (.iastore, 1) := by decide +kernel
theorem dX11_init_97 : decode cX11_init 97 = .ok (.aload_n 0, 1) := by decide +kernel
theorem dX11_init_98 : decode cX11_init 98 = .ok (.getfield 13, 3) := by decide +kernel
theorem dX11_init_101 : decode cX11_init 101 = .ok (.iload_n 1, 1) := by decide +kernel
theorem dX11_init_102 : decode cX11_init 102 = .ok (.bipush (-6), 2) := by decide +kernel
theorem dX11_init_104 : decode cX11_init 104 = .ok (.iastore, 1) := by decide +kernel
theorem dX11_init_105 : decode cX11_init 105 = .ok (.iinc 1 1, 3) := by decide +kernel
theorem dX11_init_108 : decode cX11_init 108 = .ok (.goto (-25), 3) := by decide +kernel
theorem dX11_init_111 : decode cX11_init 111 = .ok (.return_, 1) := by decide +kernel
theorem dX11_in_0 : decode cX11_in 0 = .ok (.iload_n 0, 1) := by decide +kernel
theorem dX11_in_1 : decode cX11_in 1 = .ok (.iload_n 1, 1) := by decide +kernel
theorem dX11_in_2 : decode cX11_in 2 = .ok (.if_icmp .lt 12, 3) := by decide +kernel
theorem dX11_in_5 : decode cX11_in 5 = .ok (.iload_n 0, 1) := by decide +kernel
theorem dX11_in_6 : decode cX11_in 6 = .ok (.iload_n 2, 1) := by decide +kernel
theorem dX11_in_7 : decode cX11_in 7 = .ok (.if_icmp .gt 7, 3) := by decide +kernel
theorem dX11_in_10 : decode cX11_in 10 = .ok (.iconst 1, 1) := by decide +kernel
theorem dX11_in_11 : decode cX11_in 11 = .ok (.goto 4, 3) := by decide +kernel
theorem dX11_in_14 : decode cX11_in 14 = .ok (.iconst 0, 1) := by decide +kernel
theorem dX11_in_15 : decode cX11_in 15 = .ok (.ireturn, 1) := by decide +kernel
theorem dX11_has_0 : decode cX11_has 0 = .ok (.iload_n 0, 1) := by decide +kernel
theorem dX11_has_1 : decode cX11_has 1 = .ok (.iload_n 1, 1) := by decide +kernel
theorem dX11_has_2 : decode cX11_has 2 = .ok (.ishr, 1) := by decide +kernel
theorem dX11_has_3 : decode cX11_has 3 = .ok (.iconst 1, 1) := by decide +kernel
theorem dX11_has_4 : decode cX11_has 4 = .ok (.iand, 1) := by decide +kernel
theorem dX11_has_5 : decode cX11_has 5 = .ok (.iconst 1, 1) := by decide +kernel
theorem dX11_has_6 : decode cX11_has 6 = .ok (.if_icmp .ne 7, 3) := by decide +kernel
theorem dX11_has_9 : decode cX11_has 9 = .ok (.iconst 1, 1) := by decide +kernel
theorem dX11_has_10 : decode cX11_has 10 = .ok (.goto 4, 3) := by decide +kernel
theorem dX11_has_13 : decode cX11_has 13 = .ok (.iconst 0, 1) := by decide +kernel
theorem dX11_has_14 : decode cX11_has 14 = .ok (.ireturn, 1) := by decide +kernel
set_option maxRecDepth 20000 in
theorem ggX11_is8_X11_in : GoodIn wsX11_is8 wsX11_in := goodIn_r _ [4] (by decide +kernel) (by decide +kernel)
set_option maxRecDepth 20000 in
theorem gX11_is8_X11_in : GoodIn wsX11_is8 (va_wsS RX11 42 yX11_in wsX11_in) := goodIn_app (goodIn_of _ (by decide +kernel)) ggX11_is8_X11_in
theorem dX11_is8_0 : decode cX11_is8 0 = .ok (.iload_n 0, 1) := by decide +kernel
theorem dX11_is8_1 : decode cX11_is8 1 = .ok (.iconst 0, 1) := by decide +kernel
theorem dX11_is8_2 : decode cX11_is8 2 = .ok (.bipush 7, 2) := by decide +kernel
theorem dX11_is8_4 : decode cX11_is8 4 = .ok (.invokestatic 42, 3) := by decide +kernel
theorem dX11_is8_7 : decode cX11_is8 7 = .ok (.ireturn, 1) := by decide +kernel
theorem dX11_arm_0 : decode cX11_arm 0 = .ok (.iload_n 0, 1) := by decide +kernel
theorem dX11_arm_1 : decode cX11_arm 1 = .ok (.iconst 4, 1) := by decide +kernel
theorem dX11_arm_2 : decode cX11_arm 2 = .ok (.if_icmp .ge 7, 3) := by decide +kernel
theorem dX11_arm_5 : decode cX11_arm 5 = .ok (.iload_n 0, 1) := by decide +kernel
theorem dX11_arm_6 : decode cX11_arm 6 = .ok (.goto 6, 3) := by decide +kernel
theorem dX11_arm_9 : decode cX11_arm 9 = .ok (.iload_n 0, 1) := by decide +kernel
theorem dX11_arm_10 : decode cX11_arm 10 = .ok (.iconst 4, 1) := by decide +kernel
theorem dX11_arm_11 : decode cX11_arm 11 = .ok (.isub, 1) := by decide +kernel
theorem dX11_arm_12 : decode cX11_arm 12 = .ok (.istore_n 1, 1) := by decide +kernel
theorem dX11_arm_13 : decode cX11_arm 13 = .ok (.iload_n 1, 1) := by decide +kernel
theorem dX11_arm_14 : decode cX11_arm 14 = .ok (.ifCond .ne 7, 3) := by decide +kernel
theorem dX11_arm_17 : decode cX11_arm 17 = .ok (.iconst 0, 1) := by decide +kernel
theorem dX11_arm_18 : decode cX11_arm 18 = .ok (.goto 15, 3) := by decide +kernel
theorem dX11_arm_21 : decode cX11_arm 21 = .ok (.iload_n 1, 1) := by decide +kernel
theorem dX11_arm_22 : decode cX11_arm 22 = .ok (.iconst 2, 1) := by decide +kernel
theorem dX11_arm_23 : decode cX11_arm 23 = .ok (.if_icmp .ne 8, 3) := by decide +kernel
theorem dX11_arm_26 : decode cX11_arm 26 = .ok (.bipush 10, 2) := by decide +kernel
theorem dX11_arm_28 : decode cX11_arm 28 = .ok (.goto 5, 3) := by decide +kernel
theorem dX11_arm_31 : decode cX11_arm 31 = .ok (.bipush 7, 2) := by decide +kernel
theorem dX11_arm_33 : decode cX11_arm 33 = .ok (.istore_n 2, 1) := by decide +kernel
theorem dX11_arm_34 : decode cX11_arm 34 = .ok (.iload_n 0, 1) := by decide +kernel
theorem dX11_arm_35 : decode cX11_arm 35 = .ok (.iconst 4, 1) := by decide +kernel
theorem dX11_arm_36 : decode cX11_arm 36 = .ok (.if_icmp .ge 7, 3) := by decide +kernel
theorem dX11_arm_39 : decode cX11_arm 39 = .ok (.iload_n 2, 1) := by decide +kernel
theorem dX11_arm_40 : decode cX11_arm 40 = .ok (.goto 5, 3) := by decide +kernel
theorem dX11_arm_43 : decode cX11_arm 43 = .ok (.iload_n 2, 1) := by decide +kernel
theorem dX11_arm_44 : decode cX11_arm 44 = .ok (.ineg, 1) := by decide +kernel
theorem dX11_arm_45 : decode cX11_arm 45 = .ok (.ireturn, 1) := by decide +kernel
set_option maxRecDepth 20000 in
theorem ggX11_weigh_X11_is8 : GoodIn wsX11_weigh wsX11_is8 := goodIn_r _ [5, 6, 7, 4, 8] (by decide +kernel) (by decide +kernel)
set_option maxRecDepth 20000 in
theorem gX11_weigh_X11_is8 : GoodIn wsX11_weigh (va_wsS RX11 46 yX11_is8 wsX11_is8) := goodIn_app (goodIn_of _ (by decide +kernel)) ggX11_weigh_X11_is8
set_option maxRecDepth 20000 in
theorem ggX11_weigh_X11_in : GoodIn wsX11_weigh wsX11_in := goodIn_r _ [8] (by decide +kernel) (by decide +kernel)
set_option maxRecDepth 20000 in
theorem gX11_weigh_X11_in : GoodIn wsX11_weigh (va_wsS RX11 42 yX11_in wsX11_in) := goodIn_app (goodIn_of _ (by decide +kernel)) ggX11_weigh_X11_in
theorem dX11_weigh_0 : decode cX11_weigh 0 = .ok (.iload_n 1, 1) := by decide +kernel
theorem dX11_weigh_1 : decode cX11_weigh 1 = .ok (.invokestatic 46, 3) := by decide +kernel
theorem dX11_weigh_4 : decode cX11_weigh 4 = .ok (.ifCond .ne 5, 3) := by decide +kernel
theorem dX11_weigh_7 : decode cX11_weigh 7 = .ok (.iconst (-1), 1) := by decide +kernel
theorem dX11_weigh_8 : decode cX11_weigh 8 = .ok (.ireturn, 1) := by decide +kernel
theorem dX11_weigh_9 : decode cX11_weigh 9 = .ok (.iload_n 2, 1) := by decide +kernel
theorem dX11_weigh_10 : decode cX11_weigh 10 = .ok (.iconst 1, 1) := by decide +kernel
theorem dX11_weigh_11 : decode cX11_weigh 11 = .ok (.bipush 99, 2) := by decide +kernel
theorem dX11_weigh_13 : decode cX11_weigh 13 = .ok (.invokestatic 42, 3) := by decide +kernel
theorem dX11_weigh_16 : decode cX11_weigh 16 = .ok (.ifCond .ne 6, 3) := by decide +kernel
theorem dX11_weigh_19 : decode cX11_weigh 19 = .ok (.bipush (-2), 2) := by decide +kernel
theorem dX11_weigh_21 : decode cX11_weigh 21 = .ok (.ireturn, 1) := by decide +kernel
theorem dX11_weigh_22 : decode cX11_weigh 22 = .ok (.aload_n 0, 1) := by decide +kernel
theorem dX11_weigh_23 : decode cX11_weigh 23 = .ok (.getfield 7, 3) := by decide +kernel
theorem dX11_weigh_26 : decode cX11_weigh 26 = .ok (.iload_n 1, 1) := by decide +kernel
theorem dX11_weigh_27 : decode cX11_weigh 27 = .ok (.iaload, 1) := by decide +kernel
theorem dX11_weigh_28 : decode cX11_weigh 28 = .ok (.istore_n 3, 1) := by decide +kernel
theorem dX11_weigh_29 : decode cX11_weigh 29 = .ok (.aload_n 0, 1) := by decide +kernel
theorem dX11_weigh_30 : decode cX11_weigh 30 = .ok (.getfield 7, 3) := by decide +kernel
theorem dX11_weigh_33 : decode cX11_weigh 33 = .ok (.iload_n 1, 1) := by decide +kernel
theorem dX11_weigh_34 : decode cX11_weigh 34 = .ok (.iload_n 2, 1) := by decide +kernel
theorem dX11_weigh_35 : decode cX11_weigh 35 = .ok (.iastore, 1) := by decide +kernel
theorem dX11_weigh_36 : decode cX11_weigh 36 = .ok (.iload_n 3, 1) := by decide +kernel
theorem dX11_weigh_37 : decode cX11_weigh 37 = .ok (.ireturn, 1) := by decide +kernel
set_option maxRecDepth 20000 in
theorem ggX11_drag_X11_in : GoodIn wsX11_drag wsX11_in := goodIn_r _ [5] (by decide +kernel) (by decide +kernel)
set_option maxRecDepth 20000 in
theorem gX11_drag_X11_in : GoodIn wsX11_drag (va_wsS RX11 42 yX11_in wsX11_in) := goodIn_app (goodIn_of _ (by decide +kernel)) ggX11_drag_X11_in
theorem dX11_drag_0 : decode cX11_drag 0 = .ok (.iload_n 1, 1) := by decide +kernel
theorem dX11_drag_1 : decode cX11_drag 1 = .ok (.iconst 0, 1) := by decide +kernel
theorem dX11_drag_2 : decode cX11_drag 2 = .ok (.sipush 9999, 3) := by decide +kernel
theorem dX11_drag_5 : decode cX11_drag 5 = .ok (.invokestatic 42, 3) := by decide +kernel
theorem dX11_drag_8 : decode cX11_drag 8 = .ok (.ifCond .ne 6, 3) := by decide +kernel
theorem dX11_drag_11 : decode cX11_drag 11 = .ok (.bipush (-2), 2) := by decide +kernel
theorem dX11_drag_13 : decode cX11_drag 13 = .ok (.ireturn, 1) := by decide +kernel
theorem dX11_drag_14 : decode cX11_drag 14 = .ok (.aload_n 0, 1) := by decide +kernel
theorem dX11_drag_15 : decode cX11_drag 15 = .ok (.getfield 19, 3) := by decide +kernel
theorem dX11_drag_18 : decode cX11_drag 18 = .ok (.istore_n 2, 1) := by decide +kernel
theorem dX11_drag_19 : decode cX11_drag 19 = .ok (.aload_n 0, 1) := by decide +kernel
theorem dX11_drag_20 : decode cX11_drag 20 = .ok (.iload_n 1, 1) := by decide +kernel
theorem dX11_drag_21 : decode cX11_drag 21 = .ok (.putfield 19, 3) := by decide +kernel
theorem dX11_drag_24 : decode cX11_drag 24 = .ok (.iload_n 2, 1) := by decide +kernel
theorem dX11_drag_25 : decode cX11_drag 25 = .ok (.ireturn, 1) := by decide +kernel
set_option maxRecDepth 20000 in
theorem ggX11_say_X11_in : GoodIn wsX11_say wsX11_in := goodIn_r _ [6] (by decide +kernel) (by decide +kernel)
set_option maxRecDepth 20000 in
theorem gX11_say_X11_in : GoodIn wsX11_say (va_wsS RX11 42 yX11_in wsX11_in) := goodIn_app (goodIn_of _ (by decide +kernel)) ggX11_say_X11_in
theorem dX11_say_0 : decode cX11_say 0 = .ok (.iload_n 1, 1) := by decide +kernel
theorem dX11_say_1 : decode cX11_say 1 = .ok (.bipush 33, 2) := by decide +kernel
theorem dX11_say_3 : decode cX11_say 3 = .ok (.bipush 126, 2) := by decide +kernel
theorem dX11_say_5 : decode cX11_say 5 = .ok (.invokestatic 42, 3) := by decide +kernel
theorem dX11_say_8 : decode cX11_say 8 = .ok (.ifCond .ne 6, 3) := by decide +kernel
theorem dX11_say_11 : decode cX11_say 11 = .ok (.bipush (-2), 2) := by decide +kernel
theorem dX11_say_13 : decode cX11_say 13 = .ok (.ireturn, 1) := by decide +kernel
theorem dX11_say_14 : decode cX11_say 14 = .ok (.aload_n 0, 1) := by decide +kernel
theorem dX11_say_15 : decode cX11_say 15 = .ok (.getfield 50, 3) := by decide +kernel
theorem dX11_say_18 : decode cX11_say 18 = .ok (.bipush 60, 2) := by decide +kernel
theorem dX11_say_20 : decode cX11_say 20 = .ok (.if_icmp .ne 6, 3) := by decide +kernel
theorem dX11_say_23 : decode cX11_say 23 = .ok (.bipush (-4), 2) := by decide +kernel
theorem dX11_say_25 : decode cX11_say 25 = .ok (.ireturn, 1) := by decide +kernel
theorem dX11_say_26 : decode cX11_say 26 = .ok (.aload_n 0, 1) := by decide +kernel
theorem dX11_say_27 : decode cX11_say 27 = .ok (.getfield 26, 3) := by decide +kernel
theorem dX11_say_30 : decode cX11_say 30 = .ok (.aload_n 0, 1) := by decide +kernel
theorem dX11_say_31 : decode cX11_say 31 = .ok (.getfield 50, 3) := by decide +kernel
theorem dX11_say_34 : decode cX11_say 34 = .ok (.iload_n 1, 1) := by decide +kernel
theorem dX11_say_35 : decode cX11_say 35 = .ok (.iastore, 1) := by decide +kernel
theorem dX11_say_36 : decode cX11_say 36 = .ok (.aload_n 0, 1) := by decide +kernel
theorem dX11_say_37 : decode cX11_say 37 = .ok (.dup, 1) := by decide +kernel
theorem dX11_say_38 : decode cX11_say 38 = .ok (.getfield 50, 3) := by decide +kernel
theorem dX11_say_41 : decode cX11_say 41 = .ok (.iconst 1, 1) := by decide +kernel
theorem dX11_say_42 : decode cX11_say 42 = .ok (.iadd, 1) := by decide +kernel
theorem dX11_say_43 : decode cX11_say 43 = .ok (.putfield 50, 3) := by decide +kernel
theorem dX11_say_46 : decode cX11_say 46 = .ok (.aload_n 0, 1) := by decide +kernel
theorem dX11_say_47 : decode cX11_say 47 = .ok (.getfield 50, 3) := by decide +kernel
theorem dX11_say_50 : decode cX11_say 50 = .ok (.ireturn, 1) := by decide +kernel
theorem dX11_wipe_0 : decode cX11_wipe 0 = .ok (.aload_n 0, 1) := by decide +kernel
theorem dX11_wipe_1 : decode cX11_wipe 1 = .ok (.getfield 50, 3) := by decide +kernel
theorem dX11_wipe_4 : decode cX11_wipe 4 = .ok (.istore_n 1, 1) := by decide +kernel
theorem dX11_wipe_5 : decode cX11_wipe 5 = .ok (.aload_n 0, 1) := by decide +kernel
theorem dX11_wipe_6 : decode cX11_wipe 6 = .ok (.iconst 0, 1) := by decide +kernel
theorem dX11_wipe_7 : decode cX11_wipe 7 = .ok (.putfield 50, 3) := by decide +kernel
theorem dX11_wipe_10 : decode cX11_wipe 10 = .ok (.iload_n 1, 1) := by decide +kernel
theorem dX11_wipe_11 : decode cX11_wipe 11 = .ok (.ireturn, 1) := by decide +kernel
set_option maxRecDepth 20000 in
theorem ggX11_faultOf_X11_in : GoodIn wsX11_faultOf wsX11_in := goodIn_r _ [6] (by decide +kernel) (by decide +kernel)
set_option maxRecDepth 20000 in
theorem gX11_faultOf_X11_in : GoodIn wsX11_faultOf (va_wsS RX11 42 yX11_in wsX11_in) := goodIn_app (goodIn_of _ (by decide +kernel)) ggX11_faultOf_X11_in
theorem dX11_faultOf_0 : decode cX11_faultOf 0 = .ok (.iconst 0, 1) := by decide +kernel
theorem dX11_faultOf_1 : decode cX11_faultOf 1 = .ok (.istore_n 1, 1) := by decide +kernel
theorem dX11_faultOf_2 : decode cX11_faultOf 2 = .ok (.iconst 0, 1) := by decide +kernel
theorem dX11_faultOf_3 : decode cX11_faultOf 3 = .ok (.istore_n 2, 1) := by decide +kernel
theorem dX11_faultOf_4 : decode cX11_faultOf 4 = .ok (.iload_n 2, 1) := by decide +kernel
theorem dX11_faultOf_5 : decode cX11_faultOf 5 = .ok (.aload_n 0, 1) := by decide +kernel
theorem dX11_faultOf_6 : decode cX11_faultOf 6 = .ok (.getfield 50, 3) := by decide +kernel
theorem dX11_faultOf_9 : decode cX11_faultOf 9 = .ok (.if_icmp .ge 106, 3) := by decide +kernel
theorem dX11_faultOf_12 : decode cX11_faultOf 12 = .ok (.aload_n 0, 1) := by decide +kernel
theorem dX11_faultOf_13 : decode cX11_faultOf 13 = .ok (.getfield 26, 3) := by decide +kernel
theorem dX11_faultOf_16 : decode cX11_faultOf 16 = .ok (.iload_n 2, 1) := by decide +kernel
theorem dX11_faultOf_17 : decode cX11_faultOf 17 = .ok (.iaload, 1) := by decide +kernel
theorem dX11_faultOf_18 : decode cX11_faultOf 18 = .ok (.istore_n 3, 1) := by decide +kernel
theorem dX11_faultOf_19 : decode cX11_faultOf 19 = .ok (.iload_n 1, 1) := by decide +kernel
theorem dX11_faultOf_20 : decode cX11_faultOf 20 = .ok (.iload_n 3, 1) := by decide +kernel
theorem dX11_faultOf_21 : decode cX11_faultOf 21 = .ok (.bipush 63, 2) := by decide +kernel
theorem dX11_faultOf_23 : decode cX11_faultOf 23 = .ok (.if_icmp .ne 7, 3) := by decide +kernel
theorem dX11_faultOf_26 : decode cX11_faultOf 26 = .ok (.iconst 1, 1) := by decide +kernel
theorem dX11_faultOf_27 : decode cX11_faultOf 27 = .ok (.goto 4, 3) := by decide +kernel
theorem dX11_faultOf_30 : decode cX11_faultOf 30 = .ok (.iconst 0, 1) := by decide +kernel
theorem dX11_faultOf_31 : decode cX11_faultOf 31 = .ok (.iadd, 1) := by decide +kernel
theorem dX11_faultOf_32 : decode cX11_faultOf 32 = .ok (.istore_n 1, 1) := by decide +kernel
theorem dX11_faultOf_33 : decode cX11_faultOf 33 = .ok (.iload_n 3, 1) := by decide +kernel
theorem dX11_faultOf_34 : decode cX11_faultOf 34 = .ok (.bipush 65, 2) := by decide +kernel
theorem dX11_faultOf_36 : decode cX11_faultOf 36 = .ok (.bipush 72, 2) := by decide +kernel
theorem dX11_faultOf_38 : decode cX11_faultOf 38 = .ok (.invokestatic 42, 3) := by decide +kernel
theorem dX11_faultOf_41 : decode cX11_faultOf 41 = .ok (.ifCond .ne 54, 3) := by decide +kernel
theorem dX11_faultOf_44 : decode cX11_faultOf 44 = .ok (.iload_n 3, 1) := by decide +kernel
theorem dX11_faultOf_45 : decode cX11_faultOf 45 = .ok (.bipush 97, 2) := by decide +kernel
theorem dX11_faultOf_47 : decode cX11_faultOf 47 = .ok (.bipush 104, 2) := by decide +kernel
theorem dX11_faultOf_49 : decode cX11_faultOf 49 = .ok (.invokestatic 42, 3) := by decide +kernel
theorem dX11_faultOf_52 : decode cX11_faultOf 52 = .ok (.ifCond .ne 43, 3) := by decide +kernel
theorem dX11_faultOf_55 : decode cX11_faultOf 55 = .ok (.iload_n 3, 1) := by decide +kernel
theorem dX11_faultOf_56 : decode cX11_faultOf 56 = .ok (.bipush 48, 2) := by decide +kernel
theorem dX11_faultOf_58 : decode cX11_faultOf 58 = .ok (.bipush 57, 2) := by decide +kernel
theorem dX11_faultOf_60 : decode cX11_faultOf 60 = .ok (.invokestatic 42, 3) := by decide +kernel
theorem dX11_faultOf_63 : decode cX11_faultOf 63 = .ok (.ifCond .ne 32, 3) := by decide +kernel
theorem dX11_faultOf_66 : decode cX11_faultOf 66 = .ok (.iload_n 3, 1) := by decide +kernel
theorem dX11_faultOf_67 : decode cX11_faultOf 67 = .ok (.bipush 94, 2) := by decide +kernel
theorem dX11_faultOf_69 : decode cX11_faultOf 69 = .ok (.if_icmp .eq 26, 3) := by decide +kernel
theorem dX11_faultOf_72 : decode cX11_faultOf 72 = .ok (.iload_n 3, 1) := by decide +kernel
theorem dX11_faultOf_73 : decode cX11_faultOf 73 = .ok (.bipush 60, 2) := by decide +kernel
theorem dX11_faultOf_75 : decode cX11_faultOf 75 = .ok (.if_icmp .eq 20, 3) := by decide +kernel
theorem dX11_faultOf_78 : decode cX11_faultOf 78 = .ok (.iload_n 3, 1) := by decide +kernel
theorem dX11_faultOf_79 : decode cX11_faultOf 79 = .ok (.bipush 62, 2) := by decide +kernel
theorem dX11_faultOf_81 : decode cX11_faultOf 81 = .ok (.if_icmp .eq 14, 3) := by decide +kernel
theorem dX11_faultOf_84 : decode cX11_faultOf 84 = .ok (.iload_n 3, 1) := by decide +kernel
theorem dX11_faultOf_85 : decode cX11_faultOf 85 = .ok (.bipush 63, 2) := by decide +kernel
theorem dX11_faultOf_87 : decode cX11_faultOf 87 = .ok (.if_icmp .ne 12, 3) := by decide +kernel
theorem dX11_faultOf_90 : decode cX11_faultOf 90 = .ok (.iload_n 1, 1) := by decide +kernel
theorem dX11_faultOf_91 : decode cX11_faultOf 91 = .ok (.iconst 4, 1) := by decide +kernel
theorem dX11_faultOf_92 : decode cX11_faultOf 92 = .ok (.if_icmp .ge 7, 3) := by decide +kernel
theorem dX11_faultOf_95 : decode cX11_faultOf 95 = .ok (.iconst 1, 1) := by decide +kernel
theorem dX11_faultOf_96 : decode cX11_faultOf 96 = .ok (.goto 4, 3) := by decide +kernel
theorem dX11_faultOf_99 : decode cX11_faultOf 99 = .ok (.iconst 0, 1) := by decide +kernel
theorem dX11_faultOf_100 : decode cX11_faultOf 100 = .ok (.istore 4, 2) := by decide +kernel
theorem dX11_faultOf_102 : decode cX11_faultOf 102 = .ok (.iload 4, 2) := by decide +kernel
theorem dX11_faultOf_104 : decode cX11_faultOf 104 = .ok (.ifCond .ne 5, 3) := by decide +kernel
theorem dX11_faultOf_107 : decode cX11_faultOf 107 = .ok (.iload_n 2, 1) := by decide +kernel
theorem dX11_faultOf_108 : decode cX11_faultOf 108 = .ok (.ireturn, 1) := by decide +kernel
theorem dX11_faultOf_109 : decode cX11_faultOf 109 = .ok (.iinc 2 1, 3) := by decide +kernel
theorem dX11_faultOf_112 : decode cX11_faultOf 112 = .ok (.goto (-108), 3) := by decide +kernel
theorem dX11_faultOf_115 : decode cX11_faultOf 115 = .ok (.bipush (-6), 2) := by decide +kernel
theorem dX11_faultOf_117 : decode cX11_faultOf 117 = .ok (.ireturn, 1) := by decide +kernel
set_option maxRecDepth 20000 in
theorem ggX11_fault_X11_faultOf : GoodIn wsX11_fault wsX11_faultOf := goodIn_r _ [5, 6, 7, 8, 9, 4, 10, 11, 12, 13, 14, 15, 16, 17, 18, 19, 20, 21, 22, 23, 24, 25, 26, 27] (by decide +kernel) (by decide +kernel)
set_option maxRecDepth 20000 in
theorem gX11_fault_X11_faultOf : GoodIn wsX11_fault (wsV RX11 53 RX11 yX11_faultOf wsX11_faultOf) := goodIn_app (goodIn_of _ (by decide +kernel)) ggX11_fault_X11_faultOf
theorem dX11_fault_0 : decode cX11_fault 0 = .ok (.aload_n 0, 1) := by decide +kernel
theorem dX11_fault_1 : decode cX11_fault 1 = .ok (.invokevirtual 53, 3) := by decide +kernel
theorem dX11_fault_4 : decode cX11_fault 4 = .ok (.ireturn, 1) := by decide +kernel
theorem dX11_opens_0 : decode cX11_opens 0 = .ok (.iconst 0, 1) := by decide +kernel
theorem dX11_opens_1 : decode cX11_opens 1 = .ok (.istore_n 1, 1) := by decide +kernel
theorem dX11_opens_2 : decode cX11_opens 2 = .ok (.iconst 0, 1) := by decide +kernel
theorem dX11_opens_3 : decode cX11_opens 3 = .ok (.istore_n 2, 1) := by decide +kernel
theorem dX11_opens_4 : decode cX11_opens 4 = .ok (.iload_n 2, 1) := by decide +kernel
theorem dX11_opens_5 : decode cX11_opens 5 = .ok (.aload_n 0, 1) := by decide +kernel
theorem dX11_opens_6 : decode cX11_opens 6 = .ok (.getfield 50, 3) := by decide +kernel
theorem dX11_opens_9 : decode cX11_opens 9 = .ok (.if_icmp .ge 28, 3) := by decide +kernel
theorem dX11_opens_12 : decode cX11_opens 12 = .ok (.iload_n 1, 1) := by decide +kernel
theorem dX11_opens_13 : decode cX11_opens 13 = .ok (.aload_n 0, 1) := by decide +kernel
theorem dX11_opens_14 : decode cX11_opens 14 = .ok (.getfield 26, 3) := by decide +kernel
theorem dX11_opens_17 : decode cX11_opens 17 = .ok (.iload_n 2, 1) := by decide +kernel
theorem dX11_opens_18 : decode cX11_opens 18 = .ok (.iaload, 1) := by decide +kernel
theorem dX11_opens_19 : decode cX11_opens 19 = .ok (.bipush 63, 2) := by decide +kernel
theorem dX11_opens_21 : decode cX11_opens 21 = .ok (.if_icmp .ne 7, 3) := by decide +kernel
theorem dX11_opens_24 : decode cX11_opens 24 = .ok (.iconst 1, 1) := by decide +kernel
theorem dX11_opens_25 : decode cX11_opens 25 = .ok (.goto 4, 3) := by decide +kernel
theorem dX11_opens_28 : decode cX11_opens 28 = .ok (.iconst 0, 1) := by decide +kernel
theorem dX11_opens_29 : decode cX11_opens 29 = .ok (.iadd, 1) := by decide +kernel
theorem dX11_opens_30 : decode cX11_opens 30 = .ok (.istore_n 1, 1) := by decide +kernel
theorem dX11_opens_31 : decode cX11_opens 31 = .ok (.iinc 2 1, 3) := by decide +kernel
theorem dX11_opens_34 : decode cX11_opens 34 = .ok (.goto (-30), 3) := by decide +kernel
theorem dX11_opens_37 : decode cX11_opens 37 = .ok (.iload_n 1, 1) := by decide +kernel
theorem dX11_opens_38 : decode cX11_opens 38 = .ok (.ireturn, 1) := by decide +kernel
theorem dX11_asNow_0 : decode cX11_asNow 0 = .ok (.aload_n 0, 1) := by decide +kernel
theorem dX11_asNow_1 : decode cX11_asNow 1 = .ok (.aload_n 0, 1) := by decide +kernel
theorem dX11_asNow_2 : decode cX11_asNow 2 = .ok (.getfield 57, 3) := by decide +kernel
theorem dX11_asNow_5 : decode cX11_asNow 5 = .ok (.putfield 60, 3) := by decide +kernel
theorem dX11_asNow_8 : decode cX11_asNow 8 = .ok (.aload_n 0, 1) := by decide +kernel
theorem dX11_asNow_9 : decode cX11_asNow 9 = .ok (.iconst 0, 1) := by decide +kernel
theorem dX11_asNow_10 : decode cX11_asNow 10 = .ok (.putfield 63, 3) := by decide +kernel
theorem dX11_asNow_13 : decode cX11_asNow 13 = .ok (.aload_n 0, 1) := by decide +kernel
theorem dX11_asNow_14 : decode cX11_asNow 14 = .ok (.iconst 0, 1) := by decide +kernel
theorem dX11_asNow_15 : decode cX11_asNow 15 = .ok (.putfield 66, 3) := by decide +kernel
theorem dX11_asNow_18 : decode cX11_asNow 18 = .ok (.iconst 0, 1) := by decide +kernel
theorem dX11_asNow_19 : decode cX11_asNow 19 = .ok (.istore_n 1, 1) := by decide +kernel
theorem dX11_asNow_20 : decode cX11_asNow 20 = .ok (.iload_n 1, 1) := by decide +kernel
theorem dX11_asNow_21 : decode cX11_asNow 21 = .ok (.bipush 8, 2) := by decide +kernel
theorem dX11_asNow_23 : decode cX11_asNow 23 = .ok (.if_icmp .ge 33, 3) := by decide +kernel
theorem dX11_asNow_26 : decode cX11_asNow 26 = .ok (.aload_n 0, 1) := by decide +kernel
theorem dX11_asNow_27 : decode cX11_asNow 27 = .ok (.getfield 29, 3) := by decide +kernel
theorem dX11_asNow_30 : decode cX11_asNow 30 = .ok (.iload_n 1, 1) := by decide +kernel
theorem dX11_asNow_31 : decode cX11_asNow 31 = .ok (.aload_n 0, 1) := by decide +kernel
theorem dX11_asNow_32 : decode cX11_asNow 32 = .ok (.getfield 13, 3) := by decide +kernel
theorem dX11_asNow_35 : decode cX11_asNow 35 = .ok (.iload_n 1, 1) := by decide +kernel
theorem dX11_asNow_36 : decode cX11_asNow 36 = .ok (.iaload, 1) := by decide +kernel
theorem dX11_asNow_37 : decode cX11_asNow 37 = .ok (.iastore, 1) := by decide +kernel
theorem dX11_asNow_38 : decode cX11_asNow 38 = .ok (.aload_n 0, 1) := by decide +kernel
theorem dX11_asNow_39 : decode cX11_asNow 39 = .ok (.getfield 32, 3) := by decide +kernel
theorem dX11_asNow_42 : decode cX11_asNow 42 = .ok (.iload_n 1, 1) := by decide +kernel
theorem dX11_asNow_43 : decode cX11_asNow 43 = .ok (.aload_n 0, 1) := by decide +kernel
theorem dX11_asNow_44 : decode cX11_asNow 44 = .ok (.getfield 16, 3) := by decide +kernel
theorem dX11_asNow_47 : decode cX11_asNow 47 = .ok (.iload_n 1, 1) := by decide +kernel
theorem dX11_asNow_48 : decode cX11_asNow 48 = .ok (.iaload, 1) := by decide +kernel
theorem dX11_asNow_49 : decode cX11_asNow 49 = .ok (.iastore, 1) := by decide +kernel
theorem dX11_asNow_50 : decode cX11_asNow 50 = .ok (.iinc 1 1, 3) := by decide +kernel
theorem dX11_asNow_53 : decode cX11_asNow 53 = .ok (.goto (-33), 3) := by decide +kernel
theorem dX11_asNow_56 : decode cX11_asNow 56 = .ok (.return_, 1) := by decide +kernel
set_option maxRecDepth 20000 in
theorem ggX11_pullAt_X11_arm : GoodIn wsX11_pullAt wsX11_arm := goodIn_r _ [7] (by decide +kernel) (by decide +kernel)
set_option maxRecDepth 20000 in
theorem gX11_pullAt_X11_arm : GoodIn wsX11_pullAt (va_wsS RX11 69 yX11_arm wsX11_arm) := goodIn_app (goodIn_of _ (by decide +kernel)) ggX11_pullAt_X11_arm
theorem dX11_pullAt_0 : decode cX11_pullAt 0 = .ok (.iconst 0, 1) := by decide +kernel
theorem dX11_pullAt_1 : decode cX11_pullAt 1 = .ok (.istore_n 2, 1) := by decide +kernel
theorem dX11_pullAt_2 : decode cX11_pullAt 2 = .ok (.iconst 0, 1) := by decide +kernel
theorem dX11_pullAt_3 : decode cX11_pullAt 3 = .ok (.istore_n 3, 1) := by decide +kernel
theorem dX11_pullAt_4 : decode cX11_pullAt 4 = .ok (.iload_n 3, 1) := by decide +kernel
theorem dX11_pullAt_5 : decode cX11_pullAt 5 = .ok (.bipush 8, 2) := by decide +kernel
theorem dX11_pullAt_7 : decode cX11_pullAt 7 = .ok (.if_icmp .ge 60, 3) := by decide +kernel
theorem dX11_pullAt_10 : decode cX11_pullAt 10 = .ok (.aload_n 0, 1) := by decide +kernel
theorem dX11_pullAt_11 : decode cX11_pullAt 11 = .ok (.getfield 32, 3) := by decide +kernel
theorem dX11_pullAt_14 : decode cX11_pullAt 14 = .ok (.iload_n 3, 1) := by decide +kernel
theorem dX11_pullAt_15 : decode cX11_pullAt 15 = .ok (.iaload, 1) := by decide +kernel
theorem dX11_pullAt_16 : decode cX11_pullAt 16 = .ok (.aload_n 0, 1) := by decide +kernel
theorem dX11_pullAt_17 : decode cX11_pullAt 17 = .ok (.getfield 29, 3) := by decide +kernel
theorem dX11_pullAt_20 : decode cX11_pullAt 20 = .ok (.iload_n 3, 1) := by decide +kernel
theorem dX11_pullAt_21 : decode cX11_pullAt 21 = .ok (.iaload, 1) := by decide +kernel
theorem dX11_pullAt_22 : decode cX11_pullAt 22 = .ok (.ifCond .ge 7, 3) := by decide +kernel
theorem dX11_pullAt_25 : decode cX11_pullAt 25 = .ok (.iconst 0, 1) := by decide +kernel
theorem dX11_pullAt_26 : decode cX11_pullAt 26 = .ok (.goto 14, 3) := by decide +kernel
theorem dX11_pullAt_29 : decode cX11_pullAt 29 = .ok (.aload_n 0, 1) := by decide +kernel
theorem dX11_pullAt_30 : decode cX11_pullAt 30 = .ok (.getfield 7, 3) := by decide +kernel
theorem dX11_pullAt_33 : decode cX11_pullAt 33 = .ok (.aload_n 0, 1) := by decide +kernel
theorem dX11_pullAt_34 : decode cX11_pullAt 34 = .ok (.getfield 29, 3) := by decide +kernel
theorem dX11_pullAt_37 : decode cX11_pullAt 37 = .ok (.iload_n 3, 1) := by decide +kernel
theorem dX11_pullAt_38 : decode cX11_pullAt 38 = .ok (.iaload, 1) := by decide +kernel
theorem dX11_pullAt_39 : decode cX11_pullAt 39 = .ok (.iaload, 1) := by decide +kernel
theorem dX11_pullAt_40 : decode cX11_pullAt 40 = .ok (.iadd, 1) := by decide +kernel
theorem dX11_pullAt_41 : decode cX11_pullAt 41 = .ok (.istore 4, 2) := by decide +kernel
theorem dX11_pullAt_43 : decode cX11_pullAt 43 = .ok (.iload_n 2, 1) := by decide +kernel
theorem dX11_pullAt_44 : decode cX11_pullAt 44 = .ok (.iload 4, 2) := by decide +kernel
theorem dX11_pullAt_46 : decode cX11_pullAt 46 = .ok (.iload_n 3, 1) := by decide +kernel
theorem dX11_pullAt_47 : decode cX11_pullAt 47 = .ok (.iload_n 1, 1) := by decide +kernel
theorem dX11_pullAt_48 : decode cX11_pullAt 48 = .ok (.isub, 1) := by decide +kernel
theorem dX11_pullAt_49 : decode cX11_pullAt 49 = .ok (.bipush 8, 2) := by decide +kernel
theorem dX11_pullAt_51 : decode cX11_pullAt 51 = .ok (.iadd, 1) := by decide +kernel
theorem dX11_pullAt_52 : decode cX11_pullAt 52 = .ok (.bipush 8, 2) := by decide +kernel
theorem dX11_pullAt_54 : decode cX11_pullAt 54 = .ok (.irem, 1) := by decide +kernel
theorem dX11_pullAt_55 : decode cX11_pullAt 55 = .ok (.invokestatic 69, 3) := by decide +kernel
theorem dX11_pullAt_58 : decode cX11_pullAt 58 = .ok (.imul, 1) := by decide +kernel
theorem dX11_pullAt_59 : decode cX11_pullAt 59 = .ok (.iadd, 1) := by decide +kernel
theorem dX11_pullAt_60 : decode cX11_pullAt 60 = .ok (.istore_n 2, 1) := by decide +kernel
theorem dX11_pullAt_61 : decode cX11_pullAt 61 = .ok (.iinc 3 1, 3) := by decide +kernel
theorem dX11_pullAt_64 : decode cX11_pullAt 64 = .ok (.goto (-60), 3) := by decide +kernel
theorem dX11_pullAt_67 : decode cX11_pullAt 67 = .ok (.iload_n 2, 1) := by decide +kernel
theorem dX11_pullAt_68 : decode cX11_pullAt 68 = .ok (.ireturn, 1) := by decide +kernel
set_option maxRecDepth 20000 in
theorem ggX11_letGo_X11_pullAt : GoodIn wsX11_letGo wsX11_pullAt := goodIn_r _ [9, 10, 11, 12, 13, 14, 8, 15, 16, 17, 18, 19, 20, 21, 22, 23, 24, 25, 26, 27, 28, 29, 30, 31, 32] (by decide +kernel) (by decide +kernel)
set_option maxRecDepth 20000 in
theorem gX11_letGo_X11_pullAt : GoodIn wsX11_letGo (wsV RX11 73 RX11 yX11_pullAt wsX11_pullAt) := goodIn_app (goodIn_of _ (by decide +kernel)) ggX11_letGo_X11_pullAt
theorem dX11_letGo_0 : decode cX11_letGo 0 = .ok (.aload_n 0, 1) := by decide +kernel
theorem dX11_letGo_1 : decode cX11_letGo 1 = .ok (.aload_n 0, 1) := by decide +kernel
theorem dX11_letGo_2 : decode cX11_letGo 2 = .ok (.getfield 60, 3) := by decide +kernel
theorem dX11_letGo_5 : decode cX11_letGo 5 = .ok (.invokevirtual 73, 3) := by decide +kernel
theorem dX11_letGo_8 : decode cX11_letGo 8 = .ok (.istore_n 1, 1) := by decide +kernel
theorem dX11_letGo_9 : decode cX11_letGo 9 = .ok (.iload_n 1, 1) := by decide +kernel
theorem dX11_letGo_10 : decode cX11_letGo 10 = .ok (.aload_n 0, 1) := by decide +kernel
theorem dX11_letGo_11 : decode cX11_letGo 11 = .ok (.getfield 19, 3) := by decide +kernel
theorem dX11_letGo_14 : decode cX11_letGo 14 = .ok (.if_icmp .le 7, 3) := by decide +kernel
theorem dX11_letGo_17 : decode cX11_letGo 17 = .ok (.iconst 1, 1) := by decide +kernel
theorem dX11_letGo_18 : decode cX11_letGo 18 = .ok (.goto 17, 3) := by decide +kernel
theorem dX11_letGo_21 : decode cX11_letGo 21 = .ok (.iload_n 1, 1) := by decide +kernel
theorem dX11_letGo_22 : decode cX11_letGo 22 = .ok (.aload_n 0, 1) := by decide +kernel
theorem dX11_letGo_23 : decode cX11_letGo 23 = .ok (.getfield 19, 3) := by decide +kernel
theorem dX11_letGo_26 : decode cX11_letGo 26 = .ok (.ineg, 1) := by decide +kernel
theorem dX11_letGo_27 : decode cX11_letGo 27 = .ok (.if_icmp .ge 7, 3) := by decide +kernel
theorem dX11_letGo_30 : decode cX11_letGo 30 = .ok (.iconst (-1), 1) := by decide +kernel
theorem dX11_letGo_31 : decode cX11_letGo 31 = .ok (.goto 4, 3) := by decide +kernel
theorem dX11_letGo_34 : decode cX11_letGo 34 = .ok (.iconst 0, 1) := by decide +kernel
theorem dX11_letGo_35 : decode cX11_letGo 35 = .ok (.istore_n 2, 1) := by decide +kernel
theorem dX11_letGo_36 : decode cX11_letGo 36 = .ok (.iload_n 2, 1) := by decide +kernel
theorem dX11_letGo_37 : decode cX11_letGo 37 = .ok (.aload_n 0, 1) := by decide +kernel
theorem dX11_letGo_38 : decode cX11_letGo 38 = .ok (.aload_n 0, 1) := by decide +kernel
theorem dX11_letGo_39 : decode cX11_letGo 39 = .ok (.getfield 60, 3) := by decide +kernel
theorem dX11_letGo_42 : decode cX11_letGo 42 = .ok (.invokevirtual 73, 3) := by decide +kernel
theorem dX11_letGo_45 : decode cX11_letGo 45 = .ok (.imul, 1) := by decide +kernel
theorem dX11_letGo_46 : decode cX11_letGo 46 = .ok (.aload_n 0, 1) := by decide +kernel
theorem dX11_letGo_47 : decode cX11_letGo 47 = .ok (.getfield 19, 3) := by decide +kernel
theorem dX11_letGo_50 : decode cX11_letGo 50 = .ok (.if_icmp .le 42, 3) := by decide +kernel
theorem dX11_letGo_53 : decode cX11_letGo 53 = .ok (.aload_n 0, 1) := by decide +kernel
theorem dX11_letGo_54 : decode cX11_letGo 54 = .ok (.aload_n 0, 1) := by decide +kernel
theorem dX11_letGo_55 : decode cX11_letGo 55 = .ok (.getfield 60, 3) := by decide +kernel
theorem dX11_letGo_58 : decode cX11_letGo 58 = .ok (.iload_n 2, 1) := by decide +kernel
theorem dX11_letGo_59 : decode cX11_letGo 59 = .ok (.iadd, 1) := by decide +kernel
theorem dX11_letGo_60 : decode cX11_letGo 60 = .ok (.bipush 8, 2) := by decide +kernel
theorem dX11_letGo_62 : decode cX11_letGo 62 = .ok (.iadd, 1) := by decide +kernel
theorem dX11_letGo_63 : decode cX11_letGo 63 = .ok (.bipush 8, 2) := by decide +kernel
theorem dX11_letGo_65 : decode cX11_letGo 65 = .ok (.irem, 1) := by decide +kernel
theorem dX11_letGo_66 : decode cX11_letGo 66 = .ok (.putfield 60, 3) := by decide +kernel
theorem dX11_letGo_69 : decode cX11_letGo 69 = .ok (.aload_n 0, 1) := by decide +kernel
theorem dX11_letGo_70 : decode cX11_letGo 70 = .ok (.dup, 1) := by decide +kernel
theorem dX11_letGo_71 : decode cX11_letGo 71 = .ok (.getfield 63, 3) := by decide +kernel
theorem dX11_letGo_74 : decode cX11_letGo 74 = .ok (.iload_n 2, 1) := by decide +kernel
theorem dX11_letGo_75 : decode cX11_letGo 75 = .ok (.iadd, 1) := by decide +kernel
theorem dX11_letGo_76 : decode cX11_letGo 76 = .ok (.putfield 63, 3) := by decide +kernel
theorem dX11_letGo_79 : decode cX11_letGo 79 = .ok (.aload_n 0, 1) := by decide +kernel
theorem dX11_letGo_80 : decode cX11_letGo 80 = .ok (.dup, 1) := by decide +kernel
theorem dX11_letGo_81 : decode cX11_letGo 81 = .ok (.getfield 66, 3) := by decide +kernel
theorem dX11_letGo_84 : decode cX11_letGo 84 = .ok (.iconst 1, 1) := by decide +kernel
theorem dX11_letGo_85 : decode cX11_letGo 85 = .ok (.iadd, 1) := by decide +kernel
theorem dX11_letGo_86 : decode cX11_letGo 86 = .ok (.putfield 66, 3) := by decide +kernel
theorem dX11_letGo_89 : decode cX11_letGo 89 = .ok (.goto (-53), 3) := by decide +kernel
theorem dX11_letGo_92 : decode cX11_letGo 92 = .ok (.return_, 1) := by decide +kernel
theorem dX11_carOf_0 : decode cX11_carOf 0 = .ok (.bipush (-6), 2) := by decide +kernel
theorem dX11_carOf_2 : decode cX11_carOf 2 = .ok (.istore_n 2, 1) := by decide +kernel
theorem dX11_carOf_3 : decode cX11_carOf 3 = .ok (.iconst 0, 1) := by decide +kernel
theorem dX11_carOf_4 : decode cX11_carOf 4 = .ok (.istore_n 3, 1) := by decide +kernel
theorem dX11_carOf_5 : decode cX11_carOf 5 = .ok (.iload_n 3, 1) := by decide +kernel
theorem dX11_carOf_6 : decode cX11_carOf 6 = .ok (.bipush 8, 2) := by decide +kernel
theorem dX11_carOf_8 : decode cX11_carOf 8 = .ok (.if_icmp .ge 25, 3) := by decide +kernel
theorem dX11_carOf_11 : decode cX11_carOf 11 = .ok (.aload_n 0, 1) := by decide +kernel
theorem dX11_carOf_12 : decode cX11_carOf 12 = .ok (.getfield 29, 3) := by decide +kernel
theorem dX11_carOf_15 : decode cX11_carOf 15 = .ok (.iload_n 3, 1) := by decide +kernel
theorem dX11_carOf_16 : decode cX11_carOf 16 = .ok (.iaload, 1) := by decide +kernel
theorem dX11_carOf_17 : decode cX11_carOf 17 = .ok (.iload_n 1, 1) := by decide +kernel
theorem dX11_carOf_18 : decode cX11_carOf 18 = .ok (.if_icmp .ne 7, 3) := by decide +kernel
theorem dX11_carOf_21 : decode cX11_carOf 21 = .ok (.iload_n 3, 1) := by decide +kernel
theorem dX11_carOf_22 : decode cX11_carOf 22 = .ok (.goto 4, 3) := by decide +kernel
theorem dX11_carOf_25 : decode cX11_carOf 25 = .ok (.iload_n 2, 1) := by decide +kernel
theorem dX11_carOf_26 : decode cX11_carOf 26 = .ok (.istore_n 2, 1) := by decide +kernel
theorem dX11_carOf_27 : decode cX11_carOf 27 = .ok (.iinc 3 1, 3) := by decide +kernel
theorem dX11_carOf_30 : decode cX11_carOf 30 = .ok (.goto (-25), 3) := by decide +kernel
theorem dX11_carOf_33 : decode cX11_carOf 33 = .ok (.iload_n 2, 1) := by decide +kernel
theorem dX11_carOf_34 : decode cX11_carOf 34 = .ok (.ireturn, 1) := by decide +kernel
set_option maxRecDepth 20000 in
theorem ggX11_goText_X11_asNow : GoodIn wsX11_goText wsX11_asNow := goodIn_r _ [11, 12, 5, 13, 14, 4, 15, 6, 16, 41, 42, 43, 44, 45, 46, 47, 48, 49, 50, 51, 52, 53, 54, 55, 56, 57] (by decide +kernel) (by decide +kernel)
set_option maxRecDepth 20000 in
theorem gX11_goText_X11_asNow : GoodIn wsX11_goText (wsV RX11 76 RX11 yX11_asNow wsX11_asNow) := goodIn_app (goodIn_of _ (by decide +kernel)) ggX11_goText_X11_asNow
set_option maxRecDepth 20000 in
theorem ggX11_goText_X11_opens : GoodIn wsX11_goText wsX11_opens := goodIn_r _ [20, 2, 3, 41, 42, 43, 44, 45, 46, 47, 48, 49, 50, 51, 52, 53, 54, 55, 56, 57] (by decide +kernel) (by decide +kernel)
set_option maxRecDepth 20000 in
theorem gX11_goText_X11_opens : GoodIn wsX11_goText (wsV RX11 82 RX11 yX11_opens wsX11_opens) := goodIn_app (goodIn_of _ (by decide +kernel)) ggX11_goText_X11_opens
set_option maxRecDepth 20000 in
theorem ggX11_goText_X11_in : GoodIn wsX11_goText wsX11_in := goodIn_r _ [23] (by decide +kernel) (by decide +kernel)
set_option maxRecDepth 20000 in
theorem gX11_goText_X11_in : GoodIn wsX11_goText (va_wsS RX11 42 yX11_in wsX11_in) := goodIn_app (goodIn_of _ (by decide +kernel)) ggX11_goText_X11_in
set_option maxRecDepth 20000 in
theorem ggX11_goText_X11_carOf : GoodIn wsX11_goText wsX11_carOf := goodIn_r _ [27, 4, 41, 42, 43, 44, 45, 46, 47, 48, 49, 50, 51, 52, 53, 54, 55, 56, 57] (by decide +kernel) (by decide +kernel)
set_option maxRecDepth 20000 in
theorem gX11_goText_X11_carOf : GoodIn wsX11_goText (wsV RX11 85 RX11 yX11_carOf wsX11_carOf) := goodIn_app (goodIn_of _ (by decide +kernel)) ggX11_goText_X11_carOf
set_option maxRecDepth 20000 in
theorem ggX11_goText_X11_letGo : GoodIn wsX11_goText wsX11_letGo := goodIn_r _ [31, 5, 32, 13, 14, 33, 34, 35, 10, 36, 6, 4, 37, 38, 39, 40, 41, 42, 43, 44, 45, 46, 47, 48, 49, 50, 51, 52, 53, 54, 55, 56, 57] (by decide +kernel) (by decide +kernel)
set_option maxRecDepth 20000 in
theorem gX11_goText_X11_letGo : GoodIn wsX11_goText (wsV RX11 88 RX11 yX11_letGo wsX11_letGo) := goodIn_app (goodIn_of _ (by decide +kernel)) ggX11_goText_X11_letGo
theorem dX11_goText_0 : decode cX11_goText 0 = .ok (.aload_n 0, 1) := by decide +kernel
theorem dX11_goText_1 : decode cX11_goText 1 = .ok (.invokevirtual 76, 3) := by decide +kernel
theorem dX11_goText_4 : decode cX11_goText 4 = .ok (.aload_n 0, 1) := by decide +kernel
theorem dX11_goText_5 : decode cX11_goText 5 = .ok (.iconst 0, 1) := by decide +kernel
theorem dX11_goText_6 : decode cX11_goText 6 = .ok (.putfield 79, 3) := by decide +kernel
theorem dX11_goText_9 : decode cX11_goText 9 = .ok (.iconst 1, 1) := by decide +kernel
theorem dX11_goText_10 : decode cX11_goText 10 = .ok (.istore_n 3, 1) := by decide +kernel
theorem dX11_goText_11 : decode cX11_goText 11 = .ok (.iconst 1, 1) := by decide +kernel
theorem dX11_goText_12 : decode cX11_goText 12 = .ok (.istore 4, 2) := by decide +kernel
theorem dX11_goText_14 : decode cX11_goText 14 = .ok (.iload 4, 2) := by decide +kernel
theorem dX11_goText_16 : decode cX11_goText 16 = .ok (.aload_n 0, 1) := by decide +kernel
theorem dX11_goText_17 : decode cX11_goText 17 = .ok (.invokevirtual 82, 3) := by decide +kernel
theorem dX11_goText_20 : decode cX11_goText 20 = .ok (.if_icmp .ge 14, 3) := by decide +kernel
theorem dX11_goText_23 : decode cX11_goText 23 = .ok (.iload_n 3, 1) := by decide +kernel
theorem dX11_goText_24 : decode cX11_goText 24 = .ok (.bipush 8, 2) := by decide +kernel
theorem dX11_goText_26 : decode cX11_goText 26 = .ok (.imul, 1) := by decide +kernel
theorem dX11_goText_27 : decode cX11_goText 27 = .ok (.istore_n 3, 1) := by decide +kernel
theorem dX11_goText_28 : decode cX11_goText 28 = .ok (.iinc 4 1, 3) := by decide +kernel
theorem dX11_goText_31 : decode cX11_goText 31 = .ok (.goto (-17), 3) := by decide +kernel
theorem dX11_goText_34 : decode cX11_goText 34 = .ok (.iconst 0, 1) := by decide +kernel
theorem dX11_goText_35 : decode cX11_goText 35 = .ok (.istore 4, 2) := by decide +kernel
theorem dX11_goText_37 : decode cX11_goText 37 = .ok (.iload 4, 2) := by decide +kernel
theorem dX11_goText_39 : decode cX11_goText 39 = .ok (.aload_n 0, 1) := by decide +kernel
theorem dX11_goText_40 : decode cX11_goText 40 = .ok (.getfield 50, 3) := by decide +kernel
theorem dX11_goText_43 : decode cX11_goText 43 = .ok (.if_icmp .ge 420, 3) := by decide +kernel
theorem dX11_goText_46 : decode cX11_goText 46 = .ok (.aload_n 0, 1) := by decide +kernel
theorem dX11_goText_47 : decode cX11_goText 47 = .ok (.getfield 26, 3) := by decide +kernel
theorem dX11_goText_50 : decode cX11_goText 50 = .ok (.iload 4, 2) := by decide +kernel
theorem dX11_goText_52 : decode cX11_goText 52 = .ok (.iaload, 1) := by decide +kernel
theorem dX11_goText_53 : decode cX11_goText 53 = .ok (.istore 5, 2) := by decide +kernel
theorem dX11_goText_55 : decode cX11_goText 55 = .ok (.iload 5, 2) := by decide +kernel
theorem dX11_goText_57 : decode cX11_goText 57 = .ok (.bipush 63, 2) := by decide +kernel
theorem dX11_goText_59 : decode cX11_goText 59 = .ok (.if_icmp .eq 15, 3) := by decide +kernel
theorem dX11_goText_62 : decode cX11_goText 62 = .ok (.iload 5, 2) := by decide +kernel
theorem dX11_goText_64 : decode cX11_goText 64 = .ok (.bipush 65, 2) := by decide +kernel
theorem dX11_goText_66 : decode cX11_goText 66 = .ok (.bipush 72, 2) := by decide +kernel
theorem dX11_goText_68 : decode cX11_goText 68 = .ok (.invokestatic 42, 3) := by decide +kernel
theorem dX11_goText_71 : decode cX11_goText 71 = .ok (.ifCond .eq 130, 3) := by decide +kernel
theorem dX11_goText_74 : decode cX11_goText 74 = .ok (.iload 5, 2) := by decide +kernel
theorem dX11_goText_76 : decode cX11_goText 76 = .ok (.bipush 63, 2) := by decide +kernel
theorem dX11_goText_78 : decode cX11_goText 78 = .ok (.if_icmp .ne 12, 3) := by decide +kernel
theorem dX11_goText_81 : decode cX11_goText 81 = .ok (.iload_n 1, 1) := by decide +kernel
theorem dX11_goText_82 : decode cX11_goText 82 = .ok (.iload_n 3, 1) := by decide +kernel
theorem dX11_goText_83 : decode cX11_goText 83 = .ok (.idiv, 1) := by decide +kernel
theorem dX11_goText_84 : decode cX11_goText 84 = .ok (.bipush 8, 2) := by decide +kernel
theorem dX11_goText_86 : decode cX11_goText 86 = .ok (.irem, 1) := by decide +kernel
theorem dX11_goText_87 : decode cX11_goText 87 = .ok (.goto 8, 3) := by decide +kernel
theorem dX11_goText_90 : decode cX11_goText 90 = .ok (.iload 5, 2) := by decide +kernel
theorem dX11_goText_92 : decode cX11_goText 92 = .ok (.bipush 65, 2) := by decide +kernel
theorem dX11_goText_94 : decode cX11_goText 94 = .ok (.isub, 1) := by decide +kernel
theorem dX11_goText_95 : decode cX11_goText 95 = .ok (.istore 6, 2) := by decide +kernel
theorem dX11_goText_97 : decode cX11_goText 97 = .ok (.iload 5, 2) := by decide +kernel
theorem dX11_goText_99 : decode cX11_goText 99 = .ok (.bipush 63, 2) := by decide +kernel
theorem dX11_goText_101 : decode cX11_goText 101 = .ok (.if_icmp .ne 15, 3) := by decide +kernel
theorem dX11_goText_104 : decode cX11_goText 104 = .ok (.iload_n 3, 1) := by decide +kernel
theorem dX11_goText_105 : decode cX11_goText 105 = .ok (.iconst 1, 1) := by decide +kernel
theorem dX11_goText_106 : decode cX11_goText 106 = .ok (.if_icmp .le 10, 3) := by decide +kernel
theorem dX11_goText_109 : decode cX11_goText 109 = .ok (.iload_n 3, 1) := by decide +kernel
theorem dX11_goText_110 : decode cX11_goText 110 = .ok (.bipush 8, 2) := by decide +kernel
theorem dX11_goText_112 : decode cX11_goText 112 = .ok (.idiv, 1) := by decide +kernel
theorem dX11_goText_113 : decode cX11_goText 113 = .ok (.goto 4, 3) := by decide +kernel
theorem dX11_goText_116 : decode cX11_goText 116 = .ok (.iload_n 3, 1) := by decide +kernel
theorem dX11_goText_117 : decode cX11_goText 117 = .ok (.istore_n 3, 1) := by decide +kernel
theorem dX11_goText_118 : decode cX11_goText 118 = .ok (.aload_n 0, 1) := by decide +kernel
theorem dX11_goText_119 : decode cX11_goText 119 = .ok (.iload 4, 2) := by decide +kernel
theorem dX11_goText_121 : decode cX11_goText 121 = .ok (.iload_n 2, 1) := by decide +kernel
theorem dX11_goText_122 : decode cX11_goText 122 = .ok (.if_icmp .ne 7, 3) := by decide +kernel
theorem dX11_goText_125 : decode cX11_goText 125 = .ok (.iconst 0, 1) := by decide +kernel
theorem dX11_goText_126 : decode cX11_goText 126 = .ok (.goto 33, 3) := by decide +kernel
theorem dX11_goText_129 : decode cX11_goText 129 = .ok (.aload_n 0, 1) := by decide +kernel
theorem dX11_goText_130 : decode cX11_goText 130 = .ok (.iload 6, 2) := by decide +kernel
theorem dX11_goText_132 : decode cX11_goText 132 = .ok (.invokevirtual 85, 3) := by decide +kernel
theorem dX11_goText_135 : decode cX11_goText 135 = .ok (.ifCond .lt 7, 3) := by decide +kernel
theorem dX11_goText_138 : decode cX11_goText 138 = .ok (.iconst 1, 1) := by decide +kernel
theorem dX11_goText_139 : decode cX11_goText 139 = .ok (.goto 20, 3) := by decide +kernel
theorem dX11_goText_142 : decode cX11_goText 142 = .ok (.aload_n 0, 1) := by decide +kernel
theorem dX11_goText_143 : decode cX11_goText 143 = .ok (.getfield 29, 3) := by decide +kernel
theorem dX11_goText_146 : decode cX11_goText 146 = .ok (.aload_n 0, 1) := by decide +kernel
theorem dX11_goText_147 : decode cX11_goText 147 = .ok (.getfield 60, 3) := by decide +kernel
theorem dX11_goText_150 : decode cX11_goText 150 = .ok (.iaload, 1) := by decide +kernel
theorem dX11_goText_151 : decode cX11_goText 151 = .ok (.ifCond .lt 7, 3) := by decide +kernel
theorem dX11_goText_154 : decode cX11_goText 154 = .ok (.iconst 2, 1) := by decide +kernel
theorem dX11_goText_155 : decode cX11_goText 155 = .ok (.goto 4, 3) := by decide +kernel
theorem dX11_goText_158 : decode cX11_goText 158 = .ok (.iconst 0, 1) := by decide +kernel
theorem dX11_goText_159 : decode cX11_goText 159 = .ok (.putfield 79, 3) := by decide +kernel
theorem dX11_goText_162 : decode cX11_goText 162 = .ok (.aload_n 0, 1) := by decide +kernel
theorem dX11_goText_163 : decode cX11_goText 163 = .ok (.getfield 29, 3) := by decide +kernel
theorem dX11_goText_166 : decode cX11_goText 166 = .ok (.aload_n 0, 1) := by decide +kernel
theorem dX11_goText_167 : decode cX11_goText 167 = .ok (.getfield 60, 3) := by decide +kernel
theorem dX11_goText_170 : decode cX11_goText 170 = .ok (.aload_n 0, 1) := by decide +kernel
theorem dX11_goText_171 : decode cX11_goText 171 = .ok (.getfield 79, 3) := by decide +kernel
theorem dX11_goText_174 : decode cX11_goText 174 = .ok (.ifCond .ne 14, 3) := by decide +kernel
theorem dX11_goText_177 : decode cX11_goText 177 = .ok (.iload 4, 2) := by decide +kernel
theorem dX11_goText_179 : decode cX11_goText 179 = .ok (.iload_n 2, 1) := by decide +kernel
theorem dX11_goText_180 : decode cX11_goText 180 = .ok (.if_icmp .eq 8, 3) := by decide +kernel
theorem dX11_goText_183 : decode cX11_goText 183 = .ok (.iload 6, 2) := by decide +kernel
theorem dX11_goText_185 : decode cX11_goText 185 = .ok (.goto 12, 3) := by decide +kernel
theorem dX11_goText_188 : decode cX11_goText 188 = .ok (.aload_n 0, 1) := by decide +kernel
theorem dX11_goText_189 : decode cX11_goText 189 = .ok (.getfield 29, 3) := by decide +kernel
theorem dX11_goText_192 : decode cX11_goText 192 = .ok (.aload_n 0, 1) := by decide +kernel
theorem dX11_goText_193 : decode cX11_goText 193 = .ok (.getfield 60, 3) := by decide +kernel
theorem dX11_goText_196 : decode cX11_goText 196 = .ok (.iaload, 1) := by decide +kernel
theorem dX11_goText_197 : decode cX11_goText 197 = .ok (.iastore, 1) := by decide +kernel
theorem dX11_goText_198 : decode cX11_goText 198 = .ok (.goto 249, 3) := by decide +kernel
theorem dX11_goText_201 : decode cX11_goText 201 = .ok (.iload 5, 2) := by decide +kernel
theorem dX11_goText_203 : decode cX11_goText 203 = .ok (.bipush 97, 2) := by decide +kernel
theorem dX11_goText_205 : decode cX11_goText 205 = .ok (.bipush 104, 2) := by decide +kernel
theorem dX11_goText_207 : decode cX11_goText 207 = .ok (.invokestatic 42, 3) := by decide +kernel
theorem dX11_goText_210 : decode cX11_goText 210 = .ok (.ifCond .eq 74, 3) := by decide +kernel
theorem dX11_goText_213 : decode cX11_goText 213 = .ok (.aload_n 0, 1) := by decide +kernel
theorem dX11_goText_214 : decode cX11_goText 214 = .ok (.iload 4, 2) := by decide +kernel
theorem dX11_goText_216 : decode cX11_goText 216 = .ok (.iload_n 2, 1) := by decide +kernel
theorem dX11_goText_217 : decode cX11_goText 217 = .ok (.if_icmp .eq 24, 3) := by decide +kernel
theorem dX11_goText_220 : decode cX11_goText 220 = .ok (.aload_n 0, 1) := by decide +kernel
theorem dX11_goText_221 : decode cX11_goText 221 = .ok (.getfield 29, 3) := by decide +kernel
theorem dX11_goText_224 : decode cX11_goText 224 = .ok (.aload_n 0, 1) := by decide +kernel
theorem dX11_goText_225 : decode cX11_goText 225 = .ok (.getfield 60, 3) := by decide +kernel
theorem dX11_goText_228 : decode cX11_goText 228 = .ok (.iaload, 1) := by decide +kernel
theorem dX11_goText_229 : decode cX11_goText 229 = .ok (.iload 5, 2) := by decide +kernel
theorem dX11_goText_231 : decode cX11_goText 231 = .ok (.bipush 97, 2) := by decide +kernel
theorem dX11_goText_233 : decode cX11_goText 233 = .ok (.isub, 1) := by decide +kernel
theorem dX11_goText_234 : decode cX11_goText 234 = .ok (.if_icmp .eq 7, 3) := by decide +kernel
theorem dX11_goText_237 : decode cX11_goText 237 = .ok (.iconst 3, 1) := by decide +kernel
theorem dX11_goText_238 : decode cX11_goText 238 = .ok (.goto 4, 3) := by decide +kernel
theorem dX11_goText_241 : decode cX11_goText 241 = .ok (.iconst 0, 1) := by decide +kernel
theorem dX11_goText_242 : decode cX11_goText 242 = .ok (.putfield 79, 3) := by decide +kernel
theorem dX11_goText_245 : decode cX11_goText 245 = .ok (.aload_n 0, 1) := by decide +kernel
theorem dX11_goText_246 : decode cX11_goText 246 = .ok (.getfield 29, 3) := by decide +kernel
theorem dX11_goText_249 : decode cX11_goText 249 = .ok (.aload_n 0, 1) := by decide +kernel
theorem dX11_goText_250 : decode cX11_goText 250 = .ok (.getfield 60, 3) := by decide +kernel
theorem dX11_goText_253 : decode cX11_goText 253 = .ok (.aload_n 0, 1) := by decide +kernel
theorem dX11_goText_254 : decode cX11_goText 254 = .ok (.getfield 79, 3) := by decide +kernel
theorem dX11_goText_257 : decode cX11_goText 257 = .ok (.ifCond .ne 14, 3) := by decide +kernel
theorem dX11_goText_260 : decode cX11_goText 260 = .ok (.iload 4, 2) := by decide +kernel
theorem dX11_goText_262 : decode cX11_goText 262 = .ok (.iload_n 2, 1) := by decide +kernel
theorem dX11_goText_263 : decode cX11_goText 263 = .ok (.if_icmp .eq 8, 3) := by decide +kernel
theorem dX11_goText_266 : decode cX11_goText 266 = .ok (.bipush (-6), 2) := by decide +kernel
theorem dX11_goText_268 : decode cX11_goText 268 = .ok (.goto 12, 3) := by decide +kernel
theorem dX11_goText_271 : decode cX11_goText 271 = .ok (.aload_n 0, 1) := by decide +kernel
theorem dX11_goText_272 : decode cX11_goText 272 = .ok (.getfield 29, 3) := by decide +kernel
theorem dX11_goText_275 : decode cX11_goText 275 = .ok (.aload_n 0, 1) := by decide +kernel
theorem dX11_goText_276 : decode cX11_goText 276 = .ok (.getfield 60, 3) := by decide +kernel
theorem dX11_goText_279 : decode cX11_goText 279 = .ok (.iaload, 1) := by decide +kernel
theorem dX11_goText_280 : decode cX11_goText 280 = .ok (.iastore, 1) := by decide +kernel
theorem dX11_goText_281 : decode cX11_goText 281 = .ok (.goto 166, 3) := by decide +kernel
theorem dX11_goText_284 : decode cX11_goText 284 = .ok (.iload 5, 2) := by decide +kernel
theorem dX11_goText_286 : decode cX11_goText 286 = .ok (.bipush 60, 2) := by decide +kernel
theorem dX11_goText_288 : decode cX11_goText 288 = .ok (.if_icmp .eq 10, 3) := by decide +kernel
theorem dX11_goText_291 : decode cX11_goText 291 = .ok (.iload 5, 2) := by decide +kernel
theorem dX11_goText_293 : decode cX11_goText 293 = .ok (.bipush 62, 2) := by decide +kernel
theorem dX11_goText_295 : decode cX11_goText 295 = .ok (.if_icmp .ne 31, 3) := by decide +kernel
theorem dX11_goText_298 : decode cX11_goText 298 = .ok (.aload_n 0, 1) := by decide +kernel
theorem dX11_goText_299 : decode cX11_goText 299 = .ok (.aload_n 0, 1) := by decide +kernel
theorem dX11_goText_300 : decode cX11_goText 300 = .ok (.getfield 60, 3) := by decide +kernel
theorem dX11_goText_303 : decode cX11_goText 303 = .ok (.iload 5, 2) := by decide +kernel
theorem dX11_goText_305 : decode cX11_goText 305 = .ok (.bipush 62, 2) := by decide +kernel
theorem dX11_goText_307 : decode cX11_goText 307 = .ok (.if_icmp .ne 7, 3) := by decide +kernel
theorem dX11_goText_310 : decode cX11_goText 310 = .ok (.iconst 1, 1) := by decide +kernel
theorem dX11_goText_311 : decode cX11_goText 311 = .ok (.goto 5, 3) := by decide +kernel
theorem dX11_goText_314 : decode cX11_goText 314 = .ok (.bipush 7, 2) := by decide +kernel
theorem dX11_goText_316 : decode cX11_goText 316 = .ok (.iadd, 1) := by decide +kernel
theorem dX11_goText_317 : decode cX11_goText 317 = .ok (.bipush 8, 2) := by decide +kernel
theorem dX11_goText_319 : decode cX11_goText 319 = .ok (.irem, 1) := by decide +kernel
theorem dX11_goText_320 : decode cX11_goText 320 = .ok (.putfield 60, 3) := by decide +kernel
theorem dX11_goText_323 : decode cX11_goText 323 = .ok (.goto 124, 3) := by decide +kernel
theorem dX11_goText_326 : decode cX11_goText 326 = .ok (.iload 5, 2) := by decide +kernel
theorem dX11_goText_328 : decode cX11_goText 328 = .ok (.bipush 94, 2) := by decide +kernel
theorem dX11_goText_330 : decode cX11_goText 330 = .ok (.if_icmp .ne 10, 3) := by decide +kernel
theorem dX11_goText_333 : decode cX11_goText 333 = .ok (.aload_n 0, 1) := by decide +kernel
theorem dX11_goText_334 : decode cX11_goText 334 = .ok (.invokevirtual 88, 3) := by decide +kernel
theorem dX11_goText_337 : decode cX11_goText 337 = .ok (.goto 110, 3) := by decide +kernel
theorem dX11_goText_340 : decode cX11_goText 340 = .ok (.iload 5, 2) := by decide +kernel
theorem dX11_goText_342 : decode cX11_goText 342 = .ok (.bipush 48, 2) := by decide +kernel
theorem dX11_goText_344 : decode cX11_goText 344 = .ok (.if_icmp .ne 34, 3) := by decide +kernel
theorem dX11_goText_347 : decode cX11_goText 347 = .ok (.aload_n 0, 1) := by decide +kernel
theorem dX11_goText_348 : decode cX11_goText 348 = .ok (.getfield 32, 3) := by decide +kernel
theorem dX11_goText_351 : decode cX11_goText 351 = .ok (.aload_n 0, 1) := by decide +kernel
theorem dX11_goText_352 : decode cX11_goText 352 = .ok (.getfield 60, 3) := by decide +kernel
theorem dX11_goText_355 : decode cX11_goText 355 = .ok (.iload 4, 2) := by decide +kernel
theorem dX11_goText_357 : decode cX11_goText 357 = .ok (.iload_n 2, 1) := by decide +kernel
theorem dX11_goText_358 : decode cX11_goText 358 = .ok (.if_icmp .ne 15, 3) := by decide +kernel
theorem dX11_goText_361 : decode cX11_goText 361 = .ok (.aload_n 0, 1) := by decide +kernel
theorem dX11_goText_362 : decode cX11_goText 362 = .ok (.getfield 32, 3) := by decide +kernel
theorem dX11_goText_365 : decode cX11_goText 365 = .ok (.aload_n 0, 1) := by decide +kernel
theorem dX11_goText_366 : decode cX11_goText 366 = .ok (.getfield 60, 3) := by decide +kernel
theorem dX11_goText_369 : decode cX11_goText 369 = .ok (.iaload, 1) := by decide +kernel
theorem dX11_goText_370 : decode cX11_goText 370 = .ok (.goto 4, 3) := by decide +kernel
theorem dX11_goText_373 : decode cX11_goText 373 = .ok (.iconst 0, 1) := by decide +kernel
theorem dX11_goText_374 : decode cX11_goText 374 = .ok (.iastore, 1) := by decide +kernel
theorem dX11_goText_375 : decode cX11_goText 375 = .ok (.goto 72, 3) := by decide +kernel
theorem dX11_goText_378 : decode cX11_goText 378 = .ok (.aload_n 0, 1) := by decide +kernel
theorem dX11_goText_379 : decode cX11_goText 379 = .ok (.iload 4, 2) := by decide +kernel
theorem dX11_goText_381 : decode cX11_goText 381 = .ok (.iload_n 2, 1) := by decide +kernel
theorem dX11_goText_382 : decode cX11_goText 382 = .ok (.if_icmp .eq 27, 3) := by decide +kernel
theorem dX11_goText_385 : decode cX11_goText 385 = .ok (.aload_n 0, 1) := by decide +kernel
theorem dX11_goText_386 : decode cX11_goText 386 = .ok (.getfield 32, 3) := by decide +kernel
theorem dX11_goText_389 : decode cX11_goText 389 = .ok (.aload_n 0, 1) := by decide +kernel
theorem dX11_goText_390 : decode cX11_goText 390 = .ok (.getfield 60, 3) := by decide +kernel
theorem dX11_goText_393 : decode cX11_goText 393 = .ok (.iaload, 1) := by decide +kernel
theorem dX11_goText_394 : decode cX11_goText 394 = .ok (.iload 5, 2) := by decide +kernel
theorem dX11_goText_396 : decode cX11_goText 396 = .ok (.iadd, 1) := by decide +kernel
theorem dX11_goText_397 : decode cX11_goText 397 = .ok (.bipush 48, 2) := by decide +kernel
theorem dX11_goText_399 : decode cX11_goText 399 = .ok (.isub, 1) := by decide +kernel
theorem dX11_goText_400 : decode cX11_goText 400 = .ok (.bipush 99, 2) := by decide +kernel
theorem dX11_goText_402 : decode cX11_goText 402 = .ok (.if_icmp .le 7, 3) := by decide +kernel
theorem dX11_goText_405 : decode cX11_goText 405 = .ok (.iconst 4, 1) := by decide +kernel
theorem dX11_goText_406 : decode cX11_goText 406 = .ok (.goto 4, 3) := by decide +kernel
theorem dX11_goText_409 : decode cX11_goText 409 = .ok (.iconst 0, 1) := by decide +kernel
theorem dX11_goText_410 : decode cX11_goText 410 = .ok (.putfield 79, 3) := by decide +kernel
theorem dX11_goText_413 : decode cX11_goText 413 = .ok (.aload_n 0, 1) := by decide +kernel
theorem dX11_goText_414 : decode cX11_goText 414 = .ok (.getfield 32, 3) := by decide +kernel
theorem dX11_goText_417 : decode cX11_goText 417 = .ok (.aload_n 0, 1) := by decide +kernel
theorem dX11_goText_418 : decode cX11_goText 418 = .ok (.getfield 60, 3) := by decide +kernel
theorem dX11_goText_421 : decode cX11_goText 421 = .ok (.dup2, 1) := by decide +kernel
theorem dX11_goText_422 : decode cX11_goText 422 = .ok (.iaload, 1) := by decide +kernel
theorem dX11_goText_423 : decode cX11_goText 423 = .ok (.aload_n 0, 1) := by decide +kernel
theorem dX11_goText_424 : decode cX11_goText 424 = .ok (.getfield 79, 3) := by decide +kernel
theorem dX11_goText_427 : decode cX11_goText 427 = .ok (.ifCond .ne 17, 3) := by decide +kernel
theorem dX11_goText_430 : decode cX11_goText 430 = .ok (.iload 4, 2) := by decide +kernel
theorem dX11_goText_432 : decode cX11_goText 432 = .ok (.iload_n 2, 1) := by decide +kernel
theorem dX11_goText_433 : decode cX11_goText 433 = .ok (.if_icmp .eq 11, 3) := by decide +kernel
theorem dX11_goText_436 : decode cX11_goText 436 = .ok (.iload 5, 2) := by decide +kernel
theorem dX11_goText_438 : decode cX11_goText 438 = .ok (.bipush 48, 2) := by decide +kernel
theorem dX11_goText_440 : decode cX11_goText 440 = .ok (.isub, 1) := by decide +kernel
theorem dX11_goText_441 : decode cX11_goText 441 = .ok (.goto 4, 3) := by decide +kernel
theorem dX11_goText_444 : decode cX11_goText 444 = .ok (.iconst 0, 1) := by decide +kernel
theorem dX11_goText_445 : decode cX11_goText 445 = .ok (.iadd, 1) := by decide +kernel
theorem dX11_goText_446 : decode cX11_goText 446 = .ok (.iastore, 1) := by decide +kernel
theorem dX11_goText_447 : decode cX11_goText 447 = .ok (.aload_n 0, 1) := by decide +kernel
theorem dX11_goText_448 : decode cX11_goText 448 = .ok (.getfield 79, 3) := by decide +kernel
theorem dX11_goText_451 : decode cX11_goText 451 = .ok (.ifCond .le 6, 3) := by decide +kernel
theorem dX11_goText_454 : decode cX11_goText 454 = .ok (.iload 4, 2) := by decide +kernel
theorem dX11_goText_456 : decode cX11_goText 456 = .ok (.ireturn, 1) := by decide +kernel
theorem dX11_goText_457 : decode cX11_goText 457 = .ok (.iinc 4 1, 3) := by decide +kernel
theorem dX11_goText_460 : decode cX11_goText 460 = .ok (.goto (-423), 3) := by decide +kernel
theorem dX11_goText_463 : decode cX11_goText 463 = .ok (.bipush (-6), 2) := by decide +kernel
theorem dX11_goText_465 : decode cX11_goText 465 = .ok (.ireturn, 1) := by decide +kernel
set_option maxRecDepth 20000 in
theorem ggX11_judge_X11_in : GoodIn wsX11_judge wsX11_in := goodIn_r _ [5] (by decide +kernel) (by decide +kernel)
set_option maxRecDepth 20000 in
theorem gX11_judge_X11_in : GoodIn wsX11_judge (va_wsS RX11 42 yX11_in wsX11_in) := goodIn_app (goodIn_of _ (by decide +kernel)) ggX11_judge_X11_in
set_option maxRecDepth 20000 in
theorem ggX11_judge_X11_faultOf : GoodIn wsX11_judge wsX11_faultOf := goodIn_r _ [9, 10, 11, 2, 3, 4, 5, 49, 50, 51, 52, 53, 54, 55, 56, 57, 58, 59, 60, 61, 62, 63, 64, 65] (by decide +kernel) (by decide +kernel)
set_option maxRecDepth 20000 in
theorem gX11_judge_X11_faultOf : GoodIn wsX11_judge (wsV RX11 53 RX11 yX11_faultOf wsX11_faultOf) := goodIn_app (goodIn_of _ (by decide +kernel)) ggX11_judge_X11_faultOf
set_option maxRecDepth 20000 in
theorem ggX11_judge_X11_opens : GoodIn wsX11_judge wsX11_opens := goodIn_r _ [15, 10, 11, 49, 50, 51, 52, 53, 54, 55, 56, 57, 58, 59, 60, 61, 62, 63, 64, 65] (by decide +kernel) (by decide +kernel)
set_option maxRecDepth 20000 in
theorem gX11_judge_X11_opens : GoodIn wsX11_judge (wsV RX11 82 RX11 yX11_opens wsX11_opens) := goodIn_app (goodIn_of _ (by decide +kernel)) ggX11_judge_X11_opens
set_option maxRecDepth 20000 in
theorem ggX11_judge_X11_goText : GoodIn wsX11_judge wsX11_goText := goodIn_r _ [19, 1, 10, 11, 20, 21, 22, 23, 24, 25, 4, 26, 27, 28, 29, 30, 31, 12, 13, 14, 15, 2, 3, 5, 32, 33, 34, 35, 36, 37, 38, 39, 40, 41, 42, 43, 44, 45, 46, 47, 48, 49, 50, 51, 52, 53, 54, 55, 56, 57, 58, 59, 60, 61, 62, 63, 64, 65] (by decide +kernel) (by decide +kernel)
set_option maxRecDepth 20000 in
theorem gX11_judge_X11_goText : GoodIn wsX11_judge (wsV RX11 91 RX11 yX11_goText wsX11_goText) := goodIn_app (goodIn_of _ (by decide +kernel)) ggX11_judge_X11_goText
theorem dX11_judge_0 : decode cX11_judge 0 = .ok (.iload_n 1, 1) := by decide +kernel
theorem dX11_judge_1 : decode cX11_judge 1 = .ok (.iconst 0, 1) := by decide +kernel
theorem dX11_judge_2 : decode cX11_judge 2 = .ok (.iconst 1, 1) := by decide +kernel
theorem dX11_judge_3 : decode cX11_judge 3 = .ok (.invokestatic 42, 3) := by decide +kernel
theorem dX11_judge_6 : decode cX11_judge 6 = .ok (.ifCond .ne 6, 3) := by decide +kernel
theorem dX11_judge_9 : decode cX11_judge 9 = .ok (.bipush (-2), 2) := by decide +kernel
theorem dX11_judge_11 : decode cX11_judge 11 = .ok (.ireturn, 1) := by decide +kernel
theorem dX11_judge_12 : decode cX11_judge 12 = .ok (.aload_n 0, 1) := by decide +kernel
theorem dX11_judge_13 : decode cX11_judge 13 = .ok (.invokevirtual 53, 3) := by decide +kernel
theorem dX11_judge_16 : decode cX11_judge 16 = .ok (.ifCond .lt 6, 3) := by decide +kernel
theorem dX11_judge_19 : decode cX11_judge 19 = .ok (.bipush (-5), 2) := by decide +kernel
theorem dX11_judge_21 : decode cX11_judge 21 = .ok (.ireturn, 1) := by decide +kernel
theorem dX11_judge_22 : decode cX11_judge 22 = .ok (.aload_n 0, 1) := by decide +kernel
theorem dX11_judge_23 : decode cX11_judge 23 = .ok (.invokevirtual 82, 3) := by decide +kernel
theorem dX11_judge_26 : decode cX11_judge 26 = .ok (.ifCond .le 6, 3) := by decide +kernel
theorem dX11_judge_29 : decode cX11_judge 29 = .ok (.bipush (-3), 2) := by decide +kernel
theorem dX11_judge_31 : decode cX11_judge 31 = .ok (.ireturn, 1) := by decide +kernel
theorem dX11_judge_32 : decode cX11_judge 32 = .ok (.aload_n 0, 1) := by decide +kernel
theorem dX11_judge_33 : decode cX11_judge 33 = .ok (.iconst 0, 1) := by decide +kernel
theorem dX11_judge_34 : decode cX11_judge 34 = .ok (.bipush (-6), 2) := by decide +kernel
theorem dX11_judge_36 : decode cX11_judge 36 = .ok (.invokevirtual 91, 3) := by decide +kernel
theorem dX11_judge_39 : decode cX11_judge 39 = .ok (.istore_n 2, 1) := by decide +kernel
theorem dX11_judge_40 : decode cX11_judge 40 = .ok (.iload_n 2, 1) := by decide +kernel
theorem dX11_judge_41 : decode cX11_judge 41 = .ok (.ifCond .lt 7, 3) := by decide +kernel
theorem dX11_judge_44 : decode cX11_judge 44 = .ok (.iload_n 1, 1) := by decide +kernel
theorem dX11_judge_45 : decode cX11_judge 45 = .ok (.ifCond .ne 7, 3) := by decide +kernel
theorem dX11_judge_48 : decode cX11_judge 48 = .ok (.iload_n 2, 1) := by decide +kernel
theorem dX11_judge_49 : decode cX11_judge 49 = .ok (.goto 7, 3) := by decide +kernel
theorem dX11_judge_52 : decode cX11_judge 52 = .ok (.aload_n 0, 1) := by decide +kernel
theorem dX11_judge_53 : decode cX11_judge 53 = .ok (.getfield 79, 3) := by decide +kernel
theorem dX11_judge_56 : decode cX11_judge 56 = .ok (.ireturn, 1) := by decide +kernel
set_option maxRecDepth 20000 in
theorem ggX11_barOfText_X11_faultOf : GoodIn wsX11_barOfText wsX11_faultOf := goodIn_r _ [5, 6, 7, 8, 9, 4, 10, 49, 50, 51, 52, 53, 54, 55, 56, 57, 58, 59, 60, 61, 62, 63, 64, 65] (by decide +kernel) (by decide +kernel)
set_option maxRecDepth 20000 in
theorem gX11_barOfText_X11_faultOf : GoodIn wsX11_barOfText (wsV RX11 53 RX11 yX11_faultOf wsX11_faultOf) := goodIn_app (goodIn_of _ (by decide +kernel)) ggX11_barOfText_X11_faultOf
set_option maxRecDepth 20000 in
theorem ggX11_barOfText_X11_opens : GoodIn wsX11_barOfText wsX11_opens := goodIn_r _ [14, 6, 7, 49, 50, 51, 52, 53, 54, 55, 56, 57, 58, 59, 60, 61, 62, 63, 64, 65] (by decide +kernel) (by decide +kernel)
set_option maxRecDepth 20000 in
theorem gX11_barOfText_X11_opens : GoodIn wsX11_barOfText (wsV RX11 82 RX11 yX11_opens wsX11_opens) := goodIn_app (goodIn_of _ (by decide +kernel)) ggX11_barOfText_X11_opens
set_option maxRecDepth 20000 in
theorem ggX11_barOfText_X11_goText : GoodIn wsX11_barOfText wsX11_goText := goodIn_r _ [18, 19, 6, 7, 20, 21, 22, 23, 24, 25, 4, 26, 27, 28, 29, 30, 31, 11, 12, 13, 14, 8, 9, 10, 32, 33, 34, 35, 36, 37, 38, 39, 40, 41, 42, 43, 44, 45, 46, 47, 48, 49, 50, 51, 52, 53, 54, 55, 56, 57, 58, 59, 60, 61, 62, 63, 64, 65] (by decide +kernel) (by decide +kernel)
set_option maxRecDepth 20000 in
theorem gX11_barOfText_X11_goText : GoodIn wsX11_barOfText (wsV RX11 91 RX11 yX11_goText wsX11_goText) := goodIn_app (goodIn_of _ (by decide +kernel)) ggX11_barOfText_X11_goText
theorem dX11_barOfText_0 : decode cX11_barOfText 0 = .ok (.aload_n 0, 1) := by decide +kernel
theorem dX11_barOfText_1 : decode cX11_barOfText 1 = .ok (.invokevirtual 53, 3) := by decide +kernel
theorem dX11_barOfText_4 : decode cX11_barOfText 4 = .ok (.ifCond .lt 8, 3) := by decide +kernel
theorem dX11_barOfText_7 : decode cX11_barOfText 7 = .ok (.bipush (-5), 2) := by decide +kernel
theorem dX11_barOfText_9 : decode cX11_barOfText 9 = .ok (.goto 31, 3) := by decide +kernel
theorem dX11_barOfText_12 : decode cX11_barOfText 12 = .ok (.aload_n 0, 1) := by decide +kernel
theorem dX11_barOfText_13 : decode cX11_barOfText 13 = .ok (.invokevirtual 82, 3) := by decide +kernel
theorem dX11_barOfText_16 : decode cX11_barOfText 16 = .ok (.ifCond .le 8, 3) := by decide +kernel
theorem dX11_barOfText_19 : decode cX11_barOfText 19 = .ok (.bipush (-3), 2) := by decide +kernel
theorem dX11_barOfText_21 : decode cX11_barOfText 21 = .ok (.goto 19, 3) := by decide +kernel
theorem dX11_barOfText_24 : decode cX11_barOfText 24 = .ok (.aload_n 0, 1) := by decide +kernel
theorem dX11_barOfText_25 : decode cX11_barOfText 25 = .ok (.iconst 0, 1) := by decide +kernel
theorem dX11_barOfText_26 : decode cX11_barOfText 26 = .ok (.bipush (-6), 2) := by decide +kernel
theorem dX11_barOfText_28 : decode cX11_barOfText 28 = .ok (.invokevirtual 91, 3) := by decide +kernel
theorem dX11_barOfText_31 : decode cX11_barOfText 31 = .ok (.ifCond .lt 8, 3) := by decide +kernel
theorem dX11_barOfText_34 : decode cX11_barOfText 34 = .ok (.bipush (-5), 2) := by decide +kernel
theorem dX11_barOfText_36 : decode cX11_barOfText 36 = .ok (.goto 4, 3) := by decide +kernel
theorem dX11_barOfText_39 : decode cX11_barOfText 39 = .ok (.iconst 0, 1) := by decide +kernel
theorem dX11_barOfText_40 : decode cX11_barOfText 40 = .ok (.ireturn, 1) := by decide +kernel
set_option maxRecDepth 20000 in
theorem ggX11_done_X11_barOfText : GoodIn wsX11_done wsX11_barOfText := goodIn_r _ [12, 13, 14, 15, 11, 16, 7, 17, 18, 19, 20, 21, 22, 23, 24, 25, 26, 27, 28, 29, 4, 1, 6, 30, 31, 32, 33, 2, 34, 35, 3, 5, 36, 37, 38, 39, 40, 41, 42, 43, 44, 45, 46, 47, 48, 49, 50, 51, 52, 53, 54, 55, 56, 57, 58, 59, 60, 61, 62, 63, 64, 65, 66, 67, 68, 69] (by decide +kernel) (by decide +kernel)
set_option maxRecDepth 20000 in
theorem gX11_done_X11_barOfText : GoodIn wsX11_done (wsV RX11 95 RX11 yX11_barOfText wsX11_barOfText) := goodIn_app (goodIn_of _ (by decide +kernel)) ggX11_done_X11_barOfText
theorem dX11_done_0 : decode cX11_done 0 = .ok (.aload_n 0, 1) := by decide +kernel
theorem dX11_done_1 : decode cX11_done 1 = .ok (.invokevirtual 95, 3) := by decide +kernel
theorem dX11_done_4 : decode cX11_done 4 = .ok (.istore_n 1, 1) := by decide +kernel
theorem dX11_done_5 : decode cX11_done 5 = .ok (.iload_n 1, 1) := by decide +kernel
theorem dX11_done_6 : decode cX11_done 6 = .ok (.ifCond .ge 5, 3) := by decide +kernel
theorem dX11_done_9 : decode cX11_done 9 = .ok (.iload_n 1, 1) := by decide +kernel
theorem dX11_done_10 : decode cX11_done 10 = .ok (.ireturn, 1) := by decide +kernel
theorem dX11_done_11 : decode cX11_done 11 = .ok (.aload_n 0, 1) := by decide +kernel
theorem dX11_done_12 : decode cX11_done 12 = .ok (.aload_n 0, 1) := by decide +kernel
theorem dX11_done_13 : decode cX11_done 13 = .ok (.getfield 60, 3) := by decide +kernel
theorem dX11_done_16 : decode cX11_done 16 = .ok (.putfield 57, 3) := by decide +kernel
theorem dX11_done_19 : decode cX11_done 19 = .ok (.iconst 0, 1) := by decide +kernel
theorem dX11_done_20 : decode cX11_done 20 = .ok (.istore_n 2, 1) := by decide +kernel
theorem dX11_done_21 : decode cX11_done 21 = .ok (.iload_n 2, 1) := by decide +kernel
theorem dX11_done_22 : decode cX11_done 22 = .ok (.bipush 8, 2) := by decide +kernel
theorem dX11_done_24 : decode cX11_done 24 = .ok (.if_icmp .ge 33, 3) := by decide +kernel
theorem dX11_done_27 : decode cX11_done 27 = .ok (.aload_n 0, 1) := by decide +kernel
theorem dX11_done_28 : decode cX11_done 28 = .ok (.getfield 13, 3) := by decide +kernel
theorem dX11_done_31 : decode cX11_done 31 = .ok (.iload_n 2, 1) := by decide +kernel
theorem dX11_done_32 : decode cX11_done 32 = .ok (.aload_n 0, 1) := by decide +kernel
theorem dX11_done_33 : decode cX11_done 33 = .ok (.getfield 29, 3) := by decide +kernel
theorem dX11_done_36 : decode cX11_done 36 = .ok (.iload_n 2, 1) := by decide +kernel
theorem dX11_done_37 : decode cX11_done 37 = .ok (.iaload, 1) := by decide +kernel
theorem dX11_done_38 : decode cX11_done 38 = .ok (.iastore, 1) := by decide +kernel
theorem dX11_done_39 : decode cX11_done 39 = .ok (.aload_n 0, 1) := by decide +kernel
theorem dX11_done_40 : decode cX11_done 40 = .ok (.getfield 16, 3) := by decide +kernel
theorem dX11_done_43 : decode cX11_done 43 = .ok (.iload_n 2, 1) := by decide +kernel
theorem dX11_done_44 : decode cX11_done 44 = .ok (.aload_n 0, 1) := by decide +kernel
theorem dX11_done_45 : decode cX11_done 45 = .ok (.getfield 32, 3) := by decide +kernel
theorem dX11_done_48 : decode cX11_done 48 = .ok (.iload_n 2, 1) := by decide +kernel
theorem dX11_done_49 : decode cX11_done 49 = .ok (.iaload, 1) := by decide +kernel
theorem dX11_done_50 : decode cX11_done 50 = .ok (.iastore, 1) := by decide +kernel
theorem dX11_done_51 : decode cX11_done 51 = .ok (.iinc 2 1, 3) := by decide +kernel
theorem dX11_done_54 : decode cX11_done 54 = .ok (.goto (-33), 3) := by decide +kernel
theorem dX11_done_57 : decode cX11_done 57 = .ok (.aload_n 0, 1) := by decide +kernel
theorem dX11_done_58 : decode cX11_done 58 = .ok (.getfield 50, 3) := by decide +kernel
theorem dX11_done_61 : decode cX11_done 61 = .ok (.istore_n 2, 1) := by decide +kernel
theorem dX11_done_62 : decode cX11_done 62 = .ok (.aload_n 0, 1) := by decide +kernel
theorem dX11_done_63 : decode cX11_done 63 = .ok (.iconst 0, 1) := by decide +kernel
theorem dX11_done_64 : decode cX11_done 64 = .ok (.putfield 50, 3) := by decide +kernel
theorem dX11_done_67 : decode cX11_done 67 = .ok (.iload_n 2, 1) := by decide +kernel
theorem dX11_done_68 : decode cX11_done 68 = .ok (.ireturn, 1) := by decide +kernel
theorem dX11_foot_0 : decode cX11_foot 0 = .ok (.aload_n 0, 1) := by decide +kernel
theorem dX11_foot_1 : decode cX11_foot 1 = .ok (.getfield 57, 3) := by decide +kernel
theorem dX11_foot_4 : decode cX11_foot 4 = .ok (.ireturn, 1) := by decide +kernel
set_option maxRecDepth 20000 in
theorem ggX11_car_X11_is8 : GoodIn wsX11_car wsX11_is8 := goodIn_r _ [7, 8, 9, 6, 10] (by decide +kernel) (by decide +kernel)
set_option maxRecDepth 20000 in
theorem gX11_car_X11_is8 : GoodIn wsX11_car (va_wsS RX11 46 yX11_is8 wsX11_is8) := goodIn_app (goodIn_of _ (by decide +kernel)) ggX11_car_X11_is8
theorem dX11_car_0 : decode cX11_car 0 = .ok (.iload_n 1, 1) := by decide +kernel
theorem dX11_car_1 : decode cX11_car 1 = .ok (.invokestatic 46, 3) := by decide +kernel
theorem dX11_car_4 : decode cX11_car 4 = .ok (.ifCond .ne 5, 3) := by decide +kernel
theorem dX11_car_7 : decode cX11_car 7 = .ok (.iconst (-1), 1) := by decide +kernel
theorem dX11_car_8 : decode cX11_car 8 = .ok (.ireturn, 1) := by decide +kernel
theorem dX11_car_9 : decode cX11_car 9 = .ok (.iload_n 2, 1) := by decide +kernel
theorem dX11_car_10 : decode cX11_car 10 = .ok (.lookupswitch 40 #[(0, 26), (1, 33)], 26) := by decide +kernel
theorem dX11_car_36 : decode cX11_car 36 = .ok (.aload_n 0, 1) := by decide +kernel
theorem dX11_car_37 : decode cX11_car 37 = .ok (.getfield 13, 3) := by decide +kernel
theorem dX11_car_40 : decode cX11_car 40 = .ok (.iload_n 1, 1) := by decide +kernel
theorem dX11_car_41 : decode cX11_car 41 = .ok (.iaload, 1) := by decide +kernel
theorem dX11_car_42 : decode cX11_car 42 = .ok (.ireturn, 1) := by decide +kernel
theorem dX11_car_43 : decode cX11_car 43 = .ok (.aload_n 0, 1) := by decide +kernel
theorem dX11_car_44 : decode cX11_car 44 = .ok (.getfield 16, 3) := by decide +kernel
theorem dX11_car_47 : decode cX11_car 47 = .ok (.iload_n 1, 1) := by decide +kernel
theorem dX11_car_48 : decode cX11_car 48 = .ok (.iaload, 1) := by decide +kernel
theorem dX11_car_49 : decode cX11_car 49 = .ok (.ireturn, 1) := by decide +kernel
theorem dX11_car_50 : decode cX11_car 50 = .ok (.iload_n 2, 1) := by decide +kernel
theorem dX11_car_51 : decode cX11_car 51 = .ok (.iconst 2, 1) := by decide +kernel
theorem dX11_car_52 : decode cX11_car 52 = .ok (.if_icmp .ne 18, 3) := by decide +kernel
theorem dX11_car_55 : decode cX11_car 55 = .ok (.iload_n 1, 1) := by decide +kernel
theorem dX11_car_56 : decode cX11_car 56 = .ok (.aload_n 0, 1) := by decide +kernel
theorem dX11_car_57 : decode cX11_car 57 = .ok (.getfield 57, 3) := by decide +kernel
theorem dX11_car_60 : decode cX11_car 60 = .ok (.isub, 1) := by decide +kernel
theorem dX11_car_61 : decode cX11_car 61 = .ok (.bipush 8, 2) := by decide +kernel
theorem dX11_car_63 : decode cX11_car 63 = .ok (.iadd, 1) := by decide +kernel
theorem dX11_car_64 : decode cX11_car 64 = .ok (.bipush 8, 2) := by decide +kernel
theorem dX11_car_66 : decode cX11_car 66 = .ok (.irem, 1) := by decide +kernel
theorem dX11_car_67 : decode cX11_car 67 = .ok (.goto 5, 3) := by decide +kernel
theorem dX11_car_70 : decode cX11_car 70 = .ok (.bipush (-2), 2) := by decide +kernel
theorem dX11_car_72 : decode cX11_car 72 = .ok (.ireturn, 1) := by decide +kernel
set_option maxRecDepth 20000 in
theorem ggX11_pull_X11_asNow : GoodIn wsX11_pull wsX11_asNow := goodIn_r _ [7, 8, 1, 9, 10, 11, 12, 13, 14, 23, 24, 25, 26, 27, 28, 29, 30, 31, 32, 33, 34, 35, 36, 37, 38, 39] (by decide +kernel) (by decide +kernel)
set_option maxRecDepth 20000 in
theorem gX11_pull_X11_asNow : GoodIn wsX11_pull (wsV RX11 76 RX11 yX11_asNow wsX11_asNow) := goodIn_app (goodIn_of _ (by decide +kernel)) ggX11_pull_X11_asNow
set_option maxRecDepth 20000 in
theorem ggX11_pull_X11_pullAt : GoodIn wsX11_pull wsX11_pullAt := goodIn_r _ [18, 13, 11, 19, 20, 21, 6, 22, 23, 24, 25, 26, 27, 28, 29, 30, 31, 32, 33, 34, 35, 36, 37, 38, 39] (by decide +kernel) (by decide +kernel)
set_option maxRecDepth 20000 in
theorem gX11_pull_X11_pullAt : GoodIn wsX11_pull (wsV RX11 73 RX11 yX11_pullAt wsX11_pullAt) := goodIn_app (goodIn_of _ (by decide +kernel)) ggX11_pull_X11_pullAt
theorem dX11_pull_0 : decode cX11_pull 0 = .ok (.aload_n 0, 1) := by decide +kernel
theorem dX11_pull_1 : decode cX11_pull 1 = .ok (.invokevirtual 76, 3) := by decide +kernel
theorem dX11_pull_4 : decode cX11_pull 4 = .ok (.aload_n 0, 1) := by decide +kernel
theorem dX11_pull_5 : decode cX11_pull 5 = .ok (.aload_n 0, 1) := by decide +kernel
theorem dX11_pull_6 : decode cX11_pull 6 = .ok (.getfield 60, 3) := by decide +kernel
theorem dX11_pull_9 : decode cX11_pull 9 = .ok (.invokevirtual 73, 3) := by decide +kernel
theorem dX11_pull_12 : decode cX11_pull 12 = .ok (.ldc 98, 2) := by decide +kernel
theorem dX11_pull_14 : decode cX11_pull 14 = .ok (.iadd, 1) := by decide +kernel
theorem dX11_pull_15 : decode cX11_pull 15 = .ok (.ireturn, 1) := by decide +kernel
set_option maxRecDepth 20000 in
theorem ggX11_behind_X11_in : GoodIn wsX11_behind wsX11_in := goodIn_r _ [7] (by decide +kernel) (by decide +kernel)
set_option maxRecDepth 20000 in
theorem gX11_behind_X11_in : GoodIn wsX11_behind (va_wsS RX11 42 yX11_in wsX11_in) := goodIn_app (goodIn_of _ (by decide +kernel)) ggX11_behind_X11_in
set_option maxRecDepth 20000 in
theorem ggX11_behind_X11_barOfText : GoodIn wsX11_behind wsX11_barOfText := goodIn_r _ [11, 12, 13, 14, 6, 15, 16, 17, 4, 5, 7, 18, 19, 20, 21, 22, 23, 24, 25, 26, 27, 1, 28, 29, 30, 31, 32, 33, 3, 34, 35, 36, 37, 38, 39, 40, 41, 42, 43, 44, 45, 46, 47, 48, 49, 50, 51, 52, 53, 54, 55, 56, 57, 58, 59, 60, 61, 62, 63, 64, 65, 66, 67, 68, 69, 70] (by decide +kernel) (by decide +kernel)
set_option maxRecDepth 20000 in
theorem gX11_behind_X11_barOfText : GoodIn wsX11_behind (wsV RX11 95 RX11 yX11_barOfText wsX11_barOfText) := goodIn_app (goodIn_of _ (by decide +kernel)) ggX11_behind_X11_barOfText
set_option maxRecDepth 20000 in
theorem ggX11_behind_X11_pullAt : GoodIn wsX11_behind wsX11_pullAt := goodIn_r _ [49, 28, 27, 50, 51, 52, 6, 53, 54, 55, 56, 57, 58, 59, 60, 61, 62, 63, 64, 65, 66, 67, 68, 69, 70] (by decide +kernel) (by decide +kernel)
set_option maxRecDepth 20000 in
theorem gX11_behind_X11_pullAt : GoodIn wsX11_behind (wsV RX11 73 RX11 yX11_pullAt wsX11_pullAt) := goodIn_app (goodIn_of _ (by decide +kernel)) ggX11_behind_X11_pullAt
theorem dX11_behind_0 : decode cX11_behind 0 = .ok (.iload_n 1, 1) := by decide +kernel
theorem dX11_behind_1 : decode cX11_behind 1 = .ok (.iconst 0, 1) := by decide +kernel
theorem dX11_behind_2 : decode cX11_behind 2 = .ok (.iconst 2, 1) := by decide +kernel
theorem dX11_behind_3 : decode cX11_behind 3 = .ok (.invokestatic 42, 3) := by decide +kernel
theorem dX11_behind_6 : decode cX11_behind 6 = .ok (.ifCond .ne 6, 3) := by decide +kernel
theorem dX11_behind_9 : decode cX11_behind 9 = .ok (.bipush (-2), 2) := by decide +kernel
theorem dX11_behind_11 : decode cX11_behind 11 = .ok (.ireturn, 1) := by decide +kernel
theorem dX11_behind_12 : decode cX11_behind 12 = .ok (.aload_n 0, 1) := by decide +kernel
theorem dX11_behind_13 : decode cX11_behind 13 = .ok (.invokevirtual 95, 3) := by decide +kernel
theorem dX11_behind_16 : decode cX11_behind 16 = .ok (.istore_n 2, 1) := by decide +kernel
theorem dX11_behind_17 : decode cX11_behind 17 = .ok (.iload_n 2, 1) := by decide +kernel
theorem dX11_behind_18 : decode cX11_behind 18 = .ok (.ifCond .ge 7, 3) := by decide +kernel
theorem dX11_behind_21 : decode cX11_behind 21 = .ok (.iload_n 2, 1) := by decide +kernel
theorem dX11_behind_22 : decode cX11_behind 22 = .ok (.goto 41, 3) := by decide +kernel
theorem dX11_behind_25 : decode cX11_behind 25 = .ok (.iload_n 1, 1) := by decide +kernel
theorem dX11_behind_26 : decode cX11_behind 26 = .ok (.ifCond .ne 10, 3) := by decide +kernel
theorem dX11_behind_29 : decode cX11_behind 29 = .ok (.aload_n 0, 1) := by decide +kernel
theorem dX11_behind_30 : decode cX11_behind 30 = .ok (.getfield 60, 3) := by decide +kernel
theorem dX11_behind_33 : decode cX11_behind 33 = .ok (.goto 30, 3) := by decide +kernel
theorem dX11_behind_36 : decode cX11_behind 36 = .ok (.iload_n 1, 1) := by decide +kernel
theorem dX11_behind_37 : decode cX11_behind 37 = .ok (.iconst 1, 1) := by decide +kernel
theorem dX11_behind_38 : decode cX11_behind 38 = .ok (.if_icmp .ne 17, 3) := by decide +kernel
theorem dX11_behind_41 : decode cX11_behind 41 = .ok (.aload_n 0, 1) := by decide +kernel
theorem dX11_behind_42 : decode cX11_behind 42 = .ok (.aload_n 0, 1) := by decide +kernel
theorem dX11_behind_43 : decode cX11_behind 43 = .ok (.getfield 60, 3) := by decide +kernel
theorem dX11_behind_46 : decode cX11_behind 46 = .ok (.invokevirtual 73, 3) := by decide +kernel
theorem dX11_behind_49 : decode cX11_behind 49 = .ok (.ldc 98, 2) := by decide +kernel
theorem dX11_behind_51 : decode cX11_behind 51 = .ok (.iadd, 1) := by decide +kernel
theorem dX11_behind_52 : decode cX11_behind 52 = .ok (.goto 11, 3) := by decide +kernel
theorem dX11_behind_55 : decode cX11_behind 55 = .ok (.aload_n 0, 1) := by decide +kernel
theorem dX11_behind_56 : decode cX11_behind 56 = .ok (.getfield 63, 3) := by decide +kernel
theorem dX11_behind_59 : decode cX11_behind 59 = .ok (.sipush 1000, 3) := by decide +kernel
theorem dX11_behind_62 : decode cX11_behind 62 = .ok (.iadd, 1) := by decide +kernel
theorem dX11_behind_63 : decode cX11_behind 63 = .ok (.ireturn, 1) := by decide +kernel
set_option maxRecDepth 20000 in
theorem ggX11_leftOut_X11_barOfText : GoodIn wsX11_leftOut wsX11_barOfText := goodIn_r _ [8, 9, 10, 11, 7, 12, 2, 3, 13, 14, 15, 16, 17, 18, 19, 20, 21, 22, 23, 24, 25, 1, 26, 27, 28, 29, 30, 31, 32, 33, 34, 35, 36, 37, 38, 39, 40, 41, 42, 43, 44, 45, 46, 47, 48, 49, 50, 51, 52, 53, 54, 55, 56, 57, 58, 59, 60, 61, 62, 63, 64, 65, 66, 67, 68, 69] (by decide +kernel) (by decide +kernel)
set_option maxRecDepth 20000 in
theorem gX11_leftOut_X11_barOfText : GoodIn wsX11_leftOut (wsV RX11 95 RX11 yX11_barOfText wsX11_barOfText) := goodIn_app (goodIn_of _ (by decide +kernel)) ggX11_leftOut_X11_barOfText
set_option maxRecDepth 20000 in
theorem ggX11_leftOut_X11_goText : GoodIn wsX11_leftOut wsX11_goText := goodIn_r _ [23, 24, 2, 3, 25, 1, 26, 27, 28, 29, 7, 30, 31, 32, 33, 34, 35, 16, 17, 18, 19, 13, 14, 15, 36, 37, 38, 39, 40, 41, 42, 43, 44, 45, 46, 47, 48, 49, 50, 51, 52, 53, 54, 55, 56, 57, 58, 59, 60, 61, 62, 63, 64, 65, 66, 67, 68, 69] (by decide +kernel) (by decide +kernel)
set_option maxRecDepth 20000 in
theorem gX11_leftOut_X11_goText : GoodIn wsX11_leftOut (wsV RX11 91 RX11 yX11_goText wsX11_goText) := goodIn_app (goodIn_of _ (by decide +kernel)) ggX11_leftOut_X11_goText
theorem dX11_leftOut_0 : decode cX11_leftOut 0 = .ok (.aload_n 0, 1) := by decide +kernel
theorem dX11_leftOut_1 : decode cX11_leftOut 1 = .ok (.invokevirtual 95, 3) := by decide +kernel
theorem dX11_leftOut_4 : decode cX11_leftOut 4 = .ok (.istore_n 2, 1) := by decide +kernel
theorem dX11_leftOut_5 : decode cX11_leftOut 5 = .ok (.iload_n 2, 1) := by decide +kernel
theorem dX11_leftOut_6 : decode cX11_leftOut 6 = .ok (.ifCond .ge 5, 3) := by decide +kernel
theorem dX11_leftOut_9 : decode cX11_leftOut 9 = .ok (.iload_n 2, 1) := by decide +kernel
theorem dX11_leftOut_10 : decode cX11_leftOut 10 = .ok (.ireturn, 1) := by decide +kernel
theorem dX11_leftOut_11 : decode cX11_leftOut 11 = .ok (.aload_n 0, 1) := by decide +kernel
theorem dX11_leftOut_12 : decode cX11_leftOut 12 = .ok (.getfield 60, 3) := by decide +kernel
theorem dX11_leftOut_15 : decode cX11_leftOut 15 = .ok (.istore_n 3, 1) := by decide +kernel
theorem dX11_leftOut_16 : decode cX11_leftOut 16 = .ok (.iconst 0, 1) := by decide +kernel
theorem dX11_leftOut_17 : decode cX11_leftOut 17 = .ok (.istore 4, 2) := by decide +kernel
theorem dX11_leftOut_19 : decode cX11_leftOut 19 = .ok (.iconst 0, 1) := by decide +kernel
theorem dX11_leftOut_20 : decode cX11_leftOut 20 = .ok (.istore 5, 2) := by decide +kernel
theorem dX11_leftOut_22 : decode cX11_leftOut 22 = .ok (.iload 5, 2) := by decide +kernel
theorem dX11_leftOut_24 : decode cX11_leftOut 24 = .ok (.aload_n 0, 1) := by decide +kernel
theorem dX11_leftOut_25 : decode cX11_leftOut 25 = .ok (.getfield 50, 3) := by decide +kernel
theorem dX11_leftOut_28 : decode cX11_leftOut 28 = .ok (.if_icmp .ge 87, 3) := by decide +kernel
theorem dX11_leftOut_31 : decode cX11_leftOut 31 = .ok (.aload_n 0, 1) := by decide +kernel
theorem dX11_leftOut_32 : decode cX11_leftOut 32 = .ok (.getfield 26, 3) := by decide +kernel
theorem dX11_leftOut_35 : decode cX11_leftOut 35 = .ok (.iload 5, 2) := by decide +kernel
theorem dX11_leftOut_37 : decode cX11_leftOut 37 = .ok (.iaload, 1) := by decide +kernel
theorem dX11_leftOut_38 : decode cX11_leftOut 38 = .ok (.bipush 94, 2) := by decide +kernel
theorem dX11_leftOut_40 : decode cX11_leftOut 40 = .ok (.if_icmp .eq 27, 3) := by decide +kernel
theorem dX11_leftOut_43 : decode cX11_leftOut 43 = .ok (.aload_n 0, 1) := by decide +kernel
theorem dX11_leftOut_44 : decode cX11_leftOut 44 = .ok (.getfield 26, 3) := by decide +kernel
theorem dX11_leftOut_47 : decode cX11_leftOut 47 = .ok (.iload 5, 2) := by decide +kernel
theorem dX11_leftOut_49 : decode cX11_leftOut 49 = .ok (.iaload, 1) := by decide +kernel
theorem dX11_leftOut_50 : decode cX11_leftOut 50 = .ok (.bipush 60, 2) := by decide +kernel
theorem dX11_leftOut_52 : decode cX11_leftOut 52 = .ok (.if_icmp .eq 15, 3) := by decide +kernel
theorem dX11_leftOut_55 : decode cX11_leftOut 55 = .ok (.aload_n 0, 1) := by decide +kernel
theorem dX11_leftOut_56 : decode cX11_leftOut 56 = .ok (.getfield 26, 3) := by decide +kernel
theorem dX11_leftOut_59 : decode cX11_leftOut 59 = .ok (.iload 5, 2) := by decide +kernel
theorem dX11_leftOut_61 : decode cX11_leftOut 61 = .ok (.iaload, 1) := by decide +kernel
theorem dX11_leftOut_62 : decode cX11_leftOut 62 = .ok (.bipush 62, 2) := by decide +kernel
theorem dX11_leftOut_64 : decode cX11_leftOut 64 = .ok (.if_icmp .ne 7, 3) := by decide +kernel
theorem dX11_leftOut_67 : decode cX11_leftOut 67 = .ok (.iconst 1, 1) := by decide +kernel
theorem dX11_leftOut_68 : decode cX11_leftOut 68 = .ok (.goto 4, 3) := by decide +kernel
theorem dX11_leftOut_71 : decode cX11_leftOut 71 = .ok (.iconst 0, 1) := by decide +kernel
theorem dX11_leftOut_72 : decode cX11_leftOut 72 = .ok (.istore 6, 2) := by decide +kernel
theorem dX11_leftOut_74 : decode cX11_leftOut 74 = .ok (.iload 6, 2) := by decide +kernel
theorem dX11_leftOut_76 : decode cX11_leftOut 76 = .ok (.ifCond .ne 33, 3) := by decide +kernel
theorem dX11_leftOut_79 : decode cX11_leftOut 79 = .ok (.aload_n 0, 1) := by decide +kernel
theorem dX11_leftOut_80 : decode cX11_leftOut 80 = .ok (.iconst 0, 1) := by decide +kernel
theorem dX11_leftOut_81 : decode cX11_leftOut 81 = .ok (.iload 5, 2) := by decide +kernel
theorem dX11_leftOut_83 : decode cX11_leftOut 83 = .ok (.invokevirtual 91, 3) := by decide +kernel
theorem dX11_leftOut_86 : decode cX11_leftOut 86 = .ok (.ifCond .ge 23, 3) := by decide +kernel
theorem dX11_leftOut_89 : decode cX11_leftOut 89 = .ok (.aload_n 0, 1) := by decide +kernel
theorem dX11_leftOut_90 : decode cX11_leftOut 90 = .ok (.getfield 60, 3) := by decide +kernel
theorem dX11_leftOut_93 : decode cX11_leftOut 93 = .ok (.iload_n 3, 1) := by decide +kernel
theorem dX11_leftOut_94 : decode cX11_leftOut 94 = .ok (.if_icmp .ne 15, 3) := by decide +kernel
theorem dX11_leftOut_97 : decode cX11_leftOut 97 = .ok (.iload 4, 2) := by decide +kernel
theorem dX11_leftOut_99 : decode cX11_leftOut 99 = .ok (.iload_n 1, 1) := by decide +kernel
theorem dX11_leftOut_100 : decode cX11_leftOut 100 = .ok (.if_icmp .ne 6, 3) := by decide +kernel
theorem dX11_leftOut_103 : decode cX11_leftOut 103 = .ok (.iload 5, 2) := by decide +kernel
theorem dX11_leftOut_105 : decode cX11_leftOut 105 = .ok (.ireturn, 1) := by decide +kernel
theorem dX11_leftOut_106 : decode cX11_leftOut 106 = .ok (.iinc 4 1, 3) := by decide +kernel
theorem dX11_leftOut_109 : decode cX11_leftOut 109 = .ok (.iinc 5 1, 3) := by decide +kernel
theorem dX11_leftOut_112 : decode cX11_leftOut 112 = .ok (.goto (-90), 3) := by decide +kernel
theorem dX11_leftOut_115 : decode cX11_leftOut 115 = .ok (.iload_n 1, 1) := by decide +kernel
theorem dX11_leftOut_116 : decode cX11_leftOut 116 = .ok (.iconst (-1), 1) := by decide +kernel
theorem dX11_leftOut_117 : decode cX11_leftOut 117 = .ok (.if_icmp .ne 8, 3) := by decide +kernel
theorem dX11_leftOut_120 : decode cX11_leftOut 120 = .ok (.iload 4, 2) := by decide +kernel
theorem dX11_leftOut_122 : decode cX11_leftOut 122 = .ok (.goto 5, 3) := by decide +kernel
theorem dX11_leftOut_125 : decode cX11_leftOut 125 = .ok (.bipush (-6), 2) := by decide +kernel
theorem dX11_leftOut_127 : decode cX11_leftOut 127 = .ok (.ireturn, 1) := by decide +kernel
set_option maxRecDepth 20000 in
theorem ggX11_move_X11_carOf : GoodIn wsX11_move wsX11_carOf := goodIn_r _ [7, 1, 24, 25, 26, 27, 28, 29, 30, 31, 32, 33, 34, 35, 36, 37, 38, 39, 40] (by decide +kernel) (by decide +kernel)
set_option maxRecDepth 20000 in
theorem gX11_move_X11_carOf : GoodIn wsX11_move (wsV RX11 85 RX11 yX11_carOf wsX11_carOf) := goodIn_app (goodIn_of _ (by decide +kernel)) ggX11_move_X11_carOf
set_option maxRecDepth 20000 in
theorem ggX11_move_X11_letGo : GoodIn wsX11_move wsX11_letGo := goodIn_r _ [11, 2, 12, 13, 14, 15, 16, 17, 6, 18, 19, 1, 20, 21, 22, 23, 24, 25, 26, 27, 28, 29, 30, 31, 32, 33, 34, 35, 36, 37, 38, 39, 40] (by decide +kernel) (by decide +kernel)
set_option maxRecDepth 20000 in
theorem gX11_move_X11_letGo : GoodIn wsX11_move (wsV RX11 88 RX11 yX11_letGo wsX11_letGo) := goodIn_app (goodIn_of _ (by decide +kernel)) ggX11_move_X11_letGo
theorem dX11_move_0 : decode cX11_move 0 = .ok (.iload_n 1, 1) := by decide +kernel
theorem dX11_move_1 : decode cX11_move 1 = .ok (.iconst 2, 1) := by decide +kernel
theorem dX11_move_2 : decode cX11_move 2 = .ok (.idiv, 1) := by decide +kernel
theorem dX11_move_3 : decode cX11_move 3 = .ok (.istore_n 2, 1) := by decide +kernel
theorem dX11_move_4 : decode cX11_move 4 = .ok (.iload_n 1, 1) := by decide +kernel
theorem dX11_move_5 : decode cX11_move 5 = .ok (.iconst 2, 1) := by decide +kernel
theorem dX11_move_6 : decode cX11_move 6 = .ok (.irem, 1) := by decide +kernel
theorem dX11_move_7 : decode cX11_move 7 = .ok (.iconst 1, 1) := by decide +kernel
theorem dX11_move_8 : decode cX11_move 8 = .ok (.if_icmp .ne 7, 3) := by decide +kernel
theorem dX11_move_11 : decode cX11_move 11 = .ok (.iconst 1, 1) := by decide +kernel
theorem dX11_move_12 : decode cX11_move 12 = .ok (.goto 4, 3) := by decide +kernel
theorem dX11_move_15 : decode cX11_move 15 = .ok (.iconst 0, 1) := by decide +kernel
theorem dX11_move_16 : decode cX11_move 16 = .ok (.istore_n 3, 1) := by decide +kernel
theorem dX11_move_17 : decode cX11_move 17 = .ok (.iload_n 3, 1) := by decide +kernel
theorem dX11_move_18 : decode cX11_move 18 = .ok (.ifCond .eq 17, 3) := by decide +kernel
theorem dX11_move_21 : decode cX11_move 21 = .ok (.aload_n 0, 1) := by decide +kernel
theorem dX11_move_22 : decode cX11_move 22 = .ok (.getfield 29, 3) := by decide +kernel
theorem dX11_move_25 : decode cX11_move 25 = .ok (.aload_n 0, 1) := by decide +kernel
theorem dX11_move_26 : decode cX11_move 26 = .ok (.getfield 60, 3) := by decide +kernel
theorem dX11_move_29 : decode cX11_move 29 = .ok (.iaload, 1) := by decide +kernel
theorem dX11_move_30 : decode cX11_move 30 = .ok (.ifCond .ge 5, 3) := by decide +kernel
theorem dX11_move_33 : decode cX11_move 33 = .ok (.iconst 0, 1) := by decide +kernel
theorem dX11_move_34 : decode cX11_move 34 = .ok (.ireturn, 1) := by decide +kernel
theorem dX11_move_35 : decode cX11_move 35 = .ok (.aload_n 0, 1) := by decide +kernel
theorem dX11_move_36 : decode cX11_move 36 = .ok (.getfield 29, 3) := by decide +kernel
theorem dX11_move_39 : decode cX11_move 39 = .ok (.aload_n 0, 1) := by decide +kernel
theorem dX11_move_40 : decode cX11_move 40 = .ok (.getfield 60, 3) := by decide +kernel
theorem dX11_move_43 : decode cX11_move 43 = .ok (.iload_n 3, 1) := by decide +kernel
theorem dX11_move_44 : decode cX11_move 44 = .ok (.ifCond .eq 8, 3) := by decide +kernel
theorem dX11_move_47 : decode cX11_move 47 = .ok (.bipush (-6), 2) := by decide +kernel
theorem dX11_move_49 : decode cX11_move 49 = .ok (.goto 12, 3) := by decide +kernel
theorem dX11_move_52 : decode cX11_move 52 = .ok (.aload_n 0, 1) := by decide +kernel
theorem dX11_move_53 : decode cX11_move 53 = .ok (.getfield 29, 3) := by decide +kernel
theorem dX11_move_56 : decode cX11_move 56 = .ok (.aload_n 0, 1) := by decide +kernel
theorem dX11_move_57 : decode cX11_move 57 = .ok (.getfield 60, 3) := by decide +kernel
theorem dX11_move_60 : decode cX11_move 60 = .ok (.iaload, 1) := by decide +kernel
theorem dX11_move_61 : decode cX11_move 61 = .ok (.iastore, 1) := by decide +kernel
theorem dX11_move_62 : decode cX11_move 62 = .ok (.iload_n 2, 1) := by decide +kernel
theorem dX11_move_63 : decode cX11_move 63 = .ok (.bipush 8, 2) := by decide +kernel
theorem dX11_move_65 : decode cX11_move 65 = .ok (.if_icmp .ge 35, 3) := by decide +kernel
theorem dX11_move_68 : decode cX11_move 68 = .ok (.aload_n 0, 1) := by decide +kernel
theorem dX11_move_69 : decode cX11_move 69 = .ok (.getfield 29, 3) := by decide +kernel
theorem dX11_move_72 : decode cX11_move 72 = .ok (.aload_n 0, 1) := by decide +kernel
theorem dX11_move_73 : decode cX11_move 73 = .ok (.getfield 60, 3) := by decide +kernel
theorem dX11_move_76 : decode cX11_move 76 = .ok (.iaload, 1) := by decide +kernel
theorem dX11_move_77 : decode cX11_move 77 = .ok (.ifCond .ge 11, 3) := by decide +kernel
theorem dX11_move_80 : decode cX11_move 80 = .ok (.aload_n 0, 1) := by decide +kernel
theorem dX11_move_81 : decode cX11_move 81 = .ok (.iload_n 2, 1) := by decide +kernel
theorem dX11_move_82 : decode cX11_move 82 = .ok (.invokevirtual 85, 3) := by decide +kernel
theorem dX11_move_85 : decode cX11_move 85 = .ok (.ifCond .lt 5, 3) := by decide +kernel
theorem dX11_move_88 : decode cX11_move 88 = .ok (.iconst 0, 1) := by decide +kernel
theorem dX11_move_89 : decode cX11_move 89 = .ok (.ireturn, 1) := by decide +kernel
theorem dX11_move_90 : decode cX11_move 90 = .ok (.aload_n 0, 1) := by decide +kernel
theorem dX11_move_91 : decode cX11_move 91 = .ok (.getfield 29, 3) := by decide +kernel
theorem dX11_move_94 : decode cX11_move 94 = .ok (.aload_n 0, 1) := by decide +kernel
theorem dX11_move_95 : decode cX11_move 95 = .ok (.getfield 60, 3) := by decide +kernel
theorem dX11_move_98 : decode cX11_move 98 = .ok (.iload_n 2, 1) := by decide +kernel
theorem dX11_move_99 : decode cX11_move 99 = .ok (.iastore, 1) := by decide +kernel
theorem dX11_move_100 : decode cX11_move 100 = .ok (.aload_n 0, 1) := by decide +kernel
theorem dX11_move_101 : decode cX11_move 101 = .ok (.invokevirtual 88, 3) := by decide +kernel
theorem dX11_move_104 : decode cX11_move 104 = .ok (.iconst 1, 1) := by decide +kernel
theorem dX11_move_105 : decode cX11_move 105 = .ok (.ireturn, 1) := by decide +kernel
theorem dX11_powerOf_0 : decode cX11_powerOf 0 = .ok (.iconst 1, 1) := by decide +kernel
theorem dX11_powerOf_1 : decode cX11_powerOf 1 = .ok (.istore_n 2, 1) := by decide +kernel
theorem dX11_powerOf_2 : decode cX11_powerOf 2 = .ok (.iconst 0, 1) := by decide +kernel
theorem dX11_powerOf_3 : decode cX11_powerOf 3 = .ok (.istore_n 3, 1) := by decide +kernel
theorem dX11_powerOf_4 : decode cX11_powerOf 4 = .ok (.iload_n 3, 1) := by decide +kernel
theorem dX11_powerOf_5 : decode cX11_powerOf 5 = .ok (.iload_n 1, 1) := by decide +kernel
theorem dX11_powerOf_6 : decode cX11_powerOf 6 = .ok (.if_icmp .ge 13, 3) := by decide +kernel
theorem dX11_powerOf_9 : decode cX11_powerOf 9 = .ok (.iload_n 2, 1) := by decide +kernel
theorem dX11_powerOf_10 : decode cX11_powerOf 10 = .ok (.iload_n 0, 1) := by decide +kernel
theorem dX11_powerOf_11 : decode cX11_powerOf 11 = .ok (.imul, 1) := by decide +kernel
theorem dX11_powerOf_12 : decode cX11_powerOf 12 = .ok (.istore_n 2, 1) := by decide +kernel
theorem dX11_powerOf_13 : decode cX11_powerOf 13 = .ok (.iinc 3 1, 3) := by decide +kernel
theorem dX11_powerOf_16 : decode cX11_powerOf 16 = .ok (.goto (-12), 3) := by decide +kernel
theorem dX11_powerOf_19 : decode cX11_powerOf 19 = .ok (.iload_n 2, 1) := by decide +kernel
theorem dX11_powerOf_20 : decode cX11_powerOf 20 = .ok (.ireturn, 1) := by decide +kernel
set_option maxRecDepth 20000 in
theorem ggX11_down_X11_is8 : GoodIn wsX11_down wsX11_is8 := goodIn_r _ [5, 6, 7, 4, 8] (by decide +kernel) (by decide +kernel)
set_option maxRecDepth 20000 in
theorem gX11_down_X11_is8 : GoodIn wsX11_down (va_wsS RX11 46 yX11_is8 wsX11_is8) := goodIn_app (goodIn_of _ (by decide +kernel)) ggX11_down_X11_is8
set_option maxRecDepth 20000 in
theorem ggX11_down_X11_in : GoodIn wsX11_down wsX11_in := goodIn_r _ [8] (by decide +kernel) (by decide +kernel)
set_option maxRecDepth 20000 in
theorem gX11_down_X11_in : GoodIn wsX11_down (va_wsS RX11 42 yX11_in wsX11_in) := goodIn_app (goodIn_of _ (by decide +kernel)) ggX11_down_X11_in
set_option maxRecDepth 20000 in
theorem ggX11_down_X11_asNow : GoodIn wsX11_down wsX11_asNow := goodIn_r _ [12, 13, 1, 14, 15, 16, 17, 18, 19, 44, 45, 46, 47, 48, 49, 50, 51, 52, 53, 54, 55, 56, 57, 58, 59, 60] (by decide +kernel) (by decide +kernel)
set_option maxRecDepth 20000 in
theorem gX11_down_X11_asNow : GoodIn wsX11_down (wsV RX11 76 RX11 yX11_asNow wsX11_asNow) := goodIn_app (goodIn_of _ (by decide +kernel)) ggX11_down_X11_asNow
set_option maxRecDepth 20000 in
theorem ggX11_down_X11_carOf : GoodIn wsX11_down wsX11_carOf := goodIn_r _ [23, 16, 44, 45, 46, 47, 48, 49, 50, 51, 52, 53, 54, 55, 56, 57, 58, 59, 60] (by decide +kernel) (by decide +kernel)
set_option maxRecDepth 20000 in
theorem gX11_down_X11_carOf : GoodIn wsX11_down (wsV RX11 85 RX11 yX11_carOf wsX11_carOf) := goodIn_app (goodIn_of _ (by decide +kernel)) ggX11_down_X11_carOf
set_option maxRecDepth 20000 in
theorem ggX11_down_X11_powerOf : GoodIn wsX11_down wsX11_powerOf := goodIn_r _ [26] (by decide +kernel) (by decide +kernel)
set_option maxRecDepth 20000 in
theorem gX11_down_X11_powerOf : GoodIn wsX11_down (va_wsS RX11 99 yX11_powerOf wsX11_powerOf) := goodIn_app (goodIn_of _ (by decide +kernel)) ggX11_down_X11_powerOf
set_option maxRecDepth 20000 in
theorem ggX11_down_X11_move : GoodIn wsX11_down wsX11_move := goodIn_r _ [30, 16, 1, 20, 21, 22, 4, 23, 31, 32, 33, 34, 35, 14, 15, 36, 37, 38, 39, 18, 40, 41, 42, 43, 44, 45, 46, 47, 48, 49, 50, 51, 52, 53, 54, 55, 56, 57, 58, 59, 60] (by decide +kernel) (by decide +kernel)
set_option maxRecDepth 20000 in
theorem gX11_down_X11_move : GoodIn wsX11_down (wsV RX11 102 RX11 yX11_move wsX11_move) := goodIn_app (goodIn_of _ (by decide +kernel)) ggX11_down_X11_move
theorem dX11_down_0 : decode cX11_down 0 = .ok (.iload_n 1, 1) := by decide +kernel
theorem dX11_down_1 : decode cX11_down 1 = .ok (.invokestatic 46, 3) := by decide +kernel
theorem dX11_down_4 : decode cX11_down 4 = .ok (.ifCond .ne 5, 3) := by decide +kernel
theorem dX11_down_7 : decode cX11_down 7 = .ok (.iconst (-1), 1) := by decide +kernel
theorem dX11_down_8 : decode cX11_down 8 = .ok (.ireturn, 1) := by decide +kernel
theorem dX11_down_9 : decode cX11_down 9 = .ok (.iload_n 2, 1) := by decide +kernel
theorem dX11_down_10 : decode cX11_down 10 = .ok (.iconst 0, 1) := by decide +kernel
theorem dX11_down_11 : decode cX11_down 11 = .ok (.iconst 2, 1) := by decide +kernel
theorem dX11_down_12 : decode cX11_down 12 = .ok (.invokestatic 42, 3) := by decide +kernel
theorem dX11_down_15 : decode cX11_down 15 = .ok (.ifCond .ne 6, 3) := by decide +kernel
theorem dX11_down_18 : decode cX11_down 18 = .ok (.bipush (-2), 2) := by decide +kernel
theorem dX11_down_20 : decode cX11_down 20 = .ok (.ireturn, 1) := by decide +kernel
theorem dX11_down_21 : decode cX11_down 21 = .ok (.aload_n 0, 1) := by decide +kernel
theorem dX11_down_22 : decode cX11_down 22 = .ok (.invokevirtual 76, 3) := by decide +kernel
theorem dX11_down_25 : decode cX11_down 25 = .ok (.aload_n 0, 1) := by decide +kernel
theorem dX11_down_26 : decode cX11_down 26 = .ok (.iload_n 1, 1) := by decide +kernel
theorem dX11_down_27 : decode cX11_down 27 = .ok (.invokevirtual 85, 3) := by decide +kernel
theorem dX11_down_30 : decode cX11_down 30 = .ok (.ifCond .ge 6, 3) := by decide +kernel
theorem dX11_down_33 : decode cX11_down 33 = .ok (.bipush (-3), 2) := by decide +kernel
theorem dX11_down_35 : decode cX11_down 35 = .ok (.ireturn, 1) := by decide +kernel
theorem dX11_down_36 : decode cX11_down 36 = .ok (.aload_n 0, 1) := by decide +kernel
theorem dX11_down_37 : decode cX11_down 37 = .ok (.iload_n 1, 1) := by decide +kernel
theorem dX11_down_38 : decode cX11_down 38 = .ok (.invokevirtual 85, 3) := by decide +kernel
theorem dX11_down_41 : decode cX11_down 41 = .ok (.aload_n 0, 1) := by decide +kernel
theorem dX11_down_42 : decode cX11_down 42 = .ok (.getfield 60, 3) := by decide +kernel
end
section
theorem dX11_down_45 : decode cX11_down 45 = .ok (.if_icmp .ne 14, 3) := by decide +kernel
theorem dX11_down_48 : decode cX11_down 48 = .ok (.iload_n 2, 1) := by decide +kernel
theorem dX11_down_49 : decode cX11_down 49 = .ok (.ifCond .ne 7, 3) := by decide +kernel
theorem dX11_down_52 : decode cX11_down 52 = .ok (.iconst 0, 1) := by decide +kernel
theorem dX11_down_53 : decode cX11_down 53 = .ok (.goto 5, 3) := by decide +kernel
theorem dX11_down_56 : decode cX11_down 56 = .ok (.bipush (-6), 2) := by decide +kernel
theorem dX11_down_58 : decode cX11_down 58 = .ok (.ireturn, 1) := by decide +kernel
theorem dX11_down_59 : decode cX11_down 59 = .ok (.iconst 1, 1) := by decide +kernel
theorem dX11_down_60 : decode cX11_down 60 = .ok (.istore_n 3, 1) := by decide +kernel
theorem dX11_down_61 : decode cX11_down 61 = .ok (.iload_n 3, 1) := by decide +kernel
theorem dX11_down_62 : decode cX11_down 62 = .ok (.iconst 4, 1) := by decide +kernel
theorem dX11_down_63 : decode cX11_down 63 = .ok (.if_icmp .ge 154, 3) := by decide +kernel
theorem dX11_down_66 : decode cX11_down 66 = .ok (.bipush 18, 2) := by decide +kernel
theorem dX11_down_68 : decode cX11_down 68 = .ok (.iload_n 3, 1) := by decide +kernel
theorem dX11_down_69 : decode cX11_down 69 = .ok (.invokestatic 99, 3) := by decide +kernel
theorem dX11_down_72 : decode cX11_down 72 = .ok (.istore 4, 2) := by decide +kernel
theorem dX11_down_74 : decode cX11_down 74 = .ok (.iconst 0, 1) := by decide +kernel
theorem dX11_down_75 : decode cX11_down 75 = .ok (.istore 5, 2) := by decide +kernel
theorem dX11_down_77 : decode cX11_down 77 = .ok (.iload 5, 2) := by decide +kernel
theorem dX11_down_79 : decode cX11_down 79 = .ok (.iload 4, 2) := by decide +kernel
theorem dX11_down_81 : decode cX11_down 81 = .ok (.if_icmp .ge 130, 3) := by decide +kernel
theorem dX11_down_84 : decode cX11_down 84 = .ok (.aload_n 0, 1) := by decide +kernel
theorem dX11_down_85 : decode cX11_down 85 = .ok (.invokevirtual 76, 3) := by decide +kernel
theorem dX11_down_88 : decode cX11_down 88 = .ok (.iload 4, 2) := by decide +kernel
theorem dX11_down_90 : decode cX11_down 90 = .ok (.istore 6, 2) := by decide +kernel
theorem dX11_down_92 : decode cX11_down 92 = .ok (.iconst 1, 1) := by decide +kernel
theorem dX11_down_93 : decode cX11_down 93 = .ok (.istore 7, 2) := by decide +kernel
theorem dX11_down_95 : decode cX11_down 95 = .ok (.iconst 0, 1) := by decide +kernel
theorem dX11_down_96 : decode cX11_down 96 = .ok (.istore 8, 2) := by decide +kernel
theorem dX11_down_98 : decode cX11_down 98 = .ok (.iload 8, 2) := by decide +kernel
theorem dX11_down_100 : decode cX11_down 100 = .ok (.iload_n 3, 1) := by decide +kernel
theorem dX11_down_101 : decode cX11_down 101 = .ok (.if_icmp .ge 35, 3) := by decide +kernel
theorem dX11_down_104 : decode cX11_down 104 = .ok (.iload 7, 2) := by decide +kernel
theorem dX11_down_106 : decode cX11_down 106 = .ok (.ifCond .eq 30, 3) := by decide +kernel
theorem dX11_down_109 : decode cX11_down 109 = .ok (.iload 6, 2) := by decide +kernel
theorem dX11_down_111 : decode cX11_down 111 = .ok (.bipush 18, 2) := by decide +kernel
theorem dX11_down_113 : decode cX11_down 113 = .ok (.idiv, 1) := by decide +kernel
theorem dX11_down_114 : decode cX11_down 114 = .ok (.istore 6, 2) := by decide +kernel
theorem dX11_down_116 : decode cX11_down 116 = .ok (.aload_n 0, 1) := by decide +kernel
theorem dX11_down_117 : decode cX11_down 117 = .ok (.iload 5, 2) := by decide +kernel
theorem dX11_down_119 : decode cX11_down 119 = .ok (.iload 6, 2) := by decide +kernel
theorem dX11_down_121 : decode cX11_down 121 = .ok (.idiv, 1) := by decide +kernel
theorem dX11_down_122 : decode cX11_down 122 = .ok (.bipush 18, 2) := by decide +kernel
theorem dX11_down_124 : decode cX11_down 124 = .ok (.irem, 1) := by decide +kernel
theorem dX11_down_125 : decode cX11_down 125 = .ok (.invokevirtual 102, 3) := by decide +kernel
theorem dX11_down_128 : decode cX11_down 128 = .ok (.istore 7, 2) := by decide +kernel
theorem dX11_down_130 : decode cX11_down 130 = .ok (.iinc 8 1, 3) := by decide +kernel
theorem dX11_down_133 : decode cX11_down 133 = .ok (.goto (-35), 3) := by decide +kernel
theorem dX11_down_136 : decode cX11_down 136 = .ok (.iload 7, 2) := by decide +kernel
theorem dX11_down_138 : decode cX11_down 138 = .ok (.ifCond .eq 67, 3) := by decide +kernel
theorem dX11_down_141 : decode cX11_down 141 = .ok (.aload_n 0, 1) := by decide +kernel
theorem dX11_down_142 : decode cX11_down 142 = .ok (.iload_n 1, 1) := by decide +kernel
theorem dX11_down_143 : decode cX11_down 143 = .ok (.invokevirtual 85, 3) := by decide +kernel
theorem dX11_down_146 : decode cX11_down 146 = .ok (.aload_n 0, 1) := by decide +kernel
theorem dX11_down_147 : decode cX11_down 147 = .ok (.getfield 60, 3) := by decide +kernel
theorem dX11_down_150 : decode cX11_down 150 = .ok (.if_icmp .ne 55, 3) := by decide +kernel
theorem dX11_down_153 : decode cX11_down 153 = .ok (.iload 5, 2) := by decide +kernel
theorem dX11_down_155 : decode cX11_down 155 = .ok (.bipush 18, 2) := by decide +kernel
theorem dX11_down_157 : decode cX11_down 157 = .ok (.iload_n 3, 1) := by decide +kernel
theorem dX11_down_158 : decode cX11_down 158 = .ok (.iconst 1, 1) := by decide +kernel
theorem dX11_down_159 : decode cX11_down 159 = .ok (.isub, 1) := by decide +kernel
theorem dX11_down_160 : decode cX11_down 160 = .ok (.invokestatic 99, 3) := by decide +kernel
theorem dX11_down_163 : decode cX11_down 163 = .ok (.idiv, 1) := by decide +kernel
theorem dX11_down_164 : decode cX11_down 164 = .ok (.istore 8, 2) := by decide +kernel
theorem dX11_down_166 : decode cX11_down 166 = .ok (.iload_n 2, 1) := by decide +kernel
theorem dX11_down_167 : decode cX11_down 167 = .ok (.ifCond .ne 7, 3) := by decide +kernel
theorem dX11_down_170 : decode cX11_down 170 = .ok (.iload_n 3, 1) := by decide +kernel
theorem dX11_down_171 : decode cX11_down 171 = .ok (.goto 33, 3) := by decide +kernel
theorem dX11_down_174 : decode cX11_down 174 = .ok (.iload_n 2, 1) := by decide +kernel
theorem dX11_down_175 : decode cX11_down 175 = .ok (.iconst 1, 1) := by decide +kernel
theorem dX11_down_176 : decode cX11_down 176 = .ok (.if_icmp .ne 10, 3) := by decide +kernel
theorem dX11_down_179 : decode cX11_down 179 = .ok (.iload 8, 2) := by decide +kernel
theorem dX11_down_181 : decode cX11_down 181 = .ok (.iconst 2, 1) := by decide +kernel
theorem dX11_down_182 : decode cX11_down 182 = .ok (.irem, 1) := by decide +kernel
theorem dX11_down_183 : decode cX11_down 183 = .ok (.goto 21, 3) := by decide +kernel
theorem dX11_down_186 : decode cX11_down 186 = .ok (.iload 8, 2) := by decide +kernel
theorem dX11_down_188 : decode cX11_down 188 = .ok (.iconst 2, 1) := by decide +kernel
theorem dX11_down_189 : decode cX11_down 189 = .ok (.idiv, 1) := by decide +kernel
theorem dX11_down_190 : decode cX11_down 190 = .ok (.bipush 8, 2) := by decide +kernel
theorem dX11_down_192 : decode cX11_down 192 = .ok (.if_icmp .ne 8, 3) := by decide +kernel
theorem dX11_down_195 : decode cX11_down 195 = .ok (.bipush (-6), 2) := by decide +kernel
theorem dX11_down_197 : decode cX11_down 197 = .ok (.goto 7, 3) := by decide +kernel
theorem dX11_down_200 : decode cX11_down 200 = .ok (.iload 8, 2) := by decide +kernel
theorem dX11_down_202 : decode cX11_down 202 = .ok (.iconst 2, 1) := by decide +kernel
theorem dX11_down_203 : decode cX11_down 203 = .ok (.idiv, 1) := by decide +kernel
theorem dX11_down_204 : decode cX11_down 204 = .ok (.ireturn, 1) := by decide +kernel
theorem dX11_down_205 : decode cX11_down 205 = .ok (.iinc 5 1, 3) := by decide +kernel
theorem dX11_down_208 : decode cX11_down 208 = .ok (.goto (-131), 3) := by decide +kernel
theorem dX11_down_211 : decode cX11_down 211 = .ok (.iinc 3 1, 3) := by decide +kernel
theorem dX11_down_214 : decode cX11_down 214 = .ok (.goto (-153), 3) := by decide +kernel
theorem dX11_down_217 : decode cX11_down 217 = .ok (.bipush (-6), 2) := by decide +kernel
theorem dX11_down_219 : decode cX11_down 219 = .ok (.ireturn, 1) := by decide +kernel
set_option maxRecDepth 20000 in
theorem ggX11_pebbles_X11_is8 : GoodIn wsX11_pebbles wsX11_is8 := goodIn_r _ [6, 7, 8, 5, 9] (by decide +kernel) (by decide +kernel)
set_option maxRecDepth 20000 in
theorem gX11_pebbles_X11_is8 : GoodIn wsX11_pebbles (va_wsS RX11 46 yX11_is8 wsX11_is8) := goodIn_app (goodIn_of _ (by decide +kernel)) ggX11_pebbles_X11_is8
set_option maxRecDepth 20000 in
theorem ggX11_pebbles_X11_asNow : GoodIn wsX11_pebbles wsX11_asNow := goodIn_r _ [13, 14, 2, 15, 16, 17, 18, 1, 19, 37, 38, 39, 40, 41, 42, 43, 44, 45, 46, 47, 48, 49, 50, 51, 52, 53] (by decide +kernel) (by decide +kernel)
set_option maxRecDepth 20000 in
theorem gX11_pebbles_X11_asNow : GoodIn wsX11_pebbles (wsV RX11 76 RX11 yX11_asNow wsX11_asNow) := goodIn_app (goodIn_of _ (by decide +kernel)) ggX11_pebbles_X11_asNow
set_option maxRecDepth 20000 in
theorem ggX11_pebbles_X11_carOf : GoodIn wsX11_pebbles wsX11_carOf := goodIn_r _ [23, 17, 37, 38, 39, 40, 41, 42, 43, 44, 45, 46, 47, 48, 49, 50, 51, 52, 53] (by decide +kernel) (by decide +kernel)
set_option maxRecDepth 20000 in
theorem gX11_pebbles_X11_carOf : GoodIn wsX11_pebbles (wsV RX11 85 RX11 yX11_carOf wsX11_carOf) := goodIn_app (goodIn_of _ (by decide +kernel)) ggX11_pebbles_X11_carOf
set_option maxRecDepth 20000 in
theorem ggX11_pebbles_X11_letGo : GoodIn wsX11_pebbles wsX11_letGo := goodIn_r _ [27, 2, 28, 15, 16, 29, 30, 31, 5, 32, 1, 17, 33, 34, 35, 36, 37, 38, 39, 40, 41, 42, 43, 44, 45, 46, 47, 48, 49, 50, 51, 52, 53] (by decide +kernel) (by decide +kernel)
set_option maxRecDepth 20000 in
theorem gX11_pebbles_X11_letGo : GoodIn wsX11_pebbles (wsV RX11 88 RX11 yX11_letGo wsX11_letGo) := goodIn_app (goodIn_of _ (by decide +kernel)) ggX11_pebbles_X11_letGo
theorem dX11_pebbles_0 : decode cX11_pebbles 0 = .ok (.iload_n 1, 1) := by decide +kernel
theorem dX11_pebbles_1 : decode cX11_pebbles 1 = .ok (.invokestatic 46, 3) := by decide +kernel
theorem dX11_pebbles_4 : decode cX11_pebbles 4 = .ok (.ifCond .ne 5, 3) := by decide +kernel
theorem dX11_pebbles_7 : decode cX11_pebbles 7 = .ok (.iconst (-1), 1) := by decide +kernel
theorem dX11_pebbles_8 : decode cX11_pebbles 8 = .ok (.ireturn, 1) := by decide +kernel
theorem dX11_pebbles_9 : decode cX11_pebbles 9 = .ok (.aload_n 0, 1) := by decide +kernel
theorem dX11_pebbles_10 : decode cX11_pebbles 10 = .ok (.invokevirtual 76, 3) := by decide +kernel
theorem dX11_pebbles_13 : decode cX11_pebbles 13 = .ok (.aload_n 0, 1) := by decide +kernel
theorem dX11_pebbles_14 : decode cX11_pebbles 14 = .ok (.iload_n 1, 1) := by decide +kernel
theorem dX11_pebbles_15 : decode cX11_pebbles 15 = .ok (.invokevirtual 85, 3) := by decide +kernel
theorem dX11_pebbles_18 : decode cX11_pebbles 18 = .ok (.ifCond .ge 6, 3) := by decide +kernel
theorem dX11_pebbles_21 : decode cX11_pebbles 21 = .ok (.bipush (-3), 2) := by decide +kernel
theorem dX11_pebbles_23 : decode cX11_pebbles 23 = .ok (.ireturn, 1) := by decide +kernel
theorem dX11_pebbles_24 : decode cX11_pebbles 24 = .ok (.iconst 0, 1) := by decide +kernel
theorem dX11_pebbles_25 : decode cX11_pebbles 25 = .ok (.istore_n 2, 1) := by decide +kernel
theorem dX11_pebbles_26 : decode cX11_pebbles 26 = .ok (.iload_n 2, 1) := by decide +kernel
theorem dX11_pebbles_27 : decode cX11_pebbles 27 = .ok (.bipush 100, 2) := by decide +kernel
theorem dX11_pebbles_29 : decode cX11_pebbles 29 = .ok (.if_icmp .ge 41, 3) := by decide +kernel
theorem dX11_pebbles_32 : decode cX11_pebbles 32 = .ok (.aload_n 0, 1) := by decide +kernel
theorem dX11_pebbles_33 : decode cX11_pebbles 33 = .ok (.invokevirtual 76, 3) := by decide +kernel
theorem dX11_pebbles_36 : decode cX11_pebbles 36 = .ok (.aload_n 0, 1) := by decide +kernel
theorem dX11_pebbles_37 : decode cX11_pebbles 37 = .ok (.getfield 32, 3) := by decide +kernel
theorem dX11_pebbles_40 : decode cX11_pebbles 40 = .ok (.aload_n 0, 1) := by decide +kernel
theorem dX11_pebbles_41 : decode cX11_pebbles 41 = .ok (.getfield 60, 3) := by decide +kernel
theorem dX11_pebbles_44 : decode cX11_pebbles 44 = .ok (.iload_n 2, 1) := by decide +kernel
theorem dX11_pebbles_45 : decode cX11_pebbles 45 = .ok (.iastore, 1) := by decide +kernel
theorem dX11_pebbles_46 : decode cX11_pebbles 46 = .ok (.aload_n 0, 1) := by decide +kernel
theorem dX11_pebbles_47 : decode cX11_pebbles 47 = .ok (.invokevirtual 88, 3) := by decide +kernel
theorem dX11_pebbles_50 : decode cX11_pebbles 50 = .ok (.aload_n 0, 1) := by decide +kernel
theorem dX11_pebbles_51 : decode cX11_pebbles 51 = .ok (.iload_n 1, 1) := by decide +kernel
theorem dX11_pebbles_52 : decode cX11_pebbles 52 = .ok (.invokevirtual 85, 3) := by decide +kernel
theorem dX11_pebbles_55 : decode cX11_pebbles 55 = .ok (.aload_n 0, 1) := by decide +kernel
theorem dX11_pebbles_56 : decode cX11_pebbles 56 = .ok (.getfield 60, 3) := by decide +kernel
theorem dX11_pebbles_59 : decode cX11_pebbles 59 = .ok (.if_icmp .ne 5, 3) := by decide +kernel
theorem dX11_pebbles_62 : decode cX11_pebbles 62 = .ok (.iload_n 2, 1) := by decide +kernel
theorem dX11_pebbles_63 : decode cX11_pebbles 63 = .ok (.ireturn, 1) := by decide +kernel
theorem dX11_pebbles_64 : decode cX11_pebbles 64 = .ok (.iinc 2 1, 3) := by decide +kernel
theorem dX11_pebbles_67 : decode cX11_pebbles 67 = .ok (.goto (-41), 3) := by decide +kernel
theorem dX11_pebbles_70 : decode cX11_pebbles 70 = .ok (.bipush (-6), 2) := by decide +kernel
theorem dX11_pebbles_72 : decode cX11_pebbles 72 = .ok (.ireturn, 1) := by decide +kernel
set_option maxRecDepth 20000 in
theorem ggX11_greatestPull_X11_pullAt : GoodIn wsX11_greatestPull wsX11_pullAt := goodIn_r _ [5, 6, 7, 8, 9, 10, 4, 11, 12, 13, 14, 15, 16, 17, 18, 19, 20, 21, 22, 23, 24, 25, 26, 27, 28] (by decide +kernel) (by decide +kernel)
set_option maxRecDepth 20000 in
theorem gX11_greatestPull_X11_pullAt : GoodIn wsX11_greatestPull (wsV RX11 73 RX11 yX11_pullAt wsX11_pullAt) := goodIn_app (goodIn_of _ (by decide +kernel)) ggX11_greatestPull_X11_pullAt
theorem dX11_greatestPull_0 : decode cX11_greatestPull 0 = .ok (.iconst 0, 1) := by decide +kernel
theorem dX11_greatestPull_1 : decode cX11_greatestPull 1 = .ok (.istore_n 1, 1) := by decide +kernel
theorem dX11_greatestPull_2 : decode cX11_greatestPull 2 = .ok (.iconst 0, 1) := by decide +kernel
theorem dX11_greatestPull_3 : decode cX11_greatestPull 3 = .ok (.istore_n 2, 1) := by decide +kernel
theorem dX11_greatestPull_4 : decode cX11_greatestPull 4 = .ok (.iload_n 2, 1) := by decide +kernel
theorem dX11_greatestPull_5 : decode cX11_greatestPull 5 = .ok (.bipush 8, 2) := by decide +kernel
theorem dX11_greatestPull_7 : decode cX11_greatestPull 7 = .ok (.if_icmp .ge 37, 3) := by decide +kernel
theorem dX11_greatestPull_10 : decode cX11_greatestPull 10 = .ok (.aload_n 0, 1) := by decide +kernel
theorem dX11_greatestPull_11 : decode cX11_greatestPull 11 = .ok (.iload_n 2, 1) := by decide +kernel
theorem dX11_greatestPull_12 : decode cX11_greatestPull 12 = .ok (.invokevirtual 73, 3) := by decide +kernel
theorem dX11_greatestPull_15 : decode cX11_greatestPull 15 = .ok (.istore_n 3, 1) := by decide +kernel
theorem dX11_greatestPull_16 : decode cX11_greatestPull 16 = .ok (.iload_n 3, 1) := by decide +kernel
theorem dX11_greatestPull_17 : decode cX11_greatestPull 17 = .ok (.ifCond .ge 8, 3) := by decide +kernel
theorem dX11_greatestPull_20 : decode cX11_greatestPull 20 = .ok (.iload_n 3, 1) := by decide +kernel
theorem dX11_greatestPull_21 : decode cX11_greatestPull 21 = .ok (.ineg, 1) := by decide +kernel
theorem dX11_greatestPull_22 : decode cX11_greatestPull 22 = .ok (.goto 4, 3) := by decide +kernel
theorem dX11_greatestPull_25 : decode cX11_greatestPull 25 = .ok (.iload_n 3, 1) := by decide +kernel
theorem dX11_greatestPull_26 : decode cX11_greatestPull 26 = .ok (.istore_n 3, 1) := by decide +kernel
theorem dX11_greatestPull_27 : decode cX11_greatestPull 27 = .ok (.iload_n 3, 1) := by decide +kernel
theorem dX11_greatestPull_28 : decode cX11_greatestPull 28 = .ok (.iload_n 1, 1) := by decide +kernel
theorem dX11_greatestPull_29 : decode cX11_greatestPull 29 = .ok (.if_icmp .le 7, 3) := by decide +kernel
theorem dX11_greatestPull_32 : decode cX11_greatestPull 32 = .ok (.iload_n 3, 1) := by decide +kernel
theorem dX11_greatestPull_33 : decode cX11_greatestPull 33 = .ok (.goto 4, 3) := by decide +kernel
theorem dX11_greatestPull_36 : decode cX11_greatestPull 36 = .ok (.iload_n 1, 1) := by decide +kernel
theorem dX11_greatestPull_37 : decode cX11_greatestPull 37 = .ok (.istore_n 1, 1) := by decide +kernel
theorem dX11_greatestPull_38 : decode cX11_greatestPull 38 = .ok (.iinc 2 1, 3) := by decide +kernel
theorem dX11_greatestPull_41 : decode cX11_greatestPull 41 = .ok (.goto (-37), 3) := by decide +kernel
theorem dX11_greatestPull_44 : decode cX11_greatestPull 44 = .ok (.iload_n 1, 1) := by decide +kernel
theorem dX11_greatestPull_45 : decode cX11_greatestPull 45 = .ok (.ireturn, 1) := by decide +kernel
set_option maxRecDepth 20000 in
theorem ggX11_brake_X11_asNow : GoodIn wsX11_brake wsX11_asNow := goodIn_r _ [5, 6, 7, 8, 9, 10, 11, 12, 13, 26, 27, 28, 29, 30, 31, 32, 33, 34, 35, 36, 37, 38, 39, 40, 41, 42] (by decide +kernel) (by decide +kernel)
set_option maxRecDepth 20000 in
theorem gX11_brake_X11_asNow : GoodIn wsX11_brake (wsV RX11 76 RX11 yX11_asNow wsX11_asNow) := goodIn_app (goodIn_of _ (by decide +kernel)) ggX11_brake_X11_asNow
set_option maxRecDepth 20000 in
theorem ggX11_brake_X11_greatestPull : GoodIn wsX11_brake wsX11_greatestPull := goodIn_r _ [17, 18, 19, 20, 4, 21, 12, 10, 22, 23, 24, 25, 26, 27, 28, 29, 30, 31, 32, 33, 34, 35, 36, 37, 38, 39, 40, 41, 42] (by decide +kernel) (by decide +kernel)
set_option maxRecDepth 20000 in
theorem gX11_brake_X11_greatestPull : GoodIn wsX11_brake (wsV RX11 105 RX11 yX11_greatestPull wsX11_greatestPull) := goodIn_app (goodIn_of _ (by decide +kernel)) ggX11_brake_X11_greatestPull
theorem dX11_brake_0 : decode cX11_brake 0 = .ok (.aload_n 0, 1) := by decide +kernel
theorem dX11_brake_1 : decode cX11_brake 1 = .ok (.invokevirtual 76, 3) := by decide +kernel
theorem dX11_brake_4 : decode cX11_brake 4 = .ok (.aload_n 0, 1) := by decide +kernel
theorem dX11_brake_5 : decode cX11_brake 5 = .ok (.invokevirtual 105, 3) := by decide +kernel
theorem dX11_brake_8 : decode cX11_brake 8 = .ok (.ireturn, 1) := by decide +kernel
set_option maxRecDepth 20000 in
theorem ggX11_balance_X11_is8 : GoodIn wsX11_balance wsX11_is8 := goodIn_r _ [5, 6, 7, 4, 8] (by decide +kernel) (by decide +kernel)
set_option maxRecDepth 20000 in
theorem gX11_balance_X11_is8 : GoodIn wsX11_balance (va_wsS RX11 46 yX11_is8 wsX11_is8) := goodIn_app (goodIn_of _ (by decide +kernel)) ggX11_balance_X11_is8
set_option maxRecDepth 20000 in
theorem ggX11_balance_X11_in : GoodIn wsX11_balance wsX11_in := goodIn_r _ [8] (by decide +kernel) (by decide +kernel)
set_option maxRecDepth 20000 in
theorem gX11_balance_X11_in : GoodIn wsX11_balance (va_wsS RX11 42 yX11_in wsX11_in) := goodIn_app (goodIn_of _ (by decide +kernel)) ggX11_balance_X11_in
set_option maxRecDepth 20000 in
theorem ggX11_balance_X11_has : GoodIn wsX11_balance wsX11_has := goodIn_r _ [11] (by decide +kernel) (by decide +kernel)
set_option maxRecDepth 20000 in
theorem gX11_balance_X11_has : GoodIn wsX11_balance (va_wsS RX11 108 yX11_has wsX11_has) := goodIn_app (goodIn_of _ (by decide +kernel)) ggX11_balance_X11_has
set_option maxRecDepth 20000 in
theorem ggX11_balance_X11_powerOf : GoodIn wsX11_balance wsX11_powerOf := goodIn_r _ [14] (by decide +kernel) (by decide +kernel)
set_option maxRecDepth 20000 in
theorem gX11_balance_X11_powerOf : GoodIn wsX11_balance (va_wsS RX11 99 yX11_powerOf wsX11_powerOf) := goodIn_app (goodIn_of _ (by decide +kernel)) ggX11_balance_X11_powerOf
set_option maxRecDepth 20000 in
theorem ggX11_balance_X11_isSeated : GoodIn wsX11_balance wsX11_isSeated := goodIn_r _ [18, 19, 20, 12, 13, 4, 14, 9, 10, 11, 33, 34, 35, 36, 37, 38, 39, 40, 41, 42, 43, 44, 45, 46, 47, 48, 49] (by decide +kernel) (by decide +kernel)
set_option maxRecDepth 20000 in
theorem gX11_balance_X11_isSeated : GoodIn wsX11_balance (wsV RX11 112 RX11 yX11_isSeated wsX11_isSeated) := goodIn_app (goodIn_of _ (by decide +kernel)) ggX11_balance_X11_isSeated
set_option maxRecDepth 20000 in
theorem ggX11_balance_X11_greatestPull : GoodIn wsX11_balance wsX11_greatestPull := goodIn_r _ [24, 25, 26, 27, 4, 28, 20, 19, 29, 30, 31, 32, 33, 34, 35, 36, 37, 38, 39, 40, 41, 42, 43, 44, 45, 46, 47, 48, 49] (by decide +kernel) (by decide +kernel)
set_option maxRecDepth 20000 in
theorem gX11_balance_X11_greatestPull : GoodIn wsX11_balance (wsV RX11 105 RX11 yX11_greatestPull wsX11_greatestPull) := goodIn_app (goodIn_of _ (by decide +kernel)) ggX11_balance_X11_greatestPull
theorem dX11_balance_0 : decode cX11_balance 0 = .ok (.iload_n 2, 1) := by decide +kernel
theorem dX11_balance_1 : decode cX11_balance 1 = .ok (.iconst (-1), 1) := by decide +kernel
theorem dX11_balance_2 : decode cX11_balance 2 = .ok (.if_icmp .eq 31, 3) := by decide +kernel
theorem dX11_balance_5 : decode cX11_balance 5 = .ok (.iload_n 2, 1) := by decide +kernel
theorem dX11_balance_6 : decode cX11_balance 6 = .ok (.invokestatic 46, 3) := by decide +kernel
theorem dX11_balance_9 : decode cX11_balance 9 = .ok (.ifCond .eq 22, 3) := by decide +kernel
theorem dX11_balance_12 : decode cX11_balance 12 = .ok (.iload_n 1, 1) := by decide +kernel
theorem dX11_balance_13 : decode cX11_balance 13 = .ok (.iconst 0, 1) := by decide +kernel
theorem dX11_balance_14 : decode cX11_balance 14 = .ok (.sipush 255, 3) := by decide +kernel
theorem dX11_balance_17 : decode cX11_balance 17 = .ok (.invokestatic 42, 3) := by decide +kernel
theorem dX11_balance_20 : decode cX11_balance 20 = .ok (.ifCond .eq 13, 3) := by decide +kernel
theorem dX11_balance_23 : decode cX11_balance 23 = .ok (.iload_n 1, 1) := by decide +kernel
theorem dX11_balance_24 : decode cX11_balance 24 = .ok (.iload_n 2, 1) := by decide +kernel
theorem dX11_balance_25 : decode cX11_balance 25 = .ok (.invokestatic 108, 3) := by decide +kernel
theorem dX11_balance_28 : decode cX11_balance 28 = .ok (.ifCond .ne 5, 3) := by decide +kernel
theorem dX11_balance_31 : decode cX11_balance 31 = .ok (.iconst (-1), 1) := by decide +kernel
theorem dX11_balance_32 : decode cX11_balance 32 = .ok (.ireturn, 1) := by decide +kernel
theorem dX11_balance_33 : decode cX11_balance 33 = .ok (.iload_n 1, 1) := by decide +kernel
theorem dX11_balance_34 : decode cX11_balance 34 = .ok (.iconst 0, 1) := by decide +kernel
theorem dX11_balance_35 : decode cX11_balance 35 = .ok (.sipush 255, 3) := by decide +kernel
theorem dX11_balance_38 : decode cX11_balance 38 = .ok (.invokestatic 42, 3) := by decide +kernel
theorem dX11_balance_41 : decode cX11_balance 41 = .ok (.ifCond .ne 6, 3) := by decide +kernel
theorem dX11_balance_44 : decode cX11_balance 44 = .ok (.bipush (-2), 2) := by decide +kernel
theorem dX11_balance_46 : decode cX11_balance 46 = .ok (.ireturn, 1) := by decide +kernel
theorem dX11_balance_47 : decode cX11_balance 47 = .ok (.iconst 0, 1) := by decide +kernel
theorem dX11_balance_48 : decode cX11_balance 48 = .ok (.istore_n 3, 1) := by decide +kernel
theorem dX11_balance_49 : decode cX11_balance 49 = .ok (.iconst 0, 1) := by decide +kernel
theorem dX11_balance_50 : decode cX11_balance 50 = .ok (.istore 4, 2) := by decide +kernel
theorem dX11_balance_52 : decode cX11_balance 52 = .ok (.iconst 0, 1) := by decide +kernel
theorem dX11_balance_53 : decode cX11_balance 53 = .ok (.istore 5, 2) := by decide +kernel
theorem dX11_balance_55 : decode cX11_balance 55 = .ok (.iload 5, 2) := by decide +kernel
theorem dX11_balance_57 : decode cX11_balance 57 = .ok (.bipush 8, 2) := by decide +kernel
theorem dX11_balance_59 : decode cX11_balance 59 = .ok (.if_icmp .ge 39, 3) := by decide +kernel
theorem dX11_balance_62 : decode cX11_balance 62 = .ok (.iload_n 3, 1) := by decide +kernel
theorem dX11_balance_63 : decode cX11_balance 63 = .ok (.iload_n 1, 1) := by decide +kernel
theorem dX11_balance_64 : decode cX11_balance 64 = .ok (.iload 5, 2) := by decide +kernel
theorem dX11_balance_66 : decode cX11_balance 66 = .ok (.ishr, 1) := by decide +kernel
theorem dX11_balance_67 : decode cX11_balance 67 = .ok (.iconst 1, 1) := by decide +kernel
theorem dX11_balance_68 : decode cX11_balance 68 = .ok (.iand, 1) := by decide +kernel
theorem dX11_balance_69 : decode cX11_balance 69 = .ok (.iadd, 1) := by decide +kernel
theorem dX11_balance_70 : decode cX11_balance 70 = .ok (.istore_n 3, 1) := by decide +kernel
theorem dX11_balance_71 : decode cX11_balance 71 = .ok (.iload 4, 2) := by decide +kernel
theorem dX11_balance_73 : decode cX11_balance 73 = .ok (.iload 5, 2) := by decide +kernel
theorem dX11_balance_75 : decode cX11_balance 75 = .ok (.iload_n 2, 1) := by decide +kernel
theorem dX11_balance_76 : decode cX11_balance 76 = .ok (.if_icmp .ge 12, 3) := by decide +kernel
theorem dX11_balance_79 : decode cX11_balance 79 = .ok (.iload_n 1, 1) := by decide +kernel
theorem dX11_balance_80 : decode cX11_balance 80 = .ok (.iload 5, 2) := by decide +kernel
theorem dX11_balance_82 : decode cX11_balance 82 = .ok (.ishr, 1) := by decide +kernel
theorem dX11_balance_83 : decode cX11_balance 83 = .ok (.iconst 1, 1) := by decide +kernel
theorem dX11_balance_84 : decode cX11_balance 84 = .ok (.iand, 1) := by decide +kernel
theorem dX11_balance_85 : decode cX11_balance 85 = .ok (.goto 4, 3) := by decide +kernel
theorem dX11_balance_88 : decode cX11_balance 88 = .ok (.iconst 0, 1) := by decide +kernel
theorem dX11_balance_89 : decode cX11_balance 89 = .ok (.iadd, 1) := by decide +kernel
theorem dX11_balance_90 : decode cX11_balance 90 = .ok (.istore 4, 2) := by decide +kernel
theorem dX11_balance_92 : decode cX11_balance 92 = .ok (.iinc 5 1, 3) := by decide +kernel
theorem dX11_balance_95 : decode cX11_balance 95 = .ok (.goto (-40), 3) := by decide +kernel
theorem dX11_balance_98 : decode cX11_balance 98 = .ok (.iload_n 3, 1) := by decide +kernel
theorem dX11_balance_99 : decode cX11_balance 99 = .ok (.iconst 5, 1) := by decide +kernel
theorem dX11_balance_100 : decode cX11_balance 100 = .ok (.if_icmp .le 6, 3) := by decide +kernel
theorem dX11_balance_103 : decode cX11_balance 103 = .ok (.bipush (-4), 2) := by decide +kernel
theorem dX11_balance_105 : decode cX11_balance 105 = .ok (.ireturn, 1) := by decide +kernel
theorem dX11_balance_106 : decode cX11_balance 106 = .ok (.bipush 8, 2) := by decide +kernel
theorem dX11_balance_108 : decode cX11_balance 108 = .ok (.iload_n 3, 1) := by decide +kernel
theorem dX11_balance_109 : decode cX11_balance 109 = .ok (.invokestatic 99, 3) := by decide +kernel
theorem dX11_balance_112 : decode cX11_balance 112 = .ok (.istore 5, 2) := by decide +kernel
theorem dX11_balance_114 : decode cX11_balance 114 = .ok (.iconst 0, 1) := by decide +kernel
theorem dX11_balance_115 : decode cX11_balance 115 = .ok (.istore 6, 2) := by decide +kernel
theorem dX11_balance_117 : decode cX11_balance 117 = .ok (.bipush (-6), 2) := by decide +kernel
theorem dX11_balance_119 : decode cX11_balance 119 = .ok (.istore 7, 2) := by decide +kernel
theorem dX11_balance_121 : decode cX11_balance 121 = .ok (.iconst 0, 1) := by decide +kernel
theorem dX11_balance_122 : decode cX11_balance 122 = .ok (.istore 8, 2) := by decide +kernel
theorem dX11_balance_124 : decode cX11_balance 124 = .ok (.iload 8, 2) := by decide +kernel
theorem dX11_balance_126 : decode cX11_balance 126 = .ok (.iload 5, 2) := by decide +kernel
theorem dX11_balance_128 : decode cX11_balance 128 = .ok (.if_icmp .ge 48, 3) := by decide +kernel
theorem dX11_balance_131 : decode cX11_balance 131 = .ok (.aload_n 0, 1) := by decide +kernel
theorem dX11_balance_132 : decode cX11_balance 132 = .ok (.iload_n 1, 1) := by decide +kernel
theorem dX11_balance_133 : decode cX11_balance 133 = .ok (.iload_n 3, 1) := by decide +kernel
theorem dX11_balance_134 : decode cX11_balance 134 = .ok (.iload 8, 2) := by decide +kernel
theorem dX11_balance_136 : decode cX11_balance 136 = .ok (.invokevirtual 112, 3) := by decide +kernel
theorem dX11_balance_139 : decode cX11_balance 139 = .ok (.ifCond .eq 31, 3) := by decide +kernel
theorem dX11_balance_142 : decode cX11_balance 142 = .ok (.aload_n 0, 1) := by decide +kernel
theorem dX11_balance_143 : decode cX11_balance 143 = .ok (.invokevirtual 105, 3) := by decide +kernel
theorem dX11_balance_146 : decode cX11_balance 146 = .ok (.aload_n 0, 1) := by decide +kernel
theorem dX11_balance_147 : decode cX11_balance 147 = .ok (.getfield 19, 3) := by decide +kernel
theorem dX11_balance_150 : decode cX11_balance 150 = .ok (.if_icmp .gt 20, 3) := by decide +kernel
theorem dX11_balance_153 : decode cX11_balance 153 = .ok (.iload 7, 2) := by decide +kernel
theorem dX11_balance_155 : decode cX11_balance 155 = .ok (.ifCond .ge 8, 3) := by decide +kernel
theorem dX11_balance_158 : decode cX11_balance 158 = .ok (.iload 8, 2) := by decide +kernel
theorem dX11_balance_160 : decode cX11_balance 160 = .ok (.goto 5, 3) := by decide +kernel
theorem dX11_balance_163 : decode cX11_balance 163 = .ok (.iload 7, 2) := by decide +kernel
theorem dX11_balance_165 : decode cX11_balance 165 = .ok (.istore 7, 2) := by decide +kernel
theorem dX11_balance_167 : decode cX11_balance 167 = .ok (.iinc 6 1, 3) := by decide +kernel
theorem dX11_balance_170 : decode cX11_balance 170 = .ok (.iinc 8 1, 3) := by decide +kernel
theorem dX11_balance_173 : decode cX11_balance 173 = .ok (.goto (-49), 3) := by decide +kernel
theorem dX11_balance_176 : decode cX11_balance 176 = .ok (.iload_n 2, 1) := by decide +kernel
theorem dX11_balance_177 : decode cX11_balance 177 = .ok (.ifCond .ge 8, 3) := by decide +kernel
theorem dX11_balance_180 : decode cX11_balance 180 = .ok (.iload 6, 2) := by decide +kernel
theorem dX11_balance_182 : decode cX11_balance 182 = .ok (.goto 30, 3) := by decide +kernel
theorem dX11_balance_185 : decode cX11_balance 185 = .ok (.iload 7, 2) := by decide +kernel
theorem dX11_balance_187 : decode cX11_balance 187 = .ok (.ifCond .ge 8, 3) := by decide +kernel
theorem dX11_balance_190 : decode cX11_balance 190 = .ok (.bipush (-6), 2) := by decide +kernel
theorem dX11_balance_192 : decode cX11_balance 192 = .ok (.goto 20, 3) := by decide +kernel
theorem dX11_balance_195 : decode cX11_balance 195 = .ok (.iload 7, 2) := by decide +kernel
theorem dX11_balance_197 : decode cX11_balance 197 = .ok (.bipush 8, 2) := by decide +kernel
theorem dX11_balance_199 : decode cX11_balance 199 = .ok (.iload_n 3, 1) := by decide +kernel
theorem dX11_balance_200 : decode cX11_balance 200 = .ok (.iconst 1, 1) := by decide +kernel
theorem dX11_balance_201 : decode cX11_balance 201 = .ok (.isub, 1) := by decide +kernel
theorem dX11_balance_202 : decode cX11_balance 202 = .ok (.iload 4, 2) := by decide +kernel
theorem dX11_balance_204 : decode cX11_balance 204 = .ok (.isub, 1) := by decide +kernel
theorem dX11_balance_205 : decode cX11_balance 205 = .ok (.invokestatic 99, 3) := by decide +kernel
theorem dX11_balance_208 : decode cX11_balance 208 = .ok (.idiv, 1) := by decide +kernel
theorem dX11_balance_209 : decode cX11_balance 209 = .ok (.bipush 8, 2) := by decide +kernel
theorem dX11_balance_211 : decode cX11_balance 211 = .ok (.irem, 1) := by decide +kernel
theorem dX11_balance_212 : decode cX11_balance 212 = .ok (.ireturn, 1) := by decide +kernel
set_option maxRecDepth 20000 in
theorem ggX11_isSeated_X11_powerOf : GoodIn wsX11_isSeated wsX11_powerOf := goodIn_r _ [6] (by decide +kernel) (by decide +kernel)
set_option maxRecDepth 20000 in
theorem gX11_isSeated_X11_powerOf : GoodIn wsX11_isSeated (va_wsS RX11 99 yX11_powerOf wsX11_powerOf) := goodIn_app (goodIn_of _ (by decide +kernel)) ggX11_isSeated_X11_powerOf
set_option maxRecDepth 20000 in
theorem ggX11_isSeated_X11_has : GoodIn wsX11_isSeated wsX11_has := goodIn_r _ [9] (by decide +kernel) (by decide +kernel)
set_option maxRecDepth 20000 in
theorem gX11_isSeated_X11_has : GoodIn wsX11_isSeated (va_wsS RX11 108 yX11_has wsX11_has) := goodIn_app (goodIn_of _ (by decide +kernel)) ggX11_isSeated_X11_has
theorem dX11_isSeated_0 : decode cX11_isSeated 0 = .ok (.iconst 0, 1) := by decide +kernel
theorem dX11_isSeated_1 : decode cX11_isSeated 1 = .ok (.istore 4, 2) := by decide +kernel
theorem dX11_isSeated_3 : decode cX11_isSeated 3 = .ok (.iload 4, 2) := by decide +kernel
theorem dX11_isSeated_5 : decode cX11_isSeated 5 = .ok (.bipush 8, 2) := by decide +kernel
theorem dX11_isSeated_7 : decode cX11_isSeated 7 = .ok (.if_icmp .ge 26, 3) := by decide +kernel
theorem dX11_isSeated_10 : decode cX11_isSeated 10 = .ok (.aload_n 0, 1) := by decide +kernel
theorem dX11_isSeated_11 : decode cX11_isSeated 11 = .ok (.getfield 29, 3) := by decide +kernel
theorem dX11_isSeated_14 : decode cX11_isSeated 14 = .ok (.iload 4, 2) := by decide +kernel
theorem dX11_isSeated_16 : decode cX11_isSeated 16 = .ok (.bipush (-6), 2) := by decide +kernel
theorem dX11_isSeated_18 : decode cX11_isSeated 18 = .ok (.iastore, 1) := by decide +kernel
theorem dX11_isSeated_19 : decode cX11_isSeated 19 = .ok (.aload_n 0, 1) := by decide +kernel
theorem dX11_isSeated_20 : decode cX11_isSeated 20 = .ok (.getfield 32, 3) := by decide +kernel
theorem dX11_isSeated_23 : decode cX11_isSeated 23 = .ok (.iload 4, 2) := by decide +kernel
theorem dX11_isSeated_25 : decode cX11_isSeated 25 = .ok (.iconst 0, 1) := by decide +kernel
theorem dX11_isSeated_26 : decode cX11_isSeated 26 = .ok (.iastore, 1) := by decide +kernel
theorem dX11_isSeated_27 : decode cX11_isSeated 27 = .ok (.iinc 4 1, 3) := by decide +kernel
theorem dX11_isSeated_30 : decode cX11_isSeated 30 = .ok (.goto (-27), 3) := by decide +kernel
theorem dX11_isSeated_33 : decode cX11_isSeated 33 = .ok (.bipush 8, 2) := by decide +kernel
theorem dX11_isSeated_35 : decode cX11_isSeated 35 = .ok (.iload_n 2, 1) := by decide +kernel
theorem dX11_isSeated_36 : decode cX11_isSeated 36 = .ok (.invokestatic 99, 3) := by decide +kernel
theorem dX11_isSeated_39 : decode cX11_isSeated 39 = .ok (.istore 4, 2) := by decide +kernel
theorem dX11_isSeated_41 : decode cX11_isSeated 41 = .ok (.iconst 1, 1) := by decide +kernel
theorem dX11_isSeated_42 : decode cX11_isSeated 42 = .ok (.istore 5, 2) := by decide +kernel
theorem dX11_isSeated_44 : decode cX11_isSeated 44 = .ok (.iconst 0, 1) := by decide +kernel
theorem dX11_isSeated_45 : decode cX11_isSeated 45 = .ok (.istore 6, 2) := by decide +kernel
theorem dX11_isSeated_47 : decode cX11_isSeated 47 = .ok (.iload 6, 2) := by decide +kernel
theorem dX11_isSeated_49 : decode cX11_isSeated 49 = .ok (.bipush 8, 2) := by decide +kernel
theorem dX11_isSeated_51 : decode cX11_isSeated 51 = .ok (.if_icmp .ge 65, 3) := by decide +kernel
theorem dX11_isSeated_54 : decode cX11_isSeated 54 = .ok (.iload 5, 2) := by decide +kernel
theorem dX11_isSeated_56 : decode cX11_isSeated 56 = .ok (.ifCond .eq 60, 3) := by decide +kernel
theorem dX11_isSeated_59 : decode cX11_isSeated 59 = .ok (.iload_n 1, 1) := by decide +kernel
theorem dX11_isSeated_60 : decode cX11_isSeated 60 = .ok (.iload 6, 2) := by decide +kernel
theorem dX11_isSeated_62 : decode cX11_isSeated 62 = .ok (.invokestatic 108, 3) := by decide +kernel
theorem dX11_isSeated_65 : decode cX11_isSeated 65 = .ok (.ifCond .eq 45, 3) := by decide +kernel
theorem dX11_isSeated_68 : decode cX11_isSeated 68 = .ok (.iload 4, 2) := by decide +kernel
theorem dX11_isSeated_70 : decode cX11_isSeated 70 = .ok (.bipush 8, 2) := by decide +kernel
theorem dX11_isSeated_72 : decode cX11_isSeated 72 = .ok (.idiv, 1) := by decide +kernel
theorem dX11_isSeated_73 : decode cX11_isSeated 73 = .ok (.istore 4, 2) := by decide +kernel
theorem dX11_isSeated_75 : decode cX11_isSeated 75 = .ok (.iload_n 3, 1) := by decide +kernel
theorem dX11_isSeated_76 : decode cX11_isSeated 76 = .ok (.iload 4, 2) := by decide +kernel
theorem dX11_isSeated_78 : decode cX11_isSeated 78 = .ok (.idiv, 1) := by decide +kernel
theorem dX11_isSeated_79 : decode cX11_isSeated 79 = .ok (.bipush 8, 2) := by decide +kernel
theorem dX11_isSeated_81 : decode cX11_isSeated 81 = .ok (.irem, 1) := by decide +kernel
theorem dX11_isSeated_82 : decode cX11_isSeated 82 = .ok (.istore 7, 2) := by decide +kernel
theorem dX11_isSeated_84 : decode cX11_isSeated 84 = .ok (.aload_n 0, 1) := by decide +kernel
theorem dX11_isSeated_85 : decode cX11_isSeated 85 = .ok (.getfield 29, 3) := by decide +kernel
theorem dX11_isSeated_88 : decode cX11_isSeated 88 = .ok (.iload 7, 2) := by decide +kernel
theorem dX11_isSeated_90 : decode cX11_isSeated 90 = .ok (.iaload, 1) := by decide +kernel
theorem dX11_isSeated_91 : decode cX11_isSeated 91 = .ok (.ifCond .ge 7, 3) := by decide +kernel
theorem dX11_isSeated_94 : decode cX11_isSeated 94 = .ok (.iconst 1, 1) := by decide +kernel
theorem dX11_isSeated_95 : decode cX11_isSeated 95 = .ok (.goto 4, 3) := by decide +kernel
theorem dX11_isSeated_98 : decode cX11_isSeated 98 = .ok (.iconst 0, 1) := by decide +kernel
theorem dX11_isSeated_99 : decode cX11_isSeated 99 = .ok (.istore 5, 2) := by decide +kernel
theorem dX11_isSeated_101 : decode cX11_isSeated 101 = .ok (.aload_n 0, 1) := by decide +kernel
theorem dX11_isSeated_102 : decode cX11_isSeated 102 = .ok (.getfield 29, 3) := by decide +kernel
theorem dX11_isSeated_105 : decode cX11_isSeated 105 = .ok (.iload 7, 2) := by decide +kernel
theorem dX11_isSeated_107 : decode cX11_isSeated 107 = .ok (.iload 6, 2) := by decide +kernel
theorem dX11_isSeated_109 : decode cX11_isSeated 109 = .ok (.iastore, 1) := by decide +kernel
theorem dX11_isSeated_110 : decode cX11_isSeated 110 = .ok (.iinc 6 1, 3) := by decide +kernel
theorem dX11_isSeated_113 : decode cX11_isSeated 113 = .ok (.goto (-66), 3) := by decide +kernel
theorem dX11_isSeated_116 : decode cX11_isSeated 116 = .ok (.iload 5, 2) := by decide +kernel
theorem dX11_isSeated_118 : decode cX11_isSeated 118 = .ok (.ireturn, 1) := by decide +kernel
set_option maxRecDepth 20000 in
theorem ggX11_could_X11_is8 : GoodIn wsX11_could wsX11_is8 := goodIn_r _ [6, 7, 8, 5, 9] (by decide +kernel) (by decide +kernel)
set_option maxRecDepth 20000 in
theorem gX11_could_X11_is8 : GoodIn wsX11_could (va_wsS RX11 46 yX11_is8 wsX11_is8) := goodIn_app (goodIn_of _ (by decide +kernel)) ggX11_could_X11_is8
set_option maxRecDepth 20000 in
theorem ggX11_could_X11_in : GoodIn wsX11_could wsX11_in := goodIn_r _ [9] (by decide +kernel) (by decide +kernel)
set_option maxRecDepth 20000 in
theorem gX11_could_X11_in : GoodIn wsX11_could (va_wsS RX11 42 yX11_in wsX11_in) := goodIn_app (goodIn_of _ (by decide +kernel)) ggX11_could_X11_in
set_option maxRecDepth 20000 in
theorem ggX11_could_X11_faultOf : GoodIn wsX11_could wsX11_faultOf := goodIn_r _ [13, 14, 15, 7, 8, 5, 9, 52, 53, 54, 55, 56, 57, 58, 59, 60, 61, 62, 63, 64, 65, 66, 67, 68] (by decide +kernel) (by decide +kernel)
set_option maxRecDepth 20000 in
theorem gX11_could_X11_faultOf : GoodIn wsX11_could (wsV RX11 53 RX11 yX11_faultOf wsX11_faultOf) := goodIn_app (goodIn_of _ (by decide +kernel)) ggX11_could_X11_faultOf
set_option maxRecDepth 20000 in
theorem ggX11_could_X11_opens : GoodIn wsX11_could wsX11_opens := goodIn_r _ [19, 14, 15, 52, 53, 54, 55, 56, 57, 58, 59, 60, 61, 62, 63, 64, 65, 66, 67, 68] (by decide +kernel) (by decide +kernel)
set_option maxRecDepth 20000 in
theorem gX11_could_X11_opens : GoodIn wsX11_could (wsV RX11 82 RX11 yX11_opens wsX11_opens) := goodIn_app (goodIn_of _ (by decide +kernel)) ggX11_could_X11_opens
set_option maxRecDepth 20000 in
theorem ggX11_could_X11_goText : GoodIn wsX11_could wsX11_goText := goodIn_r _ [23, 24, 14, 15, 25, 2, 26, 27, 28, 29, 5, 30, 31, 32, 33, 34, 35, 16, 17, 18, 19, 7, 8, 9, 36, 37, 38, 39, 40, 41, 42, 43, 44, 45, 46, 47, 48, 1, 49, 50, 51, 52, 53, 54, 55, 56, 57, 58, 59, 60, 61, 62, 63, 64, 65, 66, 67, 68] (by decide +kernel) (by decide +kernel)
set_option maxRecDepth 20000 in
theorem gX11_could_X11_goText : GoodIn wsX11_could (wsV RX11 91 RX11 yX11_goText wsX11_goText) := goodIn_app (goodIn_of _ (by decide +kernel)) ggX11_could_X11_goText
theorem dX11_could_0 : decode cX11_could 0 = .ok (.iload_n 1, 1) := by decide +kernel
theorem dX11_could_1 : decode cX11_could 1 = .ok (.invokestatic 46, 3) := by decide +kernel
theorem dX11_could_4 : decode cX11_could 4 = .ok (.ifCond .eq 10, 3) := by decide +kernel
theorem dX11_could_7 : decode cX11_could 7 = .ok (.iload_n 2, 1) := by decide +kernel
theorem dX11_could_8 : decode cX11_could 8 = .ok (.invokestatic 46, 3) := by decide +kernel
theorem dX11_could_11 : decode cX11_could 11 = .ok (.ifCond .ne 5, 3) := by decide +kernel
theorem dX11_could_14 : decode cX11_could 14 = .ok (.iconst (-1), 1) := by decide +kernel
theorem dX11_could_15 : decode cX11_could 15 = .ok (.ireturn, 1) := by decide +kernel
theorem dX11_could_16 : decode cX11_could 16 = .ok (.iload_n 3, 1) := by decide +kernel
theorem dX11_could_17 : decode cX11_could 17 = .ok (.iconst 0, 1) := by decide +kernel
theorem dX11_could_18 : decode cX11_could 18 = .ok (.iconst 2, 1) := by decide +kernel
theorem dX11_could_19 : decode cX11_could 19 = .ok (.invokestatic 42, 3) := by decide +kernel
theorem dX11_could_22 : decode cX11_could 22 = .ok (.ifCond .ne 6, 3) := by decide +kernel
theorem dX11_could_25 : decode cX11_could 25 = .ok (.bipush (-2), 2) := by decide +kernel
theorem dX11_could_27 : decode cX11_could 27 = .ok (.ireturn, 1) := by decide +kernel
theorem dX11_could_28 : decode cX11_could 28 = .ok (.aload_n 0, 1) := by decide +kernel
theorem dX11_could_29 : decode cX11_could 29 = .ok (.invokevirtual 53, 3) := by decide +kernel
theorem dX11_could_32 : decode cX11_could 32 = .ok (.ifCond .lt 6, 3) := by decide +kernel
theorem dX11_could_35 : decode cX11_could 35 = .ok (.bipush (-5), 2) := by decide +kernel
theorem dX11_could_37 : decode cX11_could 37 = .ok (.ireturn, 1) := by decide +kernel
theorem dX11_could_38 : decode cX11_could 38 = .ok (.aload_n 0, 1) := by decide +kernel
theorem dX11_could_39 : decode cX11_could 39 = .ok (.invokevirtual 82, 3) := by decide +kernel
theorem dX11_could_42 : decode cX11_could 42 = .ok (.ifCond .le 6, 3) := by decide +kernel
theorem dX11_could_45 : decode cX11_could 45 = .ok (.bipush (-3), 2) := by decide +kernel
theorem dX11_could_47 : decode cX11_could 47 = .ok (.ireturn, 1) := by decide +kernel
theorem dX11_could_48 : decode cX11_could 48 = .ok (.aload_n 0, 1) := by decide +kernel
theorem dX11_could_49 : decode cX11_could 49 = .ok (.getfield 7, 3) := by decide +kernel
theorem dX11_could_52 : decode cX11_could 52 = .ok (.iload_n 1, 1) := by decide +kernel
theorem dX11_could_53 : decode cX11_could 53 = .ok (.iaload, 1) := by decide +kernel
theorem dX11_could_54 : decode cX11_could 54 = .ok (.istore 4, 2) := by decide +kernel
theorem dX11_could_56 : decode cX11_could 56 = .ok (.iconst 0, 1) := by decide +kernel
theorem dX11_could_57 : decode cX11_could 57 = .ok (.istore 5, 2) := by decide +kernel
theorem dX11_could_59 : decode cX11_could 59 = .ok (.bipush (-6), 2) := by decide +kernel
theorem dX11_could_61 : decode cX11_could 61 = .ok (.istore 6, 2) := by decide +kernel
theorem dX11_could_63 : decode cX11_could 63 = .ok (.bipush (-6), 2) := by decide +kernel
theorem dX11_could_65 : decode cX11_could 65 = .ok (.istore 7, 2) := by decide +kernel
theorem dX11_could_67 : decode cX11_could 67 = .ok (.iconst 1, 1) := by decide +kernel
theorem dX11_could_68 : decode cX11_could 68 = .ok (.istore 8, 2) := by decide +kernel
theorem dX11_could_70 : decode cX11_could 70 = .ok (.iload 8, 2) := by decide +kernel
theorem dX11_could_72 : decode cX11_could 72 = .ok (.bipush 100, 2) := by decide +kernel
theorem dX11_could_74 : decode cX11_could 74 = .ok (.if_icmp .ge 56, 3) := by decide +kernel
theorem dX11_could_77 : decode cX11_could 77 = .ok (.aload_n 0, 1) := by decide +kernel
theorem dX11_could_78 : decode cX11_could 78 = .ok (.getfield 7, 3) := by decide +kernel
theorem dX11_could_81 : decode cX11_could 81 = .ok (.iload_n 1, 1) := by decide +kernel
theorem dX11_could_82 : decode cX11_could 82 = .ok (.iload 8, 2) := by decide +kernel
theorem dX11_could_84 : decode cX11_could 84 = .ok (.iastore, 1) := by decide +kernel
theorem dX11_could_85 : decode cX11_could 85 = .ok (.aload_n 0, 1) := by decide +kernel
theorem dX11_could_86 : decode cX11_could 86 = .ok (.iconst 0, 1) := by decide +kernel
theorem dX11_could_87 : decode cX11_could 87 = .ok (.bipush (-6), 2) := by decide +kernel
theorem dX11_could_89 : decode cX11_could 89 = .ok (.invokevirtual 91, 3) := by decide +kernel
theorem dX11_could_92 : decode cX11_could 92 = .ok (.ifCond .ge 32, 3) := by decide +kernel
theorem dX11_could_95 : decode cX11_could 95 = .ok (.aload_n 0, 1) := by decide +kernel
theorem dX11_could_96 : decode cX11_could 96 = .ok (.getfield 60, 3) := by decide +kernel
theorem dX11_could_99 : decode cX11_could 99 = .ok (.iload_n 2, 1) := by decide +kernel
theorem dX11_could_100 : decode cX11_could 100 = .ok (.if_icmp .ne 24, 3) := by decide +kernel
theorem dX11_could_103 : decode cX11_could 103 = .ok (.iload 5, 2) := by decide +kernel
theorem dX11_could_105 : decode cX11_could 105 = .ok (.ifCond .ne 8, 3) := by decide +kernel
theorem dX11_could_108 : decode cX11_could 108 = .ok (.iload 8, 2) := by decide +kernel
theorem dX11_could_110 : decode cX11_could 110 = .ok (.goto 5, 3) := by decide +kernel
theorem dX11_could_113 : decode cX11_could 113 = .ok (.iload 6, 2) := by decide +kernel
theorem dX11_could_115 : decode cX11_could 115 = .ok (.istore 6, 2) := by decide +kernel
theorem dX11_could_117 : decode cX11_could 117 = .ok (.iload 8, 2) := by decide +kernel
theorem dX11_could_119 : decode cX11_could 119 = .ok (.istore 7, 2) := by decide +kernel
theorem dX11_could_121 : decode cX11_could 121 = .ok (.iinc 5 1, 3) := by decide +kernel
theorem dX11_could_124 : decode cX11_could 124 = .ok (.iinc 8 1, 3) := by decide +kernel
theorem dX11_could_127 : decode cX11_could 127 = .ok (.goto (-57), 3) := by decide +kernel
theorem dX11_could_130 : decode cX11_could 130 = .ok (.aload_n 0, 1) := by decide +kernel
theorem dX11_could_131 : decode cX11_could 131 = .ok (.getfield 7, 3) := by decide +kernel
theorem dX11_could_134 : decode cX11_could 134 = .ok (.iload_n 1, 1) := by decide +kernel
theorem dX11_could_135 : decode cX11_could 135 = .ok (.iload 4, 2) := by decide +kernel
theorem dX11_could_137 : decode cX11_could 137 = .ok (.iastore, 1) := by decide +kernel
theorem dX11_could_138 : decode cX11_could 138 = .ok (.iload_n 3, 1) := by decide +kernel
theorem dX11_could_139 : decode cX11_could 139 = .ok (.ifCond .ne 8, 3) := by decide +kernel
theorem dX11_could_142 : decode cX11_could 142 = .ok (.iload 5, 2) := by decide +kernel
theorem dX11_could_144 : decode cX11_could 144 = .ok (.goto 15, 3) := by decide +kernel
theorem dX11_could_147 : decode cX11_could 147 = .ok (.iload_n 3, 1) := by decide +kernel
theorem dX11_could_148 : decode cX11_could 148 = .ok (.iconst 1, 1) := by decide +kernel
theorem dX11_could_149 : decode cX11_could 149 = .ok (.if_icmp .ne 8, 3) := by decide +kernel
theorem dX11_could_152 : decode cX11_could 152 = .ok (.iload 6, 2) := by decide +kernel
theorem dX11_could_154 : decode cX11_could 154 = .ok (.goto 5, 3) := by decide +kernel
theorem dX11_could_157 : decode cX11_could 157 = .ok (.iload 7, 2) := by decide +kernel
theorem dX11_could_159 : decode cX11_could 159 = .ok (.ireturn, 1) := by decide +kernel
set_option maxRecDepth 20000 in
theorem ggX11_seen_X11_is8 : GoodIn wsX11_seen wsX11_is8 := goodIn_r _ [6, 7, 8, 5, 9] (by decide +kernel) (by decide +kernel)
set_option maxRecDepth 20000 in
theorem gX11_seen_X11_is8 : GoodIn wsX11_seen (va_wsS RX11 46 yX11_is8 wsX11_is8) := goodIn_app (goodIn_of _ (by decide +kernel)) ggX11_seen_X11_is8
theorem dX11_seen_0 : decode cX11_seen 0 = .ok (.iload_n 1, 1) := by decide +kernel
theorem dX11_seen_1 : decode cX11_seen 1 = .ok (.invokestatic 46, 3) := by decide +kernel
theorem dX11_seen_4 : decode cX11_seen 4 = .ok (.ifCond .eq 10, 3) := by decide +kernel
theorem dX11_seen_7 : decode cX11_seen 7 = .ok (.iload_n 2, 1) := by decide +kernel
theorem dX11_seen_8 : decode cX11_seen 8 = .ok (.invokestatic 46, 3) := by decide +kernel
theorem dX11_seen_11 : decode cX11_seen 11 = .ok (.ifCond .ne 5, 3) := by decide +kernel
theorem dX11_seen_14 : decode cX11_seen 14 = .ok (.iconst (-1), 1) := by decide +kernel
theorem dX11_seen_15 : decode cX11_seen 15 = .ok (.ireturn, 1) := by decide +kernel
theorem dX11_seen_16 : decode cX11_seen 16 = .ok (.aload_n 0, 1) := by decide +kernel
theorem dX11_seen_17 : decode cX11_seen 17 = .ok (.getfield 115, 3) := by decide +kernel
theorem dX11_seen_20 : decode cX11_seen 20 = .ok (.bipush 6, 2) := by decide +kernel
theorem dX11_seen_22 : decode cX11_seen 22 = .ok (.if_icmp .ne 6, 3) := by decide +kernel
theorem dX11_seen_25 : decode cX11_seen 25 = .ok (.bipush (-4), 2) := by decide +kernel
theorem dX11_seen_27 : decode cX11_seen 27 = .ok (.ireturn, 1) := by decide +kernel
theorem dX11_seen_28 : decode cX11_seen 28 = .ok (.aload_n 0, 1) := by decide +kernel
theorem dX11_seen_29 : decode cX11_seen 29 = .ok (.getfield 23, 3) := by decide +kernel
theorem dX11_seen_32 : decode cX11_seen 32 = .ok (.iconst 2, 1) := by decide +kernel
theorem dX11_seen_33 : decode cX11_seen 33 = .ok (.aload_n 0, 1) := by decide +kernel
theorem dX11_seen_34 : decode cX11_seen 34 = .ok (.getfield 115, 3) := by decide +kernel
theorem dX11_seen_37 : decode cX11_seen 37 = .ok (.imul, 1) := by decide +kernel
theorem dX11_seen_38 : decode cX11_seen 38 = .ok (.iload_n 1, 1) := by decide +kernel
theorem dX11_seen_39 : decode cX11_seen 39 = .ok (.iastore, 1) := by decide +kernel
theorem dX11_seen_40 : decode cX11_seen 40 = .ok (.aload_n 0, 1) := by decide +kernel
theorem dX11_seen_41 : decode cX11_seen 41 = .ok (.getfield 23, 3) := by decide +kernel
theorem dX11_seen_44 : decode cX11_seen 44 = .ok (.iconst 2, 1) := by decide +kernel
theorem dX11_seen_45 : decode cX11_seen 45 = .ok (.aload_n 0, 1) := by decide +kernel
theorem dX11_seen_46 : decode cX11_seen 46 = .ok (.getfield 115, 3) := by decide +kernel
theorem dX11_seen_49 : decode cX11_seen 49 = .ok (.imul, 1) := by decide +kernel
theorem dX11_seen_50 : decode cX11_seen 50 = .ok (.iconst 1, 1) := by decide +kernel
theorem dX11_seen_51 : decode cX11_seen 51 = .ok (.iadd, 1) := by decide +kernel
theorem dX11_seen_52 : decode cX11_seen 52 = .ok (.iload_n 2, 1) := by decide +kernel
theorem dX11_seen_53 : decode cX11_seen 53 = .ok (.iastore, 1) := by decide +kernel
theorem dX11_seen_54 : decode cX11_seen 54 = .ok (.aload_n 0, 1) := by decide +kernel
theorem dX11_seen_55 : decode cX11_seen 55 = .ok (.dup, 1) := by decide +kernel
theorem dX11_seen_56 : decode cX11_seen 56 = .ok (.getfield 115, 3) := by decide +kernel
theorem dX11_seen_59 : decode cX11_seen 59 = .ok (.iconst 1, 1) := by decide +kernel
theorem dX11_seen_60 : decode cX11_seen 60 = .ok (.iadd, 1) := by decide +kernel
theorem dX11_seen_61 : decode cX11_seen 61 = .ok (.putfield 115, 3) := by decide +kernel
theorem dX11_seen_64 : decode cX11_seen 64 = .ok (.aload_n 0, 1) := by decide +kernel
theorem dX11_seen_65 : decode cX11_seen 65 = .ok (.getfield 115, 3) := by decide +kernel
theorem dX11_seen_68 : decode cX11_seen 68 = .ok (.ireturn, 1) := by decide +kernel
theorem dX11_forget_0 : decode cX11_forget 0 = .ok (.aload_n 0, 1) := by decide +kernel
theorem dX11_forget_1 : decode cX11_forget 1 = .ok (.getfield 115, 3) := by decide +kernel
theorem dX11_forget_4 : decode cX11_forget 4 = .ok (.istore_n 1, 1) := by decide +kernel
theorem dX11_forget_5 : decode cX11_forget 5 = .ok (.aload_n 0, 1) := by decide +kernel
theorem dX11_forget_6 : decode cX11_forget 6 = .ok (.iconst 0, 1) := by decide +kernel
theorem dX11_forget_7 : decode cX11_forget 7 = .ok (.putfield 115, 3) := by decide +kernel
theorem dX11_forget_10 : decode cX11_forget 10 = .ok (.iload_n 1, 1) := by decide +kernel
theorem dX11_forget_11 : decode cX11_forget 11 = .ok (.ireturn, 1) := by decide +kernel
set_option maxRecDepth 20000 in
theorem ggX11_filled_X11_faultOf : GoodIn wsX11_filled wsX11_faultOf := goodIn_r _ [8, 9, 10, 11, 12, 7, 13, 54, 55, 56, 57, 58, 59, 60, 61, 62, 63, 64, 65, 66, 67, 68, 69, 70] (by decide +kernel) (by decide +kernel)
set_option maxRecDepth 20000 in
theorem gX11_filled_X11_faultOf : GoodIn wsX11_filled (wsV RX11 53 RX11 yX11_faultOf wsX11_faultOf) := goodIn_app (goodIn_of _ (by decide +kernel)) ggX11_filled_X11_faultOf
set_option maxRecDepth 20000 in
theorem ggX11_filled_X11_opens : GoodIn wsX11_filled wsX11_opens := goodIn_r _ [17, 9, 10, 54, 55, 56, 57, 58, 59, 60, 61, 62, 63, 64, 65, 66, 67, 68, 69, 70] (by decide +kernel) (by decide +kernel)
set_option maxRecDepth 20000 in
theorem gX11_filled_X11_opens : GoodIn wsX11_filled (wsV RX11 82 RX11 yX11_opens wsX11_opens) := goodIn_app (goodIn_of _ (by decide +kernel)) ggX11_filled_X11_opens
set_option maxRecDepth 20000 in
theorem ggX11_filled_X11_powerOf : GoodIn wsX11_filled wsX11_powerOf := goodIn_r _ [20] (by decide +kernel) (by decide +kernel)
set_option maxRecDepth 20000 in
theorem gX11_filled_X11_powerOf : GoodIn wsX11_filled (va_wsS RX11 99 yX11_powerOf wsX11_powerOf) := goodIn_app (goodIn_of _ (by decide +kernel)) ggX11_filled_X11_powerOf
set_option maxRecDepth 20000 in
theorem ggX11_filled_X11_goText : GoodIn wsX11_filled wsX11_goText := goodIn_r _ [24, 25, 9, 10, 2, 26, 27, 28, 29, 30, 7, 31, 32, 33, 34, 35, 36, 14, 15, 16, 17, 11, 12, 13, 37, 38, 39, 40, 41, 42, 43, 44, 45, 46, 47, 48, 49, 50, 51, 52, 53, 54, 55, 56, 57, 58, 59, 60, 61, 62, 63, 64, 65, 66, 67, 68, 69, 70] (by decide +kernel) (by decide +kernel)
set_option maxRecDepth 20000 in
theorem gX11_filled_X11_goText : GoodIn wsX11_filled (wsV RX11 91 RX11 yX11_goText wsX11_goText) := goodIn_app (goodIn_of _ (by decide +kernel)) ggX11_filled_X11_goText
set_option maxRecDepth 20000 in
theorem ggX11_filled_X11_in : GoodIn wsX11_filled wsX11_in := goodIn_r _ [13] (by decide +kernel) (by decide +kernel)
set_option maxRecDepth 20000 in
theorem gX11_filled_X11_in : GoodIn wsX11_filled (va_wsS RX11 42 yX11_in wsX11_in) := goodIn_app (goodIn_of _ (by decide +kernel)) ggX11_filled_X11_in
theorem dX11_filled_0 : decode cX11_filled 0 = .ok (.aload_n 0, 1) := by decide +kernel
theorem dX11_filled_1 : decode cX11_filled 1 = .ok (.invokevirtual 53, 3) := by decide +kernel
theorem dX11_filled_4 : decode cX11_filled 4 = .ok (.ifCond .lt 6, 3) := by decide +kernel
theorem dX11_filled_7 : decode cX11_filled 7 = .ok (.bipush (-5), 2) := by decide +kernel
theorem dX11_filled_9 : decode cX11_filled 9 = .ok (.ireturn, 1) := by decide +kernel
theorem dX11_filled_10 : decode cX11_filled 10 = .ok (.bipush 8, 2) := by decide +kernel
theorem dX11_filled_12 : decode cX11_filled 12 = .ok (.aload_n 0, 1) := by decide +kernel
theorem dX11_filled_13 : decode cX11_filled 13 = .ok (.invokevirtual 82, 3) := by decide +kernel
theorem dX11_filled_16 : decode cX11_filled 16 = .ok (.invokestatic 99, 3) := by decide +kernel
theorem dX11_filled_19 : decode cX11_filled 19 = .ok (.istore_n 2, 1) := by decide +kernel
theorem dX11_filled_20 : decode cX11_filled 20 = .ok (.iconst 0, 1) := by decide +kernel
theorem dX11_filled_21 : decode cX11_filled 21 = .ok (.istore_n 3, 1) := by decide +kernel
theorem dX11_filled_22 : decode cX11_filled 22 = .ok (.bipush (-6), 2) := by decide +kernel
theorem dX11_filled_24 : decode cX11_filled 24 = .ok (.istore 4, 2) := by decide +kernel
theorem dX11_filled_26 : decode cX11_filled 26 = .ok (.iconst 0, 1) := by decide +kernel
theorem dX11_filled_27 : decode cX11_filled 27 = .ok (.istore 5, 2) := by decide +kernel
theorem dX11_filled_29 : decode cX11_filled 29 = .ok (.iload 5, 2) := by decide +kernel
theorem dX11_filled_31 : decode cX11_filled 31 = .ok (.iload_n 2, 1) := by decide +kernel
theorem dX11_filled_32 : decode cX11_filled 32 = .ok (.if_icmp .ge 107, 3) := by decide +kernel
theorem dX11_filled_35 : decode cX11_filled 35 = .ok (.aload_n 0, 1) := by decide +kernel
theorem dX11_filled_36 : decode cX11_filled 36 = .ok (.iload 5, 2) := by decide +kernel
theorem dX11_filled_38 : decode cX11_filled 38 = .ok (.bipush (-6), 2) := by decide +kernel
theorem dX11_filled_40 : decode cX11_filled 40 = .ok (.invokevirtual 91, 3) := by decide +kernel
theorem dX11_filled_43 : decode cX11_filled 43 = .ok (.ifCond .ge 7, 3) := by decide +kernel
theorem dX11_filled_46 : decode cX11_filled 46 = .ok (.iconst 1, 1) := by decide +kernel
theorem dX11_filled_47 : decode cX11_filled 47 = .ok (.goto 4, 3) := by decide +kernel
theorem dX11_filled_50 : decode cX11_filled 50 = .ok (.iconst 0, 1) := by decide +kernel
theorem dX11_filled_51 : decode cX11_filled 51 = .ok (.istore 6, 2) := by decide +kernel
theorem dX11_filled_53 : decode cX11_filled 53 = .ok (.iconst 0, 1) := by decide +kernel
theorem dX11_filled_54 : decode cX11_filled 54 = .ok (.istore 7, 2) := by decide +kernel
theorem dX11_filled_56 : decode cX11_filled 56 = .ok (.iload 7, 2) := by decide +kernel
theorem dX11_filled_58 : decode cX11_filled 58 = .ok (.aload_n 0, 1) := by decide +kernel
theorem dX11_filled_59 : decode cX11_filled 59 = .ok (.getfield 115, 3) := by decide +kernel
theorem dX11_filled_62 : decode cX11_filled 62 = .ok (.if_icmp .ge 49, 3) := by decide +kernel
theorem dX11_filled_65 : decode cX11_filled 65 = .ok (.iload 6, 2) := by decide +kernel
theorem dX11_filled_67 : decode cX11_filled 67 = .ok (.ifCond .eq 44, 3) := by decide +kernel
theorem dX11_filled_70 : decode cX11_filled 70 = .ok (.aload_n 0, 1) := by decide +kernel
theorem dX11_filled_71 : decode cX11_filled 71 = .ok (.getfield 29, 3) := by decide +kernel
theorem dX11_filled_74 : decode cX11_filled 74 = .ok (.aload_n 0, 1) := by decide +kernel
theorem dX11_filled_75 : decode cX11_filled 75 = .ok (.getfield 23, 3) := by decide +kernel
theorem dX11_filled_78 : decode cX11_filled 78 = .ok (.iconst 2, 1) := by decide +kernel
theorem dX11_filled_79 : decode cX11_filled 79 = .ok (.iload 7, 2) := by decide +kernel
theorem dX11_filled_81 : decode cX11_filled 81 = .ok (.imul, 1) := by decide +kernel
theorem dX11_filled_82 : decode cX11_filled 82 = .ok (.iconst 1, 1) := by decide +kernel
theorem dX11_filled_83 : decode cX11_filled 83 = .ok (.iadd, 1) := by decide +kernel
theorem dX11_filled_84 : decode cX11_filled 84 = .ok (.iaload, 1) := by decide +kernel
theorem dX11_filled_85 : decode cX11_filled 85 = .ok (.iaload, 1) := by decide +kernel
theorem dX11_filled_86 : decode cX11_filled 86 = .ok (.aload_n 0, 1) := by decide +kernel
theorem dX11_filled_87 : decode cX11_filled 87 = .ok (.getfield 23, 3) := by decide +kernel
theorem dX11_filled_90 : decode cX11_filled 90 = .ok (.iconst 2, 1) := by decide +kernel
theorem dX11_filled_91 : decode cX11_filled 91 = .ok (.iload 7, 2) := by decide +kernel
theorem dX11_filled_93 : decode cX11_filled 93 = .ok (.imul, 1) := by decide +kernel
theorem dX11_filled_94 : decode cX11_filled 94 = .ok (.iaload, 1) := by decide +kernel
theorem dX11_filled_95 : decode cX11_filled 95 = .ok (.if_icmp .ne 7, 3) := by decide +kernel
theorem dX11_filled_98 : decode cX11_filled 98 = .ok (.iconst 1, 1) := by decide +kernel
theorem dX11_filled_99 : decode cX11_filled 99 = .ok (.goto 4, 3) := by decide +kernel
theorem dX11_filled_102 : decode cX11_filled 102 = .ok (.iconst 0, 1) := by decide +kernel
theorem dX11_filled_103 : decode cX11_filled 103 = .ok (.istore 6, 2) := by decide +kernel
theorem dX11_filled_105 : decode cX11_filled 105 = .ok (.iinc 7 1, 3) := by decide +kernel
theorem dX11_filled_108 : decode cX11_filled 108 = .ok (.goto (-52), 3) := by decide +kernel
theorem dX11_filled_111 : decode cX11_filled 111 = .ok (.iload 6, 2) := by decide +kernel
theorem dX11_filled_113 : decode cX11_filled 113 = .ok (.ifCond .eq 20, 3) := by decide +kernel
theorem dX11_filled_116 : decode cX11_filled 116 = .ok (.iload 4, 2) := by decide +kernel
theorem dX11_filled_118 : decode cX11_filled 118 = .ok (.ifCond .ge 8, 3) := by decide +kernel
theorem dX11_filled_121 : decode cX11_filled 121 = .ok (.iload 5, 2) := by decide +kernel
theorem dX11_filled_123 : decode cX11_filled 123 = .ok (.goto 5, 3) := by decide +kernel
theorem dX11_filled_126 : decode cX11_filled 126 = .ok (.iload 4, 2) := by decide +kernel
theorem dX11_filled_128 : decode cX11_filled 128 = .ok (.istore 4, 2) := by decide +kernel
theorem dX11_filled_130 : decode cX11_filled 130 = .ok (.iinc 3 1, 3) := by decide +kernel
theorem dX11_filled_133 : decode cX11_filled 133 = .ok (.iinc 5 1, 3) := by decide +kernel
theorem dX11_filled_136 : decode cX11_filled 136 = .ok (.goto (-107), 3) := by decide +kernel
theorem dX11_filled_139 : decode cX11_filled 139 = .ok (.iload_n 1, 1) := by decide +kernel
theorem dX11_filled_140 : decode cX11_filled 140 = .ok (.iconst (-1), 1) := by decide +kernel
theorem dX11_filled_141 : decode cX11_filled 141 = .ok (.if_icmp .ne 5, 3) := by decide +kernel
theorem dX11_filled_144 : decode cX11_filled 144 = .ok (.iload_n 3, 1) := by decide +kernel
theorem dX11_filled_145 : decode cX11_filled 145 = .ok (.ireturn, 1) := by decide +kernel
theorem dX11_filled_146 : decode cX11_filled 146 = .ok (.iload 4, 2) := by decide +kernel
theorem dX11_filled_148 : decode cX11_filled 148 = .ok (.ifCond .lt 39, 3) := by decide +kernel
theorem dX11_filled_151 : decode cX11_filled 151 = .ok (.iload_n 1, 1) := by decide +kernel
theorem dX11_filled_152 : decode cX11_filled 152 = .ok (.iconst 0, 1) := by decide +kernel
theorem dX11_filled_153 : decode cX11_filled 153 = .ok (.aload_n 0, 1) := by decide +kernel
theorem dX11_filled_154 : decode cX11_filled 154 = .ok (.invokevirtual 82, 3) := by decide +kernel
theorem dX11_filled_157 : decode cX11_filled 157 = .ok (.iconst 1, 1) := by decide +kernel
theorem dX11_filled_158 : decode cX11_filled 158 = .ok (.isub, 1) := by decide +kernel
theorem dX11_filled_159 : decode cX11_filled 159 = .ok (.invokestatic 42, 3) := by decide +kernel
theorem dX11_filled_162 : decode cX11_filled 162 = .ok (.ifCond .eq 25, 3) := by decide +kernel
theorem dX11_filled_165 : decode cX11_filled 165 = .ok (.iload 4, 2) := by decide +kernel
theorem dX11_filled_167 : decode cX11_filled 167 = .ok (.bipush 8, 2) := by decide +kernel
theorem dX11_filled_169 : decode cX11_filled 169 = .ok (.aload_n 0, 1) := by decide +kernel
theorem dX11_filled_170 : decode cX11_filled 170 = .ok (.invokevirtual 82, 3) := by decide +kernel
theorem dX11_filled_173 : decode cX11_filled 173 = .ok (.iconst 1, 1) := by decide +kernel
theorem dX11_filled_174 : decode cX11_filled 174 = .ok (.isub, 1) := by decide +kernel
theorem dX11_filled_175 : decode cX11_filled 175 = .ok (.iload_n 1, 1) := by decide +kernel
theorem dX11_filled_176 : decode cX11_filled 176 = .ok (.isub, 1) := by decide +kernel
theorem dX11_filled_177 : decode cX11_filled 177 = .ok (.invokestatic 99, 3) := by decide +kernel
theorem dX11_filled_180 : decode cX11_filled 180 = .ok (.idiv, 1) := by decide +kernel
theorem dX11_filled_181 : decode cX11_filled 181 = .ok (.bipush 8, 2) := by decide +kernel
theorem dX11_filled_183 : decode cX11_filled 183 = .ok (.irem, 1) := by decide +kernel
theorem dX11_filled_184 : decode cX11_filled 184 = .ok (.goto 5, 3) := by decide +kernel
theorem dX11_filled_187 : decode cX11_filled 187 = .ok (.bipush (-6), 2) := by decide +kernel
theorem dX11_filled_189 : decode cX11_filled 189 = .ok (.ireturn, 1) := by decide +kernel
set_option maxRecDepth 20000 in
theorem ggX11_offWheel_X11_carOf : GoodIn wsX11_offWheel wsX11_carOf := goodIn_r _ [5, 6, 7, 8, 9, 10, 11, 12, 13, 14, 15, 16, 17, 18, 19, 20, 21, 22, 23] (by decide +kernel) (by decide +kernel)
set_option maxRecDepth 20000 in
theorem gX11_offWheel_X11_carOf : GoodIn wsX11_offWheel (wsV RX11 85 RX11 yX11_carOf wsX11_carOf) := goodIn_app (goodIn_of _ (by decide +kernel)) ggX11_offWheel_X11_carOf
theorem dX11_offWheel_0 : decode cX11_offWheel 0 = .ok (.iload_n 1, 1) := by decide +kernel
theorem dX11_offWheel_1 : decode cX11_offWheel 1 = .ok (.istore_n 2, 1) := by decide +kernel
theorem dX11_offWheel_2 : decode cX11_offWheel 2 = .ok (.iconst 0, 1) := by decide +kernel
theorem dX11_offWheel_3 : decode cX11_offWheel 3 = .ok (.istore_n 3, 1) := by decide +kernel
theorem dX11_offWheel_4 : decode cX11_offWheel 4 = .ok (.iload_n 3, 1) := by decide +kernel
theorem dX11_offWheel_5 : decode cX11_offWheel 5 = .ok (.bipush 8, 2) := by decide +kernel
theorem dX11_offWheel_7 : decode cX11_offWheel 7 = .ok (.if_icmp .ge 26, 3) := by decide +kernel
theorem dX11_offWheel_10 : decode cX11_offWheel 10 = .ok (.aload_n 0, 1) := by decide +kernel
theorem dX11_offWheel_11 : decode cX11_offWheel 11 = .ok (.iload_n 3, 1) := by decide +kernel
theorem dX11_offWheel_12 : decode cX11_offWheel 12 = .ok (.invokevirtual 85, 3) := by decide +kernel
theorem dX11_offWheel_15 : decode cX11_offWheel 15 = .ok (.ifCond .ge 12, 3) := by decide +kernel
theorem dX11_offWheel_18 : decode cX11_offWheel 18 = .ok (.iload_n 2, 1) := by decide +kernel
theorem dX11_offWheel_19 : decode cX11_offWheel 19 = .ok (.ifCond .ne 5, 3) := by decide +kernel
theorem dX11_offWheel_22 : decode cX11_offWheel 22 = .ok (.iload_n 3, 1) := by decide +kernel
theorem dX11_offWheel_23 : decode cX11_offWheel 23 = .ok (.ireturn, 1) := by decide +kernel
theorem dX11_offWheel_24 : decode cX11_offWheel 24 = .ok (.iinc 2 (-1), 3) := by decide +kernel
theorem dX11_offWheel_27 : decode cX11_offWheel 27 = .ok (.iinc 3 1, 3) := by decide +kernel
theorem dX11_offWheel_30 : decode cX11_offWheel 30 = .ok (.goto (-26), 3) := by decide +kernel
theorem dX11_offWheel_33 : decode cX11_offWheel 33 = .ok (.bipush (-6), 2) := by decide +kernel
theorem dX11_offWheel_35 : decode cX11_offWheel 35 = .ok (.ireturn, 1) := by decide +kernel
set_option maxRecDepth 20000 in
theorem ggX11_chance_X11_is8 : GoodIn wsX11_chance wsX11_is8 := goodIn_r _ [9, 10, 11, 8, 12] (by decide +kernel) (by decide +kernel)
set_option maxRecDepth 20000 in
theorem gX11_chance_X11_is8 : GoodIn wsX11_chance (va_wsS RX11 46 yX11_is8 wsX11_is8) := goodIn_app (goodIn_of _ (by decide +kernel)) ggX11_chance_X11_is8
set_option maxRecDepth 20000 in
theorem ggX11_chance_X11_in : GoodIn wsX11_chance wsX11_in := goodIn_r _ [12] (by decide +kernel) (by decide +kernel)
set_option maxRecDepth 20000 in
theorem gX11_chance_X11_in : GoodIn wsX11_chance (va_wsS RX11 42 yX11_in wsX11_in) := goodIn_app (goodIn_of _ (by decide +kernel)) ggX11_chance_X11_in
set_option maxRecDepth 20000 in
theorem ggX11_chance_X11_powerOf : GoodIn wsX11_chance wsX11_powerOf := goodIn_r _ [15] (by decide +kernel) (by decide +kernel)
set_option maxRecDepth 20000 in
theorem gX11_chance_X11_powerOf : GoodIn wsX11_chance (va_wsS RX11 99 yX11_powerOf wsX11_powerOf) := goodIn_app (goodIn_of _ (by decide +kernel)) ggX11_chance_X11_powerOf
set_option maxRecDepth 20000 in
theorem ggX11_chance_X11_asNow : GoodIn wsX11_chance wsX11_asNow := goodIn_r _ [19, 20, 5, 21, 22, 4, 23, 24, 25, 47, 48, 49, 50, 51, 52, 53, 54, 55, 56, 57, 58, 59, 60, 61, 62, 63] (by decide +kernel) (by decide +kernel)
set_option maxRecDepth 20000 in
theorem gX11_chance_X11_asNow : GoodIn wsX11_chance (wsV RX11 76 RX11 yX11_asNow wsX11_asNow) := goodIn_app (goodIn_of _ (by decide +kernel)) ggX11_chance_X11_asNow
set_option maxRecDepth 20000 in
theorem ggX11_chance_X11_carOf : GoodIn wsX11_chance wsX11_carOf := goodIn_r _ [29, 4, 47, 48, 49, 50, 51, 52, 53, 54, 55, 56, 57, 58, 59, 60, 61, 62, 63] (by decide +kernel) (by decide +kernel)
set_option maxRecDepth 20000 in
theorem gX11_chance_X11_carOf : GoodIn wsX11_chance (wsV RX11 85 RX11 yX11_carOf wsX11_carOf) := goodIn_app (goodIn_of _ (by decide +kernel)) ggX11_chance_X11_carOf
set_option maxRecDepth 20000 in
theorem ggX11_chance_X11_offWheel : GoodIn wsX11_chance wsX11_offWheel := goodIn_r _ [33, 26, 27, 28, 8, 29, 4, 47, 48, 49, 50, 51, 52, 53, 54, 55, 56, 57, 58, 59, 60, 61, 62, 63] (by decide +kernel) (by decide +kernel)
set_option maxRecDepth 20000 in
theorem gX11_chance_X11_offWheel : GoodIn wsX11_chance (wsV RX11 124 RX11 yX11_offWheel wsX11_offWheel) := goodIn_app (goodIn_of _ (by decide +kernel)) ggX11_chance_X11_offWheel
set_option maxRecDepth 20000 in
theorem ggX11_chance_X11_letGo : GoodIn wsX11_chance wsX11_letGo := goodIn_r _ [37, 5, 38, 21, 22, 39, 40, 41, 8, 42, 24, 4, 43, 44, 45, 46, 47, 48, 49, 50, 51, 52, 53, 54, 55, 56, 57, 58, 59, 60, 61, 62, 63] (by decide +kernel) (by decide +kernel)
set_option maxRecDepth 20000 in
theorem gX11_chance_X11_letGo : GoodIn wsX11_chance (wsV RX11 88 RX11 yX11_letGo wsX11_letGo) := goodIn_app (goodIn_of _ (by decide +kernel)) ggX11_chance_X11_letGo
theorem dX11_chance_0 : decode cX11_chance 0 = .ok (.iload_n 1, 1) := by decide +kernel
theorem dX11_chance_1 : decode cX11_chance 1 = .ok (.invokestatic 46, 3) := by decide +kernel
theorem dX11_chance_4 : decode cX11_chance 4 = .ok (.ifCond .ne 7, 3) := by decide +kernel
theorem dX11_chance_7 : decode cX11_chance 7 = .ok (.ldc2_w 118, 3) := by decide +kernel
theorem dX11_chance_10 : decode cX11_chance 10 = .ok (.lreturn, 1) := by decide +kernel
theorem dX11_chance_11 : decode cX11_chance 11 = .ok (.iload_n 2, 1) := by decide +kernel
theorem dX11_chance_12 : decode cX11_chance 12 = .ok (.iconst 0, 1) := by decide +kernel
theorem dX11_chance_13 : decode cX11_chance 13 = .ok (.iconst 3, 1) := by decide +kernel
theorem dX11_chance_14 : decode cX11_chance 14 = .ok (.invokestatic 42, 3) := by decide +kernel
theorem dX11_chance_17 : decode cX11_chance 17 = .ok (.ifCond .eq 12, 3) := by decide +kernel
theorem dX11_chance_20 : decode cX11_chance 20 = .ok (.iload_n 3, 1) := by decide +kernel
theorem dX11_chance_21 : decode cX11_chance 21 = .ok (.iconst 0, 1) := by decide +kernel
theorem dX11_chance_22 : decode cX11_chance 22 = .ok (.iconst 1, 1) := by decide +kernel
theorem dX11_chance_23 : decode cX11_chance 23 = .ok (.invokestatic 42, 3) := by decide +kernel
theorem dX11_chance_26 : decode cX11_chance 26 = .ok (.ifCond .ne 7, 3) := by decide +kernel
theorem dX11_chance_29 : decode cX11_chance 29 = .ok (.ldc2_w 120, 3) := by decide +kernel
theorem dX11_chance_32 : decode cX11_chance 32 = .ok (.lreturn, 1) := by decide +kernel
theorem dX11_chance_33 : decode cX11_chance 33 = .ok (.lconst 0, 1) := by decide +kernel
theorem dX11_chance_34 : decode cX11_chance 34 = .ok (.lstore 4, 2) := by decide +kernel
theorem dX11_chance_36 : decode cX11_chance 36 = .ok (.lconst 1, 1) := by decide +kernel
theorem dX11_chance_37 : decode cX11_chance 37 = .ok (.lstore 6, 2) := by decide +kernel
theorem dX11_chance_39 : decode cX11_chance 39 = .ok (.iconst 0, 1) := by decide +kernel
theorem dX11_chance_40 : decode cX11_chance 40 = .ok (.istore 8, 2) := by decide +kernel
theorem dX11_chance_42 : decode cX11_chance 42 = .ok (.iload 8, 2) := by decide +kernel
theorem dX11_chance_44 : decode cX11_chance 44 = .ok (.iload_n 2, 1) := by decide +kernel
theorem dX11_chance_45 : decode cX11_chance 45 = .ok (.if_icmp .ge 17, 3) := by decide +kernel
theorem dX11_chance_48 : decode cX11_chance 48 = .ok (.lload 6, 2) := by decide +kernel
theorem dX11_chance_50 : decode cX11_chance 50 = .ok (.ldc2_w 122, 3) := by decide +kernel
theorem dX11_chance_53 : decode cX11_chance 53 = .ok (.lmul, 1) := by decide +kernel
theorem dX11_chance_54 : decode cX11_chance 54 = .ok (.lstore 6, 2) := by decide +kernel
theorem dX11_chance_56 : decode cX11_chance 56 = .ok (.iinc 8 1, 3) := by decide +kernel
theorem dX11_chance_59 : decode cX11_chance 59 = .ok (.goto (-17), 3) := by decide +kernel
theorem dX11_chance_62 : decode cX11_chance 62 = .ok (.bipush 8, 2) := by decide +kernel
theorem dX11_chance_64 : decode cX11_chance 64 = .ok (.iload_n 2, 1) := by decide +kernel
theorem dX11_chance_65 : decode cX11_chance 65 = .ok (.invokestatic 99, 3) := by decide +kernel
theorem dX11_chance_68 : decode cX11_chance 68 = .ok (.istore 8, 2) := by decide +kernel
theorem dX11_chance_70 : decode cX11_chance 70 = .ok (.iconst 0, 1) := by decide +kernel
theorem dX11_chance_71 : decode cX11_chance 71 = .ok (.istore 9, 2) := by decide +kernel
theorem dX11_chance_73 : decode cX11_chance 73 = .ok (.iload 9, 2) := by decide +kernel
theorem dX11_chance_75 : decode cX11_chance 75 = .ok (.iload 8, 2) := by decide +kernel
theorem dX11_chance_77 : decode cX11_chance 77 = .ok (.if_icmp .ge 205, 3) := by decide +kernel
theorem dX11_chance_80 : decode cX11_chance 80 = .ok (.aload_n 0, 1) := by decide +kernel
theorem dX11_chance_81 : decode cX11_chance 81 = .ok (.invokevirtual 76, 3) := by decide +kernel
theorem dX11_chance_84 : decode cX11_chance 84 = .ok (.lconst 1, 1) := by decide +kernel
theorem dX11_chance_85 : decode cX11_chance 85 = .ok (.lstore 10, 2) := by decide +kernel
theorem dX11_chance_87 : decode cX11_chance 87 = .ok (.iload 8, 2) := by decide +kernel
theorem dX11_chance_89 : decode cX11_chance 89 = .ok (.istore 12, 2) := by decide +kernel
theorem dX11_chance_91 : decode cX11_chance 91 = .ok (.iconst 0, 1) := by decide +kernel
theorem dX11_chance_92 : decode cX11_chance 92 = .ok (.istore 13, 2) := by decide +kernel
theorem dX11_chance_94 : decode cX11_chance 94 = .ok (.iload 13, 2) := by decide +kernel
theorem dX11_chance_96 : decode cX11_chance 96 = .ok (.iload_n 2, 1) := by decide +kernel
theorem dX11_chance_97 : decode cX11_chance 97 = .ok (.if_icmp .ge 155, 3) := by decide +kernel
theorem dX11_chance_100 : decode cX11_chance 100 = .ok (.iload 12, 2) := by decide +kernel
theorem dX11_chance_102 : decode cX11_chance 102 = .ok (.bipush 8, 2) := by decide +kernel
theorem dX11_chance_104 : decode cX11_chance 104 = .ok (.idiv, 1) := by decide +kernel
theorem dX11_chance_105 : decode cX11_chance 105 = .ok (.istore 12, 2) := by decide +kernel
theorem dX11_chance_107 : decode cX11_chance 107 = .ok (.iload 9, 2) := by decide +kernel
theorem dX11_chance_109 : decode cX11_chance 109 = .ok (.iload 12, 2) := by decide +kernel
theorem dX11_chance_111 : decode cX11_chance 111 = .ok (.idiv, 1) := by decide +kernel
theorem dX11_chance_112 : decode cX11_chance 112 = .ok (.bipush 8, 2) := by decide +kernel
theorem dX11_chance_114 : decode cX11_chance 114 = .ok (.irem, 1) := by decide +kernel
theorem dX11_chance_115 : decode cX11_chance 115 = .ok (.istore 14, 2) := by decide +kernel
theorem dX11_chance_117 : decode cX11_chance 117 = .ok (.iconst 0, 1) := by decide +kernel
theorem dX11_chance_118 : decode cX11_chance 118 = .ok (.istore 15, 2) := by decide +kernel
theorem dX11_chance_120 : decode cX11_chance 120 = .ok (.iconst 0, 1) := by decide +kernel
theorem dX11_chance_121 : decode cX11_chance 121 = .ok (.istore 16, 2) := by decide +kernel
theorem dX11_chance_123 : decode cX11_chance 123 = .ok (.iload 16, 2) := by decide +kernel
theorem dX11_chance_125 : decode cX11_chance 125 = .ok (.bipush 8, 2) := by decide +kernel
theorem dX11_chance_127 : decode cX11_chance 127 = .ok (.if_icmp .ge 28, 3) := by decide +kernel
theorem dX11_chance_130 : decode cX11_chance 130 = .ok (.iload 15, 2) := by decide +kernel
theorem dX11_chance_132 : decode cX11_chance 132 = .ok (.aload_n 0, 1) := by decide +kernel
theorem dX11_chance_133 : decode cX11_chance 133 = .ok (.iload 16, 2) := by decide +kernel
theorem dX11_chance_135 : decode cX11_chance 135 = .ok (.invokevirtual 85, 3) := by decide +kernel
theorem dX11_chance_138 : decode cX11_chance 138 = .ok (.ifCond .ge 7, 3) := by decide +kernel
theorem dX11_chance_141 : decode cX11_chance 141 = .ok (.iconst 1, 1) := by decide +kernel
theorem dX11_chance_142 : decode cX11_chance 142 = .ok (.goto 4, 3) := by decide +kernel
theorem dX11_chance_145 : decode cX11_chance 145 = .ok (.iconst 0, 1) := by decide +kernel
theorem dX11_chance_146 : decode cX11_chance 146 = .ok (.iadd, 1) := by decide +kernel
theorem dX11_chance_147 : decode cX11_chance 147 = .ok (.istore 15, 2) := by decide +kernel
theorem dX11_chance_149 : decode cX11_chance 149 = .ok (.iinc 16 1, 3) := by decide +kernel
theorem dX11_chance_152 : decode cX11_chance 152 = .ok (.goto (-29), 3) := by decide +kernel
theorem dX11_chance_155 : decode cX11_chance 155 = .ok (.aload_n 0, 1) := by decide +kernel
theorem dX11_chance_156 : decode cX11_chance 156 = .ok (.getfield 29, 3) := by decide +kernel
theorem dX11_chance_159 : decode cX11_chance 159 = .ok (.aload_n 0, 1) := by decide +kernel
theorem dX11_chance_160 : decode cX11_chance 160 = .ok (.getfield 60, 3) := by decide +kernel
theorem dX11_chance_163 : decode cX11_chance 163 = .ok (.iaload, 1) := by decide +kernel
theorem dX11_chance_164 : decode cX11_chance 164 = .ok (.ifCond .ge 8, 3) := by decide +kernel
theorem dX11_chance_167 : decode cX11_chance 167 = .ok (.iload 15, 2) := by decide +kernel
theorem dX11_chance_169 : decode cX11_chance 169 = .ok (.ifCond .ne 7, 3) := by decide +kernel
theorem dX11_chance_172 : decode cX11_chance 172 = .ok (.iconst 1, 1) := by decide +kernel
theorem dX11_chance_173 : decode cX11_chance 173 = .ok (.goto 5, 3) := by decide +kernel
theorem dX11_chance_176 : decode cX11_chance 176 = .ok (.iload 15, 2) := by decide +kernel
theorem dX11_chance_178 : decode cX11_chance 178 = .ok (.istore 16, 2) := by decide +kernel
theorem dX11_chance_180 : decode cX11_chance 180 = .ok (.lload 10, 2) := by decide +kernel
theorem dX11_chance_182 : decode cX11_chance 182 = .ok (.iload 14, 2) := by decide +kernel
theorem dX11_chance_184 : decode cX11_chance 184 = .ok (.iload 16, 2) := by decide +kernel
theorem dX11_chance_186 : decode cX11_chance 186 = .ok (.if_icmp .ge 13, 3) := by decide +kernel
theorem dX11_chance_189 : decode cX11_chance 189 = .ok (.ldc2_w 122, 3) := by decide +kernel
theorem dX11_chance_192 : decode cX11_chance 192 = .ok (.iload 16, 2) := by decide +kernel
theorem dX11_chance_194 : decode cX11_chance 194 = .ok (.i2l, 1) := by decide +kernel
theorem dX11_chance_195 : decode cX11_chance 195 = .ok (.ldiv, 1) := by decide +kernel
theorem dX11_chance_196 : decode cX11_chance 196 = .ok (.goto 4, 3) := by decide +kernel
theorem dX11_chance_199 : decode cX11_chance 199 = .ok (.lconst 0, 1) := by decide +kernel
theorem dX11_chance_200 : decode cX11_chance 200 = .ok (.lmul, 1) := by decide +kernel
theorem dX11_chance_201 : decode cX11_chance 201 = .ok (.lstore 10, 2) := by decide +kernel
theorem dX11_chance_203 : decode cX11_chance 203 = .ok (.iload 14, 2) := by decide +kernel
theorem dX11_chance_205 : decode cX11_chance 205 = .ok (.iload 16, 2) := by decide +kernel
theorem dX11_chance_207 : decode cX11_chance 207 = .ok (.if_icmp .ge 35, 3) := by decide +kernel
theorem dX11_chance_210 : decode cX11_chance 210 = .ok (.aload_n 0, 1) := by decide +kernel
theorem dX11_chance_211 : decode cX11_chance 211 = .ok (.getfield 29, 3) := by decide +kernel
theorem dX11_chance_214 : decode cX11_chance 214 = .ok (.aload_n 0, 1) := by decide +kernel
theorem dX11_chance_215 : decode cX11_chance 215 = .ok (.getfield 60, 3) := by decide +kernel
theorem dX11_chance_218 : decode cX11_chance 218 = .ok (.iaload, 1) := by decide +kernel
theorem dX11_chance_219 : decode cX11_chance 219 = .ok (.ifCond .ge 23, 3) := by decide +kernel
theorem dX11_chance_222 : decode cX11_chance 222 = .ok (.iload 15, 2) := by decide +kernel
theorem dX11_chance_224 : decode cX11_chance 224 = .ok (.ifCond .le 18, 3) := by decide +kernel
theorem dX11_chance_227 : decode cX11_chance 227 = .ok (.aload_n 0, 1) := by decide +kernel
theorem dX11_chance_228 : decode cX11_chance 228 = .ok (.getfield 29, 3) := by decide +kernel
theorem dX11_chance_231 : decode cX11_chance 231 = .ok (.aload_n 0, 1) := by decide +kernel
theorem dX11_chance_232 : decode cX11_chance 232 = .ok (.getfield 60, 3) := by decide +kernel
theorem dX11_chance_235 : decode cX11_chance 235 = .ok (.aload_n 0, 1) := by decide +kernel
theorem dX11_chance_236 : decode cX11_chance 236 = .ok (.iload 14, 2) := by decide +kernel
theorem dX11_chance_238 : decode cX11_chance 238 = .ok (.invokevirtual 124, 3) := by decide +kernel
theorem dX11_chance_241 : decode cX11_chance 241 = .ok (.iastore, 1) := by decide +kernel
theorem dX11_chance_242 : decode cX11_chance 242 = .ok (.aload_n 0, 1) := by decide +kernel
theorem dX11_chance_243 : decode cX11_chance 243 = .ok (.invokevirtual 88, 3) := by decide +kernel
theorem dX11_chance_246 : decode cX11_chance 246 = .ok (.iinc 13 1, 3) := by decide +kernel
theorem dX11_chance_249 : decode cX11_chance 249 = .ok (.goto (-155), 3) := by decide +kernel
theorem dX11_chance_252 : decode cX11_chance 252 = .ok (.lload 4, 2) := by decide +kernel
theorem dX11_chance_254 : decode cX11_chance 254 = .ok (.aload_n 0, 1) := by decide +kernel
theorem dX11_chance_255 : decode cX11_chance 255 = .ok (.getfield 29, 3) := by decide +kernel
theorem dX11_chance_258 : decode cX11_chance 258 = .ok (.aload_n 0, 1) := by decide +kernel
theorem dX11_chance_259 : decode cX11_chance 259 = .ok (.getfield 60, 3) := by decide +kernel
theorem dX11_chance_262 : decode cX11_chance 262 = .ok (.iaload, 1) := by decide +kernel
theorem dX11_chance_263 : decode cX11_chance 263 = .ok (.iload_n 1, 1) := by decide +kernel
theorem dX11_chance_264 : decode cX11_chance 264 = .ok (.if_icmp .ne 8, 3) := by decide +kernel
theorem dX11_chance_267 : decode cX11_chance 267 = .ok (.lload 10, 2) := by decide +kernel
theorem dX11_chance_269 : decode cX11_chance 269 = .ok (.goto 4, 3) := by decide +kernel
theorem dX11_chance_272 : decode cX11_chance 272 = .ok (.lconst 0, 1) := by decide +kernel
theorem dX11_chance_273 : decode cX11_chance 273 = .ok (.ladd, 1) := by decide +kernel
theorem dX11_chance_274 : decode cX11_chance 274 = .ok (.lstore 4, 2) := by decide +kernel
theorem dX11_chance_276 : decode cX11_chance 276 = .ok (.iinc 9 1, 3) := by decide +kernel
theorem dX11_chance_279 : decode cX11_chance 279 = .ok (.goto (-206), 3) := by decide +kernel
theorem dX11_chance_282 : decode cX11_chance 282 = .ok (.lload 4, 2) := by decide +kernel
theorem dX11_chance_284 : decode cX11_chance 284 = .ok (.lstore 9, 2) := by decide +kernel
theorem dX11_chance_286 : decode cX11_chance 286 = .ok (.lload 6, 2) := by decide +kernel
theorem dX11_chance_288 : decode cX11_chance 288 = .ok (.lstore 11, 2) := by decide +kernel
theorem dX11_chance_290 : decode cX11_chance 290 = .ok (.lload 11, 2) := by decide +kernel
theorem dX11_chance_292 : decode cX11_chance 292 = .ok (.lconst 0, 1) := by decide +kernel
theorem dX11_chance_293 : decode cX11_chance 293 = .ok (.lcmp, 1) := by decide +kernel
theorem dX11_chance_294 : decode cX11_chance 294 = .ok (.ifCond .eq 21, 3) := by decide +kernel
theorem dX11_chance_297 : decode cX11_chance 297 = .ok (.lload 9, 2) := by decide +kernel
theorem dX11_chance_299 : decode cX11_chance 299 = .ok (.lload 11, 2) := by decide +kernel
theorem dX11_chance_301 : decode cX11_chance 301 = .ok (.lrem, 1) := by decide +kernel
theorem dX11_chance_302 : decode cX11_chance 302 = .ok (.lstore 13, 2) := by decide +kernel
theorem dX11_chance_304 : decode cX11_chance 304 = .ok (.lload 11, 2) := by decide +kernel
theorem dX11_chance_306 : decode cX11_chance 306 = .ok (.lstore 9, 2) := by decide +kernel
theorem dX11_chance_308 : decode cX11_chance 308 = .ok (.lload 13, 2) := by decide +kernel
theorem dX11_chance_310 : decode cX11_chance 310 = .ok (.lstore 11, 2) := by decide +kernel
theorem dX11_chance_312 : decode cX11_chance 312 = .ok (.goto (-22), 3) := by decide +kernel
theorem dX11_chance_315 : decode cX11_chance 315 = .ok (.iload_n 3, 1) := by decide +kernel
theorem dX11_chance_316 : decode cX11_chance 316 = .ok (.ifCond .ne 11, 3) := by decide +kernel
theorem dX11_chance_319 : decode cX11_chance 319 = .ok (.lload 4, 2) := by decide +kernel
theorem dX11_chance_321 : decode cX11_chance 321 = .ok (.lload 9, 2) := by decide +kernel
theorem dX11_chance_323 : decode cX11_chance 323 = .ok (.ldiv, 1) := by decide +kernel
theorem dX11_chance_324 : decode cX11_chance 324 = .ok (.goto 8, 3) := by decide +kernel
theorem dX11_chance_327 : decode cX11_chance 327 = .ok (.lload 6, 2) := by decide +kernel
theorem dX11_chance_329 : decode cX11_chance 329 = .ok (.lload 9, 2) := by decide +kernel
theorem dX11_chance_331 : decode cX11_chance 331 = .ok (.ldiv, 1) := by decide +kernel
theorem dX11_chance_332 : decode cX11_chance 332 = .ok (.lreturn, 1) := by decide +kernel
set_option maxRecDepth 20000 in
theorem ggX11_year_X11_in : GoodIn wsX11_year wsX11_in := goodIn_r _ [8] (by decide +kernel) (by decide +kernel)
set_option maxRecDepth 20000 in
theorem gX11_year_X11_in : GoodIn wsX11_year (va_wsS RX11 42 yX11_in wsX11_in) := goodIn_app (goodIn_of _ (by decide +kernel)) ggX11_year_X11_in
set_option maxRecDepth 20000 in
theorem ggX11_year_X11_asNow : GoodIn wsX11_year wsX11_asNow := goodIn_r _ [12, 13, 3, 14, 4, 2, 15, 16, 17, 35, 36, 37, 38, 39, 40, 41, 42, 43, 44, 45, 46, 47, 48, 49, 50, 51] (by decide +kernel) (by decide +kernel)
set_option maxRecDepth 20000 in
theorem gX11_year_X11_asNow : GoodIn wsX11_year (wsV RX11 76 RX11 yX11_asNow wsX11_asNow) := goodIn_app (goodIn_of _ (by decide +kernel)) ggX11_year_X11_asNow
set_option maxRecDepth 20000 in
theorem ggX11_year_X11_carOf : GoodIn wsX11_year wsX11_carOf := goodIn_r _ [21, 2, 35, 36, 37, 38, 39, 40, 41, 42, 43, 44, 45, 46, 47, 48, 49, 50, 51] (by decide +kernel) (by decide +kernel)
set_option maxRecDepth 20000 in
theorem gX11_year_X11_carOf : GoodIn wsX11_year (wsV RX11 85 RX11 yX11_carOf wsX11_carOf) := goodIn_app (goodIn_of _ (by decide +kernel)) ggX11_year_X11_carOf
set_option maxRecDepth 20000 in
theorem ggX11_year_X11_letGo : GoodIn wsX11_year wsX11_letGo := goodIn_r _ [25, 3, 26, 14, 4, 27, 28, 29, 7, 30, 16, 2, 31, 32, 33, 34, 35, 36, 37, 38, 39, 40, 41, 42, 43, 44, 45, 46, 47, 48, 49, 50, 51] (by decide +kernel) (by decide +kernel)
set_option maxRecDepth 20000 in
theorem gX11_year_X11_letGo : GoodIn wsX11_year (wsV RX11 88 RX11 yX11_letGo wsX11_letGo) := goodIn_app (goodIn_of _ (by decide +kernel)) ggX11_year_X11_letGo
theorem dX11_year_0 : decode cX11_year 0 = .ok (.iload_n 3, 1) := by decide +kernel
theorem dX11_year_1 : decode cX11_year 1 = .ok (.iconst (-1), 1) := by decide +kernel
theorem dX11_year_2 : decode cX11_year 2 = .ok (.bipush 7, 2) := by decide +kernel
theorem dX11_year_4 : decode cX11_year 4 = .ok (.invokestatic 42, 3) := by decide +kernel
theorem dX11_year_7 : decode cX11_year 7 = .ok (.ifCond .ne 5, 3) := by decide +kernel
theorem dX11_year_10 : decode cX11_year 10 = .ok (.iconst (-1), 1) := by decide +kernel
theorem dX11_year_11 : decode cX11_year 11 = .ok (.ireturn, 1) := by decide +kernel
theorem dX11_year_12 : decode cX11_year 12 = .ok (.iload_n 1, 1) := by decide +kernel
theorem dX11_year_13 : decode cX11_year 13 = .ok (.iconst 0, 1) := by decide +kernel
theorem dX11_year_14 : decode cX11_year 14 = .ok (.sipush 9999, 3) := by decide +kernel
theorem dX11_year_17 : decode cX11_year 17 = .ok (.invokestatic 42, 3) := by decide +kernel
theorem dX11_year_20 : decode cX11_year 20 = .ok (.ifCond .eq 13, 3) := by decide +kernel
theorem dX11_year_23 : decode cX11_year 23 = .ok (.iload_n 2, 1) := by decide +kernel
theorem dX11_year_24 : decode cX11_year 24 = .ok (.iconst 1, 1) := by decide +kernel
theorem dX11_year_25 : decode cX11_year 25 = .ok (.bipush 99, 2) := by decide +kernel
theorem dX11_year_27 : decode cX11_year 27 = .ok (.invokestatic 42, 3) := by decide +kernel
theorem dX11_year_30 : decode cX11_year 30 = .ok (.ifCond .ne 6, 3) := by decide +kernel
theorem dX11_year_33 : decode cX11_year 33 = .ok (.bipush (-2), 2) := by decide +kernel
theorem dX11_year_35 : decode cX11_year 35 = .ok (.ireturn, 1) := by decide +kernel
theorem dX11_year_36 : decode cX11_year 36 = .ok (.aload_n 0, 1) := by decide +kernel
theorem dX11_year_37 : decode cX11_year 37 = .ok (.invokevirtual 76, 3) := by decide +kernel
theorem dX11_year_40 : decode cX11_year 40 = .ok (.iload_n 1, 1) := by decide +kernel
theorem dX11_year_41 : decode cX11_year 41 = .ok (.istore 4, 2) := by decide +kernel
theorem dX11_year_43 : decode cX11_year 43 = .ok (.iconst 0, 1) := by decide +kernel
theorem dX11_year_44 : decode cX11_year 44 = .ok (.istore 5, 2) := by decide +kernel
theorem dX11_year_46 : decode cX11_year 46 = .ok (.iconst 0, 1) := by decide +kernel
theorem dX11_year_47 : decode cX11_year 47 = .ok (.istore 6, 2) := by decide +kernel
theorem dX11_year_49 : decode cX11_year 49 = .ok (.iload 6, 2) := by decide +kernel
theorem dX11_year_51 : decode cX11_year 51 = .ok (.iload_n 2, 1) := by decide +kernel
theorem dX11_year_52 : decode cX11_year 52 = .ok (.if_icmp .ge 158, 3) := by decide +kernel
theorem dX11_year_55 : decode cX11_year 55 = .ok (.bipush 75, 2) := by decide +kernel
theorem dX11_year_57 : decode cX11_year 57 = .ok (.iload 4, 2) := by decide +kernel
theorem dX11_year_59 : decode cX11_year 59 = .ok (.imul, 1) := by decide +kernel
theorem dX11_year_60 : decode cX11_year 60 = .ok (.bipush 74, 2) := by decide +kernel
theorem dX11_year_62 : decode cX11_year 62 = .ok (.iadd, 1) := by decide +kernel
theorem dX11_year_63 : decode cX11_year 63 = .ok (.ldc 127, 2) := by decide +kernel
theorem dX11_year_65 : decode cX11_year 65 = .ok (.irem, 1) := by decide +kernel
theorem dX11_year_66 : decode cX11_year 66 = .ok (.istore 4, 2) := by decide +kernel
theorem dX11_year_68 : decode cX11_year 68 = .ok (.aload_n 0, 1) := by decide +kernel
theorem dX11_year_69 : decode cX11_year 69 = .ok (.getfield 29, 3) := by decide +kernel
theorem dX11_year_72 : decode cX11_year 72 = .ok (.aload_n 0, 1) := by decide +kernel
theorem dX11_year_73 : decode cX11_year 73 = .ok (.getfield 60, 3) := by decide +kernel
theorem dX11_year_76 : decode cX11_year 76 = .ok (.iload 4, 2) := by decide +kernel
theorem dX11_year_78 : decode cX11_year 78 = .ok (.iconst 2, 1) := by decide +kernel
theorem dX11_year_79 : decode cX11_year 79 = .ok (.irem, 1) := by decide +kernel
theorem dX11_year_80 : decode cX11_year 80 = .ok (.iconst 1, 1) := by decide +kernel
theorem dX11_year_81 : decode cX11_year 81 = .ok (.if_icmp .ne 8, 3) := by decide +kernel
theorem dX11_year_84 : decode cX11_year 84 = .ok (.bipush (-6), 2) := by decide +kernel
theorem dX11_year_86 : decode cX11_year 86 = .ok (.goto 12, 3) := by decide +kernel
theorem dX11_year_89 : decode cX11_year 89 = .ok (.aload_n 0, 1) := by decide +kernel
theorem dX11_year_90 : decode cX11_year 90 = .ok (.getfield 29, 3) := by decide +kernel
theorem dX11_year_93 : decode cX11_year 93 = .ok (.aload_n 0, 1) := by decide +kernel
theorem dX11_year_94 : decode cX11_year 94 = .ok (.getfield 60, 3) := by decide +kernel
theorem dX11_year_97 : decode cX11_year 97 = .ok (.iaload, 1) := by decide +kernel
theorem dX11_year_98 : decode cX11_year 98 = .ok (.iastore, 1) := by decide +kernel
theorem dX11_year_99 : decode cX11_year 99 = .ok (.iload 4, 2) := by decide +kernel
theorem dX11_year_101 : decode cX11_year 101 = .ok (.iconst 2, 1) := by decide +kernel
theorem dX11_year_102 : decode cX11_year 102 = .ok (.idiv, 1) := by decide +kernel
theorem dX11_year_103 : decode cX11_year 103 = .ok (.bipush 8, 2) := by decide +kernel
theorem dX11_year_105 : decode cX11_year 105 = .ok (.irem, 1) := by decide +kernel
theorem dX11_year_106 : decode cX11_year 106 = .ok (.istore 7, 2) := by decide +kernel
theorem dX11_year_108 : decode cX11_year 108 = .ok (.aload_n 0, 1) := by decide +kernel
theorem dX11_year_109 : decode cX11_year 109 = .ok (.getfield 29, 3) := by decide +kernel
theorem dX11_year_112 : decode cX11_year 112 = .ok (.aload_n 0, 1) := by decide +kernel
theorem dX11_year_113 : decode cX11_year 113 = .ok (.getfield 60, 3) := by decide +kernel
theorem dX11_year_116 : decode cX11_year 116 = .ok (.aload_n 0, 1) := by decide +kernel
theorem dX11_year_117 : decode cX11_year 117 = .ok (.getfield 29, 3) := by decide +kernel
theorem dX11_year_120 : decode cX11_year 120 = .ok (.aload_n 0, 1) := by decide +kernel
theorem dX11_year_121 : decode cX11_year 121 = .ok (.getfield 60, 3) := by decide +kernel
theorem dX11_year_124 : decode cX11_year 124 = .ok (.iaload, 1) := by decide +kernel
theorem dX11_year_125 : decode cX11_year 125 = .ok (.ifCond .ge 17, 3) := by decide +kernel
theorem dX11_year_128 : decode cX11_year 128 = .ok (.aload_n 0, 1) := by decide +kernel
theorem dX11_year_129 : decode cX11_year 129 = .ok (.iload 7, 2) := by decide +kernel
theorem dX11_year_131 : decode cX11_year 131 = .ok (.invokevirtual 85, 3) := by decide +kernel
theorem dX11_year_134 : decode cX11_year 134 = .ok (.ifCond .ge 8, 3) := by decide +kernel
theorem dX11_year_137 : decode cX11_year 137 = .ok (.iload 7, 2) := by decide +kernel
theorem dX11_year_139 : decode cX11_year 139 = .ok (.goto 12, 3) := by decide +kernel
theorem dX11_year_142 : decode cX11_year 142 = .ok (.aload_n 0, 1) := by decide +kernel
theorem dX11_year_143 : decode cX11_year 143 = .ok (.getfield 29, 3) := by decide +kernel
theorem dX11_year_146 : decode cX11_year 146 = .ok (.aload_n 0, 1) := by decide +kernel
theorem dX11_year_147 : decode cX11_year 147 = .ok (.getfield 60, 3) := by decide +kernel
theorem dX11_year_150 : decode cX11_year 150 = .ok (.iaload, 1) := by decide +kernel
theorem dX11_year_151 : decode cX11_year 151 = .ok (.iastore, 1) := by decide +kernel
theorem dX11_year_152 : decode cX11_year 152 = .ok (.aload_n 0, 1) := by decide +kernel
theorem dX11_year_153 : decode cX11_year 153 = .ok (.iload 4, 2) := by decide +kernel
theorem dX11_year_155 : decode cX11_year 155 = .ok (.bipush 16, 2) := by decide +kernel
theorem dX11_year_157 : decode cX11_year 157 = .ok (.idiv, 1) := by decide +kernel
theorem dX11_year_158 : decode cX11_year 158 = .ok (.iconst 3, 1) := by decide +kernel
theorem dX11_year_159 : decode cX11_year 159 = .ok (.irem, 1) := by decide +kernel
theorem dX11_year_160 : decode cX11_year 160 = .ok (.ifCond .ne 15, 3) := by decide +kernel
theorem dX11_year_163 : decode cX11_year 163 = .ok (.aload_n 0, 1) := by decide +kernel
theorem dX11_year_164 : decode cX11_year 164 = .ok (.getfield 60, 3) := by decide +kernel
theorem dX11_year_167 : decode cX11_year 167 = .ok (.iconst 1, 1) := by decide +kernel
theorem dX11_year_168 : decode cX11_year 168 = .ok (.iadd, 1) := by decide +kernel
theorem dX11_year_169 : decode cX11_year 169 = .ok (.bipush 8, 2) := by decide +kernel
theorem dX11_year_171 : decode cX11_year 171 = .ok (.irem, 1) := by decide +kernel
theorem dX11_year_172 : decode cX11_year 172 = .ok (.goto 7, 3) := by decide +kernel
theorem dX11_year_175 : decode cX11_year 175 = .ok (.aload_n 0, 1) := by decide +kernel
theorem dX11_year_176 : decode cX11_year 176 = .ok (.getfield 60, 3) := by decide +kernel
theorem dX11_year_179 : decode cX11_year 179 = .ok (.putfield 60, 3) := by decide +kernel
theorem dX11_year_182 : decode cX11_year 182 = .ok (.aload_n 0, 1) := by decide +kernel
theorem dX11_year_183 : decode cX11_year 183 = .ok (.invokevirtual 88, 3) := by decide +kernel
theorem dX11_year_186 : decode cX11_year 186 = .ok (.iload 5, 2) := by decide +kernel
theorem dX11_year_188 : decode cX11_year 188 = .ok (.aload_n 0, 1) := by decide +kernel
theorem dX11_year_189 : decode cX11_year 189 = .ok (.getfield 60, 3) := by decide +kernel
theorem dX11_year_192 : decode cX11_year 192 = .ok (.iload_n 3, 1) := by decide +kernel
theorem dX11_year_193 : decode cX11_year 193 = .ok (.if_icmp .ne 7, 3) := by decide +kernel
theorem dX11_year_196 : decode cX11_year 196 = .ok (.iconst 1, 1) := by decide +kernel
theorem dX11_year_197 : decode cX11_year 197 = .ok (.goto 4, 3) := by decide +kernel
theorem dX11_year_200 : decode cX11_year 200 = .ok (.iconst 0, 1) := by decide +kernel
theorem dX11_year_201 : decode cX11_year 201 = .ok (.iadd, 1) := by decide +kernel
theorem dX11_year_202 : decode cX11_year 202 = .ok (.istore 5, 2) := by decide +kernel
theorem dX11_year_204 : decode cX11_year 204 = .ok (.iinc 6 1, 3) := by decide +kernel
theorem dX11_year_207 : decode cX11_year 207 = .ok (.goto (-158), 3) := by decide +kernel
theorem dX11_year_210 : decode cX11_year 210 = .ok (.iload_n 3, 1) := by decide +kernel
theorem dX11_year_211 : decode cX11_year 211 = .ok (.ifCond .ge 10, 3) := by decide +kernel
theorem dX11_year_214 : decode cX11_year 214 = .ok (.aload_n 0, 1) := by decide +kernel
theorem dX11_year_215 : decode cX11_year 215 = .ok (.getfield 66, 3) := by decide +kernel
theorem dX11_year_218 : decode cX11_year 218 = .ok (.goto 5, 3) := by decide +kernel
theorem dX11_year_221 : decode cX11_year 221 = .ok (.iload 5, 2) := by decide +kernel
theorem dX11_year_223 : decode cX11_year 223 = .ok (.ireturn, 1) := by decide +kernel
set_option maxRecDepth 20000 in
theorem ggX11_image_X11_in : GoodIn wsX11_image wsX11_in := goodIn_r _ [13] (by decide +kernel) (by decide +kernel)
set_option maxRecDepth 20000 in
theorem gX11_image_X11_in : GoodIn wsX11_image (va_wsS RX11 42 yX11_in wsX11_in) := goodIn_app (goodIn_of _ (by decide +kernel)) ggX11_image_X11_in
theorem dX11_image_0 : decode cX11_image 0 = .ok (.iload_n 1, 1) := by decide +kernel
theorem dX11_image_1 : decode cX11_image 1 = .ok (.iconst 0, 1) := by decide +kernel
theorem dX11_image_2 : decode cX11_image 2 = .ok (.iconst 1, 1) := by decide +kernel
theorem dX11_image_3 : decode cX11_image 3 = .ok (.invokestatic 42, 3) := by decide +kernel
theorem dX11_image_6 : decode cX11_image 6 = .ok (.ifCond .ne 6, 3) := by decide +kernel
theorem dX11_image_9 : decode cX11_image 9 = .ok (.bipush (-2), 2) := by decide +kernel
theorem dX11_image_11 : decode cX11_image 11 = .ok (.ireturn, 1) := by decide +kernel
theorem dX11_image_12 : decode cX11_image 12 = .ok (.bipush 40, 2) := by decide +kernel
theorem dX11_image_14 : decode cX11_image 14 = .ok (.iload_n 1, 1) := by decide +kernel
theorem dX11_image_15 : decode cX11_image 15 = .ok (.imul, 1) := by decide +kernel
theorem dX11_image_16 : decode cX11_image 16 = .ok (.istore_n 2, 1) := by decide +kernel
theorem dX11_image_17 : decode cX11_image 17 = .ok (.iconst 0, 1) := by decide +kernel
theorem dX11_image_18 : decode cX11_image 18 = .ok (.istore_n 3, 1) := by decide +kernel
theorem dX11_image_19 : decode cX11_image 19 = .ok (.iload_n 3, 1) := by decide +kernel
theorem dX11_image_20 : decode cX11_image 20 = .ok (.bipush 8, 2) := by decide +kernel
theorem dX11_image_22 : decode cX11_image 22 = .ok (.if_icmp .ge 57, 3) := by decide +kernel
theorem dX11_image_25 : decode cX11_image 25 = .ok (.aload_n 0, 1) := by decide +kernel
theorem dX11_image_26 : decode cX11_image 26 = .ok (.getfield 35, 3) := by decide +kernel
theorem dX11_image_29 : decode cX11_image 29 = .ok (.iload_n 2, 1) := by decide +kernel
theorem dX11_image_30 : decode cX11_image 30 = .ok (.iload_n 3, 1) := by decide +kernel
theorem dX11_image_31 : decode cX11_image 31 = .ok (.iadd, 1) := by decide +kernel
theorem dX11_image_32 : decode cX11_image 32 = .ok (.aload_n 0, 1) := by decide +kernel
theorem dX11_image_33 : decode cX11_image 33 = .ok (.getfield 7, 3) := by decide +kernel
theorem dX11_image_36 : decode cX11_image 36 = .ok (.iload_n 3, 1) := by decide +kernel
theorem dX11_image_37 : decode cX11_image 37 = .ok (.iaload, 1) := by decide +kernel
theorem dX11_image_38 : decode cX11_image 38 = .ok (.iastore, 1) := by decide +kernel
theorem dX11_image_39 : decode cX11_image 39 = .ok (.aload_n 0, 1) := by decide +kernel
theorem dX11_image_40 : decode cX11_image 40 = .ok (.getfield 35, 3) := by decide +kernel
theorem dX11_image_43 : decode cX11_image 43 = .ok (.iload_n 2, 1) := by decide +kernel
theorem dX11_image_44 : decode cX11_image 44 = .ok (.bipush 8, 2) := by decide +kernel
theorem dX11_image_46 : decode cX11_image 46 = .ok (.iadd, 1) := by decide +kernel
theorem dX11_image_47 : decode cX11_image 47 = .ok (.iload_n 3, 1) := by decide +kernel
theorem dX11_image_48 : decode cX11_image 48 = .ok (.iadd, 1) := by decide +kernel
theorem dX11_image_49 : decode cX11_image 49 = .ok (.aload_n 0, 1) := by decide +kernel
theorem dX11_image_50 : decode cX11_image 50 = .ok (.getfield 13, 3) := by decide +kernel
theorem dX11_image_53 : decode cX11_image 53 = .ok (.iload_n 3, 1) := by decide +kernel
theorem dX11_image_54 : decode cX11_image 54 = .ok (.iaload, 1) := by decide +kernel
theorem dX11_image_55 : decode cX11_image 55 = .ok (.iastore, 1) := by decide +kernel
theorem dX11_image_56 : decode cX11_image 56 = .ok (.aload_n 0, 1) := by decide +kernel
theorem dX11_image_57 : decode cX11_image 57 = .ok (.getfield 35, 3) := by decide +kernel
theorem dX11_image_60 : decode cX11_image 60 = .ok (.iload_n 2, 1) := by decide +kernel
theorem dX11_image_61 : decode cX11_image 61 = .ok (.bipush 16, 2) := by decide +kernel
theorem dX11_image_63 : decode cX11_image 63 = .ok (.iadd, 1) := by decide +kernel
theorem dX11_image_64 : decode cX11_image 64 = .ok (.iload_n 3, 1) := by decide +kernel
theorem dX11_image_65 : decode cX11_image 65 = .ok (.iadd, 1) := by decide +kernel
theorem dX11_image_66 : decode cX11_image 66 = .ok (.aload_n 0, 1) := by decide +kernel
theorem dX11_image_67 : decode cX11_image 67 = .ok (.getfield 16, 3) := by decide +kernel
theorem dX11_image_70 : decode cX11_image 70 = .ok (.iload_n 3, 1) := by decide +kernel
theorem dX11_image_71 : decode cX11_image 71 = .ok (.iaload, 1) := by decide +kernel
theorem dX11_image_72 : decode cX11_image 72 = .ok (.iastore, 1) := by decide +kernel
theorem dX11_image_73 : decode cX11_image 73 = .ok (.iinc 3 1, 3) := by decide +kernel
theorem dX11_image_76 : decode cX11_image 76 = .ok (.goto (-57), 3) := by decide +kernel
theorem dX11_image_79 : decode cX11_image 79 = .ok (.iconst 0, 1) := by decide +kernel
theorem dX11_image_80 : decode cX11_image 80 = .ok (.istore_n 3, 1) := by decide +kernel
theorem dX11_image_81 : decode cX11_image 81 = .ok (.iload_n 3, 1) := by decide +kernel
theorem dX11_image_82 : decode cX11_image 82 = .ok (.bipush 12, 2) := by decide +kernel
theorem dX11_image_84 : decode cX11_image 84 = .ok (.if_icmp .ge 26, 3) := by decide +kernel
theorem dX11_image_87 : decode cX11_image 87 = .ok (.aload_n 0, 1) := by decide +kernel
theorem dX11_image_88 : decode cX11_image 88 = .ok (.getfield 35, 3) := by decide +kernel
theorem dX11_image_91 : decode cX11_image 91 = .ok (.iload_n 2, 1) := by decide +kernel
theorem dX11_image_92 : decode cX11_image 92 = .ok (.bipush 24, 2) := by decide +kernel
theorem dX11_image_94 : decode cX11_image 94 = .ok (.iadd, 1) := by decide +kernel
theorem dX11_image_95 : decode cX11_image 95 = .ok (.iload_n 3, 1) := by decide +kernel
theorem dX11_image_96 : decode cX11_image 96 = .ok (.iadd, 1) := by decide +kernel
theorem dX11_image_97 : decode cX11_image 97 = .ok (.aload_n 0, 1) := by decide +kernel
theorem dX11_image_98 : decode cX11_image 98 = .ok (.getfield 23, 3) := by decide +kernel
theorem dX11_image_101 : decode cX11_image 101 = .ok (.iload_n 3, 1) := by decide +kernel
theorem dX11_image_102 : decode cX11_image 102 = .ok (.iaload, 1) := by decide +kernel
theorem dX11_image_103 : decode cX11_image 103 = .ok (.iastore, 1) := by decide +kernel
theorem dX11_image_104 : decode cX11_image 104 = .ok (.iinc 3 1, 3) := by decide +kernel
theorem dX11_image_107 : decode cX11_image 107 = .ok (.goto (-26), 3) := by decide +kernel
theorem dX11_image_110 : decode cX11_image 110 = .ok (.aload_n 0, 1) := by decide +kernel
theorem dX11_image_111 : decode cX11_image 111 = .ok (.getfield 35, 3) := by decide +kernel
theorem dX11_image_114 : decode cX11_image 114 = .ok (.iload_n 2, 1) := by decide +kernel
theorem dX11_image_115 : decode cX11_image 115 = .ok (.bipush 36, 2) := by decide +kernel
theorem dX11_image_117 : decode cX11_image 117 = .ok (.iadd, 1) := by decide +kernel
theorem dX11_image_118 : decode cX11_image 118 = .ok (.aload_n 0, 1) := by decide +kernel
theorem dX11_image_119 : decode cX11_image 119 = .ok (.getfield 57, 3) := by decide +kernel
theorem dX11_image_122 : decode cX11_image 122 = .ok (.iastore, 1) := by decide +kernel
theorem dX11_image_123 : decode cX11_image 123 = .ok (.aload_n 0, 1) := by decide +kernel
theorem dX11_image_124 : decode cX11_image 124 = .ok (.getfield 35, 3) := by decide +kernel
theorem dX11_image_127 : decode cX11_image 127 = .ok (.iload_n 2, 1) := by decide +kernel
theorem dX11_image_128 : decode cX11_image 128 = .ok (.bipush 37, 2) := by decide +kernel
theorem dX11_image_130 : decode cX11_image 130 = .ok (.iadd, 1) := by decide +kernel
theorem dX11_image_131 : decode cX11_image 131 = .ok (.aload_n 0, 1) := by decide +kernel
theorem dX11_image_132 : decode cX11_image 132 = .ok (.getfield 19, 3) := by decide +kernel
theorem dX11_image_135 : decode cX11_image 135 = .ok (.iastore, 1) := by decide +kernel
theorem dX11_image_136 : decode cX11_image 136 = .ok (.aload_n 0, 1) := by decide +kernel
theorem dX11_image_137 : decode cX11_image 137 = .ok (.getfield 35, 3) := by decide +kernel
theorem dX11_image_140 : decode cX11_image 140 = .ok (.iload_n 2, 1) := by decide +kernel
theorem dX11_image_141 : decode cX11_image 141 = .ok (.bipush 38, 2) := by decide +kernel
theorem dX11_image_143 : decode cX11_image 143 = .ok (.iadd, 1) := by decide +kernel
theorem dX11_image_144 : decode cX11_image 144 = .ok (.aload_n 0, 1) := by decide +kernel
theorem dX11_image_145 : decode cX11_image 145 = .ok (.getfield 115, 3) := by decide +kernel
theorem dX11_image_148 : decode cX11_image 148 = .ok (.iastore, 1) := by decide +kernel
theorem dX11_image_149 : decode cX11_image 149 = .ok (.aload_n 0, 1) := by decide +kernel
theorem dX11_image_150 : decode cX11_image 150 = .ok (.getfield 38, 3) := by decide +kernel
theorem dX11_image_153 : decode cX11_image 153 = .ok (.iload_n 1, 1) := by decide +kernel
theorem dX11_image_154 : decode cX11_image 154 = .ok (.iconst 1, 1) := by decide +kernel
theorem dX11_image_155 : decode cX11_image 155 = .ok (.bastore, 1) := by decide +kernel
theorem dX11_image_156 : decode cX11_image 156 = .ok (.iconst 1, 1) := by decide +kernel
theorem dX11_image_157 : decode cX11_image 157 = .ok (.ireturn, 1) := by decide +kernel
set_option maxRecDepth 20000 in
theorem ggX11_restore_X11_in : GoodIn wsX11_restore wsX11_in := goodIn_r _ [13] (by decide +kernel) (by decide +kernel)
set_option maxRecDepth 20000 in
theorem gX11_restore_X11_in : GoodIn wsX11_restore (va_wsS RX11 42 yX11_in wsX11_in) := goodIn_app (goodIn_of _ (by decide +kernel)) ggX11_restore_X11_in
theorem dX11_restore_0 : decode cX11_restore 0 = .ok (.iload_n 1, 1) := by decide +kernel
theorem dX11_restore_1 : decode cX11_restore 1 = .ok (.iconst 0, 1) := by decide +kernel
theorem dX11_restore_2 : decode cX11_restore 2 = .ok (.iconst 1, 1) := by decide +kernel
theorem dX11_restore_3 : decode cX11_restore 3 = .ok (.invokestatic 42, 3) := by decide +kernel
theorem dX11_restore_6 : decode cX11_restore 6 = .ok (.ifCond .ne 6, 3) := by decide +kernel
theorem dX11_restore_9 : decode cX11_restore 9 = .ok (.bipush (-2), 2) := by decide +kernel
theorem dX11_restore_11 : decode cX11_restore 11 = .ok (.ireturn, 1) := by decide +kernel
theorem dX11_restore_12 : decode cX11_restore 12 = .ok (.aload_n 0, 1) := by decide +kernel
theorem dX11_restore_13 : decode cX11_restore 13 = .ok (.getfield 38, 3) := by decide +kernel
theorem dX11_restore_16 : decode cX11_restore 16 = .ok (.iload_n 1, 1) := by decide +kernel
theorem dX11_restore_17 : decode cX11_restore 17 = .ok (.baload, 1) := by decide +kernel
theorem dX11_restore_18 : decode cX11_restore 18 = .ok (.ifCond .ne 6, 3) := by decide +kernel
theorem dX11_restore_21 : decode cX11_restore 21 = .ok (.bipush (-3), 2) := by decide +kernel
theorem dX11_restore_23 : decode cX11_restore 23 = .ok (.ireturn, 1) := by decide +kernel
theorem dX11_restore_24 : decode cX11_restore 24 = .ok (.bipush 40, 2) := by decide +kernel
theorem dX11_restore_26 : decode cX11_restore 26 = .ok (.iload_n 1, 1) := by decide +kernel
theorem dX11_restore_27 : decode cX11_restore 27 = .ok (.imul, 1) := by decide +kernel
theorem dX11_restore_28 : decode cX11_restore 28 = .ok (.istore_n 2, 1) := by decide +kernel
theorem dX11_restore_29 : decode cX11_restore 29 = .ok (.iconst 0, 1) := by decide +kernel
theorem dX11_restore_30 : decode cX11_restore 30 = .ok (.istore_n 3, 1) := by decide +kernel
theorem dX11_restore_31 : decode cX11_restore 31 = .ok (.iload_n 3, 1) := by decide +kernel
theorem dX11_restore_32 : decode cX11_restore 32 = .ok (.bipush 8, 2) := by decide +kernel
theorem dX11_restore_34 : decode cX11_restore 34 = .ok (.if_icmp .ge 57, 3) := by decide +kernel
theorem dX11_restore_37 : decode cX11_restore 37 = .ok (.aload_n 0, 1) := by decide +kernel
theorem dX11_restore_38 : decode cX11_restore 38 = .ok (.getfield 7, 3) := by decide +kernel
theorem dX11_restore_41 : decode cX11_restore 41 = .ok (.iload_n 3, 1) := by decide +kernel
theorem dX11_restore_42 : decode cX11_restore 42 = .ok (.aload_n 0, 1) := by decide +kernel
theorem dX11_restore_43 : decode cX11_restore 43 = .ok (.getfield 35, 3) := by decide +kernel
theorem dX11_restore_46 : decode cX11_restore 46 = .ok (.iload_n 2, 1) := by decide +kernel
theorem dX11_restore_47 : decode cX11_restore 47 = .ok (.iload_n 3, 1) := by decide +kernel
theorem dX11_restore_48 : decode cX11_restore 48 = .ok (.iadd, 1) := by decide +kernel
theorem dX11_restore_49 : decode cX11_restore 49 = .ok (.iaload, 1) := by decide +kernel
theorem dX11_restore_50 : decode cX11_restore 50 = .ok (.iastore, 1) := by decide +kernel
theorem dX11_restore_51 : decode cX11_restore 51 = .ok (.aload_n 0, 1) := by decide +kernel
theorem dX11_restore_52 : decode cX11_restore 52 = .ok (.getfield 13, 3) := by decide +kernel
theorem dX11_restore_55 : decode cX11_restore 55 = .ok (.iload_n 3, 1) := by decide +kernel
theorem dX11_restore_56 : decode cX11_restore 56 = .ok (.aload_n 0, 1) := by decide +kernel
theorem dX11_restore_57 : decode cX11_restore 57 = .ok (.getfield 35, 3) := by decide +kernel
theorem dX11_restore_60 : decode cX11_restore 60 = .ok (.iload_n 2, 1) := by decide +kernel
theorem dX11_restore_61 : decode cX11_restore 61 = .ok (.bipush 8, 2) := by decide +kernel
theorem dX11_restore_63 : decode cX11_restore 63 = .ok (.iadd, 1) := by decide +kernel
theorem dX11_restore_64 : decode cX11_restore 64 = .ok (.iload_n 3, 1) := by decide +kernel
theorem dX11_restore_65 : decode cX11_restore 65 = .ok (.iadd, 1) := by decide +kernel
theorem dX11_restore_66 : decode cX11_restore 66 = .ok (.iaload, 1) := by decide +kernel
theorem dX11_restore_67 : decode cX11_restore 67 = .ok (.iastore, 1) := by decide +kernel
theorem dX11_restore_68 : decode cX11_restore 68 = .ok (.aload_n 0, 1) := by decide +kernel
theorem dX11_restore_69 : decode cX11_restore 69 = .ok (.getfield 16, 3) := by decide +kernel
theorem dX11_restore_72 : decode cX11_restore 72 = .ok (.iload_n 3, 1) := by decide +kernel
theorem dX11_restore_73 : decode cX11_restore 73 = .ok (.aload_n 0, 1) := by decide +kernel
theorem dX11_restore_74 : decode cX11_restore 74 = .ok (.getfield 35, 3) := by decide +kernel
theorem dX11_restore_77 : decode cX11_restore 77 = .ok (.iload_n 2, 1) := by decide +kernel
theorem dX11_restore_78 : decode cX11_restore 78 = .ok (.bipush 16, 2) := by decide +kernel
theorem dX11_restore_80 : decode cX11_restore 80 = .ok (.iadd, 1) := by decide +kernel
theorem dX11_restore_81 : decode cX11_restore 81 = .ok (.iload_n 3, 1) := by decide +kernel
theorem dX11_restore_82 : decode cX11_restore 82 = .ok (.iadd, 1) := by decide +kernel
theorem dX11_restore_83 : decode cX11_restore 83 = .ok (.iaload, 1) := by decide +kernel
theorem dX11_restore_84 : decode cX11_restore 84 = .ok (.iastore, 1) := by decide +kernel
theorem dX11_restore_85 : decode cX11_restore 85 = .ok (.iinc 3 1, 3) := by decide +kernel
theorem dX11_restore_88 : decode cX11_restore 88 = .ok (.goto (-57), 3) := by decide +kernel
theorem dX11_restore_91 : decode cX11_restore 91 = .ok (.iconst 0, 1) := by decide +kernel
theorem dX11_restore_92 : decode cX11_restore 92 = .ok (.istore_n 3, 1) := by decide +kernel
theorem dX11_restore_93 : decode cX11_restore 93 = .ok (.iload_n 3, 1) := by decide +kernel
theorem dX11_restore_94 : decode cX11_restore 94 = .ok (.bipush 12, 2) := by decide +kernel
theorem dX11_restore_96 : decode cX11_restore 96 = .ok (.if_icmp .ge 26, 3) := by decide +kernel
theorem dX11_restore_99 : decode cX11_restore 99 = .ok (.aload_n 0, 1) := by decide +kernel
theorem dX11_restore_100 : decode cX11_restore 100 = .ok (.getfield 23, 3) := by decide +kernel
theorem dX11_restore_103 : decode cX11_restore 103 = .ok (.iload_n 3, 1) := by decide +kernel
theorem dX11_restore_104 : decode cX11_restore 104 = .ok (.aload_n 0, 1) := by decide +kernel
theorem dX11_restore_105 : decode cX11_restore 105 = .ok (.getfield 35, 3) := by decide +kernel
theorem dX11_restore_108 : decode cX11_restore 108 = .ok (.iload_n 2, 1) := by decide +kernel
theorem dX11_restore_109 : decode cX11_restore 109 = .ok (.bipush 24, 2) := by decide +kernel
theorem dX11_restore_111 : decode cX11_restore 111 = .ok (.iadd, 1) := by decide +kernel
theorem dX11_restore_112 : decode cX11_restore 112 = .ok (.iload_n 3, 1) := by decide +kernel
theorem dX11_restore_113 : decode cX11_restore 113 = .ok (.iadd, 1) := by decide +kernel
theorem dX11_restore_114 : decode cX11_restore 114 = .ok (.iaload, 1) := by decide +kernel
theorem dX11_restore_115 : decode cX11_restore 115 = .ok (.iastore, 1) := by decide +kernel
theorem dX11_restore_116 : decode cX11_restore 116 = .ok (.iinc 3 1, 3) := by decide +kernel
theorem dX11_restore_119 : decode cX11_restore 119 = .ok (.goto (-26), 3) := by decide +kernel
theorem dX11_restore_122 : decode cX11_restore 122 = .ok (.aload_n 0, 1) := by decide +kernel
theorem dX11_restore_123 : decode cX11_restore 123 = .ok (.aload_n 0, 1) := by decide +kernel
theorem dX11_restore_124 : decode cX11_restore 124 = .ok (.getfield 35, 3) := by decide +kernel
theorem dX11_restore_127 : decode cX11_restore 127 = .ok (.iload_n 2, 1) := by decide +kernel
theorem dX11_restore_128 : decode cX11_restore 128 = .ok (.bipush 36, 2) := by decide +kernel
theorem dX11_restore_130 : decode cX11_restore 130 = .ok (.iadd, 1) := by decide +kernel
theorem dX11_restore_131 : decode cX11_restore 131 = .ok (.iaload, 1) := by decide +kernel
theorem dX11_restore_132 : decode cX11_restore 132 = .ok (.putfield 57, 3) := by decide +kernel
theorem dX11_restore_135 : decode cX11_restore 135 = .ok (.aload_n 0, 1) := by decide +kernel
theorem dX11_restore_136 : decode cX11_restore 136 = .ok (.aload_n 0, 1) := by decide +kernel
theorem dX11_restore_137 : decode cX11_restore 137 = .ok (.getfield 35, 3) := by decide +kernel
theorem dX11_restore_140 : decode cX11_restore 140 = .ok (.iload_n 2, 1) := by decide +kernel
theorem dX11_restore_141 : decode cX11_restore 141 = .ok (.bipush 37, 2) := by decide +kernel
theorem dX11_restore_143 : decode cX11_restore 143 = .ok (.iadd, 1) := by decide +kernel
theorem dX11_restore_144 : decode cX11_restore 144 = .ok (.iaload, 1) := by decide +kernel
theorem dX11_restore_145 : decode cX11_restore 145 = .ok (.putfield 19, 3) := by decide +kernel
theorem dX11_restore_148 : decode cX11_restore 148 = .ok (.aload_n 0, 1) := by decide +kernel
theorem dX11_restore_149 : decode cX11_restore 149 = .ok (.aload_n 0, 1) := by decide +kernel
theorem dX11_restore_150 : decode cX11_restore 150 = .ok (.getfield 35, 3) := by decide +kernel
theorem dX11_restore_153 : decode cX11_restore 153 = .ok (.iload_n 2, 1) := by decide +kernel
theorem dX11_restore_154 : decode cX11_restore 154 = .ok (.bipush 38, 2) := by decide +kernel
theorem dX11_restore_156 : decode cX11_restore 156 = .ok (.iadd, 1) := by decide +kernel
theorem dX11_restore_157 : decode cX11_restore 157 = .ok (.iaload, 1) := by decide +kernel
theorem dX11_restore_158 : decode cX11_restore 158 = .ok (.putfield 115, 3) := by decide +kernel
theorem dX11_restore_161 : decode cX11_restore 161 = .ok (.iconst 1, 1) := by decide +kernel
theorem dX11_restore_162 : decode cX11_restore 162 = .ok (.ireturn, 1) := by decide +kernel
set_option maxRecDepth 20000 in
theorem ggX11_told_X11_in : GoodIn wsX11_told wsX11_in := goodIn_r _ [9] (by decide +kernel) (by decide +kernel)
set_option maxRecDepth 20000 in
theorem gX11_told_X11_in : GoodIn wsX11_told (va_wsS RX11 42 yX11_in wsX11_in) := goodIn_app (goodIn_of _ (by decide +kernel)) ggX11_told_X11_in
set_option maxRecDepth 20000 in
theorem ggX11_told_X11_asNow : GoodIn wsX11_told wsX11_asNow := goodIn_r _ [13, 14, 15, 16, 17, 18, 5, 19, 20, 25, 26, 27, 28, 29, 30, 31, 32, 33, 34, 35, 36, 37, 38, 39, 40, 41] (by decide +kernel) (by decide +kernel)
set_option maxRecDepth 20000 in
theorem gX11_told_X11_asNow : GoodIn wsX11_told (wsV RX11 76 RX11 yX11_asNow wsX11_asNow) := goodIn_app (goodIn_of _ (by decide +kernel)) ggX11_told_X11_asNow
set_option maxRecDepth 20000 in
theorem ggX11_told_X11_carOf : GoodIn wsX11_told wsX11_carOf := goodIn_r _ [24, 18, 25, 26, 27, 28, 29, 30, 31, 32, 33, 34, 35, 36, 37, 38, 39, 40, 41] (by decide +kernel) (by decide +kernel)
set_option maxRecDepth 20000 in
theorem gX11_told_X11_carOf : GoodIn wsX11_told (wsV RX11 85 RX11 yX11_carOf wsX11_carOf) := goodIn_app (goodIn_of _ (by decide +kernel)) ggX11_told_X11_carOf
theorem dX11_told_0 : decode cX11_told 0 = .ok (.iload_n 1, 1) := by decide +kernel
theorem dX11_told_1 : decode cX11_told 1 = .ok (.bipush 10, 2) := by decide +kernel
theorem dX11_told_3 : decode cX11_told 3 = .ok (.bipush 17, 2) := by decide +kernel
theorem dX11_told_5 : decode cX11_told 5 = .ok (.invokestatic 42, 3) := by decide +kernel
theorem dX11_told_8 : decode cX11_told 8 = .ok (.ifCond .eq 13, 3) := by decide +kernel
theorem dX11_told_11 : decode cX11_told 11 = .ok (.aload_n 0, 1) := by decide +kernel
theorem dX11_told_12 : decode cX11_told 12 = .ok (.getfield 7, 3) := by decide +kernel
theorem dX11_told_15 : decode cX11_told 15 = .ok (.iload_n 1, 1) := by decide +kernel
theorem dX11_told_16 : decode cX11_told 16 = .ok (.bipush 10, 2) := by decide +kernel
theorem dX11_told_18 : decode cX11_told 18 = .ok (.isub, 1) := by decide +kernel
theorem dX11_told_19 : decode cX11_told 19 = .ok (.iaload, 1) := by decide +kernel
theorem dX11_told_20 : decode cX11_told 20 = .ok (.ireturn, 1) := by decide +kernel
theorem dX11_told_21 : decode cX11_told 21 = .ok (.iload_n 1, 1) := by decide +kernel
theorem dX11_told_22 : decode cX11_told 22 = .ok (.bipush 20, 2) := by decide +kernel
theorem dX11_told_24 : decode cX11_told 24 = .ok (.bipush 27, 2) := by decide +kernel
theorem dX11_told_26 : decode cX11_told 26 = .ok (.invokestatic 42, 3) := by decide +kernel
theorem dX11_told_29 : decode cX11_told 29 = .ok (.ifCond .eq 16, 3) := by decide +kernel
theorem dX11_told_32 : decode cX11_told 32 = .ok (.aload_n 0, 1) := by decide +kernel
theorem dX11_told_33 : decode cX11_told 33 = .ok (.invokevirtual 76, 3) := by decide +kernel
theorem dX11_told_36 : decode cX11_told 36 = .ok (.aload_n 0, 1) := by decide +kernel
theorem dX11_told_37 : decode cX11_told 37 = .ok (.iload_n 1, 1) := by decide +kernel
theorem dX11_told_38 : decode cX11_told 38 = .ok (.bipush 20, 2) := by decide +kernel
theorem dX11_told_40 : decode cX11_told 40 = .ok (.isub, 1) := by decide +kernel
theorem dX11_told_41 : decode cX11_told 41 = .ok (.invokevirtual 85, 3) := by decide +kernel
theorem dX11_told_44 : decode cX11_told 44 = .ok (.ireturn, 1) := by decide +kernel
theorem dX11_told_45 : decode cX11_told 45 = .ok (.iload_n 1, 1) := by decide +kernel
theorem dX11_told_46 : decode cX11_told 46 = .ok (.tableswitch 82 0 3 #[30, 35, 40, 45], 30) := by decide +kernel
theorem dX11_told_76 : decode cX11_told 76 = .ok (.aload_n 0, 1) := by decide +kernel
theorem dX11_told_77 : decode cX11_told 77 = .ok (.getfield 50, 3) := by decide +kernel
theorem dX11_told_80 : decode cX11_told 80 = .ok (.ireturn, 1) := by decide +kernel
theorem dX11_told_81 : decode cX11_told 81 = .ok (.aload_n 0, 1) := by decide +kernel
theorem dX11_told_82 : decode cX11_told 82 = .ok (.getfield 19, 3) := by decide +kernel
theorem dX11_told_85 : decode cX11_told 85 = .ok (.ireturn, 1) := by decide +kernel
theorem dX11_told_86 : decode cX11_told 86 = .ok (.aload_n 0, 1) := by decide +kernel
theorem dX11_told_87 : decode cX11_told 87 = .ok (.getfield 115, 3) := by decide +kernel
theorem dX11_told_90 : decode cX11_told 90 = .ok (.ireturn, 1) := by decide +kernel
theorem dX11_told_91 : decode cX11_told 91 = .ok (.iconst 0, 1) := by decide +kernel
theorem dX11_told_92 : decode cX11_told 92 = .ok (.istore_n 2, 1) := by decide +kernel
theorem dX11_told_93 : decode cX11_told 93 = .ok (.iconst 0, 1) := by decide +kernel
theorem dX11_told_94 : decode cX11_told 94 = .ok (.istore_n 3, 1) := by decide +kernel
theorem dX11_told_95 : decode cX11_told 95 = .ok (.iload_n 3, 1) := by decide +kernel
theorem dX11_told_96 : decode cX11_told 96 = .ok (.bipush 8, 2) := by decide +kernel
theorem dX11_told_98 : decode cX11_told 98 = .ok (.if_icmp .ge 28, 3) := by decide +kernel
theorem dX11_told_101 : decode cX11_told 101 = .ok (.iload_n 2, 1) := by decide +kernel
theorem dX11_told_102 : decode cX11_told 102 = .ok (.aload_n 0, 1) := by decide +kernel
theorem dX11_told_103 : decode cX11_told 103 = .ok (.getfield 13, 3) := by decide +kernel
theorem dX11_told_106 : decode cX11_told 106 = .ok (.iload_n 3, 1) := by decide +kernel
theorem dX11_told_107 : decode cX11_told 107 = .ok (.iaload, 1) := by decide +kernel
theorem dX11_told_108 : decode cX11_told 108 = .ok (.ifCond .ge 7, 3) := by decide +kernel
theorem dX11_told_111 : decode cX11_told 111 = .ok (.iconst 0, 1) := by decide +kernel
theorem dX11_told_112 : decode cX11_told 112 = .ok (.goto 6, 3) := by decide +kernel
theorem dX11_told_115 : decode cX11_told 115 = .ok (.iconst 1, 1) := by decide +kernel
theorem dX11_told_116 : decode cX11_told 116 = .ok (.iload_n 3, 1) := by decide +kernel
theorem dX11_told_117 : decode cX11_told 117 = .ok (.ishl, 1) := by decide +kernel
theorem dX11_told_118 : decode cX11_told 118 = .ok (.ior, 1) := by decide +kernel
theorem dX11_told_119 : decode cX11_told 119 = .ok (.istore_n 2, 1) := by decide +kernel
theorem dX11_told_120 : decode cX11_told 120 = .ok (.iinc 3 1, 3) := by decide +kernel
theorem dX11_told_123 : decode cX11_told 123 = .ok (.goto (-28), 3) := by decide +kernel
theorem dX11_told_126 : decode cX11_told 126 = .ok (.iload_n 2, 1) := by decide +kernel
theorem dX11_told_127 : decode cX11_told 127 = .ok (.ireturn, 1) := by decide +kernel
theorem dX11_told_128 : decode cX11_told 128 = .ok (.bipush (-2), 2) := by decide +kernel
theorem dX11_told_130 : decode cX11_told 130 = .ok (.ireturn, 1) := by decide +kernel
theorem dJ6_bitCount_0f7a4_0 : decode cJ6_bitCount_0f7a4 0 = .ok (.iload_n 0, 1) := by decide +kernel
theorem dJ6_bitCount_0f7a4_1 : decode cJ6_bitCount_0f7a4 1 = .ok (.iload_n 0, 1) := by decide +kernel
theorem dJ6_bitCount_0f7a4_2 : decode cJ6_bitCount_0f7a4 2 = .ok (.iconst 1, 1) := by decide +kernel
theorem dJ6_bitCount_0f7a4_3 : decode cJ6_bitCount_0f7a4 3 = .ok (.iushr, 1) := by decide +kernel
theorem dJ6_bitCount_0f7a4_4 : decode cJ6_bitCount_0f7a4 4 = .ok (.ldc_w 265, 3) := by decide +kernel
theorem dJ6_bitCount_0f7a4_7 : decode cJ6_bitCount_0f7a4 7 = .ok (.iand, 1) := by decide +kernel
theorem dJ6_bitCount_0f7a4_8 : decode cJ6_bitCount_0f7a4 8 = .ok (.isub, 1) := by decide +kernel
theorem dJ6_bitCount_0f7a4_9 : decode cJ6_bitCount_0f7a4 9 = .ok (.istore_n 0, 1) := by decide +kernel
theorem dJ6_bitCount_0f7a4_10 : decode cJ6_bitCount_0f7a4 10 = .ok (.iload_n 0, 1) := by decide +kernel
theorem dJ6_bitCount_0f7a4_11 : decode cJ6_bitCount_0f7a4 11 = .ok (.ldc_w 266, 3) := by decide +kernel
theorem dJ6_bitCount_0f7a4_14 : decode cJ6_bitCount_0f7a4 14 = .ok (.iand, 1) := by decide +kernel
theorem dJ6_bitCount_0f7a4_15 : decode cJ6_bitCount_0f7a4 15 = .ok (.iload_n 0, 1) := by decide +kernel
theorem dJ6_bitCount_0f7a4_16 : decode cJ6_bitCount_0f7a4 16 = .ok (.iconst 2, 1) := by decide +kernel
theorem dJ6_bitCount_0f7a4_17 : decode cJ6_bitCount_0f7a4 17 = .ok (.iushr, 1) := by decide +kernel
theorem dJ6_bitCount_0f7a4_18 : decode cJ6_bitCount_0f7a4 18 = .ok (.ldc_w 266, 3) := by decide +kernel
theorem dJ6_bitCount_0f7a4_21 : decode cJ6_bitCount_0f7a4 21 = .ok (.iand, 1) := by decide +kernel
theorem dJ6_bitCount_0f7a4_22 : decode cJ6_bitCount_0f7a4 22 = .ok (.iadd, 1) := by decide +kernel
theorem dJ6_bitCount_0f7a4_23 : decode cJ6_bitCount_0f7a4 23 = .ok (.istore_n 0, 1) := by decide +kernel
theorem dJ6_bitCount_0f7a4_24 : decode cJ6_bitCount_0f7a4 24 = .ok (.iload_n 0, 1) := by decide +kernel
theorem dJ6_bitCount_0f7a4_25 : decode cJ6_bitCount_0f7a4 25 = .ok (.iload_n 0, 1) := by decide +kernel
theorem dJ6_bitCount_0f7a4_26 : decode cJ6_bitCount_0f7a4 26 = .ok (.iconst 4, 1) := by decide +kernel
theorem dJ6_bitCount_0f7a4_27 : decode cJ6_bitCount_0f7a4 27 = .ok (.iushr, 1) := by decide +kernel
theorem dJ6_bitCount_0f7a4_28 : decode cJ6_bitCount_0f7a4 28 = .ok (.iadd, 1) := by decide +kernel
theorem dJ6_bitCount_0f7a4_29 : decode cJ6_bitCount_0f7a4 29 = .ok (.ldc_w 267, 3) := by decide +kernel
theorem dJ6_bitCount_0f7a4_32 : decode cJ6_bitCount_0f7a4 32 = .ok (.iand, 1) := by decide +kernel
theorem dJ6_bitCount_0f7a4_33 : decode cJ6_bitCount_0f7a4 33 = .ok (.istore_n 0, 1) := by decide +kernel
theorem dJ6_bitCount_0f7a4_34 : decode cJ6_bitCount_0f7a4 34 = .ok (.iload_n 0, 1) := by decide +kernel
theorem dJ6_bitCount_0f7a4_35 : decode cJ6_bitCount_0f7a4 35 = .ok (.iload_n 0, 1) := by decide +kernel
theorem dJ6_bitCount_0f7a4_36 : decode cJ6_bitCount_0f7a4 36 = .ok (.bipush 8, 2) := by decide +kernel
theorem dJ6_bitCount_0f7a4_38 : decode cJ6_bitCount_0f7a4 38 = .ok (.iushr, 1) := by decide +kernel
theorem dJ6_bitCount_0f7a4_39 : decode cJ6_bitCount_0f7a4 39 = .ok (.iadd, 1) := by decide +kernel
theorem dJ6_bitCount_0f7a4_40 : decode cJ6_bitCount_0f7a4 40 = .ok (.istore_n 0, 1) := by decide +kernel
theorem dJ6_bitCount_0f7a4_41 : decode cJ6_bitCount_0f7a4 41 = .ok (.iload_n 0, 1) := by decide +kernel
theorem dJ6_bitCount_0f7a4_42 : decode cJ6_bitCount_0f7a4 42 = .ok (.iload_n 0, 1) := by decide +kernel
theorem dJ6_bitCount_0f7a4_43 : decode cJ6_bitCount_0f7a4 43 = .ok (.bipush 16, 2) := by decide +kernel
theorem dJ6_bitCount_0f7a4_45 : decode cJ6_bitCount_0f7a4 45 = .ok (.iushr, 1) := by decide +kernel
theorem dJ6_bitCount_0f7a4_46 : decode cJ6_bitCount_0f7a4 46 = .ok (.iadd, 1) := by decide +kernel
theorem dJ6_bitCount_0f7a4_47 : decode cJ6_bitCount_0f7a4 47 = .ok (.istore_n 0, 1) := by decide +kernel
theorem dJ6_bitCount_0f7a4_48 : decode cJ6_bitCount_0f7a4 48 = .ok (.iload_n 0, 1) := by decide +kernel
theorem dJ6_bitCount_0f7a4_49 : decode cJ6_bitCount_0f7a4 49 = .ok (.bipush 63, 2) := by decide +kernel
theorem dJ6_bitCount_0f7a4_51 : decode cJ6_bitCount_0f7a4 51 = .ok (.iand, 1) := by decide +kernel
theorem dJ6_bitCount_0f7a4_52 : decode cJ6_bitCount_0f7a4 52 = .ok (.ireturn, 1) := by decide +kernel
theorem dJ9_floorMod_7cf53_0 : decode cJ9_floorMod_7cf53 0 = .ok (.iload_n 0, 1) := by decide +kernel
theorem dJ9_floorMod_7cf53_1 : decode cJ9_floorMod_7cf53 1 = .ok (.iload_n 1, 1) := by decide +kernel
theorem dJ9_floorMod_7cf53_2 : decode cJ9_floorMod_7cf53 2 = .ok (.irem, 1) := by decide +kernel
theorem dJ9_floorMod_7cf53_3 : decode cJ9_floorMod_7cf53 3 = .ok (.istore_n 2, 1) := by decide +kernel
theorem dJ9_floorMod_7cf53_4 : decode cJ9_floorMod_7cf53 4 = .ok (.iload_n 0, 1) := by decide +kernel
theorem dJ9_floorMod_7cf53_5 : decode cJ9_floorMod_7cf53 5 = .ok (.iload_n 1, 1) := by decide +kernel
theorem dJ9_floorMod_7cf53_6 : decode cJ9_floorMod_7cf53 6 = .ok (.ixor, 1) := by decide +kernel
theorem dJ9_floorMod_7cf53_7 : decode cJ9_floorMod_7cf53 7 = .ok (.ifCond .ge 11, 3) := by decide +kernel
theorem dJ9_floorMod_7cf53_10 : decode cJ9_floorMod_7cf53 10 = .ok (.iload_n 2, 1) := by decide +kernel
theorem dJ9_floorMod_7cf53_11 : decode cJ9_floorMod_7cf53 11 = .ok (.ifCond .eq 7, 3) := by decide +kernel
theorem dJ9_floorMod_7cf53_14 : decode cJ9_floorMod_7cf53 14 = .ok (.iload_n 2, 1) := by decide +kernel
theorem dJ9_floorMod_7cf53_15 : decode cJ9_floorMod_7cf53 15 = .ok (.iload_n 1, 1) := by decide +kernel
theorem dJ9_floorMod_7cf53_16 : decode cJ9_floorMod_7cf53 16 = .ok (.iadd, 1) := by decide +kernel
theorem dJ9_floorMod_7cf53_17 : decode cJ9_floorMod_7cf53 17 = .ok (.ireturn, 1) := by decide +kernel
theorem dJ9_floorMod_7cf53_18 : decode cJ9_floorMod_7cf53 18 = .ok (.iload_n 2, 1) := by decide +kernel
theorem dJ9_floorMod_7cf53_19 : decode cJ9_floorMod_7cf53 19 = .ok (.ireturn, 1) := by decide +kernel
theorem dJ9_abs_0f7a4_0 : decode cJ9_abs_0f7a4 0 = .ok (.iload_n 0, 1) := by decide +kernel
theorem dJ9_abs_0f7a4_1 : decode cJ9_abs_0f7a4 1 = .ok (.ifCond .ge 8, 3) := by decide +kernel
theorem dJ9_abs_0f7a4_4 : decode cJ9_abs_0f7a4 4 = .ok (.iload_n 0, 1) := by decide +kernel
theorem dJ9_abs_0f7a4_5 : decode cJ9_abs_0f7a4 5 = .ok (.ineg, 1) := by decide +kernel
theorem dJ9_abs_0f7a4_6 : decode cJ9_abs_0f7a4 6 = .ok (.goto 4, 3) := by decide +kernel
theorem dJ9_abs_0f7a4_9 : decode cJ9_abs_0f7a4 9 = .ok (.iload_n 0, 1) := by decide +kernel
theorem dJ9_abs_0f7a4_10 : decode cJ9_abs_0f7a4 10 = .ok (.ireturn, 1) := by decide +kernel
theorem dJ9_max_7cf53_0 : decode cJ9_max_7cf53 0 = .ok (.iload_n 0, 1) := by decide +kernel
theorem dJ9_max_7cf53_1 : decode cJ9_max_7cf53 1 = .ok (.iload_n 1, 1) := by decide +kernel
theorem dJ9_max_7cf53_2 : decode cJ9_max_7cf53 2 = .ok (.if_icmp .lt 7, 3) := by decide +kernel
theorem dJ9_max_7cf53_5 : decode cJ9_max_7cf53 5 = .ok (.iload_n 0, 1) := by decide +kernel
theorem dJ9_max_7cf53_6 : decode cJ9_max_7cf53 6 = .ok (.goto 4, 3) := by decide +kernel
theorem dJ9_max_7cf53_9 : decode cJ9_max_7cf53 9 = .ok (.iload_n 1, 1) := by decide +kernel
theorem dJ9_max_7cf53_10 : decode cJ9_max_7cf53 10 = .ok (.ireturn, 1) := by decide +kernel
theorem dJ9_min_7cf53_0 : decode cJ9_min_7cf53 0 = .ok (.iload_n 0, 1) := by decide +kernel
theorem dJ9_min_7cf53_1 : decode cJ9_min_7cf53 1 = .ok (.iload_n 1, 1) := by decide +kernel
theorem dJ9_min_7cf53_2 : decode cJ9_min_7cf53 2 = .ok (.if_icmp .gt 7, 3) := by decide +kernel
theorem dJ9_min_7cf53_5 : decode cJ9_min_7cf53 5 = .ok (.iload_n 0, 1) := by decide +kernel
theorem dJ9_min_7cf53_6 : decode cJ9_min_7cf53 6 = .ok (.goto 4, 3) := by decide +kernel
theorem dJ9_min_7cf53_9 : decode cJ9_min_7cf53 9 = .ok (.iload_n 1, 1) := by decide +kernel
theorem dJ9_min_7cf53_10 : decode cJ9_min_7cf53 10 = .ok (.ireturn, 1) := by decide +kernel
theorem dJ7_fill_53178_0 : decode cJ7_fill_53178 0 = .ok (.iconst 0, 1) := by decide +kernel
theorem dJ7_fill_53178_1 : decode cJ7_fill_53178 1 = .ok (.istore_n 2, 1) := by decide +kernel
theorem dJ7_fill_53178_2 : decode cJ7_fill_53178 2 = .ok (.aload_n 0, 1) := by decide +kernel
theorem dJ7_fill_53178_3 : decode cJ7_fill_53178 3 = .ok (.arraylength, 1) := by decide +kernel
theorem dJ7_fill_53178_4 : decode cJ7_fill_53178 4 = .ok (.istore_n 3, 1) := by decide +kernel
theorem dJ7_fill_53178_5 : decode cJ7_fill_53178 5 = .ok (.iload_n 2, 1) := by decide +kernel
theorem dJ7_fill_53178_6 : decode cJ7_fill_53178 6 = .ok (.iload_n 3, 1) := by decide +kernel
theorem dJ7_fill_53178_7 : decode cJ7_fill_53178 7 = .ok (.if_icmp .ge 13, 3) := by decide +kernel
theorem dJ7_fill_53178_10 : decode cJ7_fill_53178 10 = .ok (.aload_n 0, 1) := by decide +kernel
theorem dJ7_fill_53178_11 : decode cJ7_fill_53178 11 = .ok (.iload_n 2, 1) := by decide +kernel
theorem dJ7_fill_53178_12 : decode cJ7_fill_53178 12 = .ok (.iload_n 1, 1) := by decide +kernel
theorem dJ7_fill_53178_13 : decode cJ7_fill_53178 13 = .ok (.iastore, 1) := by decide +kernel
theorem dJ7_fill_53178_14 : decode cJ7_fill_53178 14 = .ok (.iinc 2 1, 3) := by decide +kernel
theorem dJ7_fill_53178_17 : decode cJ7_fill_53178 17 = .ok (.goto (-12), 3) := by decide +kernel
theorem dJ7_fill_53178_20 : decode cJ7_fill_53178 20 = .ok (.return_, 1) := by decide +kernel
end
section
abbrev Fn : Type := Nat → Int32
end
