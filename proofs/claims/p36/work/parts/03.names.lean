def RX0 : String := "Rackword$Anew"
def TX0 : u_T := fun k => match k with
  | _ => ("", "", "", false)
def tyX0 : Nat → FieldType := fun k => match k with
  | _ => .int
abbrev wsX00 : List Cond := u_ws RX0 TX0 0
theorem nmX0 : ∀ a, a < 0 → ∀ b, b < 0 → a ≠ b → (TX0 a).2.1 ≠ (TX0 b).2.1 := by decide +kernel
theorem tyX0_ok : ∀ k, k < 0 → parseFieldDescriptor (TX0 k).2.2.1 = some (tyX0 k) := by decide +kernel
abbrev cX0_count : ByteArray := prog_2_method_2_code
def yX0_count : MethodName := ⟨RX0, "count", "([IIIII)I"⟩
abbrev cX0_fits : ByteArray := prog_2_method_3_code
def yX0_fits : MethodName := ⟨RX0, "fits", "([IIII)Z"⟩
abbrev cX0_hasRun : ByteArray := prog_2_method_4_code
def yX0_hasRun : MethodName := ⟨RX0, "hasRun", "([III)Z"⟩
abbrev cX0_firstColour : ByteArray := prog_2_method_5_code
def yX0_firstColour : MethodName := ⟨RX0, "firstColour", "(I)I"⟩
abbrev cX0_hasGroup : ByteArray := prog_2_method_6_code
def yX0_hasGroup : MethodName := ⟨RX0, "hasGroup", "([III)Z"⟩
abbrev cX0_take : ByteArray := prog_2_method_7_code
def yX0_take : MethodName := ⟨RX0, "take", "([IIII)V"⟩
def RX1 : String := "Rackword$Board"
def TX1 : u_T := fun k => match k with
  | 0 => ("Rackword$Board", "pool", "[I", true)
  | 1 => ("Rackword$Board", "racks", "[I", true)
  | 2 => ("Rackword$Board", "rackSizes", "[I", true)
  | 3 => ("Rackword$Board", "tiles", "[I", true)
  | 4 => ("Rackword$Board", "jokers", "[I", true)
  | 5 => ("Rackword$Board", "done", "[I", true)
  | 6 => ("Rackword$Board", "doneCount", "I", false)
  | 7 => ("Rackword$Board", "poolSize", "I", false)
  | 8 => ("Rackword$Board", "tableSize", "I", false)
  | 9 => ("Rackword$Board", "jokersLaid", "I", false)
  | 10 => ("Rackword$Board", "free", "I", false)
  | 11 => ("Rackword$Board", "seed", "I", false)
  | _ => ("Rackword$Board", "changes", "I", false)
def tyX1 : Nat → FieldType := fun k => match k with
  | 0 => .array .int
  | 1 => .array .int
  | 2 => .array .int
  | 3 => .array .int
  | 4 => .array .int
  | 5 => .array .int
  | 6 => .int
  | 7 => .int
  | 8 => .int
  | 9 => .int
  | 10 => .int
  | 11 => .int
  | _ => .int
abbrev wsX10 : List Cond := u_ws RX1 TX1 13
theorem nmX1 : ∀ a, a < 13 → ∀ b, b < 13 → a ≠ b → (TX1 a).2.1 ≠ (TX1 b).2.1 := by decide +kernel
theorem tyX1_ok : ∀ k, k < 13 → parseFieldDescriptor (TX1 k).2.2.1 = some (tyX1 k) := by decide +kernel
abbrev cX1_init : ByteArray := prog_3_method_1_code
def yX1_init : MethodName := ⟨RX1, "<init>", "()V"⟩
abbrev cX1_clear : ByteArray := prog_3_method_2_code
def yX1_clear : MethodName := ⟨RX1, "clear", "()V"⟩
abbrev cX1_dealOut : ByteArray := prog_3_method_3_code
def yX1_dealOut : MethodName := ⟨RX1, "dealOut", "(LRackword$Rules;III)V"⟩
abbrev cX1_drawUpTo : ByteArray := prog_3_method_4_code
def yX1_drawUpTo : MethodName := ⟨RX1, "drawUpTo", "(II)I"⟩
abbrev cX1_drawOne : ByteArray := prog_3_method_5_code
def yX1_drawOne : MethodName := ⟨RX1, "drawOne", "(I)Z"⟩
abbrev cX1_give : ByteArray := prog_3_method_6_code
def yX1_give : MethodName := ⟨RX1, "give", "(III)V"⟩
abbrev cX1_rackOf : ByteArray := prog_3_method_7_code
def yX1_rackOf : MethodName := ⟨RX1, "rackOf", "(II)I"⟩
abbrev cX1_sizeOf : ByteArray := prog_3_method_8_code
def yX1_sizeOf : MethodName := ⟨RX1, "sizeOf", "(I)I"⟩
abbrev cX1_worthOf : ByteArray := prog_3_method_9_code
def yX1_worthOf : MethodName := ⟨RX1, "worthOf", "(I)I"⟩
abbrev cX1_lightest : ByteArray := prog_3_method_10_code
def yX1_lightest : MethodName := ⟨RX1, "lightest", "(I)I"⟩
abbrev cX1_lies : ByteArray := prog_3_method_11_code
def yX1_lies : MethodName := ⟨RX1, "lies", "(I)I"⟩
abbrev cX1_hidden : ByteArray := prog_3_method_12_code
def yX1_hidden : MethodName := ⟨RX1, "hidden", "(II)I"⟩
abbrev cX1_allHidden : ByteArray := prog_3_method_13_code
def yX1_allHidden : MethodName := ⟨RX1, "allHidden", "(I)I"⟩
abbrev cX1_layTile : ByteArray := prog_3_method_14_code
def yX1_layTile : MethodName := ⟨RX1, "layTile", "(II)V"⟩
abbrev cX1_layJoker : ByteArray := prog_3_method_15_code
def yX1_layJoker : MethodName := ⟨RX1, "layJoker", "(II)V"⟩
abbrev cX1_swapJoker : ByteArray := prog_3_method_16_code
def yX1_swapJoker : MethodName := ⟨RX1, "swapJoker", "(II)V"⟩
abbrev cX1_change : ByteArray := prog_3_method_17_code
def yX1_change : MethodName := ⟨RX1, "change", "([III)V"⟩
abbrev cX1_note : ByteArray := prog_3_method_18_code
def yX1_note : MethodName := ⟨RX1, "note", "(II)V"⟩
abbrev cX1_doneKind : ByteArray := prog_3_method_19_code
def yX1_doneKind : MethodName := ⟨RX1, "doneKind", "(I)I"⟩
abbrev cX1_laidWorth : ByteArray := prog_3_method_20_code
def yX1_laidWorth : MethodName := ⟨RX1, "laidWorth", "()I"⟩
abbrev cX1_undo : ByteArray := prog_3_method_21_code
def yX1_undo : MethodName := ⟨RX1, "undo", "(I)I"⟩
abbrev cX1_liftJoker : ByteArray := prog_3_method_22_code
def yX1_liftJoker : MethodName := ⟨RX1, "liftJoker", "(I)V"⟩
abbrev cX1_undoAll : ByteArray := prog_3_method_23_code
def yX1_undoAll : MethodName := ⟨RX1, "undoAll", "(I)V"⟩
abbrev cX1_settle : ByteArray := prog_3_method_24_code
def yX1_settle : MethodName := ⟨RX1, "settle", "()V"⟩
abbrev cX1_isLike : ByteArray := prog_3_method_25_code
def yX1_isLike : MethodName := ⟨RX1, "isLike", "(LRackword$Board;)Z"⟩
abbrev cX1_isSame : ByteArray := prog_3_method_26_code
def yX1_isSame : MethodName := ⟨RX1, "isSame", "([I[I)Z"⟩
def RX2 : String := "Rackword$Entries"
def TX2 : u_T := fun k => match k with
  | 0 => ("Rackword$Entries", "rows", "[I", true)
  | 1 => ("Rackword$Entries", "size", "I", false)
  | 2 => ("Rackword$Entries", "isDealt", "Z", false)
  | 3 => ("Rackword$Entries", "seed", "I", false)
  | 4 => ("Rackword$Entries", "each", "I", false)
  | _ => ("Rackword$Entries", "players", "I", false)
def tyX2 : Nat → FieldType := fun k => match k with
  | 0 => .array .int
  | 1 => .int
  | 2 => .boolean
  | 3 => .int
  | 4 => .int
  | _ => .int
abbrev wsX20 : List Cond := u_ws RX2 TX2 6
theorem nmX2 : ∀ a, a < 6 → ∀ b, b < 6 → a ≠ b → (TX2 a).2.1 ≠ (TX2 b).2.1 := by decide +kernel
theorem tyX2_ok : ∀ k, k < 6 → parseFieldDescriptor (TX2 k).2.2.1 = some (tyX2 k) := by decide +kernel
abbrev cX2_init : ByteArray := prog_4_method_1_code
def yX2_init : MethodName := ⟨RX2, "<init>", "()V"⟩
abbrev cX2_clear : ByteArray := prog_4_method_2_code
def yX2_clear : MethodName := ⟨RX2, "clear", "()V"⟩
abbrev cX2_startRound : ByteArray := prog_4_method_3_code
def yX2_startRound : MethodName := ⟨RX2, "startRound", "(III)V"⟩
abbrev cX2_add : ByteArray := prog_4_method_4_code
def yX2_add : MethodName := ⟨RX2, "add", "(IIII)V"⟩
abbrev cX2_sort : ByteArray := prog_4_method_5_code
def yX2_sort : MethodName := ⟨RX2, "sort", "(I)I"⟩
abbrev cX2_who : ByteArray := prog_4_method_6_code
def yX2_who : MethodName := ⟨RX2, "who", "(I)I"⟩
abbrev cX2_kind : ByteArray := prog_4_method_7_code
def yX2_kind : MethodName := ⟨RX2, "kind", "(I)I"⟩
abbrev cX2_drawn : ByteArray := prog_4_method_8_code
def yX2_drawn : MethodName := ⟨RX2, "drawn", "(I)I"⟩
def RX3 : String := "Rackword$Layer"
def TX3 : u_T := fun k => match k with
  | 0 => ("Rackword$Layer", "code", "[I", false)
  | 1 => ("Rackword$Layer", "first", "[J", false)
  | 2 => ("Rackword$Layer", "second", "[J", false)
  | _ => ("Rackword$Layer", "size", "I", false)
def tyX3 : Nat → FieldType := fun k => match k with
  | 0 => .array .int
  | 1 => .array .long
  | 2 => .array .long
  | _ => .int
abbrev wsX30 : List Cond := u_ws RX3 TX3 4
theorem nmX3 : ∀ a, a < 4 → ∀ b, b < 4 → a ≠ b → (TX3 a).2.1 ≠ (TX3 b).2.1 := by decide +kernel
theorem tyX3_ok : ∀ k, k < 4 → parseFieldDescriptor (TX3 k).2.2.1 = some (tyX3 k) := by decide +kernel
abbrev cX3_init : ByteArray := prog_5_method_1_code
def yX3_init : MethodName := ⟨RX3, "<init>", "()V"⟩
abbrev cX3_grow : ByteArray := prog_5_method_2_code
def yX3_grow : MethodName := ⟨RX3, "grow", "()V"⟩
def RX4 : String := "Rackword$Plan"
def TX4 : u_T := fun k => match k with
  | 0 => ("Rackword$Plan", "kinds", "[I", true)
  | 1 => ("Rackword$Plan", "player", "I", false)
  | 2 => ("Rackword$Plan", "asOf", "I", false)
  | 3 => ("Rackword$Plan", "isThere", "Z", false)
  | 4 => ("Rackword$Plan", "size", "I", false)
  | _ => ("Rackword$Plan", "worth", "I", false)
def tyX4 : Nat → FieldType := fun k => match k with
  | 0 => .array .int
  | 1 => .int
  | 2 => .int
  | 3 => .boolean
  | 4 => .int
  | _ => .int
abbrev wsX40 : List Cond := u_ws RX4 TX4 6
theorem nmX4 : ∀ a, a < 6 → ∀ b, b < 6 → a ≠ b → (TX4 a).2.1 ≠ (TX4 b).2.1 := by decide +kernel
theorem tyX4_ok : ∀ k, k < 6 → parseFieldDescriptor (TX4 k).2.2.1 = some (tyX4 k) := by decide +kernel
abbrev cX4_init : ByteArray := prog_6_method_1_code
def yX4_init : MethodName := ⟨RX4, "<init>", "()V"⟩
abbrev cX4_unpack : ByteArray := prog_6_method_2_code
def yX4_unpack : MethodName := ⟨RX4, "unpack", "(JJ)V"⟩
abbrev cX4_kindAt : ByteArray := prog_6_method_3_code
def yX4_kindAt : MethodName := ⟨RX4, "kindAt", "(I)I"⟩
def RX5 : String := "Rackword$Rules"
def TX5 : u_T := fun k => match k with
  | 0 => ("Rackword$Rules", "highest", "I", false)
  | 1 => ("Rackword$Rules", "least", "I", false)
  | 2 => ("Rackword$Rules", "jokers", "I", false)
  | 3 => ("Rackword$Rules", "meld", "I", false)
  | _ => ("Rackword$Rules", "penalty", "I", false)
def tyX5 : Nat → FieldType := fun k => match k with
  | 0 => .int
  | 1 => .int
  | 2 => .int
  | 3 => .int
  | _ => .int
abbrev wsX50 : List Cond := u_ws RX5 TX5 5
theorem nmX5 : ∀ a, a < 5 → ∀ b, b < 5 → a ≠ b → (TX5 a).2.1 ≠ (TX5 b).2.1 := by decide +kernel
theorem tyX5_ok : ∀ k, k < 5 → parseFieldDescriptor (TX5 k).2.2.1 = some (tyX5 k) := by decide +kernel
abbrev cX5_init : ByteArray := prog_7_method_1_code
def yX5_init : MethodName := ⟨RX5, "<init>", "()V"⟩
abbrev cX5_isKind : ByteArray := prog_7_method_2_code
def yX5_isKind : MethodName := ⟨RX5, "isKind", "(I)Z"⟩
abbrev cX5_pieces : ByteArray := prog_7_method_3_code
def yX5_pieces : MethodName := ⟨RX5, "pieces", "()I"⟩
def RX6 : String := "Rackword$Seats"
def TX6 : u_T := fun k => match k with
  | 0 => ("Rackword$Seats", "count", "I", false)
  | 1 => ("Rackword$Seats", "team", "[I", true)
  | 2 => ("Rackword$Seats", "program", "[I", true)
  | 3 => ("Rackword$Seats", "points", "[I", true)
  | 4 => ("Rackword$Seats", "clock", "[I", true)
  | 5 => ("Rackword$Seats", "melded", "[I", true)
  | 6 => ("Rackword$Seats", "fresh", "[I", true)
  | 7 => ("Rackword$Seats", "hasPassed", "[I", true)
  | 8 => ("Rackword$Seats", "won", "[I", true)
  | 9 => ("Rackword$Seats", "ladder", "[I", true)
  | 10 => ("Rackword$Seats", "passedKinds", "[J", true)
  | _ => ("Rackword$Seats", "claims", "[I", true)
def tyX6 : Nat → FieldType := fun k => match k with
  | 0 => .int
  | 1 => .array .int
  | 2 => .array .int
  | 3 => .array .int
  | 4 => .array .int
  | 5 => .array .int
  | 6 => .array .int
  | 7 => .array .int
  | 8 => .array .int
  | 9 => .array .int
  | 10 => .array .long
  | _ => .array .int
abbrev wsX60 : List Cond := u_ws RX6 TX6 12
theorem nmX6 : ∀ a, a < 12 → ∀ b, b < 12 → a ≠ b → (TX6 a).2.1 ≠ (TX6 b).2.1 := by decide +kernel
theorem tyX6_ok : ∀ k, k < 12 → parseFieldDescriptor (TX6 k).2.2.1 = some (tyX6 k) := by decide +kernel
abbrev cX6_init : ByteArray := prog_8_method_1_code
def yX6_init : MethodName := ⟨RX6, "<init>", "()V"⟩
abbrev cX6_add : ByteArray := prog_8_method_2_code
def yX6_add : MethodName := ⟨RX6, "add", "(II)I"⟩
abbrev cX6_startRound : ByteArray := prog_8_method_3_code
def yX6_startRound : MethodName := ⟨RX6, "startRound", "(I)V"⟩
abbrev cX6_pass : ByteArray := prog_8_method_4_code
def yX6_pass : MethodName := ⟨RX6, "pass", "(IJ)V"⟩
abbrev cX6_freshen : ByteArray := prog_8_method_5_code
def yX6_freshen : MethodName := ⟨RX6, "freshen", "(II)V"⟩
abbrev cX6_passedBy : ByteArray := prog_8_method_6_code
def yX6_passedBy : MethodName := ⟨RX6, "passedBy", "(I)J"⟩
abbrev cX6_claimed : ByteArray := prog_8_method_7_code
def yX6_claimed : MethodName := ⟨RX6, "claimed", "(I)I"⟩
abbrev cX6_placeOf : ByteArray := prog_8_method_8_code
def yX6_placeOf : MethodName := ⟨RX6, "placeOf", "(I)I"⟩
abbrev cX6_climb : ByteArray := prog_8_method_9_code
def yX6_climb : MethodName := ⟨RX6, "climb", "(I)V"⟩
abbrev cX6_pointsOf : ByteArray := prog_8_method_10_code
def yX6_pointsOf : MethodName := ⟨RX6, "pointsOf", "(I)I"⟩
def RX7 : String := "Rackword$Slate"
def TX7 : u_T := fun k => match k with
  | 0 => ("Rackword$Slate", "signs", "[I", true)
  | 1 => ("Rackword$Slate", "size", "I", false)
  | 2 => ("Rackword$Slate", "sorts", "[I", true)
  | 3 => ("Rackword$Slate", "kinds", "[I", true)
  | _ => ("Rackword$Slate", "moves", "I", false)
def tyX7 : Nat → FieldType := fun k => match k with
  | 0 => .array .int
  | 1 => .int
  | 2 => .array .int
  | 3 => .array .int
  | _ => .int
abbrev wsX70 : List Cond := u_ws RX7 TX7 5
theorem nmX7 : ∀ a, a < 5 → ∀ b, b < 5 → a ≠ b → (TX7 a).2.1 ≠ (TX7 b).2.1 := by decide +kernel
theorem tyX7_ok : ∀ k, k < 5 → parseFieldDescriptor (TX7 k).2.2.1 = some (tyX7 k) := by decide +kernel
abbrev cX7_init : ByteArray := prog_9_method_1_code
def yX7_init : MethodName := ⟨RX7, "<init>", "()V"⟩
abbrev cX7_write : ByteArray := prog_9_method_2_code
def yX7_write : MethodName := ⟨RX7, "write", "(C)Z"⟩
abbrev cX7_read : ByteArray := prog_9_method_3_code
def yX7_read : MethodName := ⟨RX7, "read", "(LRackword$Rules;)Z"⟩
abbrev cX7_sortOf : ByteArray := prog_9_method_4_code
def yX7_sortOf : MethodName := ⟨RX7, "sortOf", "(I)I"⟩
abbrev cX7_isDigit : ByteArray := prog_9_method_5_code
def yX7_isDigit : MethodName := ⟨RX7, "isDigit", "(I)Z"⟩
abbrev cX7_digits : ByteArray := prog_9_method_6_code
def yX7_digits : MethodName := ⟨RX7, "digits", "(I)I"⟩
abbrev cX7_kindAt : ByteArray := prog_9_method_7_code
def yX7_kindAt : MethodName := ⟨RX7, "kindAt", "(II)I"⟩
def RX8 : String := "Rackword$Steps"
def TX8 : u_T := fun k => match k with
  | 0 => ("Rackword$Steps", "least", "I", true)
  | 1 => ("Rackword$Steps", "apart", "[I", true)
  | 2 => ("Rackword$Steps", "alike", "[I", true)
  | 3 => ("Rackword$Steps", "joined", "[I", true)
  | _ => ("Rackword$Steps", "hopeful", "[I", true)
def tyX8 : Nat → FieldType := fun k => match k with
  | 0 => .int
  | 1 => .array .int
  | 2 => .array .int
  | 3 => .array .int
  | _ => .array .int
abbrev wsX80 : List Cond := u_ws RX8 TX8 5
theorem nmX8 : ∀ a, a < 5 → ∀ b, b < 5 → a ≠ b → (TX8 a).2.1 ≠ (TX8 b).2.1 := by decide +kernel
theorem tyX8_ok : ∀ k, k < 5 → parseFieldDescriptor (TX8 k).2.2.1 = some (tyX8 k) := by decide +kernel
abbrev cX8_init : ByteArray := prog_10_method_1_code
def yX8_init : MethodName := ⟨RX8, "<init>", "(I)V"⟩
abbrev cX8_pair : ByteArray := prog_10_method_2_code
def yX8_pair : MethodName := ⟨RX8, "pair", "(II)I"⟩
abbrev cX8_fillSteps : ByteArray := prog_10_method_3_code
def yX8_fillSteps : MethodName := ⟨RX8, "fillSteps", "(IIIZ)V"⟩
abbrev cX8_longer : ByteArray := prog_10_method_4_code
def yX8_longer : MethodName := ⟨RX8, "longer", "(I)I"⟩
abbrev cX8_addStep : ByteArray := prog_10_method_5_code
def yX8_addStep : MethodName := ⟨RX8, "addStep", "(IIIII)V"⟩
abbrev cX8_fewestBegun : ByteArray := prog_10_method_6_code
def yX8_fewestBegun : MethodName := ⟨RX8, "fewestBegun", "(II)I"⟩
abbrev cX8_statesWithin : ByteArray := prog_10_method_7_code
def yX8_statesWithin : MethodName := ⟨RX8, "statesWithin", "(III)I"⟩
abbrev cX8_needing : ByteArray := prog_10_method_8_code
def yX8_needing : MethodName := ⟨RX8, "needing", "(III)I"⟩
abbrev cX8_hopefulWith : ByteArray := prog_10_method_9_code
def yX8_hopefulWith : MethodName := ⟨RX8, "hopefulWith", "(III)I"⟩
def RX9 : String := "Rackword$Sweep"
def TX9 : u_T := fun k => match k with
  | 0 => ("Rackword$Sweep", "three", "LRackword$Steps;", true)
  | 1 => ("Rackword$Sweep", "four", "LRackword$Steps;", true)
  | 2 => ("Rackword$Sweep", "low", "[I", true)
  | 3 => ("Rackword$Sweep", "high", "[I", true)
  | 4 => ("Rackword$Sweep", "slot", "[I", true)
  | 5 => ("Rackword$Sweep", "here", "LRackword$Layer;", false)
  | 6 => ("Rackword$Sweep", "there", "LRackword$Layer;", false)
  | 7 => ("Rackword$Sweep", "wayTiles", "[I", true)
  | 8 => ("Rackword$Sweep", "wayFirst", "[J", true)
  | 9 => ("Rackword$Sweep", "waySecond", "[J", true)
  | 10 => ("Rackword$Sweep", "wayAt", "[I", true)
  | 11 => ("Rackword$Sweep", "ways", "I", false)
  | 12 => ("Rackword$Sweep", "open", "[I", true)
  | 13 => ("Rackword$Sweep", "sure", "[I", true)
  | 14 => ("Rackword$Sweep", "steps", "LRackword$Steps;", false)
  | 15 => ("Rackword$Sweep", "table", "[I", false)
  | 16 => ("Rackword$Sweep", "highest", "I", false)
  | 17 => ("Rackword$Sweep", "mode", "I", false)
  | _ => ("Rackword$Sweep", "byWorth", "Z", false)
def tyX9 : Nat → FieldType := fun k => match k with
  | 0 => .object "Rackword$Steps"
  | 1 => .object "Rackword$Steps"
  | 2 => .array .int
  | 3 => .array .int
  | 4 => .array .int
  | 5 => .object "Rackword$Layer"
  | 6 => .object "Rackword$Layer"
  | 7 => .array .int
  | 8 => .array .long
  | 9 => .array .long
  | 10 => .array .int
  | 11 => .int
  | 12 => .array .int
  | 13 => .array .int
  | 14 => .object "Rackword$Steps"
  | 15 => .array .int
  | 16 => .int
  | 17 => .int
  | _ => .boolean
abbrev wsX90 : List Cond := u_ws RX9 TX9 19
theorem nmX9 : ∀ a, a < 19 → ∀ b, b < 19 → a ≠ b → (TX9 a).2.1 ≠ (TX9 b).2.1 := by decide +kernel
theorem tyX9_ok : ∀ k, k < 19 → parseFieldDescriptor (TX9 k).2.2.1 = some (tyX9 k) := by decide +kernel
abbrev cX9_init : ByteArray := prog_11_method_1_code
def yX9_init : MethodName := ⟨RX9, "<init>", "()V"⟩
abbrev cX9_clear : ByteArray := prog_11_method_2_code
def yX9_clear : MethodName := ⟨RX9, "clear", "()V"⟩
abbrev cX9_add : ByteArray := prog_11_method_3_code
def yX9_add : MethodName := ⟨RX9, "add", "(II)V"⟩
abbrev cX9_allow : ByteArray := prog_11_method_4_code
def yX9_allow : MethodName := ⟨RX9, "allow", "(II)V"⟩
abbrev cX9_go : ByteArray := prog_11_method_5_code
def yX9_go : MethodName := ⟨RX9, "go", "(LRackword$Rules;II)I"⟩
abbrev cX9_turnOver : ByteArray := prog_11_method_6_code
def yX9_turnOver : MethodName := ⟨RX9, "turnOver", "()V"⟩
abbrev cX9_kindOf : ByteArray := prog_11_method_7_code
def yX9_kindOf : MethodName := ⟨RX9, "kindOf", "(II)I"⟩
abbrev cX9_mostOf : ByteArray := prog_11_method_8_code
def yX9_mostOf : MethodName := ⟨RX9, "mostOf", "(II)I"⟩
abbrev cX9_lookAhead : ByteArray := prog_11_method_9_code
def yX9_lookAhead : MethodName := ⟨RX9, "lookAhead", "(I)V"⟩
abbrev cX9_gatherWays : ByteArray := prog_11_method_10_code
def yX9_gatherWays : MethodName := ⟨RX9, "gatherWays", "(I)V"⟩
abbrev cX9_groupAway : ByteArray := prog_11_method_11_code
def yX9_groupAway : MethodName := ⟨RX9, "groupAway", "(II)V"⟩
abbrev cX9_addWay : ByteArray := prog_11_method_12_code
def yX9_addWay : MethodName := ⟨RX9, "addWay", "(IJJ)V"⟩
abbrev cX9_firstWeight : ByteArray := prog_11_method_13_code
def yX9_firstWeight : MethodName := ⟨RX9, "firstWeight", "(I)J"⟩
abbrev cX9_secondWeight : ByteArray := prog_11_method_14_code
def yX9_secondWeight : MethodName := ⟨RX9, "secondWeight", "(I)J"⟩
abbrev cX9_tilesOf : ByteArray := prog_11_method_15_code
def yX9_tilesOf : MethodName := ⟨RX9, "tilesOf", "(JJI)I"⟩
abbrev cX9_spread : ByteArray := prog_11_method_16_code
def yX9_spread : MethodName := ⟨RX9, "spread", "(I)V"⟩
abbrev cX9_put : ByteArray := prog_11_method_17_code
def yX9_put : MethodName := ⟨RX9, "put", "(IIII)V"⟩
abbrev cX9_append : ByteArray := prog_11_method_18_code
def yX9_append : MethodName := ⟨RX9, "append", "(IJJ)V"⟩
abbrev cX9_merge : ByteArray := prog_11_method_19_code
def yX9_merge : MethodName := ⟨RX9, "merge", "(IJJ)V"⟩
abbrev cX9_withExtras : ByteArray := prog_11_method_20_code
def yX9_withExtras : MethodName := ⟨RX9, "withExtras", "(JJI)J"⟩
def RX10 : String := "Rackword"
def TX10 : u_T := fun k => match k with
  | 0 => ("Rackword", "told", "LRackword$Rules;", true)
  | 1 => ("Rackword", "board", "LRackword$Board;", true)
  | 2 => ("Rackword", "shadow", "LRackword$Board;", true)
  | 3 => ("Rackword", "seats", "LRackword$Seats;", true)
  | 4 => ("Rackword", "slate", "LRackword$Slate;", true)
  | 5 => ("Rackword", "entries", "LRackword$Entries;", true)
  | 6 => ("Rackword", "sweep", "LRackword$Sweep;", true)
  | 7 => ("Rackword", "thePlan", "LRackword$Plan;", true)
  | 8 => ("Rackword", "playing", "I", false)
  | 9 => ("Rackword", "idleTurns", "I", false)
  | 10 => ("Rackword", "roundsEnded", "I", false)
  | 11 => ("Rackword", "lastWinner", "I", false)
  | 12 => ("Rackword", "cutsAsOf", "I", false)
  | 13 => ("Rackword", "cutsCount", "I", false)
  | 14 => ("Rackword", "cutsFewest", "I", false)
  | 15 => ("Rackword", "cutsMost", "I", false)
  | 16 => ("Rackword", "extrasAsOf", "I", false)
  | _ => ("Rackword", "extras", "J", false)
def tyX10 : Nat → FieldType := fun k => match k with
  | 0 => .object "Rackword$Rules"
  | 1 => .object "Rackword$Board"
  | 2 => .object "Rackword$Board"
  | 3 => .object "Rackword$Seats"
  | 4 => .object "Rackword$Slate"
  | 5 => .object "Rackword$Entries"
  | 6 => .object "Rackword$Sweep"
  | 7 => .object "Rackword$Plan"
  | 8 => .int
  | 9 => .int
  | 10 => .int
  | 11 => .int
  | 12 => .int
  | 13 => .int
  | 14 => .int
  | 15 => .int
  | 16 => .int
  | _ => .long
abbrev wsX100 : List Cond := u_ws RX10 TX10 18
theorem nmX10 : ∀ a, a < 18 → ∀ b, b < 18 → a ≠ b → (TX10 a).2.1 ≠ (TX10 b).2.1 := by decide +kernel
theorem tyX10_ok : ∀ k, k < 18 → parseFieldDescriptor (TX10 k).2.2.1 = some (tyX10 k) := by decide +kernel
abbrev cX10_init : ByteArray := prog_1_method_1_code
def yX10_init : MethodName := ⟨RX10, "<init>", "()V"⟩
abbrev cX10_rules : ByteArray := prog_1_method_2_code
def yX10_rules : MethodName := ⟨RX10, "rules", "(IIIII)I"⟩
abbrev cX10_player : ByteArray := prog_1_method_3_code
def yX10_player : MethodName := ⟨RX10, "player", "(II)I"⟩
abbrev cX10_deal : ByteArray := prog_1_method_4_code
def yX10_deal : MethodName := ⟨RX10, "deal", "(III)I"⟩
abbrev cX10_lay : ByteArray := prog_1_method_5_code
def yX10_lay : MethodName := ⟨RX10, "lay", "(I)I"⟩
abbrev cX10_joker : ByteArray := prog_1_method_6_code
def yX10_joker : MethodName := ⟨RX10, "joker", "(I)I"⟩
abbrev cX10_swap : ByteArray := prog_1_method_7_code
def yX10_swap : MethodName := ⟨RX10, "swap", "(I)I"⟩
abbrev cX10_back : ByteArray := prog_1_method_8_code
def yX10_back : MethodName := ⟨RX10, "back", "()I"⟩
abbrev cX10_end : ByteArray := prog_1_method_9_code
def yX10_end : MethodName := ⟨RX10, "end", "()I"⟩
abbrev cX10_draw : ByteArray := prog_1_method_10_code
def yX10_draw : MethodName := ⟨RX10, "draw", "()I"⟩
abbrev cX10_tick : ByteArray := prog_1_method_11_code
def yX10_tick : MethodName := ⟨RX10, "tick", "(I)I"⟩
abbrev cX10_auto : ByteArray := prog_1_method_12_code
def yX10_auto : MethodName := ⟨RX10, "auto", "()I"⟩
abbrev cX10_type : ByteArray := prog_1_method_13_code
def yX10_type : MethodName := ⟨RX10, "type", "(C)I"⟩
abbrev cX10_wipe : ByteArray := prog_1_method_14_code
def yX10_wipe : MethodName := ⟨RX10, "wipe", "()I"⟩
abbrev cX10_play : ByteArray := prog_1_method_15_code
def yX10_play : MethodName := ⟨RX10, "play", "()I"⟩
abbrev cX10_isWhole : ByteArray := prog_1_method_16_code
def yX10_isWhole : MethodName := ⟨RX10, "isWhole", "()Z"⟩
abbrev cX10_cuts : ByteArray := prog_1_method_17_code
def yX10_cuts : MethodName := ⟨RX10, "cuts", "(I)I"⟩
abbrev cX10_cutsAnew : ByteArray := prog_1_method_18_code
def yX10_cutsAnew : MethodName := ⟨RX10, "cutsAnew", "()I"⟩
abbrev cX10_states : ByteArray := prog_1_method_19_code
def yX10_states : MethodName := ⟨RX10, "states", "(I)I"⟩
abbrev cX10_best : ByteArray := prog_1_method_20_code
def yX10_best : MethodName := ⟨RX10, "best", "(II)I"⟩
abbrev cX10_plan : ByteArray := prog_1_method_21_code
def yX10_plan : MethodName := ⟨RX10, "plan", "(II)I"⟩
abbrev cX10_alone : ByteArray := prog_1_method_22_code
def yX10_alone : MethodName := ⟨RX10, "alone", "(I)Z"⟩
abbrev cX10_chance : ByteArray := prog_1_method_23_code
def yX10_chance : MethodName := ⟨RX10, "chance", "(III)I"⟩
abbrev cX10_passed : ByteArray := prog_1_method_24_code
def yX10_passed : MethodName := ⟨RX10, "passed", "(II)Z"⟩
abbrev cX10_claim : ByteArray := prog_1_method_25_code
def yX10_claim : MethodName := ⟨RX10, "claim", "(III)I"⟩
abbrev cX10_copies : ByteArray := prog_1_method_26_code
def yX10_copies : MethodName := ⟨RX10, "copies", "()J"⟩
abbrev cX10_rackIs : ByteArray := prog_1_method_27_code
def yX10_rackIs : MethodName := ⟨RX10, "rackIs", "(II)I"⟩
abbrev cX10_tableIs : ByteArray := prog_1_method_28_code
def yX10_tableIs : MethodName := ⟨RX10, "tableIs", "(IZ)I"⟩
abbrev cX10_poolIs : ByteArray := prog_1_method_29_code
def yX10_poolIs : MethodName := ⟨RX10, "poolIs", "(I)I"⟩
abbrev cX10_playerIs : ByteArray := prog_1_method_30_code
def yX10_playerIs : MethodName := ⟨RX10, "playerIs", "(II)I"⟩
abbrev cX10_team : ByteArray := prog_1_method_31_code
def yX10_team : MethodName := ⟨RX10, "team", "(I)I"⟩
abbrev cX10_entry : ByteArray := prog_1_method_32_code
def yX10_entry : MethodName := ⟨RX10, "entry", "(II)I"⟩
abbrev cX10_isReplayed : ByteArray := prog_1_method_33_code
def yX10_isReplayed : MethodName := ⟨RX10, "isReplayed", "()Z"⟩
abbrev cX10_sum : ByteArray := prog_1_method_34_code
def yX10_sum : MethodName := ⟨RX10, "sum", "(I)I"⟩
abbrev cX10_needRound : ByteArray := prog_1_method_35_code
def yX10_needRound : MethodName := ⟨RX10, "needRound", "()V"⟩
abbrev cX10_needPlayer : ByteArray := prog_1_method_36_code
def yX10_needPlayer : MethodName := ⟨RX10, "needPlayer", "(I)V"⟩
abbrev cX10_needKind : ByteArray := prog_1_method_37_code
def yX10_needKind : MethodName := ⟨RX10, "needKind", "(I)V"⟩
abbrev cX10_needPiece : ByteArray := prog_1_method_38_code
def yX10_needPiece : MethodName := ⟨RX10, "needPiece", "(I)V"⟩
abbrev cX10_isOn : ByteArray := prog_1_method_39_code
def yX10_isOn : MethodName := ⟨RX10, "isOn", "()Z"⟩
abbrev cX10_hasMelded : ByteArray := prog_1_method_40_code
def yX10_hasMelded : MethodName := ⟨RX10, "hasMelded", "(I)Z"⟩
abbrev cX10_mayLay : ByteArray := prog_1_method_41_code
def yX10_mayLay : MethodName := ⟨RX10, "mayLay", "(I)Z"⟩
abbrev cX10_mayLayJoker : ByteArray := prog_1_method_42_code
def yX10_mayLayJoker : MethodName := ⟨RX10, "mayLayJoker", "(I)Z"⟩
abbrev cX10_maySwap : ByteArray := prog_1_method_43_code
def yX10_maySwap : MethodName := ⟨RX10, "maySwap", "(I)Z"⟩
abbrev cX10_mayTakeBack : ByteArray := prog_1_method_44_code
def yX10_mayTakeBack : MethodName := ⟨RX10, "mayTakeBack", "()Z"⟩
abbrev cX10_mayEnd : ByteArray := prog_1_method_45_code
def yX10_mayEnd : MethodName := ⟨RX10, "mayEnd", "()Z"⟩
abbrev cX10_layTile : ByteArray := prog_1_method_46_code
def yX10_layTile : MethodName := ⟨RX10, "layTile", "(I)V"⟩
abbrev cX10_layJoker : ByteArray := prog_1_method_47_code
def yX10_layJoker : MethodName := ⟨RX10, "layJoker", "(I)V"⟩
abbrev cX10_swapJoker : ByteArray := prog_1_method_48_code
def yX10_swapJoker : MethodName := ⟨RX10, "swapJoker", "(I)V"⟩
abbrev cX10_takeBack : ByteArray := prog_1_method_49_code
def yX10_takeBack : MethodName := ⟨RX10, "takeBack", "()V"⟩
abbrev cX10_move : ByteArray := prog_1_method_50_code
def yX10_move : MethodName := ⟨RX10, "move", "(II)Z"⟩
abbrev cX10_endByLaying : ByteArray := prog_1_method_51_code
def yX10_endByLaying : MethodName := ⟨RX10, "endByLaying", "()V"⟩
abbrev cX10_endByDrawing : ByteArray := prog_1_method_52_code
def yX10_endByDrawing : MethodName := ⟨RX10, "endByDrawing", "(I)I"⟩
abbrev cX10_passOn : ByteArray := prog_1_method_53_code
def yX10_passOn : MethodName := ⟨RX10, "passOn", "()V"⟩
abbrev cX10_endRound : ByteArray := prog_1_method_54_code
def yX10_endRound : MethodName := ⟨RX10, "endRound", "(I)V"⟩
abbrev cX10_replay : ByteArray := prog_1_method_55_code
def yX10_replay : MethodName := ⟨RX10, "replay", "(III)V"⟩
abbrev cX10_autoBlocking : ByteArray := prog_1_method_56_code
def yX10_autoBlocking : MethodName := ⟨RX10, "autoBlocking", "()I"⟩
abbrev cX10_autoByPlan : ByteArray := prog_1_method_57_code
def yX10_autoByPlan : MethodName := ⟨RX10, "autoByPlan", "(I)I"⟩
abbrev cX10_isPlanGood : ByteArray := prog_1_method_58_code
def yX10_isPlanGood : MethodName := ⟨RX10, "isPlanGood", "(I)Z"⟩
abbrev cX10_takeTable : ByteArray := prog_1_method_59_code
def yX10_takeTable : MethodName := ⟨RX10, "takeTable", "()V"⟩
abbrev cX10_takeLaid : ByteArray := prog_1_method_60_code
def yX10_takeLaid : MethodName := ⟨RX10, "takeLaid", "()V"⟩
abbrev cX10_findCuts : ByteArray := prog_1_method_61_code
def yX10_findCuts : MethodName := ⟨RX10, "findCuts", "()V"⟩
abbrev cX10_findAlone : ByteArray := prog_1_method_62_code
def yX10_findAlone : MethodName := ⟨RX10, "findAlone", "()J"⟩
abbrev cX10_findPlan : ByteArray := prog_1_method_63_code
def yX10_findPlan : MethodName := ⟨RX10, "findPlan", "(I)V"⟩
abbrev cX10_within : ByteArray := prog_1_method_64_code
def yX10_within : MethodName := ⟨RX10, "within", "(III)Z"⟩
abbrev cX10_at : ByteArray := prog_1_method_65_code
def yX10_at : MethodName := ⟨RX10, "at", "([II)I"⟩
abbrev cX10_set : ByteArray := prog_1_method_66_code
def yX10_set : MethodName := ⟨RX10, "set", "([III)V"⟩
abbrev cX10_isIn : ByteArray := prog_1_method_67_code
def yX10_isIn : MethodName := ⟨RX10, "isIn", "(JI)Z"⟩
abbrev cX10_thousandths : ByteArray := prog_1_method_68_code
def yX10_thousandths : MethodName := ⟨RX10, "thousandths", "(III)I"⟩
def RX11 : String := "RackwordModel"
def TX11 : u_T := fun k => match k with
  | _ => ("", "", "", false)
def tyX11 : Nat → FieldType := fun k => match k with
  | _ => .int
abbrev wsX110 : List Cond := u_ws RX11 TX11 0
theorem nmX11 : ∀ a, a < 0 → ∀ b, b < 0 → a ≠ b → (TX11 a).2.1 ≠ (TX11 b).2.1 := by decide +kernel
theorem tyX11_ok : ∀ k, k < 0 → parseFieldDescriptor (TX11 k).2.2.1 = some (tyX11 k) := by decide +kernel
def RJx145de : String := "java/io/Serializable"
def TJx145de : u_T := fun k => match k with
  | _ => ("", "", "", false)
def tyJx145de : Nat → FieldType := fun k => match k with
  | _ => .int
abbrev wsJx145de0 : List Cond := u_ws RJx145de TJx145de 0
theorem nmJx145de : ∀ a, a < 0 → ∀ b, b < 0 → a ≠ b → (TJx145de a).2.1 ≠ (TJx145de b).2.1 := by decide +kernel
theorem tyJx145de_ok : ∀ k, k < 0 → parseFieldDescriptor (TJx145de k).2.2.1 = some (tyJx145de k) := by decide +kernel
def RJx8e188 : String := "java/lang/Cloneable"
def TJx8e188 : u_T := fun k => match k with
  | _ => ("", "", "", false)
def tyJx8e188 : Nat → FieldType := fun k => match k with
  | _ => .int
abbrev wsJx8e1880 : List Cond := u_ws RJx8e188 TJx8e188 0
theorem nmJx8e188 : ∀ a, a < 0 → ∀ b, b < 0 → a ≠ b → (TJx8e188 a).2.1 ≠ (TJx8e188 b).2.1 := by decide +kernel
theorem tyJx8e188_ok : ∀ k, k < 0 → parseFieldDescriptor (TJx8e188 k).2.2.1 = some (tyJx8e188 k) := by decide +kernel
def RJ9 : String := "java/lang/Math"
def TJ9 : u_T := fun k => match k with
  | _ => ("", "", "", false)
def tyJ9 : Nat → FieldType := fun k => match k with
  | _ => .int
abbrev wsJ90 : List Cond := u_ws RJ9 TJ9 0
theorem nmJ9 : ∀ a, a < 0 → ∀ b, b < 0 → a ≠ b → (TJ9 a).2.1 ≠ (TJ9 b).2.1 := by decide +kernel
theorem tyJ9_ok : ∀ k, k < 0 → parseFieldDescriptor (TJ9 k).2.2.1 = some (tyJ9 k) := by decide +kernel
abbrev cJ9_max_7cf53 : ByteArray := prog_19_method_65_code
def yJ9_max_7cf53 : MethodName := ⟨RJ9, "max", "(II)I"⟩
abbrev cJ9_min_7cf53 : ByteArray := prog_19_method_69_code
def yJ9_min_7cf53 : MethodName := ⟨RJ9, "min", "(II)I"⟩
def RJ10 : String := "java/lang/System"
def TJ10 : u_T := fun k => match k with
  | _ => ("", "", "", false)
def tyJ10 : Nat → FieldType := fun k => match k with
  | _ => .int
abbrev wsJ100 : List Cond := u_ws RJ10 TJ10 0
theorem nmJ10 : ∀ a, a < 0 → ∀ b, b < 0 → a ≠ b → (TJ10 a).2.1 ≠ (TJ10 b).2.1 := by decide +kernel
theorem tyJ10_ok : ∀ k, k < 0 → parseFieldDescriptor (TJ10 k).2.2.1 = some (tyJ10 k) := by decide +kernel
def RJ7 : String := "java/util/Arrays"
def TJ7 : u_T := fun k => match k with
  | _ => ("", "", "", false)
def tyJ7 : Nat → FieldType := fun k => match k with
  | _ => .int
abbrev wsJ70 : List Cond := u_ws RJ7 TJ7 0
theorem nmJ7 : ∀ a, a < 0 → ∀ b, b < 0 → a ≠ b → (TJ7 a).2.1 ≠ (TJ7 b).2.1 := by decide +kernel
theorem tyJ7_ok : ∀ k, k < 0 → parseFieldDescriptor (TJ7 k).2.2.1 = some (tyJ7 k) := by decide +kernel
abbrev cJ7_fill_d0a16 : ByteArray := prog_23_method_101_code
def yJ7_fill_d0a16 : MethodName := ⟨RJ7, "fill", "([JJ)V"⟩
abbrev cJ7_fill_53178 : ByteArray := prog_23_method_103_code
def yJ7_fill_53178 : MethodName := ⟨RJ7, "fill", "([II)V"⟩
abbrev cJ7_copyOf_59c91 : ByteArray := prog_23_method_123_code
def yJ7_copyOf_59c91 : MethodName := ⟨RJ7, "copyOf", "([II)[I"⟩
abbrev cJ7_copyOf_c38d5 : ByteArray := prog_23_method_124_code
def yJ7_copyOf_c38d5 : MethodName := ⟨RJ7, "copyOf", "([JI)[J"⟩
def RL : String := "RackwordLaw"
abbrev cL_cell : ByteArray := method_2_code
def yL_cell : MethodName := ⟨RL, "cell", "([II)I"⟩
abbrev cL_low : ByteArray := method_3_code
def yL_low : MethodName := ⟨RL, "low", "(II)I"⟩
abbrev cL_does : ByteArray := method_4_code
def yL_does : MethodName := ⟨RL, "does", "(LRackword;IIIIII)J"⟩
abbrev cL_ask : ByteArray := method_5_code
def yL_ask : MethodName := ⟨RL, "ask", "(LRackword;III)J"⟩
abbrev cL_tell : ByteArray := method_6_code
def yL_tell : MethodName := ⟨RL, "tell", "(LRackword;)[J"⟩
abbrev cL_same : ByteArray := method_7_code
def yL_same : MethodName := ⟨RL, "same", "([J[J)Z"⟩
abbrev cL_balances : ByteArray := method_8_code
def yL_balances : MethodName := ⟨RL, "balances", "(LRackword;I)Z"⟩
abbrev cL_plans : ByteArray := method_9_code
def yL_plans : MethodName := ⟨RL, "plans", "(LRackword;I)Z"⟩
abbrev cL_looks : ByteArray := method_10_code
def yL_looks : MethodName := ⟨RL, "looks", "(LRackword;II)Z"⟩
abbrev cL_acts : ByteArray := method_11_code
def yL_acts : MethodName := ⟨RL, "acts", "(LRackword;IIII)J"⟩
abbrev cL_law : ByteArray := code
def yL_law : MethodName := ⟨RL, "law", "([I)Z"⟩
set_option maxRecDepth 20000 in
set_option maxRecDepth 20000 in
set_option maxRecDepth 20000 in
set_option maxRecDepth 20000 in
set_option maxRecDepth 20000 in
set_option maxRecDepth 20000 in
set_option maxRecDepth 20000 in
set_option maxRecDepth 20000 in
set_option maxRecDepth 20000 in
set_option maxRecDepth 20000 in
set_option maxRecDepth 20000 in
set_option maxRecDepth 20000 in
set_option maxRecDepth 20000 in
set_option maxRecDepth 20000 in
set_option maxRecDepth 20000 in
set_option maxRecDepth 20000 in
set_option maxRecDepth 20000 in
set_option maxRecDepth 20000 in
set_option maxRecDepth 20000 in
set_option maxRecDepth 20000 in
set_option maxRecDepth 20000 in
set_option maxRecDepth 20000 in
set_option maxRecDepth 20000 in
set_option maxRecDepth 20000 in
set_option maxRecDepth 20000 in
set_option maxRecDepth 20000 in
set_option maxRecDepth 20000 in
set_option maxRecDepth 20000 in
set_option maxRecDepth 20000 in
set_option maxRecDepth 20000 in
set_option maxRecDepth 20000 in
set_option maxRecDepth 20000 in
set_option maxRecDepth 20000 in
set_option maxRecDepth 20000 in
set_option maxRecDepth 20000 in
set_option maxRecDepth 20000 in
set_option maxRecDepth 20000 in
set_option maxRecDepth 20000 in
set_option maxRecDepth 20000 in
set_option maxRecDepth 20000 in
set_option maxRecDepth 20000 in
set_option maxRecDepth 20000 in
set_option maxRecDepth 20000 in
set_option maxRecDepth 20000 in
set_option maxRecDepth 20000 in
set_option maxRecDepth 20000 in
set_option maxRecDepth 20000 in
set_option maxRecDepth 20000 in
set_option maxRecDepth 20000 in
set_option maxRecDepth 20000 in
set_option maxRecDepth 20000 in
set_option maxRecDepth 20000 in
set_option maxRecDepth 20000 in
set_option maxRecDepth 20000 in
set_option maxRecDepth 20000 in
set_option maxRecDepth 20000 in
set_option maxRecDepth 20000 in
set_option maxRecDepth 20000 in
set_option maxRecDepth 20000 in
set_option maxRecDepth 20000 in
set_option maxRecDepth 20000 in
set_option maxRecDepth 20000 in
set_option maxRecDepth 20000 in
set_option maxRecDepth 20000 in
set_option maxRecDepth 20000 in
set_option maxRecDepth 20000 in
set_option maxRecDepth 20000 in
set_option maxRecDepth 20000 in
set_option maxRecDepth 20000 in
set_option maxRecDepth 20000 in
set_option maxRecDepth 20000 in
set_option maxRecDepth 20000 in
set_option maxRecDepth 20000 in
set_option maxRecDepth 20000 in
set_option maxRecDepth 20000 in
set_option maxRecDepth 20000 in
set_option maxRecDepth 20000 in
set_option maxRecDepth 20000 in
set_option maxRecDepth 20000 in
set_option maxRecDepth 20000 in
set_option maxRecDepth 20000 in
set_option maxRecDepth 20000 in
set_option maxRecDepth 20000 in
set_option maxRecDepth 20000 in
set_option maxRecDepth 20000 in
set_option maxRecDepth 20000 in
set_option maxRecDepth 20000 in
set_option maxRecDepth 20000 in
set_option maxRecDepth 20000 in
set_option maxRecDepth 20000 in
set_option maxRecDepth 20000 in
set_option maxRecDepth 20000 in
set_option maxRecDepth 20000 in
set_option maxRecDepth 20000 in
set_option maxRecDepth 20000 in
set_option maxRecDepth 20000 in
set_option maxRecDepth 20000 in
set_option maxRecDepth 20000 in
set_option maxRecDepth 20000 in
set_option maxRecDepth 20000 in
set_option maxRecDepth 20000 in
set_option maxRecDepth 20000 in
set_option maxRecDepth 20000 in
set_option maxRecDepth 20000 in
set_option maxRecDepth 20000 in
set_option maxRecDepth 20000 in
set_option maxRecDepth 20000 in
set_option maxRecDepth 20000 in
set_option maxRecDepth 20000 in
set_option maxRecDepth 20000 in
set_option maxRecDepth 20000 in
set_option maxRecDepth 20000 in
set_option maxRecDepth 20000 in
set_option maxRecDepth 20000 in
set_option maxRecDepth 20000 in
set_option maxRecDepth 20000 in
set_option maxRecDepth 20000 in
set_option maxRecDepth 20000 in
set_option maxRecDepth 20000 in
set_option maxRecDepth 20000 in
set_option maxRecDepth 20000 in
set_option maxRecDepth 20000 in
set_option maxRecDepth 20000 in
set_option maxRecDepth 20000 in
set_option maxRecDepth 20000 in
set_option maxRecDepth 20000 in
set_option maxRecDepth 20000 in
set_option maxRecDepth 20000 in
set_option maxRecDepth 20000 in
set_option maxRecDepth 20000 in
set_option maxRecDepth 20000 in
set_option maxRecDepth 20000 in
set_option maxRecDepth 20000 in
set_option maxRecDepth 20000 in
set_option maxRecDepth 20000 in
set_option maxRecDepth 20000 in
set_option maxRecDepth 20000 in
set_option maxRecDepth 20000 in
set_option maxRecDepth 20000 in
set_option maxRecDepth 20000 in
set_option maxRecDepth 20000 in
set_option maxRecDepth 20000 in
set_option maxRecDepth 20000 in
set_option maxRecDepth 20000 in
set_option maxRecDepth 20000 in
set_option maxRecDepth 20000 in
set_option maxRecDepth 20000 in
set_option maxRecDepth 20000 in
set_option maxRecDepth 20000 in
set_option maxRecDepth 20000 in
set_option maxRecDepth 20000 in
set_option maxRecDepth 20000 in
set_option maxRecDepth 20000 in
set_option maxRecDepth 20000 in
set_option maxRecDepth 20000 in
set_option maxRecDepth 20000 in
set_option maxRecDepth 20000 in
set_option maxRecDepth 20000 in
set_option maxRecDepth 20000 in
set_option maxRecDepth 20000 in
set_option maxRecDepth 20000 in
set_option maxRecDepth 20000 in
set_option maxRecDepth 20000 in
set_option maxRecDepth 20000 in
set_option maxRecDepth 20000 in
set_option maxRecDepth 20000 in
set_option maxRecDepth 20000 in
set_option maxRecDepth 20000 in
set_option maxRecDepth 20000 in
set_option maxRecDepth 20000 in
set_option maxRecDepth 20000 in
set_option maxRecDepth 20000 in
set_option maxRecDepth 20000 in
set_option maxRecDepth 20000 in
set_option maxRecDepth 20000 in
set_option maxRecDepth 20000 in
set_option maxRecDepth 20000 in
set_option maxRecDepth 20000 in
set_option maxRecDepth 20000 in
set_option maxRecDepth 20000 in
set_option maxRecDepth 20000 in
set_option maxRecDepth 20000 in
set_option maxRecDepth 20000 in
set_option maxRecDepth 20000 in
set_option maxRecDepth 20000 in
set_option maxRecDepth 20000 in
set_option maxRecDepth 20000 in
set_option maxRecDepth 20000 in
set_option maxRecDepth 20000 in
set_option maxRecDepth 20000 in
set_option maxRecDepth 20000 in
set_option maxRecDepth 20000 in
set_option maxRecDepth 20000 in
set_option maxRecDepth 20000 in
set_option maxRecDepth 20000 in
set_option maxRecDepth 20000 in
set_option maxRecDepth 20000 in
set_option maxRecDepth 20000 in
set_option maxRecDepth 20000 in
set_option maxRecDepth 20000 in
set_option maxRecDepth 20000 in
set_option maxRecDepth 20000 in
set_option maxRecDepth 20000 in
set_option maxRecDepth 20000 in
set_option maxRecDepth 20000 in
set_option maxRecDepth 20000 in
set_option maxRecDepth 20000 in
set_option maxRecDepth 20000 in
set_option maxRecDepth 20000 in
set_option maxRecDepth 20000 in
set_option maxRecDepth 20000 in
set_option maxRecDepth 20000 in
set_option maxRecDepth 20000 in
set_option maxRecDepth 20000 in
set_option maxRecDepth 20000 in
set_option maxRecDepth 20000 in
set_option maxRecDepth 20000 in
set_option maxRecDepth 20000 in
set_option maxRecDepth 20000 in
set_option maxRecDepth 20000 in
set_option maxRecDepth 20000 in
set_option maxRecDepth 20000 in
set_option maxRecDepth 20000 in
set_option maxRecDepth 20000 in
set_option maxRecDepth 20000 in
set_option maxRecDepth 20000 in
set_option maxRecDepth 20000 in
set_option maxRecDepth 20000 in
set_option maxRecDepth 20000 in
set_option maxRecDepth 20000 in
set_option maxRecDepth 20000 in
set_option maxRecDepth 20000 in
set_option maxRecDepth 20000 in
set_option maxRecDepth 20000 in
set_option maxRecDepth 20000 in
set_option maxRecDepth 20000 in
set_option maxRecDepth 20000 in
set_option maxRecDepth 20000 in
set_option maxRecDepth 20000 in
set_option maxRecDepth 20000 in
set_option maxRecDepth 20000 in
set_option maxRecDepth 20000 in
set_option maxRecDepth 20000 in
set_option maxRecDepth 20000 in
set_option maxRecDepth 20000 in
set_option maxRecDepth 20000 in
set_option maxRecDepth 20000 in
set_option maxRecDepth 20000 in
set_option maxRecDepth 20000 in
set_option maxRecDepth 20000 in
set_option maxRecDepth 20000 in
set_option maxRecDepth 20000 in
set_option maxRecDepth 20000 in
set_option maxRecDepth 20000 in
set_option maxRecDepth 20000 in
set_option maxRecDepth 20000 in
set_option maxRecDepth 20000 in
set_option maxRecDepth 20000 in
set_option maxRecDepth 20000 in
set_option maxRecDepth 20000 in
set_option maxRecDepth 20000 in
set_option maxRecDepth 20000 in
set_option maxRecDepth 20000 in
set_option maxRecDepth 20000 in
set_option maxRecDepth 20000 in
set_option maxRecDepth 20000 in
set_option maxRecDepth 20000 in
set_option maxRecDepth 20000 in
set_option maxRecDepth 20000 in
set_option maxRecDepth 20000 in
set_option maxRecDepth 20000 in
set_option maxRecDepth 20000 in
set_option maxRecDepth 20000 in
set_option maxRecDepth 20000 in
set_option maxRecDepth 20000 in
set_option maxRecDepth 20000 in
set_option maxRecDepth 20000 in
set_option maxRecDepth 20000 in
set_option maxRecDepth 20000 in
set_option maxRecDepth 20000 in
set_option maxRecDepth 20000 in
set_option maxRecDepth 20000 in
set_option maxRecDepth 20000 in
set_option maxRecDepth 20000 in
set_option maxRecDepth 20000 in
set_option maxRecDepth 20000 in
set_option maxRecDepth 20000 in
set_option maxRecDepth 20000 in
set_option maxRecDepth 20000 in
set_option maxRecDepth 20000 in
set_option maxRecDepth 20000 in
set_option maxRecDepth 20000 in
set_option maxRecDepth 20000 in
set_option maxRecDepth 20000 in
set_option maxRecDepth 20000 in
set_option maxRecDepth 20000 in
set_option maxRecDepth 20000 in
set_option maxRecDepth 20000 in
set_option maxRecDepth 20000 in
set_option maxRecDepth 20000 in
set_option maxRecDepth 20000 in
set_option maxRecDepth 20000 in
set_option maxRecDepth 20000 in
set_option maxRecDepth 20000 in
set_option maxRecDepth 20000 in
set_option maxRecDepth 20000 in
set_option maxRecDepth 20000 in
set_option maxRecDepth 20000 in
set_option maxRecDepth 20000 in
set_option maxRecDepth 20000 in
set_option maxRecDepth 20000 in
set_option maxRecDepth 20000 in
set_option maxRecDepth 20000 in
set_option maxRecDepth 20000 in
set_option maxRecDepth 20000 in
set_option maxRecDepth 20000 in
set_option maxRecDepth 20000 in
set_option maxRecDepth 20000 in
set_option maxRecDepth 20000 in
set_option maxRecDepth 20000 in
set_option maxRecDepth 20000 in
set_option maxRecDepth 20000 in
set_option maxRecDepth 20000 in
set_option maxRecDepth 20000 in
set_option maxRecDepth 20000 in
set_option maxRecDepth 20000 in
set_option maxRecDepth 20000 in
set_option maxRecDepth 20000 in
set_option maxRecDepth 20000 in
set_option maxRecDepth 20000 in
set_option maxRecDepth 20000 in
set_option maxRecDepth 20000 in
set_option maxRecDepth 20000 in
set_option maxRecDepth 20000 in
set_option maxRecDepth 20000 in
set_option maxRecDepth 20000 in
set_option maxRecDepth 20000 in
set_option maxRecDepth 20000 in
set_option maxRecDepth 20000 in
set_option maxRecDepth 20000 in
set_option maxRecDepth 20000 in
set_option maxRecDepth 20000 in
set_option maxRecDepth 20000 in
set_option maxRecDepth 20000 in
set_option maxRecDepth 20000 in
set_option maxRecDepth 20000 in
set_option maxRecDepth 20000 in
set_option maxRecDepth 20000 in
set_option maxRecDepth 20000 in
set_option maxRecDepth 20000 in
set_option maxRecDepth 20000 in
set_option maxRecDepth 20000 in
set_option maxRecDepth 20000 in
set_option maxRecDepth 20000 in
set_option maxRecDepth 20000 in
set_option maxRecDepth 20000 in
set_option maxRecDepth 20000 in
set_option maxRecDepth 20000 in
set_option maxRecDepth 20000 in
set_option maxRecDepth 20000 in
set_option maxRecDepth 20000 in
set_option maxRecDepth 20000 in
set_option maxRecDepth 20000 in
set_option maxRecDepth 20000 in
set_option maxRecDepth 20000 in
set_option maxRecDepth 20000 in
set_option maxRecDepth 20000 in
set_option maxRecDepth 20000 in
set_option maxRecDepth 20000 in
set_option maxRecDepth 20000 in
set_option maxRecDepth 20000 in
set_option maxRecDepth 20000 in
set_option maxRecDepth 20000 in
set_option maxRecDepth 20000 in
set_option maxRecDepth 20000 in
set_option maxRecDepth 20000 in
set_option maxRecDepth 20000 in
set_option maxRecDepth 20000 in
set_option maxRecDepth 20000 in
set_option maxRecDepth 20000 in
set_option maxRecDepth 20000 in
set_option maxRecDepth 20000 in
set_option maxRecDepth 20000 in
set_option maxRecDepth 20000 in
set_option maxRecDepth 20000 in
set_option maxRecDepth 20000 in
set_option maxRecDepth 20000 in
set_option maxRecDepth 20000 in
set_option maxRecDepth 20000 in
set_option maxRecDepth 20000 in
set_option maxRecDepth 20000 in
set_option maxRecDepth 20000 in
set_option maxRecDepth 20000 in
set_option maxRecDepth 20000 in
set_option maxRecDepth 20000 in
set_option maxRecDepth 20000 in
set_option maxRecDepth 20000 in
set_option maxRecDepth 20000 in
set_option maxRecDepth 20000 in
set_option maxRecDepth 20000 in
set_option maxRecDepth 20000 in
set_option maxRecDepth 20000 in
set_option maxRecDepth 20000 in
set_option maxRecDepth 20000 in
set_option maxRecDepth 20000 in
set_option maxRecDepth 20000 in
set_option maxRecDepth 20000 in
set_option maxRecDepth 20000 in
set_option maxRecDepth 20000 in
set_option maxRecDepth 20000 in
set_option maxRecDepth 20000 in
set_option maxRecDepth 20000 in
set_option maxRecDepth 20000 in
set_option maxRecDepth 20000 in
set_option maxRecDepth 20000 in
set_option maxRecDepth 20000 in
set_option maxRecDepth 20000 in
set_option maxRecDepth 20000 in
set_option maxRecDepth 20000 in
set_option maxRecDepth 20000 in
set_option maxRecDepth 20000 in
set_option maxRecDepth 20000 in
set_option maxRecDepth 20000 in
set_option maxRecDepth 20000 in
set_option maxRecDepth 20000 in
set_option maxRecDepth 20000 in
set_option maxRecDepth 20000 in
set_option maxRecDepth 20000 in
set_option maxRecDepth 20000 in
set_option maxRecDepth 20000 in
set_option maxRecDepth 20000 in
set_option maxRecDepth 20000 in
set_option maxRecDepth 20000 in
set_option maxRecDepth 20000 in
set_option maxRecDepth 20000 in
set_option maxRecDepth 20000 in
set_option maxRecDepth 20000 in
set_option maxRecDepth 20000 in
set_option maxRecDepth 20000 in
set_option maxRecDepth 20000 in
set_option maxRecDepth 20000 in
set_option maxRecDepth 20000 in
set_option maxRecDepth 20000 in
set_option maxRecDepth 20000 in
set_option maxRecDepth 20000 in
set_option maxRecDepth 20000 in
set_option maxRecDepth 20000 in
set_option maxRecDepth 20000 in
set_option maxRecDepth 20000 in
set_option maxRecDepth 20000 in
set_option maxRecDepth 20000 in
set_option maxRecDepth 20000 in
set_option maxRecDepth 20000 in
set_option maxRecDepth 20000 in
set_option maxRecDepth 20000 in
set_option maxRecDepth 20000 in
set_option maxRecDepth 20000 in
set_option maxRecDepth 20000 in
set_option maxRecDepth 20000 in
set_option maxRecDepth 20000 in
set_option maxRecDepth 20000 in
set_option maxRecDepth 20000 in
set_option maxRecDepth 20000 in
set_option maxRecDepth 20000 in
set_option maxRecDepth 20000 in
set_option maxRecDepth 20000 in
set_option maxRecDepth 20000 in
set_option maxRecDepth 20000 in
set_option maxRecDepth 20000 in
set_option maxRecDepth 20000 in
set_option maxRecDepth 20000 in
set_option maxRecDepth 20000 in
set_option maxRecDepth 20000 in
set_option maxRecDepth 20000 in
set_option maxRecDepth 20000 in
set_option maxRecDepth 20000 in
set_option maxRecDepth 20000 in
set_option maxRecDepth 20000 in
set_option maxRecDepth 20000 in
set_option maxRecDepth 20000 in
set_option maxRecDepth 20000 in
set_option maxRecDepth 20000 in
set_option maxRecDepth 20000 in
set_option maxRecDepth 20000 in
set_option maxRecDepth 20000 in
set_option maxRecDepth 20000 in
set_option maxRecDepth 20000 in
set_option maxRecDepth 20000 in
set_option maxRecDepth 20000 in
set_option maxRecDepth 20000 in
set_option maxRecDepth 20000 in
set_option maxRecDepth 20000 in
set_option maxRecDepth 20000 in
set_option maxRecDepth 20000 in
set_option maxRecDepth 20000 in
set_option maxRecDepth 20000 in
set_option maxRecDepth 20000 in
set_option maxRecDepth 20000 in
set_option maxRecDepth 20000 in
set_option maxRecDepth 20000 in
set_option maxRecDepth 20000 in
set_option maxRecDepth 20000 in
set_option maxRecDepth 20000 in
set_option maxRecDepth 20000 in
set_option maxRecDepth 20000 in
set_option maxRecDepth 20000 in
set_option maxRecDepth 20000 in
set_option maxRecDepth 20000 in
set_option maxRecDepth 20000 in
set_option maxRecDepth 20000 in
set_option maxRecDepth 20000 in
set_option maxRecDepth 20000 in
set_option maxRecDepth 20000 in
set_option maxRecDepth 20000 in
set_option maxRecDepth 20000 in
set_option maxRecDepth 20000 in
set_option maxRecDepth 20000 in
set_option maxRecDepth 20000 in
set_option maxRecDepth 20000 in
set_option maxRecDepth 20000 in
set_option maxRecDepth 20000 in
set_option maxRecDepth 20000 in
set_option maxRecDepth 20000 in
set_option maxRecDepth 20000 in
set_option maxRecDepth 20000 in
set_option maxRecDepth 20000 in
set_option maxRecDepth 20000 in
set_option maxRecDepth 20000 in
set_option maxRecDepth 20000 in
set_option maxRecDepth 20000 in
set_option maxRecDepth 20000 in
set_option maxRecDepth 20000 in
set_option maxRecDepth 20000 in
set_option maxRecDepth 20000 in
set_option maxRecDepth 20000 in
set_option maxRecDepth 20000 in
set_option maxRecDepth 20000 in
set_option maxRecDepth 20000 in
set_option maxRecDepth 20000 in
set_option maxRecDepth 20000 in
set_option maxRecDepth 20000 in
set_option maxRecDepth 20000 in
set_option maxRecDepth 20000 in
set_option maxRecDepth 20000 in
set_option maxRecDepth 20000 in
set_option maxRecDepth 20000 in
set_option maxRecDepth 20000 in
set_option maxRecDepth 20000 in
set_option maxRecDepth 20000 in
set_option maxRecDepth 20000 in
set_option maxRecDepth 20000 in
set_option maxRecDepth 20000 in
set_option maxRecDepth 20000 in
set_option maxRecDepth 20000 in
set_option maxRecDepth 20000 in
set_option maxRecDepth 20000 in
set_option maxRecDepth 20000 in
set_option maxRecDepth 20000 in
set_option maxRecDepth 20000 in
set_option maxRecDepth 20000 in
set_option maxRecDepth 20000 in
set_option maxRecDepth 20000 in
set_option maxRecDepth 20000 in
set_option maxRecDepth 20000 in
set_option maxRecDepth 20000 in
set_option maxRecDepth 20000 in
set_option maxRecDepth 20000 in
set_option maxRecDepth 20000 in
set_option maxRecDepth 20000 in
set_option maxRecDepth 20000 in
set_option maxRecDepth 20000 in
set_option maxRecDepth 20000 in
set_option maxRecDepth 20000 in
set_option maxRecDepth 20000 in
set_option maxRecDepth 20000 in
set_option maxRecDepth 20000 in
set_option maxRecDepth 20000 in
set_option maxRecDepth 20000 in
set_option maxRecDepth 20000 in
set_option maxRecDepth 20000 in
set_option maxRecDepth 20000 in
set_option maxRecDepth 20000 in
set_option maxRecDepth 20000 in
set_option maxRecDepth 20000 in
set_option maxRecDepth 20000 in
set_option maxRecDepth 20000 in
set_option maxRecDepth 20000 in
set_option maxRecDepth 20000 in
set_option maxRecDepth 20000 in
set_option maxRecDepth 20000 in
set_option maxRecDepth 20000 in
set_option maxRecDepth 20000 in
set_option maxRecDepth 20000 in
set_option maxRecDepth 20000 in
set_option maxRecDepth 20000 in
set_option maxRecDepth 20000 in
set_option maxRecDepth 20000 in
set_option maxRecDepth 20000 in
set_option maxRecDepth 20000 in
set_option maxRecDepth 20000 in
set_option maxRecDepth 20000 in
set_option maxRecDepth 20000 in
set_option maxRecDepth 20000 in
set_option maxRecDepth 20000 in
set_option maxRecDepth 20000 in
set_option maxRecDepth 20000 in
set_option maxRecDepth 20000 in
set_option maxRecDepth 20000 in
set_option maxRecDepth 20000 in
set_option maxRecDepth 20000 in
set_option maxRecDepth 20000 in
set_option maxRecDepth 20000 in
set_option maxRecDepth 20000 in
set_option maxRecDepth 20000 in
set_option maxRecDepth 20000 in
set_option maxRecDepth 20000 in
set_option maxRecDepth 20000 in
set_option maxRecDepth 20000 in
set_option maxRecDepth 20000 in
set_option maxRecDepth 20000 in
set_option maxRecDepth 20000 in
set_option maxRecDepth 20000 in
set_option maxRecDepth 20000 in
set_option maxRecDepth 20000 in
set_option maxRecDepth 20000 in
set_option maxRecDepth 20000 in
set_option maxRecDepth 20000 in
set_option maxRecDepth 20000 in
set_option maxRecDepth 20000 in
set_option maxRecDepth 20000 in
set_option maxRecDepth 20000 in
set_option maxRecDepth 20000 in
set_option maxRecDepth 20000 in
set_option maxRecDepth 20000 in
set_option maxRecDepth 20000 in
set_option maxRecDepth 20000 in
set_option maxRecDepth 20000 in
set_option maxRecDepth 20000 in
set_option maxRecDepth 20000 in
set_option maxRecDepth 20000 in
set_option maxRecDepth 20000 in
set_option maxRecDepth 20000 in
set_option maxRecDepth 20000 in
set_option maxRecDepth 20000 in
set_option maxRecDepth 20000 in
set_option maxRecDepth 20000 in
set_option maxRecDepth 20000 in
set_option maxRecDepth 20000 in
set_option maxRecDepth 20000 in
set_option maxRecDepth 20000 in
set_option maxRecDepth 20000 in
set_option maxRecDepth 20000 in
set_option maxRecDepth 20000 in
set_option maxRecDepth 20000 in
set_option maxRecDepth 20000 in
set_option maxRecDepth 20000 in
set_option maxRecDepth 20000 in
set_option maxRecDepth 20000 in
set_option maxRecDepth 20000 in
set_option maxRecDepth 20000 in
set_option maxRecDepth 20000 in
set_option maxRecDepth 20000 in
set_option maxRecDepth 20000 in
set_option maxRecDepth 20000 in
set_option maxRecDepth 20000 in
set_option maxRecDepth 20000 in
set_option maxRecDepth 20000 in
set_option maxRecDepth 20000 in
set_option maxRecDepth 20000 in
set_option maxRecDepth 20000 in
set_option maxRecDepth 20000 in
set_option maxRecDepth 20000 in
set_option maxRecDepth 20000 in
set_option maxRecDepth 20000 in
set_option maxRecDepth 20000 in
set_option maxRecDepth 20000 in
set_option maxRecDepth 20000 in
set_option maxRecDepth 20000 in
set_option maxRecDepth 20000 in
set_option maxRecDepth 20000 in
set_option maxRecDepth 20000 in
set_option maxRecDepth 20000 in
set_option maxRecDepth 20000 in
set_option maxRecDepth 20000 in
set_option maxRecDepth 20000 in
set_option maxRecDepth 20000 in
set_option maxRecDepth 20000 in
set_option maxRecDepth 20000 in
set_option maxRecDepth 20000 in
set_option maxRecDepth 20000 in
set_option maxRecDepth 20000 in
set_option maxRecDepth 20000 in
set_option maxRecDepth 20000 in
set_option maxRecDepth 20000 in
set_option maxRecDepth 20000 in
set_option maxRecDepth 20000 in
set_option maxRecDepth 20000 in
set_option maxRecDepth 20000 in
set_option maxRecDepth 20000 in
set_option maxRecDepth 20000 in
set_option maxRecDepth 20000 in
set_option maxRecDepth 20000 in
set_option maxRecDepth 20000 in
set_option maxRecDepth 20000 in
set_option maxRecDepth 20000 in
set_option maxRecDepth 20000 in
set_option maxRecDepth 20000 in
set_option maxRecDepth 20000 in
set_option maxRecDepth 20000 in
set_option maxRecDepth 20000 in
set_option maxRecDepth 20000 in
set_option maxRecDepth 20000 in
set_option maxRecDepth 20000 in
set_option maxRecDepth 20000 in
set_option maxRecDepth 20000 in
set_option maxRecDepth 20000 in
set_option maxRecDepth 20000 in
set_option maxRecDepth 20000 in
set_option maxRecDepth 20000 in
set_option maxRecDepth 20000 in
set_option maxRecDepth 20000 in
set_option maxRecDepth 20000 in
set_option maxRecDepth 20000 in
set_option maxRecDepth 20000 in
set_option maxRecDepth 20000 in
set_option maxRecDepth 20000 in
set_option maxRecDepth 20000 in
set_option maxRecDepth 20000 in
set_option maxRecDepth 20000 in
set_option maxRecDepth 20000 in
set_option maxRecDepth 20000 in
set_option maxRecDepth 20000 in
set_option maxRecDepth 20000 in
set_option maxRecDepth 20000 in
set_option maxRecDepth 20000 in
set_option maxRecDepth 20000 in
set_option maxRecDepth 20000 in
set_option maxRecDepth 20000 in
set_option maxRecDepth 20000 in
set_option maxRecDepth 20000 in
set_option maxRecDepth 20000 in
set_option maxRecDepth 20000 in
set_option maxRecDepth 20000 in
set_option maxRecDepth 20000 in
set_option maxRecDepth 20000 in
set_option maxRecDepth 20000 in
set_option maxRecDepth 20000 in
set_option maxRecDepth 20000 in
set_option maxRecDepth 20000 in
set_option maxRecDepth 20000 in
set_option maxRecDepth 20000 in
set_option maxRecDepth 20000 in
set_option maxRecDepth 20000 in
set_option maxRecDepth 20000 in
set_option maxRecDepth 20000 in
set_option maxRecDepth 20000 in
set_option maxRecDepth 20000 in
set_option maxRecDepth 20000 in
set_option maxRecDepth 20000 in
set_option maxRecDepth 20000 in
set_option maxRecDepth 20000 in
set_option maxRecDepth 20000 in
set_option maxRecDepth 20000 in
set_option maxRecDepth 20000 in
set_option maxRecDepth 20000 in
set_option maxRecDepth 20000 in
set_option maxRecDepth 20000 in
set_option maxRecDepth 20000 in
set_option maxRecDepth 20000 in
set_option maxRecDepth 20000 in
set_option maxRecDepth 20000 in
set_option maxRecDepth 20000 in
set_option maxRecDepth 20000 in
set_option maxRecDepth 20000 in
set_option maxRecDepth 20000 in
set_option maxRecDepth 20000 in
set_option maxRecDepth 20000 in
set_option maxRecDepth 20000 in
set_option maxRecDepth 20000 in
set_option maxRecDepth 20000 in
set_option maxRecDepth 20000 in
set_option maxRecDepth 20000 in
set_option maxRecDepth 20000 in
set_option maxRecDepth 20000 in
set_option maxRecDepth 20000 in
set_option maxRecDepth 20000 in
set_option maxRecDepth 20000 in
set_option maxRecDepth 20000 in
set_option maxRecDepth 20000 in
set_option maxRecDepth 20000 in
set_option maxRecDepth 20000 in
set_option maxRecDepth 20000 in
set_option maxRecDepth 20000 in
set_option maxRecDepth 20000 in
set_option maxRecDepth 20000 in
set_option maxRecDepth 20000 in
set_option maxRecDepth 20000 in
set_option maxRecDepth 20000 in
set_option maxRecDepth 20000 in
set_option maxRecDepth 20000 in
set_option maxRecDepth 20000 in
set_option maxRecDepth 20000 in
set_option maxRecDepth 20000 in
set_option maxRecDepth 20000 in
set_option maxRecDepth 20000 in
abbrev vwCl : List vw_C := [(RX1, TX1, 13), (RX2, TX2, 6), (RX3, TX3, 4), (RX4, TX4, 6), (RX5, TX5, 5), (RX6, TX6, 12), (RX7, TX7, 5), (RX8, TX8, 5), (RX9, TX9, 19), (RX10, TX10, 18)]
