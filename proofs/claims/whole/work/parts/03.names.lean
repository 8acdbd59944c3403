/-! Names of the classes (as printed for this claim), the methods, and the check of the decoded code against the tables. -/
def RX0 : String := "PealOfExcuses$Actor"
def TX0 : u_T := fun k => match k with
  | 0 => ("PealOfExcuses$Actor", "bodies", "[I", true)
  | 1 => ("PealOfExcuses$Actor", "ran", "I", false)
  | 2 => ("PealOfExcuses$Actor", "kind", "I", false)
  | 3 => ("PealOfExcuses$Actor", "v", "I", false)
  | _ => ("PealOfExcuses$Actor", "i", "I", false)
def tyX0 : Nat → FieldType := fun k => match k with
  | 0 => .array .int
  | 1 => .int
  | 2 => .int
  | 3 => .int
  | _ => .int
theorem nmX0 : ∀ a, a < 5 → ∀ b, b < 5 → a ≠ b → (TX0 a).2.1 ≠ (TX0 b).2.1 := by decide +kernel
theorem tyX0_ok : ∀ k, k < 5 → parseFieldDescriptor (TX0 k).2.2.1 = some (tyX0 k) := by decide +kernel
def RX1 : String := "PealOfExcuses$Crowd"
def TX1 : u_T := fun k => match k with
  | 0 => ("PealOfExcuses$Crowd", "size", "I", false)
  | 1 => ("PealOfExcuses$Crowd", "day", "I", false)
  | 2 => ("PealOfExcuses$Crowd", "kinds", "[I", true)
  | 3 => ("PealOfExcuses$Crowd", "numbers", "[I", true)
  | 4 => ("PealOfExcuses$Crowd", "dues", "[I", true)
  | 5 => ("PealOfExcuses$Crowd", "offs", "[I", true)
  | 6 => ("PealOfExcuses$Crowd", "aways", "[Z", true)
  | _ => ("PealOfExcuses$Crowd", "rows", "[I", true)
def tyX1 : Nat → FieldType := fun k => match k with
  | 0 => .int
  | 1 => .int
  | 2 => .array .int
  | 3 => .array .int
  | 4 => .array .int
  | 5 => .array .int
  | 6 => .array .boolean
  | _ => .array .int
theorem nmX1 : ∀ a, a < 8 → ∀ b, b < 8 → a ≠ b → (TX1 a).2.1 ≠ (TX1 b).2.1 := by decide +kernel
theorem tyX1_ok : ∀ k, k < 8 → parseFieldDescriptor (TX1 k).2.2.1 = some (tyX1 k) := by decide +kernel
def RX2 : String := "PealOfExcuses$Moment"
def TX2 : u_T := fun k => match k with
  | 0 => ("PealOfExcuses$Moment", "crowd", "LPealOfExcuses$Crowd;", true)
  | 1 => ("PealOfExcuses$Moment", "seen", "LPealOfExcuses$Notes;", true)
  | 2 => ("PealOfExcuses$Moment", "week", "LPealOfExcuses$Notes;", true)
  | 3 => ("PealOfExcuses$Moment", "book", "LPealOfExcuses$Notes;", true)
  | _ => ("PealOfExcuses$Moment", "holding", "I", false)
def tyX2 : Nat → FieldType := fun k => match k with
  | 0 => .object "PealOfExcuses$Crowd"
  | 1 => .object "PealOfExcuses$Notes"
  | 2 => .object "PealOfExcuses$Notes"
  | 3 => .object "PealOfExcuses$Notes"
  | _ => .int
theorem nmX2 : ∀ a, a < 5 → ∀ b, b < 5 → a ≠ b → (TX2 a).2.1 ≠ (TX2 b).2.1 := by decide +kernel
theorem tyX2_ok : ∀ k, k < 5 → parseFieldDescriptor (TX2 k).2.2.1 = some (tyX2 k) := by decide +kernel
def RX3 : String := "PealOfExcuses$Morning"
def TX3 : u_T := fun k => match k with
  | 0 => ("PealOfExcuses$Morning", "lags", "[I", true)
  | 1 => ("PealOfExcuses$Morning", "comes", "[I", true)
  | 2 => ("PealOfExcuses$Morning", "rings", "[I", true)
  | 3 => ("PealOfExcuses$Morning", "order", "[I", true)
  | 4 => ("PealOfExcuses$Morning", "ringers", "I", false)
  | 5 => ("PealOfExcuses$Morning", "punctual", "I", false)
  | _ => ("PealOfExcuses$Morning", "changed", "Z", false)
def tyX3 : Nat → FieldType := fun k => match k with
  | 0 => .array .int
  | 1 => .array .int
  | 2 => .array .int
  | 3 => .array .int
  | 4 => .int
  | 5 => .int
  | _ => .boolean
theorem nmX3 : ∀ a, a < 7 → ∀ b, b < 7 → a ≠ b → (TX3 a).2.1 ≠ (TX3 b).2.1 := by decide +kernel
theorem tyX3_ok : ∀ k, k < 7 → parseFieldDescriptor (TX3 k).2.2.1 = some (tyX3 k) := by decide +kernel
def RX4 : String := "PealOfExcuses$Notes"
def TX4 : u_T := fun k => match k with
  | 0 => ("PealOfExcuses$Notes", "most", "I", true)
  | 1 => ("PealOfExcuses$Notes", "size", "I", false)
  | 2 => ("PealOfExcuses$Notes", "people", "[I", true)
  | 3 => ("PealOfExcuses$Notes", "second", "[I", true)
  | _ => ("PealOfExcuses$Notes", "days", "[I", true)
def tyX4 : Nat → FieldType := fun k => match k with
  | 0 => .int
  | 1 => .int
  | 2 => .array .int
  | 3 => .array .int
  | _ => .array .int
theorem nmX4 : ∀ a, a < 5 → ∀ b, b < 5 → a ≠ b → (TX4 a).2.1 ≠ (TX4 b).2.1 := by decide +kernel
theorem tyX4_ok : ∀ k, k < 5 → parseFieldDescriptor (TX4 k).2.2.1 = some (tyX4 k) := by decide +kernel
def RX5 : String := "PealOfExcuses$Reader"
def TX5 : u_T := fun k => match k with
  | 0 => ("PealOfExcuses$Reader", "text", "[B", true)
  | 1 => ("PealOfExcuses$Reader", "size", "I", false)
  | _ => ("PealOfExcuses$Reader", "place", "I", false)
def tyX5 : Nat → FieldType := fun k => match k with
  | 0 => .array .byte
  | 1 => .int
  | _ => .int
theorem nmX5 : ∀ a, a < 3 → ∀ b, b < 3 → a ≠ b → (TX5 a).2.1 ≠ (TX5 b).2.1 := by decide +kernel
theorem tyX5_ok : ∀ k, k < 3 → parseFieldDescriptor (TX5 k).2.2.1 = some (tyX5 k) := by decide +kernel
def RX6 : String := "PealOfExcuses$Tape"
def TX6 : u_T := fun k => match k with
  | 0 => ("PealOfExcuses$Tape", "sort", "I", false)
  | 1 => ("PealOfExcuses$Tape", "size", "I", false)
  | _ => ("PealOfExcuses$Tape", "items", "[J", true)
def tyX6 : Nat → FieldType := fun k => match k with
  | 0 => .int
  | 1 => .int
  | _ => .array .long
theorem nmX6 : ∀ a, a < 3 → ∀ b, b < 3 → a ≠ b → (TX6 a).2.1 ≠ (TX6 b).2.1 := by decide +kernel
theorem tyX6_ok : ∀ k, k < 3 → parseFieldDescriptor (TX6 k).2.2.1 = some (tyX6 k) := by decide +kernel
def RX7 : String := "PealOfExcuses$Town"
def TX7 : u_T := fun k => match k with
  | 0 => ("PealOfExcuses$Town", "clauses", "I", false)
  | 1 => ("PealOfExcuses$Town", "length", "I", false)
  | 2 => ("PealOfExcuses$Town", "fast", "I", false)
  | 3 => ("PealOfExcuses$Town", "loud", "I", false)
  | 4 => ("PealOfExcuses$Town", "words", "[I", true)
  | 5 => ("PealOfExcuses$Town", "minutes", "[I", true)
  | 6 => ("PealOfExcuses$Town", "ends", "[I", true)
  | _ => ("PealOfExcuses$Town", "code", "[I", true)
def tyX7 : Nat → FieldType := fun k => match k with
  | 0 => .int
  | 1 => .int
  | 2 => .int
  | 3 => .int
  | 4 => .array .int
  | 5 => .array .int
  | 6 => .array .int
  | _ => .array .int
theorem nmX7 : ∀ a, a < 8 → ∀ b, b < 8 → a ≠ b → (TX7 a).2.1 ≠ (TX7 b).2.1 := by decide +kernel
theorem tyX7_ok : ∀ k, k < 8 → parseFieldDescriptor (TX7 k).2.2.1 = some (tyX7 k) := by decide +kernel
def RX8 : String := "PealOfExcuses"
def TX8 : u_T := fun k => match k with
  | 0 => ("PealOfExcuses", "now", "LPealOfExcuses$Moment;", true)
  | 1 => ("PealOfExcuses", "kept", "LPealOfExcuses$Moment;", true)
  | 2 => ("PealOfExcuses", "imaged", "Z", false)
  | 3 => ("PealOfExcuses", "towns", "[LPealOfExcuses$Town;", true)
  | 4 => ("PealOfExcuses", "noTown", "LPealOfExcuses$Town;", true)
  | 5 => ("PealOfExcuses", "townCount", "I", false)
  | 6 => ("PealOfExcuses", "reader", "LPealOfExcuses$Reader;", true)
  | 7 => ("PealOfExcuses", "morning", "LPealOfExcuses$Morning;", true)
  | 8 => ("PealOfExcuses", "trial", "LPealOfExcuses$Crowd;", true)
  | 9 => ("PealOfExcuses", "actor", "LPealOfExcuses$Actor;", true)
  | _ => ("PealOfExcuses", "tapes", "[LPealOfExcuses$Tape;", true)
def tyX8 : Nat → FieldType := fun k => match k with
  | 0 => .object "PealOfExcuses$Moment"
  | 1 => .object "PealOfExcuses$Moment"
  | 2 => .boolean
  | 3 => .array (.object "PealOfExcuses$Town")
  | 4 => .object "PealOfExcuses$Town"
  | 5 => .int
  | 6 => .object "PealOfExcuses$Reader"
  | 7 => .object "PealOfExcuses$Morning"
  | 8 => .object "PealOfExcuses$Crowd"
  | 9 => .object "PealOfExcuses$Actor"
  | _ => .array (.object "PealOfExcuses$Tape")
theorem nmX8 : ∀ a, a < 11 → ∀ b, b < 11 → a ≠ b → (TX8 a).2.1 ≠ (TX8 b).2.1 := by decide +kernel
theorem tyX8_ok : ∀ k, k < 11 → parseFieldDescriptor (TX8 k).2.2.1 = some (tyX8 k) := by decide +kernel
def RX9 : String := "PealOfExcusesModel"
def TX9 : u_T := fun k => match k with
  | 0 => ("PealOfExcusesModel", "people", "I", false)
  | 1 => ("PealOfExcusesModel", "days", "I", false)
  | 2 => ("PealOfExcusesModel", "gone0", "I", false)
  | 3 => ("PealOfExcusesModel", "kind", "[I", true)
  | 4 => ("PealOfExcusesModel", "v", "[I", true)
  | 5 => ("PealOfExcusesModel", "dueAt", "[I", true)
  | 6 => ("PealOfExcusesModel", "ahead", "[I", true)
  | 7 => ("PealOfExcusesModel", "rows", "[I", true)
  | 8 => ("PealOfExcusesModel", "towns", "I", false)
  | 9 => ("PealOfExcusesModel", "the", "I", false)
  | 10 => ("PealOfExcusesModel", "fed", "I", false)
  | 11 => ("PealOfExcusesModel", "at", "I", false)
  | 12 => ("PealOfExcusesModel", "digits", "I", false)
  | 13 => ("PealOfExcusesModel", "text", "[I", true)
  | 14 => ("PealOfExcusesModel", "clauses", "[I", true)
  | 15 => ("PealOfExcusesModel", "word", "[I", true)
  | 16 => ("PealOfExcusesModel", "number", "[I", true)
  | 17 => ("PealOfExcusesModel", "from", "[I", true)
  | 18 => ("PealOfExcusesModel", "to", "[I", true)
  | 19 => ("PealOfExcusesModel", "sign", "[I", true)
  | 20 => ("PealOfExcusesModel", "waits", "[I", true)
  | 21 => ("PealOfExcusesModel", "signs", "I", false)
  | 22 => ("PealOfExcusesModel", "waiting", "I", false)
  | 23 => ("PealOfExcusesModel", "open", "I", false)
  | 24 => ("PealOfExcusesModel", "letters", "[I", true)
  | 25 => ("PealOfExcusesModel", "promptInMind", "I", false)
  | 26 => ("PealOfExcusesModel", "pile", "[Z", true)
  | 27 => ("PealOfExcusesModel", "anySet", "Z", false)
  | 28 => ("PealOfExcusesModel", "comesAt", "[I", true)
  | 29 => ("PealOfExcusesModel", "ringsFor", "[I", true)
  | 30 => ("PealOfExcusesModel", "rung", "[Z", true)
  | 31 => ("PealOfExcusesModel", "keptDays", "I", false)
  | 32 => ("PealOfExcusesModel", "keptGone", "I", false)
  | 33 => ("PealOfExcusesModel", "keptDue", "[I", true)
  | 34 => ("PealOfExcusesModel", "keptAhead", "[I", true)
  | 35 => ("PealOfExcusesModel", "seen", "I", false)
  | 36 => ("PealOfExcusesModel", "seenWho", "[I", true)
  | 37 => ("PealOfExcusesModel", "seenOff", "[I", true)
  | 38 => ("PealOfExcusesModel", "seenWhen", "[I", true)
  | 39 => ("PealOfExcusesModel", "weeks", "I", false)
  | 40 => ("PealOfExcusesModel", "books", "I", false)
  | 41 => ("PealOfExcusesModel", "weekWhat", "[I", true)
  | 42 => ("PealOfExcusesModel", "weekWho", "[I", true)
  | 43 => ("PealOfExcusesModel", "bookWho", "[I", true)
  | 44 => ("PealOfExcusesModel", "bookOff", "[I", true)
  | 45 => ("PealOfExcusesModel", "hasImage", "Z", false)
  | 46 => ("PealOfExcusesModel", "imageThe", "I", false)
  | 47 => ("PealOfExcusesModel", "imagePeople", "I", false)
  | 48 => ("PealOfExcusesModel", "imageDays", "I", false)
  | 49 => ("PealOfExcusesModel", "imageGone", "I", false)
  | 50 => ("PealOfExcusesModel", "imageSeen", "I", false)
  | 51 => ("PealOfExcusesModel", "imageWeeks", "I", false)
  | 52 => ("PealOfExcusesModel", "imageBooks", "I", false)
  | 53 => ("PealOfExcusesModel", "imageKind", "[I", true)
  | 54 => ("PealOfExcusesModel", "imageV", "[I", true)
  | 55 => ("PealOfExcusesModel", "imageDue", "[I", true)
  | 56 => ("PealOfExcusesModel", "imageAhead", "[I", true)
  | 57 => ("PealOfExcusesModel", "imageRows", "[I", true)
  | 58 => ("PealOfExcusesModel", "imageWho", "[I", true)
  | 59 => ("PealOfExcusesModel", "imageSeenOff", "[I", true)
  | 60 => ("PealOfExcusesModel", "imageWhen", "[I", true)
  | 61 => ("PealOfExcusesModel", "imageWhat", "[I", true)
  | 62 => ("PealOfExcusesModel", "imageWeekWho", "[I", true)
  | 63 => ("PealOfExcusesModel", "imageBookWho", "[I", true)
  | 64 => ("PealOfExcusesModel", "imageBookOff", "[I", true)
  | 65 => ("PealOfExcusesModel", "ran", "I", false)
  | 66 => ("PealOfExcusesModel", "bodies", "[I", true)
  | 67 => ("PealOfExcusesModel", "sort", "[I", true)
  | 68 => ("PealOfExcusesModel", "length", "[I", true)
  | 69 => ("PealOfExcusesModel", "item", "[J", true)
  | _ => ("PealOfExcusesModel", "aside", "[J", true)
def tyX9 : Nat → FieldType := fun k => match k with
  | 0 => .int
  | 1 => .int
  | 2 => .int
  | 3 => .array .int
  | 4 => .array .int
  | 5 => .array .int
  | 6 => .array .int
  | 7 => .array .int
  | 8 => .int
  | 9 => .int
  | 10 => .int
  | 11 => .int
  | 12 => .int
  | 13 => .array .int
  | 14 => .array .int
  | 15 => .array .int
  | 16 => .array .int
  | 17 => .array .int
  | 18 => .array .int
  | 19 => .array .int
  | 20 => .array .int
  | 21 => .int
  | 22 => .int
  | 23 => .int
  | 24 => .array .int
  | 25 => .int
  | 26 => .array .boolean
  | 27 => .boolean
  | 28 => .array .int
  | 29 => .array .int
  | 30 => .array .boolean
  | 31 => .int
  | 32 => .int
  | 33 => .array .int
  | 34 => .array .int
  | 35 => .int
  | 36 => .array .int
  | 37 => .array .int
  | 38 => .array .int
  | 39 => .int
  | 40 => .int
  | 41 => .array .int
  | 42 => .array .int
  | 43 => .array .int
  | 44 => .array .int
  | 45 => .boolean
  | 46 => .int
  | 47 => .int
  | 48 => .int
  | 49 => .int
  | 50 => .int
  | 51 => .int
  | 52 => .int
  | 53 => .array .int
  | 54 => .array .int
  | 55 => .array .int
  | 56 => .array .int
  | 57 => .array .int
  | 58 => .array .int
  | 59 => .array .int
  | 60 => .array .int
  | 61 => .array .int
  | 62 => .array .int
  | 63 => .array .int
  | 64 => .array .int
  | 65 => .int
  | 66 => .array .int
  | 67 => .array .int
  | 68 => .array .int
  | 69 => .array .long
  | _ => .array .long
theorem nmX9 : ∀ a, a < 71 → ∀ b, b < 71 → a ≠ b → (TX9 a).2.1 ≠ (TX9 b).2.1 := by decide +kernel
theorem tyX9_ok : ∀ k, k < 71 → parseFieldDescriptor (TX9 k).2.2.1 = some (tyX9 k) := by decide +kernel
abbrev vwCl : List vw_C := [(RX0, TX0, 5), (RX1, TX1, 8), (RX2, TX2, 5), (RX3, TX3, 7), (RX4, TX4, 5), (RX5, TX5, 3), (RX6, TX6, 3), (RX7, TX7, 8), (RX8, TX8, 11), (RX9, TX9, 71)]
theorem inX0 : ∀ w ∈ u_ws RX0 TX0 5, w ∈ lw_tbl := by decide +kernel
theorem gdX0 : ∀ w ∈ u_ws RX0 TX0 5, goodWord w = true := by decide +kernel
theorem inX1 : ∀ w ∈ u_ws RX1 TX1 8, w ∈ lw_tbl := by decide +kernel
theorem gdX1 : ∀ w ∈ u_ws RX1 TX1 8, goodWord w = true := by decide +kernel
theorem inX2 : ∀ w ∈ u_ws RX2 TX2 5, w ∈ lw_tbl := by decide +kernel
theorem gdX2 : ∀ w ∈ u_ws RX2 TX2 5, goodWord w = true := by decide +kernel
theorem inX3 : ∀ w ∈ u_ws RX3 TX3 7, w ∈ lw_tbl := by decide +kernel
theorem gdX3 : ∀ w ∈ u_ws RX3 TX3 7, goodWord w = true := by decide +kernel
theorem inX4 : ∀ w ∈ u_ws RX4 TX4 5, w ∈ lw_tbl := by decide +kernel
theorem gdX4 : ∀ w ∈ u_ws RX4 TX4 5, goodWord w = true := by decide +kernel
theorem inX5 : ∀ w ∈ u_ws RX5 TX5 3, w ∈ lw_tbl := by decide +kernel
theorem gdX5 : ∀ w ∈ u_ws RX5 TX5 3, goodWord w = true := by decide +kernel
theorem inX6 : ∀ w ∈ u_ws RX6 TX6 3, w ∈ lw_tbl := by decide +kernel
theorem gdX6 : ∀ w ∈ u_ws RX6 TX6 3, goodWord w = true := by decide +kernel
theorem inX7 : ∀ w ∈ u_ws RX7 TX7 8, w ∈ lw_tbl := by decide +kernel
theorem gdX7 : ∀ w ∈ u_ws RX7 TX7 8, goodWord w = true := by decide +kernel
theorem inX8 : ∀ w ∈ u_ws RX8 TX8 11, w ∈ lw_tbl := by decide +kernel
theorem gdX8 : ∀ w ∈ u_ws RX8 TX8 11, goodWord w = true := by decide +kernel
theorem inX9 : ∀ w ∈ u_ws RX9 TX9 71, w ∈ lw_tbl := by decide +kernel
theorem gdX9 : ∀ w ∈ u_ws RX9 TX9 71, goodWord w = true := by decide +kernel
abbrev aMT : Type := String × MethodName × ByteArray × Nat × Option FieldType × Nat × Nat × Nat × Nat × Nat
def mt_P_person : aMT := ("PealOfExcuses", ⟨"PealOfExcuses", "person", "(IIII)I"⟩, prog_1_method_2_code, 5, (Option.some FieldType.int), 4, 390, 388, 389, 89)
def mt_P_of : aMT := ("PealOfExcuses", ⟨"PealOfExcuses", "of", "(II)I"⟩, prog_1_method_3_code, 4, (Option.some FieldType.int), 2, 404, 402, 403, 89)
def mt_P_off : aMT := ("PealOfExcuses", ⟨"PealOfExcuses", "off", "(II)I"⟩, prog_1_method_4_code, 4, (Option.some FieldType.int), 2, 445, 443, 444, 89)
def mt_P_due : aMT := ("PealOfExcuses", ⟨"PealOfExcuses", "due", "(II)I"⟩, prog_1_method_5_code, 4, (Option.some FieldType.int), 2, 449, 447, 448, 89)
def mt_P_away : aMT := ("PealOfExcuses", ⟨"PealOfExcuses", "away", "(IZ)I"⟩, prog_1_method_6_code, 4, (Option.some FieldType.int), 2, 453, 451, 452, 89)
def mt_P_row : aMT := ("PealOfExcuses", ⟨"PealOfExcuses", "row", "(III)I"⟩, prog_1_method_7_code, 5, (Option.some FieldType.int), 3, 457, 455, 456, 89)
def mt_P_feed : aMT := ("PealOfExcuses", ⟨"PealOfExcuses", "feed", "(I)I"⟩, prog_1_method_8_code, 2, (Option.some FieldType.int), 1, 461, 459, 460, 89)
def mt_P_town : aMT := ("PealOfExcuses", ⟨"PealOfExcuses", "town", "()I"⟩, prog_1_method_9_code, 3, (Option.some FieldType.int), 0, 469, 467, 468, 89)
def mt_P_told : aMT := ("PealOfExcuses", ⟨"PealOfExcuses", "told", "(I)I"⟩, prog_1_method_10_code, 2, (Option.some FieldType.int), 1, 651, 649, 650, 89)
def mt_P_pass : aMT := ("PealOfExcuses", ⟨"PealOfExcuses", "pass", "(I)I"⟩, prog_1_method_11_code, 2, (Option.some FieldType.int), 1, 672, 670, 671, 89)
def mt_P_on : aMT := ("PealOfExcuses", ⟨"PealOfExcuses", "on", "(II)I"⟩, prog_1_method_12_code, 4, (Option.some FieldType.int), 2, 705, 703, 704, 89)
def mt_P_until : aMT := ("PealOfExcuses", ⟨"PealOfExcuses", "until", "(I)I"⟩, prog_1_method_13_code, 2, (Option.some FieldType.int), 1, 727, 725, 726, 89)
def mt_P_prompt : aMT := ("PealOfExcuses", ⟨"PealOfExcuses", "prompt", "()I"⟩, prog_1_method_14_code, 4, (Option.some FieldType.int), 0, 739, 737, 738, 89)
def mt_P_best : aMT := ("PealOfExcuses", ⟨"PealOfExcuses", "best", "(I)I"⟩, prog_1_method_15_code, 5, (Option.some FieldType.int), 1, 743, 741, 742, 89)
def mt_P_when : aMT := ("PealOfExcuses", ⟨"PealOfExcuses", "when", "(I)I"⟩, prog_1_method_16_code, 5, (Option.some FieldType.int), 1, 747, 745, 746, 89)
def mt_P_apart : aMT := ("PealOfExcuses", ⟨"PealOfExcuses", "apart", "(III)I"⟩, prog_1_method_17_code, 6, (Option.some FieldType.int), 3, 751, 749, 750, 89)
def mt_P_who : aMT := ("PealOfExcuses", ⟨"PealOfExcuses", "who", "(II)I"⟩, prog_1_method_18_code, 5, (Option.some FieldType.int), 2, 760, 758, 759, 89)
def mt_P_see : aMT := ("PealOfExcuses", ⟨"PealOfExcuses", "see", "(III)I"⟩, prog_1_method_19_code, 4, (Option.some FieldType.int), 3, 764, 762, 763, 89)
def mt_P_was : aMT := ("PealOfExcuses", ⟨"PealOfExcuses", "was", "(II)I"⟩, prog_1_method_20_code, 6, (Option.some FieldType.int), 2, 776, 774, 775, 89)
def mt_P_can : aMT := ("PealOfExcuses", ⟨"PealOfExcuses", "can", "(II)I"⟩, prog_1_method_21_code, 6, (Option.some FieldType.int), 2, 793, 791, 792, 89)
def mt_P_odds : aMT := ("PealOfExcuses", ⟨"PealOfExcuses", "odds", "(II)J"⟩, prog_1_method_22_code, 5, (Option.some FieldType.long), 2, 797, 795, 796, 89)
def mt_P_mean : aMT := ("PealOfExcuses", ⟨"PealOfExcuses", "mean", "(II)J"⟩, prog_1_method_23_code, 3, (Option.some FieldType.long), 2, 810, 808, 809, 89)
def mt_P_week : aMT := ("PealOfExcuses", ⟨"PealOfExcuses", "week", "(II)I"⟩, prog_1_method_24_code, 3, (Option.some FieldType.int), 2, 818, 816, 817, 89)
def mt_P_gone : aMT := ("PealOfExcuses", ⟨"PealOfExcuses", "gone", "(I)I"⟩, prog_1_method_25_code, 4, (Option.some FieldType.int), 1, 822, 820, 821, 89)
def mt_P_book : aMT := ("PealOfExcuses", ⟨"PealOfExcuses", "book", "(II)I"⟩, prog_1_method_26_code, 3, (Option.some FieldType.int), 2, 830, 828, 829, 89)
def mt_P_looked : aMT := ("PealOfExcuses", ⟨"PealOfExcuses", "looked", "()I"⟩, prog_1_method_27_code, 3, (Option.some FieldType.int), 0, 834, 832, 833, 89)
def mt_P_judge : aMT := ("PealOfExcuses", ⟨"PealOfExcuses", "judge", "(II)I"⟩, prog_1_method_28_code, 5, (Option.some FieldType.int), 2, 838, 836, 837, 89)
def mt_P_image : aMT := ("PealOfExcuses", ⟨"PealOfExcuses", "image", "()I"⟩, prog_1_method_29_code, 1, (Option.some FieldType.int), 0, 845, 843, 844, 89)
def mt_P_undo : aMT := ("PealOfExcuses", ⟨"PealOfExcuses", "undo", "()I"⟩, prog_1_method_30_code, 1, (Option.some FieldType.int), 0, 859, 857, 858, 89)
def mt_P_act : aMT := ("PealOfExcuses", ⟨"PealOfExcuses", "act", "(III)I"⟩, prog_1_method_31_code, 4, (Option.some FieldType.int), 3, 863, 861, 862, 89)
def mt_P_trace : aMT := ("PealOfExcuses", ⟨"PealOfExcuses", "trace", "(I)I"⟩, prog_1_method_32_code, 2, (Option.some FieldType.int), 1, 884, 882, 883, 89)
def mt_P_taken : aMT := ("PealOfExcuses", ⟨"PealOfExcuses", "taken", "(II)I"⟩, prog_1_method_33_code, 4, (Option.some FieldType.int), 2, 888, 886, 887, 89)
def mt_P_count : aMT := ("PealOfExcuses", ⟨"PealOfExcuses", "count", "(I)I"⟩, prog_1_method_34_code, 2, (Option.some FieldType.int), 1, 896, 894, 895, 89)
def mt_P_tape : aMT := ("PealOfExcuses", ⟨"PealOfExcuses", "tape", "(III)I"⟩, prog_1_method_35_code, 4, (Option.some FieldType.int), 3, 900, 898, 899, 89)
def mt_P_item : aMT := ("PealOfExcuses", ⟨"PealOfExcuses", "item", "(IIJ)I"⟩, prog_1_method_36_code, 5, (Option.some FieldType.int), 3, 908, 906, 907, 89)
def mt_P_read : aMT := ("PealOfExcuses", ⟨"PealOfExcuses", "read", "(II)J"⟩, prog_1_method_37_code, 3, (Option.some FieldType.long), 2, 920, 918, 919, 89)
def mt_P_shift : aMT := ("PealOfExcuses", ⟨"PealOfExcuses", "shift", "(IIIII)I"⟩, prog_1_method_38_code, 8, (Option.some FieldType.int), 5, 924, 922, 923, 89)
def mt_P_isPerson : aMT := ("PealOfExcuses", ⟨"PealOfExcuses", "isPerson", "(I)Z"⟩, prog_1_method_39_code, 2, (Option.some FieldType.boolean), 1, 408, 407, 0, 89)
def mt_P_isOff : aMT := ("PealOfExcuses", ⟨"PealOfExcuses", "isOff", "(I)Z"⟩, prog_1_method_40_code, 1, (Option.some FieldType.boolean), 1, 396, 395, 0, 89)
def mt_P_isDue : aMT := ("PealOfExcuses", ⟨"PealOfExcuses", "isDue", "(I)Z"⟩, prog_1_method_41_code, 1, (Option.some FieldType.boolean), 1, 393, 392, 0, 89)
def mt_P_isDays : aMT := ("PealOfExcuses", ⟨"PealOfExcuses", "isDays", "(II)Z"⟩, prog_1_method_42_code, 2, (Option.some FieldType.boolean), 2, 675, 674, 0, 89)
def mt_P_isTape : aMT := ("PealOfExcuses", ⟨"PealOfExcuses", "isTape", "(I)Z"⟩, prog_1_method_43_code, 1, (Option.some FieldType.boolean), 1, 841, 840, 0, 89)
def mt_P_isFraction : aMT := ("PealOfExcuses", ⟨"PealOfExcuses", "isFraction", "(II)Z"⟩, prog_1_method_44_code, 3, (Option.some FieldType.boolean), 2, 801, 800, 25, 89)
def mt_P_isUnder : aMT := ("PealOfExcuses", ⟨"PealOfExcuses", "isUnder", "(II)Z"⟩, prog_1_method_45_code, 4, (Option.some FieldType.boolean), 2, 891, 890, 0, 89)
def mt_P_holder : aMT := ("PealOfExcuses", ⟨"PealOfExcuses", "holder", "()LPealOfExcuses$Town;"⟩, prog_1_method_46_code, 1, (Option.some (FieldType.object "PealOfExcuses$Town")), 0, 416, 415, 2, 89)
def mt_P_ofMorning : aMT := ("PealOfExcuses", ⟨"PealOfExcuses", "ofMorning", "(II)I"⟩, prog_1_method_47_code, 3, (Option.some FieldType.int), 2, 412, 411, 1, 89)
def mt_P_tryDays : aMT := ("PealOfExcuses", ⟨"PealOfExcuses", "tryDays", "(I)V"⟩, prog_1_method_48_code, 4, (Option.none : Option FieldType), 1, 709, 708, 20, 89)
def mt_P_settles : aMT := ("PealOfExcuses", ⟨"PealOfExcuses", "settles", "()I"⟩, prog_1_method_49_code, 2, (Option.some FieldType.int), 0, 731, 730, 21, 89)
def mt_P_firstZero : aMT := ("PealOfExcuses", ⟨"PealOfExcuses", "firstZero", "(I)I"⟩, prog_1_method_50_code, 3, (Option.some FieldType.int), 1, 735, 734, 22, 89)
def mt_P_isAsSeen : aMT := ("PealOfExcuses", ⟨"PealOfExcuses", "isAsSeen", "()Z"⟩, prog_1_method_51_code, 3, (Option.some FieldType.boolean), 0, 780, 779, 23, 89)
def mt_P_isAsSeenBehind : aMT := ("PealOfExcuses", ⟨"PealOfExcuses", "isAsSeenBehind", "(I)Z"⟩, prog_1_method_52_code, 4, (Option.some FieldType.boolean), 1, 789, 788, 24, 89)
def mt_P_goRow : aMT := ("PealOfExcuses", ⟨"PealOfExcuses", "goRow", "(II)V"⟩, prog_1_method_53_code, 3, (Option.none : Option FieldType), 2, 826, 825, 27, 89)
def mt_P_inLowestTerms : aMT := ("PealOfExcuses", ⟨"PealOfExcuses", "inLowestTerms", "(II)J"⟩, prog_1_method_54_code, 6, (Option.some FieldType.long), 2, 806, 805, 26, 89)
def mt_M_in : aMT := ("PealOfExcusesModel", ⟨"PealOfExcusesModel", "in", "(III)Z"⟩, prog_11_method_2_code, 4, (Option.some FieldType.boolean), 3, 1157, 1156, 30, 98)
def mt_M_has : aMT := ("PealOfExcusesModel", ⟨"PealOfExcusesModel", "has", "(II)Z"⟩, prog_11_method_3_code, 3, (Option.some FieldType.boolean), 2, 1185, 1184, 34, 98)
def mt_M_held : aMT := ("PealOfExcusesModel", ⟨"PealOfExcusesModel", "held", "(II)I"⟩, prog_11_method_4_code, 3, (Option.some FieldType.int), 2, 1293, 1292, 57, 98)
def mt_M_far : aMT := ("PealOfExcusesModel", ⟨"PealOfExcusesModel", "far", "(I)I"⟩, prog_11_method_5_code, 2, (Option.some FieldType.int), 1, 1289, 1288, 56, 98)
def mt_M_isPerson : aMT := ("PealOfExcusesModel", ⟨"PealOfExcusesModel", "isPerson", "(I)Z"⟩, prog_11_method_6_code, 2, (Option.some FieldType.boolean), 1, 1173, 1172, 33, 98)
def mt_M_isOff : aMT := ("PealOfExcusesModel", ⟨"PealOfExcusesModel", "isOff", "(I)Z"⟩, prog_11_method_7_code, 2, (Option.some FieldType.boolean), 1, 1165, 1164, 32, 98)
def mt_M_isDue : aMT := ("PealOfExcusesModel", ⟨"PealOfExcusesModel", "isDue", "(I)Z"⟩, prog_11_method_8_code, 2, (Option.some FieldType.boolean), 1, 1161, 1160, 31, 98)
def mt_M_isDays : aMT := ("PealOfExcusesModel", ⟨"PealOfExcusesModel", "isDays", "(I)Z"⟩, prog_11_method_9_code, 2, (Option.some FieldType.boolean), 1, 1329, 1328, 64, 98)
def mt_M_person : aMT := ("PealOfExcusesModel", ⟨"PealOfExcusesModel", "person", "(IIII)I"⟩, prog_11_method_10_code, 6, (Option.some FieldType.int), 4, 1153, 1151, 1152, 98)
def mt_M_off : aMT := ("PealOfExcusesModel", ⟨"PealOfExcusesModel", "off", "(II)I"⟩, prog_11_method_11_code, 4, (Option.some FieldType.int), 2, 1169, 1167, 1168, 98)
def mt_M_due : aMT := ("PealOfExcusesModel", ⟨"PealOfExcusesModel", "due", "(II)I"⟩, prog_11_method_12_code, 4, (Option.some FieldType.int), 2, 1177, 1175, 1176, 98)
def mt_M_goes : aMT := ("PealOfExcusesModel", ⟨"PealOfExcusesModel", "goes", "(IZ)V"⟩, prog_11_method_13_code, 3, (Option.none : Option FieldType), 2, 1189, 1188, 35, 98)
def mt_M_away : aMT := ("PealOfExcusesModel", ⟨"PealOfExcusesModel", "away", "(IZ)I"⟩, prog_11_method_14_code, 4, (Option.some FieldType.int), 2, 1181, 1179, 1180, 98)
def mt_M_row : aMT := ("PealOfExcusesModel", ⟨"PealOfExcusesModel", "row", "(III)I"⟩, prog_11_method_15_code, 5, (Option.some FieldType.int), 3, 1193, 1191, 1192, 98)
def mt_M_feed : aMT := ("PealOfExcusesModel", ⟨"PealOfExcusesModel", "feed", "(I)I"⟩, prog_11_method_16_code, 2, (Option.some FieldType.int), 1, 1197, 1195, 1196, 98)
def mt_M_next : aMT := ("PealOfExcusesModel", ⟨"PealOfExcusesModel", "next", "()I"⟩, prog_11_method_17_code, 1, (Option.some FieldType.int), 0, 1217, 1216, 39, 98)
def mt_M_second : aMT := ("PealOfExcusesModel", ⟨"PealOfExcusesModel", "second", "()I"⟩, prog_11_method_18_code, 1, (Option.some FieldType.int), 0, 1229, 1228, 42, 98)
def mt_M_takes : aMT := ("PealOfExcusesModel", ⟨"PealOfExcusesModel", "takes", "(I)Z"⟩, prog_11_method_19_code, 2, (Option.some FieldType.boolean), 1, 1225, 1224, 41, 98)
def mt_M_takesWord : aMT := ("PealOfExcusesModel", ⟨"PealOfExcusesModel", "takesWord", "(II)Z"⟩, prog_11_method_20_code, 4, (Option.some FieldType.boolean), 2, 1221, 1220, 40, 98)
def mt_M_isDigit : aMT := ("PealOfExcusesModel", ⟨"PealOfExcusesModel", "isDigit", "()Z"⟩, prog_11_method_21_code, 1, (Option.some FieldType.boolean), 0, 1237, 1236, 44, 98)
def mt_M_takesNumber : aMT := ("PealOfExcusesModel", ⟨"PealOfExcusesModel", "takesNumber", "()Z"⟩, prog_11_method_22_code, 2, (Option.some FieldType.boolean), 0, 1233, 1232, 43, 98)
def mt_M_emits : aMT := ("PealOfExcusesModel", ⟨"PealOfExcusesModel", "emits", "(I)V"⟩, prog_11_method_23_code, 2, (Option.none : Option FieldType), 1, 1253, 1252, 48, 98)
def mt_M_whole : aMT := ("PealOfExcusesModel", ⟨"PealOfExcusesModel", "whole", "()V"⟩, prog_11_method_24_code, 1, (Option.none : Option FieldType), 0, 1257, 1256, 49, 98)
def mt_M_settle : aMT := ("PealOfExcusesModel", ⟨"PealOfExcusesModel", "settle", "(I)V"⟩, prog_11_method_25_code, 2, (Option.none : Option FieldType), 1, 1261, 1260, 50, 98)
def mt_M_place : aMT := ("PealOfExcusesModel", ⟨"PealOfExcusesModel", "place", "(I)I"⟩, prog_11_method_26_code, 2, (Option.some FieldType.int), 1, 1249, 1248, 47, 98)
def mt_M_takesTest : aMT := ("PealOfExcusesModel", ⟨"PealOfExcusesModel", "takesTest", "()Z"⟩, prog_11_method_27_code, 3, (Option.some FieldType.boolean), 0, 1245, 1244, 46, 98)
def mt_M_takesE : aMT := ("PealOfExcusesModel", ⟨"PealOfExcusesModel", "takesE", "(I)Z"⟩, prog_11_method_28_code, 4, (Option.some FieldType.boolean), 1, 1241, 1240, 45, 98)
def mt_M_takesHead : aMT := ("PealOfExcusesModel", ⟨"PealOfExcusesModel", "takesHead", "(I)Z"⟩, prog_11_method_29_code, 2, (Option.some FieldType.boolean), 1, 1213, 1212, 38, 98)
def mt_M_takesClause : aMT := ("PealOfExcusesModel", ⟨"PealOfExcusesModel", "takesClause", "(I)Z"⟩, prog_11_method_30_code, 2, (Option.some FieldType.boolean), 1, 1209, 1208, 37, 98)
def mt_M_goesText : aMT := ("PealOfExcusesModel", ⟨"PealOfExcusesModel", "goesText", "(I)Z"⟩, prog_11_method_31_code, 3, (Option.some FieldType.boolean), 1, 1205, 1204, 36, 98)
def mt_M_town : aMT := ("PealOfExcusesModel", ⟨"PealOfExcusesModel", "town", "()I"⟩, prog_11_method_32_code, 2, (Option.some FieldType.int), 0, 1201, 1199, 1200, 98)
def mt_M_begin : aMT := ("PealOfExcusesModel", ⟨"PealOfExcusesModel", "begin", "()I"⟩, prog_11_method_33_code, 1, (Option.some FieldType.int), 0, 1273, 1272, 52, 98)
def mt_M_behind : aMT := ("PealOfExcusesModel", ⟨"PealOfExcusesModel", "behind", "()I"⟩, prog_11_method_34_code, 1, (Option.some FieldType.int), 0, 1277, 1276, 53, 98)
def mt_M_lastOf : aMT := ("PealOfExcusesModel", ⟨"PealOfExcusesModel", "lastOf", "(II)I"⟩, prog_11_method_35_code, 5, (Option.some FieldType.int), 2, 1313, 1312, 61, 98)
def mt_M_factOf : aMT := ("PealOfExcusesModel", ⟨"PealOfExcusesModel", "factOf", "(II)I"⟩, prog_11_method_36_code, 3, (Option.some FieldType.int), 2, 1285, 1284, 55, 98)
def mt_M_holds : aMT := ("PealOfExcusesModel", ⟨"PealOfExcusesModel", "holds", "(II)Z"⟩, prog_11_method_37_code, 8, (Option.some FieldType.boolean), 2, 1281, 1280, 54, 98)
def mt_M_lag : aMT := ("PealOfExcusesModel", ⟨"PealOfExcusesModel", "lag", "(I)I"⟩, prog_11_method_38_code, 4, (Option.some FieldType.int), 1, 1269, 1268, 51, 98)
def mt_M_comes : aMT := ("PealOfExcusesModel", ⟨"PealOfExcusesModel", "comes", "(I)I"⟩, prog_11_method_39_code, 2, (Option.some FieldType.int), 1, 1297, 1296, 58, 98)
def mt_M_isRinging : aMT := ("PealOfExcusesModel", ⟨"PealOfExcusesModel", "isRinging", "(I)Z"⟩, prog_11_method_40_code, 2, (Option.some FieldType.boolean), 1, 1305, 1304, 60, 98)
def mt_M_rings : aMT := ("PealOfExcusesModel", ⟨"PealOfExcusesModel", "rings", "(I)I"⟩, prog_11_method_41_code, 4, (Option.some FieldType.int), 1, 1301, 1300, 59, 98)
def mt_M_of : aMT := ("PealOfExcusesModel", ⟨"PealOfExcusesModel", "of", "(II)I"⟩, prog_11_method_42_code, 3, (Option.some FieldType.int), 2, 1265, 1263, 1264, 98)
def mt_M_wrong : aMT := ("PealOfExcusesModel", ⟨"PealOfExcusesModel", "wrong", "()I"⟩, prog_11_method_43_code, 3, (Option.some FieldType.int), 0, 1317, 1316, 62, 98)
def mt_M_spread : aMT := ("PealOfExcusesModel", ⟨"PealOfExcusesModel", "spread", "()I"⟩, prog_11_method_44_code, 4, (Option.some FieldType.int), 0, 1321, 1320, 63, 98)
def mt_M_told : aMT := ("PealOfExcusesModel", ⟨"PealOfExcusesModel", "told", "(I)I"⟩, prog_11_method_45_code, 2, (Option.some FieldType.int), 1, 1309, 1307, 1308, 98)
def mt_M_setBy : aMT := ("PealOfExcusesModel", ⟨"PealOfExcusesModel", "setBy", "(II)I"⟩, prog_11_method_46_code, 6, (Option.some FieldType.int), 2, 1349, 1348, 69, 98)
def mt_M_ringsOne : aMT := ("PealOfExcusesModel", ⟨"PealOfExcusesModel", "ringsOne", "(I)V"⟩, prog_11_method_47_code, 4, (Option.none : Option FieldType), 1, 1345, 1344, 68, 98)
def mt_M_nextRinger : aMT := ("PealOfExcusesModel", ⟨"PealOfExcusesModel", "nextRinger", "()I"⟩, prog_11_method_48_code, 3, (Option.some FieldType.int), 0, 1341, 1340, 67, 98)
def mt_M_goDay : aMT := ("PealOfExcusesModel", ⟨"PealOfExcusesModel", "goDay", "()V"⟩, prog_11_method_49_code, 3, (Option.none : Option FieldType), 0, 1337, 1336, 66, 98)
def mt_M_goDays : aMT := ("PealOfExcusesModel", ⟨"PealOfExcusesModel", "goDays", "(I)V"⟩, prog_11_method_50_code, 3, (Option.none : Option FieldType), 1, 1333, 1332, 65, 98)
def mt_M_pass : aMT := ("PealOfExcusesModel", ⟨"PealOfExcusesModel", "pass", "(I)I"⟩, prog_11_method_51_code, 2, (Option.some FieldType.int), 1, 1325, 1323, 1324, 98)
def mt_M_save : aMT := ("PealOfExcusesModel", ⟨"PealOfExcusesModel", "save", "()V"⟩, prog_11_method_52_code, 2, (Option.none : Option FieldType), 0, 1357, 1356, 70, 98)
def mt_M_putBack : aMT := ("PealOfExcusesModel", ⟨"PealOfExcusesModel", "putBack", "()V"⟩, prog_11_method_53_code, 2, (Option.none : Option FieldType), 0, 1361, 1360, 71, 98)
def mt_M_on : aMT := ("PealOfExcusesModel", ⟨"PealOfExcusesModel", "on", "(II)I"⟩, prog_11_method_54_code, 4, (Option.some FieldType.int), 2, 1353, 1351, 1352, 98)
def mt_M_settles : aMT := ("PealOfExcusesModel", ⟨"PealOfExcusesModel", "settles", "()I"⟩, prog_11_method_55_code, 3, (Option.some FieldType.int), 0, 1369, 1368, 72, 98)
def mt_M_zero : aMT := ("PealOfExcusesModel", ⟨"PealOfExcusesModel", "zero", "(I)I"⟩, prog_11_method_56_code, 3, (Option.some FieldType.int), 1, 1373, 1372, 73, 98)
def mt_M_until : aMT := ("PealOfExcusesModel", ⟨"PealOfExcusesModel", "until", "(I)I"⟩, prog_11_method_57_code, 2, (Option.some FieldType.int), 1, 1365, 1363, 1364, 98)
def mt_M_then : aMT := ("PealOfExcusesModel", ⟨"PealOfExcusesModel", "then", "(Z)I"⟩, prog_11_method_58_code, 3, (Option.some FieldType.int), 1, 1381, 1380, 74, 98)
def mt_M_prompt : aMT := ("PealOfExcusesModel", ⟨"PealOfExcusesModel", "prompt", "()I"⟩, prog_11_method_59_code, 5, (Option.some FieldType.int), 0, 1377, 1375, 1376, 98)
def mt_M_best : aMT := ("PealOfExcusesModel", ⟨"PealOfExcusesModel", "best", "(I)I"⟩, prog_11_method_60_code, 6, (Option.some FieldType.int), 1, 1385, 1383, 1384, 98)
def mt_M_when : aMT := ("PealOfExcusesModel", ⟨"PealOfExcusesModel", "when", "(I)I"⟩, prog_11_method_61_code, 6, (Option.some FieldType.int), 1, 1389, 1387, 1388, 98)
def mt_M_apart : aMT := ("PealOfExcusesModel", ⟨"PealOfExcusesModel", "apart", "(III)I"⟩, prog_11_method_62_code, 7, (Option.some FieldType.int), 3, 1393, 1391, 1392, 98)
def mt_M_who : aMT := ("PealOfExcusesModel", ⟨"PealOfExcusesModel", "who", "(II)I"⟩, prog_11_method_63_code, 5, (Option.some FieldType.int), 2, 1397, 1395, 1396, 98)
def mt_M_see : aMT := ("PealOfExcusesModel", ⟨"PealOfExcusesModel", "see", "(III)I"⟩, prog_11_method_64_code, 4, (Option.some FieldType.int), 3, 1401, 1399, 1400, 98)
def mt_M_isSeen : aMT := ("PealOfExcusesModel", ⟨"PealOfExcusesModel", "isSeen", "()Z"⟩, prog_11_method_65_code, 3, (Option.some FieldType.boolean), 0, 1409, 1408, 75, 98)
def mt_M_was : aMT := ("PealOfExcusesModel", ⟨"PealOfExcusesModel", "was", "(II)I"⟩, prog_11_method_66_code, 7, (Option.some FieldType.int), 2, 1405, 1403, 1404, 98)
def mt_M_can : aMT := ("PealOfExcusesModel", ⟨"PealOfExcusesModel", "can", "(II)I"⟩, prog_11_method_67_code, 7, (Option.some FieldType.int), 2, 1413, 1411, 1412, 98)
def mt_M_divisor : aMT := ("PealOfExcusesModel", ⟨"PealOfExcusesModel", "divisor", "(II)I"⟩, prog_11_method_68_code, 6, (Option.some FieldType.int), 2, 1426, 1425, 77, 98)
def mt_M_lowest : aMT := ("PealOfExcusesModel", ⟨"PealOfExcusesModel", "lowest", "(III)J"⟩, prog_11_method_69_code, 5, (Option.some FieldType.long), 3, 1422, 1421, 76, 98)
def mt_M_odds : aMT := ("PealOfExcusesModel", ⟨"PealOfExcusesModel", "odds", "(II)J"⟩, prog_11_method_70_code, 5, (Option.some FieldType.long), 2, 1417, 1415, 1416, 98)
def mt_M_mean : aMT := ("PealOfExcusesModel", ⟨"PealOfExcusesModel", "mean", "(II)J"⟩, prog_11_method_71_code, 5, (Option.some FieldType.long), 2, 1430, 1428, 1429, 98)
def mt_M_week : aMT := ("PealOfExcusesModel", ⟨"PealOfExcusesModel", "week", "(II)I"⟩, prog_11_method_72_code, 3, (Option.some FieldType.int), 2, 1434, 1432, 1433, 98)
def mt_M_gone : aMT := ("PealOfExcusesModel", ⟨"PealOfExcusesModel", "gone", "(I)I"⟩, prog_11_method_73_code, 3, (Option.some FieldType.int), 1, 1438, 1436, 1437, 98)
def mt_M_book : aMT := ("PealOfExcusesModel", ⟨"PealOfExcusesModel", "book", "(II)I"⟩, prog_11_method_74_code, 3, (Option.some FieldType.int), 2, 1442, 1440, 1441, 98)
def mt_M_looked : aMT := ("PealOfExcusesModel", ⟨"PealOfExcusesModel", "looked", "()I"⟩, prog_11_method_75_code, 2, (Option.some FieldType.int), 0, 1446, 1444, 1445, 98)
def mt_M_judge : aMT := ("PealOfExcusesModel", ⟨"PealOfExcusesModel", "judge", "(II)I"⟩, prog_11_method_76_code, 4, (Option.some FieldType.int), 2, 1450, 1448, 1449, 98)
def mt_M_image : aMT := ("PealOfExcusesModel", ⟨"PealOfExcusesModel", "image", "()I"⟩, prog_11_method_77_code, 2, (Option.some FieldType.int), 0, 1458, 1456, 1457, 98)
def mt_M_undo : aMT := ("PealOfExcusesModel", ⟨"PealOfExcusesModel", "undo", "()I"⟩, prog_11_method_78_code, 2, (Option.some FieldType.int), 0, 1462, 1460, 1461, 98)
def mt_M_body : aMT := ("PealOfExcusesModel", ⟨"PealOfExcusesModel", "body", "(I)V"⟩, prog_11_method_79_code, 2, (Option.none : Option FieldType), 1, 1474, 1473, 80, 98)
def mt_M_personWakes : aMT := ("PealOfExcusesModel", ⟨"PealOfExcusesModel", "personWakes", "(II)I"⟩, prog_11_method_80_code, 3, (Option.some FieldType.int), 2, 1478, 1477, 81, 98)
def mt_M_wakesAct : aMT := ("PealOfExcusesModel", ⟨"PealOfExcusesModel", "wakesAct", "(II)I"⟩, prog_11_method_81_code, 3, (Option.some FieldType.int), 2, 1470, 1469, 79, 98)
def mt_M_personRings : aMT := ("PealOfExcusesModel", ⟨"PealOfExcusesModel", "personRings", "(II)I"⟩, prog_11_method_82_code, 3, (Option.some FieldType.int), 2, 1490, 1489, 84, 98)
def mt_M_carefulRings : aMT := ("PealOfExcusesModel", ⟨"PealOfExcusesModel", "carefulRings", "(II)I"⟩, prog_11_method_83_code, 3, (Option.some FieldType.int), 2, 1486, 1485, 83, 98)
def mt_M_ringsAct : aMT := ("PealOfExcusesModel", ⟨"PealOfExcusesModel", "ringsAct", "(II)I"⟩, prog_11_method_84_code, 4, (Option.some FieldType.int), 2, 1482, 1481, 82, 98)
def mt_M_personTells : aMT := ("PealOfExcusesModel", ⟨"PealOfExcusesModel", "personTells", "(II)I"⟩, prog_11_method_85_code, 3, (Option.some FieldType.int), 2, 1498, 1497, 86, 98)
def mt_M_tellsAct : aMT := ("PealOfExcusesModel", ⟨"PealOfExcusesModel", "tellsAct", "(II)I"⟩, prog_11_method_86_code, 4, (Option.some FieldType.int), 2, 1494, 1493, 85, 98)
def mt_M_act : aMT := ("PealOfExcusesModel", ⟨"PealOfExcusesModel", "act", "(III)I"⟩, prog_11_method_87_code, 4, (Option.some FieldType.int), 3, 1466, 1464, 1465, 98)
def mt_M_trace : aMT := ("PealOfExcusesModel", ⟨"PealOfExcusesModel", "trace", "(I)I"⟩, prog_11_method_88_code, 2, (Option.some FieldType.int), 1, 1502, 1500, 1501, 98)
def mt_M_taken : aMT := ("PealOfExcusesModel", ⟨"PealOfExcusesModel", "taken", "(II)I"⟩, prog_11_method_89_code, 4, (Option.some FieldType.int), 2, 1506, 1504, 1505, 98)
def mt_M_count : aMT := ("PealOfExcusesModel", ⟨"PealOfExcusesModel", "count", "(I)I"⟩, prog_11_method_90_code, 2, (Option.some FieldType.int), 1, 1510, 1508, 1509, 98)
def mt_M_isTape : aMT := ("PealOfExcusesModel", ⟨"PealOfExcusesModel", "isTape", "(I)Z"⟩, prog_11_method_91_code, 2, (Option.some FieldType.boolean), 1, 1454, 1453, 78, 98)
def mt_M_tape : aMT := ("PealOfExcusesModel", ⟨"PealOfExcusesModel", "tape", "(III)I"⟩, prog_11_method_92_code, 5, (Option.some FieldType.int), 3, 1514, 1512, 1513, 98)
def mt_M_narrow : aMT := ("PealOfExcusesModel", ⟨"PealOfExcusesModel", "narrow", "(IJ)J"⟩, prog_11_method_93_code, 4, (Option.some FieldType.long), 2, 1522, 1521, 87, 98)
def mt_M_item : aMT := ("PealOfExcusesModel", ⟨"PealOfExcusesModel", "item", "(IIJ)I"⟩, prog_11_method_94_code, 5, (Option.some FieldType.int), 3, 1518, 1516, 1517, 98)
def mt_M_read : aMT := ("PealOfExcusesModel", ⟨"PealOfExcusesModel", "read", "(II)J"⟩, prog_11_method_95_code, 3, (Option.some FieldType.long), 2, 1526, 1524, 1525, 98)
def mt_M_shift : aMT := ("PealOfExcusesModel", ⟨"PealOfExcusesModel", "shift", "(IIIII)I"⟩, prog_11_method_96_code, 7, (Option.some FieldType.int), 5, 1530, 1528, 1529, 98)
def mt_Ac_play : aMT := ("PealOfExcuses$Actor", ⟨"PealOfExcuses$Actor", "play", "(LPealOfExcuses$Crowd;III)I"⟩, prog_2_method_2_code, 5, (Option.some FieldType.int), 4, 867, 865, 866, 96)
def mt_Ac_perform : aMT := ("PealOfExcuses$Actor", ⟨"PealOfExcuses$Actor", "perform", "(IIII)I"⟩, prog_2_method_3_code, 8, (Option.some FieldType.int), 4, 871, 870, 28, 96)
def mt_Ac_begin : aMT := ("PealOfExcuses$Actor", ⟨"PealOfExcuses$Actor", "begin", "(I)V"⟩, prog_2_method_4_code, 2, (Option.none : Option FieldType), 1, 880, 879, 29, 96)
def mt_Ac_bodyIn : aMT := ("PealOfExcuses$Actor", ⟨"PealOfExcuses$Actor", "bodyIn", "(II)I"⟩, prog_2_method_5_code, 2, (Option.some FieldType.int), 2, 874, 873, 0, 96)
def mt_Cr_become : aMT := ("PealOfExcuses$Crowd", ⟨"PealOfExcuses$Crowd", "become", "(LPealOfExcuses$Crowd;)V"⟩, prog_3_method_2_code, 2, (Option.none : Option FieldType), 1, 713, 711, 712, 91)
def mt_Cr_join : aMT := ("PealOfExcuses$Crowd", ⟨"PealOfExcuses$Crowd", "join", "(IIII)I"⟩, prog_3_method_3_code, 6, (Option.some FieldType.int), 4, 400, 398, 399, 91)
def mt_Cr_wrongOrSpread : aMT := ("PealOfExcuses$Crowd", ⟨"PealOfExcuses$Crowd", "wrongOrSpread", "(I)I"⟩, prog_3_method_4_code, 2, (Option.some FieldType.int), 1, 721, 719, 720, 91)
def mt_Cr_worst : aMT := ("PealOfExcuses$Crowd", ⟨"PealOfExcuses$Crowd", "worst", "()I"⟩, prog_3_method_5_code, 3, (Option.some FieldType.int), 0, 659, 657, 658, 91)
def mt_Cr_width : aMT := ("PealOfExcuses$Crowd", ⟨"PealOfExcuses$Crowd", "width", "()I"⟩, prog_3_method_6_code, 4, (Option.some FieldType.int), 0, 667, 665, 666, 91)
def mt_Cr_together : aMT := ("PealOfExcuses$Crowd", ⟨"PealOfExcuses$Crowd", "together", "()I"⟩, prog_3_method_7_code, 3, (Option.some FieldType.int), 0, 814, 812, 813, 91)
def mt_Cr_between : aMT := ("PealOfExcuses$Crowd", ⟨"PealOfExcuses$Crowd", "between", "(II)I"⟩, prog_3_method_8_code, 3, (Option.some FieldType.int), 2, 755, 753, 754, 91)
def mt_Cr_awayBits : aMT := ("PealOfExcuses$Crowd", ⟨"PealOfExcuses$Crowd", "awayBits", "()I"⟩, prog_3_method_9_code, 3, (Option.some FieldType.int), 0, 655, 653, 654, 91)
def mt_Cr_quality : aMT := ("PealOfExcuses$Crowd", ⟨"PealOfExcuses$Crowd", "quality", "(II)I"⟩, prog_3_method_10_code, 3, (Option.some FieldType.int), 2, 433, 431, 432, 91)
def mt_Mt_become : aMT := ("PealOfExcuses$Moment", ⟨"PealOfExcuses$Moment", "become", "(LPealOfExcuses$Moment;)V"⟩, prog_4_method_2_code, 2, (Option.none : Option FieldType), 1, 849, 847, 848, 90)
def mt_Mo_goDays : aMT := ("PealOfExcuses$Morning", ⟨"PealOfExcuses$Morning", "goDays", "(LPealOfExcuses$Crowd;LPealOfExcuses$Town;I)V"⟩, prog_5_method_2_code, 5, (Option.none : Option FieldType), 3, 679, 677, 678, 95)
def mt_Mo_goDay : aMT := ("PealOfExcuses$Morning", ⟨"PealOfExcuses$Morning", "goDay", "(LPealOfExcuses$Crowd;LPealOfExcuses$Town;)V"⟩, prog_5_method_3_code, 4, (Option.none : Option FieldType), 2, 683, 681, 682, 95)
def mt_Mo_look : aMT := ("PealOfExcuses$Morning", ⟨"PealOfExcuses$Morning", "look", "(LPealOfExcuses$Crowd;LPealOfExcuses$Town;)V"⟩, prog_5_method_4_code, 4, (Option.none : Option FieldType), 2, 420, 418, 419, 95)
def mt_Mo_isLate : aMT := ("PealOfExcuses$Morning", ⟨"PealOfExcuses$Morning", "isLate", "(LPealOfExcuses$Crowd;I)Z"⟩, prog_5_method_5_code, 3, (Option.some FieldType.boolean), 2, 437, 436, 4, 95)
def mt_Mo_ringing : aMT := ("PealOfExcuses$Morning", ⟨"PealOfExcuses$Morning", "ringing", "(LPealOfExcuses$Crowd;I)I"⟩, prog_5_method_6_code, 5, (Option.some FieldType.int), 2, 441, 440, 5, 95)
def mt_Mo_line : aMT := ("PealOfExcuses$Morning", ⟨"PealOfExcuses$Morning", "line", "(LPealOfExcuses$Crowd;)V"⟩, prog_5_method_7_code, 4, (Option.none : Option FieldType), 1, 688, 687, 17, 95)
def mt_Mo_hear : aMT := ("PealOfExcuses$Morning", ⟨"PealOfExcuses$Morning", "hear", "(LPealOfExcuses$Crowd;LPealOfExcuses$Town;I)V"⟩, prog_5_method_8_code, 6, (Option.none : Option FieldType), 3, 692, 691, 18, 95)
def mt_Mo_heard : aMT := ("PealOfExcuses$Morning", ⟨"PealOfExcuses$Morning", "heard", "(LPealOfExcuses$Crowd;III)I"⟩, prog_5_method_9_code, 8, (Option.some FieldType.int), 4, 696, 695, 19, 95)
def mt_Mo_held : aMT := ("PealOfExcuses$Morning", ⟨"PealOfExcuses$Morning", "held", "(I)I"⟩, prog_5_method_10_code, 1, (Option.some FieldType.int), 1, 701, 700, 0, 95)
def mt_No_empty : aMT := ("PealOfExcuses$Notes", ⟨"PealOfExcuses$Notes", "empty", "()I"⟩, prog_6_method_2_code, 1, (Option.some FieldType.int), 0, 768, 766, 767, 92)
def mt_No_add : aMT := ("PealOfExcuses$Notes", ⟨"PealOfExcuses$Notes", "add", "(III)I"⟩, prog_6_method_3_code, 4, (Option.some FieldType.int), 3, 772, 770, 771, 92)
def mt_No_mostDays : aMT := ("PealOfExcuses$Notes", ⟨"PealOfExcuses$Notes", "mostDays", "()I"⟩, prog_6_method_4_code, 3, (Option.some FieldType.int), 0, 784, 782, 783, 92)
def mt_No_become : aMT := ("PealOfExcuses$Notes", ⟨"PealOfExcuses$Notes", "become", "(LPealOfExcuses$Notes;)V"⟩, prog_6_method_5_code, 3, (Option.none : Option FieldType), 1, 854, 852, 853, 92)
def mt_Re_append : aMT := ("PealOfExcuses$Reader", ⟨"PealOfExcuses$Reader", "append", "(I)I"⟩, prog_7_method_2_code, 2, (Option.some FieldType.int), 1, 465, 463, 464, 94)
def mt_Re_readTown : aMT := ("PealOfExcuses$Reader", ⟨"PealOfExcuses$Reader", "readTown", "(LPealOfExcuses$Town;)Z"⟩, prog_7_method_3_code, 4, (Option.some FieldType.boolean), 1, 473, 471, 472, 94)
def mt_Re_readClause : aMT := ("PealOfExcuses$Reader", ⟨"PealOfExcuses$Reader", "readClause", "(LPealOfExcuses$Town;)Z"⟩, prog_7_method_4_code, 4, (Option.some FieldType.boolean), 1, 481, 480, 6, 94)
def mt_Re_readWord : aMT := ("PealOfExcuses$Reader", ⟨"PealOfExcuses$Reader", "readWord", "()I"⟩, prog_7_method_5_code, 5, (Option.some FieldType.int), 0, 485, 484, 7, 94)
def mt_Re_spelling : aMT := ("PealOfExcuses$Reader", ⟨"PealOfExcuses$Reader", "spelling", "(I)Ljava/lang/String;"⟩, prog_7_method_6_code, 1, (Option.some (FieldType.object "java/lang/String")), 1, 488, 487, 0, 94)
def mt_Re_alike : aMT := ("PealOfExcuses$Reader", ⟨"PealOfExcuses$Reader", "alike", "(Ljava/lang/String;)I"⟩, prog_7_method_7_code, 4, (Option.some FieldType.int), 1, 496, 495, 8, 94)
def mt_Re_readEither : aMT := ("PealOfExcuses$Reader", ⟨"PealOfExcuses$Reader", "readEither", "(LPealOfExcuses$Town;I)Z"⟩, prog_7_method_8_code, 7, (Option.some FieldType.boolean), 2, 570, 569, 13, 94)
def mt_Re_readPart : aMT := ("PealOfExcuses$Reader", ⟨"PealOfExcuses$Reader", "readPart", "(LPealOfExcuses$Town;I)Z"⟩, prog_7_method_9_code, 5, (Option.some FieldType.boolean), 2, 574, 573, 14, 94)
def mt_Re_readTest : aMT := ("PealOfExcuses$Reader", ⟨"PealOfExcuses$Reader", "readTest", "(LPealOfExcuses$Town;)Z"⟩, prog_7_method_10_code, 5, (Option.some FieldType.boolean), 1, 582, 581, 15, 94)
def mt_Re_readOneOf : aMT := ("PealOfExcuses$Reader", ⟨"PealOfExcuses$Reader", "readOneOf", "(Ljava/lang/String;)I"⟩, prog_7_method_11_code, 3, (Option.some FieldType.int), 1, 587, 586, 16, 94)
def mt_Re_readNumber : aMT := ("PealOfExcuses$Reader", ⟨"PealOfExcuses$Reader", "readNumber", "()I"⟩, prog_7_method_12_code, 2, (Option.some FieldType.int), 0, 562, 561, 11, 94)
def mt_Re_isAtDigit : aMT := ("PealOfExcuses$Reader", ⟨"PealOfExcuses$Reader", "isAtDigit", "()Z"⟩, prog_7_method_13_code, 1, (Option.some FieldType.boolean), 0, 566, 565, 12, 94)
def mt_Re_isAt : aMT := ("PealOfExcuses$Reader", ⟨"PealOfExcuses$Reader", "isAt", "(C)Z"⟩, prog_7_method_14_code, 2, (Option.some FieldType.boolean), 1, 558, 557, 10, 94)
def mt_Re_take : aMT := ("PealOfExcuses$Reader", ⟨"PealOfExcuses$Reader", "take", "(C)Z"⟩, prog_7_method_15_code, 2, (Option.some FieldType.boolean), 1, 554, 553, 9, 94)
def mt_Tp_hold : aMT := ("PealOfExcuses$Tape", ⟨"PealOfExcuses$Tape", "hold", "(II)V"⟩, prog_8_method_2_code, 4, (Option.none : Option FieldType), 2, 904, 902, 903, 97)
def mt_Tp_has : aMT := ("PealOfExcuses$Tape", ⟨"PealOfExcuses$Tape", "has", "(I)Z"⟩, prog_8_method_3_code, 2, (Option.some FieldType.boolean), 1, 912, 910, 911, 97)
def mt_Tp_hasRun : aMT := ("PealOfExcuses$Tape", ⟨"PealOfExcuses$Tape", "hasRun", "(II)Z"⟩, prog_8_method_4_code, 3, (Option.some FieldType.boolean), 2, 928, 926, 927, 97)
def mt_Tp_put : aMT := ("PealOfExcuses$Tape", ⟨"PealOfExcuses$Tape", "put", "(IJ)V"⟩, prog_8_method_5_code, 4, (Option.none : Option FieldType), 2, 916, 914, 915, 97)
def mt_To_clear : aMT := ("PealOfExcuses$Town", ⟨"PealOfExcuses$Town", "clear", "()V"⟩, prog_9_method_2_code, 1, (Option.none : Option FieldType), 0, 477, 475, 476, 93)
def mt_To_emit : aMT := ("PealOfExcuses$Town", ⟨"PealOfExcuses$Town", "emit", "(I)V"⟩, prog_9_method_3_code, 2, (Option.none : Option FieldType), 1, 578, 576, 577, 93)
def mt_To_close : aMT := ("PealOfExcuses$Town", ⟨"PealOfExcuses$Town", "close", "(II)V"⟩, prog_9_method_4_code, 3, (Option.none : Option FieldType), 2, 647, 645, 646, 93)
def mt_To_lagOf : aMT := ("PealOfExcuses$Town", ⟨"PealOfExcuses$Town", "lagOf", "(LPealOfExcuses$Crowd;I)I"⟩, prog_9_method_5_code, 6, (Option.some FieldType.int), 2, 424, 422, 423, 93)
def mt_To_holds : aMT := ("PealOfExcuses$Town", ⟨"PealOfExcuses$Town", "holds", "(IILPealOfExcuses$Crowd;I)Z"⟩, prog_9_method_6_code, 12, (Option.some FieldType.boolean), 4, 428, 427, 3, 93)
def mt_L_law : aMT := ("PealOfExcusesLaw", ⟨"PealOfExcusesLaw", "law", "([I)Z"⟩, code, 4, ret, 1, 0, 0, 0, 88)
def mt_S_charAt : aMT := ("java/lang/String", ⟨"java/lang/String", "charAt", "(I)C"⟩, prog_14_method_56_code, 2, (Option.some FieldType.char), 1, 513, 511, 512, 99)
def mt_S_checkIndex : aMT := ("java/lang/String", ⟨"java/lang/String", "checkIndex", "(II)V"⟩, prog_14_method_155_code, 2, (Option.none : Option FieldType), 2, 523, 522, 0, 99)
def mt_S_coder : aMT := ("java/lang/String", ⟨"java/lang/String", "coder", "()B"⟩, prog_14_method_152_code, 1, (Option.some FieldType.byte), 0, 504, 502, 503, 99)
def mt_S_indexOf : aMT := ("java/lang/String", ⟨"java/lang/String", "indexOf", "(I)I"⟩, prog_14_method_79_code, 2, (Option.some FieldType.int), 1, 591, 589, 590, 99)
def mt_S_indexOf2 : aMT := ("java/lang/String", ⟨"java/lang/String", "indexOf", "(II)I"⟩, prog_14_method_80_code, 3, (Option.some FieldType.int), 2, 595, 593, 594, 99)
def mt_S_isLatin1 : aMT := ("java/lang/String", ⟨"java/lang/String", "isLatin1", "()Z"⟩, prog_14_method_154_code, 1, (Option.some FieldType.boolean), 0, 517, 515, 516, 99)
def mt_S_length : aMT := ("java/lang/String", ⟨"java/lang/String", "length", "()I"⟩, prog_14_method_54_code, 1, (Option.some FieldType.int), 0, 500, 498, 499, 99)
def mt_SL_canEncode : aMT := ("java/lang/StringLatin1", ⟨"java/lang/StringLatin1", "canEncode", "(I)Z"⟩, prog_15_method_4_code, 1, (Option.some FieldType.boolean), 1, 602, 601, 0, 101)
def mt_SL_charAt : aMT := ("java/lang/StringLatin1", ⟨"java/lang/StringLatin1", "charAt", "([BI)C"⟩, prog_15_method_2_code, 2, (Option.some FieldType.char), 2, 520, 519, 0, 101)
def mt_SL_indexOf : aMT := ("java/lang/StringLatin1", ⟨"java/lang/StringLatin1", "indexOf", "([BIII)I"⟩, prog_15_method_22_code, 4, (Option.some FieldType.int), 4, 599, 598, 0, 101)
def mt_SL_indexOfChar : aMT := ("java/lang/StringLatin1", ⟨"java/lang/StringLatin1", "indexOfChar", "([BIII)I"⟩, prog_15_method_23_code, 6, (Option.some FieldType.int), 4, 607, 606, 0, 101)
def mt_SP_checkIndex : aMT := ("jdk/internal/util/Preconditions", ⟨"jdk/internal/util/Preconditions", "checkIndex", "(IILjava/util/function/BiFunction;)I"⟩, prog_18_method_11_code, 3, (Option.some FieldType.int), 3, 528, 527, 0, 102)
def MT : List aMT := [mt_P_person, mt_P_of, mt_P_off, mt_P_due, mt_P_away, mt_P_row, mt_P_feed, mt_P_town, mt_P_told, mt_P_pass, mt_P_on, mt_P_until, mt_P_prompt, mt_P_best, mt_P_when, mt_P_apart, mt_P_who, mt_P_see, mt_P_was, mt_P_can, mt_P_odds, mt_P_mean, mt_P_week, mt_P_gone, mt_P_book, mt_P_looked, mt_P_judge, mt_P_image, mt_P_undo, mt_P_act, mt_P_trace, mt_P_taken, mt_P_count, mt_P_tape, mt_P_item, mt_P_read, mt_P_shift, mt_P_isPerson, mt_P_isOff, mt_P_isDue, mt_P_isDays, mt_P_isTape, mt_P_isFraction, mt_P_isUnder, mt_P_holder, mt_P_ofMorning, mt_P_tryDays, mt_P_settles, mt_P_firstZero, mt_P_isAsSeen, mt_P_isAsSeenBehind, mt_P_goRow, mt_P_inLowestTerms, mt_M_in, mt_M_has, mt_M_held, mt_M_far, mt_M_isPerson, mt_M_isOff, mt_M_isDue, mt_M_isDays, mt_M_person, mt_M_off, mt_M_due, mt_M_goes, mt_M_away, mt_M_row, mt_M_feed, mt_M_next, mt_M_second, mt_M_takes, mt_M_takesWord, mt_M_isDigit, mt_M_takesNumber, mt_M_emits, mt_M_whole, mt_M_settle, mt_M_place, mt_M_takesTest, mt_M_takesE, mt_M_takesHead, mt_M_takesClause, mt_M_goesText, mt_M_town, mt_M_begin, mt_M_behind, mt_M_lastOf, mt_M_factOf, mt_M_holds, mt_M_lag, mt_M_comes, mt_M_isRinging, mt_M_rings, mt_M_of, mt_M_wrong, mt_M_spread, mt_M_told, mt_M_setBy, mt_M_ringsOne, mt_M_nextRinger, mt_M_goDay, mt_M_goDays, mt_M_pass, mt_M_save, mt_M_putBack, mt_M_on, mt_M_settles, mt_M_zero, mt_M_until, mt_M_then, mt_M_prompt, mt_M_best, mt_M_when, mt_M_apart, mt_M_who, mt_M_see, mt_M_isSeen, mt_M_was, mt_M_can, mt_M_divisor, mt_M_lowest, mt_M_odds, mt_M_mean, mt_M_week, mt_M_gone, mt_M_book, mt_M_looked, mt_M_judge, mt_M_image, mt_M_undo, mt_M_body, mt_M_personWakes, mt_M_wakesAct, mt_M_personRings, mt_M_carefulRings, mt_M_ringsAct, mt_M_personTells, mt_M_tellsAct, mt_M_act, mt_M_trace, mt_M_taken, mt_M_count, mt_M_isTape, mt_M_tape, mt_M_narrow, mt_M_item, mt_M_read, mt_M_shift, mt_Ac_play, mt_Ac_perform, mt_Ac_begin, mt_Ac_bodyIn, mt_Cr_become, mt_Cr_join, mt_Cr_wrongOrSpread, mt_Cr_worst, mt_Cr_width, mt_Cr_together, mt_Cr_between, mt_Cr_awayBits, mt_Cr_quality, mt_Mt_become, mt_Mo_goDays, mt_Mo_goDay, mt_Mo_look, mt_Mo_isLate, mt_Mo_ringing, mt_Mo_line, mt_Mo_hear, mt_Mo_heard, mt_Mo_held, mt_No_empty, mt_No_add, mt_No_mostDays, mt_No_become, mt_Re_append, mt_Re_readTown, mt_Re_readClause, mt_Re_readWord, mt_Re_spelling, mt_Re_alike, mt_Re_readEither, mt_Re_readPart, mt_Re_readTest, mt_Re_readOneOf, mt_Re_readNumber, mt_Re_isAtDigit, mt_Re_isAt, mt_Re_take, mt_Tp_hold, mt_Tp_has, mt_Tp_hasRun, mt_Tp_put, mt_To_clear, mt_To_emit, mt_To_close, mt_To_lagOf, mt_To_holds, mt_L_law, mt_S_charAt, mt_S_checkIndex, mt_S_coder, mt_S_indexOf, mt_S_indexOf2, mt_S_isLatin1, mt_S_length, mt_SL_canEncode, mt_SL_charAt, mt_SL_indexOf, mt_SL_indexOfChar, mt_SP_checkIndex]
def isSt (m : Nat) : Bool := decide (m ∈ [38, 39, 40, 41, 43, 151, 170, 179, 198, 200, 206, 207, 208, 209, 210])
def tyq (c : Nat) : String := match vwCl[c]? with
  | some q => q.1
  | none => "java/lang/String"
def cql (o : Option FieldType) : Nat := match o with
  | some .boolean => 1
  | some .byte => 2
  | some .char => 3
  | _ => 0
def okI (own : String) (ret : Option FieldType) (ml : Nat) (i : Instr) (n : Nat) (r : aRs) (pc : Nat) : Bool := match i with
  | .iload_n _ => n == 1
  | .lload_n _ => n == 1
  | .aload_n _ => n == 1
  | .iload _ => n == 2
  | .lload _ => n == 2
  | .aload _ => n == 2
  | .istore_n k => n == 1 && decide (k.val < ml)
  | .astore_n k => n == 1 && decide (k.val < ml)
  | .lstore_n k => n == 1 && decide (k.val + 1 < ml)
  | .istore k => n == 2 && decide (k < ml)
  | .astore k => n == 2 && decide (k < ml)
  | .lstore k => n == 2 && decide (k + 1 < ml)
  | .iconst v => n == 1 && decide (-128 ≤ v) && decide (v ≤ 127)
  | .bipush v => n == 2 && decide (-128 ≤ v) && decide (v ≤ 127)
  | .sipush v => n == 3 && decide (-32768 ≤ v) && decide (v ≤ 32767)
  | .lconst _ => n == 1
  | .ldc idx => n == 2 && (bif r.1 == 0 then decide (lw_tbl[r.2.2.1]? = some (.constant own idx (Int32.ofInt r.2.2.2))) && decide (-2147483648 ≤ r.2.2.2) && decide (r.2.2.2 ≤ 2147483647)
      else own == "PealOfExcuses$Reader" && decide (r.2.1 < 6) && ([72, 74, 76, 78, 97, 102][r.2.1]? == some idx))
  | .ldc2_w idx => n == 3 && decide (lw_tbl[r.2.2.1]? = some (.constantLong own idx (Int64.ofInt r.2.2.2))) && decide (-9223372036854775808 ≤ r.2.2.2) && decide (r.2.2.2 ≤ 9223372036854775807)
  | .iinc k _ => n == 3 && decide (k < ml)
  | .goto off => n == 3 && decide (0 ≤ (pc : Int) + off)
  | .ifCond _ off => n == 3 && decide (0 ≤ (pc : Int) + off)
  | .if_icmp _ off => n == 3 && decide (0 ≤ (pc : Int) + off)
  | .tableswitch d lo hi offs => decide (0 ≤ (pc : Int) + d) && offs.toList.all (fun off => decide (0 ≤ (pc : Int) + off)) && decide (lo + offs.toList.length = hi + 1)
  | .lookupswitch d ps => decide (0 ≤ (pc : Int) + d) && ps.toList.all (fun q => decide (0 ≤ (pc : Int) + q.2)) && (ps.toList.zip (ps.toList.drop 1)).all (fun (a, next) => a.1 < next.1)
  | .getfield idx => n == 3 && (bif r.1 == 90 then decide (lw_tbl[r.2.2.1]? = some (.fieldLink own idx "java/lang/String" "coder" "B")) else bif r.1 == 91 then decide (lw_tbl[r.2.2.1]? = some (.fieldLink own idx "java/lang/String" "value" "[B"))
      else match vwCl[r.1]? with
        | some (_, T, N) => decide (r.2.1 < N) && decide (lw_tbl[r.2.2.1]? = some (.fieldLink own idx (T r.2.1).1 (T r.2.1).2.1 (T r.2.1).2.2.1))
        | none => false)
  | .putfield idx => n == 3 && (match vwCl[r.1]? with
        | some (_, T, N) => decide (r.2.1 < N) && decide (lw_tbl[r.2.2.1]? = some (.fieldLink own idx (T r.2.1).1 (T r.2.1).2.1 (T r.2.1).2.2.1))
        | none => false)
  | .getstatic idx => n == 3 && (match r.1 with
      | 0 => decide (lw_tbl[r.2.2.1]? = some (.fieldLink own idx "PealOfExcuses" "ABOVE" "[I"))
      | 1 => own == "PealOfExcuses$Actor" && idx == 41 && decide (lw_tbl[r.2.2.1]? = some (.fieldLinkNest own idx "PealOfExcuses" "ABOVE" "[I" "PealOfExcuses"))
      | 2 => decide (lw_tbl[r.2.2.1]? = some (.fieldLink own idx "java/lang/String" "COMPACT_STRINGS" "Z"))
      | 3 => decide (lw_tbl[r.2.2.1]? = some (.fieldLink own idx "jdk/internal/util/Preconditions" "SIOOBE_FORMATTER" "Ljava/util/function/BiFunction;"))
      | _ => true)
  | .invokevirtual idx => n == 3 && (match nthL MT r.1 with
      | some q => (r.1 != m_L_law) && decide (lw_tbl[r.2.2.1]? = some (.methodLink own idx q.2.1)) && (r.2.1 == q.2.2.2.2.2.1) && (tyq r.2.2.2.toNat == q.2.1.cls) && (isSt r.1 == false)
      | none => true)
  | .invokestatic idx => n == 3 && (bif Nat.blt r.1 1000 then (match nthL MT r.1 with
      | some q => (r.1 != m_L_law) && decide (lw_tbl[r.2.2.1]? = some (.methodLink own idx q.2.1)) && (r.2.1 == q.2.2.2.2.2.1) && isSt r.1
      | none => true) else match r.1 with
      | 1000 => decide (lw_tbl[r.2.2.1]? = some (.methodLink own idx Lib.Math.max.name))
      | 1001 => decide (lw_tbl[r.2.2.1]? = some (.methodLink own idx Lib.Math.min.name))
      | 1002 => decide (lw_tbl[r.2.2.1]? = some (.methodLink own idx Lib.Math.abs.name))
      | 1003 => decide (lw_tbl[r.2.2.1]? = some (.methodLink own idx arraycopyName))
      | _ => true)
  | .ireturn => n == 1 && decide (ret = some .int ∨ ret = some .boolean ∨ ret = some .byte ∨ ret = some .char)
  | .lreturn => n == 1 && decide (ret = some .long)
  | .areturn => n == 1 && (match ret with | some (.object _) => true | _ => false)
  | .return_ => n == 1 && decide (ret = none)
  | .new _ => true
  | .invokespecial _ => true
  | .athrow => true
  | _ => n == 1
def okE (m : Nat) (q : aMT) (e : aC) : Bool := decide (decode q.2.2.1 e.1 = .ok (e.2.1, e.2.2.1)) && okI q.1 q.2.2.2.2.1 q.2.2.2.1 e.2.1 e.2.2.1 e.2.2.2 e.1
def okM (m : Nat) : Bool := match nthL MT m with
  | some q => (codeOf m).all (okE m q) && (mlOf m == q.2.2.2.1) && (rtOf m == cql q.2.2.2.2.1) && (q.1 == q.2.1.cls) && decide (q.2.2.2.1 ≤ 21)
  | none => true
def okW (m : Nat) (st : Bool) : Bool := match nthL MT m with
  | some q => decide (lw_tbl[q.2.2.2.2.2.2.1]? = some (.code q.2.1 q.2.2.1 q.2.2.2.1 q.2.2.2.2.1)) && decide (lw_tbl[q.2.2.2.2.2.2.2.1]? = some (bif st then .static q.2.1 else .instanceMethod q.2.1)) && (st || decide (lw_tbl[q.2.2.2.2.2.2.2.2.1]? = some (.selects q.2.1.cls q.2.1 q.2.1))) && decide (lw_tbl[q.2.2.2.2.2.2.2.2.2]? = some (.initialized q.2.1.cls)) && plainName q.2.1.cls && decide (q.2.1.cls ≠ "java/lang/invoke/MethodHandle") && decide (q.2.1.cls ≠ "java/lang/invoke/VarHandle") && decide ((parseMethodDescriptor q.2.1.desc).map (fun d => d.parameters.length) = some q.2.2.2.2.2.1)
  | none => true
