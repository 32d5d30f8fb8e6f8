def RX0 : String := "SlipTrees$Book"
def TX0 : u_T := fun k => match k with
  | 0 => ("SlipTrees$Book", "things", "[I", true)
  | 1 => ("SlipTrees$Book", "papers", "[I", true)
  | 2 => ("SlipTrees$Book", "lists", "[I", true)
  | 3 => ("SlipTrees$Book", "entries", "[I", true)
  | 4 => ("SlipTrees$Book", "texts", "[LSlipTrees$Text;", true)
  | 5 => ("SlipTrees$Book", "thingCount", "I", false)
  | 6 => ("SlipTrees$Book", "paperCount", "I", false)
  | 7 => ("SlipTrees$Book", "entryCount", "I", false)
  | _ => ("SlipTrees$Book", "textCount", "I", false)
def tyX0 : Nat → FieldType := fun k => match k with
  | 0 => .array .int
  | 1 => .array .int
  | 2 => .array .int
  | 3 => .array .int
  | 4 => .array (.object "SlipTrees$Text")
  | 5 => .int
  | 6 => .int
  | 7 => .int
  | _ => .int
abbrev wsX00 : List Cond := u_ws RX0 TX0 9
theorem nmX0 : ∀ a, a < 9 → ∀ b, b < 9 → a ≠ b → (TX0 a).2.1 ≠ (TX0 b).2.1 := by decide +kernel
theorem tyX0_ok : ∀ k, k < 9 → parseFieldDescriptor (TX0 k).2.2.1 = some (tyX0 k) := by decide +kernel
def RX1 : String := "SlipTrees$Chooser"
def TX1 : u_T := fun k => match k with
  | 0 => ("SlipTrees$Chooser", "laws", "LSlipTrees$Laws;", true)
  | 1 => ("SlipTrees$Chooser", "book", "LSlipTrees$Book;", false)
  | 2 => ("SlipTrees$Chooser", "paper", "I", false)
  | 3 => ("SlipTrees$Chooser", "size", "I", false)
  | 4 => ("SlipTrees$Chooser", "sourceCount", "I", false)
  | 5 => ("SlipTrees$Chooser", "opens", "[I", true)
  | 6 => ("SlipTrees$Chooser", "looks", "[I", true)
  | 7 => ("SlipTrees$Chooser", "ghosts", "[Z", true)
  | 8 => ("SlipTrees$Chooser", "lifts", "[I", true)
  | 9 => ("SlipTrees$Chooser", "lifted", "[I", true)
  | 10 => ("SlipTrees$Chooser", "cheapest", "[I", true)
  | 11 => ("SlipTrees$Chooser", "opened", "[I", true)
  | 12 => ("SlipTrees$Chooser", "dearer", "[I", true)
  | 13 => ("SlipTrees$Chooser", "leastSum", "I", false)
  | _ => ("SlipTrees$Chooser", "leastBits", "I", false)
def tyX1 : Nat → FieldType := fun k => match k with
  | 0 => .object "SlipTrees$Laws"
  | 1 => .object "SlipTrees$Book"
  | 2 => .int
  | 3 => .int
  | 4 => .int
  | 5 => .array .int
  | 6 => .array .int
  | 7 => .array .boolean
  | 8 => .array .int
  | 9 => .array .int
  | 10 => .array .int
  | 11 => .array .int
  | 12 => .array .int
  | 13 => .int
  | _ => .int
abbrev wsX10 : List Cond := u_ws RX1 TX1 15
theorem nmX1 : ∀ a, a < 15 → ∀ b, b < 15 → a ≠ b → (TX1 a).2.1 ≠ (TX1 b).2.1 := by decide +kernel
theorem tyX1_ok : ∀ k, k < 15 → parseFieldDescriptor (TX1 k).2.2.1 = some (tyX1 k) := by decide +kernel
def RX2 : String := "SlipTrees$Laws"
def TX2 : u_T := fun k => match k with
  | 0 => ("SlipTrees$Laws", "asked", "[I", true)
  | 1 => ("SlipTrees$Laws", "stack", "[J", true)
  | _ => ("SlipTrees$Laws", "answer", "J", false)
def tyX2 : Nat → FieldType := fun k => match k with
  | 0 => .array .int
  | 1 => .array .long
  | _ => .long
abbrev wsX20 : List Cond := u_ws RX2 TX2 3
theorem nmX2 : ∀ a, a < 3 → ∀ b, b < 3 → a ≠ b → (TX2 a).2.1 ≠ (TX2 b).2.1 := by decide +kernel
theorem tyX2_ok : ∀ k, k < 3 → parseFieldDescriptor (TX2 k).2.2.1 = some (tyX2 k) := by decide +kernel
def RX3 : String := "SlipTrees$Leasts"
def TX3 : u_T := fun k => match k with
  | 0 => ("SlipTrees$Leasts", "book", "LSlipTrees$Book;", true)
  | 1 => ("SlipTrees$Leasts", "laws", "LSlipTrees$Laws;", true)
  | 2 => ("SlipTrees$Leasts", "chooser", "LSlipTrees$Chooser;", true)
  | 3 => ("SlipTrees$Leasts", "open", "[I", true)
  | 4 => ("SlipTrees$Leasts", "settled", "[I", true)
  | 5 => ("SlipTrees$Leasts", "reached", "[I", true)
  | 6 => ("SlipTrees$Leasts", "sums", "[I", true)
  | 7 => ("SlipTrees$Leasts", "bits", "[I", true)
  | 8 => ("SlipTrees$Leasts", "origins", "[I", true)
  | 9 => ("SlipTrees$Leasts", "looked", "[I", true)
  | _ => ("SlipTrees$Leasts", "together", "[I", true)
def tyX3 : Nat → FieldType := fun k => match k with
  | 0 => .object "SlipTrees$Book"
  | 1 => .object "SlipTrees$Laws"
  | 2 => .object "SlipTrees$Chooser"
  | 3 => .array .int
  | 4 => .array .int
  | 5 => .array .int
  | 6 => .array .int
  | 7 => .array .int
  | 8 => .array .int
  | 9 => .array .int
  | _ => .array .int
abbrev wsX30 : List Cond := u_ws RX3 TX3 11
theorem nmX3 : ∀ a, a < 11 → ∀ b, b < 11 → a ≠ b → (TX3 a).2.1 ≠ (TX3 b).2.1 := by decide +kernel
theorem tyX3_ok : ∀ k, k < 11 → parseFieldDescriptor (TX3 k).2.2.1 = some (tyX3 k) := by decide +kernel
def RX4 : String := "SlipTrees$Maker"
def TX4 : u_T := fun k => match k with
  | 0 => ("SlipTrees$Maker", "made", "LSlipTrees$Book;", true)
  | 1 => ("SlipTrees$Maker", "origins", "[I", true)
  | 2 => ("SlipTrees$Maker", "looked", "I", false)
  | _ => ("SlipTrees$Maker", "state", "I", false)
def tyX4 : Nat → FieldType := fun k => match k with
  | 0 => .object "SlipTrees$Book"
  | 1 => .array .int
  | 2 => .int
  | _ => .int
abbrev wsX40 : List Cond := u_ws RX4 TX4 4
theorem nmX4 : ∀ a, a < 4 → ∀ b, b < 4 → a ≠ b → (TX4 a).2.1 ≠ (TX4 b).2.1 := by decide +kernel
theorem tyX4_ok : ∀ k, k < 4 → parseFieldDescriptor (TX4 k).2.2.1 = some (tyX4 k) := by decide +kernel
def RX5 : String := "SlipTrees$Reader"
def TX5 : u_T := fun k => match k with
  | 0 => ("SlipTrees$Reader", "tape", "LSlipTrees$Tape;", true)
  | 1 => ("SlipTrees$Reader", "code", "[I", true)
  | 2 => ("SlipTrees$Reader", "clauses", "[I", true)
  | 3 => ("SlipTrees$Reader", "codeSize", "I", false)
  | 4 => ("SlipTrees$Reader", "clauseCount", "I", false)
  | 5 => ("SlipTrees$Reader", "leaves", "I", false)
  | 6 => ("SlipTrees$Reader", "place", "I", false)
  | 7 => ("SlipTrees$Reader", "next", "I", false)
  | 8 => ("SlipTrees$Reader", "token", "I", false)
  | _ => ("SlipTrees$Reader", "number", "I", false)
def tyX5 : Nat → FieldType := fun k => match k with
  | 0 => .object "SlipTrees$Tape"
  | 1 => .array .int
  | 2 => .array .int
  | 3 => .int
  | 4 => .int
  | 5 => .int
  | 6 => .int
  | 7 => .int
  | 8 => .int
  | _ => .int
abbrev wsX50 : List Cond := u_ws RX5 TX5 10
theorem nmX5 : ∀ a, a < 10 → ∀ b, b < 10 → a ≠ b → (TX5 a).2.1 ≠ (TX5 b).2.1 := by decide +kernel
theorem tyX5_ok : ∀ k, k < 10 → parseFieldDescriptor (TX5 k).2.2.1 = some (tyX5 k) := by decide +kernel
def RX6 : String := "SlipTrees$Tape"
def TX6 : u_T := fun k => match k with
  | 0 => ("SlipTrees$Tape", "bytes", "[I", true)
  | _ => ("SlipTrees$Tape", "length", "I", false)
def tyX6 : Nat → FieldType := fun k => match k with
  | 0 => .array .int
  | _ => .int
abbrev wsX60 : List Cond := u_ws RX6 TX6 2
theorem nmX6 : ∀ a, a < 2 → ∀ b, b < 2 → a ≠ b → (TX6 a).2.1 ≠ (TX6 b).2.1 := by decide +kernel
theorem tyX6_ok : ∀ k, k < 2 → parseFieldDescriptor (TX6 k).2.2.1 = some (tyX6 k) := by decide +kernel
def RX7 : String := "SlipTrees$Text"
def TX7 : u_T := fun k => match k with
  | 0 => ("SlipTrees$Text", "code", "[I", true)
  | _ => ("SlipTrees$Text", "clauses", "[I", true)
def tyX7 : Nat → FieldType := fun k => match k with
  | 0 => .array .int
  | _ => .array .int
abbrev wsX70 : List Cond := u_ws RX7 TX7 2
theorem nmX7 : ∀ a, a < 2 → ∀ b, b < 2 → a ≠ b → (TX7 a).2.1 ≠ (TX7 b).2.1 := by decide +kernel
theorem tyX7_ok : ∀ k, k < 2 → parseFieldDescriptor (TX7 k).2.2.1 = some (tyX7 k) := by decide +kernel
def RX8 : String := "SlipTrees"
def TX8 : u_T := fun k => match k with
  | 0 => ("SlipTrees", "tape", "LSlipTrees$Tape;", true)
  | 1 => ("SlipTrees", "reader", "LSlipTrees$Reader;", true)
  | 2 => ("SlipTrees", "told", "LSlipTrees$Book;", true)
  | 3 => ("SlipTrees", "laws", "LSlipTrees$Laws;", true)
  | 4 => ("SlipTrees", "chooser", "LSlipTrees$Chooser;", true)
  | 5 => ("SlipTrees", "leasts", "LSlipTrees$Leasts;", true)
  | 6 => ("SlipTrees", "maker", "LSlipTrees$Maker;", true)
  | 7 => ("SlipTrees", "trial", "LSlipTrees$Leasts;", true)
  | 8 => ("SlipTrees", "images", "[LSlipTrees$Book;", true)
  | 9 => ("SlipTrees", "kept", "[Z", true)
  | 10 => ("SlipTrees", "refused", "[I", true)
  | 11 => ("SlipTrees", "status", "I", false)
  | _ => ("SlipTrees", "fault", "I", false)
def tyX8 : Nat → FieldType := fun k => match k with
  | 0 => .object "SlipTrees$Tape"
  | 1 => .object "SlipTrees$Reader"
  | 2 => .object "SlipTrees$Book"
  | 3 => .object "SlipTrees$Laws"
  | 4 => .object "SlipTrees$Chooser"
  | 5 => .object "SlipTrees$Leasts"
  | 6 => .object "SlipTrees$Maker"
  | 7 => .object "SlipTrees$Leasts"
  | 8 => .array (.object "SlipTrees$Book")
  | 9 => .array .boolean
  | 10 => .array .int
  | 11 => .int
  | _ => .int
abbrev wsX80 : List Cond := u_ws RX8 TX8 13
theorem nmX8 : ∀ a, a < 13 → ∀ b, b < 13 → a ≠ b → (TX8 a).2.1 ≠ (TX8 b).2.1 := by decide +kernel
theorem tyX8_ok : ∀ k, k < 13 → parseFieldDescriptor (TX8 k).2.2.1 = some (tyX8 k) := by decide +kernel
def RX9 : String := "SlipTreesModel"
def TX9 : u_T := fun k => match k with
  | 0 => ("SlipTreesModel", "thrown", "I", false)
  | 1 => ("SlipTreesModel", "status", "I", false)
  | 2 => ("SlipTreesModel", "refusals", "[I", true)
  | 3 => ("SlipTreesModel", "row", "[I", true)
  | 4 => ("SlipTreesModel", "spare", "[I", true)
  | 5 => ("SlipTreesModel", "images", "[I", true)
  | 6 => ("SlipTreesModel", "isKept", "[Z", true)
  | 7 => ("SlipTreesModel", "tape", "[I", true)
  | 8 => ("SlipTreesModel", "taped", "I", false)
  | 9 => ("SlipTreesModel", "from", "I", false)
  | 10 => ("SlipTreesModel", "to", "I", false)
  | 11 => ("SlipTreesModel", "sort", "I", false)
  | 12 => ("SlipTreesModel", "worth", "J", false)
  | 13 => ("SlipTreesModel", "fault", "I", false)
  | 14 => ("SlipTreesModel", "bad", "Z", false)
  | 15 => ("SlipTreesModel", "nClauses", "I", false)
  | 16 => ("SlipTreesModel", "nClause", "[I", true)
  | 17 => ("SlipTreesModel", "nCode", "I", false)
  | 18 => ("SlipTreesModel", "nOp", "[I", true)
  | 19 => ("SlipTreesModel", "nArg", "[I", true)
  | 20 => ("SlipTreesModel", "nLeaves", "I", false)
  | 21 => ("SlipTreesModel", "pile", "[I", true)
  | 22 => ("SlipTreesModel", "pileAt", "[I", true)
  | 23 => ("SlipTreesModel", "piled", "I", false)
  | 24 => ("SlipTreesModel", "opened", "I", false)
  | 25 => ("SlipTreesModel", "set", "[J", true)
  | 26 => ("SlipTreesModel", "rest", "[J", true)
  | 27 => ("SlipTreesModel", "broken", "Z", false)
  | 28 => ("SlipTreesModel", "value", "J", false)
  | 29 => ("SlipTreesModel", "sum", "J", false)
  | 30 => ("SlipTreesModel", "sources", "I", false)
  | 31 => ("SlipTreesModel", "sourceOf", "[I", true)
  | 32 => ("SlipTreesModel", "opens", "[I", true)
  | 33 => ("SlipTreesModel", "many", "I", false)
  | 34 => ("SlipTreesModel", "its", "[I", true)
  | 35 => ("SlipTreesModel", "looks", "[I", true)
  | 36 => ("SlipTreesModel", "lifts", "[I", true)
  | 37 => ("SlipTreesModel", "liftFrom", "[I", true)
  | 38 => ("SlipTreesModel", "leastSum", "I", false)
  | 39 => ("SlipTreesModel", "leastBits", "I", false)
  | 40 => ("SlipTreesModel", "comes", "[I", true)
  | 41 => ("SlipTreesModel", "treeSum", "I", false)
  | 42 => ("SlipTreesModel", "fewest", "[I", true)
  | 43 => ("SlipTreesModel", "most", "[I", true)
  | 44 => ("SlipTreesModel", "nextFewest", "[I", true)
  | 45 => ("SlipTreesModel", "nextMost", "[I", true)
  | 46 => ("SlipTreesModel", "paperFewest", "[I", true)
  | 47 => ("SlipTreesModel", "paperMost", "[I", true)
  | 48 => ("SlipTreesModel", "allFewest", "[I", true)
  | 49 => ("SlipTreesModel", "allMost", "[I", true)
  | 50 => ("SlipTreesModel", "state", "J", false)
  | _ => ("SlipTreesModel", "madeFrom", "[I", true)
def tyX9 : Nat → FieldType := fun k => match k with
  | 0 => .int
  | 1 => .int
  | 2 => .array .int
  | 3 => .array .int
  | 4 => .array .int
  | 5 => .array .int
  | 6 => .array .boolean
  | 7 => .array .int
  | 8 => .int
  | 9 => .int
  | 10 => .int
  | 11 => .int
  | 12 => .long
  | 13 => .int
  | 14 => .boolean
  | 15 => .int
  | 16 => .array .int
  | 17 => .int
  | 18 => .array .int
  | 19 => .array .int
  | 20 => .int
  | 21 => .array .int
  | 22 => .array .int
  | 23 => .int
  | 24 => .int
  | 25 => .array .long
  | 26 => .array .long
  | 27 => .boolean
  | 28 => .long
  | 29 => .long
  | 30 => .int
  | 31 => .array .int
  | 32 => .array .int
  | 33 => .int
  | 34 => .array .int
  | 35 => .array .int
  | 36 => .array .int
  | 37 => .array .int
  | 38 => .int
  | 39 => .int
  | 40 => .array .int
  | 41 => .int
  | 42 => .array .int
  | 43 => .array .int
  | 44 => .array .int
  | 45 => .array .int
  | 46 => .array .int
  | 47 => .array .int
  | 48 => .array .int
  | 49 => .array .int
  | 50 => .long
  | _ => .array .int
abbrev wsX90 : List Cond := u_ws RX9 TX9 52
theorem nmX9 : ∀ a, a < 52 → ∀ b, b < 52 → a ≠ b → (TX9 a).2.1 ≠ (TX9 b).2.1 := by decide +kernel
theorem tyX9_ok : ∀ k, k < 52 → parseFieldDescriptor (TX9 k).2.2.1 = some (tyX9 k) := by decide +kernel
def RJ0 : String := "java/lang/String"
def RJ1 : String := "java/lang/StringLatin1"
def RJ2 : String := "java/lang/StringUTF16"
def RJ3 : String := "jdk/internal/util/Preconditions"
def RJ6 : String := "java/lang/Integer"
def RJ7 : String := "java/util/Arrays"
def RJ9 : String := "java/lang/Math"
abbrev cX0_init : ByteArray := prog_2_method_1_code
def yX0_init : MethodName := ⟨RX0, "<init>", "()V"⟩
abbrev cX0_copyFrom : ByteArray := prog_2_method_2_code
def yX0_copyFrom : MethodName := ⟨RX0, "copyFrom", "(LSlipTrees$Book;)V"⟩
abbrev cX0_dropPapers : ByteArray := prog_2_method_3_code
def yX0_dropPapers : MethodName := ⟨RX0, "dropPapers", "()V"⟩
abbrev cX0_hasThing : ByteArray := prog_2_method_4_code
def yX0_hasThing : MethodName := ⟨RX0, "hasThing", "(I)Z"⟩
abbrev cX0_hasPaper : ByteArray := prog_2_method_5_code
def yX0_hasPaper : MethodName := ⟨RX0, "hasPaper", "(I)Z"⟩
abbrev cX0_hasEntry : ByteArray := prog_2_method_6_code
def yX0_hasEntry : MethodName := ⟨RX0, "hasEntry", "(I)Z"⟩
abbrev cX0_hasRoomIn : ByteArray := prog_2_method_7_code
def yX0_hasRoomIn : MethodName := ⟨RX0, "hasRoomIn", "(I)Z"⟩
abbrev cX0_hasTrueThing : ByteArray := prog_2_method_8_code
def yX0_hasTrueThing : MethodName := ⟨RX0, "hasTrueThing", "()Z"⟩
abbrev cX0_isGhost : ByteArray := prog_2_method_9_code
def yX0_isGhost : MethodName := ⟨RX0, "isGhost", "(I)Z"⟩
abbrev cX0_isSeen : ByteArray := prog_2_method_10_code
def yX0_isSeen : MethodName := ⟨RX0, "isSeen", "(II)Z"⟩
abbrev cX0_ofThing : ByteArray := prog_2_method_11_code
def yX0_ofThing : MethodName := ⟨RX0, "ofThing", "(II)I"⟩
abbrev cX0_ofPaper : ByteArray := prog_2_method_12_code
def yX0_ofPaper : MethodName := ⟨RX0, "ofPaper", "(II)I"⟩
abbrev cX0_ofEntry : ByteArray := prog_2_method_13_code
def yX0_ofEntry : MethodName := ⟨RX0, "ofEntry", "(II)I"⟩
abbrev cX0_fieldOf : ByteArray := prog_2_method_14_code
def yX0_fieldOf : MethodName := ⟨RX0, "fieldOf", "(II)I"⟩
abbrev cX0_entryAt : ByteArray := prog_2_method_15_code
def yX0_entryAt : MethodName := ⟨RX0, "entryAt", "(II)I"⟩
abbrev cX0_textAt : ByteArray := prog_2_method_16_code
def yX0_textAt : MethodName := ⟨RX0, "textAt", "(I)LSlipTrees$Text;"⟩
abbrev cX0_addThing : ByteArray := prog_2_method_17_code
def yX0_addThing : MethodName := ⟨RX0, "addThing", "(IIIIII)I"⟩
abbrev cX0_addPaper : ByteArray := prog_2_method_18_code
def yX0_addPaper : MethodName := ⟨RX0, "addPaper", "(III)I"⟩
abbrev cX0_addEntry : ByteArray := prog_2_method_19_code
def yX0_addEntry : MethodName := ⟨RX0, "addEntry", "(IIIIIII)I"⟩
abbrev cX0_addText : ByteArray := prog_2_method_20_code
def yX0_addText : MethodName := ⟨RX0, "addText", "(LSlipTrees$Text;)I"⟩
abbrev cX0_setField : ByteArray := prog_2_method_21_code
def yX0_setField : MethodName := ⟨RX0, "setField", "(III)V"⟩
abbrev cX0_areAlike : ByteArray := prog_2_method_22_code
def yX0_areAlike : MethodName := ⟨RX0, "areAlike", "(II)Z"⟩
abbrev cX0_fieldsMadeRight : ByteArray := prog_2_method_23_code
def yX0_fieldsMadeRight : MethodName := ⟨RX0, "fieldsMadeRight", "(II)I"⟩
abbrev cX0_thingsIn : ByteArray := prog_2_method_24_code
def yX0_thingsIn : MethodName := ⟨RX0, "thingsIn", "(I)I"⟩
abbrev cX1_init : ByteArray := prog_3_method_1_code
def yX1_init : MethodName := ⟨RX1, "<init>", "(LSlipTrees$Laws;)V"⟩
abbrev cX1_load : ByteArray := prog_3_method_2_code
def yX1_load : MethodName := ⟨RX1, "load", "(LSlipTrees$Book;II)V"⟩
abbrev cX1_offer : ByteArray := prog_3_method_3_code
def yX1_offer : MethodName := ⟨RX1, "offer", "(III)V"⟩
abbrev cX1_search : ByteArray := prog_3_method_4_code
def yX1_search : MethodName := ⟨RX1, "search", "()V"⟩
abbrev cX1_rowFor : ByteArray := prog_3_method_5_code
def yX1_rowFor : MethodName := ⟨RX1, "rowFor", "(I)I"⟩
abbrev cX1_sumAt : ByteArray := prog_3_method_6_code
def yX1_sumAt : MethodName := ⟨RX1, "sumAt", "(I)I"⟩
abbrev cX1_rowAlone : ByteArray := prog_3_method_7_code
def yX1_rowAlone : MethodName := ⟨RX1, "rowAlone", "(I)I"⟩
abbrev cX1_sumWith : ByteArray := prog_3_method_8_code
def yX1_sumWith : MethodName := ⟨RX1, "sumWith", "(I)I"⟩
abbrev cX1_tellOrigins : ByteArray := prog_3_method_9_code
def yX1_tellOrigins : MethodName := ⟨RX1, "tellOrigins", "([I)V"⟩
abbrev cX1_firstAt : ByteArray := prog_3_method_10_code
def yX1_firstAt : MethodName := ⟨RX1, "firstAt", "(II)I"⟩
abbrev cX1_tellLooked : ByteArray := prog_3_method_11_code
def yX1_tellLooked : MethodName := ⟨RX1, "tellLooked", "([III)V"⟩
abbrev cX1_noteLooked : ByteArray := prog_3_method_12_code
def yX1_noteLooked : MethodName := ⟨RX1, "noteLooked", "(I[II)V"⟩
abbrev cX1_sortIn : ByteArray := prog_3_method_13_code
def yX1_sortIn : MethodName := ⟨RX1, "sortIn", "(II)V"⟩
abbrev cX2_init : ByteArray := prog_4_method_1_code
def yX2_init : MethodName := ⟨RX2, "<init>", "()V"⟩
abbrev cX2_slipsBetween : ByteArray := prog_4_method_2_code
def yX2_slipsBetween : MethodName := ⟨RX2, "slipsBetween", "(LSlipTrees$Book;II)I"⟩
abbrev cX2_lookCosts : ByteArray := prog_4_method_3_code
def yX2_lookCosts : MethodName := ⟨RX2, "lookCosts", "(LSlipTrees$Book;I)I"⟩
abbrev cX2_birthCosts : ByteArray := prog_4_method_4_code
def yX2_birthCosts : MethodName := ⟨RX2, "birthCosts", "(LSlipTrees$Book;I)I"⟩
abbrev cX2_slipTells : ByteArray := prog_4_method_5_code
def yX2_slipTells : MethodName := ⟨RX2, "slipTells", "(LSlipTrees$Book;IIII)I"⟩
abbrev cX2_entryTells : ByteArray := prog_4_method_6_code
def yX2_entryTells : MethodName := ⟨RX2, "entryTells", "(LSlipTrees$Book;III)I"⟩
abbrev cX2_openTells : ByteArray := prog_4_method_7_code
def yX2_openTells : MethodName := ⟨RX2, "openTells", "(LSlipTrees$Book;II)I"⟩
abbrev cX2_bars : ByteArray := prog_4_method_8_code
def yX2_bars : MethodName := ⟨RX2, "bars", "(LSlipTrees$Book;II)Z"⟩
abbrev cX2_askThing : ByteArray := prog_4_method_9_code
def yX2_askThing : MethodName := ⟨RX2, "askThing", "(LSlipTrees$Book;I)V"⟩
abbrev cX2_askPapers : ByteArray := prog_4_method_10_code
def yX2_askPapers : MethodName := ⟨RX2, "askPapers", "(LSlipTrees$Book;II)V"⟩
abbrev cX2_tell : ByteArray := prog_4_method_11_code
def yX2_tell : MethodName := ⟨RX2, "tell", "(LSlipTrees$Book;I)I"⟩
abbrev cX2_works : ByteArray := prog_4_method_12_code
def yX2_works : MethodName := ⟨RX2, "works", "([III)Z"⟩
abbrev cX2_joins : ByteArray := prog_4_method_13_code
def yX2_joins : MethodName := ⟨RX2, "joins", "(II)Z"⟩
abbrev cX3_init : ByteArray := prog_5_method_1_code
def yX3_init : MethodName := ⟨RX3, "<init>", "(LSlipTrees$Book;LSlipTrees$Laws;LSlipTrees$Chooser;)V"⟩
abbrev cX3_forget : ByteArray := prog_5_method_2_code
def yX3_forget : MethodName := ⟨RX3, "forget", "()V"⟩
abbrev cX3_sourcesOf : ByteArray := prog_5_method_3_code
def yX3_sourcesOf : MethodName := ⟨RX3, "sourcesOf", "(II)I"⟩
abbrev cX3_openTo : ByteArray := prog_5_method_4_code
def yX3_openTo : MethodName := ⟨RX3, "openTo", "(I)I"⟩
abbrev cX3_settle : ByteArray := prog_5_method_5_code
def yX3_settle : MethodName := ⟨RX3, "settle", "(III)V"⟩
abbrev cX3_sumOf : ByteArray := prog_5_method_6_code
def yX3_sumOf : MethodName := ⟨RX3, "sumOf", "(I)I"⟩
abbrev cX3_bitsOf : ByteArray := prog_5_method_7_code
def yX3_bitsOf : MethodName := ⟨RX3, "bitsOf", "(I)I"⟩
abbrev cX3_originOf : ByteArray := prog_5_method_8_code
def yX3_originOf : MethodName := ⟨RX3, "originOf", "(I)I"⟩
abbrev cX3_sumOfAll : ByteArray := prog_5_method_9_code
def yX3_sumOfAll : MethodName := ⟨RX3, "sumOfAll", "(I)I"⟩
abbrev cX3_comesFrom : ByteArray := prog_5_method_10_code
def yX3_comesFrom : MethodName := ⟨RX3, "comesFrom", "(II)Z"⟩
abbrev cX3_reachAll : ByteArray := prog_5_method_11_code
def yX3_reachAll : MethodName := ⟨RX3, "reachAll", "(I)V"⟩
abbrev cX3_joinLooked : ByteArray := prog_5_method_12_code
def yX3_joinLooked : MethodName := ⟨RX3, "joinLooked", "(I)V"⟩
abbrev cX3_lookedWithin : ByteArray := prog_5_method_13_code
def yX3_lookedWithin : MethodName := ⟨RX3, "lookedWithin", "(IZ)I"⟩
abbrev cX4_init : ByteArray := prog_6_method_1_code
def yX4_init : MethodName := ⟨RX4, "<init>", "()V"⟩
abbrev cX4_make : ByteArray := prog_6_method_2_code
def yX4_make : MethodName := ⟨RX4, "make", "(LSlipTrees$Book;II)V"⟩
abbrev cX4_originOf : ByteArray := prog_6_method_3_code
def yX4_originOf : MethodName := ⟨RX4, "originOf", "(I)I"⟩
abbrev cX4_makeEntry : ByteArray := prog_6_method_4_code
def yX4_makeEntry : MethodName := ⟨RX4, "makeEntry", "(II)V"⟩
abbrev cX4_countOf : ByteArray := prog_6_method_5_code
def yX4_countOf : MethodName := ⟨RX4, "countOf", "(I)I"⟩
abbrev cX4_pick : ByteArray := prog_6_method_6_code
def yX4_pick : MethodName := ⟨RX4, "pick", "(II)I"⟩
abbrev cX4_draw : ByteArray := prog_6_method_7_code
def yX4_draw : MethodName := ⟨RX4, "draw", "(I)I"⟩
abbrev cX5_init : ByteArray := prog_7_method_1_code
def yX5_init : MethodName := ⟨RX5, "<init>", "(LSlipTrees$Tape;)V"⟩
abbrev cX5_read : ByteArray := prog_7_method_2_code
def yX5_read : MethodName := ⟨RX5, "read", "()LSlipTrees$Text;"⟩
abbrev cX5_readClause : ByteArray := prog_7_method_3_code
def yX5_readClause : MethodName := ⟨RX5, "readClause", "()Z"⟩
abbrev cX5_readTest : ByteArray := prog_7_method_4_code
def yX5_readTest : MethodName := ⟨RX5, "readTest", "(I)Z"⟩
abbrev cX5_readBoth : ByteArray := prog_7_method_5_code
def yX5_readBoth : MethodName := ⟨RX5, "readBoth", "(I)Z"⟩
abbrev cX5_readPlain : ByteArray := prog_7_method_6_code
def yX5_readPlain : MethodName := ⟨RX5, "readPlain", "(I)Z"⟩
abbrev cX5_readBracket : ByteArray := prog_7_method_7_code
def yX5_readBracket : MethodName := ⟨RX5, "readBracket", "(I)Z"⟩
abbrev cX5_readComparison : ByteArray := prog_7_method_8_code
def yX5_readComparison : MethodName := ⟨RX5, "readComparison", "(I)Z"⟩
abbrev cX5_readSum : ByteArray := prog_7_method_9_code
def yX5_readSum : MethodName := ⟨RX5, "readSum", "(I)Z"⟩
abbrev cX5_readTerm : ByteArray := prog_7_method_10_code
def yX5_readTerm : MethodName := ⟨RX5, "readTerm", "(I)Z"⟩
abbrev cX5_readPart : ByteArray := prog_7_method_11_code
def yX5_readPart : MethodName := ⟨RX5, "readPart", "(I)Z"⟩
abbrev cX5_isPlain : ByteArray := prog_7_method_12_code
def yX5_isPlain : MethodName := ⟨RX5, "isPlain", "()Z"⟩
abbrev cX5_readLeaf : ByteArray := prog_7_method_13_code
def yX5_readLeaf : MethodName := ⟨RX5, "readLeaf", "()Z"⟩
abbrev cX5_emitJump : ByteArray := prog_7_method_14_code
def yX5_emitJump : MethodName := ⟨RX5, "emitJump", "()I"⟩
abbrev cX5_aim : ByteArray := prog_7_method_15_code
def yX5_aim : MethodName := ⟨RX5, "aim", "(I)V"⟩
abbrev cX5_emit : ByteArray := prog_7_method_16_code
def yX5_emit : MethodName := ⟨RX5, "emit", "(I)V"⟩
abbrev cX5_advance : ByteArray := prog_7_method_17_code
def yX5_advance : MethodName := ⟨RX5, "advance", "()V"⟩
abbrev cX5_isLetter : ByteArray := prog_7_method_18_code
def yX5_isLetter : MethodName := ⟨RX5, "isLetter", "(I)Z"⟩
abbrev cX5_isDigit : ByteArray := prog_7_method_19_code
def yX5_isDigit : MethodName := ⟨RX5, "isDigit", "(I)Z"⟩
abbrev cX5_numberAt : ByteArray := prog_7_method_20_code
def yX5_numberAt : MethodName := ⟨RX5, "numberAt", "(II)I"⟩
abbrev cX5_wordAt : ByteArray := prog_7_method_21_code
def yX5_wordAt : MethodName := ⟨RX5, "wordAt", "(II)I"⟩
abbrev cX6_init : ByteArray := prog_8_method_1_code
def yX6_init : MethodName := ⟨RX6, "<init>", "()V"⟩
abbrev cX6_add : ByteArray := prog_8_method_2_code
def yX6_add : MethodName := ⟨RX6, "add", "(I)V"⟩
abbrev cX6_byteAt : ByteArray := prog_8_method_3_code
def yX6_byteAt : MethodName := ⟨RX6, "byteAt", "(I)I"⟩
abbrev cX6_pairAt : ByteArray := prog_8_method_4_code
def yX6_pairAt : MethodName := ⟨RX6, "pairAt", "(I)I"⟩
abbrev cX7_init : ByteArray := prog_9_method_1_code
def yX7_init : MethodName := ⟨RX7, "<init>", "([I[I)V"⟩
abbrev cX8_init : ByteArray := prog_1_method_1_code
def yX8_init : MethodName := ⟨RX8, "<init>", "()V"⟩
abbrev cX8_thing : ByteArray := prog_1_method_2_code
def yX8_thing : MethodName := ⟨RX8, "thing", "(IIIIII)I"⟩
abbrev cX8_paper : ByteArray := prog_1_method_3_code
def yX8_paper : MethodName := ⟨RX8, "paper", "(III)I"⟩
abbrev cX8_entry : ByteArray := prog_1_method_4_code
def yX8_entry : MethodName := ⟨RX8, "entry", "(IIIIIII)I"⟩
abbrev cX8_row : ByteArray := prog_1_method_5_code
def yX8_row : MethodName := ⟨RX8, "row", "(I)I"⟩
abbrev cX8_readRow : ByteArray := prog_1_method_6_code
def yX8_readRow : MethodName := ⟨RX8, "readRow", "(I)I"⟩
abbrev cX8_addFromTape : ByteArray := prog_1_method_7_code
def yX8_addFromTape : MethodName := ⟨RX8, "addFromTape", "(II)Z"⟩
abbrev cX8_of : ByteArray := prog_1_method_8_code
def yX8_of : MethodName := ⟨RX8, "of", "(II)I"⟩
abbrev cX8_list : ByteArray := prog_1_method_9_code
def yX8_list : MethodName := ⟨RX8, "list", "(II)I"⟩
abbrev cX8_feed : ByteArray := prog_1_method_10_code
def yX8_feed : MethodName := ⟨RX8, "feed", "(IIIII)I"⟩
abbrev cX8_end : ByteArray := prog_1_method_11_code
def yX8_end : MethodName := ⟨RX8, "end", "(I)I"⟩
abbrev cX8_law : ByteArray := prog_1_method_12_code
def yX8_law : MethodName := ⟨RX8, "law", "()I"⟩
abbrev cX8_fault : ByteArray := prog_1_method_13_code
def yX8_fault : MethodName := ⟨RX8, "fault", "()I"⟩
abbrev cX8_kind : ByteArray := prog_1_method_14_code
def yX8_kind : MethodName := ⟨RX8, "kind", "(II)I"⟩
abbrev cX8_apart : ByteArray := prog_1_method_15_code
def yX8_apart : MethodName := ⟨RX8, "apart", "(III)I"⟩
abbrev cX8_twice : ByteArray := prog_1_method_16_code
def yX8_twice : MethodName := ⟨RX8, "twice", "(II)J"⟩
abbrev cX8_alike : ByteArray := prog_1_method_17_code
def yX8_alike : MethodName := ⟨RX8, "alike", "(II)I"⟩
abbrev cX8_least : ByteArray := prog_1_method_18_code
def yX8_least : MethodName := ⟨RX8, "least", "(III)I"⟩
abbrev cX8_source : ByteArray := prog_1_method_19_code
def yX8_source : MethodName := ⟨RX8, "source", "(III)I"⟩
abbrev cX8_from : ByteArray := prog_1_method_20_code
def yX8_from : MethodName := ⟨RX8, "from", "(II)I"⟩
abbrev cX8_judge : ByteArray := prog_1_method_21_code
def yX8_judge : MethodName := ⟨RX8, "judge", "(III)I"⟩
abbrev cX8_tree : ByteArray := prog_1_method_22_code
def yX8_tree : MethodName := ⟨RX8, "tree", "(II)I"⟩
abbrev cX8_treePart : ByteArray := prog_1_method_23_code
def yX8_treePart : MethodName := ⟨RX8, "treePart", "(II)I"⟩
abbrev cX8_lookers : ByteArray := prog_1_method_24_code
def yX8_lookers : MethodName := ⟨RX8, "lookers", "(III)I"⟩
abbrev cX8_births : ByteArray := prog_1_method_25_code
def yX8_births : MethodName := ⟨RX8, "births", "(III)I"⟩
abbrev cX8_drift : ByteArray := prog_1_method_26_code
def yX8_drift : MethodName := ⟨RX8, "drift", "(II)I"⟩
abbrev cX8_weight : ByteArray := prog_1_method_27_code
def yX8_weight : MethodName := ⟨RX8, "weight", "(II)I"⟩
abbrev cX8_run : ByteArray := prog_1_method_28_code
def yX8_run : MethodName := ⟨RX8, "run", "(III)I"⟩
abbrev cX8_sharedFrom : ByteArray := prog_1_method_29_code
def yX8_sharedFrom : MethodName := ⟨RX8, "sharedFrom", "(IIII)I"⟩
abbrev cX8_world : ByteArray := prog_1_method_30_code
def yX8_world : MethodName := ⟨RX8, "world", "(III)I"⟩
abbrev cX8_image : ByteArray := prog_1_method_31_code
def yX8_image : MethodName := ⟨RX8, "image", "(I)I"⟩
abbrev cX8_back : ByteArray := prog_1_method_32_code
def yX8_back : MethodName := ⟨RX8, "back", "(I)I"⟩
abbrev cX8_count : ByteArray := prog_1_method_33_code
def yX8_count : MethodName := ⟨RX8, "count", "(I)I"⟩
abbrev cX8_status : ByteArray := prog_1_method_34_code
def yX8_status : MethodName := ⟨RX8, "status", "()I"⟩
abbrev cX8_accept : ByteArray := prog_1_method_35_code
def yX8_accept : MethodName := ⟨RX8, "accept", "(I)I"⟩
abbrev cX8_refuse : ByteArray := prog_1_method_36_code
def yX8_refuse : MethodName := ⟨RX8, "refuse", "(I)I"⟩
abbrev cX8_placeOf : ByteArray := prog_1_method_37_code
def yX8_placeOf : MethodName := ⟨RX8, "placeOf", "(I)I"⟩
abbrev cX8_within : ByteArray := prog_1_method_38_code
def yX8_within : MethodName := ⟨RX8, "within", "(II)Z"⟩
abbrev cX8_areFields : ByteArray := prog_1_method_39_code
def yX8_areFields : MethodName := ⟨RX8, "areFields", "(IIII)Z"⟩
abbrev cX8_areOfOneThing : ByteArray := prog_1_method_40_code
def yX8_areOfOneThing : MethodName := ⟨RX8, "areOfOneThing", "(II)Z"⟩
abbrev cX8_slipKind : ByteArray := prog_1_method_41_code
def yX8_slipKind : MethodName := ⟨RX8, "slipKind", "(II)I"⟩
abbrev cX8_isNear : ByteArray := prog_1_method_42_code
def yX8_isNear : MethodName := ⟨RX8, "isNear", "(II)Z"⟩
abbrev cX8_isSwap : ByteArray := prog_1_method_43_code
def yX8_isSwap : MethodName := ⟨RX8, "isSwap", "(II)Z"⟩
abbrev cX8_isDrop : ByteArray := prog_1_method_44_code
def yX8_isDrop : MethodName := ⟨RX8, "isDrop", "(II)Z"⟩
abbrev cX9_init : ByteArray := prog_11_method_1_code
def yX9_init : MethodName := ⟨RX9, "<init>", "()V"⟩
abbrev cX9_in : ByteArray := prog_11_method_3_code
def yX9_in : MethodName := ⟨RX9, "in", "(JJJ)Z"⟩
abbrev cX9_tell : ByteArray := prog_11_method_4_code
def yX9_tell : MethodName := ⟨RX9, "tell", "(I)I"⟩
abbrev cX9_isDay : ByteArray := prog_11_method_5_code
def yX9_isDay : MethodName := ⟨RX9, "isDay", "(I)Z"⟩
abbrev cX9_image : ByteArray := prog_11_method_6_code
def yX9_image : MethodName := ⟨RX9, "image", "(I)I"⟩
abbrev cX9_back : ByteArray := prog_11_method_7_code
def yX9_back : MethodName := ⟨RX9, "back", "(I)I"⟩
abbrev cX9_isThing : ByteArray := prog_11_method_8_code
def yX9_isThing : MethodName := ⟨RX9, "isThing", "(I)Z"⟩
abbrev cX9_isPaper : ByteArray := prog_11_method_9_code
def yX9_isPaper : MethodName := ⟨RX9, "isPaper", "(I)Z"⟩
abbrev cX9_isEntry : ByteArray := prog_11_method_10_code
def yX9_isEntry : MethodName := ⟨RX9, "isEntry", "(I)Z"⟩
abbrev cX9_thingAt : ByteArray := prog_11_method_11_code
def yX9_thingAt : MethodName := ⟨RX9, "thingAt", "(I)I"⟩
abbrev cX9_paperAt : ByteArray := prog_11_method_12_code
def yX9_paperAt : MethodName := ⟨RX9, "paperAt", "(I)I"⟩
abbrev cX9_entryAt : ByteArray := prog_11_method_13_code
def yX9_entryAt : MethodName := ⟨RX9, "entryAt", "(I)I"⟩
abbrev cX9_paperOf : ByteArray := prog_11_method_14_code
def yX9_paperOf : MethodName := ⟨RX9, "paperOf", "(I)I"⟩
abbrev cX9_thingOf : ByteArray := prog_11_method_15_code
def yX9_thingOf : MethodName := ⟨RX9, "thingOf", "(I)I"⟩
abbrev cX9_fieldOf : ByteArray := prog_11_method_16_code
def yX9_fieldOf : MethodName := ⟨RX9, "fieldOf", "(II)I"⟩
abbrev cX9_rightOf : ByteArray := prog_11_method_17_code
def yX9_rightOf : MethodName := ⟨RX9, "rightOf", "(II)I"⟩
abbrev cX9_isGhost : ByteArray := prog_11_method_18_code
def yX9_isGhost : MethodName := ⟨RX9, "isGhost", "(I)Z"⟩
abbrev cX9_areFields : ByteArray := prog_11_method_19_code
def yX9_areFields : MethodName := ⟨RX9, "areFields", "(IIIII)Z"⟩
abbrev cX9_lay : ByteArray := prog_11_method_20_code
def yX9_lay : MethodName := ⟨RX9, "lay", "(IIIIII)V"⟩
abbrev cX9_thing : ByteArray := prog_11_method_21_code
def yX9_thing : MethodName := ⟨RX9, "thing", "(IIIIII)I"⟩
abbrev cX9_paper : ByteArray := prog_11_method_22_code
def yX9_paper : MethodName := ⟨RX9, "paper", "(III)I"⟩
abbrev cX9_addPaper : ByteArray := prog_11_method_23_code
def yX9_addPaper : MethodName := ⟨RX9, "addPaper", "(III)V"⟩
abbrev cX9_addEntry : ByteArray := prog_11_method_24_code
def yX9_addEntry : MethodName := ⟨RX9, "addEntry", "(IIIIIII)V"⟩
abbrev cX9_longOf : ByteArray := prog_11_method_25_code
def yX9_longOf : MethodName := ⟨RX9, "longOf", "(I)I"⟩
abbrev cX9_isRoom : ByteArray := prog_11_method_26_code
def yX9_isRoom : MethodName := ⟨RX9, "isRoom", "(I)Z"⟩
abbrev cX9_entry : ByteArray := prog_11_method_27_code
def yX9_entry : MethodName := ⟨RX9, "entry", "(IIIIIII)I"⟩
abbrev cX9_row : ByteArray := prog_11_method_28_code
def yX9_row : MethodName := ⟨RX9, "row", "(I)I"⟩
abbrev cX9_entryOf : ByteArray := prog_11_method_29_code
def yX9_entryOf : MethodName := ⟨RX9, "entryOf", "(II)I"⟩
abbrev cX9_of : ByteArray := prog_11_method_30_code
def yX9_of : MethodName := ⟨RX9, "of", "(II)I"⟩
abbrev cX9_list : ByteArray := prog_11_method_31_code
def yX9_list : MethodName := ⟨RX9, "list", "(II)I"⟩
abbrev cX9_four : ByteArray := prog_11_method_32_code
def yX9_four : MethodName := ⟨RX9, "four", "(I)V"⟩
abbrev cX9_feed : ByteArray := prog_11_method_33_code
def yX9_feed : MethodName := ⟨RX9, "feed", "(IIIII)I"⟩
abbrev cX9_end : ByteArray := prog_11_method_34_code
def yX9_end : MethodName := ⟨RX9, "end", "(I)I"⟩
abbrev cX9_isSmall : ByteArray := prog_11_method_35_code
def yX9_isSmall : MethodName := ⟨RX9, "isSmall", "(I)Z"⟩
abbrev cX9_isDigit : ByteArray := prog_11_method_36_code
def yX9_isDigit : MethodName := ⟨RX9, "isDigit", "(I)Z"⟩
abbrev cX9_begin : ByteArray := prog_11_method_37_code
def yX9_begin : MethodName := ⟨RX9, "begin", "()V"⟩
abbrev cX9_next : ByteArray := prog_11_method_38_code
def yX9_next : MethodName := ⟨RX9, "next", "()V"⟩
abbrev cX9_isWord : ByteArray := prog_11_method_39_code
def yX9_isWord : MethodName := ⟨RX9, "isWord", "(J)Z"⟩
abbrev cX9_isSign : ByteArray := prog_11_method_40_code
def yX9_isSign : MethodName := ⟨RX9, "isSign", "(I)Z"⟩
abbrev cX9_must : ByteArray := prog_11_method_41_code
def yX9_must : MethodName := ⟨RX9, "must", "(Z)V"⟩
abbrev cX9_fault : ByteArray := prog_11_method_43_code
def yX9_fault : MethodName := ⟨RX9, "fault", "()I"⟩
abbrev cX9_emit : ByteArray := prog_11_method_44_code
def yX9_emit : MethodName := ⟨RX9, "emit", "(II)V"⟩
abbrev cX9_push : ByteArray := prog_11_method_45_code
def yX9_push : MethodName := ⟨RX9, "push", "(II)V"⟩
abbrev cX9_binds : ByteArray := prog_11_method_46_code
def yX9_binds : MethodName := ⟨RX9, "binds", "(I)I"⟩
abbrev cX9_settle : ByteArray := prog_11_method_47_code
def yX9_settle : MethodName := ⟨RX9, "settle", "(I)V"⟩
abbrev cX9_inner : ByteArray := prog_11_method_48_code
def yX9_inner : MethodName := ⟨RX9, "inner", "()I"⟩
abbrev cX9_isCompared : ByteArray := prog_11_method_49_code
def yX9_isCompared : MethodName := ⟨RX9, "isCompared", "()Z"⟩
abbrev cX9_partAt : ByteArray := prog_11_method_50_code
def yX9_partAt : MethodName := ⟨RX9, "partAt", "()I"⟩
abbrev cX9_plainAt : ByteArray := prog_11_method_51_code
def yX9_plainAt : MethodName := ⟨RX9, "plainAt", "()I"⟩
abbrev cX9_openBracket : ByteArray := prog_11_method_52_code
def yX9_openBracket : MethodName := ⟨RX9, "openBracket", "(I)V"⟩
abbrev cX9_leaf : ByteArray := prog_11_method_53_code
def yX9_leaf : MethodName := ⟨RX9, "leaf", "(ZII)V"⟩
abbrev cX9_readPart : ByteArray := prog_11_method_54_code
def yX9_readPart : MethodName := ⟨RX9, "readPart", "()I"⟩
abbrev cX9_readPlain : ByteArray := prog_11_method_55_code
def yX9_readPlain : MethodName := ⟨RX9, "readPlain", "()I"⟩
abbrev cX9_behindSum : ByteArray := prog_11_method_56_code
def yX9_behindSum : MethodName := ⟨RX9, "behindSum", "(Z)I"⟩
abbrev cX9_behindTest : ByteArray := prog_11_method_57_code
def yX9_behindTest : MethodName := ⟨RX9, "behindTest", "()I"⟩
abbrev cX9_readExpression : ByteArray := prog_11_method_58_code
def yX9_readExpression : MethodName := ⟨RX9, "readExpression", "(Z)V"⟩
abbrev cX9_headAt : ByteArray := prog_11_method_59_code
def yX9_headAt : MethodName := ⟨RX9, "headAt", "()I"⟩
abbrev cX9_readClause : ByteArray := prog_11_method_60_code
def yX9_readClause : MethodName := ⟨RX9, "readClause", "()V"⟩
abbrev cX9_law : ByteArray := prog_11_method_61_code
def yX9_law : MethodName := ⟨RX9, "law", "()I"⟩
abbrev cX9_textAt : ByteArray := prog_11_method_62_code
def yX9_textAt : MethodName := ⟨RX9, "textAt", "(I)I"⟩
abbrev cX9_setNothing : ByteArray := prog_11_method_63_code
def yX9_setNothing : MethodName := ⟨RX9, "setNothing", "()V"⟩
abbrev cX9_setThing : ByteArray := prog_11_method_64_code
def yX9_setThing : MethodName := ⟨RX9, "setThing", "(I)V"⟩
abbrev cX9_reckon : ByteArray := prog_11_method_65_code
def yX9_reckon : MethodName := ⟨RX9, "reckon", "(IJJ)J"⟩
abbrev cX9_reckonAll : ByteArray := prog_11_method_66_code
def yX9_reckonAll : MethodName := ⟨RX9, "reckonAll", "(III)V"⟩
abbrev cX9_isSo : ByteArray := prog_11_method_67_code
def yX9_isSo : MethodName := ⟨RX9, "isSo", "(II)Z"⟩
abbrev cX9_find : ByteArray := prog_11_method_68_code
def yX9_find : MethodName := ⟨RX9, "find", "(II)I"⟩
abbrev cX9_digit : ByteArray := prog_11_method_69_code
def yX9_digit : MethodName := ⟨RX9, "digit", "(II)I"⟩
abbrev cX9_tens : ByteArray := prog_11_method_70_code
def yX9_tens : MethodName := ⟨RX9, "tens", "(I)I"⟩
abbrev cX9_isNear : ByteArray := prog_11_method_71_code
def yX9_isNear : MethodName := ⟨RX9, "isNear", "(II)Z"⟩
abbrev cX9_isSwap : ByteArray := prog_11_method_72_code
def yX9_isSwap : MethodName := ⟨RX9, "isSwap", "(II)Z"⟩
abbrev cX9_isDrop : ByteArray := prog_11_method_73_code
def yX9_isDrop : MethodName := ⟨RX9, "isDrop", "(II)Z"⟩
abbrev cX9_kindOf : ByteArray := prog_11_method_74_code
def yX9_kindOf : MethodName := ⟨RX9, "kindOf", "(II)I"⟩
abbrev cX9_kind : ByteArray := prog_11_method_75_code
def yX9_kind : MethodName := ⟨RX9, "kind", "(II)I"⟩
abbrev cX9_slip : ByteArray := prog_11_method_76_code
def yX9_slip : MethodName := ⟨RX9, "slip", "(IIII)I"⟩
abbrev cX9_slips : ByteArray := prog_11_method_77_code
def yX9_slips : MethodName := ⟨RX9, "slips", "(II)I"⟩
abbrev cX9_apart : ByteArray := prog_11_method_78_code
def yX9_apart : MethodName := ⟨RX9, "apart", "(III)I"⟩
abbrev cX9_lookCost : ByteArray := prog_11_method_79_code
def yX9_lookCost : MethodName := ⟨RX9, "lookCost", "(I)I"⟩
abbrev cX9_setPapers : ByteArray := prog_11_method_80_code
def yX9_setPapers : MethodName := ⟨RX9, "setPapers", "(II)V"⟩
abbrev cX9_isSeen : ByteArray := prog_11_method_81_code
def yX9_isSeen : MethodName := ⟨RX9, "isSeen", "(II)Z"⟩
abbrev cX9_shares : ByteArray := prog_11_method_82_code
def yX9_shares : MethodName := ⟨RX9, "shares", "(II)Z"⟩
abbrev cX9_findSources : ByteArray := prog_11_method_83_code
def yX9_findSources : MethodName := ⟨RX9, "findSources", "(II)V"⟩
abbrev cX9_findCosts : ByteArray := prog_11_method_84_code
def yX9_findCosts : MethodName := ⟨RX9, "findCosts", "(II)V"⟩
abbrev cX9_findLift : ByteArray := prog_11_method_85_code
def yX9_findLift : MethodName := ⟨RX9, "findLift", "(III)V"⟩
abbrev cX9_bestSource : ByteArray := prog_11_method_86_code
def yX9_bestSource : MethodName := ⟨RX9, "bestSource", "(II)I"⟩
abbrev cX9_costOf : ByteArray := prog_11_method_87_code
def yX9_costOf : MethodName := ⟨RX9, "costOf", "(II)I"⟩
abbrev cX9_opensOf : ByteArray := prog_11_method_88_code
def yX9_opensOf : MethodName := ⟨RX9, "opensOf", "(I)I"⟩
abbrev cX9_sumBy : ByteArray := prog_11_method_89_code
def yX9_sumBy : MethodName := ⟨RX9, "sumBy", "(I)I"⟩
abbrev cX9_ones : ByteArray := prog_11_method_90_code
def yX9_ones : MethodName := ⟨RX9, "ones", "(I)I"⟩
abbrev cX9_findLeast : ByteArray := prog_11_method_91_code
def yX9_findLeast : MethodName := ⟨RX9, "findLeast", "(II)V"⟩
abbrev cX9_least : ByteArray := prog_11_method_92_code
def yX9_least : MethodName := ⟨RX9, "least", "(III)I"⟩
abbrev cX9_source : ByteArray := prog_11_method_93_code
def yX9_source : MethodName := ⟨RX9, "source", "(III)I"⟩
abbrev cX9_judge : ByteArray := prog_11_method_94_code
def yX9_judge : MethodName := ⟨RX9, "judge", "(III)I"⟩
abbrev cX9_findTree : ByteArray := prog_11_method_95_code
def yX9_findTree : MethodName := ⟨RX9, "findTree", "(I)V"⟩
abbrev cX9_from : ByteArray := prog_11_method_96_code
def yX9_from : MethodName := ⟨RX9, "from", "(II)I"⟩
abbrev cX9_treeOf : ByteArray := prog_11_method_97_code
def yX9_treeOf : MethodName := ⟨RX9, "treeOf", "(II)I"⟩
abbrev cX9_tree : ByteArray := prog_11_method_98_code
def yX9_tree : MethodName := ⟨RX9, "tree", "(II)I"⟩
abbrev cX9_clearNext : ByteArray := prog_11_method_99_code
def yX9_clearNext : MethodName := ⟨RX9, "clearNext", "()V"⟩
abbrev cX9_spend : ByteArray := prog_11_method_100_code
def yX9_spend : MethodName := ⟨RX9, "spend", "(II)V"⟩
abbrev cX9_takeNext : ByteArray := prog_11_method_101_code
def yX9_takeNext : MethodName := ⟨RX9, "takeNext", "()V"⟩
abbrev cX9_lookBy : ByteArray := prog_11_method_102_code
def yX9_lookBy : MethodName := ⟨RX9, "lookBy", "(II)V"⟩
abbrev cX9_lookAll : ByteArray := prog_11_method_103_code
def yX9_lookAll : MethodName := ⟨RX9, "lookAll", "(II)V"⟩
abbrev cX9_lookers : ByteArray := prog_11_method_104_code
def yX9_lookers : MethodName := ⟨RX9, "lookers", "(III)I"⟩
abbrev cX9_births : ByteArray := prog_11_method_105_code
def yX9_births : MethodName := ⟨RX9, "births", "(III)I"⟩
abbrev cX9_drift : ByteArray := prog_11_method_106_code
def yX9_drift : MethodName := ⟨RX9, "drift", "(II)I"⟩
abbrev cX9_weight : ByteArray := prog_11_method_107_code
def yX9_weight : MethodName := ⟨RX9, "weight", "(II)I"⟩
abbrev cX9_twice : ByteArray := prog_11_method_108_code
def yX9_twice : MethodName := ⟨RX9, "twice", "(II)J"⟩
abbrev cX9_alike : ByteArray := prog_11_method_109_code
def yX9_alike : MethodName := ⟨RX9, "alike", "(II)I"⟩
abbrev cX9_runFrom : ByteArray := prog_11_method_110_code
def yX9_runFrom : MethodName := ⟨RX9, "runFrom", "(IIII)I"⟩
abbrev cX9_run : ByteArray := prog_11_method_111_code
def yX9_run : MethodName := ⟨RX9, "run", "(III)I"⟩
abbrev cX9_draw : ByteArray := prog_11_method_112_code
def yX9_draw : MethodName := ⟨RX9, "draw", "(I)I"⟩
abbrev cX9_having : ByteArray := prog_11_method_113_code
def yX9_having : MethodName := ⟨RX9, "having", "(II)I"⟩
abbrev cX9_makeEntry : ByteArray := prog_11_method_114_code
def yX9_makeEntry : MethodName := ⟨RX9, "makeEntry", "(II)V"⟩
abbrev cX9_worldOf : ByteArray := prog_11_method_115_code
def yX9_worldOf : MethodName := ⟨RX9, "worldOf", "(III)I"⟩
abbrev cX9_world : ByteArray := prog_11_method_116_code
def yX9_world : MethodName := ⟨RX9, "world", "(III)I"⟩
abbrev cX9_count : ByteArray := prog_11_method_117_code
def yX9_count : MethodName := ⟨RX9, "count", "(I)I"⟩
abbrev cX9_status : ByteArray := prog_11_method_118_code
def yX9_status : MethodName := ⟨RX9, "status", "()I"⟩
abbrev cJ6_numberOfTrailingZeros_0f7a4 : ByteArray := prog_13_method_48_code
def yJ6_numberOfTrailingZeros_0f7a4 : MethodName := ⟨RJ6, "numberOfTrailingZeros", "(I)I"⟩
abbrev cJ6_bitCount_0f7a4 : ByteArray := prog_13_method_49_code
def yJ6_bitCount_0f7a4 : MethodName := ⟨RJ6, "bitCount", "(I)I"⟩
abbrev cJ9_abs_0f7a4 : ByteArray := prog_14_method_59_code
def yJ9_abs_0f7a4 : MethodName := ⟨RJ9, "abs", "(I)I"⟩
abbrev cJ9_max_7cf53 : ByteArray := prog_14_method_65_code
def yJ9_max_7cf53 : MethodName := ⟨RJ9, "max", "(II)I"⟩
abbrev cJ9_max_f86c9 : ByteArray := prog_14_method_66_code
def yJ9_max_f86c9 : MethodName := ⟨RJ9, "max", "(JJ)J"⟩
abbrev cJ9_min_7cf53 : ByteArray := prog_14_method_69_code
def yJ9_min_7cf53 : MethodName := ⟨RJ9, "min", "(II)I"⟩
abbrev cJ9_min_f86c9 : ByteArray := prog_14_method_70_code
def yJ9_min_f86c9 : MethodName := ⟨RJ9, "min", "(JJ)J"⟩
abbrev cJ0_length_8abf5 : ByteArray := prog_15_method_54_code
def yJ0_length_8abf5 : MethodName := ⟨RJ0, "length", "()I"⟩
abbrev cJ0_charAt_5068e : ByteArray := prog_15_method_56_code
def yJ0_charAt_5068e : MethodName := ⟨RJ0, "charAt", "(I)C"⟩
abbrev cJ0_coder_7d493 : ByteArray := prog_15_method_152_code
def yJ0_coder_7d493 : MethodName := ⟨RJ0, "coder", "()B"⟩
abbrev cJ0_isLatin1_aae02 : ByteArray := prog_15_method_154_code
def yJ0_isLatin1_aae02 : MethodName := ⟨RJ0, "isLatin1", "()Z"⟩
abbrev cJ0_checkIndex_df160 : ByteArray := prog_15_method_155_code
def yJ0_checkIndex_df160 : MethodName := ⟨RJ0, "checkIndex", "(II)V"⟩
abbrev cJ1_charAt_3b067 : ByteArray := prog_16_method_2_code
def yJ1_charAt_3b067 : MethodName := ⟨RJ1, "charAt", "([BI)C"⟩
abbrev cJ2_getChar_3b067 : ByteArray := prog_17_method_5_code
def yJ2_getChar_3b067 : MethodName := ⟨RJ2, "getChar", "([BI)C"⟩
abbrev cJ2_length_9d52b : ByteArray := prog_17_method_6_code
def yJ2_length_9d52b : MethodName := ⟨RJ2, "length", "([B)I"⟩
abbrev cJ2_charAt_3b067 : ByteArray := prog_17_method_83_code
def yJ2_charAt_3b067 : MethodName := ⟨RJ2, "charAt", "([BI)C"⟩
abbrev cJ2_checkIndex_2214a : ByteArray := prog_17_method_91_code
def yJ2_checkIndex_2214a : MethodName := ⟨RJ2, "checkIndex", "(I[B)V"⟩
abbrev cJ7_rangeCheck_23922 : ByteArray := prog_19_method_30_code
def yJ7_rangeCheck_23922 : MethodName := ⟨RJ7, "rangeCheck", "(III)V"⟩
abbrev cJ7_fill_53178 : ByteArray := prog_19_method_103_code
def yJ7_fill_53178 : MethodName := ⟨RJ7, "fill", "([II)V"⟩
abbrev cJ7_fill_fda19 : ByteArray := prog_19_method_104_code
def yJ7_fill_fda19 : MethodName := ⟨RJ7, "fill", "([IIII)V"⟩
abbrev cJ7_copyOf_59c91 : ByteArray := prog_19_method_123_code
def yJ7_copyOf_59c91 : MethodName := ⟨RJ7, "copyOf", "([II)[I"⟩
abbrev cJ3_checkIndex_8e157 : ByteArray := prog_20_method_11_code
def yJ3_checkIndex_8e157 : MethodName := ⟨RJ3, "checkIndex", "(IILjava/util/function/BiFunction;)I"⟩
abbrev vwCl : List vw_C := [(RX0, TX0, 9), (RX1, TX1, 15), (RX2, TX2, 3), (RX3, TX3, 11), (RX4, TX4, 4), (RX5, TX5, 10), (RX6, TX6, 2), (RX7, TX7, 2), (RX8, TX8, 13), (RX9, TX9, 52)]
abbrev ms_Yi : Type := MethodName × ByteArray × Nat × Option FieldType × Nat × Nat × Nat
/-- the methods: name, code, locals, answer, kind (0 static, 1 of an object, 2 constructor), how many arguments, class -/
def ms_Yl : List ms_Yi := [
  (yX0_init, cX0_init, 1, none, 2, 0, 0),
  (yX0_copyFrom, cX0_copyFrom, 3, none, 1, 1, 0),
  (yX0_dropPapers, cX0_dropPapers, 1, none, 1, 0, 0),
  (yX0_hasThing, cX0_hasThing, 2, some FieldType.boolean, 1, 1, 0),
  (yX0_hasPaper, cX0_hasPaper, 2, some FieldType.boolean, 1, 1, 0),
  (yX0_hasEntry, cX0_hasEntry, 2, some FieldType.boolean, 1, 1, 0),
  (yX0_hasRoomIn, cX0_hasRoomIn, 2, some FieldType.boolean, 1, 1, 0),
  (yX0_hasTrueThing, cX0_hasTrueThing, 2, some FieldType.boolean, 1, 0, 0),
  (yX0_isGhost, cX0_isGhost, 2, some FieldType.boolean, 1, 1, 0),
  (yX0_isSeen, cX0_isSeen, 3, some FieldType.boolean, 1, 2, 0),
  (yX0_ofThing, cX0_ofThing, 3, some FieldType.int, 1, 2, 0),
  (yX0_ofPaper, cX0_ofPaper, 3, some FieldType.int, 1, 2, 0),
  (yX0_ofEntry, cX0_ofEntry, 3, some FieldType.int, 1, 2, 0),
  (yX0_fieldOf, cX0_fieldOf, 3, some FieldType.int, 1, 2, 0),
  (yX0_entryAt, cX0_entryAt, 3, some FieldType.int, 1, 2, 0),
  (yX0_textAt, cX0_textAt, 2, some (FieldType.object "SlipTrees$Text"), 1, 1, 0),
  (yX0_addThing, cX0_addThing, 8, some FieldType.int, 1, 6, 0),
  (yX0_addPaper, cX0_addPaper, 5, some FieldType.int, 1, 3, 0),
  (yX0_addEntry, cX0_addEntry, 10, some FieldType.int, 1, 7, 0),
  (yX0_addText, cX0_addText, 2, some FieldType.int, 1, 1, 0),
  (yX0_setField, cX0_setField, 4, none, 1, 3, 0),
  (yX0_areAlike, cX0_areAlike, 4, some FieldType.boolean, 1, 2, 0),
  (yX0_fieldsMadeRight, cX0_fieldsMadeRight, 7, some FieldType.int, 1, 2, 0),
  (yX0_thingsIn, cX0_thingsIn, 4, some FieldType.int, 1, 1, 0),
  (yX1_init, cX1_init, 2, none, 2, 1, 1),
  (yX1_load, cX1_load, 9, none, 1, 3, 1),
  (yX1_offer, cX1_offer, 4, none, 1, 3, 1),
  (yX1_search, cX1_search, 4, none, 1, 0, 1),
  (yX1_rowFor, cX1_rowFor, 7, some FieldType.int, 1, 1, 1),
  (yX1_sumAt, cX1_sumAt, 4, some FieldType.int, 1, 1, 1),
  (yX1_rowAlone, cX1_rowAlone, 4, some FieldType.int, 1, 1, 1),
  (yX1_sumWith, cX1_sumWith, 2, some FieldType.int, 1, 1, 1),
  (yX1_tellOrigins, cX1_tellOrigins, 6, none, 1, 1, 1),
  (yX1_firstAt, cX1_firstAt, 5, some FieldType.int, 1, 2, 1),
  (yX1_tellLooked, cX1_tellLooked, 6, none, 1, 3, 1),
  (yX1_noteLooked, cX1_noteLooked, 9, none, 1, 3, 1),
  (yX1_sortIn, cX1_sortIn, 4, none, 1, 2, 1),
  (yX2_init, cX2_init, 1, none, 2, 0, 2),
  (yX2_slipsBetween, cX2_slipsBetween, 9, some FieldType.int, 1, 3, 2),
  (yX2_lookCosts, cX2_lookCosts, 8, some FieldType.int, 1, 2, 2),
  (yX2_birthCosts, cX2_birthCosts, 3, some FieldType.int, 1, 2, 2),
  (yX2_slipTells, cX2_slipTells, 8, some FieldType.int, 1, 5, 2),
  (yX2_entryTells, cX2_entryTells, 6, some FieldType.int, 1, 4, 2),
  (yX2_openTells, cX2_openTells, 5, some FieldType.int, 1, 3, 2),
  (yX2_bars, cX2_bars, 4, some FieldType.boolean, 1, 3, 2),
  (yX2_askThing, cX2_askThing, 3, none, 1, 2, 2),
  (yX2_askPapers, cX2_askPapers, 4, none, 1, 3, 2),
  (yX2_tell, cX2_tell, 9, some FieldType.int, 1, 2, 2),
  (yX2_works, cX2_works, 10, some FieldType.boolean, 1, 3, 2),
  (yX2_joins, cX2_joins, 9, some FieldType.boolean, 1, 2, 2),
  (yX3_init, cX3_init, 4, none, 2, 3, 3),
  (yX3_forget, cX3_forget, 1, none, 1, 0, 3),
  (yX3_sourcesOf, cX3_sourcesOf, 6, some FieldType.int, 1, 2, 3),
  (yX3_openTo, cX3_openTo, 7, some FieldType.int, 1, 1, 3),
  (yX3_settle, cX3_settle, 6, none, 1, 3, 3),
  (yX3_sumOf, cX3_sumOf, 2, some FieldType.int, 1, 1, 3),
  (yX3_bitsOf, cX3_bitsOf, 2, some FieldType.int, 1, 1, 3),
  (yX3_originOf, cX3_originOf, 2, some FieldType.int, 1, 1, 3),
  (yX3_sumOfAll, cX3_sumOfAll, 4, some FieldType.int, 1, 1, 3),
  (yX3_comesFrom, cX3_comesFrom, 5, some FieldType.boolean, 1, 2, 3),
  (yX3_reachAll, cX3_reachAll, 4, none, 1, 1, 3),
  (yX3_joinLooked, cX3_joinLooked, 5, none, 1, 1, 3),
  (yX3_lookedWithin, cX3_lookedWithin, 5, some FieldType.int, 1, 2, 3),
  (yX4_init, cX4_init, 1, none, 2, 0, 4),
  (yX4_make, cX4_make, 6, none, 1, 3, 4),
  (yX4_originOf, cX4_originOf, 2, some FieldType.int, 1, 1, 4),
  (yX4_makeEntry, cX4_makeEntry, 8, none, 1, 2, 4),
  (yX4_countOf, cX4_countOf, 4, some FieldType.int, 1, 1, 4),
  (yX4_pick, cX4_pick, 5, some FieldType.int, 1, 2, 4),
  (yX4_draw, cX4_draw, 2, some FieldType.int, 1, 1, 4),
  (yX5_init, cX5_init, 2, none, 2, 1, 5),
  (yX5_read, cX5_read, 2, some (FieldType.object "SlipTrees$Text"), 1, 0, 5),
  (yX5_readClause, cX5_readClause, 5, some FieldType.boolean, 1, 0, 5),
  (yX5_readTest, cX5_readTest, 4, some FieldType.boolean, 1, 1, 5),
  (yX5_readBoth, cX5_readBoth, 4, some FieldType.boolean, 1, 1, 5),
  (yX5_readPlain, cX5_readPlain, 4, some FieldType.boolean, 1, 1, 5),
  (yX5_readBracket, cX5_readBracket, 3, some FieldType.boolean, 1, 1, 5),
  (yX5_readComparison, cX5_readComparison, 3, some FieldType.boolean, 1, 1, 5),
  (yX5_readSum, cX5_readSum, 4, some FieldType.boolean, 1, 1, 5),
  (yX5_readTerm, cX5_readTerm, 4, some FieldType.boolean, 1, 1, 5),
  (yX5_readPart, cX5_readPart, 4, some FieldType.boolean, 1, 1, 5),
  (yX5_isPlain, cX5_isPlain, 1, some FieldType.boolean, 1, 0, 5),
  (yX5_readLeaf, cX5_readLeaf, 1, some FieldType.boolean, 1, 0, 5),
  (yX5_emitJump, cX5_emitJump, 1, some FieldType.int, 1, 0, 5),
  (yX5_aim, cX5_aim, 2, none, 1, 1, 5),
  (yX5_emit, cX5_emit, 2, none, 1, 1, 5),
  (yX5_advance, cX5_advance, 4, none, 1, 0, 5),
  (yX5_isLetter, cX5_isLetter, 1, some FieldType.boolean, 0, 1, 5),
  (yX5_isDigit, cX5_isDigit, 1, some FieldType.boolean, 0, 1, 5),
  (yX5_numberAt, cX5_numberAt, 5, some FieldType.int, 1, 2, 5),
  (yX5_wordAt, cX5_wordAt, 7, some FieldType.int, 1, 2, 5),
  (yX6_init, cX6_init, 1, none, 2, 0, 6),
  (yX6_add, cX6_add, 3, none, 1, 1, 6),
  (yX6_byteAt, cX6_byteAt, 2, some FieldType.int, 1, 1, 6),
  (yX6_pairAt, cX6_pairAt, 4, some FieldType.int, 1, 1, 6),
  (yX7_init, cX7_init, 3, none, 2, 2, 7),
  (yX8_init, cX8_init, 2, none, 2, 0, 8),
  (yX8_thing, cX8_thing, 7, some FieldType.int, 1, 6, 8),
  (yX8_paper, cX8_paper, 4, some FieldType.int, 1, 3, 8),
  (yX8_entry, cX8_entry, 8, some FieldType.int, 1, 7, 8),
  (yX8_row, cX8_row, 3, some FieldType.int, 1, 1, 8),
  (yX8_readRow, cX8_readRow, 4, some FieldType.int, 1, 1, 8),
  (yX8_addFromTape, cX8_addFromTape, 9, some FieldType.boolean, 1, 2, 8),
  (yX8_of, cX8_of, 3, some FieldType.int, 1, 2, 8),
  (yX8_list, cX8_list, 3, some FieldType.int, 1, 2, 8),
  (yX8_feed, cX8_feed, 6, some FieldType.int, 1, 5, 8),
  (yX8_end, cX8_end, 2, some FieldType.int, 1, 1, 8),
  (yX8_law, cX8_law, 3, some FieldType.int, 1, 0, 8),
  (yX8_fault, cX8_fault, 1, some FieldType.int, 1, 0, 8),
  (yX8_kind, cX8_kind, 3, some FieldType.int, 1, 2, 8),
  (yX8_apart, cX8_apart, 6, some FieldType.int, 1, 3, 8),
  (yX8_twice, cX8_twice, 9, some FieldType.long, 1, 2, 8),
  (yX8_alike, cX8_alike, 5, some FieldType.int, 1, 2, 8),
  (yX8_least, cX8_least, 4, some FieldType.int, 1, 3, 8),
  (yX8_source, cX8_source, 7, some FieldType.int, 1, 3, 8),
  (yX8_from, cX8_from, 4, some FieldType.int, 1, 2, 8),
  (yX8_judge, cX8_judge, 5, some FieldType.int, 1, 3, 8),
  (yX8_tree, cX8_tree, 5, some FieldType.int, 1, 2, 8),
  (yX8_treePart, cX8_treePart, 6, some FieldType.int, 1, 2, 8),
  (yX8_lookers, cX8_lookers, 4, some FieldType.int, 1, 3, 8),
  (yX8_births, cX8_births, 7, some FieldType.int, 1, 3, 8),
  (yX8_drift, cX8_drift, 7, some FieldType.int, 1, 2, 8),
  (yX8_weight, cX8_weight, 5, some FieldType.int, 1, 2, 8),
  (yX8_run, cX8_run, 9, some FieldType.int, 1, 3, 8),
  (yX8_sharedFrom, cX8_sharedFrom, 8, some FieldType.int, 1, 4, 8),
  (yX8_world, cX8_world, 7, some FieldType.int, 1, 3, 8),
  (yX8_image, cX8_image, 2, some FieldType.int, 1, 1, 8),
  (yX8_back, cX8_back, 2, some FieldType.int, 1, 1, 8),
  (yX8_count, cX8_count, 3, some FieldType.int, 1, 1, 8),
  (yX8_status, cX8_status, 1, some FieldType.int, 1, 0, 8),
  (yX8_accept, cX8_accept, 2, some FieldType.int, 1, 1, 8),
  (yX8_refuse, cX8_refuse, 2, some FieldType.int, 1, 1, 8),
  (yX8_placeOf, cX8_placeOf, 1, some FieldType.int, 0, 1, 8),
  (yX8_within, cX8_within, 2, some FieldType.boolean, 0, 2, 8),
  (yX8_areFields, cX8_areFields, 4, some FieldType.boolean, 0, 4, 8),
  (yX8_areOfOneThing, cX8_areOfOneThing, 3, some FieldType.boolean, 1, 2, 8),
  (yX8_slipKind, cX8_slipKind, 2, some FieldType.int, 0, 2, 8),
  (yX8_isNear, cX8_isNear, 6, some FieldType.boolean, 0, 2, 8),
  (yX8_isSwap, cX8_isSwap, 6, some FieldType.boolean, 0, 2, 8),
  (yX8_isDrop, cX8_isDrop, 3, some FieldType.boolean, 0, 2, 8),
  (yX9_init, cX9_init, 1, none, 2, 0, 9),
  (yX9_in, cX9_in, 6, some FieldType.boolean, 0, 3, 9),
  (yX9_tell, cX9_tell, 2, some FieldType.int, 1, 1, 9),
  (yX9_isDay, cX9_isDay, 1, some FieldType.boolean, 0, 1, 9),
  (yX9_image, cX9_image, 3, some FieldType.int, 1, 1, 9),
  (yX9_back, cX9_back, 3, some FieldType.int, 1, 1, 9),
  (yX9_isThing, cX9_isThing, 2, some FieldType.boolean, 1, 1, 9),
  (yX9_isPaper, cX9_isPaper, 2, some FieldType.boolean, 1, 1, 9),
  (yX9_isEntry, cX9_isEntry, 2, some FieldType.boolean, 1, 1, 9),
  (yX9_thingAt, cX9_thingAt, 1, some FieldType.int, 0, 1, 9),
  (yX9_paperAt, cX9_paperAt, 1, some FieldType.int, 0, 1, 9),
  (yX9_entryAt, cX9_entryAt, 1, some FieldType.int, 0, 1, 9),
  (yX9_paperOf, cX9_paperOf, 2, some FieldType.int, 1, 1, 9),
  (yX9_thingOf, cX9_thingOf, 2, some FieldType.int, 1, 1, 9),
  (yX9_fieldOf, cX9_fieldOf, 3, some FieldType.int, 1, 2, 9),
  (yX9_rightOf, cX9_rightOf, 3, some FieldType.int, 1, 2, 9),
  (yX9_isGhost, cX9_isGhost, 2, some FieldType.boolean, 1, 1, 9),
  (yX9_areFields, cX9_areFields, 5, some FieldType.boolean, 0, 5, 9),
  (yX9_lay, cX9_lay, 7, none, 1, 6, 9),
  (yX9_thing, cX9_thing, 8, some FieldType.int, 1, 6, 9),
  (yX9_paper, cX9_paper, 4, some FieldType.int, 1, 3, 9),
  (yX9_addPaper, cX9_addPaper, 5, none, 1, 3, 9),
  (yX9_addEntry, cX9_addEntry, 9, none, 1, 7, 9),
  (yX9_longOf, cX9_longOf, 4, some FieldType.int, 1, 1, 9),
  (yX9_isRoom, cX9_isRoom, 2, some FieldType.boolean, 1, 1, 9),
  (yX9_entry, cX9_entry, 8, some FieldType.int, 1, 7, 9),
  (yX9_row, cX9_row, 10, some FieldType.int, 1, 1, 9),
  (yX9_entryOf, cX9_entryOf, 6, some FieldType.int, 1, 2, 9),
  (yX9_of, cX9_of, 5, some FieldType.int, 1, 2, 9),
  (yX9_list, cX9_list, 3, some FieldType.int, 1, 2, 9),
  (yX9_four, cX9_four, 3, none, 1, 1, 9),
  (yX9_feed, cX9_feed, 6, some FieldType.int, 1, 5, 9),
  (yX9_end, cX9_end, 2, some FieldType.int, 1, 1, 9),
  (yX9_isSmall, cX9_isSmall, 1, some FieldType.boolean, 0, 1, 9),
  (yX9_isDigit, cX9_isDigit, 1, some FieldType.boolean, 0, 1, 9),
  (yX9_begin, cX9_begin, 1, none, 1, 0, 9),
  (yX9_next, cX9_next, 1, none, 1, 0, 9),
  (yX9_isWord, cX9_isWord, 3, some FieldType.boolean, 1, 1, 9),
  (yX9_isSign, cX9_isSign, 2, some FieldType.boolean, 1, 1, 9),
  (yX9_must, cX9_must, 2, none, 1, 1, 9),
  (yX9_fault, cX9_fault, 1, some FieldType.int, 1, 0, 9),
  (yX9_emit, cX9_emit, 3, none, 1, 2, 9),
  (yX9_push, cX9_push, 3, none, 1, 2, 9),
  (yX9_binds, cX9_binds, 1, some FieldType.int, 0, 1, 9),
  (yX9_settle, cX9_settle, 2, none, 1, 1, 9),
  (yX9_inner, cX9_inner, 3, some FieldType.int, 1, 0, 9),
  (yX9_isCompared, cX9_isCompared, 2, some FieldType.boolean, 1, 0, 9),
  (yX9_partAt, cX9_partAt, 1, some FieldType.int, 1, 0, 9),
  (yX9_plainAt, cX9_plainAt, 1, some FieldType.int, 1, 0, 9),
  (yX9_openBracket, cX9_openBracket, 2, none, 1, 1, 9),
  (yX9_leaf, cX9_leaf, 4, none, 1, 3, 9),
  (yX9_readPart, cX9_readPart, 3, some FieldType.int, 1, 0, 9),
  (yX9_readPlain, cX9_readPlain, 2, some FieldType.int, 1, 0, 9),
  (yX9_behindSum, cX9_behindSum, 4, some FieldType.int, 1, 1, 9),
  (yX9_behindTest, cX9_behindTest, 2, some FieldType.int, 1, 0, 9),
  (yX9_readExpression, cX9_readExpression, 3, none, 1, 1, 9),
  (yX9_headAt, cX9_headAt, 1, some FieldType.int, 1, 0, 9),
  (yX9_readClause, cX9_readClause, 4, none, 1, 0, 9),
  (yX9_law, cX9_law, 3, some FieldType.int, 1, 0, 9),
  (yX9_textAt, cX9_textAt, 1, some FieldType.int, 0, 1, 9),
  (yX9_setNothing, cX9_setNothing, 2, none, 1, 0, 9),
  (yX9_setThing, cX9_setThing, 2, none, 1, 1, 9),
  (yX9_reckon, cX9_reckon, 6, some FieldType.long, 1, 3, 9),
  (yX9_reckonAll, cX9_reckonAll, 8, none, 1, 3, 9),
  (yX9_isSo, cX9_isSo, 3, some FieldType.boolean, 1, 2, 9),
  (yX9_find, cX9_find, 8, some FieldType.int, 1, 2, 9),
  (yX9_digit, cX9_digit, 4, some FieldType.int, 0, 2, 9),
  (yX9_tens, cX9_tens, 1, some FieldType.int, 0, 1, 9),
  (yX9_isNear, cX9_isNear, 7, some FieldType.boolean, 0, 2, 9),
  (yX9_isSwap, cX9_isSwap, 6, some FieldType.boolean, 0, 2, 9),
  (yX9_isDrop, cX9_isDrop, 4, some FieldType.boolean, 0, 2, 9),
  (yX9_kindOf, cX9_kindOf, 2, some FieldType.int, 0, 2, 9),
  (yX9_kind, cX9_kind, 3, some FieldType.int, 1, 2, 9),
  (yX9_slip, cX9_slip, 6, some FieldType.int, 1, 4, 9),
  (yX9_slips, cX9_slips, 5, some FieldType.int, 1, 2, 9),
  (yX9_apart, cX9_apart, 6, some FieldType.int, 1, 3, 9),
  (yX9_lookCost, cX9_lookCost, 5, some FieldType.int, 1, 1, 9),
  (yX9_setPapers, cX9_setPapers, 3, none, 1, 2, 9),
  (yX9_isSeen, cX9_isSeen, 3, some FieldType.boolean, 1, 2, 9),
  (yX9_shares, cX9_shares, 6, some FieldType.boolean, 1, 2, 9),
  (yX9_findSources, cX9_findSources, 4, none, 1, 2, 9),
  (yX9_findCosts, cX9_findCosts, 5, none, 1, 2, 9),
  (yX9_findLift, cX9_findLift, 6, none, 1, 3, 9),
  (yX9_bestSource, cX9_bestSource, 6, some FieldType.int, 1, 2, 9),
  (yX9_costOf, cX9_costOf, 4, some FieldType.int, 1, 2, 9),
  (yX9_opensOf, cX9_opensOf, 4, some FieldType.int, 1, 1, 9),
  (yX9_sumBy, cX9_sumBy, 4, some FieldType.int, 1, 1, 9),
  (yX9_ones, cX9_ones, 3, some FieldType.int, 0, 1, 9),
  (yX9_findLeast, cX9_findLeast, 5, none, 1, 2, 9),
  (yX9_least, cX9_least, 4, some FieldType.int, 1, 3, 9),
  (yX9_source, cX9_source, 4, some FieldType.int, 1, 3, 9),
  (yX9_judge, cX9_judge, 4, some FieldType.int, 1, 3, 9),
  (yX9_findTree, cX9_findTree, 5, none, 1, 1, 9),
  (yX9_from, cX9_from, 3, some FieldType.int, 1, 2, 9),
  (yX9_treeOf, cX9_treeOf, 7, some FieldType.int, 1, 2, 9),
  (yX9_tree, cX9_tree, 5, some FieldType.int, 1, 2, 9),
  (yX9_clearNext, cX9_clearNext, 2, none, 1, 0, 9),
  (yX9_spend, cX9_spend, 6, none, 1, 2, 9),
  (yX9_takeNext, cX9_takeNext, 2, none, 1, 0, 9),
  (yX9_lookBy, cX9_lookBy, 6, none, 1, 2, 9),
  (yX9_lookAll, cX9_lookAll, 7, none, 1, 2, 9),
  (yX9_lookers, cX9_lookers, 7, some FieldType.int, 1, 3, 9),
  (yX9_births, cX9_births, 7, some FieldType.int, 1, 3, 9),
  (yX9_drift, cX9_drift, 4, some FieldType.int, 1, 2, 9),
  (yX9_weight, cX9_weight, 6, some FieldType.int, 1, 2, 9),
  (yX9_twice, cX9_twice, 6, some FieldType.long, 1, 2, 9),
  (yX9_alike, cX9_alike, 7, some FieldType.int, 1, 2, 9),
  (yX9_runFrom, cX9_runFrom, 6, some FieldType.int, 1, 4, 9),
  (yX9_run, cX9_run, 9, some FieldType.int, 1, 3, 9),
  (yX9_draw, cX9_draw, 2, some FieldType.int, 1, 1, 9),
  (yX9_having, cX9_having, 6, some FieldType.int, 1, 2, 9),
  (yX9_makeEntry, cX9_makeEntry, 9, none, 1, 2, 9),
  (yX9_worldOf, cX9_worldOf, 7, some FieldType.int, 1, 3, 9),
  (yX9_world, cX9_world, 7, some FieldType.int, 1, 3, 9),
  (yX9_count, cX9_count, 2, some FieldType.int, 1, 1, 9),
  (yX9_status, cX9_status, 1, some FieldType.int, 1, 0, 9),
  (yJ6_numberOfTrailingZeros_0f7a4, cJ6_numberOfTrailingZeros_0f7a4, 2, some FieldType.int, 0, 1, 99),
  (yJ6_bitCount_0f7a4, cJ6_bitCount_0f7a4, 1, some FieldType.int, 0, 1, 99),
  (yJ9_abs_0f7a4, cJ9_abs_0f7a4, 1, some FieldType.int, 0, 1, 99),
  (yJ9_max_7cf53, cJ9_max_7cf53, 2, some FieldType.int, 0, 2, 99),
  (yJ9_max_f86c9, cJ9_max_f86c9, 4, some FieldType.long, 0, 2, 99),
  (yJ9_min_7cf53, cJ9_min_7cf53, 2, some FieldType.int, 0, 2, 99),
  (yJ9_min_f86c9, cJ9_min_f86c9, 4, some FieldType.long, 0, 2, 99),
  (yJ0_length_8abf5, cJ0_length_8abf5, 1, some FieldType.int, 1, 0, 99),
  (yJ0_charAt_5068e, cJ0_charAt_5068e, 2, some FieldType.char, 1, 1, 99),
  (yJ0_coder_7d493, cJ0_coder_7d493, 1, some FieldType.byte, 1, 0, 99),
  (yJ0_isLatin1_aae02, cJ0_isLatin1_aae02, 1, some FieldType.boolean, 1, 0, 99),
  (yJ0_checkIndex_df160, cJ0_checkIndex_df160, 2, none, 0, 2, 99),
  (yJ1_charAt_3b067, cJ1_charAt_3b067, 2, some FieldType.char, 0, 2, 99),
  (yJ2_getChar_3b067, cJ2_getChar_3b067, 2, some FieldType.char, 0, 2, 99),
  (yJ2_length_9d52b, cJ2_length_9d52b, 1, some FieldType.int, 0, 1, 99),
  (yJ2_charAt_3b067, cJ2_charAt_3b067, 2, some FieldType.char, 0, 2, 99),
  (yJ2_checkIndex_2214a, cJ2_checkIndex_2214a, 2, none, 0, 2, 99),
  (yJ7_rangeCheck_23922, cJ7_rangeCheck_23922, 3, none, 0, 3, 99),
  (yJ7_fill_53178, cJ7_fill_53178, 4, none, 0, 2, 99),
  (yJ7_fill_fda19, cJ7_fill_fda19, 5, none, 0, 4, 99),
  (yJ7_copyOf_59c91, cJ7_copyOf_59c91, 3, some (FieldType.array FieldType.int), 0, 2, 99),
  (yJ3_checkIndex_8e157, cJ3_checkIndex_8e157, 3, some FieldType.int, 0, 3, 99)]
def ms_Pl : List (Nat × Nat × Nat × Nat) := [(197, 196, 0, 116), (1043, 1041, 1042, 116), (1048, 1046, 1047, 116), (464, 462, 463, 116), (460, 458, 459, 116), (511, 509, 510, 116), (468, 466, 467, 116), (1034, 1032, 1033, 116), (763, 761, 762, 116), (808, 806, 807, 116), (758, 756, 757, 116), (472, 470, 471, 116), (507, 505, 506, 116), (744, 742, 743, 116), (520, 518, 519, 116), (772, 770, 771, 116), (436, 434, 435, 116), (452, 450, 451, 116), (477, 475, 476, 116), (703, 701, 702, 116), (1076, 1074, 1075, 116), (812, 810, 811, 116), (968, 966, 967, 116), (829, 827, 828, 116), (258, 257, 0, 118), (857, 855, 856, 118), (886, 885, 29, 118), (890, 888, 889, 118), (894, 893, 30, 118), (908, 907, 31, 118), (917, 916, 32, 118), (951, 949, 950, 118), (913, 911, 912, 118), (921, 920, 33, 118), (983, 981, 982, 118), (987, 986, 35, 118), (991, 990, 36, 118), (241, 240, 0, 117), (739, 737, 738, 117), (875, 873, 874, 117), (867, 865, 866, 117), (749, 747, 748, 117), (871, 870, 28, 117), (881, 879, 880, 117), (835, 833, 834, 117), (753, 752, 22, 117), (839, 838, 27, 117), (768, 767, 23, 117), (776, 775, 24, 117), (783, 782, 25, 117), (313, 312, 0, 119), (448, 446, 447, 119), (820, 818, 819, 119), (825, 824, 26, 119), (852, 850, 851, 119), (925, 923, 924, 119), (929, 927, 928, 119), (941, 939, 940, 119), (959, 957, 958, 119), (1016, 1014, 1015, 119), (978, 976, 977, 119), (995, 994, 37, 119), (1000, 998, 999, 119), (356, 355, 0, 121), (1039, 1037, 1038, 121), (1080, 1078, 1079, 121), (1059, 1058, 40, 121), (1063, 1062, 41, 121), (1068, 1067, 42, 121), (1052, 1051, 39, 121), (159, 158, 0, 115), (540, 538, 539, 115), (616, 615, 7, 115), (640, 639, 13, 115), (644, 643, 14, 115), (648, 647, 15, 115), (636, 635, 12, 115), (660, 659, 18, 115), (624, 623, 9, 115), (628, 627, 10, 115), (632, 631, 11, 115), (652, 651, 16, 115), (656, 655, 17, 115), (664, 663, 19, 115), (668, 667, 20, 115), (620, 619, 8, 115), (544, 543, 4, 115), (548, 547, 0, 115), (604, 603, 0, 115), (608, 607, 6, 115), (552, 551, 5, 115), (143, 142, 0, 114), (528, 526, 527, 114), (494, 492, 493, 114), (498, 496, 497, 114), (688, 687, 0, 128), (135, 134, 0, 113), (419, 417, 418, 113), (444, 442, 443, 113), (456, 454, 455, 113), (482, 480, 481, 113), (486, 485, 2, 113), (490, 489, 3, 113), (503, 501, 502, 113), (515, 513, 514, 113), (524, 522, 523, 113), (532, 530, 531, 113), (536, 534, 535, 113), (707, 705, 706, 113), (711, 709, 710, 113), (730, 728, 729, 113), (797, 795, 796, 113), (804, 802, 803, 113), (816, 814, 815, 113), (933, 931, 932, 113), (937, 935, 936, 113), (946, 944, 945, 113), (955, 953, 954, 113), (963, 962, 34, 113), (974, 972, 973, 113), (1004, 1002, 1003, 113), (1008, 1006, 1007, 113), (1012, 1010, 1011, 113), (1021, 1019, 1020, 113), (1025, 1024, 38, 113), (1029, 1027, 1028, 113), (1084, 1082, 1083, 113), (1089, 1087, 1088, 113), (1093, 1091, 1092, 113), (1097, 1095, 1096, 113), (440, 439, 1, 113), (429, 428, 0, 113), (432, 431, 0, 113), (425, 424, 0, 113), (422, 421, 0, 113), (734, 733, 21, 113), (714, 713, 0, 113), (717, 716, 0, 113), (723, 722, 0, 113), (726, 725, 0, 113), (1102, 1101, 0, 122), (1268, 1267, 0, 122), (1272, 1271, 43, 122), (1301, 1300, 0, 122), (1265, 1263, 1264, 122), (1276, 1274, 1275, 122), (1321, 1320, 47, 122), (1317, 1316, 46, 122), (1352, 1351, 52, 122), (1288, 1287, 0, 122), (1309, 1308, 0, 122), (1336, 1335, 0, 122), (1333, 1332, 50, 122), (1538, 1537, 76, 122), (1542, 1541, 77, 122), (1618, 1617, 94, 122), (1562, 1561, 82, 122), (1283, 1282, 0, 122), (1292, 1291, 44, 122), (1280, 1278, 1279, 122), (1296, 1294, 1295, 122), (1306, 1305, 45, 122), (1340, 1339, 51, 122), (1329, 1328, 49, 122), (1325, 1324, 48, 122), (1313, 1311, 1312, 122), (1344, 1342, 1343, 122), (1360, 1359, 53, 122), (1348, 1346, 1347, 122), (1356, 1354, 1355, 122), (1368, 1367, 54, 122), (1364, 1362, 1363, 122), (1372, 1370, 1371, 122), (1391, 1390, 0, 122), (1394, 1393, 0, 122), (1384, 1383, 55, 122), (1388, 1387, 56, 122), (1413, 1412, 59, 122), (1438, 1437, 64, 122), (1421, 1420, 60, 122), (1376, 1374, 1375, 122), (1459, 1458, 68, 122), (1434, 1433, 63, 122), (1482, 1481, 0, 122), (1486, 1485, 72, 122), (1490, 1489, 73, 122), (1494, 1493, 74, 122), (1467, 1466, 70, 122), (1446, 1445, 66, 122), (1442, 1441, 65, 122), (1455, 1454, 67, 122), (1463, 1462, 69, 122), (1429, 1428, 62, 122), (1479, 1478, 71, 122), (1502, 1501, 75, 122), (1425, 1424, 61, 122), (1408, 1407, 58, 122), (1404, 1403, 57, 122), (1380, 1378, 1379, 122), (1508, 1507, 0, 122), (1554, 1553, 80, 122), (1558, 1557, 81, 122), (1578, 1577, 86, 122), (1574, 1573, 85, 122), (1570, 1569, 84, 122), (1566, 1565, 83, 122), (1521, 1520, 0, 122), (1527, 1526, 0, 122), (1518, 1517, 0, 122), (1524, 1523, 0, 122), (1530, 1529, 0, 122), (1515, 1514, 0, 122), (1512, 1510, 1511, 122), (1550, 1549, 79, 122), (1546, 1545, 78, 122), (1534, 1532, 1533, 122), (1614, 1613, 93, 122), (1610, 1609, 92, 122), (1589, 1588, 87, 122), (1606, 1605, 91, 122), (1602, 1601, 90, 122), (1598, 1597, 89, 122), (1622, 1621, 95, 122), (1638, 1637, 99, 122), (1634, 1633, 98, 122), (1630, 1629, 97, 122), (1626, 1625, 96, 122), (1641, 1640, 0, 122), (1594, 1593, 88, 122), (1585, 1583, 1584, 122), (1645, 1643, 1644, 122), (1649, 1647, 1648, 122), (1657, 1656, 100, 122), (1653, 1651, 1652, 122), (1666, 1665, 101, 122), (1661, 1659, 1660, 122), (1685, 1684, 104, 122), (1689, 1688, 105, 122), (1693, 1692, 106, 122), (1681, 1680, 103, 122), (1677, 1676, 102, 122), (1670, 1668, 1669, 122), (1697, 1695, 1696, 122), (1701, 1699, 1700, 122), (1705, 1703, 1704, 122), (1709, 1707, 1708, 122), (1713, 1711, 1712, 122), (1721, 1720, 107, 122), (1717, 1715, 1716, 122), (1735, 1734, 109, 122), (1746, 1745, 111, 122), (1742, 1741, 110, 122), (1731, 1730, 108, 122), (1725, 1723, 1724, 122), (1750, 1748, 1749, 122), (1754, 1752, 1753, 122), (897, 896, 0, 130), (844, 843, 0, 130), (720, 719, 0, 127), (779, 778, 0, 127), (792, 791, 0, 127), (612, 611, 0, 127), (789, 788, 0, 127), (557, 555, 556, 123), (567, 565, 566, 123), (561, 559, 560, 123), (571, 569, 570, 123), (577, 576, 0, 123), (574, 573, 0, 124), (595, 594, 0, 126), (591, 590, 0, 126), (585, 584, 0, 126), (588, 587, 0, 126), (904, 903, 0, 120), (317, 316, 0, 120), (901, 900, 0, 120), (674, 673, 0, 120), (582, 581, 0, 125)]
