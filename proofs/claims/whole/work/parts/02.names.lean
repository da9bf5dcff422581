/-! names, field tables, classes, the shape of the world (by wip/whole/g02.py) -/
def kR0 : String := "ProperFollow$Book"
def kT0 : u_T := fun k => match k with
  | 0 => ("ProperFollow$Book", "acts", "[I", true)
  | 1 => ("ProperFollow$Book", "actors", "[I", true)
  | 2 => ("ProperFollow$Book", "others", "[I", true)
  | 3 => ("ProperFollow$Book", "numbers", "[I", true)
  | 4 => ("ProperFollow$Book", "lines", "I", false)
  | 5 => ("ProperFollow$Book", "judged", "Z", false)
  | 6 => ("ProperFollow$Book", "why", "I", false)
  | 7 => ("ProperFollow$Book", "good", "I", false)
  | 8 => ("ProperFollow$Book", "minuteThen", "I", false)
  | _ => ("ProperFollow$Book", "printsThen", "I", false)
def kt0 : Nat → FieldType := fun k => match k with
  | 0 => .array .int
  | 1 => .array .int
  | 2 => .array .int
  | 3 => .array .int
  | 4 => .int
  | 5 => .boolean
  | 6 => .int
  | 7 => .int
  | 8 => .int
  | _ => .int
theorem kn0 : ∀ a, a < 10 → ∀ b, b < 10 → a ≠ b → (kT0 a).2.1 ≠ (kT0 b).2.1 := by decide +kernel
theorem kk0 : ∀ k, k < 10 → parseFieldDescriptor (kT0 k).2.2.1 = some (kt0 k) := by decide +kernel
def kR1 : String := "ProperFollow$Day"
def kT1 : u_T := fun k => match k with
  | 0 => ("ProperFollow$Day", "places", "[I", true)
  | 1 => ("ProperFollow$Day", "buns", "[I", true)
  | 2 => ("ProperFollow$Day", "leaders", "[I", true)
  | 3 => ("ProperFollow$Day", "distances", "[I", true)
  | 4 => ("ProperFollow$Day", "ways", "[I", true)
  | 5 => ("ProperFollow$Day", "left", "[I", true)
  | 6 => ("ProperFollow$Day", "lying", "[I", true)
  | 7 => ("ProperFollow$Day", "prints", "[I", true)
  | 8 => ("ProperFollow$Day", "coming", "[I", true)
  | 9 => ("ProperFollow$Day", "minute", "I", false)
  | _ => ("ProperFollow$Day", "found", "I", false)
def kt1 : Nat → FieldType := fun k => match k with
  | 0 => .array .int
  | 1 => .array .int
  | 2 => .array .int
  | 3 => .array .int
  | 4 => .array .int
  | 5 => .array .int
  | 6 => .array .int
  | 7 => .array .int
  | 8 => .array .int
  | 9 => .int
  | _ => .int
theorem kn1 : ∀ a, a < 11 → ∀ b, b < 11 → a ≠ b → (kT1 a).2.1 ≠ (kT1 b).2.1 := by decide +kernel
theorem kk1 : ∀ k, k < 11 → parseFieldDescriptor (kT1 k).2.2.1 = some (kt1 k) := by decide +kernel
def kR2 : String := "ProperFollow$Draws"
def kT2 : u_T := fun k => match k with
  | _ => ("ProperFollow$Draws", "x", "I", false)
def kt2 : Nat → FieldType := fun k => match k with
  | _ => .int
theorem kn2 : ∀ a, a < 1 → ∀ b, b < 1 → a ≠ b → (kT2 a).2.1 ≠ (kT2 b).2.1 := by decide +kernel
theorem kk2 : ∀ k, k < 1 → parseFieldDescriptor (kT2 k).2.2.1 = some (kt2 k) := by decide +kernel
def kR3 : String := "ProperFollow$History"
def kT3 : u_T := fun k => match k with
  | 0 => ("ProperFollow$History", "days", "[LProperFollow$Day;", true)
  | 1 => ("ProperFollow$History", "next", "I", false)
  | _ => ("ProperFollow$History", "size", "I", false)
def kt3 : Nat → FieldType := fun k => match k with
  | 0 => .array (.object "ProperFollow$Day")
  | 1 => .int
  | _ => .int
theorem kn3 : ∀ a, a < 3 → ∀ b, b < 3 → a ≠ b → (kT3 a).2.1 ≠ (kT3 b).2.1 := by decide +kernel
theorem kk3 : ∀ k, k < 3 → parseFieldDescriptor (kT3 k).2.2.1 = some (kt3 k) := by decide +kernel
def kR4 : String := "ProperFollow$Kept"
def kT4 : u_T := fun k => match k with
  | 0 => ("ProperFollow$Kept", "plan", "LProperFollow$Plan;", true)
  | 1 => ("ProperFollow$Kept", "day", "LProperFollow$Day;", true)
  | 2 => ("ProperFollow$Kept", "sentence", "LProperFollow$Sentence;", true)
  | _ => ("ProperFollow$Kept", "full", "Z", false)
def kt4 : Nat → FieldType := fun k => match k with
  | 0 => .object "ProperFollow$Plan"
  | 1 => .object "ProperFollow$Day"
  | 2 => .object "ProperFollow$Sentence"
  | _ => .boolean
theorem kn4 : ∀ a, a < 4 → ∀ b, b < 4 → a ≠ b → (kT4 a).2.1 ≠ (kT4 b).2.1 := by decide +kernel
theorem kk4 : ∀ k, k < 4 → parseFieldDescriptor (kT4 k).2.2.1 = some (kt4 k) := by decide +kernel
def kR5 : String := "ProperFollow$Line"
def kT5 : u_T := fun k => match k with
  | 0 => ("ProperFollow$Line", "bytes", "[I", true)
  | _ => ("ProperFollow$Line", "size", "I", false)
def kt5 : Nat → FieldType := fun k => match k with
  | 0 => .array .int
  | _ => .int
theorem kn5 : ∀ a, a < 2 → ∀ b, b < 2 → a ≠ b → (kT5 a).2.1 ≠ (kT5 b).2.1 := by decide +kernel
theorem kk5 : ∀ k, k < 2 → parseFieldDescriptor (kT5 k).2.2.1 = some (kt5 k) := by decide +kernel
def kR6 : String := "ProperFollow$Pairing"
def kT6 : u_T := fun k => match k with
  | 0 => ("ProperFollow$Pairing", "trial", "[I", true)
  | 1 => ("ProperFollow$Pairing", "chosen", "[I", true)
  | 2 => ("ProperFollow$Pairing", "bestPairs", "I", false)
  | _ => ("ProperFollow$Pairing", "bestFar", "I", false)
def kt6 : Nat → FieldType := fun k => match k with
  | 0 => .array .int
  | 1 => .array .int
  | 2 => .int
  | _ => .int
theorem kn6 : ∀ a, a < 4 → ∀ b, b < 4 → a ≠ b → (kT6 a).2.1 ≠ (kT6 b).2.1 := by decide +kernel
theorem kk6 : ∀ k, k < 4 → parseFieldDescriptor (kT6 k).2.2.1 = some (kt6 k) := by decide +kernel
def kR7 : String := "ProperFollow$Plan"
def kT7 : u_T := fun k => match k with
  | 0 => ("ProperFollow$Plan", "cornerNames", "[J", true)
  | 1 => ("ProperFollow$Plan", "personNames", "[J", true)
  | 2 => ("ProperFollow$Plan", "beside", "[I", true)
  | 3 => ("ProperFollow$Plan", "far", "[I", true)
  | 4 => ("ProperFollow$Plan", "corners", "I", false)
  | 5 => ("ProperFollow$Plan", "streets", "I", false)
  | _ => ("ProperFollow$Plan", "persons", "I", false)
def kt7 : Nat → FieldType := fun k => match k with
  | 0 => .array .long
  | 1 => .array .long
  | 2 => .array .int
  | 3 => .array .int
  | 4 => .int
  | 5 => .int
  | _ => .int
theorem kn7 : ∀ a, a < 7 → ∀ b, b < 7 → a ≠ b → (kT7 a).2.1 ≠ (kT7 b).2.1 := by decide +kernel
theorem kk7 : ∀ k, k < 7 → parseFieldDescriptor (kT7 k).2.2.1 = some (kt7 k) := by decide +kernel
def kR8 : String := "ProperFollow$Reader"
def kT8 : u_T := fun k => match k with
  | 0 => ("ProperFollow$Reader", "tape", "LProperFollow$Tape;", true)
  | 1 => ("ProperFollow$Reader", "toldWords", "[J", true)
  | 2 => ("ProperFollow$Reader", "most", "I", false)
  | 3 => ("ProperFollow$Reader", "begin", "I", false)
  | 4 => ("ProperFollow$Reader", "behind", "I", false)
  | 5 => ("ProperFollow$Reader", "kind", "I", false)
  | 6 => ("ProperFollow$Reader", "word", "J", false)
  | 7 => ("ProperFollow$Reader", "number", "I", false)
  | _ => ("ProperFollow$Reader", "faultSeen", "I", false)
def kt8 : Nat → FieldType := fun k => match k with
  | 0 => .object "ProperFollow$Tape"
  | 1 => .array .long
  | 2 => .int
  | 3 => .int
  | 4 => .int
  | 5 => .int
  | 6 => .long
  | 7 => .int
  | _ => .int
theorem kn8 : ∀ a, a < 9 → ∀ b, b < 9 → a ≠ b → (kT8 a).2.1 ≠ (kT8 b).2.1 := by decide +kernel
theorem kk8 : ∀ k, k < 9 → parseFieldDescriptor (kT8 k).2.2.1 = some (kt8 k) := by decide +kernel
def kR9 : String := "ProperFollow$Sentence"
def kT9 : u_T := fun k => match k with
  | 0 => ("ProperFollow$Sentence", "parts", "[I", true)
  | 1 => ("ProperFollow$Sentence", "others", "[I", true)
  | 2 => ("ProperFollow$Sentence", "numbers", "[I", true)
  | 3 => ("ProperFollow$Sentence", "pending", "[I", true)
  | 4 => ("ProperFollow$Sentence", "held", "[I", true)
  | 5 => ("ProperFollow$Sentence", "size", "I", false)
  | 6 => ("ProperFollow$Sentence", "waiting", "I", false)
  | 7 => ("ProperFollow$Sentence", "within", "I", false)
  | 8 => ("ProperFollow$Sentence", "ones", "I", false)
  | 9 => ("ProperFollow$Sentence", "oneDue", "Z", false)
  | _ => ("ProperFollow$Sentence", "there", "Z", false)
def kt9 : Nat → FieldType := fun k => match k with
  | 0 => .array .int
  | 1 => .array .int
  | 2 => .array .int
  | 3 => .array .int
  | 4 => .array .int
  | 5 => .int
  | 6 => .int
  | 7 => .int
  | 8 => .int
  | 9 => .boolean
  | _ => .boolean
theorem kn9 : ∀ a, a < 11 → ∀ b, b < 11 → a ≠ b → (kT9 a).2.1 ≠ (kT9 b).2.1 := by decide +kernel
theorem kk9 : ∀ k, k < 11 → parseFieldDescriptor (kT9 k).2.2.1 = some (kt9 k) := by decide +kernel
def kR10 : String := "ProperFollow$Tape"
def kT10 : u_T := fun k => match k with
  | 0 => ("ProperFollow$Tape", "bytes", "[I", true)
  | _ => ("ProperFollow$Tape", "size", "I", false)
def kt10 : Nat → FieldType := fun k => match k with
  | 0 => .array .int
  | _ => .int
theorem kn10 : ∀ a, a < 2 → ∀ b, b < 2 → a ≠ b → (kT10 a).2.1 ≠ (kT10 b).2.1 := by decide +kernel
theorem kk10 : ∀ k, k < 2 → parseFieldDescriptor (kT10 k).2.2.1 = some (kt10 k) := by decide +kernel
def kR11 : String := "ProperFollow"
def kT11 : u_T := fun k => match k with
  | 0 => ("ProperFollow", "tape", "LProperFollow$Tape;", true)
  | 1 => ("ProperFollow", "reader", "LProperFollow$Reader;", true)
  | 2 => ("ProperFollow", "plan", "LProperFollow$Plan;", true)
  | 3 => ("ProperFollow", "sparePlan", "LProperFollow$Plan;", true)
  | 4 => ("ProperFollow", "day", "LProperFollow$Day;", true)
  | 5 => ("ProperFollow", "spareDay", "LProperFollow$Day;", true)
  | 6 => ("ProperFollow", "sentence", "LProperFollow$Sentence;", true)
  | 7 => ("ProperFollow", "spareSentence", "LProperFollow$Sentence;", true)
  | 8 => ("ProperFollow", "history", "LProperFollow$History;", true)
  | 9 => ("ProperFollow", "images", "[LProperFollow$Kept;", true)
  | 10 => ("ProperFollow", "book", "LProperFollow$Book;", true)
  | 11 => ("ProperFollow", "pairing", "LProperFollow$Pairing;", true)
  | 12 => ("ProperFollow", "draws", "LProperFollow$Draws;", true)
  | 13 => ("ProperFollow", "line", "LProperFollow$Line;", true)
  | 14 => ("ProperFollow", "pathRow", "[I", true)
  | 15 => ("ProperFollow", "pathLength", "I", false)
  | 16 => ("ProperFollow", "faultKind", "I", false)
  | 17 => ("ProperFollow", "cutBits", "I", false)
  | 18 => ("ProperFollow", "barBits", "I", false)
  | _ => ("ProperFollow", "askedMinutes", "I", false)
def kt11 : Nat → FieldType := fun k => match k with
  | 0 => .object "ProperFollow$Tape"
  | 1 => .object "ProperFollow$Reader"
  | 2 => .object "ProperFollow$Plan"
  | 3 => .object "ProperFollow$Plan"
  | 4 => .object "ProperFollow$Day"
  | 5 => .object "ProperFollow$Day"
  | 6 => .object "ProperFollow$Sentence"
  | 7 => .object "ProperFollow$Sentence"
  | 8 => .object "ProperFollow$History"
  | 9 => .array (.object "ProperFollow$Kept")
  | 10 => .object "ProperFollow$Book"
  | 11 => .object "ProperFollow$Pairing"
  | 12 => .object "ProperFollow$Draws"
  | 13 => .object "ProperFollow$Line"
  | 14 => .array .int
  | 15 => .int
  | 16 => .int
  | 17 => .int
  | 18 => .int
  | _ => .int
theorem kn11 : ∀ a, a < 20 → ∀ b, b < 20 → a ≠ b → (kT11 a).2.1 ≠ (kT11 b).2.1 := by decide +kernel
theorem kk11 : ∀ k, k < 20 → parseFieldDescriptor (kT11 k).2.2.1 = some (kt11 k) := by decide +kernel
def kR12 : String := "ProperFollowModel"
def kT12 : u_T := fun k => match k with
  | 0 => ("ProperFollowModel", "thrown", "I", false)
  | 1 => ("ProperFollowModel", "tape", "[B", true)
  | 2 => ("ProperFollowModel", "length", "I", false)
  | 3 => ("ProperFollowModel", "size", "I", false)
  | 4 => ("ProperFollowModel", "p", "I", false)
  | 5 => ("ProperFollowModel", "limit", "I", false)
  | 6 => ("ProperFollowModel", "s", "[I", true)
  | 7 => ("ProperFollowModel", "h", "[I", true)
  | 8 => ("ProperFollowModel", "read", "[I", true)
  | 9 => ("ProperFollowModel", "names", "[J", true)
  | 10 => ("ProperFollowModel", "reserved", "[J", true)
  | 11 => ("ProperFollowModel", "token", "I", false)
  | 12 => ("ProperFollowModel", "at", "I", false)
  | 13 => ("ProperFollowModel", "span", "I", false)
  | 14 => ("ProperFollowModel", "number", "I", false)
  | 15 => ("ProperFollowModel", "fault", "I", false)
  | 16 => ("ProperFollowModel", "faultAt", "I", false)
  | 17 => ("ProperFollowModel", "word", "J", false)
  | 18 => ("ProperFollowModel", "got", "I", false)
  | 19 => ("ProperFollowModel", "lines", "I", false)
  | 20 => ("ProperFollowModel", "apart", "[I", true)
  | 21 => ("ProperFollowModel", "to", "[I", true)
  | 22 => ("ProperFollowModel", "undone", "[I", true)
  | 23 => ("ProperFollowModel", "before", "[I", true)
  | 24 => ("ProperFollowModel", "undoMany", "I", false)
  | 25 => ("ProperFollowModel", "cutSet", "I", false)
  | 26 => ("ProperFollowModel", "hasCut", "Z", false)
  | 27 => ("ProperFollowModel", "askBack", "I", false)
  | 28 => ("ProperFollowModel", "hasFits", "Z", false)
  | 29 => ("ProperFollowModel", "pathRow", "[I", true)
  | 30 => ("ProperFollowModel", "pathMany", "I", false)
  | 31 => ("ProperFollowModel", "barSet", "I", false)
  | 32 => ("ProperFollowModel", "hasBar", "Z", false)
  | 33 => ("ProperFollowModel", "worth", "[I", true)
  | 34 => ("ProperFollowModel", "hireRow", "[I", true)
  | 35 => ("ProperFollowModel", "hireMany", "I", false)
  | 36 => ("ProperFollowModel", "hireFar", "I", false)
  | 37 => ("ProperFollowModel", "text", "[B", true)
  | 38 => ("ProperFollowModel", "textMany", "I", false)
  | 39 => ("ProperFollowModel", "seed", "I", false)
  | 40 => ("ProperFollowModel", "toldMany", "I", false)
  | 41 => ("ProperFollowModel", "toldAt", "[I", true)
  | 42 => ("ProperFollowModel", "hasTold", "Z", false)
  | 43 => ("ProperFollowModel", "stack", "[I", true)
  | 44 => ("ProperFollowModel", "codes", "I", false)
  | 45 => ("ProperFollowModel", "ones", "I", false)
  | 46 => ("ProperFollowModel", "top", "I", false)
  | 47 => ("ProperFollowModel", "deep", "I", false)
  | 48 => ("ProperFollowModel", "isWhole", "Z", false)
  | 49 => ("ProperFollowModel", "truths", "[Z", true)
  | 50 => ("ProperFollowModel", "imaged", "[I", true)
  | 51 => ("ProperFollowModel", "namesKept", "[J", true)
  | _ => ("ProperFollowModel", "areKept", "[Z", true)
def kt12 : Nat → FieldType := fun k => match k with
  | 0 => .int
  | 1 => .array .byte
  | 2 => .int
  | 3 => .int
  | 4 => .int
  | 5 => .int
  | 6 => .array .int
  | 7 => .array .int
  | 8 => .array .int
  | 9 => .array .long
  | 10 => .array .long
  | 11 => .int
  | 12 => .int
  | 13 => .int
  | 14 => .int
  | 15 => .int
  | 16 => .int
  | 17 => .long
  | 18 => .int
  | 19 => .int
  | 20 => .array .int
  | 21 => .array .int
  | 22 => .array .int
  | 23 => .array .int
  | 24 => .int
  | 25 => .int
  | 26 => .boolean
  | 27 => .int
  | 28 => .boolean
  | 29 => .array .int
  | 30 => .int
  | 31 => .int
  | 32 => .boolean
  | 33 => .array .int
  | 34 => .array .int
  | 35 => .int
  | 36 => .int
  | 37 => .array .byte
  | 38 => .int
  | 39 => .int
  | 40 => .int
  | 41 => .array .int
  | 42 => .boolean
  | 43 => .array .int
  | 44 => .int
  | 45 => .int
  | 46 => .int
  | 47 => .int
  | 48 => .boolean
  | 49 => .array .boolean
  | 50 => .array .int
  | 51 => .array .long
  | _ => .array .boolean
theorem kn12 : ∀ a, a < 53 → ∀ b, b < 53 → a ≠ b → (kT12 a).2.1 ≠ (kT12 b).2.1 := by decide +kernel
theorem kk12 : ∀ k, k < 53 → parseFieldDescriptor (kT12 k).2.2.1 = some (kt12 k) := by decide +kernel
def zCL : List vw_C := [(kR0, kT0, 10), (kR1, kT1, 11), (kR2, kT2, 1), (kR3, kT3, 3), (kR4, kT4, 4), (kR5, kT5, 2), (kR6, kT6, 4), (kR7, kT7, 7), (kR8, kT8, 9), (kR9, kT9, 11), (kR10, kT10, 2), (kR11, kT11, 20), (kR12, kT12, 53)]
def zSH : List (Nat × List Nat) := [(21, [3, 5, 7, 12, 17, 27, 37, 43, 49, 131, 176, 181, 184, 185, 187, 0, 0, 0, 0, 0]),
  (20, [4, 0]),
  (0, [940]),
  (18, [3, 6, 0, 0, 0, 0, 1, 0, 0]),
  (1, [22]),
  (17, [8, 9, 10, 11, 0, 0, 0]),
  (1, [8]),
  (1, [6]),
  (0, [8]),
  (0, [64]),
  (17, [13, 14, 15, 16, 0, 0, 0]),
  (1, [8]),
  (1, [6]),
  (0, [8]),
  (0, [64]),
  (11, [18, 19, 20, 21, 22, 23, 24, 25, 26, 0, 0]),
  (0, [36]),
  (0, [6]),
  (0, [6]),
  (0, [6]),
  (0, [48]),
  (0, [6]),
  (0, [8]),
  (0, [8]),
  (0, [6]),
  (11, [28, 29, 30, 31, 32, 33, 34, 35, 36, 0, 0]),
  (0, [36]),
  (0, [6]),
  (0, [6]),
  (0, [6]),
  (0, [48]),
  (0, [6]),
  (0, [8]),
  (0, [8]),
  (0, [6]),
  (19, [38, 39, 40, 41, 42, 0, 0, 0, 0, 0, 0]),
  (0, [40]),
  (0, [40]),
  (0, [40]),
  (0, [40]),
  (0, [40]),
  (19, [44, 45, 46, 47, 48, 0, 0, 0, 0, 0, 0]),
  (0, [40]),
  (0, [40]),
  (0, [40]),
  (0, [40]),
  (0, [40]),
  (13, [50, 0, 0]),
  (4, [49, 59, 69, 79, 89, 99, 109, 119]),
  (11, [52, 53, 54, 55, 56, 57, 58, 59, 60, 0, 0]),
  (0, [36]),
  (0, [6]),
  (0, [6]),
  (0, [6]),
  (0, [48]),
  (0, [6]),
  (0, [8]),
  (0, [8]),
  (0, [6]),
  (11, [62, 63, 64, 65, 66, 67, 68, 69, 70, 0, 0]),
  (0, [36]),
  (0, [6]),
  (0, [6]),
  (0, [6]),
  (0, [48]),
  (0, [6]),
  (0, [8]),
  (0, [8]),
  (0, [6]),
  (11, [72, 73, 74, 75, 76, 77, 78, 79, 80, 0, 0]),
  (0, [36]),
  (0, [6]),
  (0, [6]),
  (0, [6]),
  (0, [48]),
  (0, [6]),
  (0, [8]),
  (0, [8]),
  (0, [6]),
  (11, [82, 83, 84, 85, 86, 87, 88, 89, 90, 0, 0]),
  (0, [36]),
  (0, [6]),
  (0, [6]),
  (0, [6]),
  (0, [48]),
  (0, [6]),
  (0, [8]),
  (0, [8]),
  (0, [6]),
  (11, [92, 93, 94, 95, 96, 97, 98, 99, 100, 0, 0]),
  (0, [36]),
  (0, [6]),
  (0, [6]),
  (0, [6]),
  (0, [48]),
  (0, [6]),
  (0, [8]),
  (0, [8]),
  (0, [6]),
  (11, [102, 103, 104, 105, 106, 107, 108, 109, 110, 0, 0]),
  (0, [36]),
  (0, [6]),
  (0, [6]),
  (0, [6]),
  (0, [48]),
  (0, [6]),
  (0, [8]),
  (0, [8]),
  (0, [6]),
  (11, [112, 113, 114, 115, 116, 117, 118, 119, 120, 0, 0]),
  (0, [36]),
  (0, [6]),
  (0, [6]),
  (0, [6]),
  (0, [48]),
  (0, [6]),
  (0, [8]),
  (0, [8]),
  (0, [6]),
  (11, [122, 123, 124, 125, 126, 127, 128, 129, 130, 0, 0]),
  (0, [36]),
  (0, [6]),
  (0, [6]),
  (0, [6]),
  (0, [48]),
  (0, [6]),
  (0, [8]),
  (0, [8]),
  (0, [6]),
  (5, [130, 152]),
  (14, [133, 138, 148, 0]),
  (17, [134, 135, 136, 137, 0, 0, 0]),
  (1, [8]),
  (1, [6]),
  (0, [8]),
  (0, [64]),
  (11, [139, 140, 141, 142, 143, 144, 145, 146, 147, 0, 0]),
  (0, [36]),
  (0, [6]),
  (0, [6]),
  (0, [6]),
  (0, [48]),
  (0, [6]),
  (0, [8]),
  (0, [8]),
  (0, [6]),
  (19, [149, 150, 151, 152, 153, 0, 0, 0, 0, 0, 0]),
  (0, [40]),
  (0, [40]),
  (0, [40]),
  (0, [40]),
  (0, [40]),
  (14, [155, 160, 170, 0]),
  (17, [156, 157, 158, 159, 0, 0, 0]),
  (1, [8]),
  (1, [6]),
  (0, [8]),
  (0, [64]),
  (11, [161, 162, 163, 164, 165, 166, 167, 168, 169, 0, 0]),
  (0, [36]),
  (0, [6]),
  (0, [6]),
  (0, [6]),
  (0, [48]),
  (0, [6]),
  (0, [8]),
  (0, [8]),
  (0, [6]),
  (19, [171, 172, 173, 174, 175, 0, 0, 0, 0, 0, 0]),
  (0, [40]),
  (0, [40]),
  (0, [40]),
  (0, [40]),
  (0, [40]),
  (10, [177, 178, 179, 180, 0, 0, 0, 0, 0, 0]),
  (0, [40]),
  (0, [40]),
  (0, [40]),
  (0, [40]),
  (16, [182, 183, 0, 0]),
  (0, [6]),
  (0, [6]),
  (12, [0]),
  (15, [186, 0]),
  (0, [40]),
  (0, [8]),
  (22, [0, 189, 0, 0, 0, 0, 190, 191, 192, 193, 194, 0, 0, 0, 0, 0, 0, 1, 0, 0, 195, 196, 197, 198, 0, 0, 0, 0, 0, 199, 0, 0, 0, 200, 201, 0, 0, 202, 0, 0, 0, 203, 0, 204, 0, 0, 0, 0, 0, 205, 206, 207, 208]),
  (2, [940]),
  (0, [397]),
  (0, [89]),
  (0, [160]),
  (1, [28]),
  (1, [22]),
  (0, [64]),
  (0, [6]),
  (0, [1016]),
  (0, [127]),
  (0, [8]),
  (0, [448]),
  (0, [6]),
  (2, [48]),
  (0, [4]),
  (0, [45]),
  (3, [45]),
  (0, [794]),
  (1, [28]),
  (3, [2]),
  (1, [1])]
def zWS : List Cond := lw_tbl.filter goodWord
theorem zWS_in {c : Cond} (h : c ∈ lw_tbl) (g : goodWord c = true) : c ∈ zWS := List.mem_filter.mpr ⟨h, g⟩
theorem zWS_good : GoodIn zWS zWS := fun w h => ⟨h, good_of_word (List.mem_filter.mp h).2⟩
def zNW : List (String × Nat × MethodName × String) := [
  ("ProperFollow", 9, ({ cls := "ProperFollow$Tape", name := "<init>", desc := "()V" } : Jvm.MethodName), "ProperFollow"),
  ("ProperFollow", 27, ({ cls := "ProperFollow$Plan", name := "<init>", desc := "()V" } : Jvm.MethodName), "ProperFollow"),
  ("ProperFollow", 47, ({ cls := "ProperFollow$Sentence", name := "<init>", desc := "()V" } : Jvm.MethodName), "ProperFollow"),
  ("ProperFollow", 70, ({ cls := "ProperFollow$Book", name := "<init>", desc := "()V" } : Jvm.MethodName), "ProperFollow"),
  ("ProperFollow", 84, ({ cls := "ProperFollow$Draws", name := "<init>", desc := "()V" } : Jvm.MethodName), "ProperFollow"),
  ("ProperFollow", 91, ({ cls := "ProperFollow$Line", name := "<init>", desc := "()V" } : Jvm.MethodName), "ProperFollow"),
  ("ProperFollow", 113, ({ cls := "ProperFollow$Kept", name := "<init>", desc := "()V" } : Jvm.MethodName), "ProperFollow"),
  ("ProperFollow$Kept", 9, ({ cls := "ProperFollow$Plan", name := "<init>", desc := "()V" } : Jvm.MethodName), "ProperFollow"),
  ("ProperFollow$Kept", 25, ({ cls := "ProperFollow$Sentence", name := "<init>", desc := "()V" } : Jvm.MethodName), "ProperFollow"),
  ("ProperFollow$Plan", 46, ({ cls := "ProperFollow", name := "hasBit", desc := "(II)Z" } : Jvm.MethodName), "ProperFollow"),
  ("ProperFollow$Pairing", 58, ({ cls := "ProperFollow", name := "hasBit", desc := "(II)Z" } : Jvm.MethodName), "ProperFollow"),
  ("ProperFollow$Day", 84, ({ cls := "ProperFollow", name := "hasBit", desc := "(II)Z" } : Jvm.MethodName), "ProperFollow")]
def zSC : List (String × Nat × String × Nat) := [("ProperFollow$Reader", 23, "corner street person next follows goes drops leaves hires minute or and not alone ringed idle at after buns left behind number ", 0), ("ProperFollow", 325, " at ", 1), ("ProperFollow", 333, " after ", 2), ("ProperFollow", 335, " goes ", 3), ("ProperFollow", 340, " stays", 4), ("ProperFollow", 161, "no such person, or no such thing of him", 5), ("ProperFollow", 311, "no persons, or no such number of a fraction", 6)]
def zSL : List Nat := [127, 4, 7, 6, 6, 39, 43]
def zSB : List (List Int32) := [[99, 111, 114, 110, 101, 114, 32, 115, 116, 114, 101, 101, 116, 32, 112, 101, 114, 115, 111, 110, 32, 110, 101, 120, 116, 32, 102, 111, 108, 108, 111, 119, 115, 32, 103, 111, 101, 115, 32, 100, 114, 111, 112, 115, 32, 108, 101, 97, 118, 101, 115, 32, 104, 105, 114, 101, 115, 32, 109, 105, 110, 117, 116, 101, 32, 111, 114, 32, 97, 110, 100, 32, 110, 111, 116, 32, 97, 108, 111, 110, 101, 32, 114, 105, 110, 103, 101, 100, 32, 105, 100, 108, 101, 32, 97, 116, 32, 97, 102, 116, 101, 114, 32, 98, 117, 110, 115, 32, 108, 101, 102, 116, 32, 98, 101, 104, 105, 110, 100, 32, 110, 117, 109, 98, 101, 114, 32], [32, 97, 116, 32], [32, 97, 102, 116, 101, 114, 32], [32, 103, 111, 101, 115, 32], [32, 115, 116, 97, 121, 115], [110, 111, 32, 115, 117, 99, 104, 32, 112, 101, 114, 115, 111, 110, 44, 32, 111, 114, 32, 110, 111, 32, 115, 117, 99, 104, 32, 116, 104, 105, 110, 103, 32, 111, 102, 32, 104, 105, 109], [110, 111, 32, 112, 101, 114, 115, 111, 110, 115, 44, 32, 111, 114, 32, 110, 111, 32, 115, 117, 99, 104, 32, 110, 117, 109, 98, 101, 114, 32, 111, 102, 32, 97, 32, 102, 114, 97, 99, 116, 105, 111, 110]]
theorem ki0 : ∀ w ∈ u_ws kR0 kT0 10, w ∈ zWS := fun w h => zWS_in ((show ∀ w ∈ u_ws kR0 kT0 10, w ∈ lw_tbl by decide +kernel) w h) ((show ∀ w ∈ u_ws kR0 kT0 10, goodWord w = true by decide +kernel) w h)
theorem ki1 : ∀ w ∈ u_ws kR1 kT1 11, w ∈ zWS := fun w h => zWS_in ((show ∀ w ∈ u_ws kR1 kT1 11, w ∈ lw_tbl by decide +kernel) w h) ((show ∀ w ∈ u_ws kR1 kT1 11, goodWord w = true by decide +kernel) w h)
theorem ki2 : ∀ w ∈ u_ws kR2 kT2 1, w ∈ zWS := fun w h => zWS_in ((show ∀ w ∈ u_ws kR2 kT2 1, w ∈ lw_tbl by decide +kernel) w h) ((show ∀ w ∈ u_ws kR2 kT2 1, goodWord w = true by decide +kernel) w h)
theorem ki3 : ∀ w ∈ u_ws kR3 kT3 3, w ∈ zWS := fun w h => zWS_in ((show ∀ w ∈ u_ws kR3 kT3 3, w ∈ lw_tbl by decide +kernel) w h) ((show ∀ w ∈ u_ws kR3 kT3 3, goodWord w = true by decide +kernel) w h)
theorem ki4 : ∀ w ∈ u_ws kR4 kT4 4, w ∈ zWS := fun w h => zWS_in ((show ∀ w ∈ u_ws kR4 kT4 4, w ∈ lw_tbl by decide +kernel) w h) ((show ∀ w ∈ u_ws kR4 kT4 4, goodWord w = true by decide +kernel) w h)
theorem ki5 : ∀ w ∈ u_ws kR5 kT5 2, w ∈ zWS := fun w h => zWS_in ((show ∀ w ∈ u_ws kR5 kT5 2, w ∈ lw_tbl by decide +kernel) w h) ((show ∀ w ∈ u_ws kR5 kT5 2, goodWord w = true by decide +kernel) w h)
theorem ki6 : ∀ w ∈ u_ws kR6 kT6 4, w ∈ zWS := fun w h => zWS_in ((show ∀ w ∈ u_ws kR6 kT6 4, w ∈ lw_tbl by decide +kernel) w h) ((show ∀ w ∈ u_ws kR6 kT6 4, goodWord w = true by decide +kernel) w h)
theorem ki7 : ∀ w ∈ u_ws kR7 kT7 7, w ∈ zWS := fun w h => zWS_in ((show ∀ w ∈ u_ws kR7 kT7 7, w ∈ lw_tbl by decide +kernel) w h) ((show ∀ w ∈ u_ws kR7 kT7 7, goodWord w = true by decide +kernel) w h)
theorem ki8 : ∀ w ∈ u_ws kR8 kT8 9, w ∈ zWS := fun w h => zWS_in ((show ∀ w ∈ u_ws kR8 kT8 9, w ∈ lw_tbl by decide +kernel) w h) ((show ∀ w ∈ u_ws kR8 kT8 9, goodWord w = true by decide +kernel) w h)
theorem ki9 : ∀ w ∈ u_ws kR9 kT9 11, w ∈ zWS := fun w h => zWS_in ((show ∀ w ∈ u_ws kR9 kT9 11, w ∈ lw_tbl by decide +kernel) w h) ((show ∀ w ∈ u_ws kR9 kT9 11, goodWord w = true by decide +kernel) w h)
theorem ki10 : ∀ w ∈ u_ws kR10 kT10 2, w ∈ zWS := fun w h => zWS_in ((show ∀ w ∈ u_ws kR10 kT10 2, w ∈ lw_tbl by decide +kernel) w h) ((show ∀ w ∈ u_ws kR10 kT10 2, goodWord w = true by decide +kernel) w h)
theorem ki11 : ∀ w ∈ u_ws kR11 kT11 20, w ∈ zWS := fun w h => zWS_in ((show ∀ w ∈ u_ws kR11 kT11 20, w ∈ lw_tbl by decide +kernel) w h) ((show ∀ w ∈ u_ws kR11 kT11 20, goodWord w = true by decide +kernel) w h)
theorem ki12 : ∀ w ∈ u_ws kR12 kT12 53, w ∈ zWS := fun w h => zWS_in ((show ∀ w ∈ u_ws kR12 kT12 53, w ∈ lw_tbl by decide +kernel) w h) ((show ∀ w ∈ u_ws kR12 kT12 53, goodWord w = true by decide +kernel) w h)
