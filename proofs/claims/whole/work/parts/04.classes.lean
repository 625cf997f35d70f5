/-! ===== the classes whose objects the worlds hold, their fields (printed by wip/whole/gen_tables.py) ===== -/
def zn0 : String := "PretendDesk"
def zt0 : u_T := fun k => match k with
  | 0 => ("PretendDesk", "now", "LPretendDesk$Told;", true)
  | 1 => ("PretendDesk", "images", "[LPretendDesk$Told;", true)
  | 2 => ("PretendDesk", "room", "LPretendDesk$Room;", true)
  | 3 => ("PretendDesk", "forger", "LPretendDesk$Forger;", true)
  | 4 => ("PretendDesk", "best", "LPretendDesk$Best;", true)
  | 5 => ("PretendDesk", "runner", "LPretendDesk$Runner;", true)
  | 6 => ("PretendDesk", "freshPage", "LPretendDesk$Page;", true)
  | 7 => ("PretendDesk", "freshLines", "[I", true)
  | 8 => ("PretendDesk", "prices", "[I", true)
  | _ => ("PretendDesk", "heard", "[I", true)
def zy0 : Nat → FieldType := fun k => match k with
  | 0 => .object "PretendDesk$Told"
  | 1 => .array (.object "PretendDesk$Told")
  | 2 => .object "PretendDesk$Room"
  | 3 => .object "PretendDesk$Forger"
  | 4 => .object "PretendDesk$Best"
  | 5 => .object "PretendDesk$Runner"
  | 6 => .object "PretendDesk$Page"
  | 7 => .array .int
  | 8 => .array .int
  | _ => .array .int
theorem zt0_nm : ∀ a, a < 10 → ∀ b, b < 10 → a ≠ b → (zt0 a).2.1 ≠ (zt0 b).2.1 := by decide +kernel
theorem zt0_ty : ∀ k, k < 10 → parseFieldDescriptor (zt0 k).2.2.1 = some (zy0 k) := by decide +kernel
def zn1 : String := "PretendDesk$Told"
def zt1 : u_T := fun k => match k with
  | 0 => ("PretendDesk$Told", "tape", "LPretendDesk$Tape;", true)
  | 1 => ("PretendDesk$Told", "house", "[LPretendDesk$House;", true)
  | 2 => ("PretendDesk$Told", "came", "[LPretendDesk$Came;", true)
  | 3 => ("PretendDesk$Told", "speech", "LPretendDesk$Speech;", true)
  | 4 => ("PretendDesk$Told", "casePage", "[I", true)
  | 5 => ("PretendDesk$Told", "caseDay", "[I", true)
  | 6 => ("PretendDesk$Told", "casePretends", "[Z", true)
  | 7 => ("PretendDesk$Told", "worth", "[I", true)
  | 8 => ("PretendDesk$Told", "alike", "[I", true)
  | 9 => ("PretendDesk$Told", "relay", "[I", true)
  | 10 => ("PretendDesk$Told", "owner", "[I", true)
  | 11 => ("PretendDesk$Told", "houses", "I", false)
  | 12 => ("PretendDesk$Told", "pages", "I", false)
  | 13 => ("PretendDesk$Told", "cases", "I", false)
  | 14 => ("PretendDesk$Told", "markA", "I", false)
  | 15 => ("PretendDesk$Told", "markB", "I", false)
  | _ => ("PretendDesk$Told", "markC", "I", false)
def zy1 : Nat → FieldType := fun k => match k with
  | 0 => .object "PretendDesk$Tape"
  | 1 => .array (.object "PretendDesk$House")
  | 2 => .array (.object "PretendDesk$Came")
  | 3 => .object "PretendDesk$Speech"
  | 4 => .array .int
  | 5 => .array .int
  | 6 => .array .boolean
  | 7 => .array .int
  | 8 => .array .int
  | 9 => .array .int
  | 10 => .array .int
  | 11 => .int
  | 12 => .int
  | 13 => .int
  | 14 => .int
  | 15 => .int
  | _ => .int
theorem zt1_nm : ∀ a, a < 17 → ∀ b, b < 17 → a ≠ b → (zt1 a).2.1 ≠ (zt1 b).2.1 := by decide +kernel
theorem zt1_ty : ∀ k, k < 17 → parseFieldDescriptor (zt1 k).2.2.1 = some (zy1 k) := by decide +kernel
def zn2 : String := "PretendDesk$Tape"
def zt2 : u_T := fun k => match k with
  | 0 => ("PretendDesk$Tape", "bytes", "[C", true)
  | 1 => ("PretendDesk$Tape", "length", "I", false)
  | 2 => ("PretendDesk$Tape", "fault", "I", false)
  | 3 => ("PretendDesk$Tape", "faultPlace", "I", false)
  | 4 => ("PretendDesk$Tape", "taken", "I", false)
  | 5 => ("PretendDesk$Tape", "inside", "[I", true)
  | 6 => ("PretendDesk$Tape", "builder", "Ljava/lang/StringBuilder;", true)
  | 7 => ("PretendDesk$Tape", "at", "I", false)
  | 8 => ("PretendDesk$Tape", "token", "I", false)
  | 9 => ("PretendDesk$Tape", "place", "I", false)
  | _ => ("PretendDesk$Tape", "number", "I", false)
def zy2 : Nat → FieldType := fun k => match k with
  | 0 => .array .char
  | 1 => .int
  | 2 => .int
  | 3 => .int
  | 4 => .int
  | 5 => .array .int
  | 6 => .object "java/lang/StringBuilder"
  | 7 => .int
  | 8 => .int
  | 9 => .int
  | _ => .int
theorem zt2_nm : ∀ a, a < 11 → ∀ b, b < 11 → a ≠ b → (zt2 a).2.1 ≠ (zt2 b).2.1 := by decide +kernel
theorem zt2_ty : ∀ k, k < 11 → parseFieldDescriptor (zt2 k).2.2.1 = some (zy2 k) := by decide +kernel
def zn3 : String := "PretendDesk$House"
def zt3 : u_T := fun k => match k with
  | 0 => ("PretendDesk$House", "page", "[LPretendDesk$Page;", true)
  | 1 => ("PretendDesk$House", "name", "Ljava/lang/String;", false)
  | 2 => ("PretendDesk$House", "owned", "I", false)
  | _ => ("PretendDesk$House", "squares", "I", false)
def zy3 : Nat → FieldType := fun k => match k with
  | 0 => .array (.object "PretendDesk$Page")
  | 1 => .object "java/lang/String"
  | 2 => .int
  | _ => .int
theorem zt3_nm : ∀ a, a < 4 → ∀ b, b < 4 → a ≠ b → (zt3 a).2.1 ≠ (zt3 b).2.1 := by decide +kernel
theorem zt3_ty : ∀ k, k < 4 → parseFieldDescriptor (zt3 k).2.2.1 = some (zy3 k) := by decide +kernel
def zn4 : String := "PretendDesk$Came"
def zt4 : u_T := fun k => match k with
  | 0 => ("PretendDesk$Came", "text", "LPretendDesk$Page;", true)
  | 1 => ("PretendDesk$Came", "change", "[I", true)
  | 2 => ("PretendDesk$Came", "line", "[I", true)
  | 3 => ("PretendDesk$Came", "name", "Ljava/lang/String;", false)
  | 4 => ("PretendDesk$Came", "since", "I", false)
  | 5 => ("PretendDesk$Came", "pieces", "I", false)
  | 6 => ("PretendDesk$Came", "squares", "I", false)
  | 7 => ("PretendDesk$Came", "changes", "I", false)
  | _ => ("PretendDesk$Came", "lines", "I", false)
def zy4 : Nat → FieldType := fun k => match k with
  | 0 => .object "PretendDesk$Page"
  | 1 => .array .int
  | 2 => .array .int
  | 3 => .object "java/lang/String"
  | 4 => .int
  | 5 => .int
  | 6 => .int
  | 7 => .int
  | _ => .int
theorem zt4_nm : ∀ a, a < 9 → ∀ b, b < 9 → a ≠ b → (zt4 a).2.1 ≠ (zt4 b).2.1 := by decide +kernel
theorem zt4_ty : ∀ k, k < 9 → parseFieldDescriptor (zt4 k).2.2.1 = some (zy4 k) := by decide +kernel
def zn5 : String := "PretendDesk$Page"
def zt5 : u_T := fun k => match k with
  | 0 => ("PretendDesk$Page", "row", "[I", true)
  | _ => ("PretendDesk$Page", "count", "I", false)
def zy5 : Nat → FieldType := fun k => match k with
  | 0 => .array .int
  | _ => .int
theorem zt5_nm : ∀ a, a < 2 → ∀ b, b < 2 → a ≠ b → (zt5 a).2.1 ≠ (zt5 b).2.1 := by decide +kernel
theorem zt5_ty : ∀ k, k < 2 → parseFieldDescriptor (zt5 k).2.2.1 = some (zy5 k) := by decide +kernel
def zn6 : String := "PretendDesk$Speech"
def zt6 : u_T := fun k => match k with
  | 0 => ("PretendDesk$Speech", "word", "[C", true)
  | 1 => ("PretendDesk$Speech", "wordLength", "[I", true)
  | 2 => ("PretendDesk$Speech", "wordMeaning", "[I", true)
  | 3 => ("PretendDesk$Speech", "patternMeanings", "[I", true)
  | 4 => ("PretendDesk$Speech", "patternWeight", "[I", true)
  | 5 => ("PretendDesk$Speech", "letter", "[C", true)
  | 6 => ("PretendDesk$Speech", "words", "I", false)
  | 7 => ("PretendDesk$Speech", "patterns", "I", false)
  | _ => ("PretendDesk$Speech", "length", "I", false)
def zy6 : Nat → FieldType := fun k => match k with
  | 0 => .array .char
  | 1 => .array .int
  | 2 => .array .int
  | 3 => .array .int
  | 4 => .array .int
  | 5 => .array .char
  | 6 => .int
  | 7 => .int
  | _ => .int
theorem zt6_nm : ∀ a, a < 9 → ∀ b, b < 9 → a ≠ b → (zt6 a).2.1 ≠ (zt6 b).2.1 := by decide +kernel
theorem zt6_ty : ∀ k, k < 9 → parseFieldDescriptor (zt6 k).2.2.1 = some (zy6 k) := by decide +kernel
def zn7 : String := "PretendDesk$Opened"
def zt7 : u_T := fun k => match k with
  | 0 => ("PretendDesk$Opened", "kind", "[I", true)
  | 1 => ("PretendDesk$Opened", "colour", "[I", true)
  | 2 => ("PretendDesk$Opened", "above", "[I", true)
  | 3 => ("PretendDesk$Opened", "behind", "[I", true)
  | 4 => ("PretendDesk$Opened", "number", "[I", true)
  | _ => ("PretendDesk$Opened", "count", "I", false)
def zy7 : Nat → FieldType := fun k => match k with
  | 0 => .array .int
  | 1 => .array .int
  | 2 => .array .int
  | 3 => .array .int
  | 4 => .array .int
  | _ => .int
theorem zt7_nm : ∀ a, a < 6 → ∀ b, b < 6 → a ≠ b → (zt7 a).2.1 ≠ (zt7 b).2.1 := by decide +kernel
theorem zt7_ty : ∀ k, k < 6 → parseFieldDescriptor (zt7 k).2.2.1 = some (zy7 k) := by decide +kernel
def zn8 : String := "PretendDesk$Room"
def zt8 : u_T := fun k => match k with
  | 0 => ("PretendDesk$Room", "mine", "LPretendDesk$Opened;", true)
  | 1 => ("PretendDesk$Room", "its", "LPretendDesk$Opened;", true)
  | 2 => ("PretendDesk$Room", "trees", "[I", true)
  | 3 => ("PretendDesk$Room", "rows", "[I", true)
  | 4 => ("PretendDesk$Room", "told", "LPretendDesk$Told;", true)
  | 5 => ("PretendDesk$Room", "like", "I", false)
  | _ => ("PretendDesk$Room", "looks", "I", false)
def zy8 : Nat → FieldType := fun k => match k with
  | 0 => .object "PretendDesk$Opened"
  | 1 => .object "PretendDesk$Opened"
  | 2 => .array .int
  | 3 => .array .int
  | 4 => .object "PretendDesk$Told"
  | 5 => .int
  | _ => .int
theorem zt8_nm : ∀ a, a < 7 → ∀ b, b < 7 → a ≠ b → (zt8 a).2.1 ≠ (zt8 b).2.1 := by decide +kernel
theorem zt8_ty : ∀ k, k < 7 → parseFieldDescriptor (zt8 k).2.2.1 = some (zy8 k) := by decide +kernel
def zn9 : String := "PretendDesk$Forger"
def zt9 : u_T := fun k => match k with
  | 0 => ("PretendDesk$Forger", "forged", "LPretendDesk$Page;", true)
  | 1 => ("PretendDesk$Forger", "told", "LPretendDesk$Told;", true)
  | 2 => ("PretendDesk$Forger", "room", "LPretendDesk$Room;", true)
  | 3 => ("PretendDesk$Forger", "waits", "I", false)
  | 4 => ("PretendDesk$Forger", "price", "I", false)
  | 5 => ("PretendDesk$Forger", "set", "I", false)
  | _ => ("PretendDesk$Forger", "says", "I", false)
def zy9 : Nat → FieldType := fun k => match k with
  | 0 => .object "PretendDesk$Page"
  | 1 => .object "PretendDesk$Told"
  | 2 => .object "PretendDesk$Room"
  | 3 => .int
  | 4 => .int
  | 5 => .int
  | _ => .int
theorem zt9_nm : ∀ a, a < 7 → ∀ b, b < 7 → a ≠ b → (zt9 a).2.1 ≠ (zt9 b).2.1 := by decide +kernel
theorem zt9_ty : ∀ k, k < 7 → parseFieldDescriptor (zt9 k).2.2.1 = some (zy9 k) := by decide +kernel
def zn10 : String := "PretendDesk$Best"
def zt10 : u_T := fun k => match k with
  | 0 => ("PretendDesk$Best", "looks", "[I", true)
  | 1 => ("PretendDesk$Best", "asked", "[I", true)
  | 2 => ("PretendDesk$Best", "age", "[I", true)
  | 3 => ("PretendDesk$Best", "pretends", "[Z", true)
  | 4 => ("PretendDesk$Best", "turnsA", "[Z", true)
  | 5 => ("PretendDesk$Best", "turnsB", "[Z", true)
  | 6 => ("PretendDesk$Best", "turnsC", "[Z", true)
  | 7 => ("PretendDesk$Best", "cases", "I", false)
  | 8 => ("PretendDesk$Best", "any", "Z", false)
  | 9 => ("PretendDesk$Best", "bestA", "I", false)
  | 10 => ("PretendDesk$Best", "bestB", "I", false)
  | 11 => ("PretendDesk$Best", "bestC", "I", false)
  | 12 => ("PretendDesk$Best", "missed", "I", false)
  | _ => ("PretendDesk$Best", "honest", "I", false)
def zy10 : Nat → FieldType := fun k => match k with
  | 0 => .array .int
  | 1 => .array .int
  | 2 => .array .int
  | 3 => .array .boolean
  | 4 => .array .boolean
  | 5 => .array .boolean
  | 6 => .array .boolean
  | 7 => .int
  | 8 => .boolean
  | 9 => .int
  | 10 => .int
  | 11 => .int
  | 12 => .int
  | _ => .int
theorem zt10_nm : ∀ a, a < 14 → ∀ b, b < 14 → a ≠ b → (zt10 a).2.1 ≠ (zt10 b).2.1 := by decide +kernel
theorem zt10_ty : ∀ k, k < 14 → parseFieldDescriptor (zt10 k).2.2.1 = some (zy10 k) := by decide +kernel
def zn11 : String := "PretendDesk$Runner"
def zt11 : u_T := fun k => match k with
  | 0 => ("PretendDesk$Runner", "numbers", "[I", true)
  | 1 => ("PretendDesk$Runner", "traces", "[I", true)
  | 2 => ("PretendDesk$Runner", "got", "[I", true)
  | _ => ("PretendDesk$Runner", "steps", "I", false)
def zy11 : Nat → FieldType := fun k => match k with
  | 0 => .array .int
  | 1 => .array .int
  | 2 => .array .int
  | _ => .int
theorem zt11_nm : ∀ a, a < 4 → ∀ b, b < 4 → a ≠ b → (zt11 a).2.1 ≠ (zt11 b).2.1 := by decide +kernel
theorem zt11_ty : ∀ k, k < 4 → parseFieldDescriptor (zt11 k).2.2.1 = some (zy11 k) := by decide +kernel
def zn12 : String := "PretendDeskModel"
def zt12 : u_T := fun k => match k with
  | 0 => ("PretendDeskModel", "all", "[I", true)
  | 1 => ("PretendDeskModel", "has", "[Z", true)
  | 2 => ("PretendDeskModel", "size", "I", false)
  | 3 => ("PretendDeskModel", "next", "I", false)
  | 4 => ("PretendDeskModel", "where", "I", false)
  | 5 => ("PretendDeskModel", "token", "I", false)
  | 6 => ("PretendDeskModel", "number", "I", false)
  | 7 => ("PretendDeskModel", "sign", "I", false)
  | 8 => ("PretendDeskModel", "word", "I", false)
  | 9 => ("PretendDeskModel", "wrong", "Z", false)
  | 10 => ("PretendDeskModel", "boxes", "I", false)
  | 11 => ("PretendDeskModel", "depth", "I", false)
  | 12 => ("PretendDeskModel", "within", "[I", true)
  | 13 => ("PretendDeskModel", "read", "[I", true)
  | 14 => ("PretendDeskModel", "spelled", "[I", true)
  | 15 => ("PretendDeskModel", "tree", "I", false)
  | 16 => ("PretendDeskModel", "gone", "[Z", true)
  | 17 => ("PretendDeskModel", "colour", "[I", true)
  | 18 => ("PretendDeskModel", "shown", "[Z", true)
  | 19 => ("PretendDeskModel", "over", "[I", true)
  | 20 => ("PretendDeskModel", "stack", "[I", true)
  | 21 => ("PretendDeskModel", "begun", "[I", true)
  | 22 => ("PretendDeskModel", "many", "[I", true)
  | 23 => ("PretendDeskModel", "kinds", "[I", true)
  | 24 => ("PretendDeskModel", "colours", "[I", true)
  | 25 => ("PretendDeskModel", "first", "[I", true)
  | 26 => ("PretendDeskModel", "opened", "I", false)
  | 27 => ("PretendDeskModel", "asked", "I", false)
  | 28 => ("PretendDeskModel", "apart", "[I", true)
  | 29 => ("PretendDeskModel", "row", "[I", true)
  | 30 => ("PretendDeskModel", "likeLook", "I", false)
  | 31 => ("PretendDeskModel", "likeIs", "I", false)
  | 32 => ("PretendDeskModel", "lookIs", "I", false)
  | 33 => ("PretendDeskModel", "askIs", "I", false)
  | 34 => ("PretendDeskModel", "isElsewhere", "Z", false)
  | 35 => ("PretendDeskModel", "caseLook", "[I", true)
  | 36 => ("PretendDeskModel", "caseAsk", "[I", true)
  | 37 => ("PretendDeskModel", "caseAge", "[I", true)
  | 38 => ("PretendDeskModel", "told", "[I", true)
  | 39 => ("PretendDeskModel", "fitted", "[I", true)
  | 40 => ("PretendDeskModel", "waits", "I", false)
  | 41 => ("PretendDeskModel", "priceNow", "I", false)
  | 42 => ("PretendDeskModel", "lines", "I", false)
  | 43 => ("PretendDeskModel", "line", "[I", true)
  | 44 => ("PretendDeskModel", "register", "[I", true)
  | 45 => ("PretendDeskModel", "traces", "[I", true)
  | 46 => ("PretendDeskModel", "come", "[I", true)
  | 47 => ("PretendDeskModel", "relays", "I", false)
  | _ => ("PretendDeskModel", "meant", "I", false)
def zy12 : Nat → FieldType := fun k => match k with
  | 0 => .array .int
  | 1 => .array .boolean
  | 2 => .int
  | 3 => .int
  | 4 => .int
  | 5 => .int
  | 6 => .int
  | 7 => .int
  | 8 => .int
  | 9 => .boolean
  | 10 => .int
  | 11 => .int
  | 12 => .array .int
  | 13 => .array .int
  | 14 => .array .int
  | 15 => .int
  | 16 => .array .boolean
  | 17 => .array .int
  | 18 => .array .boolean
  | 19 => .array .int
  | 20 => .array .int
  | 21 => .array .int
  | 22 => .array .int
  | 23 => .array .int
  | 24 => .array .int
  | 25 => .array .int
  | 26 => .int
  | 27 => .int
  | 28 => .array .int
  | 29 => .array .int
  | 30 => .int
  | 31 => .int
  | 32 => .int
  | 33 => .int
  | 34 => .boolean
  | 35 => .array .int
  | 36 => .array .int
  | 37 => .array .int
  | 38 => .array .int
  | 39 => .array .int
  | 40 => .int
  | 41 => .int
  | 42 => .int
  | 43 => .array .int
  | 44 => .array .int
  | 45 => .array .int
  | 46 => .array .int
  | 47 => .int
  | _ => .int
theorem zt12_nm : ∀ a, a < 49 → ∀ b, b < 49 → a ≠ b → (zt12 a).2.1 ≠ (zt12 b).2.1 := by decide +kernel
theorem zt12_ty : ∀ k, k < 49 → parseFieldDescriptor (zt12 k).2.2.1 = some (zy12 k) := by decide +kernel
def zn13 : String := "java/lang/String"
def zt13 : u_T := fun k => match k with
  | 0 => ("java/lang/String", "value", "[B", true)
  | 1 => ("java/lang/String", "coder", "B", true)
  | 2 => ("java/lang/String", "hash", "I", false)
  | _ => ("java/lang/String", "hashIsZero", "Z", false)
def zy13 : Nat → FieldType := fun k => match k with
  | 0 => .array .byte
  | 1 => .byte
  | 2 => .int
  | _ => .boolean
theorem zt13_nm : ∀ a, a < 4 → ∀ b, b < 4 → a ≠ b → (zt13 a).2.1 ≠ (zt13 b).2.1 := by decide +kernel
theorem zt13_ty : ∀ k, k < 4 → parseFieldDescriptor (zt13 k).2.2.1 = some (zy13 k) := by decide +kernel
def zn14 : String := "java/lang/StringBuilder"
def zt14 : u_T := fun k => match k with
  | 0 => ("java/lang/AbstractStringBuilder", "value", "[B", false)
  | 1 => ("java/lang/AbstractStringBuilder", "coder", "B", false)
  | 2 => ("java/lang/AbstractStringBuilder", "maybeLatin1", "Z", false)
  | _ => ("java/lang/AbstractStringBuilder", "count", "I", false)
def zy14 : Nat → FieldType := fun k => match k with
  | 0 => .array .byte
  | 1 => .byte
  | 2 => .boolean
  | _ => .int
theorem zt14_nm : ∀ a, a < 4 → ∀ b, b < 4 → a ≠ b → (zt14 a).2.1 ≠ (zt14 b).2.1 := by decide +kernel
theorem zt14_ty : ∀ k, k < 4 → parseFieldDescriptor (zt14 k).2.2.1 = some (zy14 k) := by decide +kernel
def zn15 : String := "java/lang/String"
def zt15 : u_T := fun k => match k with
  | 0 => ("java/lang/String", "value", "[B", true)
  | _ => ("java/lang/String", "coder", "B", true)
def zy15 : Nat → FieldType := fun k => match k with
  | 0 => .array .byte
  | _ => .byte
theorem zt15_nm : ∀ a, a < 2 → ∀ b, b < 2 → a ≠ b → (zt15 a).2.1 ≠ (zt15 b).2.1 := by decide +kernel
theorem zt15_ty : ∀ k, k < 2 → parseFieldDescriptor (zt15 k).2.2.1 = some (zy15 k) := by decide +kernel
abbrev zcl : List vw_C := [(zn0, zt0, 10), (zn1, zt1, 17), (zn2, zt2, 11), (zn3, zt3, 4), (zn4, zt4, 9), (zn5, zt5, 2), (zn6, zt6, 9), (zn7, zt7, 6), (zn8, zt8, 7), (zn9, zt9, 7), (zn10, zt10, 14), (zn11, zt11, 4), (zn12, zt12, 49), (zn13, zt13, 4), (zn14, zt14, 4), (zn15, zt15, 2)]
/-- which places hold references -/
def zft : zTab := [[true, true, true, true, true, true, true, true, true, true], [true, true, true, true, true, true, true, true, true, true, true, false, false, false, false, false, false], [true, false, false, false, false, true, true, false, false, false, false], [true, true, false, false], [true, true, true, true, false, false, false, false, false], [true, false], [true, true, true, true, true, true, false, false, false], [true, true, true, true, true, false], [true, true, true, true, true, false, false], [true, true, true, false, false, false, false], [true, true, true, true, true, true, true, false, false, false, false, false, false, false], [true, true, true, false], [true, true, false, false, false, false, false, false, false, false, false, false, true, true, true, false, true, true, true, true, true, true, true, true, true, true, false, false, true, true, false, false, false, false, false, true, true, true, true, true, false, false, false, true, true, true, true, false, false], [true, false, false, false], [true, false, false, false], [true, false]]
abbrev zty (f : Nat → ClassId) : List (ClassId × FieldType) := [(f 0, .int), (f 1, .char), (f 2, .boolean), (f 3, .byte), (f 4, .object "PretendDesk$Told"), (f 5, .object "PretendDesk$House"), (f 6, .object "PretendDesk$Came"), (f 7, .object "PretendDesk$Page")]
/-- what one class links of another one of its nest, private as it is -/
def zNs : List (String × Nat × MethodName × String) := [("PretendDesk$Told", 11, ⟨"PretendDesk$Tape", "<init>", "()V"⟩, "PretendDesk"), ("PretendDesk$Told", 32, ⟨"PretendDesk$Speech", "<init>", "()V"⟩, "PretendDesk"), ("PretendDesk$House", 17, ⟨"PretendDesk$Page", "<init>", "()V"⟩, "PretendDesk"), ("PretendDesk$Told", 71, ⟨"PretendDesk$Came", "<init>", "()V"⟩, "PretendDesk"), ("PretendDesk$Came", 11, ⟨"PretendDesk$Page", "<init>", "()V"⟩, "PretendDesk"), ("PretendDesk$Room", 11, ⟨"PretendDesk$Opened", "<init>", "()V"⟩, "PretendDesk"), ("PretendDesk$Forger", 11, ⟨"PretendDesk$Page", "<init>", "()V"⟩, "PretendDesk"), ("PretendDesk", 40, ⟨"PretendDesk$Best", "<init>", "()V"⟩, "PretendDesk"), ("PretendDesk", 47, ⟨"PretendDesk$Runner", "<init>", "()V"⟩, "PretendDesk"), ("PretendDesk", 54, ⟨"PretendDesk$Page", "<init>", "()V"⟩, "PretendDesk"), ("PretendDesk$Tape", 48, ⟨"PretendDesk", "isLetter", "(C)Z"⟩, "PretendDesk"), ("PretendDesk$Tape", 52, ⟨"PretendDesk", "isDigit", "(C)Z"⟩, "PretendDesk"), ("PretendDesk$Tape", 74, ⟨"PretendDesk", "isBlank", "(C)Z"⟩, "PretendDesk"), ("PretendDesk$Forger", 68, ⟨"PretendDesk", "said", "(I)I"⟩, "PretendDesk"), ("PretendDesk$Speech", 60, ⟨"PretendDesk", "isLetter", "(C)Z"⟩, "PretendDesk")]
def zAs : List String := ["PretendDesk$Told", "PretendDesk$House", "PretendDesk$Came", "PretendDesk$Page"]
/-- one word more: a private method of a superclass, chosen for an object of the subclass -/
def zXw : Cond := Cond.selects "java/lang/StringBuilder" (⟨"java/lang/AbstractStringBuilder", "ensureCapacityInternal", "(I)V"⟩ : MethodName) (⟨"java/lang/AbstractStringBuilder", "ensureCapacityInternal", "(I)V"⟩ : MethodName)
def zTb : List Cond := (zXw :: lw_tbl).filter goodWord
theorem zTb_good {X : List Cond} (h : ∀ w ∈ X, w ∈ zTb) : GoodIn zTb X := fun w hw => ⟨h w hw, good_of_word (List.mem_filter.mp (h w hw)).2⟩
theorem zTb_in {w : Cond} (h : w ∈ lw_tbl) (g : goodWord w = true) : w ∈ zTb := List.mem_filter.mpr ⟨List.mem_cons_of_mem _ h, g⟩
theorem zTb_x : zXw ∈ zTb := List.mem_filter.mpr ⟨List.mem_cons_self, rfl⟩
theorem zTb_ok {A : Array Value} {s : State} (hx : zXw.before A s = true) (h : ∀ w ∈ lw_tbl, w.before A s = true) : ∀ w ∈ zTb, w.before A s = true := fun w hw => (List.mem_cons.mp (List.mem_filter.mp hw).1).elim (fun e => by rw [e]; exact hx) (h w)
