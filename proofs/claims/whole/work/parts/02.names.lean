def RX0 : String := "HandsLet$Course"
def TX0 : u_T := fun k => match k with
  | 0 => ("HandsLet$Course", "sums", "LHandsLet$Sums;", true)
  | 1 => ("HandsLet$Course", "plan", "LHandsLet$Plan;", false)
  | 2 => ("HandsLet$Course", "world", "LHandsLet$World;", false)
  | 3 => ("HandsLet$Course", "bank", "I", false)
  | 4 => ("HandsLet$Course", "wear", "I", false)
  | 5 => ("HandsLet$Course", "absent", "I", false)
  | 6 => ("HandsLet$Course", "rentFree", "Z", false)
  | _ => ("HandsLet$Course", "fineFree", "Z", false)
def tyX0 : Nat → FieldType := fun k => match k with
  | 0 => .object "HandsLet$Sums"
  | 1 => .object "HandsLet$Plan"
  | 2 => .object "HandsLet$World"
  | 3 => .int
  | 4 => .int
  | 5 => .int
  | 6 => .boolean
  | _ => .boolean
theorem nmX0 : ∀ a, a < 8 → ∀ b, b < 8 → a ≠ b → (TX0 a).2.1 ≠ (TX0 b).2.1 := by decide +kernel
theorem tyX0_ok : ∀ k, k < 8 → parseFieldDescriptor (TX0 k).2.2.1 = some (tyX0 k) := by decide +kernel
def RX1 : String := "HandsLet$Deeds"
def TX1 : u_T := fun k => match k with
  | 0 => ("HandsLet$Deeds", "rows", "[I", true)
  | 1 => ("HandsLet$Deeds", "next", "I", false)
  | _ => ("HandsLet$Deeds", "many", "I", false)
def tyX1 : Nat → FieldType := fun k => match k with
  | 0 => .array .int
  | 1 => .int
  | _ => .int
theorem nmX1 : ∀ a, a < 3 → ∀ b, b < 3 → a ≠ b → (TX1 a).2.1 ≠ (TX1 b).2.1 := by decide +kernel
theorem tyX1_ok : ∀ k, k < 3 → parseFieldDescriptor (TX1 k).2.2.1 = some (tyX1 k) := by decide +kernel
def RX2 : String := "HandsLet$Matching"
def TX2 : u_T := fun k => match k with
  | 0 => ("HandsLet$Matching", "costOf", "[I", true)
  | 1 => ("HandsLet$Matching", "worth", "[[I", true)
  | 2 => ("HandsLet$Matching", "chosen", "[I", true)
  | 3 => ("HandsLet$Matching", "pairs", "I", false)
  | _ => ("HandsLet$Matching", "costs", "I", false)
def tyX2 : Nat → FieldType := fun k => match k with
  | 0 => .array .int
  | 1 => .array (.array .int)
  | 2 => .array .int
  | 3 => .int
  | _ => .int
theorem nmX2 : ∀ a, a < 5 → ∀ b, b < 5 → a ≠ b → (TX2 a).2.1 ≠ (TX2 b).2.1 := by decide +kernel
theorem tyX2_ok : ∀ k, k < 5 → parseFieldDescriptor (TX2 k).2.2.1 = some (tyX2 k) := by decide +kernel
def RX3 : String := "HandsLet$Plan"
def TX3 : u_T := fun k => match k with
  | 0 => ("HandsLet$Plan", "lines", "I", false)
  | 1 => ("HandsLet$Plan", "people", "I", false)
  | 2 => ("HandsLet$Plan", "leaseCount", "I", false)
  | 3 => ("HandsLet$Plan", "letterCount", "I", false)
  | 4 => ("HandsLet$Plan", "knots", "I", false)
  | 5 => ("HandsLet$Plan", "names", "[I", true)
  | 6 => ("HandsLet$Plan", "traits", "[I", true)
  | 7 => ("HandsLet$Plan", "purses", "[I", true)
  | 8 => ("HandsLet$Plan", "leases", "[[I", true)
  | 9 => ("HandsLet$Plan", "letters", "[[I", true)
  | 10 => ("HandsLet$Plan", "settings", "[I", true)
  | 11 => ("HandsLet$Plan", "lawStarts", "[I", true)
  | 12 => ("HandsLet$Plan", "lawStops", "[I", true)
  | 13 => ("HandsLet$Plan", "knotKinds", "[I", true)
  | _ => ("HandsLet$Plan", "knotValues", "[I", true)
def tyX3 : Nat → FieldType := fun k => match k with
  | 0 => .int
  | 1 => .int
  | 2 => .int
  | 3 => .int
  | 4 => .int
  | 5 => .array .int
  | 6 => .array .int
  | 7 => .array .int
  | 8 => .array (.array .int)
  | 9 => .array (.array .int)
  | 10 => .array .int
  | 11 => .array .int
  | 12 => .array .int
  | 13 => .array .int
  | _ => .array .int
theorem nmX3 : ∀ a, a < 15 → ∀ b, b < 15 → a ≠ b → (TX3 a).2.1 ≠ (TX3 b).2.1 := by decide +kernel
theorem tyX3_ok : ∀ k, k < 15 → parseFieldDescriptor (TX3 k).2.2.1 = some (tyX3 k) := by decide +kernel
def RX4 : String := "HandsLet$Reader"
def TX4 : u_T := fun k => match k with
  | 0 => ("HandsLet$Reader", "tokens", "LHandsLet$Tokens;", true)
  | 1 => ("HandsLet$Reader", "plan", "LHandsLet$Plan;", false)
  | 2 => ("HandsLet$Reader", "told", "I", false)
  | 3 => ("HandsLet$Reader", "faultKind", "I", false)
  | 4 => ("HandsLet$Reader", "faultPlace", "I", false)
  | 5 => ("HandsLet$Reader", "waiting", "[I", true)
  | 6 => ("HandsLet$Reader", "waitingMany", "I", false)
  | 7 => ("HandsLet$Reader", "openMany", "I", false)
  | _ => ("HandsLet$Reader", "setDown", "I", false)
def tyX4 : Nat → FieldType := fun k => match k with
  | 0 => .object "HandsLet$Tokens"
  | 1 => .object "HandsLet$Plan"
  | 2 => .int
  | 3 => .int
  | 4 => .int
  | 5 => .array .int
  | 6 => .int
  | 7 => .int
  | _ => .int
theorem nmX4 : ∀ a, a < 9 → ∀ b, b < 9 → a ≠ b → (TX4 a).2.1 ≠ (TX4 b).2.1 := by decide +kernel
theorem tyX4_ok : ∀ k, k < 9 → parseFieldDescriptor (TX4 k).2.2.1 = some (tyX4 k) := by decide +kernel
def RX5 : String := "HandsLet$Sight"
def TX5 : u_T := fun k => match k with
  | 0 => ("HandsLet$Sight", "many", "I", false)
  | 1 => ("HandsLet$Sight", "lastDay", "I", false)
  | 2 => ("HandsLet$Sight", "limit", "I", false)
  | 3 => ("HandsLet$Sight", "days", "[I", true)
  | 4 => ("HandsLet$Sight", "traitPlaces", "[I", true)
  | 5 => ("HandsLet$Sight", "muches", "[I", true)
  | 6 => ("HandsLet$Sight", "atLeasts", "[Z", true)
  | 7 => ("HandsLet$Sight", "strikes", "[I", true)
  | _ => ("HandsLet$Sight", "counts", "[Z", true)
def tyX5 : Nat → FieldType := fun k => match k with
  | 0 => .int
  | 1 => .int
  | 2 => .int
  | 3 => .array .int
  | 4 => .array .int
  | 5 => .array .int
  | 6 => .array .boolean
  | 7 => .array .int
  | _ => .array .boolean
theorem nmX5 : ∀ a, a < 9 → ∀ b, b < 9 → a ≠ b → (TX5 a).2.1 ≠ (TX5 b).2.1 := by decide +kernel
theorem tyX5_ok : ∀ k, k < 9 → parseFieldDescriptor (TX5 k).2.2.1 = some (tyX5 k) := by decide +kernel
def RX6 : String := "HandsLet$Sums"
def TX6 : u_T := fun k => match k with
  | 0 => ("HandsLet$Sums", "names", "[J", true)
  | _ => ("HandsLet$Sums", "held", "[J", true)
def tyX6 : Nat → FieldType := fun k => match k with
  | 0 => .array .long
  | _ => .array .long
theorem nmX6 : ∀ a, a < 2 → ∀ b, b < 2 → a ≠ b → (TX6 a).2.1 ≠ (TX6 b).2.1 := by decide +kernel
theorem tyX6_ok : ∀ k, k < 2 → parseFieldDescriptor (TX6 k).2.2.1 = some (tyX6 k) := by decide +kernel
def RX7 : String := "HandsLet$Tokens"
def TX7 : u_T := fun k => match k with
  | 0 => ("HandsLet$Tokens", "bytes", "[B", true)
  | 1 => ("HandsLet$Tokens", "tapeLength", "I", false)
  | 2 => ("HandsLet$Tokens", "language", "[I", true)
  | 3 => ("HandsLet$Tokens", "length", "I", false)
  | 4 => ("HandsLet$Tokens", "next", "I", false)
  | 5 => ("HandsLet$Tokens", "kind", "I", false)
  | 6 => ("HandsLet$Tokens", "place", "I", false)
  | _ => ("HandsLet$Tokens", "value", "I", false)
def tyX7 : Nat → FieldType := fun k => match k with
  | 0 => .array .byte
  | 1 => .int
  | 2 => .array .int
  | 3 => .int
  | 4 => .int
  | 5 => .int
  | 6 => .int
  | _ => .int
theorem nmX7 : ∀ a, a < 8 → ∀ b, b < 8 → a ≠ b → (TX7 a).2.1 ≠ (TX7 b).2.1 := by decide +kernel
theorem tyX7_ok : ∀ k, k < 8 → parseFieldDescriptor (TX7 k).2.2.1 = some (tyX7 k) := by decide +kernel
def RX8 : String := "HandsLet$World"
def TX8 : u_T := fun k => match k with
  | 0 => ("HandsLet$World", "day", "I", false)
  | 1 => ("HandsLet$World", "lastNumber", "J", false)
  | 2 => ("HandsLet$World", "purses", "[I", true)
  | 3 => ("HandsLet$World", "traits", "[I", true)
  | 4 => ("HandsLet$World", "tenants", "[I", true)
  | 5 => ("HandsLet$World", "daysLeft", "[I", true)
  | 6 => ("HandsLet$World", "timesLet", "[I", true)
  | 7 => ("HandsLet$World", "written", "[I", true)
  | 8 => ("HandsLet$World", "clashed", "[I", true)
  | 9 => ("HandsLet$World", "caught", "[I", true)
  | 10 => ("HandsLet$World", "letterTraits", "[I", true)
  | 11 => ("HandsLet$World", "forgedSoFar", "I", false)
  | 12 => ("HandsLet$World", "clashesSoFar", "I", false)
  | 13 => ("HandsLet$World", "foundSoFar", "I", false)
  | _ => ("HandsLet$World", "refusedSoFar", "I", false)
def tyX8 : Nat → FieldType := fun k => match k with
  | 0 => .int
  | 1 => .long
  | 2 => .array .int
  | 3 => .array .int
  | 4 => .array .int
  | 5 => .array .int
  | 6 => .array .int
  | 7 => .array .int
  | 8 => .array .int
  | 9 => .array .int
  | 10 => .array .int
  | 11 => .int
  | 12 => .int
  | 13 => .int
  | _ => .int
theorem nmX8 : ∀ a, a < 15 → ∀ b, b < 15 → a ≠ b → (TX8 a).2.1 ≠ (TX8 b).2.1 := by decide +kernel
theorem tyX8_ok : ∀ k, k < 15 → parseFieldDescriptor (TX8 k).2.2.1 = some (tyX8 k) := by decide +kernel
def RX9 : String := "HandsLet"
def TX9 : u_T := fun k => match k with
  | 0 => ("HandsLet", "reader", "LHandsLet$Reader;", true)
  | 1 => ("HandsLet", "plan", "LHandsLet$Plan;", false)
  | 2 => ("HandsLet", "draft", "LHandsLet$Plan;", false)
  | 3 => ("HandsLet", "now", "LHandsLet$World;", true)
  | 4 => ("HandsLet", "image", "LHandsLet$World;", true)
  | 5 => ("HandsLet", "trial", "LHandsLet$World;", true)
  | 6 => ("HandsLet", "hasImage", "Z", false)
  | 7 => ("HandsLet", "course", "LHandsLet$Course;", true)
  | 8 => ("HandsLet", "sight", "LHandsLet$Sight;", true)
  | 9 => ("HandsLet", "deeds", "LHandsLet$Deeds;", true)
  | 10 => ("HandsLet", "matching", "LHandsLet$Matching;", true)
  | _ => ("HandsLet", "slants", "[I", true)
def tyX9 : Nat → FieldType := fun k => match k with
  | 0 => .object "HandsLet$Reader"
  | 1 => .object "HandsLet$Plan"
  | 2 => .object "HandsLet$Plan"
  | 3 => .object "HandsLet$World"
  | 4 => .object "HandsLet$World"
  | 5 => .object "HandsLet$World"
  | 6 => .boolean
  | 7 => .object "HandsLet$Course"
  | 8 => .object "HandsLet$Sight"
  | 9 => .object "HandsLet$Deeds"
  | 10 => .object "HandsLet$Matching"
  | _ => .array .int
theorem nmX9 : ∀ a, a < 12 → ∀ b, b < 12 → a ≠ b → (TX9 a).2.1 ≠ (TX9 b).2.1 := by decide +kernel
theorem tyX9_ok : ∀ k, k < 12 → parseFieldDescriptor (TX9 k).2.2.1 = some (tyX9 k) := by decide +kernel
def RX10 : String := "HandsLetModel"
def TX10 : u_T := fun k => match k with
  | 0 => ("HandsLetModel", "thrown", "I", false)
  | 1 => ("HandsLetModel", "tape", "[I", true)
  | 2 => ("HandsLetModel", "taped", "I", false)
  | 3 => ("HandsLetModel", "number", "[I", true)
  | 4 => ("HandsLetModel", "manName", "[I", true)
  | 5 => ("HandsLetModel", "writesAs", "[I", true)
  | 6 => ("HandsLetModel", "purseAs", "[I", true)
  | 7 => ("HandsLetModel", "leaseHand", "[I", true)
  | 8 => ("HandsLetModel", "leaseTo", "[I", true)
  | 9 => ("HandsLetModel", "leaseDay", "[I", true)
  | 10 => ("HandsLetModel", "leaseDays", "[I", true)
  | 11 => ("HandsLetModel", "leasePrice", "[I", true)
  | 12 => ("HandsLetModel", "letterBy", "[I", true)
  | 13 => ("HandsLetModel", "letterHand", "[I", true)
  | 14 => ("HandsLetModel", "letterDay", "[I", true)
  | 15 => ("HandsLetModel", "sumFrom", "[I", true)
  | 16 => ("HandsLetModel", "sumTo", "[I", true)
  | 17 => ("HandsLetModel", "knotSort", "[I", true)
  | 18 => ("HandsLetModel", "knotValue", "[I", true)
  | 19 => ("HandsLetModel", "told", "I", false)
  | 20 => ("HandsLetModel", "lines", "I", false)
  | 21 => ("HandsLetModel", "size", "I", false)
  | 22 => ("HandsLetModel", "at", "I", false)
  | 23 => ("HandsLetModel", "place", "I", false)
  | 24 => ("HandsLetModel", "sort", "I", false)
  | 25 => ("HandsLetModel", "value", "I", false)
  | 26 => ("HandsLetModel", "fault", "I", false)
  | 27 => ("HandsLetModel", "faultPlace", "I", false)
  | 28 => ("HandsLetModel", "lastFault", "I", false)
  | 29 => ("HandsLetModel", "lastPlace", "I", false)
  | 30 => ("HandsLetModel", "open", "I", false)
  | 31 => ("HandsLetModel", "counted", "I", false)
  | 32 => ("HandsLetModel", "names", "[J", true)
  | 33 => ("HandsLetModel", "worked", "[J", true)
  | 34 => ("HandsLetModel", "workedMany", "I", false)
  | 35 => ("HandsLetModel", "day", "[I", true)
  | 36 => ("HandsLetModel", "drawn", "[I", true)
  | 37 => ("HandsLetModel", "refused", "[I", true)
  | 38 => ("HandsLetModel", "clashed", "[I", true)
  | 39 => ("HandsLetModel", "foundOnes", "[I", true)
  | 40 => ("HandsLetModel", "traitOf", "[I", true)
  | 41 => ("HandsLetModel", "tenantOf", "[I", true)
  | 42 => ("HandsLetModel", "leftOf", "[I", true)
  | 43 => ("HandsLetModel", "timesOf", "[I", true)
  | 44 => ("HandsLetModel", "purseOf", "[I", true)
  | 45 => ("HandsLetModel", "letterHow", "[I", true)
  | 46 => ("HandsLetModel", "letterIs", "[I", true)
  | 47 => ("HandsLetModel", "hasImage", "Z", false)
  | 48 => ("HandsLetModel", "undoMany", "I", false)
  | 49 => ("HandsLetModel", "tryWhat", "I", false)
  | 50 => ("HandsLetModel", "tryMan", "I", false)
  | 51 => ("HandsLetModel", "wearTried", "I", false)
  | 52 => ("HandsLetModel", "matchNow", "[I", true)
  | 53 => ("HandsLetModel", "matchBest", "[I", true)
  | 54 => ("HandsLetModel", "matchMany", "I", false)
  | 55 => ("HandsLetModel", "matchApart", "I", false)
  | 56 => ("HandsLetModel", "dayNow", "[I", true)
  | 57 => ("HandsLetModel", "notes", "I", false)
  | 58 => ("HandsLetModel", "knownBy", "I", false)
  | 59 => ("HandsLetModel", "noteDays", "[I", true)
  | 60 => ("HandsLetModel", "noteTrait", "[I", true)
  | 61 => ("HandsLetModel", "noteMuch", "[I", true)
  | 62 => ("HandsLetModel", "noteLeast", "[Z", true)
  | 63 => ("HandsLetModel", "outs", "[I", true)
  | 64 => ("HandsLetModel", "isOut", "[Z", true)
  | _ => ("HandsLetModel", "slantBy", "[I", true)
def tyX10 : Nat → FieldType := fun k => match k with
  | 0 => .int
  | 1 => .array .int
  | 2 => .int
  | 3 => .array .int
  | 4 => .array .int
  | 5 => .array .int
  | 6 => .array .int
  | 7 => .array .int
  | 8 => .array .int
  | 9 => .array .int
  | 10 => .array .int
  | 11 => .array .int
  | 12 => .array .int
  | 13 => .array .int
  | 14 => .array .int
  | 15 => .array .int
  | 16 => .array .int
  | 17 => .array .int
  | 18 => .array .int
  | 19 => .int
  | 20 => .int
  | 21 => .int
  | 22 => .int
  | 23 => .int
  | 24 => .int
  | 25 => .int
  | 26 => .int
  | 27 => .int
  | 28 => .int
  | 29 => .int
  | 30 => .int
  | 31 => .int
  | 32 => .array .long
  | 33 => .array .long
  | 34 => .int
  | 35 => .array .int
  | 36 => .array .int
  | 37 => .array .int
  | 38 => .array .int
  | 39 => .array .int
  | 40 => .array .int
  | 41 => .array .int
  | 42 => .array .int
  | 43 => .array .int
  | 44 => .array .int
  | 45 => .array .int
  | 46 => .array .int
  | 47 => .boolean
  | 48 => .int
  | 49 => .int
  | 50 => .int
  | 51 => .int
  | 52 => .array .int
  | 53 => .array .int
  | 54 => .int
  | 55 => .int
  | 56 => .array .int
  | 57 => .int
  | 58 => .int
  | 59 => .array .int
  | 60 => .array .int
  | 61 => .array .int
  | 62 => .array .boolean
  | 63 => .array .int
  | 64 => .array .boolean
  | _ => .array .int
theorem nmX10 : ∀ a, a < 66 → ∀ b, b < 66 → a ≠ b → (TX10 a).2.1 ≠ (TX10 b).2.1 := by decide +kernel
theorem tyX10_ok : ∀ k, k < 66 → parseFieldDescriptor (TX10 k).2.2.1 = some (tyX10 k) := by decide +kernel
abbrev vwCl : List vw_C := [(RX0, TX0, 8), (RX1, TX1, 3), (RX2, TX2, 5), (RX3, TX3, 15), (RX4, TX4, 9), (RX5, TX5, 9), (RX6, TX6, 2), (RX7, TX7, 8), (RX8, TX8, 15), (RX9, TX9, 12), (RX10, TX10, 66)]
def zT : Nat → u_T
  | 0 => TX0
  | 1 => TX1
  | 2 => TX2
  | 3 => TX3
  | 4 => TX4
  | 5 => TX5
  | 6 => TX6
  | 7 => TX7
  | 8 => TX8
  | 9 => TX9
  | _ => TX10
def zty : Nat → Nat → FieldType
  | 0 => tyX0
  | 1 => tyX1
  | 2 => tyX2
  | 3 => tyX3
  | 4 => tyX4
  | 5 => tyX5
  | 6 => tyX6
  | 7 => tyX7
  | 8 => tyX8
  | 9 => tyX9
  | _ => tyX10
def zcnL : List String := ["HandsLet$Course", "HandsLet$Deeds", "HandsLet$Matching", "HandsLet$Plan", "HandsLet$Reader", "HandsLet$Sight", "HandsLet$Sums", "HandsLet$Tokens", "HandsLet$World", "HandsLet", "HandsLetModel", "HandsLetLaw", "java/lang/Math", "java/lang/Integer"]
def zcn (c : Nat) : String := zcnL.getD c ""
def zNf (c : Nat) : Nat := [8, 3, 5, 15, 9, 9, 2, 8, 15, 12, 66].getD c 0
def zmt_0 : List (MethodName × ByteArray × Nat × Option FieldType × Nat) := [(⟨"HandsLet$Course", "begin", "(LHandsLet$Plan;LHandsLet$World;I)V"⟩, prog_2_method_2_code, 4, none, 0), (⟨"HandsLet$Course", "play", "(I)V"⟩, prog_2_method_3_code, 3, none, 0), (⟨"HandsLet$Course", "playDay", "()V"⟩, prog_2_method_4_code, 2, none, 0), (⟨"HandsLet$Course", "playLeases", "()V"⟩, prog_2_method_5_code, 6, none, 0), (⟨"HandsLet$Course", "playLetters", "()V"⟩, prog_2_method_6_code, 3, none, 0), (⟨"HandsLet$Course", "write", "(III)V"⟩, prog_2_method_7_code, 8, none, 0), (⟨"HandsLet$Course", "clashes", "(I)Z"⟩, prog_2_method_8_code, 5, (some (.boolean)), 0), (⟨"HandsLet$Course", "bankLooks", "()Z"⟩, prog_2_method_9_code, 2, (some (.boolean)), 0), (⟨"HandsLet$Course", "findForged", "()V"⟩, prog_2_method_10_code, 5, none, 0), (⟨"HandsLet$Course", "comeBack", "(I)V"⟩, prog_2_method_11_code, 7, none, 0), (⟨"HandsLet$Course", "bounded", "(IIII)I"⟩, prog_2_method_12_code, 7, (some (.int)), 0), (⟨"HandsLet$Deeds", "clear", "()V"⟩, prog_3_method_2_code, 1, none, 1), (⟨"HandsLet$Deeds", "note", "(LHandsLet$World;I)V"⟩, prog_3_method_3_code, 4, none, 1), (⟨"HandsLet$Deeds", "takeBack", "(LHandsLet$World;)I"⟩, prog_3_method_4_code, 4, (some (.int)), 1), (⟨"HandsLet$Matching", "tell", "(III)V"⟩, prog_4_method_2_code, 4, none, 2), (⟨"HandsLet$Matching", "solve", "(I)V"⟩, prog_4_method_3_code, 4, none, 2)]
def zmt_1 : List (MethodName × ByteArray × Nat × Option FieldType × Nat) := [(⟨"HandsLet$Matching", "bestWorth", "(III)I"⟩, prog_4_method_4_code, 6, (some (.int)), 2), (⟨"HandsLet$Matching", "fits", "(III)Z"⟩, prog_4_method_5_code, 4, (some (.boolean)), 2), (⟨"HandsLet$Matching", "worthWith", "(III)I"⟩, prog_4_method_6_code, 4, (some (.int)), 2), (⟨"HandsLet$Matching", "choose", "(I)V"⟩, prog_4_method_7_code, 5, none, 2), (⟨"HandsLet$Plan", "empty", "()V"⟩, prog_5_method_2_code, 2, none, 3), (⟨"HandsLet$Plan", "personNamed", "(I)I"⟩, prog_5_method_3_code, 3, (some (.int)), 3), (⟨"HandsLet$Reader", "read", "(ILHandsLet$Plan;)V"⟩, prog_6_method_2_code, 4, none, 4), (⟨"HandsLet$Reader", "fail", "(I)V"⟩, prog_6_method_3_code, 2, none, 4), (⟨"HandsLet$Reader", "take", "(I)V"⟩, prog_6_method_4_code, 2, none, 4), (⟨"HandsLet$Reader", "takeNumber", "(II)I"⟩, prog_6_method_5_code, 4, (some (.int)), 4), (⟨"HandsLet$Reader", "takeNewName", "()I"⟩, prog_6_method_6_code, 2, (some (.int)), 4), (⟨"HandsLet$Reader", "takePerson", "(I)I"⟩, prog_6_method_7_code, 3, (some (.int)), 4), (⟨"HandsLet$Reader", "readMan", "()V"⟩, prog_6_method_8_code, 3, none, 4), (⟨"HandsLet$Reader", "readLease", "()V"⟩, prog_6_method_9_code, 2, none, 4), (⟨"HandsLet$Reader", "readLetter", "()V"⟩, prog_6_method_10_code, 2, none, 4), (⟨"HandsLet$Reader", "readSetting", "()V"⟩, prog_6_method_11_code, 2, none, 4)]
def zmt_2 : List (MethodName × ByteArray × Nat × Option FieldType × Nat) := [(⟨"HandsLet$Reader", "tellOnce", "(I)V"⟩, prog_6_method_12_code, 2, none, 4), (⟨"HandsLet$Reader", "readLaw", "()V"⟩, prog_6_method_13_code, 4, none, 4), (⟨"HandsLet$Reader", "readOperand", "()Z"⟩, prog_6_method_14_code, 5, (some (.boolean)), 4), (⟨"HandsLet$Reader", "mayDeny", "()Z"⟩, prog_6_method_15_code, 1, (some (.boolean)), 4), (⟨"HandsLet$Reader", "readJoint", "()Z"⟩, prog_6_method_16_code, 3, (some (.boolean)), 4), (⟨"HandsLet$Reader", "holdJoint", "(II)V"⟩, prog_6_method_17_code, 4, none, 4), (⟨"HandsLet$Reader", "countKnot", "()V"⟩, prog_6_method_18_code, 1, none, 4), (⟨"HandsLet$Reader", "hold", "(I)V"⟩, prog_6_method_19_code, 2, none, 4), (⟨"HandsLet$Reader", "setKnotDown", "(II)V"⟩, prog_6_method_20_code, 3, none, 4), (⟨"HandsLet$Reader", "settle", "(I)V"⟩, prog_6_method_21_code, 2, none, 4), (⟨"HandsLet$Reader", "rankOf", "(I)I"⟩, prog_6_method_22_code, 1, (some (.int)), 4), (⟨"HandsLet$Sight", "clear", "()V"⟩, prog_7_method_2_code, 1, none, 5), (⟨"HandsLet$Sight", "add", "(IIIZ)I"⟩, prog_7_method_3_code, 5, (some (.int)), 5), (⟨"HandsLet$Sight", "addStrike", "(I)I"⟩, prog_7_method_4_code, 2, (some (.int)), 5), (⟨"HandsLet$Sight", "knowBy", "(I)Z"⟩, prog_7_method_5_code, 2, (some (.boolean)), 5), (⟨"HandsLet$Sight", "knownMany", "()I"⟩, prog_7_method_6_code, 1, (some (.int)), 5)]
def zmt_3 : List (MethodName × ByteArray × Nat × Option FieldType × Nat) := [(⟨"HandsLet$Sight", "weigh", "()V"⟩, prog_7_method_7_code, 3, none, 5), (⟨"HandsLet$Sight", "agrees", "(I[I)Z"⟩, prog_7_method_8_code, 4, (some (.boolean)), 5), (⟨"HandsLet$Sums", "tellNames", "(LHandsLet$World;III)V"⟩, prog_8_method_2_code, 6, none, 6), (⟨"HandsLet$Sums", "work", "(LHandsLet$Plan;I)J"⟩, prog_8_method_3_code, 6, (some (.long)), 6), (⟨"HandsLet$Sums", "bit", "(Z)J"⟩, prog_8_method_4_code, 1, (some (.long)), 6), (⟨"HandsLet$Sums", "join", "(IJJ)J"⟩, prog_8_method_5_code, 5, (some (.long)), 6), (⟨"HandsLet$Sums", "within", "(J)J"⟩, prog_8_method_6_code, 2, (some (.long)), 6), (⟨"HandsLet$Sums", "product", "(JJ)J"⟩, prog_8_method_7_code, 8, (some (.long)), 6), (⟨"HandsLet$Tokens", "packed", "(II)I"⟩, prog_9_method_2_code, 2, (some (.int)), 7), (⟨"HandsLet$Tokens", "put", "(I)V"⟩, prog_9_method_3_code, 3, none, 7), (⟨"HandsLet$Tokens", "start", "(I)V"⟩, prog_9_method_4_code, 2, none, 7), (⟨"HandsLet$Tokens", "advance", "()V"⟩, prog_9_method_5_code, 1, none, 7), (⟨"HandsLet$Tokens", "isSmall", "(I)Z"⟩, prog_9_method_6_code, 1, (some (.boolean)), 7), (⟨"HandsLet$Tokens", "isDigit", "(I)Z"⟩, prog_9_method_7_code, 1, (some (.boolean)), 7), (⟨"HandsLet$Tokens", "readWord", "()V"⟩, prog_9_method_8_code, 2, none, 7), (⟨"HandsLet$Tokens", "kindOfWord", "(I)I"⟩, prog_9_method_9_code, 3, (some (.int)), 7)]
def zmt_4 : List (MethodName × ByteArray × Nat × Option FieldType × Nat) := [(⟨"HandsLet$Tokens", "readNumber", "()V"⟩, prog_9_method_10_code, 1, none, 7), (⟨"HandsLet$Tokens", "readSign", "()V"⟩, prog_9_method_11_code, 3, none, 7), (⟨"HandsLet$Tokens", "kindOfSign", "(I)I"⟩, prog_9_method_12_code, 1, (some (.int)), 7), (⟨"HandsLet$World", "begin", "(LHandsLet$Plan;)V"⟩, prog_10_method_2_code, 3, none, 8), (⟨"HandsLet$World", "copy", "(LHandsLet$World;)V"⟩, prog_10_method_3_code, 2, none, 8), (⟨"HandsLet$World", "isLet", "(I)Z"⟩, prog_10_method_4_code, 2, (some (.boolean)), 8), (⟨"HandsLet$World", "holderOf", "(I)I"⟩, prog_10_method_5_code, 2, (some (.int)), 8), (⟨"HandsLet$World", "mayLet", "(III)Z"⟩, prog_10_method_6_code, 4, (some (.boolean)), 8), (⟨"HandsLet$World", "handOver", "(IIII)V"⟩, prog_10_method_7_code, 5, none, 8), (⟨"HandsLet$World", "drawNumber", "()I"⟩, prog_10_method_8_code, 1, (some (.int)), 8), (⟨"HandsLet$World", "pursesInSum", "()I"⟩, prog_10_method_9_code, 6, (some (.int)), 8), (⟨"HandsLet$World", "handsLet", "()I"⟩, prog_10_method_10_code, 3, (some (.int)), 8), (⟨"HandsLet", "feed", "(IIIII)I"⟩, prog_1_method_2_code, 7, (some (.int)), 9), (⟨"HandsLet", "text", "(I)I"⟩, prog_1_method_3_code, 3, (some (.int)), 9), (⟨"HandsLet", "fault", "(I)I"⟩, prog_1_method_4_code, 2, (some (.int)), 9), (⟨"HandsLet", "named", "(I)I"⟩, prog_1_method_5_code, 2, (some (.int)), 9)]
def zmt_5 : List (MethodName × ByteArray × Nat × Option FieldType × Nat) := [(⟨"HandsLet", "isPerson", "(I)Z"⟩, prog_1_method_6_code, 2, (some (.boolean)), 9), (⟨"HandsLet", "isLetter", "(I)Z"⟩, prog_1_method_7_code, 2, (some (.boolean)), 9), (⟨"HandsLet", "man", "(II)I"⟩, prog_1_method_9_code, 3, (some (.int)), 9), (⟨"HandsLet", "handsHeldBy", "(I)I"⟩, prog_1_method_10_code, 4, (some (.int)), 9), (⟨"HandsLet", "lettersForgedBy", "(I)I"⟩, prog_1_method_11_code, 4, (some (.int)), 9), (⟨"HandsLet", "letter", "(II)I"⟩, prog_1_method_12_code, 3, (some (.int)), 9), (⟨"HandsLet", "law", "(IIII)J"⟩, prog_1_method_13_code, 5, (some (.long)), 9), (⟨"HandsLet", "isPrice", "(I)Z"⟩, prog_1_method_14_code, 1, (some (.boolean)), 9), (⟨"HandsLet", "let", "(IIII)I"⟩, prog_1_method_15_code, 6, (some (.int)), 9), (⟨"HandsLet", "end", "(I)I"⟩, prog_1_method_16_code, 2, (some (.int)), 9), (⟨"HandsLet", "teach", "(I)I"⟩, prog_1_method_17_code, 3, (some (.int)), 9), (⟨"HandsLet", "go", "(I)I"⟩, prog_1_method_18_code, 2, (some (.int)), 9), (⟨"HandsLet", "tryFromNow", "(I)V"⟩, prog_1_method_19_code, 2, none, 9), (⟨"HandsLet", "ahead", "(III)I"⟩, prog_1_method_20_code, 4, (some (.int)), 9), (⟨"HandsLet", "free", "(I)I"⟩, prog_1_method_21_code, 2, (some (.int)), 9), (⟨"HandsLet", "distance", "([III)I"⟩, prog_1_method_22_code, 6, (some (.int)), 9)]
def zmt_6 : List (MethodName × ByteArray × Nat × Option FieldType × Nat) := [(⟨"HandsLet", "apart", "(II)I"⟩, prog_1_method_23_code, 3, (some (.int)), 9), (⟨"HandsLet", "like", "(I)I"⟩, prog_1_method_24_code, 4, (some (.int)), 9), (⟨"HandsLet", "could", "(II)I"⟩, prog_1_method_25_code, 5, (some (.int)), 9), (⟨"HandsLet", "match", "(I)I"⟩, prog_1_method_26_code, 5, (some (.int)), 9), (⟨"HandsLet", "auction", "(II)I"⟩, prog_1_method_27_code, 5, (some (.int)), 9), (⟨"HandsLet", "highestBidder", "(II)I"⟩, prog_1_method_28_code, 5, (some (.int)), 9), (⟨"HandsLet", "bid", "(II)I"⟩, prog_1_method_29_code, 4, (some (.int)), 9), (⟨"HandsLet", "putOff", "()I"⟩, prog_1_method_30_code, 3, (some (.int)), 9), (⟨"HandsLet", "putOffIn", "(I)I"⟩, prog_1_method_31_code, 5, (some (.int)), 9), (⟨"HandsLet", "lettersTold", "(II)I"⟩, prog_1_method_32_code, 6, (some (.int)), 9), (⟨"HandsLet", "ring", "(II)I"⟩, prog_1_method_33_code, 7, (some (.int)), 9), (⟨"HandsLet", "lessons", "(I)I"⟩, prog_1_method_34_code, 6, (some (.int)), 9), (⟨"HandsLet", "arePlayers", "(II)Z"⟩, prog_1_method_35_code, 3, (some (.boolean)), 9), (⟨"HandsLet", "gain", "(IIII)I"⟩, prog_1_method_36_code, 5, (some (.int)), 9), (⟨"HandsLet", "isRest", "(IIII)Z"⟩, prog_1_method_37_code, 5, (some (.boolean)), 9), (⟨"HandsLet", "rests", "(II)I"⟩, prog_1_method_38_code, 5, (some (.int)), 9)]
def zmt_7 : List (MethodName × ByteArray × Nat × Option FieldType × Nat) := [(⟨"HandsLet", "rest", "(III)I"⟩, prog_1_method_39_code, 6, (some (.int)), 9), (⟨"HandsLet", "quiet", "(II)J"⟩, prog_1_method_40_code, 9, (some (.long)), 9), (⟨"HandsLet", "commonDivisor", "(II)I"⟩, prog_1_method_41_code, 6, (some (.int)), 9), (⟨"HandsLet", "chance", "(III)I"⟩, prog_1_method_42_code, 8, (some (.int)), 9), (⟨"HandsLet", "tried", "(III)I"⟩, prog_1_method_43_code, 4, (some (.int)), 9), (⟨"HandsLet", "see", "(IIIIZ)I"⟩, prog_1_method_44_code, 6, (some (.int)), 9), (⟨"HandsLet", "strike", "(I)I"⟩, prog_1_method_45_code, 2, (some (.int)), 9), (⟨"HandsLet", "known", "(I)Z"⟩, prog_1_method_46_code, 2, (some (.boolean)), 9), (⟨"HandsLet", "wears", "()I"⟩, prog_1_method_47_code, 3, (some (.int)), 9), (⟨"HandsLet", "agreesWith", "(I)Z"⟩, prog_1_method_48_code, 3, (some (.boolean)), 9), (⟨"HandsLet", "ask", "(II)I"⟩, prog_1_method_49_code, 6, (some (.int)), 9), (⟨"HandsLet", "leftAtWorst", "(II)I"⟩, prog_1_method_50_code, 5, (some (.int)), 9), (⟨"HandsLet", "undo", "()I"⟩, prog_1_method_51_code, 1, (some (.int)), 9), (⟨"HandsLet", "keep", "()I"⟩, prog_1_method_52_code, 1, (some (.int)), 9), (⟨"HandsLet", "back", "()I"⟩, prog_1_method_53_code, 1, (some (.int)), 9), (⟨"HandsLet", "count", "(I)I"⟩, prog_1_method_54_code, 2, (some (.int)), 9)]
def zmt_8 : List (MethodName × ByteArray × Nat × Option FieldType × Nat) := [(⟨"HandsLetModel", "thrown", "()I"⟩, prog_12_method_2_code, 1, (some (.int)), 10), (⟨"HandsLetModel", "feed", "(IIIII)I"⟩, prog_12_method_3_code, 8, (some (.int)), 10), (⟨"HandsLetModel", "here", "()I"⟩, prog_12_method_4_code, 1, (some (.int)), 10), (⟨"HandsLetModel", "isSmall", "(I)Z"⟩, prog_12_method_5_code, 1, (some (.boolean)), 10), (⟨"HandsLetModel", "isDigit", "(I)Z"⟩, prog_12_method_6_code, 1, (some (.boolean)), 10), (⟨"HandsLetModel", "token", "()V"⟩, prog_12_method_7_code, 2, none, 10), (⟨"HandsLetModel", "sign", "(I)V"⟩, prog_12_method_8_code, 2, none, 10), (⟨"HandsLetModel", "word", "()I"⟩, prog_12_method_9_code, 4, (some (.int)), 10), (⟨"HandsLetModel", "name", "()V"⟩, prog_12_method_10_code, 2, none, 10), (⟨"HandsLetModel", "wrong", "(I)V"⟩, prog_12_method_11_code, 2, none, 10), (⟨"HandsLetModel", "isWord", "(I)Z"⟩, prog_12_method_12_code, 2, (some (.boolean)), 10), (⟨"HandsLetModel", "isSign", "(I)Z"⟩, prog_12_method_13_code, 2, (some (.boolean)), 10), (⟨"HandsLetModel", "goOn", "()V"⟩, prog_12_method_14_code, 1, none, 10), (⟨"HandsLetModel", "numeral", "(II)I"⟩, prog_12_method_15_code, 4, (some (.int)), 10), (⟨"HandsLetModel", "found", "([IIII)I"⟩, prog_12_method_16_code, 5, (some (.int)), 10), (⟨"HandsLetModel", "fresh", "([III)I"⟩, prog_12_method_17_code, 5, (some (.int)), 10)]
def zmt_9 : List (MethodName × ByteArray × Nat × Option FieldType × Nat) := [(⟨"HandsLetModel", "fresher", "(I)I"⟩, prog_12_method_18_code, 2, (some (.int)), 10), (⟨"HandsLetModel", "reads", "(II)V"⟩, prog_12_method_19_code, 3, none, 10), (⟨"HandsLetModel", "manAtHand", "()I"⟩, prog_12_method_20_code, 2, (some (.int)), 10), (⟨"HandsLetModel", "manAhead", "()I"⟩, prog_12_method_21_code, 2, (some (.int)), 10), (⟨"HandsLetModel", "isFull", "(I)Z"⟩, prog_12_method_22_code, 2, (some (.boolean)), 10), (⟨"HandsLetModel", "line", "()V"⟩, prog_12_method_23_code, 4, none, 10), (⟨"HandsLetModel", "leaseLine", "()V"⟩, prog_12_method_24_code, 2, none, 10), (⟨"HandsLetModel", "lawLine", "()V"⟩, prog_12_method_25_code, 2, none, 10), (⟨"HandsLetModel", "puts", "(II)V"⟩, prog_12_method_26_code, 3, none, 10), (⟨"HandsLetModel", "knot", "()V"⟩, prog_12_method_27_code, 1, none, 10), (⟨"HandsLetModel", "expression", "()V"⟩, prog_12_method_28_code, 1, none, 10), (⟨"HandsLetModel", "conjunction", "()V"⟩, prog_12_method_29_code, 1, none, 10), (⟨"HandsLetModel", "negation", "()V"⟩, prog_12_method_30_code, 2, none, 10), (⟨"HandsLetModel", "sum", "()V"⟩, prog_12_method_31_code, 2, none, 10), (⟨"HandsLetModel", "product", "()V"⟩, prog_12_method_32_code, 2, none, 10), (⟨"HandsLetModel", "primary", "()V"⟩, prog_12_method_33_code, 2, none, 10)]
def zmt_10 : List (MethodName × ByteArray × Nat × Option FieldType × Nat) := [(⟨"HandsLetModel", "half", "([I)V"⟩, prog_12_method_34_code, 3, none, 10), (⟨"HandsLetModel", "text", "(I)I"⟩, prog_12_method_35_code, 3, (some (.int)), 10), (⟨"HandsLetModel", "fault", "(I)I"⟩, prog_12_method_36_code, 2, (some (.int)), 10), (⟨"HandsLetModel", "named", "(I)I"⟩, prog_12_method_37_code, 2, (some (.int)), 10), (⟨"HandsLetModel", "is", "(Z)J"⟩, prog_12_method_38_code, 1, (some (.long)), 10), (⟨"HandsLetModel", "works", "(I)Z"⟩, prog_12_method_39_code, 8, (some (.boolean)), 10), (⟨"HandsLetModel", "goes", "(I)Z"⟩, prog_12_method_40_code, 3, (some (.boolean)), 10), (⟨"HandsLetModel", "hasLaw", "(I)Z"⟩, prog_12_method_41_code, 2, (some (.boolean)), 10), (⟨"HandsLetModel", "starts", "(I)V"⟩, prog_12_method_42_code, 6, none, 10), (⟨"HandsLetModel", "begins", "()V"⟩, prog_12_method_43_code, 1, none, 10), (⟨"HandsLetModel", "copies", "(II)V"⟩, prog_12_method_44_code, 7, none, 10), (⟨"HandsLetModel", "isMan", "(I)Z"⟩, prog_12_method_45_code, 2, (some (.boolean)), 10), (⟨"HandsLetModel", "isLet", "(II)Z"⟩, prog_12_method_46_code, 3, (some (.boolean)), 10), (⟨"HandsLetModel", "holderOf", "(II)I"⟩, prog_12_method_47_code, 3, (some (.int)), 10), (⟨"HandsLetModel", "bitsOf", "(I)I"⟩, prog_12_method_48_code, 3, (some (.int)), 10), (⟨"HandsLetModel", "calls", "(IIII)V"⟩, prog_12_method_49_code, 6, none, 10)]
def zmt_11 : List (MethodName × ByteArray × Nat × Option FieldType × Nat) := [(⟨"HandsLetModel", "within", "(III)I"⟩, prog_12_method_50_code, 4, (some (.int)), 10), (⟨"HandsLetModel", "rentOf", "(IIII)I"⟩, prog_12_method_51_code, 5, (some (.int)), 10), (⟨"HandsLetModel", "canLet", "(IIII)Z"⟩, prog_12_method_52_code, 5, (some (.boolean)), 10), (⟨"HandsLetModel", "lets", "(IIIII)V"⟩, prog_12_method_53_code, 7, none, 10), (⟨"HandsLetModel", "writes", "(II)V"⟩, prog_12_method_54_code, 9, none, 10), (⟨"HandsLetModel", "doesLook", "(IZ)Z"⟩, prog_12_method_55_code, 4, (some (.boolean)), 10), (⟨"HandsLetModel", "isForgedToday", "(II)Z"⟩, prog_12_method_56_code, 3, (some (.boolean)), 10), (⟨"HandsLetModel", "looks", "(I)V"⟩, prog_12_method_57_code, 5, none, 10), (⟨"HandsLetModel", "comesBack", "(II)V"⟩, prog_12_method_58_code, 8, none, 10), (⟨"HandsLetModel", "passes", "(IZ)V"⟩, prog_12_method_59_code, 5, none, 10), (⟨"HandsLetModel", "goesOn", "(I)V"⟩, prog_12_method_60_code, 3, none, 10), (⟨"HandsLetModel", "forgedBy", "(II)I"⟩, prog_12_method_61_code, 6, (some (.int)), 10), (⟨"HandsLetModel", "purses", "(I)I"⟩, prog_12_method_62_code, 4, (some (.int)), 10), (⟨"HandsLetModel", "apartOf", "(III)I"⟩, prog_12_method_63_code, 6, (some (.int)), 10), (⟨"HandsLetModel", "orNone", "(I)I"⟩, prog_12_method_64_code, 1, (some (.int)), 10), (⟨"HandsLetModel", "hand", "(II)I"⟩, prog_12_method_65_code, 3, (some (.int)), 10)]
def zmt_12 : List (MethodName × ByteArray × Nat × Option FieldType × Nat) := [(⟨"HandsLetModel", "heldBy", "(I)I"⟩, prog_12_method_66_code, 4, (some (.int)), 10), (⟨"HandsLetModel", "man", "(II)I"⟩, prog_12_method_67_code, 3, (some (.int)), 10), (⟨"HandsLetModel", "letter", "(II)I"⟩, prog_12_method_68_code, 3, (some (.int)), 10), (⟨"HandsLetModel", "law", "(IIII)J"⟩, prog_12_method_69_code, 5, (some (.long)), 10), (⟨"HandsLetModel", "keepNow", "()V"⟩, prog_12_method_70_code, 2, none, 10), (⟨"HandsLetModel", "let", "(IIII)I"⟩, prog_12_method_71_code, 5, (some (.int)), 10), (⟨"HandsLetModel", "end", "(I)I"⟩, prog_12_method_72_code, 2, (some (.int)), 10), (⟨"HandsLetModel", "lesson", "(II)V"⟩, prog_12_method_73_code, 5, none, 10), (⟨"HandsLetModel", "teach", "(I)I"⟩, prog_12_method_74_code, 2, (some (.int)), 10), (⟨"HandsLetModel", "go", "(I)I"⟩, prog_12_method_75_code, 3, (some (.int)), 10), (⟨"HandsLetModel", "ahead", "(III)I"⟩, prog_12_method_76_code, 4, (some (.int)), 10), (⟨"HandsLetModel", "free", "(I)I"⟩, prog_12_method_77_code, 3, (some (.int)), 10), (⟨"HandsLetModel", "apart", "(II)I"⟩, prog_12_method_78_code, 3, (some (.int)), 10), (⟨"HandsLetModel", "like", "(I)I"⟩, prog_12_method_79_code, 4, (some (.int)), 10), (⟨"HandsLetModel", "could", "(II)I"⟩, prog_12_method_80_code, 7, (some (.int)), 10), (⟨"HandsLetModel", "matches", "(IIII)V"⟩, prog_12_method_81_code, 6, none, 10)]
def zmt_13 : List (MethodName × ByteArray × Nat × Option FieldType × Nat) := [(⟨"HandsLetModel", "match", "(I)I"⟩, prog_12_method_82_code, 2, (some (.int)), 10), (⟨"HandsLetModel", "bidOf", "(II)I"⟩, prog_12_method_83_code, 3, (some (.int)), 10), (⟨"HandsLetModel", "auction", "(II)I"⟩, prog_12_method_84_code, 6, (some (.int)), 10), (⟨"HandsLetModel", "isTaken", "(III)Z"⟩, prog_12_method_85_code, 5, (some (.boolean)), 10), (⟨"HandsLetModel", "putOff", "()I"⟩, prog_12_method_86_code, 5, (some (.int)), 10), (⟨"HandsLetModel", "ring", "(II)I"⟩, prog_12_method_87_code, 7, (some (.int)), 10), (⟨"HandsLetModel", "isTaught", "(I)Z"⟩, prog_12_method_88_code, 3, (some (.boolean)), 10), (⟨"HandsLetModel", "lessons", "(I)I"⟩, prog_12_method_89_code, 3, (some (.int)), 10), (⟨"HandsLetModel", "hasOf", "(IIII)I"⟩, prog_12_method_90_code, 5, (some (.int)), 10), (⟨"HandsLetModel", "isRest", "(III)Z"⟩, prog_12_method_91_code, 6, (some (.boolean)), 10), (⟨"HandsLetModel", "restOf", "(III)I"⟩, prog_12_method_92_code, 6, (some (.int)), 10), (⟨"HandsLetModel", "areTwo", "(II)Z"⟩, prog_12_method_93_code, 3, (some (.boolean)), 10), (⟨"HandsLetModel", "rests", "(II)I"⟩, prog_12_method_94_code, 3, (some (.int)), 10), (⟨"HandsLetModel", "rest", "(III)I"⟩, prog_12_method_95_code, 4, (some (.int)), 10), (⟨"HandsLetModel", "common", "(JJ)J"⟩, prog_12_method_96_code, 10, (some (.long)), 10), (⟨"HandsLetModel", "quiet", "(II)J"⟩, prog_12_method_97_code, 9, (some (.long)), 10)]
def zmt_14 : List (MethodName × ByteArray × Nat × Option FieldType × Nat) := [(⟨"HandsLetModel", "see", "(IIIIZ)I"⟩, prog_12_method_98_code, 6, (some (.int)), 10), (⟨"HandsLetModel", "strike", "(I)I"⟩, prog_12_method_99_code, 2, (some (.int)), 10), (⟨"HandsLetModel", "known", "(I)Z"⟩, prog_12_method_100_code, 2, (some (.boolean)), 10), (⟨"HandsLetModel", "knownMany", "()I"⟩, prog_12_method_101_code, 1, (some (.int)), 10), (⟨"HandsLetModel", "isSo", "(I)Z"⟩, prog_12_method_102_code, 3, (some (.boolean)), 10), (⟨"HandsLetModel", "fitsWear", "(I)Z"⟩, prog_12_method_103_code, 3, (some (.boolean)), 10), (⟨"HandsLetModel", "wearsNow", "()I"⟩, prog_12_method_104_code, 4, (some (.int)), 10), (⟨"HandsLetModel", "wears", "()I"⟩, prog_12_method_105_code, 1, (some (.int)), 10), (⟨"HandsLetModel", "ask", "(II)I"⟩, prog_12_method_106_code, 9, (some (.int)), 10), (⟨"HandsLetModel", "chance", "(III)I"⟩, prog_12_method_107_code, 8, (some (.int)), 10), (⟨"HandsLetModel", "tried", "(III)I"⟩, prog_12_method_108_code, 5, (some (.int)), 10), (⟨"HandsLetModel", "undo", "()I"⟩, prog_12_method_109_code, 1, (some (.int)), 10), (⟨"HandsLetModel", "keep", "()I"⟩, prog_12_method_110_code, 1, (some (.int)), 10), (⟨"HandsLetModel", "back", "()I"⟩, prog_12_method_111_code, 1, (some (.int)), 10), (⟨"HandsLetModel", "letMany", "()I"⟩, prog_12_method_112_code, 3, (some (.int)), 10), (⟨"HandsLetModel", "count", "(I)I"⟩, prog_12_method_113_code, 2, (some (.int)), 10)]
def zmt_15 : List (MethodName × ByteArray × Nat × Option FieldType × Nat) := [(⟨"java/lang/Integer", "bitCount", "(I)I"⟩, prog_18_method_49_code, 1, (some (.int)), 13)]
def zmt : List (MethodName × ByteArray × Nat × Option FieldType × Nat) := zmt_0 ++ (zmt_1 ++ (zmt_2 ++ (zmt_3 ++ (zmt_4 ++ (zmt_5 ++ (zmt_6 ++ (zmt_7 ++ (zmt_8 ++ (zmt_9 ++ (zmt_10 ++ (zmt_11 ++ (zmt_12 ++ (zmt_13 ++ (zmt_14 ++ (zmt_15 ++ ([(x, code, 7, some .boolean, 11)]))))))))))))))))
def zcW (q : MethodName × ByteArray × Nat × Option FieldType × Nat) : Cond := .code q.1 q.2.1 q.2.2.1 q.2.2.2.1
set_option maxRecDepth 20000 in
theorem zmt_c0 : ∀ q ∈ zmt_0, zcW q ∈ lw_tbl := List.forall_mem_cons.mpr ⟨List.mem_of_getElem? (i := 856) rfl, List.forall_mem_cons.mpr ⟨List.mem_of_getElem? (i := 917) rfl, List.forall_mem_cons.mpr ⟨List.mem_of_getElem? (i := 921) rfl, List.forall_mem_cons.mpr ⟨List.mem_of_getElem? (i := 925) rfl, List.forall_mem_cons.mpr ⟨List.mem_of_getElem? (i := 931) rfl, List.forall_mem_cons.mpr ⟨List.mem_of_getElem? (i := 935) rfl, List.forall_mem_cons.mpr ⟨List.mem_of_getElem? (i := 940) rfl, List.forall_mem_cons.mpr ⟨List.mem_of_getElem? (i := 944) rfl, List.forall_mem_cons.mpr ⟨List.mem_of_getElem? (i := 956) rfl, List.forall_mem_cons.mpr ⟨List.mem_of_getElem? (i := 897) rfl, List.forall_mem_cons.mpr ⟨List.mem_of_getElem? (i := 860) rfl, List.forall_mem_cons.mpr ⟨List.mem_of_getElem? (i := 776) rfl, List.forall_mem_cons.mpr ⟨List.mem_of_getElem? (i := 879) rfl, List.forall_mem_cons.mpr ⟨List.mem_of_getElem? (i := 1163) rfl, List.forall_mem_cons.mpr ⟨List.mem_of_getElem? (i := 999) rfl, List.forall_mem_cons.mpr ⟨List.mem_of_getElem? (i := 1003) rfl, (fun _ h => absurd h List.not_mem_nil)⟩⟩⟩⟩⟩⟩⟩⟩⟩⟩⟩⟩⟩⟩⟩⟩
set_option maxRecDepth 20000 in
theorem zmt_c1 : ∀ q ∈ zmt_1, zcW q ∈ lw_tbl := List.forall_mem_cons.mpr ⟨List.mem_of_getElem? (i := 1007) rfl, List.forall_mem_cons.mpr ⟨List.mem_of_getElem? (i := 1011) rfl, List.forall_mem_cons.mpr ⟨List.mem_of_getElem? (i := 1015) rfl, List.forall_mem_cons.mpr ⟨List.mem_of_getElem? (i := 1021) rfl, List.forall_mem_cons.mpr ⟨List.mem_of_getElem? (i := 642) rfl, List.forall_mem_cons.mpr ⟨List.mem_of_getElem? (i := 696) rfl, List.forall_mem_cons.mpr ⟨List.mem_of_getElem? (i := 638) rfl, List.forall_mem_cons.mpr ⟨List.mem_of_getElem? (i := 687) rfl, List.forall_mem_cons.mpr ⟨List.mem_of_getElem? (i := 700) rfl, List.forall_mem_cons.mpr ⟨List.mem_of_getElem? (i := 704) rfl, List.forall_mem_cons.mpr ⟨List.mem_of_getElem? (i := 692) rfl, List.forall_mem_cons.mpr ⟨List.mem_of_getElem? (i := 712) rfl, List.forall_mem_cons.mpr ⟨List.mem_of_getElem? (i := 683) rfl, List.forall_mem_cons.mpr ⟨List.mem_of_getElem? (i := 708) rfl, List.forall_mem_cons.mpr ⟨List.mem_of_getElem? (i := 716) rfl, List.forall_mem_cons.mpr ⟨List.mem_of_getElem? (i := 763) rfl, (fun _ h => absurd h List.not_mem_nil)⟩⟩⟩⟩⟩⟩⟩⟩⟩⟩⟩⟩⟩⟩⟩⟩
set_option maxRecDepth 20000 in
theorem zmt_c2 : ∀ q ∈ zmt_2, zcW q ∈ lw_tbl := List.forall_mem_cons.mpr ⟨List.mem_of_getElem? (i := 724) rfl, List.forall_mem_cons.mpr ⟨List.mem_of_getElem? (i := 720) rfl, List.forall_mem_cons.mpr ⟨List.mem_of_getElem? (i := 728) rfl, List.forall_mem_cons.mpr ⟨List.mem_of_getElem? (i := 732) rfl, List.forall_mem_cons.mpr ⟨List.mem_of_getElem? (i := 751) rfl, List.forall_mem_cons.mpr ⟨List.mem_of_getElem? (i := 759) rfl, List.forall_mem_cons.mpr ⟨List.mem_of_getElem? (i := 739) rfl, List.forall_mem_cons.mpr ⟨List.mem_of_getElem? (i := 747) rfl, List.forall_mem_cons.mpr ⟨List.mem_of_getElem? (i := 743) rfl, List.forall_mem_cons.mpr ⟨List.mem_of_getElem? (i := 755) rfl, List.forall_mem_cons.mpr ⟨List.mem_of_getElem? (i := 735) rfl, List.forall_mem_cons.mpr ⟨List.mem_of_getElem? (i := 772) rfl, List.forall_mem_cons.mpr ⟨List.mem_of_getElem? (i := 1103) rfl, List.forall_mem_cons.mpr ⟨List.mem_of_getElem? (i := 1111) rfl, List.forall_mem_cons.mpr ⟨List.mem_of_getElem? (i := 1119) rfl, List.forall_mem_cons.mpr ⟨List.mem_of_getElem? (i := 1131) rfl, (fun _ h => absurd h List.not_mem_nil)⟩⟩⟩⟩⟩⟩⟩⟩⟩⟩⟩⟩⟩⟩⟩⟩
set_option maxRecDepth 20000 in
theorem zmt_c3 : ∀ q ∈ zmt_3, zcW q ∈ lw_tbl := List.forall_mem_cons.mpr ⟨List.mem_of_getElem? (i := 1127) rfl, List.forall_mem_cons.mpr ⟨List.mem_of_getElem? (i := 1141) rfl, List.forall_mem_cons.mpr ⟨List.mem_of_getElem? (i := 829) rfl, List.forall_mem_cons.mpr ⟨List.mem_of_getElem? (i := 833) rfl, List.forall_mem_cons.mpr ⟨List.mem_of_getElem? (i := 836) rfl, List.forall_mem_cons.mpr ⟨List.mem_of_getElem? (i := 839) rfl, List.forall_mem_cons.mpr ⟨List.mem_of_getElem? (i := 842) rfl, List.forall_mem_cons.mpr ⟨List.mem_of_getElem? (i := 848) rfl, List.forall_mem_cons.mpr ⟨List.mem_of_getElem? (i := 211) rfl, List.forall_mem_cons.mpr ⟨List.mem_of_getElem? (i := 630) rfl, List.forall_mem_cons.mpr ⟨List.mem_of_getElem? (i := 646) rfl, List.forall_mem_cons.mpr ⟨List.mem_of_getElem? (i := 653) rfl, List.forall_mem_cons.mpr ⟨List.mem_of_getElem? (i := 656) rfl, List.forall_mem_cons.mpr ⟨List.mem_of_getElem? (i := 667) rfl, List.forall_mem_cons.mpr ⟨List.mem_of_getElem? (i := 660) rfl, List.forall_mem_cons.mpr ⟨List.mem_of_getElem? (i := 664) rfl, (fun _ h => absurd h List.not_mem_nil)⟩⟩⟩⟩⟩⟩⟩⟩⟩⟩⟩⟩⟩⟩⟩⟩
set_option maxRecDepth 20000 in
theorem zmt_c4 : ∀ q ∈ zmt_4, zcW q ∈ lw_tbl := List.forall_mem_cons.mpr ⟨List.mem_of_getElem? (i := 671) rfl, List.forall_mem_cons.mpr ⟨List.mem_of_getElem? (i := 676) rfl, List.forall_mem_cons.mpr ⟨List.mem_of_getElem? (i := 679) rfl, List.forall_mem_cons.mpr ⟨List.mem_of_getElem? (i := 768) rfl, List.forall_mem_cons.mpr ⟨List.mem_of_getElem? (i := 973) rfl, List.forall_mem_cons.mpr ⟨List.mem_of_getElem? (i := 805) rfl, List.forall_mem_cons.mpr ⟨List.mem_of_getElem? (i := 801) rfl, List.forall_mem_cons.mpr ⟨List.mem_of_getElem? (i := 875) rfl, List.forall_mem_cons.mpr ⟨List.mem_of_getElem? (i := 887) rfl, List.forall_mem_cons.mpr ⟨List.mem_of_getElem? (i := 948) rfl, List.forall_mem_cons.mpr ⟨List.mem_of_getElem? (i := 1095) rfl, List.forall_mem_cons.mpr ⟨List.mem_of_getElem? (i := 1179) rfl, List.forall_mem_cons.mpr ⟨List.mem_of_getElem? (i := 626) rfl, List.forall_mem_cons.mpr ⟨List.mem_of_getElem? (i := 634) rfl, List.forall_mem_cons.mpr ⟨List.mem_of_getElem? (i := 780) rfl, List.forall_mem_cons.mpr ⟨List.mem_of_getElem? (i := 784) rfl, (fun _ h => absurd h List.not_mem_nil)⟩⟩⟩⟩⟩⟩⟩⟩⟩⟩⟩⟩⟩⟩⟩⟩
set_option maxRecDepth 20000 in
theorem zmt_c5 : ∀ q ∈ zmt_5, zcW q ∈ lw_tbl := List.forall_mem_cons.mpr ⟨List.mem_of_getElem? (i := 793) rfl, List.forall_mem_cons.mpr ⟨List.mem_of_getElem? (i := 817) rfl, List.forall_mem_cons.mpr ⟨List.mem_of_getElem? (i := 789) rfl, List.forall_mem_cons.mpr ⟨List.mem_of_getElem? (i := 797) rfl, List.forall_mem_cons.mpr ⟨List.mem_of_getElem? (i := 809) rfl, List.forall_mem_cons.mpr ⟨List.mem_of_getElem? (i := 813) rfl, List.forall_mem_cons.mpr ⟨List.mem_of_getElem? (i := 821) rfl, List.forall_mem_cons.mpr ⟨List.mem_of_getElem? (i := 825) rfl, List.forall_mem_cons.mpr ⟨List.mem_of_getElem? (i := 852) rfl, List.forall_mem_cons.mpr ⟨List.mem_of_getElem? (i := 892) rfl, List.forall_mem_cons.mpr ⟨List.mem_of_getElem? (i := 902) rfl, List.forall_mem_cons.mpr ⟨List.mem_of_getElem? (i := 913) rfl, List.forall_mem_cons.mpr ⟨List.mem_of_getElem? (i := 969) rfl, List.forall_mem_cons.mpr ⟨List.mem_of_getElem? (i := 965) rfl, List.forall_mem_cons.mpr ⟨List.mem_of_getElem? (i := 978) rfl, List.forall_mem_cons.mpr ⟨List.mem_of_getElem? (i := 906) rfl, (fun _ h => absurd h List.not_mem_nil)⟩⟩⟩⟩⟩⟩⟩⟩⟩⟩⟩⟩⟩⟩⟩⟩
set_option maxRecDepth 20000 in
theorem zmt_c6 : ∀ q ∈ zmt_6, zcW q ∈ lw_tbl := List.forall_mem_cons.mpr ⟨List.mem_of_getElem? (i := 982) rfl, List.forall_mem_cons.mpr ⟨List.mem_of_getElem? (i := 986) rfl, List.forall_mem_cons.mpr ⟨List.mem_of_getElem? (i := 990) rfl, List.forall_mem_cons.mpr ⟨List.mem_of_getElem? (i := 995) rfl, List.forall_mem_cons.mpr ⟨List.mem_of_getElem? (i := 1025) rfl, List.forall_mem_cons.mpr ⟨List.mem_of_getElem? (i := 1029) rfl, List.forall_mem_cons.mpr ⟨List.mem_of_getElem? (i := 1033) rfl, List.forall_mem_cons.mpr ⟨List.mem_of_getElem? (i := 1039) rfl, List.forall_mem_cons.mpr ⟨List.mem_of_getElem? (i := 1043) rfl, List.forall_mem_cons.mpr ⟨List.mem_of_getElem? (i := 1047) rfl, List.forall_mem_cons.mpr ⟨List.mem_of_getElem? (i := 1051) rfl, List.forall_mem_cons.mpr ⟨List.mem_of_getElem? (i := 1055) rfl, List.forall_mem_cons.mpr ⟨List.mem_of_getElem? (i := 1063) rfl, List.forall_mem_cons.mpr ⟨List.mem_of_getElem? (i := 1071) rfl, List.forall_mem_cons.mpr ⟨List.mem_of_getElem? (i := 1067) rfl, List.forall_mem_cons.mpr ⟨List.mem_of_getElem? (i := 1059) rfl, (fun _ h => absurd h List.not_mem_nil)⟩⟩⟩⟩⟩⟩⟩⟩⟩⟩⟩⟩⟩⟩⟩⟩
set_option maxRecDepth 20000 in
theorem zmt_c7 : ∀ q ∈ zmt_7, zcW q ∈ lw_tbl := List.forall_mem_cons.mpr ⟨List.mem_of_getElem? (i := 1075) rfl, List.forall_mem_cons.mpr ⟨List.mem_of_getElem? (i := 1079) rfl, List.forall_mem_cons.mpr ⟨List.mem_of_getElem? (i := 1083) rfl, List.forall_mem_cons.mpr ⟨List.mem_of_getElem? (i := 1087) rfl, List.forall_mem_cons.mpr ⟨List.mem_of_getElem? (i := 1091) rfl, List.forall_mem_cons.mpr ⟨List.mem_of_getElem? (i := 1099) rfl, List.forall_mem_cons.mpr ⟨List.mem_of_getElem? (i := 1107) rfl, List.forall_mem_cons.mpr ⟨List.mem_of_getElem? (i := 1115) rfl, List.forall_mem_cons.mpr ⟨List.mem_of_getElem? (i := 1123) rfl, List.forall_mem_cons.mpr ⟨List.mem_of_getElem? (i := 1136) rfl, List.forall_mem_cons.mpr ⟨List.mem_of_getElem? (i := 1145) rfl, List.forall_mem_cons.mpr ⟨List.mem_of_getElem? (i := 1149) rfl, List.forall_mem_cons.mpr ⟨List.mem_of_getElem? (i := 1159) rfl, List.forall_mem_cons.mpr ⟨List.mem_of_getElem? (i := 1167) rfl, List.forall_mem_cons.mpr ⟨List.mem_of_getElem? (i := 1171) rfl, List.forall_mem_cons.mpr ⟨List.mem_of_getElem? (i := 1175) rfl, (fun _ h => absurd h List.not_mem_nil)⟩⟩⟩⟩⟩⟩⟩⟩⟩⟩⟩⟩⟩⟩⟩⟩
set_option maxRecDepth 20000 in
theorem zmt_c8 : ∀ q ∈ zmt_8, zcW q ∈ lw_tbl := List.forall_mem_cons.mpr ⟨List.mem_of_getElem? (i := 1483) rfl, List.forall_mem_cons.mpr ⟨List.mem_of_getElem? (i := 1487) rfl, List.forall_mem_cons.mpr ⟨List.mem_of_getElem? (i := 1503) rfl, List.forall_mem_cons.mpr ⟨List.mem_of_getElem? (i := 1506) rfl, List.forall_mem_cons.mpr ⟨List.mem_of_getElem? (i := 1520) rfl, List.forall_mem_cons.mpr ⟨List.mem_of_getElem? (i := 1499) rfl, List.forall_mem_cons.mpr ⟨List.mem_of_getElem? (i := 1525) rfl, List.forall_mem_cons.mpr ⟨List.mem_of_getElem? (i := 1510) rfl, List.forall_mem_cons.mpr ⟨List.mem_of_getElem? (i := 1517) rfl, List.forall_mem_cons.mpr ⟨List.mem_of_getElem? (i := 1533) rfl, List.forall_mem_cons.mpr ⟨List.mem_of_getElem? (i := 1588) rfl, List.forall_mem_cons.mpr ⟨List.mem_of_getElem? (i := 1612) rfl, List.forall_mem_cons.mpr ⟨List.mem_of_getElem? (i := 1568) rfl, List.forall_mem_cons.mpr ⟨List.mem_of_getElem? (i := 1552) rfl, List.forall_mem_cons.mpr ⟨List.mem_of_getElem? (i := 1548) rfl, List.forall_mem_cons.mpr ⟨List.mem_of_getElem? (i := 1545) rfl, (fun _ h => absurd h List.not_mem_nil)⟩⟩⟩⟩⟩⟩⟩⟩⟩⟩⟩⟩⟩⟩⟩⟩
set_option maxRecDepth 20000 in
theorem zmt_c9 : ∀ q ∈ zmt_9, zcW q ∈ lw_tbl := List.forall_mem_cons.mpr ⟨List.mem_of_getElem? (i := 1541) rfl, List.forall_mem_cons.mpr ⟨List.mem_of_getElem? (i := 1495) rfl, List.forall_mem_cons.mpr ⟨List.mem_of_getElem? (i := 1564) rfl, List.forall_mem_cons.mpr ⟨List.mem_of_getElem? (i := 1560) rfl, List.forall_mem_cons.mpr ⟨List.mem_of_getElem? (i := 1537) rfl, List.forall_mem_cons.mpr ⟨List.mem_of_getElem? (i := 1529) rfl, List.forall_mem_cons.mpr ⟨List.mem_of_getElem? (i := 1556) rfl, List.forall_mem_cons.mpr ⟨List.mem_of_getElem? (i := 1572) rfl, List.forall_mem_cons.mpr ⟨List.mem_of_getElem? (i := 1596) rfl, List.forall_mem_cons.mpr ⟨List.mem_of_getElem? (i := 1592) rfl, List.forall_mem_cons.mpr ⟨List.mem_of_getElem? (i := 1576) rfl, List.forall_mem_cons.mpr ⟨List.mem_of_getElem? (i := 1580) rfl, List.forall_mem_cons.mpr ⟨List.mem_of_getElem? (i := 1584) rfl, List.forall_mem_cons.mpr ⟨List.mem_of_getElem? (i := 1600) rfl, List.forall_mem_cons.mpr ⟨List.mem_of_getElem? (i := 1604) rfl, List.forall_mem_cons.mpr ⟨List.mem_of_getElem? (i := 1608) rfl, (fun _ h => absurd h List.not_mem_nil)⟩⟩⟩⟩⟩⟩⟩⟩⟩⟩⟩⟩⟩⟩⟩⟩
set_option maxRecDepth 20000 in
theorem zmt_c10 : ∀ q ∈ zmt_10, zcW q ∈ lw_tbl := List.forall_mem_cons.mpr ⟨List.mem_of_getElem? (i := 1615) rfl, List.forall_mem_cons.mpr ⟨List.mem_of_getElem? (i := 1491) rfl, List.forall_mem_cons.mpr ⟨List.mem_of_getElem? (i := 1619) rfl, List.forall_mem_cons.mpr ⟨List.mem_of_getElem? (i := 1623) rfl, List.forall_mem_cons.mpr ⟨List.mem_of_getElem? (i := 1682) rfl, List.forall_mem_cons.mpr ⟨List.mem_of_getElem? (i := 1679) rfl, List.forall_mem_cons.mpr ⟨List.mem_of_getElem? (i := 1675) rfl, List.forall_mem_cons.mpr ⟨List.mem_of_getElem? (i := 1666) rfl, List.forall_mem_cons.mpr ⟨List.mem_of_getElem? (i := 1280) rfl, List.forall_mem_cons.mpr ⟨List.mem_of_getElem? (i := 1276) rfl, List.forall_mem_cons.mpr ⟨List.mem_of_getElem? (i := 1713) rfl, List.forall_mem_cons.mpr ⟨List.mem_of_getElem? (i := 1631) rfl, List.forall_mem_cons.mpr ⟨List.mem_of_getElem? (i := 1642) rfl, List.forall_mem_cons.mpr ⟨List.mem_of_getElem? (i := 1638) rfl, List.forall_mem_cons.mpr ⟨List.mem_of_getElem? (i := 1777) rfl, List.forall_mem_cons.mpr ⟨List.mem_of_getElem? (i := 1671) rfl, (fun _ h => absurd h List.not_mem_nil)⟩⟩⟩⟩⟩⟩⟩⟩⟩⟩⟩⟩⟩⟩⟩⟩
set_option maxRecDepth 20000 in
theorem zmt_c11 : ∀ q ∈ zmt_11, zcW q ∈ lw_tbl := List.forall_mem_cons.mpr ⟨List.mem_of_getElem? (i := 1703) rfl, List.forall_mem_cons.mpr ⟨List.mem_of_getElem? (i := 1699) rfl, List.forall_mem_cons.mpr ⟨List.mem_of_getElem? (i := 1695) rfl, List.forall_mem_cons.mpr ⟨List.mem_of_getElem? (i := 1717) rfl, List.forall_mem_cons.mpr ⟨List.mem_of_getElem? (i := 1751) rfl, List.forall_mem_cons.mpr ⟨List.mem_of_getElem? (i := 1759) rfl, List.forall_mem_cons.mpr ⟨List.mem_of_getElem? (i := 1755) rfl, List.forall_mem_cons.mpr ⟨List.mem_of_getElem? (i := 1765) rfl, List.forall_mem_cons.mpr ⟨List.mem_of_getElem? (i := 1726) rfl, List.forall_mem_cons.mpr ⟨List.mem_of_getElem? (i := 1747) rfl, List.forall_mem_cons.mpr ⟨List.mem_of_getElem? (i := 1774) rfl, List.forall_mem_cons.mpr ⟨List.mem_of_getElem? (i := 1654) rfl, List.forall_mem_cons.mpr ⟨List.mem_of_getElem? (i := 1911) rfl, List.forall_mem_cons.mpr ⟨List.mem_of_getElem? (i := 1738) rfl, List.forall_mem_cons.mpr ⟨List.mem_of_getElem? (i := 1634) rfl, List.forall_mem_cons.mpr ⟨List.mem_of_getElem? (i := 1627) rfl, (fun _ h => absurd h List.not_mem_nil)⟩⟩⟩⟩⟩⟩⟩⟩⟩⟩⟩⟩⟩⟩⟩⟩
set_option maxRecDepth 20000 in
theorem zmt_c12 : ∀ q ∈ zmt_12, zcW q ∈ lw_tbl := List.forall_mem_cons.mpr ⟨List.mem_of_getElem? (i := 1650) rfl, List.forall_mem_cons.mpr ⟨List.mem_of_getElem? (i := 1646) rfl, List.forall_mem_cons.mpr ⟨List.mem_of_getElem? (i := 1658) rfl, List.forall_mem_cons.mpr ⟨List.mem_of_getElem? (i := 1662) rfl, List.forall_mem_cons.mpr ⟨List.mem_of_getElem? (i := 1709) rfl, List.forall_mem_cons.mpr ⟨List.mem_of_getElem? (i := 1691) rfl, List.forall_mem_cons.mpr ⟨List.mem_of_getElem? (i := 1722) rfl, List.forall_mem_cons.mpr ⟨List.mem_of_getElem? (i := 1734) rfl, List.forall_mem_cons.mpr ⟨List.mem_of_getElem? (i := 1730) rfl, List.forall_mem_cons.mpr ⟨List.mem_of_getElem? (i := 1743) rfl, List.forall_mem_cons.mpr ⟨List.mem_of_getElem? (i := 1770) rfl, List.forall_mem_cons.mpr ⟨List.mem_of_getElem? (i := 1781) rfl, List.forall_mem_cons.mpr ⟨List.mem_of_getElem? (i := 1785) rfl, List.forall_mem_cons.mpr ⟨List.mem_of_getElem? (i := 1789) rfl, List.forall_mem_cons.mpr ⟨List.mem_of_getElem? (i := 1793) rfl, List.forall_mem_cons.mpr ⟨List.mem_of_getElem? (i := 1802) rfl, (fun _ h => absurd h List.not_mem_nil)⟩⟩⟩⟩⟩⟩⟩⟩⟩⟩⟩⟩⟩⟩⟩⟩
set_option maxRecDepth 20000 in
theorem zmt_c13 : ∀ q ∈ zmt_13, zcW q ∈ lw_tbl := List.forall_mem_cons.mpr ⟨List.mem_of_getElem? (i := 1798) rfl, List.forall_mem_cons.mpr ⟨List.mem_of_getElem? (i := 1810) rfl, List.forall_mem_cons.mpr ⟨List.mem_of_getElem? (i := 1806) rfl, List.forall_mem_cons.mpr ⟨List.mem_of_getElem? (i := 1818) rfl, List.forall_mem_cons.mpr ⟨List.mem_of_getElem? (i := 1814) rfl, List.forall_mem_cons.mpr ⟨List.mem_of_getElem? (i := 1822) rfl, List.forall_mem_cons.mpr ⟨List.mem_of_getElem? (i := 1830) rfl, List.forall_mem_cons.mpr ⟨List.mem_of_getElem? (i := 1826) rfl, List.forall_mem_cons.mpr ⟨List.mem_of_getElem? (i := 1850) rfl, List.forall_mem_cons.mpr ⟨List.mem_of_getElem? (i := 1846) rfl, List.forall_mem_cons.mpr ⟨List.mem_of_getElem? (i := 1842) rfl, List.forall_mem_cons.mpr ⟨List.mem_of_getElem? (i := 1838) rfl, List.forall_mem_cons.mpr ⟨List.mem_of_getElem? (i := 1834) rfl, List.forall_mem_cons.mpr ⟨List.mem_of_getElem? (i := 1854) rfl, List.forall_mem_cons.mpr ⟨List.mem_of_getElem? (i := 1863) rfl, List.forall_mem_cons.mpr ⟨List.mem_of_getElem? (i := 1858) rfl, (fun _ h => absurd h List.not_mem_nil)⟩⟩⟩⟩⟩⟩⟩⟩⟩⟩⟩⟩⟩⟩⟩⟩
set_option maxRecDepth 20000 in
theorem zmt_c14 : ∀ q ∈ zmt_14, zcW q ∈ lw_tbl := List.forall_mem_cons.mpr ⟨List.mem_of_getElem? (i := 1867) rfl, List.forall_mem_cons.mpr ⟨List.mem_of_getElem? (i := 1871) rfl, List.forall_mem_cons.mpr ⟨List.mem_of_getElem? (i := 1875) rfl, List.forall_mem_cons.mpr ⟨List.mem_of_getElem? (i := 1887) rfl, List.forall_mem_cons.mpr ⟨List.mem_of_getElem? (i := 1895) rfl, List.forall_mem_cons.mpr ⟨List.mem_of_getElem? (i := 1891) rfl, List.forall_mem_cons.mpr ⟨List.mem_of_getElem? (i := 1883) rfl, List.forall_mem_cons.mpr ⟨List.mem_of_getElem? (i := 1879) rfl, List.forall_mem_cons.mpr ⟨List.mem_of_getElem? (i := 1899) rfl, List.forall_mem_cons.mpr ⟨List.mem_of_getElem? (i := 1903) rfl, List.forall_mem_cons.mpr ⟨List.mem_of_getElem? (i := 1907) rfl, List.forall_mem_cons.mpr ⟨List.mem_of_getElem? (i := 1915) rfl, List.forall_mem_cons.mpr ⟨List.mem_of_getElem? (i := 1919) rfl, List.forall_mem_cons.mpr ⟨List.mem_of_getElem? (i := 1923) rfl, List.forall_mem_cons.mpr ⟨List.mem_of_getElem? (i := 1931) rfl, List.forall_mem_cons.mpr ⟨List.mem_of_getElem? (i := 1927) rfl, (fun _ h => absurd h List.not_mem_nil)⟩⟩⟩⟩⟩⟩⟩⟩⟩⟩⟩⟩⟩⟩⟩⟩
set_option maxRecDepth 20000 in
theorem zmt_c15 : ∀ q ∈ zmt_15, zcW q ∈ lw_tbl := List.forall_mem_cons.mpr ⟨List.mem_of_getElem? (i := 1152) rfl, (fun _ h => absurd h List.not_mem_nil)⟩
def zflT : List (Nat × Nat × Nat × Nat × Nat) := [(9, 12, 9, 0, 470), (9, 21, 9, 1, 471), (9, 25, 9, 2, 472), (9, 31, 9, 3, 473), (9, 35, 9, 4, 474), (9, 38, 9, 5, 475), (9, 44, 9, 7, 477), (9, 51, 9, 8, 478), (9, 58, 9, 9, 479), (9, 65, 9, 10, 480), (9, 69, 9, 11, 481), (9, 73, 4, 0, 128), (9, 77, 7, 1, 97), (9, 91, 4, 3, 132), (9, 98, 9, 6, 476), (9, 106, 3, 0, 168), (9, 109, 4, 4, 134), (9, 116, 3, 1, 172), (9, 119, 3, 3, 180), (9, 129, 8, 3, 271), (9, 132, 8, 4, 274), (9, 135, 8, 5, 279), (9, 138, 8, 6, 283), (9, 147, 3, 6, 191), (9, 148, 8, 2, 265), (9, 157, 3, 9, 201), (9, 161, 8, 7, 287), (9, 167, 8, 8, 290), (9, 170, 8, 9, 293), (9, 173, 8, 10, 296), (9, 181, 0, 0, 361), (9, 224, 8, 0, 259), (9, 237, 8, 11, 299), (9, 240, 8, 12, 302), (9, 243, 8, 13, 305), (9, 259, 2, 3, 456), (9, 262, 2, 4, 458), (9, 265, 2, 2, 454), (9, 300, 3, 10, 206), (9, 306, 8, 1, 261), (9, 310, 0, 5, 368), (9, 313, 0, 6, 370), (9, 316, 0, 7, 372), (9, 339, 0, 4, 366), (9, 342, 5, 1, 399), (9, 364, 3, 2, 177), (9, 367, 3, 4, 184), (9, 373, 8, 14, 308), (9, 376, 5, 0, 397), (9, 382, 1, 2, 436), (0, 12, 0, 0, 360), (0, 18, 0, 1, 362), (0, 22, 0, 2, 363), (0, 26, 0, 3, 364), (0, 30, 3, 10, 204), (0, 36, 0, 4, 365), (0, 39, 0, 5, 367), (0, 42, 0, 6, 369), (0, 46, 0, 7, 371), (0, 52, 8, 0, 258), (0, 60, 8, 11, 298), (0, 73, 3, 1, 171), (0, 80, 8, 5, 278), (0, 87, 3, 2, 175), (0, 90, 3, 8, 196), (0, 106, 8, 14, 307), (0, 109, 3, 3, 179), (0, 112, 3, 9, 199), (0, 123, 8, 3, 270), (0, 126, 3, 6, 189), (0, 127, 8, 10, 295), (0, 133, 8, 8, 289), (0, 136, 8, 12, 301), (0, 139, 8, 7, 286), (0, 146, 8, 9, 292), (0, 149, 8, 13, 304), (0, 152, 8, 2, 266), (0, 161, 8, 4, 275), (0, 164, 8, 6, 284), (1, 11, 1, 0, 433), (1, 15, 1, 2, 435), (1, 19, 1, 1, 434), (1, 22, 8, 4, 273), (1, 27, 8, 5, 277), (1, 30, 8, 6, 282), (1, 33, 8, 3, 269), (1, 42, 8, 2, 264), (2, 9, 2, 0, 451), (2, 17, 2, 1, 452), (2, 20, 2, 2, 453), (2, 45, 2, 3, 455), (2, 49, 2, 4, 457), (3, 9, 3, 5, 185), (3, 15, 3, 6, 187), (3, 18, 3, 7, 192), (3, 23, 3, 8, 195), (3, 26, 3, 9, 198), (3, 29, 3, 10, 202), (3, 32, 3, 11, 207), (3, 35, 3, 12, 210), (3, 38, 3, 13, 213), (3, 41, 3, 14, 216), (3, 44, 3, 0, 166), (3, 48, 3, 1, 169), (3, 51, 3, 2, 174), (3, 54, 3, 3, 178), (3, 57, 3, 4, 182), (4, 12, 4, 0, 127), (4, 18, 4, 4, 133), (4, 22, 4, 5, 135), (4, 26, 4, 1, 129), (4, 35, 4, 2, 130), (4, 38, 4, 8, 138), (4, 41, 4, 3, 131), (4, 48, 7, 5, 102), (4, 69, 3, 0, 167), (4, 72, 7, 6, 104), (4, 81, 7, 7, 106), (4, 88, 3, 1, 173), (4, 91, 3, 5, 186), (4, 98, 3, 6, 190), (4, 105, 3, 7, 194), (4, 108, 3, 2, 176), (4, 111, 3, 8, 197), (4, 118, 3, 3, 181), (4, 121, 3, 9, 200), (4, 127, 3, 10, 205), (4, 131, 3, 11, 209), (4, 134, 4, 6, 136), (4, 137, 4, 7, 137), (4, 150, 3, 12, 212), (4, 172, 3, 4, 183), (4, 175, 3, 13, 215), (4, 178, 3, 14, 218), (5, 9, 5, 2, 400), (5, 15, 5, 3, 401), (5, 19, 5, 4, 402), (5, 22, 5, 5, 403), (5, 25, 5, 6, 404), (5, 29, 5, 7, 405), (5, 32, 5, 8, 406), (5, 35, 5, 0, 396), (5, 42, 5, 1, 398), (6, 9, 6, 0, 352), (6, 15, 6, 1, 353), (6, 18, 8, 3, 268), (6, 24, 8, 2, 263), (6, 27, 8, 6, 281), (6, 30, 8, 0, 257), (6, 34, 3, 11, 208), (6, 39, 3, 12, 211), (6, 42, 3, 13, 214), (6, 45, 3, 14, 217), (7, 9, 7, 0, 96), (7, 15, 7, 2, 99), (7, 35, 7, 1, 98), (7, 44, 7, 3, 100), (7, 46, 7, 4, 101), (7, 52, 7, 6, 105), (7, 55, 7, 7, 107), (7, 58, 7, 5, 103), (8, 9, 8, 2, 262), (8, 15, 8, 3, 267), (8, 18, 8, 4, 272), (8, 21, 8, 5, 276), (8, 24, 8, 6, 280), (8, 27, 8, 7, 285), (8, 30, 8, 8, 288), (8, 33, 8, 9, 291), (8, 36, 8, 10, 294), (8, 39, 8, 0, 256), (8, 43, 3, 10, 203), (8, 48, 8, 1, 260), (8, 52, 3, 1, 170), (8, 55, 3, 7, 193), (8, 56, 3, 6, 188), (8, 57, 8, 11, 297), (8, 60, 8, 12, 300), (8, 63, 8, 13, 303), (8, 66, 8, 14, 306), (10, 7, 10, 1, 1166), (10, 13, 10, 3, 1168), (10, 16, 10, 4, 1169), (10, 19, 10, 5, 1170), (10, 22, 10, 6, 1171), (10, 25, 10, 7, 1172), (10, 28, 10, 8, 1173), (10, 31, 10, 9, 1174), (10, 34, 10, 10, 1175), (10, 37, 10, 11, 1176), (10, 40, 10, 12, 1177), (10, 43, 10, 13, 1178), (10, 46, 10, 14, 1179), (10, 49, 10, 15, 1180), (10, 52, 10, 16, 1181), (10, 55, 10, 17, 1182), (10, 58, 10, 18, 1183), (10, 61, 10, 29, 1194), (10, 65, 10, 32, 1197), (10, 69, 10, 33, 1198), (10, 72, 10, 35, 1200), (10, 75, 10, 36, 1201), (10, 78, 10, 37, 1202), (10, 81, 10, 38, 1203), (10, 84, 10, 39, 1204), (10, 87, 10, 40, 1205), (10, 90, 10, 41, 1206), (10, 93, 10, 42, 1207), (10, 96, 10, 43, 1208), (10, 99, 10, 44, 1209), (10, 102, 10, 45, 1210), (10, 105, 10, 46, 1211), (10, 108, 10, 50, 1215), (10, 111, 10, 51, 1216), (10, 114, 10, 52, 1217), (10, 117, 10, 53, 1218), (10, 120, 10, 56, 1221), (10, 123, 10, 58, 1223), (10, 126, 10, 59, 1224), (10, 129, 10, 60, 1225), (10, 132, 10, 61, 1226), (10, 135, 10, 62, 1227), (10, 139, 10, 63, 1228), (10, 142, 10, 64, 1229), (10, 145, 10, 65, 1230), (10, 151, 10, 0, 1165), (10, 154, 10, 2, 1167), (10, 157, 10, 22, 1187), (10, 160, 10, 21, 1186), (10, 167, 10, 23, 1188), (10, 170, 10, 24, 1189), (10, 180, 10, 25, 1190), (10, 205, 10, 26, 1191), (10, 208, 10, 27, 1192), (10, 234, 10, 19, 1184), (10, 261, 10, 20, 1185), (10, 267, 10, 31, 1196), (10, 294, 10, 30, 1195), (10, 300, 10, 28, 1193), (10, 307, 10, 57, 1222), (10, 310, 10, 47, 1212), (10, 314, 10, 48, 1213), (10, 317, 10, 34, 1199), (10, 357, 10, 49, 1214), (10, 448, 10, 54, 1219), (10, 451, 10, 55, 1220)]
set_option maxRecDepth 20000 in
theorem zflT_ok : ∀ q ∈ zflT, q.2.2.1 < 11 ∧ q.2.2.2.1 < zNf q.2.2.1 ∧ tables_1[q.2.2.2.2]? = some (.fieldLink (zcn q.1) q.2.1 (zT q.2.2.1 q.2.2.2.1).1 (zT q.2.2.1 q.2.2.2.1).2.1 (zT q.2.2.1 q.2.2.2.1).2.2.1) := by decide +kernel
/-- calls: class, index, callee, how many parameters, kind (0 virtual, 1 static, 2 built in), where its words stand -/
def zcaT_0 : List (Nat × Nat × Nat × Nat × Nat × Nat × Nat × Nat) := [(9, 83, 57, 1, 0, 627, 628, 629), (9, 87, 22, 2, 0, 635, 636, 637), (9, 94, 67, 1, 0, 765, 766, 767), (9, 102, 43, 0, 0, 769, 770, 771), (9, 105, 11, 0, 0, 773, 774, 775), (9, 112, 21, 1, 0, 785, 694, 695), (9, 122, 80, 1, 0, 790, 792, 23), (9, 141, 70, 1, 0, 798, 799, 800), (9, 151, 83, 1, 0, 794, 796, 24), (9, 154, 84, 1, 0, 806, 808, 25), (9, 164, 81, 1, 0, 814, 816, 26), (9, 178, 87, 1, 1, 823, 824, 0), (9, 185, 50, 4, 0, 826, 827, 828), (9, 191, 51, 2, 0, 830, 831, 832), (9, 195, 0, 3, 0, 853, 854, 855), (9, 198, 10, 4, 0, 857, 858, 859), (9, 202, 71, 3, 0, 872, 873, 874), (9, 206, 12, 2, 0, 876, 877, 878), (9, 210, 72, 4, 0, 884, 885, 886), (9, 214, 69, 1, 0, 893, 803, 804), (9, 217, 9, 1, 0, 894, 895, 896), (9, 220, 95, 3, 0, 903, 905, 27), (9, 227, 1, 1, 0, 914, 915, 916), (9, 230, 68, 1, 0, 970, 971, 972), (9, 234, 92, 1, 0, 966, 968, 34), (9, 246, 1012, 1, 2, 907, 0, 0), (9, 252, 14, 3, 0, 996, 997, 998), (9, 256, 15, 1, 0, 1000, 1001, 1002), (9, 268, 101, 2, 0, 1026, 1028, 39), (9, 272, 102, 2, 0, 1030, 1032, 40), (9, 275, 1011, 2, 2, 1034, 0, 0), (9, 278, 1010, 2, 2, 1035, 0, 0), (9, 281, 104, 1, 0, 1040, 1042, 41), (9, 284, 105, 2, 0, 1044, 1046, 42), (9, 287, 109, 4, 0, 1068, 1070, 45), (9, 290, 108, 2, 0, 1060, 1062, 43), (9, 294, 110, 4, 0, 1064, 1066, 44), (9, 303, 114, 2, 1, 1081, 1082, 0), (9, 319, 74, 0, 0, 1092, 1093, 1094), (9, 323, 44, 4, 0, 1100, 1101, 1102)]
def zcaT_1 : List (Nat × Nat × Nat × Nat × Nat × Nat × Nat × Nat) := [(9, 327, 45, 1, 0, 1108, 1109, 1110), (9, 330, 46, 1, 0, 1116, 1117, 1118), (9, 333, 48, 0, 0, 1124, 1125, 1126), (9, 336, 121, 1, 0, 1133, 1135, 46), (9, 345, 2, 0, 0, 1137, 919, 920), (9, 348, 49, 2, 0, 1138, 1139, 1140), (9, 352, 123, 2, 0, 1146, 1148, 47), (9, 355, 240, 1, 1, 1150, 1151, 0), (9, 360, 13, 1, 0, 1160, 1161, 1162), (9, 370, 75, 0, 0, 1176, 1177, 1178), (9, 379, 47, 0, 0, 1180, 1129, 1130), (0, 49, 2, 0, 0, 918, 919, 920), (0, 57, 3, 0, 0, 922, 924, 28), (0, 63, 4, 0, 0, 928, 930, 29), (0, 66, 7, 0, 0, 941, 943, 32), (0, 70, 8, 0, 0, 953, 955, 33), (0, 76, 69, 1, 0, 960, 803, 804), (0, 83, 9, 1, 0, 961, 895, 896), (0, 94, 10, 4, 0, 898, 858, 859), (0, 98, 71, 3, 0, 926, 873, 874), (0, 102, 72, 4, 0, 927, 885, 886), (0, 115, 5, 3, 0, 932, 934, 30), (0, 119, 70, 1, 0, 936, 799, 800), (0, 130, 6, 1, 0, 937, 939, 31), (0, 142, 73, 0, 0, 945, 946, 947), (0, 155, 1010, 2, 2, 957, 0, 0), (0, 167, 50, 4, 0, 861, 827, 828), (0, 171, 51, 2, 0, 862, 831, 832), (0, 181, 1014, 2, 2, 866, 0, 0), (0, 185, 1013, 2, 2, 869, 0, 0), (1, 36, 1002, 5, 2, 880, 0, 0), (1, 45, 1011, 2, 2, 883, 0, 0), (2, 23, 16, 3, 0, 1004, 1006, 35), (2, 27, 19, 1, 0, 1018, 1020, 38), (2, 31, 17, 3, 0, 1008, 1010, 36), (2, 35, 18, 3, 0, 1012, 1014, 37), (2, 38, 1010, 2, 2, 1017, 0, 0), (4, 30, 20, 0, 0, 639, 640, 641), (4, 44, 58, 1, 0, 643, 644, 645), (4, 51, 28, 0, 0, 680, 682, 4)]
def zcaT_2 : List (Nat × Nat × Nat × Nat × Nat × Nat × Nat × Nat) := [(4, 54, 29, 0, 0, 705, 707, 9), (4, 57, 30, 0, 0, 713, 715, 11), (4, 60, 33, 0, 0, 717, 719, 12), (4, 63, 31, 0, 0, 760, 762, 22), (4, 66, 24, 1, 0, 697, 699, 7), (4, 75, 59, 0, 0, 688, 651, 652), (4, 78, 23, 1, 0, 684, 686, 5), (4, 84, 21, 1, 0, 693, 694, 695), (4, 94, 26, 0, 0, 689, 691, 6), (4, 101, 25, 2, 0, 701, 703, 8), (4, 115, 27, 1, 0, 709, 711, 10), (4, 124, 32, 1, 0, 721, 723, 13), (4, 140, 34, 0, 0, 725, 727, 14), (4, 144, 36, 0, 0, 748, 750, 19), (4, 147, 41, 1, 0, 752, 754, 20), (4, 153, 35, 0, 0, 729, 731, 15), (4, 156, 38, 0, 0, 736, 738, 16), (4, 159, 40, 2, 0, 740, 742, 17), (4, 163, 39, 1, 0, 744, 746, 18), (4, 166, 42, 1, 1, 733, 734, 0), (4, 169, 37, 2, 0, 756, 758, 21), (5, 38, 47, 0, 0, 1128, 1129, 1130), (5, 45, 1010, 2, 2, 1132, 0, 0), (6, 48, 52, 1, 1, 834, 835, 0), (6, 52, 53, 3, 1, 837, 838, 0), (6, 58, 54, 1, 1, 840, 841, 0), (6, 62, 55, 2, 1, 846, 847, 0), (7, 21, 1000, 0, 2, 161, 0, 0), (7, 27, 1001, 1, 2, 171, 0, 0), (7, 31, 56, 2, 1, 209, 210, 0), (7, 39, 1011, 2, 2, 647, 0, 0), (7, 49, 59, 0, 0, 650, 651, 652), (7, 61, 60, 1, 1, 654, 655, 0), (7, 65, 62, 0, 0, 657, 659, 0), (7, 68, 61, 1, 1, 665, 666, 0), (7, 71, 64, 0, 0, 668, 670, 2), (7, 74, 65, 0, 0, 673, 675, 3), (7, 77, 63, 1, 0, 661, 663, 1), (7, 82, 66, 1, 1, 677, 678, 0), (8, 69, 1002, 5, 2, 974, 0, 0)]
def zcaT_3 : List (Nat × Nat × Nat × Nat × Nat × Nat × Nat × Nat) := [(8, 75, 69, 1, 0, 802, 803, 804), (8, 79, 1011, 2, 2, 888, 0, 0), (11, 21, 76, 5, 0, 623, 624, 625), (11, 25, 129, 5, 0, 1484, 1485, 1486), (11, 26, 77, 1, 0, 631, 632, 633), (11, 30, 161, 1, 0, 1488, 1489, 1490), (11, 31, 78, 1, 0, 777, 778, 779), (11, 34, 162, 1, 0, 1616, 1617, 1618), (11, 35, 79, 1, 0, 781, 782, 783), (11, 38, 163, 1, 0, 1620, 1621, 1622), (11, 39, 1003, 4, 2, 1181, 0, 0), (11, 44, 191, 2, 0, 1624, 1625, 1626), (11, 45, 128, 0, 0, 1480, 1481, 1482), (11, 49, 82, 2, 0, 786, 787, 788), (11, 52, 193, 2, 0, 1643, 1644, 1645), (11, 53, 85, 2, 0, 810, 811, 812), (11, 56, 194, 2, 0, 1655, 1656, 1657), (11, 57, 86, 4, 0, 818, 819, 820), (11, 61, 195, 4, 0, 1659, 1660, 1661), (11, 62, 88, 4, 0, 849, 850, 851), (11, 66, 197, 4, 0, 1688, 1689, 1690), (11, 67, 89, 1, 0, 889, 890, 891), (11, 70, 198, 1, 0, 1719, 1720, 1721), (11, 71, 90, 1, 0, 899, 900, 901), (11, 74, 200, 1, 0, 1727, 1728, 1729), (11, 75, 91, 1, 0, 910, 911, 912), (11, 78, 201, 1, 0, 1740, 1741, 1742), (11, 79, 93, 3, 0, 962, 963, 964), (11, 83, 202, 3, 0, 1767, 1768, 1769), (11, 84, 94, 1, 0, 975, 976, 977), (11, 87, 203, 1, 0, 1778, 1779, 1780), (11, 88, 96, 2, 0, 979, 980, 981), (11, 91, 204, 2, 0, 1782, 1783, 1784), (11, 92, 97, 1, 0, 983, 984, 985), (11, 95, 205, 1, 0, 1786, 1787, 1788), (11, 96, 98, 2, 0, 987, 988, 989), (11, 99, 206, 2, 0, 1790, 1791, 1792), (11, 100, 99, 1, 0, 992, 993, 994), (11, 103, 208, 1, 0, 1795, 1796, 1797), (11, 104, 100, 2, 0, 1022, 1023, 1024)]
def zcaT_4 : List (Nat × Nat × Nat × Nat × Nat × Nat × Nat × Nat) := [(11, 107, 210, 2, 0, 1803, 1804, 1805), (11, 108, 103, 0, 0, 1036, 1037, 1038), (11, 111, 212, 0, 0, 1811, 1812, 1813), (11, 112, 106, 2, 0, 1048, 1049, 1050), (11, 115, 213, 2, 0, 1819, 1820, 1821), (11, 116, 107, 1, 0, 1052, 1053, 1054), (11, 119, 215, 1, 0, 1823, 1824, 1825), (11, 120, 111, 2, 0, 1056, 1057, 1058), (11, 123, 220, 2, 0, 1831, 1832, 1833), (11, 124, 112, 3, 0, 1072, 1073, 1074), (11, 127, 221, 3, 0, 1851, 1852, 1853), (11, 128, 113, 2, 0, 1076, 1077, 1078), (11, 132, 223, 2, 0, 1855, 1856, 1857), (11, 133, 117, 5, 0, 1096, 1097, 1098), (11, 137, 224, 5, 0, 1864, 1865, 1866), (11, 138, 118, 1, 0, 1104, 1105, 1106), (11, 141, 225, 1, 0, 1868, 1869, 1870), (11, 142, 119, 1, 0, 1112, 1113, 1114), (11, 146, 226, 1, 0, 1872, 1873, 1874), (11, 147, 120, 0, 0, 1120, 1121, 1122), (11, 150, 231, 0, 0, 1876, 1877, 1878), (11, 151, 122, 2, 0, 1142, 1143, 1144), (11, 154, 232, 2, 0, 1896, 1897, 1898), (11, 155, 115, 3, 0, 1084, 1085, 1086), (11, 158, 233, 3, 0, 1900, 1901, 1902), (11, 159, 116, 3, 0, 1088, 1089, 1090), (11, 162, 234, 3, 0, 1904, 1905, 1906), (11, 163, 124, 0, 0, 1156, 1157, 1158), (11, 166, 235, 0, 0, 1912, 1913, 1914), (11, 167, 125, 0, 0, 1164, 1165, 1166), (11, 170, 236, 0, 0, 1916, 1917, 1918), (11, 171, 126, 0, 0, 1168, 1169, 1170), (11, 174, 237, 0, 0, 1920, 1921, 1922), (11, 175, 127, 1, 0, 1172, 1173, 1174), (11, 178, 239, 1, 0, 1924, 1925, 1926), (10, 148, 169, 0, 0, 1273, 1275, 49), (10, 163, 130, 0, 0, 1500, 1502, 53), (10, 173, 131, 1, 1, 1504, 1505, 0), (10, 177, 135, 0, 0, 1507, 1509, 54), (10, 183, 136, 0, 0, 1514, 1516, 55)]
def zcaT_5 : List (Nat × Nat × Nat × Nat × Nat × Nat × Nat × Nat) := [(10, 186, 132, 1, 1, 1518, 1519, 0), (10, 190, 134, 1, 0, 1522, 1524, 56), (10, 196, 1000, 0, 2, 1512, 0, 0), (10, 201, 1001, 1, 2, 1513, 0, 0), (10, 211, 133, 0, 0, 1496, 1498, 52), (10, 214, 137, 1, 0, 1530, 1532, 58), (10, 217, 142, 4, 1, 1546, 1547, 0), (10, 221, 144, 1, 0, 1538, 1540, 60), (10, 225, 146, 0, 0, 1561, 1563, 65), (10, 228, 140, 0, 0, 1565, 1567, 66), (10, 231, 148, 1, 0, 1534, 1536, 59), (10, 237, 143, 3, 0, 1542, 1544, 61), (10, 241, 141, 2, 0, 1549, 1551, 62), (10, 245, 145, 2, 0, 1492, 1494, 51), (10, 249, 150, 0, 0, 1553, 1555, 63), (10, 252, 147, 0, 0, 1557, 1559, 64), (10, 255, 151, 0, 0, 1569, 1571, 67), (10, 258, 139, 1, 0, 1609, 1611, 77), (10, 264, 154, 0, 0, 1573, 1575, 68), (10, 270, 155, 0, 0, 1577, 1579, 69), (10, 273, 138, 1, 0, 1585, 1587, 71), (10, 276, 153, 0, 0, 1589, 1591, 72), (10, 279, 152, 2, 0, 1593, 1595, 73), (10, 282, 156, 0, 0, 1581, 1583, 70), (10, 285, 157, 0, 0, 1597, 1599, 74), (10, 288, 158, 0, 0, 1601, 1603, 75), (10, 291, 159, 0, 0, 1605, 1607, 76), (10, 297, 149, 0, 0, 1526, 1528, 57), (10, 303, 160, 1, 1, 1613, 1614, 0), (10, 320, 164, 1, 1, 1680, 1681, 0), (10, 324, 1015, 1, 2, 1683, 0, 0), (10, 334, 165, 1, 0, 1676, 1678, 86), (10, 337, 168, 1, 0, 1277, 1279, 50), (10, 340, 172, 2, 0, 1639, 1641, 80), (10, 344, 167, 1, 0, 1663, 1665, 83), (10, 347, 166, 1, 0, 1672, 1674, 85), (10, 350, 1014, 2, 2, 1704, 0, 0), (10, 354, 1013, 2, 2, 1705, 0, 0), (10, 360, 175, 4, 0, 1668, 1670, 84), (10, 364, 176, 3, 0, 1700, 1702, 89)]
def zcaT_6 : List (Nat × Nat × Nat × Nat × Nat × Nat × Nat × Nat) := [(10, 368, 177, 4, 0, 1696, 1698, 88), (10, 372, 1011, 2, 2, 1718, 0, 0), (10, 374, 173, 2, 0, 1635, 1637, 79), (10, 381, 182, 2, 0, 1752, 1754, 98), (10, 384, 1010, 2, 2, 1766, 0, 0), (10, 386, 178, 4, 0, 1692, 1694, 87), (10, 390, 179, 5, 0, 1714, 1716, 92), (10, 394, 180, 2, 0, 1748, 1750, 97), (10, 397, 181, 2, 0, 1756, 1758, 99), (10, 401, 183, 1, 0, 1762, 1764, 100), (10, 404, 184, 2, 0, 1723, 1725, 93), (10, 407, 185, 2, 0, 1744, 1746, 96), (10, 411, 1012, 1, 2, 1739, 0, 0), (10, 413, 171, 1, 0, 1628, 1630, 78), (10, 416, 190, 1, 1, 1632, 1633, 0), (10, 419, 192, 1, 0, 1647, 1649, 81), (10, 422, 187, 2, 0, 1651, 1653, 82), (10, 429, 170, 2, 0, 1710, 1712, 91), (10, 432, 196, 0, 0, 1706, 1708, 90), (10, 435, 199, 2, 0, 1731, 1733, 94), (10, 438, 189, 3, 0, 1735, 1737, 95), (10, 441, 186, 1, 0, 1771, 1773, 101), (10, 444, 174, 1, 1, 1775, 1776, 0), (10, 454, 207, 4, 0, 1799, 1801, 102), (10, 457, 209, 2, 0, 1807, 1809, 103), (10, 460, 211, 3, 0, 1815, 1817, 104), (10, 464, 214, 1, 0, 1827, 1829, 105), (10, 467, 216, 4, 0, 1847, 1849, 109), (10, 470, 217, 3, 0, 1843, 1845, 108), (10, 473, 219, 2, 0, 1835, 1837, 106), (10, 476, 218, 3, 0, 1839, 1841, 107), (10, 483, 222, 2, 1, 1861, 1862, 0), (10, 486, 227, 0, 0, 1884, 1886, 111), (10, 489, 228, 1, 0, 1892, 1894, 113), (10, 492, 229, 1, 0, 1888, 1890, 112), (10, 495, 230, 0, 0, 1880, 1882, 110), (10, 498, 188, 1, 0, 1908, 1910, 114), (10, 501, 238, 0, 0, 1928, 1930, 115)]
def zcaT : List (Nat × Nat × Nat × Nat × Nat × Nat × Nat × Nat) := zcaT_0 ++ (zcaT_1 ++ (zcaT_2 ++ (zcaT_3 ++ (zcaT_4 ++ (zcaT_5 ++ (zcaT_6))))))
def zbn (k : Nat) : MethodName := if k = 1000 then ⟨"java/lang/String", "length", "()I"⟩ else if k = 1001 then ⟨"java/lang/String", "charAt", "(I)C"⟩ else if k = 1002 then ⟨"java/lang/System", "arraycopy", "(Ljava/lang/Object;ILjava/lang/Object;II)V"⟩ else if k = 1003 then ⟨"HandsLetLaw", "hand", "(LHandsLet;II[J)I"⟩ else if k = 1010 then ⟨"java/lang/Math", "max", "(II)I"⟩ else if k = 1011 then ⟨"java/lang/Math", "min", "(II)I"⟩ else if k = 1012 then ⟨"java/lang/Math", "abs", "(I)I"⟩ else if k = 1013 then ⟨"java/lang/Math", "max", "(JJ)J"⟩ else if k = 1014 then ⟨"java/lang/Math", "min", "(JJ)J"⟩ else if k = 1015 then ⟨"java/lang/Math", "abs", "(J)J"⟩ else x
def zyOf (k : Nat) : MethodName := (zmt.map (fun q => q.1)).getD k x
def zcaOk (q : Nat × Nat × Nat × Nat × Nat × Nat × Nat × Nat) : Prop := (q.2.2.2.2.1 = 2 ∧ lw_tbl[q.2.2.2.2.2.1]? = some (.methodLink (zcn q.1) q.2.1 (zbn q.2.2.1))) ∨ (q.2.2.1 < 241 ∧ lw_tbl[q.2.2.2.2.2.1]? = some (.methodLink (zcn q.1) q.2.1 (zyOf q.2.2.1)) ∧ (parseMethodDescriptor (zyOf q.2.2.1).desc).map (fun d => d.parameters.length) = some q.2.2.2.1 ∧ ((q.2.2.2.2.1 = 1 ∧ lw_tbl[q.2.2.2.2.2.2.1]? = some (.static (zyOf q.2.2.1))) ∨ (q.2.2.2.2.1 = 0 ∧ lw_tbl[q.2.2.2.2.2.2.1]? = some (.instanceMethod (zyOf q.2.2.1)) ∧ lw_tbl[q.2.2.2.2.2.2.2]? = some (.selects (zyOf q.2.2.1).cls (zyOf q.2.2.1) (zyOf q.2.2.1)))))
set_option maxRecDepth 20000 in
theorem zcaT_c0 : ∀ q ∈ zcaT_0, zcaOk q := by unfold zcaOk; decide +kernel
set_option maxRecDepth 20000 in
theorem zcaT_c1 : ∀ q ∈ zcaT_1, zcaOk q := by unfold zcaOk; decide +kernel
set_option maxRecDepth 20000 in
theorem zcaT_c2 : ∀ q ∈ zcaT_2, zcaOk q := by unfold zcaOk; decide +kernel
set_option maxRecDepth 20000 in
theorem zcaT_c3 : ∀ q ∈ zcaT_3, zcaOk q := by unfold zcaOk; decide +kernel
set_option maxRecDepth 20000 in
theorem zcaT_c4 : ∀ q ∈ zcaT_4, zcaOk q := by unfold zcaOk; decide +kernel
set_option maxRecDepth 20000 in
theorem zcaT_c5 : ∀ q ∈ zcaT_5, zcaOk q := by unfold zcaOk; decide +kernel
set_option maxRecDepth 20000 in
theorem zcaT_c6 : ∀ q ∈ zcaT_6, zcaOk q := by unfold zcaOk; decide +kernel
def zciT : List (Nat × Nat × Int32 × Nat) := [(9, 251, 999999, 875), (2, 44, 10000000, 900), (4, 130, 99999, 648), (7, 81, 1000000, 556), (10, 189, 99999, 1405), (10, 377, 1103515245, 1644), (10, 380, 2147483647, 1645), (10, 447, 999999, 1678), (13, 265, 1431655765, 1037), (13, 266, 858993459, 1038), (13, 267, 252645135, 1039)]
def zclT : List (Nat × Nat × Int64 × Nat) := [(9, 176, -9223372036854775808, 706), (9, 298, -1, 964), (0, 175, -9223372036854775808, 747), (0, 177, 1000, 748), (0, 179, 999, 749), (6, 56, -9223372036854775808, 729), (6, 66, 1000000000000, 727), (6, 68, -1000000000000, 728), (8, 85, 1103515245, 833), (8, 87, 12345, 834), (8, 89, 2147483647, 835), (8, 91, 65536, 836), (10, 330, 1000000000000, 1570), (10, 332, -1000000000000, 1571), (10, 427, -9223372036854775808, 1551), (10, 479, -1, 1743), (10, 481, 100, 1744)]
set_option maxRecDepth 20000 in
theorem zciT_ok : ∀ q ∈ zciT, tables_1[q.2.2.2]? = some (.constant (zcn q.1) q.2.1 q.2.2.1) := by decide +kernel
set_option maxRecDepth 20000 in
theorem zclT_ok : ∀ q ∈ zclT, tables_1[q.2.2.2]? = some (.constantLong (zcn q.1) q.2.1 q.2.2.1) := by decide +kernel
theorem zini_ok : ∀ c, c < 14 → tables_1[[10, 13, 14, 8, 2, 12, 11, 3, 9, 1, 15, 0, 16, 23].getD c 0]? = some (.initialized (zcn c)) := by decide +kernel
