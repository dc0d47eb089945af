/-! printed by wip/whole/gen.py: classes, fields, methods, instructions, words -/
def CN0 : String := "CausalPlaces"
def FT0 : u_T := fun k => match k with
  | 0 => ("CausalPlaces", "clients", "[LCausalPlaces$Client;", true)
  | 1 => ("CausalPlaces", "servers", "[LCausalPlaces$Server;", true)
  | 2 => ("CausalPlaces", "links", "[LCausalPlaces$Link;", true)
  | 3 => ("CausalPlaces", "transactions", "[LCausalPlaces$Transaction;", true)
  | _ => ("CausalPlaces", "transactionCount", "I", false)
def FY0 : Nat → FieldType := fun k => match k with
  | 0 => .array (.object "CausalPlaces$Client")
  | 1 => .array (.object "CausalPlaces$Server")
  | 2 => .array (.object "CausalPlaces$Link")
  | 3 => .array (.object "CausalPlaces$Transaction")
  | _ => .int
theorem fnm0 : ∀ a, a < 5 → ∀ b, b < 5 → a ≠ b → (FT0 a).2.1 ≠ (FT0 b).2.1 := by decide +kernel
theorem ftyok0 : ∀ k, k < 5 → parseFieldDescriptor (FT0 k).2.2.1 = some (FY0 k) := by decide +kernel
def CN1 : String := "CausalPlaces$Client"
def FT1 : u_T := fun k => match k with
  | 0 => ("CausalPlaces$Client", "place", "I", true)
  | 1 => ("CausalPlaces$Client", "seen", "[I", true)
  | 2 => ("CausalPlaces$Client", "own", "[LCausalPlaces$Transaction;", true)
  | 3 => ("CausalPlaces$Client", "writes", "LCausalPlaces$Writes;", true)
  | 4 => ("CausalPlaces$Client", "doing", "I", false)
  | 5 => ("CausalPlaces$Client", "latest", "I", false)
  | _ => ("CausalPlaces$Client", "lastRead", "I", false)
def FY1 : Nat → FieldType := fun k => match k with
  | 0 => .int
  | 1 => .array .int
  | 2 => .array (.object "CausalPlaces$Transaction")
  | 3 => .object "CausalPlaces$Writes"
  | 4 => .int
  | 5 => .int
  | _ => .int
theorem fnm1 : ∀ a, a < 7 → ∀ b, b < 7 → a ≠ b → (FT1 a).2.1 ≠ (FT1 b).2.1 := by decide +kernel
theorem ftyok1 : ∀ k, k < 7 → parseFieldDescriptor (FT1 k).2.2.1 = some (FY1 k) := by decide +kernel
def CN2 : String := "CausalPlaces$Link"
def FT2 : u_T := fun k => match k with
  | 0 => ("CausalPlaces$Link", "first", "LCausalPlaces$Message;", false)
  | 1 => ("CausalPlaces$Link", "last", "LCausalPlaces$Message;", false)
  | _ => ("CausalPlaces$Link", "count", "I", false)
def FY2 : Nat → FieldType := fun k => match k with
  | 0 => .object "CausalPlaces$Message"
  | 1 => .object "CausalPlaces$Message"
  | _ => .int
theorem fnm2 : ∀ a, a < 3 → ∀ b, b < 3 → a ≠ b → (FT2 a).2.1 ≠ (FT2 b).2.1 := by decide +kernel
theorem ftyok2 : ∀ k, k < 3 → parseFieldDescriptor (FT2 k).2.2.1 = some (FY2 k) := by decide +kernel
def CN3 : String := "CausalPlaces$Message"
def FT3 : u_T := fun k => match k with
  | 0 => ("CausalPlaces$Message", "kind", "I", true)
  | 1 => ("CausalPlaces$Message", "number", "I", true)
  | 2 => ("CausalPlaces$Message", "time", "I", true)
  | 3 => ("CausalPlaces$Message", "vector", "[I", true)
  | _ => ("CausalPlaces$Message", "next", "LCausalPlaces$Message;", false)
def FY3 : Nat → FieldType := fun k => match k with
  | 0 => .int
  | 1 => .int
  | 2 => .int
  | 3 => .array .int
  | _ => .object "CausalPlaces$Message"
theorem fnm3 : ∀ a, a < 5 → ∀ b, b < 5 → a ≠ b → (FT3 a).2.1 ≠ (FT3 b).2.1 := by decide +kernel
theorem ftyok3 : ∀ k, k < 5 → parseFieldDescriptor (FT3 k).2.2.1 = some (FY3 k) := by decide +kernel
def CN4 : String := "CausalPlaces$Server"
def FT4 : u_T := fun k => match k with
  | 0 => ("CausalPlaces$Server", "number", "I", true)
  | 1 => ("CausalPlaces$Server", "place", "I", true)
  | 2 => ("CausalPlaces$Server", "known", "[I", true)
  | 3 => ("CausalPlaces$Server", "heard", "[I", true)
  | 4 => ("CausalPlaces$Server", "stages", "[I", true)
  | 5 => ("CausalPlaces$Server", "times", "[I", true)
  | 6 => ("CausalPlaces$Server", "kept", "[LCausalPlaces$Transaction;", true)
  | 7 => ("CausalPlaces$Server", "keptCount", "I", false)
  | _ => ("CausalPlaces$Server", "clock", "I", false)
def FY4 : Nat → FieldType := fun k => match k with
  | 0 => .int
  | 1 => .int
  | 2 => .array .int
  | 3 => .array .int
  | 4 => .array .int
  | 5 => .array .int
  | 6 => .array (.object "CausalPlaces$Transaction")
  | 7 => .int
  | _ => .int
theorem fnm4 : ∀ a, a < 9 → ∀ b, b < 9 → a ≠ b → (FT4 a).2.1 ≠ (FT4 b).2.1 := by decide +kernel
theorem ftyok4 : ∀ k, k < 9 → parseFieldDescriptor (FT4 k).2.2.1 = some (FY4 k) := by decide +kernel
def CN5 : String := "CausalPlaces$Transaction"
def FT5 : u_T := fun k => match k with
  | 0 => ("CausalPlaces$Transaction", "number", "I", true)
  | 1 => ("CausalPlaces$Transaction", "place", "I", true)
  | 2 => ("CausalPlaces$Transaction", "client", "LCausalPlaces$Client;", true)
  | 3 => ("CausalPlaces$Transaction", "latest", "I", true)
  | 4 => ("CausalPlaces$Transaction", "seen", "[I", true)
  | 5 => ("CausalPlaces$Transaction", "writes", "LCausalPlaces$Writes;", true)
  | 6 => ("CausalPlaces$Transaction", "time", "I", false)
  | _ => ("CausalPlaces$Transaction", "told", "Z", false)
def FY5 : Nat → FieldType := fun k => match k with
  | 0 => .int
  | 1 => .int
  | 2 => .object "CausalPlaces$Client"
  | 3 => .int
  | 4 => .array .int
  | 5 => .object "CausalPlaces$Writes"
  | 6 => .int
  | _ => .boolean
theorem fnm5 : ∀ a, a < 8 → ∀ b, b < 8 → a ≠ b → (FT5 a).2.1 ≠ (FT5 b).2.1 := by decide +kernel
theorem ftyok5 : ∀ k, k < 8 → parseFieldDescriptor (FT5 k).2.2.1 = some (FY5 k) := by decide +kernel
def CN6 : String := "CausalPlaces$Writes"
def FT6 : u_T := fun k => match k with
  | 0 => ("CausalPlaces$Writes", "has", "[Z", true)
  | _ => ("CausalPlaces$Writes", "ints", "[I", true)
def FY6 : Nat → FieldType := fun k => match k with
  | 0 => .array .boolean
  | _ => .array .int
theorem fnm6 : ∀ a, a < 2 → ∀ b, b < 2 → a ≠ b → (FT6 a).2.1 ≠ (FT6 b).2.1 := by decide +kernel
theorem ftyok6 : ∀ k, k < 2 → parseFieldDescriptor (FT6 k).2.2.1 = some (FY6 k) := by decide +kernel
def CN7 : String := "CausalPlacesModel"
def FT7 : u_T := fun k => match k with
  | 0 => ("CausalPlacesModel", "many", "I", false)
  | 1 => ("CausalPlacesModel", "whose", "[I", true)
  | 2 => ("CausalPlacesModel", "saw", "[I", true)
  | 3 => ("CausalPlacesModel", "behind", "[I", true)
  | 4 => ("CausalPlacesModel", "keys", "[I", true)
  | 5 => ("CausalPlacesModel", "ints", "[I", true)
  | 6 => ("CausalPlacesModel", "lack", "[I", true)
  | 7 => ("CausalPlacesModel", "greatest", "[I", true)
  | 8 => ("CausalPlacesModel", "told", "[Z", true)
  | 9 => ("CausalPlacesModel", "time", "[I", true)
  | 10 => ("CausalPlacesModel", "clock", "[I", true)
  | 11 => ("CausalPlacesModel", "far", "[I", true)
  | 12 => ("CausalPlacesModel", "when", "[I", true)
  | 13 => ("CausalPlacesModel", "known", "[I", true)
  | 14 => ("CausalPlacesModel", "heard", "[I", true)
  | 15 => ("CausalPlacesModel", "doing", "[I", true)
  | 16 => ("CausalPlacesModel", "latest", "[I", true)
  | 17 => ("CausalPlacesModel", "seen", "[I", true)
  | 18 => ("CausalPlacesModel", "own", "[I", true)
  | 19 => ("CausalPlacesModel", "writes", "[I", true)
  | 20 => ("CausalPlacesModel", "written", "[I", true)
  | 21 => ("CausalPlacesModel", "got", "[I", true)
  | 22 => ("CausalPlacesModel", "waiting", "I", false)
  | _ => ("CausalPlacesModel", "post", "[I", false)
def FY7 : Nat → FieldType := fun k => match k with
  | 0 => .int
  | 1 => .array .int
  | 2 => .array .int
  | 3 => .array .int
  | 4 => .array .int
  | 5 => .array .int
  | 6 => .array .int
  | 7 => .array .int
  | 8 => .array .boolean
  | 9 => .array .int
  | 10 => .array .int
  | 11 => .array .int
  | 12 => .array .int
  | 13 => .array .int
  | 14 => .array .int
  | 15 => .array .int
  | 16 => .array .int
  | 17 => .array .int
  | 18 => .array .int
  | 19 => .array .int
  | 20 => .array .int
  | 21 => .array .int
  | 22 => .int
  | _ => .array .int
theorem fnm7 : ∀ a, a < 24 → ∀ b, b < 24 → a ≠ b → (FT7 a).2.1 ≠ (FT7 b).2.1 := by decide +kernel
theorem ftyok7 : ∀ k, k < 24 → parseFieldDescriptor (FT7 k).2.2.1 = some (FY7 k) := by decide +kernel
abbrev vwCl : List vw_C := [(CN0, FT0, 5), (CN1, FT1, 7), (CN2, FT2, 3), (CN3, FT3, 5), (CN4, FT4, 9), (CN5, FT5, 8), (CN6, FT6, 2), (CN7, FT7, 24)]
def am_df (i : Nat) : List Value := match i with
  | 0 => [.null, .null, .null, .null, .int 0]
  | 1 => [.int 0, .null, .null, .null, .int 0, .int 0, .int 0]
  | 2 => [.null, .null, .int 0]
  | 3 => [.int 0, .int 0, .int 0, .null, .null]
  | 4 => [.int 0, .int 0, .null, .null, .null, .null, .null, .int 0, .int 0]
  | 5 => [.int 0, .int 0, .null, .int 0, .null, .null, .int 0, .int 0]
  | 6 => [.null, .null]
  | _ => [.int 0, .null, .null, .null, .null, .null, .null, .null, .null, .null, .null, .null, .null, .null, .null, .null, .null, .null, .null, .null, .null, .null, .int 0, .null]
theorem fdf0 : ∀ j, j < 5 → defaultValue (FY0 j) = vp_V (am_df 0) j := by decide +kernel
theorem fdf1 : ∀ j, j < 7 → defaultValue (FY1 j) = vp_V (am_df 1) j := by decide +kernel
theorem fdf2 : ∀ j, j < 3 → defaultValue (FY2 j) = vp_V (am_df 2) j := by decide +kernel
theorem fdf3 : ∀ j, j < 5 → defaultValue (FY3 j) = vp_V (am_df 3) j := by decide +kernel
theorem fdf4 : ∀ j, j < 9 → defaultValue (FY4 j) = vp_V (am_df 4) j := by decide +kernel
theorem fdf5 : ∀ j, j < 8 → defaultValue (FY5 j) = vp_V (am_df 5) j := by decide +kernel
theorem fdf6 : ∀ j, j < 2 → defaultValue (FY6 j) = vp_V (am_df 6) j := by decide +kernel
theorem fdf7 : ∀ j, j < 24 → defaultValue (FY7 j) = vp_V (am_df 7) j := by decide +kernel
def am_rc : List Nat := [1, 2, 4, 5]
abbrev aM : Type := MethodName × ByteArray × Nat × Option FieldType × Nat
def am_mt (i : Nat) : aM := match i with
  | 0 => (x, code, 4, (some .boolean), 0)
  | 1 => (⟨"CausalPlaces", "<init>", "()V"⟩, prog_1_method_1_code, 2, none, 0)
  | 2 => (⟨"CausalPlaces", "start", "(I)I"⟩, prog_1_method_2_code, 4, (some .int), 0)
  | 3 => (⟨"CausalPlaces", "read", "(II)I"⟩, prog_1_method_3_code, 5, (some .int), 0)
  | 4 => (⟨"CausalPlaces", "value", "(I)I"⟩, prog_1_method_4_code, 3, (some .int), 0)
  | 5 => (⟨"CausalPlaces", "write", "(III)Z"⟩, prog_1_method_5_code, 5, (some .boolean), 0)
  | 6 => (⟨"CausalPlaces", "commit", "(I)I"⟩, prog_1_method_6_code, 5, (some .int), 0)
  | 7 => (⟨"CausalPlaces", "abort", "(I)Z"⟩, prog_1_method_7_code, 3, (some .boolean), 0)
  | 8 => (⟨"CausalPlaces", "tick", "(I)I"⟩, prog_1_method_8_code, 4, (some .int), 0)
  | 9 => (⟨"CausalPlaces", "deliver", "(II)I"⟩, prog_1_method_9_code, 7, (some .int), 0)
  | 10 => (⟨"CausalPlaces", "client", "(II)I"⟩, prog_1_method_10_code, 4, (some .int), 0)
  | 11 => (⟨"CausalPlaces", "server", "(II)I"⟩, prog_1_method_11_code, 4, (some .int), 0)
  | 12 => (⟨"CausalPlaces", "transaction", "(II)I"⟩, prog_1_method_12_code, 4, (some .int), 0)
  | 13 => (⟨"CausalPlaces", "written", "(II)I"⟩, prog_1_method_13_code, 4, (some .int), 0)
  | 14 => (⟨"CausalPlaces", "version", "(III)I"⟩, prog_1_method_14_code, 6, (some .int), 0)
  | 15 => (⟨"CausalPlaces", "link", "(III)I"⟩, prog_1_method_15_code, 5, (some .int), 0)
  | 16 => (⟨"CausalPlaces", "clientAt", "(I)LCausalPlaces$Client;"⟩, prog_1_method_16_code, 2, (some (.object "CausalPlaces$Client")), 0)
  | 17 => (⟨"CausalPlaces", "openClientAt", "(I)LCausalPlaces$Client;"⟩, prog_1_method_17_code, 3, (some (.object "CausalPlaces$Client")), 0)
  | 18 => (⟨"CausalPlaces", "serverAt", "(I)LCausalPlaces$Server;"⟩, prog_1_method_18_code, 2, (some (.object "CausalPlaces$Server")), 0)
  | 19 => (⟨"CausalPlaces", "transactionAt", "(I)LCausalPlaces$Transaction;"⟩, prog_1_method_19_code, 2, (some (.object "CausalPlaces$Transaction")), 0)
  | 20 => (⟨"CausalPlaces", "linkAt", "(II)LCausalPlaces$Link;"⟩, prog_1_method_20_code, 4, (some (.object "CausalPlaces$Link")), 0)
  | 21 => (⟨"CausalPlaces", "isPlace", "(I)Z"⟩, prog_1_method_21_code, 1, (some .boolean), 0)
  | 22 => (⟨"CausalPlaces", "isKey", "(I)Z"⟩, prog_1_method_22_code, 1, (some .boolean), 0)
  | 23 => (⟨"CausalPlaces", "firstServerOf", "(I)I"⟩, prog_1_method_23_code, 1, (some .int), 0)
  | 24 => (⟨"CausalPlaces", "areLinked", "(II)Z"⟩, prog_1_method_24_code, 4, (some .boolean), 0)
  | 25 => (⟨"CausalPlaces", "numberOf", "([II)I"⟩, prog_1_method_25_code, 2, (some .int), 0)
  | 26 => (⟨"CausalPlaces", "newestFor", "(LCausalPlaces$Client;I)LCausalPlaces$Transaction;"⟩, prog_1_method_26_code, 6, (some (.object "CausalPlaces$Transaction")), 0)
  | 27 => (⟨"CausalPlaces", "sendPrepares", "(LCausalPlaces$Transaction;)Z"⟩, prog_1_method_27_code, 5, (some .boolean), 0)
  | 28 => (⟨"CausalPlaces", "decide", "(LCausalPlaces$Transaction;)V"⟩, prog_1_method_28_code, 5, none, 0)
  | 29 => (⟨"CausalPlaces", "takeDecide", "(LCausalPlaces$Server;LCausalPlaces$Transaction;I)V"⟩, prog_1_method_29_code, 6, none, 0)
  | 30 => (⟨"CausalPlaces", "takeMessage", "(LCausalPlaces$Message;LCausalPlaces$Server;LCausalPlaces$Server;)V"⟩, prog_1_method_30_code, 6, none, 0)
  | 31 => (⟨"CausalPlaces", "sendToOtherPlaces", "(LCausalPlaces$Server;II)V"⟩, prog_1_method_31_code, 6, none, 0)
  | 32 => (⟨"CausalPlaces", "send", "(IILCausalPlaces$Message;)V"⟩, prog_1_method_32_code, 5, none, 0)
  | 33 => (⟨"CausalPlaces$Client", "<init>", "(I)V"⟩, prog_2_method_1_code, 2, none, 1)
  | 34 => (⟨"CausalPlaces$Client", "seeStable", "(LCausalPlaces$Server;)V"⟩, prog_2_method_2_code, 3, none, 1)
  | 35 => (⟨"CausalPlaces$Client", "forgetSeenVersions", "()V"⟩, prog_2_method_3_code, 3, none, 1)
  | 36 => (⟨"CausalPlaces$Client", "finishCommit", "(LCausalPlaces$Transaction;)V"⟩, prog_2_method_4_code, 3, none, 1)
  | 37 => (⟨"CausalPlaces$Client", "ownFor", "(I)LCausalPlaces$Transaction;"⟩, prog_2_method_5_code, 2, (some (.object "CausalPlaces$Transaction")), 1)
  | 38 => (⟨"CausalPlaces$Client", "countOwn", "()I"⟩, prog_2_method_6_code, 3, (some .int), 1)
  | 39 => (⟨"CausalPlaces$Link", "<init>", "()V"⟩, prog_3_method_1_code, 1, none, 2)
  | 40 => (⟨"CausalPlaces$Link", "append", "(LCausalPlaces$Message;)V"⟩, prog_3_method_2_code, 2, none, 2)
  | 41 => (⟨"CausalPlaces$Link", "removeFirst", "()LCausalPlaces$Message;"⟩, prog_3_method_3_code, 2, (some (.object "CausalPlaces$Message")), 2)
  | 42 => (⟨"CausalPlaces$Message", "<init>", "(III[I)V"⟩, prog_4_method_1_code, 5, none, 3)
  | 43 => (⟨"CausalPlaces$Server", "<init>", "(I)V"⟩, prog_5_method_1_code, 2, none, 4)
  | 44 => (⟨"CausalPlaces$Server", "keepsKey", "(I)Z"⟩, prog_5_method_2_code, 2, (some .boolean), 4)
  | 45 => (⟨"CausalPlaces$Server", "neighbour", "()I"⟩, prog_5_method_3_code, 1, (some .int), 4)
  | 46 => (⟨"CausalPlaces$Server", "stableOf", "(I)I"⟩, prog_5_method_4_code, 2, (some .int), 4)
  | 47 => (⟨"CausalPlaces$Server", "setKnown", "(II)V"⟩, prog_5_method_5_code, 3, none, 4)
  | 48 => (⟨"CausalPlaces$Server", "hear", "([I)V"⟩, prog_5_method_6_code, 3, none, 4)
  | 49 => (⟨"CausalPlaces$Server", "prepareNext", "(LCausalPlaces$Transaction;)I"⟩, prog_5_method_7_code, 4, (some .int), 4)
  | 50 => (⟨"CausalPlaces$Server", "setStage", "(III)V"⟩, prog_5_method_8_code, 4, none, 4)
  | 51 => (⟨"CausalPlaces$Server", "countAtStage", "(I)I"⟩, prog_5_method_9_code, 4, (some .int), 4)
  | 52 => (⟨"CausalPlaces$Server", "leastTimeAtStage", "(I)I"⟩, prog_5_method_10_code, 4, (some .int), 4)
  | 53 => (⟨"CausalPlaces$Server", "reachedTime", "()I"⟩, prog_5_method_11_code, 2, (some .int), 4)
  | 54 => (⟨"CausalPlaces$Server", "nextToApply", "()I"⟩, prog_5_method_12_code, 4, (some .int), 4)
  | 55 => (⟨"CausalPlaces$Server", "keepVersions", "(LCausalPlaces$Transaction;)V"⟩, prog_5_method_13_code, 3, none, 4)
  | 56 => (⟨"CausalPlaces$Server", "newestUpTo", "(I[I)LCausalPlaces$Transaction;"⟩, prog_5_method_14_code, 5, (some (.object "CausalPlaces$Transaction")), 4)
  | 57 => (⟨"CausalPlaces$Server", "versionAt", "(II)LCausalPlaces$Transaction;"⟩, prog_5_method_15_code, 6, (some (.object "CausalPlaces$Transaction")), 4)
  | 58 => (⟨"CausalPlaces$Transaction", "<init>", "(ILCausalPlaces$Client;)V"⟩, prog_6_method_1_code, 3, none, 5)
  | 59 => (⟨"CausalPlaces$Transaction", "noteTime", "(I)V"⟩, prog_6_method_2_code, 2, none, 5)
  | 60 => (⟨"CausalPlaces$Transaction", "stampOf", "(I)I"⟩, prog_6_method_3_code, 2, (some .int), 5)
  | 61 => (⟨"CausalPlaces$Transaction", "isUpTo", "([I)Z"⟩, prog_6_method_4_code, 3, (some .boolean), 5)
  | 62 => (⟨"CausalPlaces$Transaction", "isNewerThan", "(LCausalPlaces$Transaction;)Z"⟩, prog_6_method_5_code, 2, (some .boolean), 5)
  | 63 => (⟨"CausalPlaces$Writes", "<init>", "()V"⟩, prog_7_method_1_code, 1, none, 6)
  | 64 => (⟨"CausalPlaces$Writes", "clear", "()V"⟩, prog_7_method_2_code, 2, none, 6)
  | 65 => (⟨"CausalPlaces$Writes", "put", "(II)V"⟩, prog_7_method_3_code, 3, none, 6)
  | 66 => (⟨"CausalPlaces$Writes", "putAll", "(LCausalPlaces$Writes;)V"⟩, prog_7_method_4_code, 3, none, 6)
  | 67 => (⟨"CausalPlaces$Writes", "hasKey", "(I)Z"⟩, prog_7_method_5_code, 2, (some .boolean), 6)
  | 68 => (⟨"CausalPlaces$Writes", "intFor", "(I)I"⟩, prog_7_method_6_code, 2, (some .int), 6)
  | 69 => (⟨"CausalPlaces$Writes", "countKeys", "()I"⟩, prog_7_method_7_code, 3, (some .int), 6)
  | 70 => (⟨"CausalPlaces$Writes", "hasKeyOf", "(LCausalPlaces$Server;)Z"⟩, prog_7_method_8_code, 3, (some .boolean), 6)
  | 71 => (⟨"CausalPlacesModel", "<init>", "()V"⟩, prog_9_method_1_code, 2, none, 7)
  | 72 => (⟨"CausalPlacesModel", "isClient", "(I)Z"⟩, prog_9_method_2_code, 1, (some .boolean), 7)
  | 73 => (⟨"CausalPlacesModel", "isServer", "(I)Z"⟩, prog_9_method_3_code, 1, (some .boolean), 7)
  | 74 => (⟨"CausalPlacesModel", "isKey", "(I)Z"⟩, prog_9_method_4_code, 1, (some .boolean), 7)
  | 75 => (⟨"CausalPlacesModel", "placeOf", "(I)I"⟩, prog_9_method_5_code, 1, (some .int), 7)
  | 76 => (⟨"CausalPlacesModel", "keeps", "(II)Z"⟩, prog_9_method_6_code, 2, (some .boolean), 7)
  | 77 => (⟨"CausalPlacesModel", "isLink", "(II)Z"⟩, prog_9_method_7_code, 2, (some .boolean), 7)
  | 78 => (⟨"CausalPlacesModel", "placeOfTransaction", "(I)I"⟩, prog_9_method_8_code, 2, (some .int), 7)
  | 79 => (⟨"CausalPlacesModel", "writesFor", "(II)Z"⟩, prog_9_method_9_code, 3, (some .boolean), 7)
  | 80 => (⟨"CausalPlacesModel", "stamp", "(II)I"⟩, prog_9_method_10_code, 3, (some .int), 7)
  | 81 => (⟨"CausalPlacesModel", "isSeen", "(II)Z"⟩, prog_9_method_11_code, 4, (some .boolean), 7)
  | 82 => (⟨"CausalPlacesModel", "isNewer", "(II)Z"⟩, prog_9_method_12_code, 3, (some .boolean), 7)
  | 83 => (⟨"CausalPlacesModel", "hasVersion", "(III)Z"⟩, prog_9_method_13_code, 4, (some .boolean), 7)
  | 84 => (⟨"CausalPlacesModel", "concerns", "(II)Z"⟩, prog_9_method_14_code, 4, (some .boolean), 7)
  | 85 => (⟨"CausalPlacesModel", "send", "(IIIIIII)V"⟩, prog_9_method_15_code, 10, none, 7)
  | 86 => (⟨"CausalPlacesModel", "firstOf", "(II)I"⟩, prog_9_method_16_code, 4, (some .int), 7)
  | 87 => (⟨"CausalPlacesModel", "take", "(IIIIIII)V"⟩, prog_9_method_17_code, 8, none, 7)
  | 88 => (⟨"CausalPlacesModel", "prepare", "(III)V"⟩, prog_9_method_18_code, 6, none, 7)
  | 89 => (⟨"CausalPlacesModel", "prepared", "(III)V"⟩, prog_9_method_19_code, 6, none, 7)
  | 90 => (⟨"CausalPlacesModel", "decided", "(III)V"⟩, prog_9_method_20_code, 4, none, 7)
  | 91 => (⟨"CausalPlacesModel", "least", "(II)I"⟩, prog_9_method_21_code, 5, (some .int), 7)
  | 92 => (⟨"CausalPlacesModel", "apply", "(I)V"⟩, prog_9_method_22_code, 5, none, 7)
  | 93 => (⟨"CausalPlacesModel", "stable", "(II)I"⟩, prog_9_method_23_code, 3, (some .int), 7)
  | 94 => (⟨"CausalPlacesModel", "start", "(I)I"⟩, prog_9_method_24_code, 4, (some .int), 7)
  | 95 => (⟨"CausalPlacesModel", "read", "(II)I"⟩, prog_9_method_25_code, 6, (some .int), 7)
  | 96 => (⟨"CausalPlacesModel", "value", "(I)I"⟩, prog_9_method_26_code, 2, (some .int), 7)
  | 97 => (⟨"CausalPlacesModel", "write", "(III)Z"⟩, prog_9_method_27_code, 4, (some .boolean), 7)
  | 98 => (⟨"CausalPlacesModel", "commit", "(I)I"⟩, prog_9_method_28_code, 5, (some .int), 7)
  | 99 => (⟨"CausalPlacesModel", "abort", "(I)Z"⟩, prog_9_method_29_code, 2, (some .boolean), 7)
  | 100 => (⟨"CausalPlacesModel", "tick", "(I)I"⟩, prog_9_method_30_code, 7, (some .int), 7)
  | 101 => (⟨"CausalPlacesModel", "deliver", "(II)I"⟩, prog_9_method_31_code, 10, (some .int), 7)
  | 102 => (⟨"CausalPlacesModel", "bits", "(I)I"⟩, prog_9_method_32_code, 3, (some .int), 7)
  | 103 => (⟨"CausalPlacesModel", "client", "(II)I"⟩, prog_9_method_33_code, 5, (some .int), 7)
  | 104 => (⟨"CausalPlacesModel", "howMany", "(II)I"⟩, prog_9_method_34_code, 5, (some .int), 7)
  | 105 => (⟨"CausalPlacesModel", "server", "(II)I"⟩, prog_9_method_35_code, 3, (some .int), 7)
  | 106 => (⟨"CausalPlacesModel", "transaction", "(II)I"⟩, prog_9_method_36_code, 3, (some .int), 7)
  | 107 => (⟨"CausalPlacesModel", "written", "(II)I"⟩, prog_9_method_37_code, 3, (some .int), 7)
  | 108 => (⟨"CausalPlacesModel", "version", "(III)I"⟩, prog_9_method_38_code, 7, (some .int), 7)
  | _ => (⟨"CausalPlacesModel", "link", "(III)I"⟩, prog_9_method_39_code, 7, (some .int), 7)
def am_y (i : Nat) : MethodName := (am_mt i).1
def am_own (i : Nat) : String := (am_mt i).1.cls
def am_nm (i : Nat) : String := (am_mt i).1.name
def am_cod (i : Nat) : ByteArray := (am_mt i).2.1
def am_mx (i : Nat) : Nat := (am_mt i).2.2.1
def am_rty (i : Nat) : Option FieldType := (am_mt i).2.2.2.1
def am_mc (i : Nat) : Nat := (am_mt i).2.2.2.2
theorem am_mt_all {P : aM → Prop} (h0 : P (am_mt 0)) (h1 : P (am_mt 1)) (h2 : P (am_mt 2)) (h3 : P (am_mt 3)) (h4 : P (am_mt 4)) (h5 : P (am_mt 5)) (h6 : P (am_mt 6)) (h7 : P (am_mt 7)) (h8 : P (am_mt 8)) (h9 : P (am_mt 9)) (h10 : P (am_mt 10)) (h11 : P (am_mt 11)) (h12 : P (am_mt 12)) (h13 : P (am_mt 13)) (h14 : P (am_mt 14)) (h15 : P (am_mt 15)) (h16 : P (am_mt 16)) (h17 : P (am_mt 17)) (h18 : P (am_mt 18)) (h19 : P (am_mt 19)) (h20 : P (am_mt 20)) (h21 : P (am_mt 21)) (h22 : P (am_mt 22)) (h23 : P (am_mt 23)) (h24 : P (am_mt 24)) (h25 : P (am_mt 25)) (h26 : P (am_mt 26)) (h27 : P (am_mt 27)) (h28 : P (am_mt 28)) (h29 : P (am_mt 29)) (h30 : P (am_mt 30)) (h31 : P (am_mt 31)) (h32 : P (am_mt 32)) (h33 : P (am_mt 33)) (h34 : P (am_mt 34)) (h35 : P (am_mt 35)) (h36 : P (am_mt 36)) (h37 : P (am_mt 37)) (h38 : P (am_mt 38)) (h39 : P (am_mt 39)) (h40 : P (am_mt 40)) (h41 : P (am_mt 41)) (h42 : P (am_mt 42)) (h43 : P (am_mt 43)) (h44 : P (am_mt 44)) (h45 : P (am_mt 45)) (h46 : P (am_mt 46)) (h47 : P (am_mt 47)) (h48 : P (am_mt 48)) (h49 : P (am_mt 49)) (h50 : P (am_mt 50)) (h51 : P (am_mt 51)) (h52 : P (am_mt 52)) (h53 : P (am_mt 53)) (h54 : P (am_mt 54)) (h55 : P (am_mt 55)) (h56 : P (am_mt 56)) (h57 : P (am_mt 57)) (h58 : P (am_mt 58)) (h59 : P (am_mt 59)) (h60 : P (am_mt 60)) (h61 : P (am_mt 61)) (h62 : P (am_mt 62)) (h63 : P (am_mt 63)) (h64 : P (am_mt 64)) (h65 : P (am_mt 65)) (h66 : P (am_mt 66)) (h67 : P (am_mt 67)) (h68 : P (am_mt 68)) (h69 : P (am_mt 69)) (h70 : P (am_mt 70)) (h71 : P (am_mt 71)) (h72 : P (am_mt 72)) (h73 : P (am_mt 73)) (h74 : P (am_mt 74)) (h75 : P (am_mt 75)) (h76 : P (am_mt 76)) (h77 : P (am_mt 77)) (h78 : P (am_mt 78)) (h79 : P (am_mt 79)) (h80 : P (am_mt 80)) (h81 : P (am_mt 81)) (h82 : P (am_mt 82)) (h83 : P (am_mt 83)) (h84 : P (am_mt 84)) (h85 : P (am_mt 85)) (h86 : P (am_mt 86)) (h87 : P (am_mt 87)) (h88 : P (am_mt 88)) (h89 : P (am_mt 89)) (h90 : P (am_mt 90)) (h91 : P (am_mt 91)) (h92 : P (am_mt 92)) (h93 : P (am_mt 93)) (h94 : P (am_mt 94)) (h95 : P (am_mt 95)) (h96 : P (am_mt 96)) (h97 : P (am_mt 97)) (h98 : P (am_mt 98)) (h99 : P (am_mt 99)) (h100 : P (am_mt 100)) (h101 : P (am_mt 101)) (h102 : P (am_mt 102)) (h103 : P (am_mt 103)) (h104 : P (am_mt 104)) (h105 : P (am_mt 105)) (h106 : P (am_mt 106)) (h107 : P (am_mt 107)) (h108 : P (am_mt 108)) (h109 : P (am_mt 109)) : ∀ i, P (am_mt i) := by
  intro i
  unfold am_mt
  split
  · exact h0
  · exact h1
  · exact h2
  · exact h3
  · exact h4
  · exact h5
  · exact h6
  · exact h7
  · exact h8
  · exact h9
  · exact h10
  · exact h11
  · exact h12
  · exact h13
  · exact h14
  · exact h15
  · exact h16
  · exact h17
  · exact h18
  · exact h19
  · exact h20
  · exact h21
  · exact h22
  · exact h23
  · exact h24
  · exact h25
  · exact h26
  · exact h27
  · exact h28
  · exact h29
  · exact h30
  · exact h31
  · exact h32
  · exact h33
  · exact h34
  · exact h35
  · exact h36
  · exact h37
  · exact h38
  · exact h39
  · exact h40
  · exact h41
  · exact h42
  · exact h43
  · exact h44
  · exact h45
  · exact h46
  · exact h47
  · exact h48
  · exact h49
  · exact h50
  · exact h51
  · exact h52
  · exact h53
  · exact h54
  · exact h55
  · exact h56
  · exact h57
  · exact h58
  · exact h59
  · exact h60
  · exact h61
  · exact h62
  · exact h63
  · exact h64
  · exact h65
  · exact h66
  · exact h67
  · exact h68
  · exact h69
  · exact h70
  · exact h71
  · exact h72
  · exact h73
  · exact h74
  · exact h75
  · exact h76
  · exact h77
  · exact h78
  · exact h79
  · exact h80
  · exact h81
  · exact h82
  · exact h83
  · exact h84
  · exact h85
  · exact h86
  · exact h87
  · exact h88
  · exact h89
  · exact h90
  · exact h91
  · exact h92
  · exact h93
  · exact h94
  · exact h95
  · exact h96
  · exact h97
  · exact h98
  · exact h99
  · exact h100
  · exact h101
  · exact h102
  · exact h103
  · exact h104
  · exact h105
  · exact h106
  · exact h107
  · exact h108
  · exact h109
theorem am_y_plain (i : Nat) : plainName (am_y i).cls = true := am_mt_all (P := fun q => plainName q.1.cls = true) (by decide +kernel) (by decide +kernel) (by decide +kernel) (by decide +kernel) (by decide +kernel) (by decide +kernel) (by decide +kernel) (by decide +kernel) (by decide +kernel) (by decide +kernel) (by decide +kernel) (by decide +kernel) (by decide +kernel) (by decide +kernel) (by decide +kernel) (by decide +kernel) (by decide +kernel) (by decide +kernel) (by decide +kernel) (by decide +kernel) (by decide +kernel) (by decide +kernel) (by decide +kernel) (by decide +kernel) (by decide +kernel) (by decide +kernel) (by decide +kernel) (by decide +kernel) (by decide +kernel) (by decide +kernel) (by decide +kernel) (by decide +kernel) (by decide +kernel) (by decide +kernel) (by decide +kernel) (by decide +kernel) (by decide +kernel) (by decide +kernel) (by decide +kernel) (by decide +kernel) (by decide +kernel) (by decide +kernel) (by decide +kernel) (by decide +kernel) (by decide +kernel) (by decide +kernel) (by decide +kernel) (by decide +kernel) (by decide +kernel) (by decide +kernel) (by decide +kernel) (by decide +kernel) (by decide +kernel) (by decide +kernel) (by decide +kernel) (by decide +kernel) (by decide +kernel) (by decide +kernel) (by decide +kernel) (by decide +kernel) (by decide +kernel) (by decide +kernel) (by decide +kernel) (by decide +kernel) (by decide +kernel) (by decide +kernel) (by decide +kernel) (by decide +kernel) (by decide +kernel) (by decide +kernel) (by decide +kernel) (by decide +kernel) (by decide +kernel) (by decide +kernel) (by decide +kernel) (by decide +kernel) (by decide +kernel) (by decide +kernel) (by decide +kernel) (by decide +kernel) (by decide +kernel) (by decide +kernel) (by decide +kernel) (by decide +kernel) (by decide +kernel) (by decide +kernel) (by decide +kernel) (by decide +kernel) (by decide +kernel) (by decide +kernel) (by decide +kernel) (by decide +kernel) (by decide +kernel) (by decide +kernel) (by decide +kernel) (by decide +kernel) (by decide +kernel) (by decide +kernel) (by decide +kernel) (by decide +kernel) (by decide +kernel) (by decide +kernel) (by decide +kernel) (by decide +kernel) (by decide +kernel) (by decide +kernel) (by decide +kernel) (by decide +kernel) (by decide +kernel) (by decide +kernel) i
theorem am_mx_20 (i : Nat) : am_mx i ≤ 20 := am_mt_all (P := fun q => q.2.2.1 ≤ 20) (by decide) (by decide) (by decide) (by decide) (by decide) (by decide) (by decide) (by decide) (by decide) (by decide) (by decide) (by decide) (by decide) (by decide) (by decide) (by decide) (by decide) (by decide) (by decide) (by decide) (by decide) (by decide) (by decide) (by decide) (by decide) (by decide) (by decide) (by decide) (by decide) (by decide) (by decide) (by decide) (by decide) (by decide) (by decide) (by decide) (by decide) (by decide) (by decide) (by decide) (by decide) (by decide) (by decide) (by decide) (by decide) (by decide) (by decide) (by decide) (by decide) (by decide) (by decide) (by decide) (by decide) (by decide) (by decide) (by decide) (by decide) (by decide) (by decide) (by decide) (by decide) (by decide) (by decide) (by decide) (by decide) (by decide) (by decide) (by decide) (by decide) (by decide) (by decide) (by decide) (by decide) (by decide) (by decide) (by decide) (by decide) (by decide) (by decide) (by decide) (by decide) (by decide) (by decide) (by decide) (by decide) (by decide) (by decide) (by decide) (by decide) (by decide) (by decide) (by decide) (by decide) (by decide) (by decide) (by decide) (by decide) (by decide) (by decide) (by decide) (by decide) (by decide) (by decide) (by decide) (by decide) (by decide) (by decide) (by decide) (by decide) (by decide) i
/-- 0: CausalPlacesLaw.law([I)Z -/
def am_t0 : List (Nat × aI) := [(0, (29, 0, 0, 0, [])), (3, (7, 0, 0, 0, [])), (4, (62, 1, 0, 0, [])), (7, (34, 1, 1, 0, [])), (8, (29, 7, 0, 0, [])), (11, (7, 0, 0, 0, [])), (12, (62, 71, 0, 0, [])), (15, (34, 2, 1, 0, [])), (16, (0, 1, 0, 0, [])), (17, (2, 3, 1, 0, [])), (18, (1, 3, 1, 0, [])), (19, (33, 0, 1, 0, [])), (20, (28, 0, 0, 0, [])), (21, (0, 1, 0, 4, [])), (22, (4, 1, 0, 0, [])), (23, (13, 4, 552, 0, [])), (26, (33, 0, 1, 0, [])), (27, (1, 3, 1, 0, [])), (28, (22, 0, 0, 0, [])), (29, (0, 2, 0, 15, [])), (31, (4, 3, 0, 0, [])), (32, (32, 546, 0, 0, [(0, 104), (1, 127), (2, 160), (3, 183), (4, 226), (5, 249), (6, 272), (7, 295), (8, 328), (9, 361), (10, 394), (11, 427), (12, 460), (13, 503)])), (104, (33, 1, 1, 0, [])), (105, (33, 0, 1, 0, [])), (106, (1, 3, 1, 0, [])), (107, (0, 1, 0, 1, [])), (108, (4, 0, 0, 0, [])), (109, (22, 0, 0, 0, [])), (110, (60, 2, 1, 0, [])), (113, (33, 2, 1, 0, [])), (114, (33, 0, 1, 0, [])), (115, (1, 3, 1, 0, [])), (116, (0, 1, 0, 1, [])), (117, (4, 0, 0, 0, [])), (118, (22, 0, 0, 0, [])), (119, (60, 94, 1, 0, [])), (122, (13, 0, 546, 0, [])), (125, (0, 1, 0, 0, [])), (126, (51, 0, 0, 0, [])), (127, (33, 1, 1, 0, [])), (128, (33, 0, 1, 0, [])), (129, (1, 3, 1, 0, [])), (130, (0, 1, 0, 1, [])), (131, (4, 0, 0, 0, [])), (132, (22, 0, 0, 0, [])), (133, (33, 0, 1, 0, [])), (134, (1, 3, 1, 0, [])), (135, (0, 1, 0, 2, [])), (136, (4, 0, 0, 0, [])), (137, (22, 0, 0, 0, [])), (138, (60, 3, 2, 0, [])), (141, (33, 2, 1, 0, [])), (142, (33, 0, 1, 0, [])), (143, (1, 3, 1, 0, [])), (144, (0, 1, 0, 1, [])), (145, (4, 0, 0, 0, [])), (146, (22, 0, 0, 0, [])), (147, (33, 0, 1, 0, [])), (148, (1, 3, 1, 0, [])), (149, (0, 1, 0, 2, [])), (150, (4, 0, 0, 0, [])), (151, (22, 0, 0, 0, [])), (152, (60, 95, 2, 0, [])), (155, (13, 0, 546, 0, [])), (158, (0, 1, 0, 0, [])), (159, (51, 0, 0, 0, [])), (160, (33, 1, 1, 0, [])), (161, (33, 0, 1, 0, [])), (162, (1, 3, 1, 0, [])), (163, (0, 1, 0, 1, [])), (164, (4, 0, 0, 0, [])), (165, (22, 0, 0, 0, [])), (166, (60, 4, 1, 0, [])), (169, (33, 2, 1, 0, [])), (170, (33, 0, 1, 0, [])), (171, (1, 3, 1, 0, [])), (172, (0, 1, 0, 1, [])), (173, (4, 0, 0, 0, [])), (174, (22, 0, 0, 0, [])), (175, (60, 96, 1, 0, [])), (178, (13, 0, 546, 0, [])), (181, (0, 1, 0, 0, [])), (182, (51, 0, 0, 0, [])), (183, (33, 1, 1, 0, [])), (184, (33, 0, 1, 0, [])), (185, (1, 3, 1, 0, [])), (186, (0, 1, 0, 1, [])), (187, (4, 0, 0, 0, [])), (188, (22, 0, 0, 0, [])), (189, (33, 0, 1, 0, [])), (190, (1, 3, 1, 0, [])), (191, (0, 1, 0, 2, [])), (192, (4, 0, 0, 0, [])), (193, (22, 0, 0, 0, [])), (194, (33, 0, 1, 0, [])), (195, (1, 3, 1, 0, [])), (196, (0, 1, 0, 3, [])), (197, (4, 0, 0, 0, [])), (198, (22, 0, 0, 0, [])), (199, (60, 5, 3, 0, [])), (202, (33, 2, 1, 0, [])), (203, (33, 0, 1, 0, [])), (204, (1, 3, 1, 0, [])), (205, (0, 1, 0, 1, [])), (206, (4, 0, 0, 0, [])), (207, (22, 0, 0, 0, [])), (208, (33, 0, 1, 0, [])), (209, (1, 3, 1, 0, [])), (210, (0, 1, 0, 2, [])), (211, (4, 0, 0, 0, [])), (212, (22, 0, 0, 0, [])), (213, (33, 0, 1, 0, [])), (214, (1, 3, 1, 0, [])), (215, (0, 1, 0, 3, [])), (216, (4, 0, 0, 0, [])), (217, (22, 0, 0, 0, [])), (218, (60, 97, 3, 0, [])), (221, (13, 0, 546, 0, [])), (224, (0, 1, 0, 0, [])), (225, (51, 0, 0, 0, [])), (226, (33, 1, 1, 0, [])), (227, (33, 0, 1, 0, [])), (228, (1, 3, 1, 0, [])), (229, (0, 1, 0, 1, [])), (230, (4, 0, 0, 0, [])), (231, (22, 0, 0, 0, [])), (232, (60, 6, 1, 0, [])), (235, (33, 2, 1, 0, [])), (236, (33, 0, 1, 0, [])), (237, (1, 3, 1, 0, [])), (238, (0, 1, 0, 1, [])), (239, (4, 0, 0, 0, [])), (240, (22, 0, 0, 0, [])), (241, (60, 98, 1, 0, [])), (244, (13, 0, 546, 0, [])), (247, (0, 1, 0, 0, [])), (248, (51, 0, 0, 0, [])), (249, (33, 1, 1, 0, [])), (250, (33, 0, 1, 0, [])), (251, (1, 3, 1, 0, [])), (252, (0, 1, 0, 1, [])), (253, (4, 0, 0, 0, [])), (254, (22, 0, 0, 0, [])), (255, (60, 7, 1, 0, [])), (258, (33, 2, 1, 0, [])), (259, (33, 0, 1, 0, [])), (260, (1, 3, 1, 0, [])), (261, (0, 1, 0, 1, [])), (262, (4, 0, 0, 0, [])), (263, (22, 0, 0, 0, [])), (264, (60, 99, 1, 0, [])), (267, (13, 0, 546, 0, [])), (270, (0, 1, 0, 0, [])), (271, (51, 0, 0, 0, [])), (272, (33, 1, 1, 0, [])), (273, (33, 0, 1, 0, [])), (274, (1, 3, 1, 0, [])), (275, (0, 1, 0, 1, [])), (276, (4, 0, 0, 0, [])), (277, (22, 0, 0, 0, [])), (278, (60, 8, 1, 0, [])), (281, (33, 2, 1, 0, [])), (282, (33, 0, 1, 0, [])), (283, (1, 3, 1, 0, [])), (284, (0, 1, 0, 1, [])), (285, (4, 0, 0, 0, [])), (286, (22, 0, 0, 0, [])), (287, (60, 100, 1, 0, [])), (290, (13, 0, 546, 0, [])), (293, (0, 1, 0, 0, [])), (294, (51, 0, 0, 0, [])), (295, (33, 1, 1, 0, [])), (296, (33, 0, 1, 0, [])), (297, (1, 3, 1, 0, [])), (298, (0, 1, 0, 1, [])), (299, (4, 0, 0, 0, [])), (300, (22, 0, 0, 0, [])), (301, (33, 0, 1, 0, [])), (302, (1, 3, 1, 0, [])), (303, (0, 1, 0, 2, [])), (304, (4, 0, 0, 0, [])), (305, (22, 0, 0, 0, [])), (306, (60, 9, 2, 0, [])), (309, (33, 2, 1, 0, [])), (310, (33, 0, 1, 0, [])), (311, (1, 3, 1, 0, [])), (312, (0, 1, 0, 1, [])), (313, (4, 0, 0, 0, [])), (314, (22, 0, 0, 0, [])), (315, (33, 0, 1, 0, [])), (316, (1, 3, 1, 0, [])), (317, (0, 1, 0, 2, [])), (318, (4, 0, 0, 0, [])), (319, (22, 0, 0, 0, [])), (320, (60, 101, 2, 0, [])), (323, (13, 0, 546, 0, [])), (326, (0, 1, 0, 0, [])), (327, (51, 0, 0, 0, [])), (328, (33, 1, 1, 0, [])), (329, (33, 0, 1, 0, [])), (330, (1, 3, 1, 0, [])), (331, (0, 1, 0, 1, [])), (332, (4, 0, 0, 0, [])), (333, (22, 0, 0, 0, [])), (334, (33, 0, 1, 0, [])), (335, (1, 3, 1, 0, [])), (336, (0, 1, 0, 2, [])), (337, (4, 0, 0, 0, [])), (338, (22, 0, 0, 0, [])), (339, (60, 10, 2, 0, [])), (342, (33, 2, 1, 0, [])), (343, (33, 0, 1, 0, [])), (344, (1, 3, 1, 0, [])), (345, (0, 1, 0, 1, [])), (346, (4, 0, 0, 0, [])), (347, (22, 0, 0, 0, [])), (348, (33, 0, 1, 0, [])), (349, (1, 3, 1, 0, [])), (350, (0, 1, 0, 2, [])), (351, (4, 0, 0, 0, [])), (352, (22, 0, 0, 0, [])), (353, (60, 103, 2, 0, [])), (356, (13, 0, 546, 0, [])), (359, (0, 1, 0, 0, [])), (360, (51, 0, 0, 0, [])), (361, (33, 1, 1, 0, [])), (362, (33, 0, 1, 0, [])), (363, (1, 3, 1, 0, [])), (364, (0, 1, 0, 1, [])), (365, (4, 0, 0, 0, [])), (366, (22, 0, 0, 0, [])), (367, (33, 0, 1, 0, [])), (368, (1, 3, 1, 0, [])), (369, (0, 1, 0, 2, [])), (370, (4, 0, 0, 0, [])), (371, (22, 0, 0, 0, [])), (372, (60, 11, 2, 0, [])), (375, (33, 2, 1, 0, [])), (376, (33, 0, 1, 0, [])), (377, (1, 3, 1, 0, [])), (378, (0, 1, 0, 1, [])), (379, (4, 0, 0, 0, [])), (380, (22, 0, 0, 0, [])), (381, (33, 0, 1, 0, [])), (382, (1, 3, 1, 0, [])), (383, (0, 1, 0, 2, [])), (384, (4, 0, 0, 0, [])), (385, (22, 0, 0, 0, [])), (386, (60, 105, 2, 0, [])), (389, (13, 0, 546, 0, [])), (392, (0, 1, 0, 0, [])), (393, (51, 0, 0, 0, [])), (394, (33, 1, 1, 0, [])), (395, (33, 0, 1, 0, [])), (396, (1, 3, 1, 0, [])), (397, (0, 1, 0, 1, [])), (398, (4, 0, 0, 0, [])), (399, (22, 0, 0, 0, [])), (400, (33, 0, 1, 0, [])), (401, (1, 3, 1, 0, [])), (402, (0, 1, 0, 2, [])), (403, (4, 0, 0, 0, [])), (404, (22, 0, 0, 0, [])), (405, (60, 12, 2, 0, [])), (408, (33, 2, 1, 0, [])), (409, (33, 0, 1, 0, [])), (410, (1, 3, 1, 0, [])), (411, (0, 1, 0, 1, [])), (412, (4, 0, 0, 0, [])), (413, (22, 0, 0, 0, [])), (414, (33, 0, 1, 0, [])), (415, (1, 3, 1, 0, [])), (416, (0, 1, 0, 2, [])), (417, (4, 0, 0, 0, [])), (418, (22, 0, 0, 0, [])), (419, (60, 106, 2, 0, [])), (422, (13, 0, 546, 0, [])), (425, (0, 1, 0, 0, [])), (426, (51, 0, 0, 0, [])), (427, (33, 1, 1, 0, [])), (428, (33, 0, 1, 0, [])), (429, (1, 3, 1, 0, [])), (430, (0, 1, 0, 1, [])), (431, (4, 0, 0, 0, [])), (432, (22, 0, 0, 0, [])), (433, (33, 0, 1, 0, [])), (434, (1, 3, 1, 0, [])), (435, (0, 1, 0, 2, [])), (436, (4, 0, 0, 0, [])), (437, (22, 0, 0, 0, [])), (438, (60, 13, 2, 0, [])), (441, (33, 2, 1, 0, [])), (442, (33, 0, 1, 0, [])), (443, (1, 3, 1, 0, [])), (444, (0, 1, 0, 1, [])), (445, (4, 0, 0, 0, [])), (446, (22, 0, 0, 0, [])), (447, (33, 0, 1, 0, [])), (448, (1, 3, 1, 0, [])), (449, (0, 1, 0, 2, [])), (450, (4, 0, 0, 0, [])), (451, (22, 0, 0, 0, [])), (452, (60, 107, 2, 0, [])), (455, (13, 0, 546, 0, [])), (458, (0, 1, 0, 0, [])), (459, (51, 0, 0, 0, [])), (460, (33, 1, 1, 0, [])), (461, (33, 0, 1, 0, [])), (462, (1, 3, 1, 0, [])), (463, (0, 1, 0, 1, [])), (464, (4, 0, 0, 0, [])), (465, (22, 0, 0, 0, [])), (466, (33, 0, 1, 0, [])), (467, (1, 3, 1, 0, [])), (468, (0, 1, 0, 2, [])), (469, (4, 0, 0, 0, [])), (470, (22, 0, 0, 0, [])), (471, (33, 0, 1, 0, [])), (472, (1, 3, 1, 0, [])), (473, (0, 1, 0, 3, [])), (474, (4, 0, 0, 0, [])), (475, (22, 0, 0, 0, [])), (476, (60, 14, 3, 0, [])), (479, (33, 2, 1, 0, [])), (480, (33, 0, 1, 0, [])), (481, (1, 3, 1, 0, [])), (482, (0, 1, 0, 1, [])), (483, (4, 0, 0, 0, [])), (484, (22, 0, 0, 0, [])), (485, (33, 0, 1, 0, [])), (486, (1, 3, 1, 0, [])), (487, (0, 1, 0, 2, [])), (488, (4, 0, 0, 0, [])), (489, (22, 0, 0, 0, [])), (490, (33, 0, 1, 0, [])), (491, (1, 3, 1, 0, [])), (492, (0, 1, 0, 3, [])), (493, (4, 0, 0, 0, [])), (494, (22, 0, 0, 0, [])), (495, (60, 108, 3, 0, [])), (498, (13, 0, 546, 0, [])), (501, (0, 1, 0, 0, [])), (502, (51, 0, 0, 0, [])), (503, (33, 1, 1, 0, [])), (504, (33, 0, 1, 0, [])), (505, (1, 3, 1, 0, [])), (506, (0, 1, 0, 1, [])), (507, (4, 0, 0, 0, [])), (508, (22, 0, 0, 0, [])), (509, (33, 0, 1, 0, [])), (510, (1, 3, 1, 0, [])), (511, (0, 1, 0, 2, [])), (512, (4, 0, 0, 0, [])), (513, (22, 0, 0, 0, [])), (514, (33, 0, 1, 0, [])), (515, (1, 3, 1, 0, [])), (516, (0, 1, 0, 3, [])), (517, (4, 0, 0, 0, [])), (518, (22, 0, 0, 0, [])), (519, (60, 15, 3, 0, [])), (522, (33, 2, 1, 0, [])), (523, (33, 0, 1, 0, [])), (524, (1, 3, 1, 0, [])), (525, (0, 1, 0, 1, [])), (526, (4, 0, 0, 0, [])), (527, (22, 0, 0, 0, [])), (528, (33, 0, 1, 0, [])), (529, (1, 3, 1, 0, [])), (530, (0, 1, 0, 2, [])), (531, (4, 0, 0, 0, [])), (532, (22, 0, 0, 0, [])), (533, (33, 0, 1, 0, [])), (534, (1, 3, 1, 0, [])), (535, (0, 1, 0, 3, [])), (536, (4, 0, 0, 0, [])), (537, (22, 0, 0, 0, [])), (538, (60, 109, 3, 0, [])), (541, (13, 0, 546, 0, [])), (544, (0, 1, 0, 0, [])), (545, (51, 0, 0, 0, [])), (546, (3, 3, 3, 4, [])), (549, (14, 18, 0, 0, [])), (552, (0, 1, 0, 1, [])), (553, (51, 0, 0, 0, []))]
/-- 1: CausalPlaces.<init>()V -/
def am_t1 : List (Nat × aI) := [(0, (33, 0, 1, 0, [])), (1, (35, 0, 0, 0, [])), (4, (33, 0, 1, 0, [])), (5, (0, 2, 0, 6, [])), (7, (31, 1, 0, 0, [])), (10, (21, 0, 0, 0, [])), (13, (0, 1, 0, 0, [])), (14, (2, 1, 1, 0, [])), (15, (1, 1, 1, 0, [])), (16, (33, 0, 1, 0, [])), (17, (18, 0, 0, 0, [])), (20, (28, 0, 0, 0, [])), (21, (13, 3, 46, 0, [])), (24, (33, 0, 1, 0, [])), (25, (18, 0, 0, 0, [])), (28, (1, 1, 1, 0, [])), (29, (29, 1, 0, 0, [])), (32, (7, 0, 0, 0, [])), (33, (1, 1, 1, 0, [])), (34, (0, 1, 0, 3, [])), (35, (6, 0, 0, 0, [])), (36, (62, 33, 1, 0, [])), (39, (27, 0, 0, 0, [])), (40, (3, 1, 3, 1, [])), (43, (14, 15, 0, 0, [])), (46, (33, 0, 1, 0, [])), (47, (0, 2, 0, 6, [])), (49, (31, 4, 0, 0, [])), (52, (21, 0, 1, 0, [])), (55, (0, 1, 0, 0, [])), (56, (2, 1, 1, 0, [])), (57, (1, 1, 1, 0, [])), (58, (33, 0, 1, 0, [])), (59, (18, 0, 1, 0, [])), (62, (28, 0, 0, 0, [])), (63, (13, 3, 86, 0, [])), (66, (33, 0, 1, 0, [])), (67, (18, 0, 1, 0, [])), (70, (1, 1, 1, 0, [])), (71, (29, 4, 0, 0, [])), (74, (7, 0, 0, 0, [])), (75, (1, 1, 1, 0, [])), (76, (62, 43, 1, 0, [])), (79, (27, 0, 0, 0, [])), (80, (3, 1, 3, 1, [])), (83, (14, 57, 0, 0, [])), (86, (33, 0, 1, 0, [])), (87, (0, 2, 0, 36, [])), (89, (31, 2, 0, 0, [])), (92, (21, 0, 2, 0, [])), (95, (0, 1, 0, 0, [])), (96, (2, 1, 1, 0, [])), (97, (1, 1, 1, 0, [])), (98, (33, 0, 1, 0, [])), (99, (18, 0, 2, 0, [])), (102, (28, 0, 0, 0, [])), (103, (13, 3, 139, 0, [])), (106, (1, 1, 1, 0, [])), (107, (0, 2, 0, 6, [])), (109, (5, 0, 0, 0, [])), (110, (1, 1, 1, 0, [])), (111, (0, 2, 0, 6, [])), (113, (6, 0, 0, 0, [])), (114, (61, 24, 2, 0, [])), (117, (12, 0, 133, 0, [])), (120, (33, 0, 1, 0, [])), (121, (18, 0, 2, 0, [])), (124, (1, 1, 1, 0, [])), (125, (29, 2, 0, 0, [])), (128, (7, 0, 0, 0, [])), (129, (62, 39, 0, 0, [])), (132, (27, 0, 0, 0, [])), (133, (3, 1, 3, 1, [])), (136, (14, 97, 0, 0, [])), (139, (33, 0, 1, 0, [])), (140, (0, 3, 0, 200, [])), (143, (31, 5, 0, 0, [])), (146, (21, 0, 3, 0, [])), (149, (33, 0, 1, 0, [])), (150, (0, 1, 0, 0, [])), (151, (19, 0, 4, 0, [])), (154, (53, 0, 0, 0, []))]
/-- 2: CausalPlaces.start(I)I -/
def am_t2 : List (Nat × aI) := [(0, (33, 0, 1, 0, [])), (1, (1, 1, 1, 0, [])), (2, (60, 16, 1, 0, [])), (5, (34, 2, 1, 0, [])), (6, (33, 2, 1, 0, [])), (7, (16, 12, 0, 0, [])), (10, (0, 1, 0, (-1), [])), (11, (50, 0, 0, 0, [])), (12, (33, 2, 1, 0, [])), (13, (18, 1, 4, 0, [])), (16, (12, 0, 21, 0, [])), (19, (0, 1, 0, 0, [])), (20, (50, 0, 0, 0, [])), (21, (33, 0, 1, 0, [])), (22, (33, 2, 1, 0, [])), (23, (18, 1, 0, 0, [])), (26, (61, 23, 1, 0, [])), (29, (60, 18, 1, 0, [])), (32, (34, 3, 1, 0, [])), (33, (33, 3, 1, 0, [])), (34, (15, 42, 0, 0, [])), (37, (33, 2, 1, 0, [])), (38, (33, 3, 1, 0, [])), (39, (60, 34, 1, 0, [])), (42, (33, 2, 1, 0, [])), (43, (60, 35, 0, 0, [])), (46, (33, 2, 1, 0, [])), (47, (0, 1, 0, 1, [])), (48, (19, 1, 4, 0, [])), (51, (0, 1, 0, 1, [])), (52, (50, 0, 0, 0, []))]
/-- 3: CausalPlaces.read(II)I -/
def am_t3 : List (Nat × aI) := [(0, (33, 0, 1, 0, [])), (1, (1, 1, 1, 0, [])), (2, (60, 17, 1, 0, [])), (5, (34, 3, 1, 0, [])), (6, (33, 3, 1, 0, [])), (7, (15, 17, 0, 0, [])), (10, (1, 2, 1, 0, [])), (11, (61, 22, 1, 0, [])), (14, (12, 1, 19, 0, [])), (17, (0, 1, 0, (-1), [])), (18, (50, 0, 0, 0, [])), (19, (33, 3, 1, 0, [])), (20, (18, 1, 3, 0, [])), (23, (1, 2, 1, 0, [])), (24, (60, 67, 1, 0, [])), (27, (12, 0, 45, 0, [])), (30, (33, 3, 1, 0, [])), (31, (33, 3, 1, 0, [])), (32, (18, 1, 3, 0, [])), (35, (1, 2, 1, 0, [])), (36, (60, 68, 1, 0, [])), (39, (19, 1, 6, 0, [])), (42, (0, 2, 0, (-2), [])), (44, (50, 0, 0, 0, [])), (45, (33, 0, 1, 0, [])), (46, (33, 3, 1, 0, [])), (47, (1, 2, 1, 0, [])), (48, (60, 26, 2, 0, [])), (51, (34, 4, 2, 0, [])), (53, (33, 4, 2, 0, [])), (55, (16, 66, 0, 0, [])), (58, (33, 3, 1, 0, [])), (59, (0, 1, 0, 0, [])), (60, (19, 1, 6, 0, [])), (63, (0, 2, 0, (-3), [])), (65, (50, 0, 0, 0, [])), (66, (33, 3, 1, 0, [])), (67, (33, 4, 2, 0, [])), (69, (18, 5, 5, 0, [])), (72, (1, 2, 1, 0, [])), (73, (60, 68, 1, 0, [])), (76, (19, 1, 6, 0, [])), (79, (33, 4, 2, 0, [])), (81, (18, 5, 0, 0, [])), (84, (50, 0, 0, 0, []))]
/-- 4: CausalPlaces.value(I)I -/
def am_t4 : List (Nat × aI) := [(0, (33, 0, 1, 0, [])), (1, (1, 1, 1, 0, [])), (2, (60, 16, 1, 0, [])), (5, (34, 2, 1, 0, [])), (6, (33, 2, 1, 0, [])), (7, (16, 14, 0, 0, [])), (10, (0, 1, 0, 0, [])), (11, (14, 18, 0, 0, [])), (14, (33, 2, 1, 0, [])), (15, (18, 1, 6, 0, [])), (18, (50, 0, 0, 0, []))]
/-- 5: CausalPlaces.write(III)Z -/
def am_t5 : List (Nat × aI) := [(0, (33, 0, 1, 0, [])), (1, (1, 1, 1, 0, [])), (2, (60, 17, 1, 0, [])), (5, (34, 4, 2, 0, [])), (7, (33, 4, 2, 0, [])), (9, (15, 19, 0, 0, [])), (12, (1, 2, 1, 0, [])), (13, (61, 22, 1, 0, [])), (16, (12, 1, 21, 0, [])), (19, (0, 1, 0, 0, [])), (20, (51, 0, 0, 0, [])), (21, (33, 4, 2, 0, [])), (23, (18, 1, 3, 0, [])), (26, (1, 2, 1, 0, [])), (27, (1, 3, 1, 0, [])), (28, (60, 65, 2, 0, [])), (31, (0, 1, 0, 1, [])), (32, (51, 0, 0, 0, []))]
/-- 6: CausalPlaces.commit(I)I -/
def am_t6 : List (Nat × aI) := [(0, (33, 0, 1, 0, [])), (1, (1, 1, 1, 0, [])), (2, (60, 17, 1, 0, [])), (5, (34, 2, 1, 0, [])), (6, (33, 2, 1, 0, [])), (7, (16, 12, 0, 0, [])), (10, (0, 1, 0, (-1), [])), (11, (50, 0, 0, 0, [])), (12, (33, 2, 1, 0, [])), (13, (18, 1, 3, 0, [])), (16, (60, 69, 0, 0, [])), (19, (12, 1, 30, 0, [])), (22, (33, 2, 1, 0, [])), (23, (0, 1, 0, 0, [])), (24, (19, 1, 4, 0, [])), (27, (0, 2, 0, (-2), [])), (29, (50, 0, 0, 0, [])), (30, (33, 0, 1, 0, [])), (31, (18, 0, 4, 0, [])), (34, (33, 0, 1, 0, [])), (35, (18, 0, 3, 0, [])), (38, (28, 0, 0, 0, [])), (39, (13, 2, 45, 0, [])), (42, (0, 2, 0, (-3), [])), (44, (50, 0, 0, 0, [])), (45, (29, 5, 0, 0, [])), (48, (7, 0, 0, 0, [])), (49, (33, 0, 1, 0, [])), (50, (18, 0, 4, 0, [])), (53, (33, 2, 1, 0, [])), (54, (62, 58, 2, 0, [])), (57, (34, 3, 1, 0, [])), (58, (33, 0, 1, 0, [])), (59, (18, 0, 3, 0, [])), (62, (33, 0, 1, 0, [])), (63, (18, 0, 4, 0, [])), (66, (33, 3, 1, 0, [])), (67, (27, 0, 0, 0, [])), (68, (33, 0, 1, 0, [])), (69, (7, 0, 0, 0, [])), (70, (18, 0, 4, 0, [])), (73, (0, 1, 0, 1, [])), (74, (4, 0, 0, 0, [])), (75, (19, 0, 4, 0, [])), (78, (33, 2, 1, 0, [])), (79, (0, 1, 0, 2, [])), (80, (19, 1, 4, 0, [])), (83, (33, 2, 1, 0, [])), (84, (18, 1, 3, 0, [])), (87, (60, 64, 0, 0, [])), (90, (33, 0, 1, 0, [])), (91, (33, 3, 1, 0, [])), (92, (60, 27, 1, 0, [])), (95, (2, 4, 2, 0, [])), (97, (1, 4, 2, 0, [])), (99, (12, 1, 107, 0, [])), (102, (33, 0, 1, 0, [])), (103, (33, 3, 1, 0, [])), (104, (60, 28, 1, 0, [])), (107, (33, 3, 1, 0, [])), (108, (18, 5, 0, 0, [])), (111, (50, 0, 0, 0, []))]
/-- 7: CausalPlaces.abort(I)Z -/
def am_t7 : List (Nat × aI) := [(0, (33, 0, 1, 0, [])), (1, (1, 1, 1, 0, [])), (2, (60, 17, 1, 0, [])), (5, (34, 2, 1, 0, [])), (6, (33, 2, 1, 0, [])), (7, (16, 12, 0, 0, [])), (10, (0, 1, 0, 0, [])), (11, (51, 0, 0, 0, [])), (12, (33, 2, 1, 0, [])), (13, (18, 1, 3, 0, [])), (16, (60, 64, 0, 0, [])), (19, (33, 2, 1, 0, [])), (20, (0, 1, 0, 0, [])), (21, (19, 1, 4, 0, [])), (24, (0, 1, 0, 1, [])), (25, (51, 0, 0, 0, []))]
/-- 8: CausalPlaces.tick(I)I -/
def am_t8 : List (Nat × aI) := [(0, (33, 0, 1, 0, [])), (1, (1, 1, 1, 0, [])), (2, (60, 18, 1, 0, [])), (5, (34, 2, 1, 0, [])), (6, (33, 2, 1, 0, [])), (7, (16, 12, 0, 0, [])), (10, (0, 1, 0, (-1), [])), (11, (50, 0, 0, 0, [])), (12, (33, 2, 1, 0, [])), (13, (7, 0, 0, 0, [])), (14, (18, 4, 8, 0, [])), (17, (0, 1, 0, 1, [])), (18, (4, 0, 0, 0, [])), (19, (19, 4, 8, 0, [])), (22, (33, 2, 1, 0, [])), (23, (60, 53, 0, 0, [])), (26, (2, 3, 1, 0, [])), (27, (33, 2, 1, 0, [])), (28, (33, 2, 1, 0, [])), (29, (18, 4, 1, 0, [])), (32, (1, 3, 1, 0, [])), (33, (60, 47, 2, 0, [])), (36, (33, 0, 1, 0, [])), (37, (33, 2, 1, 0, [])), (38, (0, 1, 0, 5, [])), (39, (1, 3, 1, 0, [])), (40, (60, 31, 3, 0, [])), (43, (33, 0, 1, 0, [])), (44, (33, 2, 1, 0, [])), (45, (18, 4, 0, 0, [])), (48, (33, 2, 1, 0, [])), (49, (60, 45, 0, 0, [])), (52, (29, 3, 0, 0, [])), (55, (7, 0, 0, 0, [])), (56, (0, 2, 0, 6, [])), (58, (0, 1, 0, (-1), [])), (59, (0, 1, 0, 0, [])), (60, (33, 2, 1, 0, [])), (61, (18, 4, 2, 0, [])), (64, (38, 0, 0, 0, [])), (67, (39, 0, 0, 0, [])), (70, (62, 42, 4, 0, [])), (73, (60, 32, 3, 0, [])), (76, (33, 2, 1, 0, [])), (77, (18, 4, 8, 0, [])), (80, (50, 0, 0, 0, []))]
/-- 9: CausalPlaces.deliver(II)I -/
def am_t9 : List (Nat × aI) := [(0, (33, 0, 1, 0, [])), (1, (1, 1, 1, 0, [])), (2, (1, 2, 1, 0, [])), (3, (60, 20, 2, 0, [])), (6, (34, 3, 1, 0, [])), (7, (33, 0, 1, 0, [])), (8, (1, 1, 1, 0, [])), (9, (60, 18, 1, 0, [])), (12, (34, 4, 2, 0, [])), (14, (33, 0, 1, 0, [])), (15, (1, 2, 1, 0, [])), (16, (60, 18, 1, 0, [])), (19, (34, 5, 2, 0, [])), (21, (33, 3, 1, 0, [])), (22, (15, 35, 0, 0, [])), (25, (33, 4, 2, 0, [])), (27, (15, 35, 0, 0, [])), (30, (33, 5, 2, 0, [])), (32, (16, 37, 0, 0, [])), (35, (0, 1, 0, (-1), [])), (36, (50, 0, 0, 0, [])), (37, (33, 3, 1, 0, [])), (38, (60, 41, 0, 0, [])), (41, (34, 6, 2, 0, [])), (43, (33, 6, 2, 0, [])), (45, (16, 50, 0, 0, [])), (48, (0, 1, 0, 0, [])), (49, (50, 0, 0, 0, [])), (50, (33, 0, 1, 0, [])), (51, (33, 6, 2, 0, [])), (53, (33, 4, 2, 0, [])), (55, (33, 5, 2, 0, [])), (57, (60, 30, 3, 0, [])), (60, (33, 6, 2, 0, [])), (62, (18, 3, 0, 0, [])), (65, (50, 0, 0, 0, []))]
/-- 10: CausalPlaces.client(II)I -/
def am_t10 : List (Nat × aI) := [(0, (33, 0, 1, 0, [])), (1, (1, 1, 1, 0, [])), (2, (60, 16, 1, 0, [])), (5, (34, 3, 1, 0, [])), (6, (33, 3, 1, 0, [])), (7, (16, 12, 0, 0, [])), (10, (0, 1, 0, (-1), [])), (11, (50, 0, 0, 0, [])), (12, (1, 2, 1, 0, [])), (13, (32, 67, 0, 0, [(0, 44), (1, 49), (2, 54), (3, 59)])), (44, (33, 3, 1, 0, [])), (45, (18, 1, 4, 0, [])), (48, (50, 0, 0, 0, [])), (49, (33, 3, 1, 0, [])), (50, (18, 1, 5, 0, [])), (53, (50, 0, 0, 0, [])), (54, (33, 3, 1, 0, [])), (55, (60, 38, 0, 0, [])), (58, (50, 0, 0, 0, [])), (59, (33, 3, 1, 0, [])), (60, (18, 1, 3, 0, [])), (63, (60, 69, 0, 0, [])), (66, (50, 0, 0, 0, [])), (67, (33, 3, 1, 0, [])), (68, (18, 1, 1, 0, [])), (71, (1, 2, 1, 0, [])), (72, (0, 2, 0, 10, [])), (74, (4, 1, 0, 0, [])), (75, (61, 25, 2, 0, [])), (78, (50, 0, 0, 0, []))]
/-- 11: CausalPlaces.server(II)I -/
def am_t11 : List (Nat × aI) := [(0, (33, 0, 1, 0, [])), (1, (1, 1, 1, 0, [])), (2, (60, 18, 1, 0, [])), (5, (34, 3, 1, 0, [])), (6, (33, 3, 1, 0, [])), (7, (16, 12, 0, 0, [])), (10, (0, 1, 0, (-1), [])), (11, (50, 0, 0, 0, [])), (12, (1, 2, 1, 0, [])), (13, (0, 2, 0, 30, [])), (15, (4, 1, 0, 0, [])), (16, (61, 21, 1, 0, [])), (19, (12, 0, 31, 0, [])), (22, (33, 3, 1, 0, [])), (23, (1, 2, 1, 0, [])), (24, (0, 2, 0, 30, [])), (26, (4, 1, 0, 0, [])), (27, (60, 46, 1, 0, [])), (30, (50, 0, 0, 0, [])), (31, (1, 2, 1, 0, [])), (32, (0, 2, 0, 20, [])), (34, (4, 1, 0, 0, [])), (35, (61, 21, 1, 0, [])), (38, (12, 0, 53, 0, [])), (41, (33, 3, 1, 0, [])), (42, (18, 4, 3, 0, [])), (45, (1, 2, 1, 0, [])), (46, (0, 2, 0, 20, [])), (48, (4, 1, 0, 0, [])), (49, (61, 25, 2, 0, [])), (52, (50, 0, 0, 0, [])), (53, (1, 2, 1, 0, [])), (54, (32, 106, 0, 0, [(0, 84), (1, 89), (2, 95), (3, 101)])), (84, (33, 3, 1, 0, [])), (85, (18, 4, 8, 0, [])), (88, (50, 0, 0, 0, [])), (89, (33, 3, 1, 0, [])), (90, (0, 1, 0, 1, [])), (91, (60, 51, 1, 0, [])), (94, (50, 0, 0, 0, [])), (95, (33, 3, 1, 0, [])), (96, (0, 1, 0, 2, [])), (97, (60, 51, 1, 0, [])), (100, (50, 0, 0, 0, [])), (101, (33, 3, 1, 0, [])), (102, (18, 4, 7, 0, [])), (105, (50, 0, 0, 0, [])), (106, (33, 3, 1, 0, [])), (107, (18, 4, 2, 0, [])), (110, (1, 2, 1, 0, [])), (111, (0, 2, 0, 10, [])), (113, (4, 1, 0, 0, [])), (114, (61, 25, 2, 0, [])), (117, (50, 0, 0, 0, []))]
/-- 12: CausalPlaces.transaction(II)I -/
def am_t12 : List (Nat × aI) := [(0, (33, 0, 1, 0, [])), (1, (1, 1, 1, 0, [])), (2, (60, 19, 1, 0, [])), (5, (34, 3, 1, 0, [])), (6, (33, 3, 1, 0, [])), (7, (16, 12, 0, 0, [])), (10, (0, 1, 0, (-1), [])), (11, (50, 0, 0, 0, [])), (12, (1, 2, 1, 0, [])), (13, (0, 2, 0, 10, [])), (15, (4, 1, 0, 0, [])), (16, (61, 21, 1, 0, [])), (19, (12, 0, 31, 0, [])), (22, (33, 3, 1, 0, [])), (23, (1, 2, 1, 0, [])), (24, (0, 2, 0, 10, [])), (26, (4, 1, 0, 0, [])), (27, (60, 60, 1, 0, [])), (30, (50, 0, 0, 0, [])), (31, (1, 2, 1, 0, [])), (32, (0, 2, 0, 20, [])), (34, (4, 1, 0, 0, [])), (35, (61, 22, 1, 0, [])), (38, (12, 0, 61, 0, [])), (41, (33, 3, 1, 0, [])), (42, (18, 5, 5, 0, [])), (45, (1, 2, 1, 0, [])), (46, (0, 2, 0, 20, [])), (48, (4, 1, 0, 0, [])), (49, (60, 67, 1, 0, [])), (52, (12, 0, 59, 0, [])), (55, (0, 1, 0, 1, [])), (56, (14, 60, 0, 0, [])), (59, (0, 1, 0, 0, [])), (60, (50, 0, 0, 0, [])), (61, (1, 2, 1, 0, [])), (62, (32, 134, 0, 0, [(0, 92), (1, 97), (2, 113), (3, 126)])), (92, (33, 3, 1, 0, [])), (93, (18, 5, 1, 0, [])), (96, (50, 0, 0, 0, [])), (97, (33, 3, 1, 0, [])), (98, (18, 5, 7, 0, [])), (101, (12, 0, 111, 0, [])), (104, (33, 3, 1, 0, [])), (105, (18, 5, 6, 0, [])), (108, (14, 112, 0, 0, [])), (111, (0, 1, 0, (-1), [])), (112, (50, 0, 0, 0, [])), (113, (33, 3, 1, 0, [])), (114, (18, 5, 7, 0, [])), (117, (12, 0, 124, 0, [])), (120, (0, 1, 0, 1, [])), (121, (14, 125, 0, 0, [])), (124, (0, 1, 0, 0, [])), (125, (50, 0, 0, 0, [])), (126, (33, 3, 1, 0, [])), (127, (18, 5, 5, 0, [])), (130, (60, 69, 0, 0, [])), (133, (50, 0, 0, 0, [])), (134, (0, 1, 0, (-1), [])), (135, (50, 0, 0, 0, []))]
/-- 13: CausalPlaces.written(II)I -/
def am_t13 : List (Nat × aI) := [(0, (33, 0, 1, 0, [])), (1, (1, 1, 1, 0, [])), (2, (60, 19, 1, 0, [])), (5, (34, 3, 1, 0, [])), (6, (33, 3, 1, 0, [])), (7, (16, 14, 0, 0, [])), (10, (0, 1, 0, 0, [])), (11, (14, 22, 0, 0, [])), (14, (33, 3, 1, 0, [])), (15, (18, 5, 5, 0, [])), (18, (1, 2, 1, 0, [])), (19, (60, 68, 1, 0, [])), (22, (50, 0, 0, 0, []))]
/-- 14: CausalPlaces.version(III)I -/
def am_t14 : List (Nat × aI) := [(0, (33, 0, 1, 0, [])), (1, (1, 1, 1, 0, [])), (2, (60, 18, 1, 0, [])), (5, (34, 4, 2, 0, [])), (7, (33, 4, 2, 0, [])), (9, (15, 21, 0, 0, [])), (12, (33, 4, 2, 0, [])), (14, (1, 2, 1, 0, [])), (15, (60, 44, 1, 0, [])), (18, (12, 1, 23, 0, [])), (21, (0, 1, 0, (-1), [])), (22, (50, 0, 0, 0, [])), (23, (33, 4, 2, 0, [])), (25, (1, 2, 1, 0, [])), (26, (1, 3, 1, 0, [])), (27, (60, 57, 2, 0, [])), (30, (34, 5, 2, 0, [])), (32, (33, 5, 2, 0, [])), (34, (16, 41, 0, 0, [])), (37, (0, 1, 0, (-1), [])), (38, (14, 46, 0, 0, [])), (41, (33, 5, 2, 0, [])), (43, (18, 5, 0, 0, [])), (46, (50, 0, 0, 0, []))]
/-- 15: CausalPlaces.link(III)I -/
def am_t15 : List (Nat × aI) := [(0, (33, 0, 1, 0, [])), (1, (1, 1, 1, 0, [])), (2, (1, 2, 1, 0, [])), (3, (60, 20, 2, 0, [])), (6, (34, 4, 2, 0, [])), (8, (33, 4, 2, 0, [])), (10, (16, 15, 0, 0, [])), (13, (0, 1, 0, (-1), [])), (14, (50, 0, 0, 0, [])), (15, (1, 3, 1, 0, [])), (16, (32, 92, 0, 0, [(0, 44), (1, 50), (2, 71)])), (44, (33, 4, 2, 0, [])), (46, (18, 2, 2, 0, [])), (49, (50, 0, 0, 0, [])), (50, (33, 4, 2, 0, [])), (52, (18, 2, 0, 0, [])), (55, (16, 62, 0, 0, [])), (58, (0, 1, 0, 0, [])), (59, (14, 70, 0, 0, [])), (62, (33, 4, 2, 0, [])), (64, (18, 2, 0, 0, [])), (67, (18, 3, 0, 0, [])), (70, (50, 0, 0, 0, [])), (71, (33, 4, 2, 0, [])), (73, (18, 2, 0, 0, [])), (76, (16, 83, 0, 0, [])), (79, (0, 1, 0, (-1), [])), (80, (14, 91, 0, 0, [])), (83, (33, 4, 2, 0, [])), (85, (18, 2, 0, 0, [])), (88, (18, 3, 1, 0, [])), (91, (50, 0, 0, 0, [])), (92, (0, 1, 0, (-1), [])), (93, (50, 0, 0, 0, []))]
/-- 16: CausalPlaces.clientAt(I)LCausalPlaces$Client; -/
def am_t16 : List (Nat × aI) := [(0, (1, 1, 1, 0, [])), (1, (12, 2, 22, 0, [])), (4, (1, 1, 1, 0, [])), (5, (33, 0, 1, 0, [])), (6, (18, 0, 0, 0, [])), (9, (28, 0, 0, 0, [])), (10, (13, 3, 22, 0, [])), (13, (33, 0, 1, 0, [])), (14, (18, 0, 0, 0, [])), (17, (1, 1, 1, 0, [])), (18, (26, 0, 0, 0, [])), (19, (14, 23, 0, 0, [])), (22, (17, 0, 0, 0, [])), (23, (52, 0, 0, 0, []))]
/-- 17: CausalPlaces.openClientAt(I)LCausalPlaces$Client; -/
def am_t17 : List (Nat × aI) := [(0, (33, 0, 1, 0, [])), (1, (1, 1, 1, 0, [])), (2, (60, 16, 1, 0, [])), (5, (34, 2, 1, 0, [])), (6, (33, 2, 1, 0, [])), (7, (15, 22, 0, 0, [])), (10, (33, 2, 1, 0, [])), (11, (18, 1, 4, 0, [])), (14, (0, 1, 0, 1, [])), (15, (13, 1, 22, 0, [])), (18, (33, 2, 1, 0, [])), (19, (14, 23, 0, 0, [])), (22, (17, 0, 0, 0, [])), (23, (52, 0, 0, 0, []))]
/-- 18: CausalPlaces.serverAt(I)LCausalPlaces$Server; -/
def am_t18 : List (Nat × aI) := [(0, (1, 1, 1, 0, [])), (1, (12, 2, 22, 0, [])), (4, (1, 1, 1, 0, [])), (5, (33, 0, 1, 0, [])), (6, (18, 0, 1, 0, [])), (9, (28, 0, 0, 0, [])), (10, (13, 3, 22, 0, [])), (13, (33, 0, 1, 0, [])), (14, (18, 0, 1, 0, [])), (17, (1, 1, 1, 0, [])), (18, (26, 0, 0, 0, [])), (19, (14, 23, 0, 0, [])), (22, (17, 0, 0, 0, [])), (23, (52, 0, 0, 0, []))]
/-- 19: CausalPlaces.transactionAt(I)LCausalPlaces$Transaction; -/
def am_t19 : List (Nat × aI) := [(0, (1, 1, 1, 0, [])), (1, (12, 2, 30, 0, [])), (4, (1, 1, 1, 0, [])), (5, (33, 0, 1, 0, [])), (6, (18, 0, 4, 0, [])), (9, (13, 3, 30, 0, [])), (12, (1, 1, 1, 0, [])), (13, (33, 0, 1, 0, [])), (14, (18, 0, 3, 0, [])), (17, (28, 0, 0, 0, [])), (18, (13, 3, 30, 0, [])), (21, (33, 0, 1, 0, [])), (22, (18, 0, 3, 0, [])), (25, (1, 1, 1, 0, [])), (26, (26, 0, 0, 0, [])), (27, (14, 31, 0, 0, [])), (30, (17, 0, 0, 0, [])), (31, (52, 0, 0, 0, []))]
/-- 20: CausalPlaces.linkAt(II)LCausalPlaces$Link; -/
def am_t20 : List (Nat × aI) := [(0, (1, 1, 1, 0, [])), (1, (12, 2, 20, 0, [])), (4, (1, 1, 1, 0, [])), (5, (0, 2, 0, 6, [])), (7, (13, 3, 20, 0, [])), (10, (1, 2, 1, 0, [])), (11, (12, 2, 20, 0, [])), (14, (1, 2, 1, 0, [])), (15, (0, 2, 0, 6, [])), (17, (13, 2, 22, 0, [])), (20, (17, 0, 0, 0, [])), (21, (52, 0, 0, 0, [])), (22, (1, 1, 1, 0, [])), (23, (0, 2, 0, 6, [])), (25, (4, 2, 0, 0, [])), (26, (1, 2, 1, 0, [])), (27, (4, 0, 0, 0, [])), (28, (2, 3, 1, 0, [])), (29, (1, 3, 1, 0, [])), (30, (33, 0, 1, 0, [])), (31, (18, 0, 2, 0, [])), (34, (28, 0, 0, 0, [])), (35, (13, 3, 47, 0, [])), (38, (33, 0, 1, 0, [])), (39, (18, 0, 2, 0, [])), (42, (1, 3, 1, 0, [])), (43, (26, 0, 0, 0, [])), (44, (14, 48, 0, 0, [])), (47, (17, 0, 0, 0, [])), (48, (52, 0, 0, 0, []))]
/-- 21: CausalPlaces.isPlace(I)Z -/
def am_t21 : List (Nat × aI) := [(0, (1, 0, 1, 0, [])), (1, (12, 2, 13, 0, [])), (4, (1, 0, 1, 0, [])), (5, (0, 1, 0, 3, [])), (6, (13, 3, 13, 0, [])), (9, (0, 1, 0, 1, [])), (10, (14, 14, 0, 0, [])), (13, (0, 1, 0, 0, [])), (14, (51, 0, 0, 0, []))]
/-- 22: CausalPlaces.isKey(I)Z -/
def am_t22 : List (Nat × aI) := [(0, (1, 0, 1, 0, [])), (1, (12, 2, 14, 0, [])), (4, (1, 0, 1, 0, [])), (5, (0, 2, 0, 8, [])), (7, (13, 3, 14, 0, [])), (10, (0, 1, 0, 1, [])), (11, (14, 15, 0, 0, [])), (14, (0, 1, 0, 0, [])), (15, (51, 0, 0, 0, []))]
/-- 23: CausalPlaces.firstServerOf(I)I -/
def am_t23 : List (Nat × aI) := [(0, (1, 0, 1, 0, [])), (1, (0, 1, 0, 2, [])), (2, (4, 2, 0, 0, [])), (3, (50, 0, 0, 0, []))]
/-- 24: CausalPlaces.areLinked(II)Z -/
def am_t24 : List (Nat × aI) := [(0, (1, 0, 1, 0, [])), (1, (0, 1, 0, 2, [])), (2, (5, 0, 0, 0, [])), (3, (1, 1, 1, 0, [])), (4, (0, 1, 0, 2, [])), (5, (5, 0, 0, 0, [])), (6, (13, 1, 13, 0, [])), (9, (0, 1, 0, 1, [])), (10, (14, 14, 0, 0, [])), (13, (0, 1, 0, 0, [])), (14, (2, 2, 1, 0, [])), (15, (1, 0, 1, 0, [])), (16, (0, 1, 0, 2, [])), (17, (6, 0, 0, 0, [])), (18, (1, 1, 1, 0, [])), (19, (0, 1, 0, 2, [])), (20, (6, 0, 0, 0, [])), (21, (13, 1, 28, 0, [])), (24, (0, 1, 0, 1, [])), (25, (14, 29, 0, 0, [])), (28, (0, 1, 0, 0, [])), (29, (2, 3, 1, 0, [])), (30, (1, 2, 1, 0, [])), (31, (1, 3, 1, 0, [])), (32, (13, 0, 39, 0, [])), (35, (0, 1, 0, 1, [])), (36, (14, 40, 0, 0, [])), (39, (0, 1, 0, 0, [])), (40, (51, 0, 0, 0, []))]
/-- 25: CausalPlaces.numberOf([II)I -/
def am_t25 : List (Nat × aI) := [(0, (1, 1, 1, 0, [])), (1, (12, 2, 16, 0, [])), (4, (1, 1, 1, 0, [])), (5, (33, 0, 1, 0, [])), (6, (28, 0, 0, 0, [])), (7, (13, 3, 16, 0, [])), (10, (33, 0, 1, 0, [])), (11, (1, 1, 1, 0, [])), (12, (22, 0, 0, 0, [])), (13, (14, 17, 0, 0, [])), (16, (0, 1, 0, (-1), [])), (17, (50, 0, 0, 0, []))]
/-- 26: CausalPlaces.newestFor(LCausalPlaces$Client;I)LCausalPlaces$Transaction; -/
def am_t26 : List (Nat × aI) := [(0, (33, 1, 1, 0, [])), (1, (1, 2, 1, 0, [])), (2, (60, 37, 1, 0, [])), (5, (34, 3, 1, 0, [])), (6, (33, 0, 1, 0, [])), (7, (33, 1, 1, 0, [])), (8, (18, 1, 0, 0, [])), (11, (61, 23, 1, 0, [])), (14, (1, 2, 1, 0, [])), (15, (0, 1, 0, 2, [])), (16, (6, 0, 0, 0, [])), (17, (4, 0, 0, 0, [])), (18, (60, 18, 1, 0, [])), (21, (34, 4, 2, 0, [])), (23, (33, 4, 2, 0, [])), (25, (16, 32, 0, 0, [])), (28, (17, 0, 0, 0, [])), (29, (14, 42, 0, 0, [])), (32, (33, 4, 2, 0, [])), (34, (1, 2, 1, 0, [])), (35, (33, 1, 1, 0, [])), (36, (18, 1, 1, 0, [])), (39, (60, 56, 2, 0, [])), (42, (34, 5, 2, 0, [])), (44, (33, 3, 1, 0, [])), (45, (15, 53, 0, 0, [])), (48, (33, 5, 2, 0, [])), (50, (16, 64, 0, 0, [])), (53, (33, 3, 1, 0, [])), (54, (16, 62, 0, 0, [])), (57, (33, 5, 2, 0, [])), (59, (14, 63, 0, 0, [])), (62, (33, 3, 1, 0, [])), (63, (52, 0, 0, 0, [])), (64, (33, 5, 2, 0, [])), (66, (33, 3, 1, 0, [])), (67, (60, 62, 1, 0, [])), (70, (12, 0, 78, 0, [])), (73, (33, 5, 2, 0, [])), (75, (14, 79, 0, 0, [])), (78, (33, 3, 1, 0, [])), (79, (52, 0, 0, 0, []))]
/-- 27: CausalPlaces.sendPrepares(LCausalPlaces$Transaction;)Z -/
def am_t27 : List (Nat × aI) := [(0, (33, 1, 1, 0, [])), (1, (18, 5, 1, 0, [])), (4, (61, 23, 1, 0, [])), (7, (2, 2, 1, 0, [])), (8, (33, 0, 1, 0, [])), (9, (1, 2, 1, 0, [])), (10, (60, 18, 1, 0, [])), (13, (34, 3, 1, 0, [])), (14, (33, 3, 1, 0, [])), (15, (15, 38, 0, 0, [])), (18, (33, 1, 1, 0, [])), (19, (18, 5, 5, 0, [])), (22, (33, 3, 1, 0, [])), (23, (60, 70, 1, 0, [])), (26, (12, 0, 38, 0, [])), (29, (33, 1, 1, 0, [])), (30, (33, 3, 1, 0, [])), (31, (33, 1, 1, 0, [])), (32, (60, 49, 1, 0, [])), (35, (60, 59, 1, 0, [])), (38, (33, 0, 1, 0, [])), (39, (1, 2, 1, 0, [])), (40, (0, 1, 0, 1, [])), (41, (4, 0, 0, 0, [])), (42, (60, 18, 1, 0, [])), (45, (34, 4, 2, 0, [])), (47, (33, 4, 2, 0, [])), (49, (15, 64, 0, 0, [])), (52, (33, 1, 1, 0, [])), (53, (18, 5, 5, 0, [])), (56, (33, 4, 2, 0, [])), (58, (60, 70, 1, 0, [])), (61, (12, 1, 66, 0, [])), (64, (0, 1, 0, 0, [])), (65, (51, 0, 0, 0, [])), (66, (33, 0, 1, 0, [])), (67, (1, 2, 1, 0, [])), (68, (33, 4, 2, 0, [])), (70, (18, 4, 0, 0, [])), (73, (29, 3, 0, 0, [])), (76, (7, 0, 0, 0, [])), (77, (0, 1, 0, 1, [])), (78, (33, 1, 1, 0, [])), (79, (18, 5, 0, 0, [])), (82, (0, 1, 0, 0, [])), (83, (17, 0, 0, 0, [])), (84, (62, 42, 4, 0, [])), (87, (60, 32, 3, 0, [])), (90, (0, 1, 0, 1, [])), (91, (51, 0, 0, 0, []))]
/-- 28: CausalPlaces.decide(LCausalPlaces$Transaction;)V -/
def am_t28 : List (Nat × aI) := [(0, (33, 1, 1, 0, [])), (1, (0, 1, 0, 1, [])), (2, (20, 5, 7, 0, [])), (5, (33, 1, 1, 0, [])), (6, (18, 5, 1, 0, [])), (9, (61, 23, 1, 0, [])), (12, (2, 2, 1, 0, [])), (13, (33, 0, 1, 0, [])), (14, (1, 2, 1, 0, [])), (15, (60, 18, 1, 0, [])), (18, (34, 3, 1, 0, [])), (19, (33, 3, 1, 0, [])), (20, (15, 44, 0, 0, [])), (23, (33, 1, 1, 0, [])), (24, (18, 5, 5, 0, [])), (27, (33, 3, 1, 0, [])), (28, (60, 70, 1, 0, [])), (31, (12, 0, 44, 0, [])), (34, (33, 0, 1, 0, [])), (35, (33, 3, 1, 0, [])), (36, (33, 1, 1, 0, [])), (37, (33, 1, 1, 0, [])), (38, (18, 5, 6, 0, [])), (41, (60, 29, 3, 0, [])), (44, (33, 0, 1, 0, [])), (45, (1, 2, 1, 0, [])), (46, (0, 1, 0, 1, [])), (47, (4, 0, 0, 0, [])), (48, (60, 18, 1, 0, [])), (51, (34, 4, 2, 0, [])), (53, (33, 4, 2, 0, [])), (55, (15, 97, 0, 0, [])), (58, (33, 1, 1, 0, [])), (59, (18, 5, 5, 0, [])), (62, (33, 4, 2, 0, [])), (64, (60, 70, 1, 0, [])), (67, (12, 0, 97, 0, [])), (70, (33, 0, 1, 0, [])), (71, (1, 2, 1, 0, [])), (72, (33, 4, 2, 0, [])), (74, (18, 4, 0, 0, [])), (77, (29, 3, 0, 0, [])), (80, (7, 0, 0, 0, [])), (81, (0, 1, 0, 3, [])), (82, (33, 1, 1, 0, [])), (83, (18, 5, 0, 0, [])), (86, (33, 1, 1, 0, [])), (87, (18, 5, 6, 0, [])), (90, (17, 0, 0, 0, [])), (91, (62, 42, 4, 0, [])), (94, (60, 32, 3, 0, [])), (97, (33, 1, 1, 0, [])), (98, (18, 5, 2, 0, [])), (101, (33, 1, 1, 0, [])), (102, (60, 36, 1, 0, [])), (105, (53, 0, 0, 0, []))]
/-- 29: CausalPlaces.takeDecide(LCausalPlaces$Server;LCausalPlaces$Transaction;I)V -/
def am_t29 : List (Nat × aI) := [(0, (33, 1, 1, 0, [])), (1, (33, 2, 1, 0, [])), (2, (18, 5, 0, 0, [])), (5, (0, 1, 0, 2, [])), (6, (1, 3, 1, 0, [])), (7, (60, 50, 3, 0, [])), (10, (33, 1, 1, 0, [])), (11, (33, 1, 1, 0, [])), (12, (18, 4, 8, 0, [])), (15, (1, 3, 1, 0, [])), (16, (36, 0, 0, 0, [])), (19, (19, 4, 8, 0, [])), (22, (0, 1, 0, 0, [])), (23, (2, 4, 2, 0, [])), (25, (1, 4, 2, 0, [])), (27, (33, 0, 1, 0, [])), (28, (18, 0, 4, 0, [])), (31, (13, 3, 73, 0, [])), (34, (33, 0, 1, 0, [])), (35, (33, 1, 1, 0, [])), (36, (60, 54, 0, 0, [])), (39, (60, 19, 1, 0, [])), (42, (34, 5, 2, 0, [])), (44, (33, 5, 2, 0, [])), (46, (16, 50, 0, 0, [])), (49, (53, 0, 0, 0, [])), (50, (33, 1, 1, 0, [])), (51, (33, 5, 2, 0, [])), (53, (60, 55, 1, 0, [])), (56, (33, 0, 1, 0, [])), (57, (33, 1, 1, 0, [])), (58, (0, 1, 0, 4, [])), (59, (33, 5, 2, 0, [])), (61, (18, 5, 0, 0, [])), (64, (60, 31, 3, 0, [])), (67, (3, 4, 3, 1, [])), (70, (14, 25, 0, 0, [])), (73, (53, 0, 0, 0, []))]
/-- 30: CausalPlaces.takeMessage(LCausalPlaces$Message;LCausalPlaces$Server;LCausalPlaces$Server;)V -/
def am_t30 : List (Nat × aI) := [(0, (33, 0, 1, 0, [])), (1, (33, 1, 1, 0, [])), (2, (18, 3, 1, 0, [])), (5, (60, 19, 1, 0, [])), (8, (34, 4, 2, 0, [])), (10, (33, 1, 1, 0, [])), (11, (18, 3, 0, 0, [])), (14, (0, 1, 0, 5, [])), (15, (13, 1, 33, 0, [])), (18, (33, 3, 1, 0, [])), (19, (33, 2, 1, 0, [])), (20, (18, 4, 1, 0, [])), (23, (33, 1, 1, 0, [])), (24, (18, 3, 1, 0, [])), (27, (60, 47, 2, 0, [])), (30, (14, 168, 0, 0, [])), (33, (33, 1, 1, 0, [])), (34, (18, 3, 0, 0, [])), (37, (0, 2, 0, 6, [])), (39, (13, 1, 53, 0, [])), (42, (33, 3, 1, 0, [])), (43, (33, 1, 1, 0, [])), (44, (18, 3, 3, 0, [])), (47, (60, 48, 1, 0, [])), (50, (14, 168, 0, 0, [])), (53, (33, 4, 2, 0, [])), (55, (16, 59, 0, 0, [])), (58, (53, 0, 0, 0, [])), (59, (33, 1, 1, 0, [])), (60, (18, 3, 0, 0, [])), (63, (0, 1, 0, 1, [])), (64, (13, 1, 106, 0, [])), (67, (33, 3, 1, 0, [])), (68, (33, 4, 2, 0, [])), (70, (60, 49, 1, 0, [])), (73, (2, 5, 2, 0, [])), (75, (33, 0, 1, 0, [])), (76, (33, 3, 1, 0, [])), (77, (18, 4, 0, 0, [])), (80, (33, 2, 1, 0, [])), (81, (18, 4, 0, 0, [])), (84, (29, 3, 0, 0, [])), (87, (7, 0, 0, 0, [])), (88, (0, 1, 0, 2, [])), (89, (33, 4, 2, 0, [])), (91, (18, 5, 0, 0, [])), (94, (1, 5, 2, 0, [])), (96, (17, 0, 0, 0, [])), (97, (62, 42, 4, 0, [])), (100, (60, 32, 3, 0, [])), (103, (14, 168, 0, 0, [])), (106, (33, 1, 1, 0, [])), (107, (18, 3, 0, 0, [])), (110, (0, 1, 0, 2, [])), (111, (13, 1, 132, 0, [])), (114, (33, 4, 2, 0, [])), (116, (33, 1, 1, 0, [])), (117, (18, 3, 2, 0, [])), (120, (60, 59, 1, 0, [])), (123, (33, 0, 1, 0, [])), (124, (33, 4, 2, 0, [])), (126, (60, 28, 1, 0, [])), (129, (14, 168, 0, 0, [])), (132, (33, 1, 1, 0, [])), (133, (18, 3, 0, 0, [])), (136, (0, 1, 0, 3, [])), (137, (13, 1, 154, 0, [])), (140, (33, 0, 1, 0, [])), (141, (33, 3, 1, 0, [])), (142, (33, 4, 2, 0, [])), (144, (33, 1, 1, 0, [])), (145, (18, 3, 2, 0, [])), (148, (60, 29, 3, 0, [])), (151, (14, 168, 0, 0, [])), (154, (33, 1, 1, 0, [])), (155, (18, 3, 0, 0, [])), (158, (0, 1, 0, 4, [])), (159, (13, 1, 168, 0, [])), (162, (33, 3, 1, 0, [])), (163, (33, 4, 2, 0, [])), (165, (60, 55, 1, 0, [])), (168, (53, 0, 0, 0, []))]
/-- 31: CausalPlaces.sendToOtherPlaces(LCausalPlaces$Server;II)V -/
def am_t31 : List (Nat × aI) := [(0, (0, 1, 0, 0, [])), (1, (2, 4, 2, 0, [])), (3, (1, 4, 2, 0, [])), (5, (0, 1, 0, 3, [])), (6, (13, 3, 59, 0, [])), (9, (1, 4, 2, 0, [])), (11, (33, 1, 1, 0, [])), (12, (18, 4, 1, 0, [])), (15, (13, 0, 53, 0, [])), (18, (1, 4, 2, 0, [])), (20, (61, 23, 1, 0, [])), (23, (33, 1, 1, 0, [])), (24, (18, 4, 0, 0, [])), (27, (0, 1, 0, 2, [])), (28, (6, 0, 0, 0, [])), (29, (4, 0, 0, 0, [])), (30, (2, 5, 2, 0, [])), (32, (33, 0, 1, 0, [])), (33, (33, 1, 1, 0, [])), (34, (18, 4, 0, 0, [])), (37, (1, 5, 2, 0, [])), (39, (29, 3, 0, 0, [])), (42, (7, 0, 0, 0, [])), (43, (1, 2, 1, 0, [])), (44, (1, 3, 1, 0, [])), (45, (0, 1, 0, 0, [])), (46, (17, 0, 0, 0, [])), (47, (62, 42, 4, 0, [])), (50, (60, 32, 3, 0, [])), (53, (3, 4, 3, 1, [])), (56, (14, 3, 0, 0, [])), (59, (53, 0, 0, 0, []))]
/-- 32: CausalPlaces.send(IILCausalPlaces$Message;)V -/
def am_t32 : List (Nat × aI) := [(0, (33, 0, 1, 0, [])), (1, (1, 1, 1, 0, [])), (2, (1, 2, 1, 0, [])), (3, (60, 20, 2, 0, [])), (6, (34, 4, 2, 0, [])), (8, (33, 4, 2, 0, [])), (10, (15, 19, 0, 0, [])), (13, (33, 4, 2, 0, [])), (15, (33, 3, 1, 0, [])), (16, (60, 40, 1, 0, [])), (19, (53, 0, 0, 0, []))]
/-- 33: CausalPlaces$Client.<init>(I)V -/
def am_t33 : List (Nat × aI) := [(0, (33, 0, 1, 0, [])), (1, (35, 0, 0, 0, [])), (4, (33, 0, 1, 0, [])), (5, (0, 1, 0, 3, [])), (6, (30, 0, 0, 0, [])), (8, (21, 1, 1, 0, [])), (11, (33, 0, 1, 0, [])), (12, (0, 2, 0, 8, [])), (14, (31, 5, 0, 0, [])), (17, (21, 1, 2, 0, [])), (20, (33, 0, 1, 0, [])), (21, (29, 6, 0, 0, [])), (24, (7, 0, 0, 0, [])), (25, (62, 63, 0, 0, [])), (28, (21, 1, 3, 0, [])), (31, (33, 0, 1, 0, [])), (32, (1, 1, 1, 0, [])), (33, (19, 1, 0, 0, [])), (36, (53, 0, 0, 0, []))]
/-- 34: CausalPlaces$Client.seeStable(LCausalPlaces$Server;)V -/
def am_t34 : List (Nat × aI) := [(0, (0, 1, 0, 0, [])), (1, (2, 2, 1, 0, [])), (2, (1, 2, 1, 0, [])), (3, (0, 1, 0, 3, [])), (4, (13, 3, 33, 0, [])), (7, (33, 0, 1, 0, [])), (8, (18, 1, 1, 0, [])), (11, (1, 2, 1, 0, [])), (12, (33, 0, 1, 0, [])), (13, (18, 1, 1, 0, [])), (16, (1, 2, 1, 0, [])), (17, (22, 0, 0, 0, [])), (18, (33, 1, 1, 0, [])), (19, (1, 2, 1, 0, [])), (20, (60, 46, 1, 0, [])), (23, (36, 0, 0, 0, [])), (26, (23, 0, 0, 0, [])), (27, (3, 2, 3, 1, [])), (30, (14, 2, 0, 0, [])), (33, (53, 0, 0, 0, []))]
/-- 35: CausalPlaces$Client.forgetSeenVersions()V -/
def am_t35 : List (Nat × aI) := [(0, (0, 1, 0, 0, [])), (1, (2, 1, 1, 0, [])), (2, (1, 1, 1, 0, [])), (3, (0, 2, 0, 8, [])), (5, (13, 3, 43, 0, [])), (8, (33, 0, 1, 0, [])), (9, (18, 1, 2, 0, [])), (12, (1, 1, 1, 0, [])), (13, (26, 0, 0, 0, [])), (14, (34, 2, 1, 0, [])), (15, (33, 2, 1, 0, [])), (16, (15, 37, 0, 0, [])), (19, (33, 2, 1, 0, [])), (20, (33, 0, 1, 0, [])), (21, (18, 1, 1, 0, [])), (24, (60, 61, 1, 0, [])), (27, (12, 0, 37, 0, [])), (30, (33, 0, 1, 0, [])), (31, (18, 1, 2, 0, [])), (34, (1, 1, 1, 0, [])), (35, (17, 0, 0, 0, [])), (36, (27, 0, 0, 0, [])), (37, (3, 1, 3, 1, [])), (40, (14, 2, 0, 0, [])), (43, (53, 0, 0, 0, []))]
/-- 36: CausalPlaces$Client.finishCommit(LCausalPlaces$Transaction;)V -/
def am_t36 : List (Nat × aI) := [(0, (33, 0, 1, 0, [])), (1, (0, 1, 0, 0, [])), (2, (19, 1, 4, 0, [])), (5, (33, 0, 1, 0, [])), (6, (33, 1, 1, 0, [])), (7, (18, 5, 6, 0, [])), (10, (19, 1, 5, 0, [])), (13, (0, 1, 0, 0, [])), (14, (2, 2, 1, 0, [])), (15, (1, 2, 1, 0, [])), (16, (0, 2, 0, 8, [])), (18, (13, 3, 45, 0, [])), (21, (33, 1, 1, 0, [])), (22, (18, 5, 5, 0, [])), (25, (1, 2, 1, 0, [])), (26, (60, 67, 1, 0, [])), (29, (12, 0, 39, 0, [])), (32, (33, 0, 1, 0, [])), (33, (18, 1, 2, 0, [])), (36, (1, 2, 1, 0, [])), (37, (33, 1, 1, 0, [])), (38, (27, 0, 0, 0, [])), (39, (3, 2, 3, 1, [])), (42, (14, 15, 0, 0, [])), (45, (53, 0, 0, 0, []))]
/-- 37: CausalPlaces$Client.ownFor(I)LCausalPlaces$Transaction; -/
def am_t37 : List (Nat × aI) := [(0, (1, 1, 1, 0, [])), (1, (61, 22, 1, 0, [])), (4, (12, 0, 16, 0, [])), (7, (33, 0, 1, 0, [])), (8, (18, 1, 2, 0, [])), (11, (1, 1, 1, 0, [])), (12, (26, 0, 0, 0, [])), (13, (14, 17, 0, 0, [])), (16, (17, 0, 0, 0, [])), (17, (52, 0, 0, 0, []))]
/-- 38: CausalPlaces$Client.countOwn()I -/
def am_t38 : List (Nat × aI) := [(0, (0, 1, 0, 0, [])), (1, (2, 1, 1, 0, [])), (2, (0, 1, 0, 0, [])), (3, (2, 2, 1, 0, [])), (4, (1, 2, 1, 0, [])), (5, (0, 2, 0, 8, [])), (7, (13, 3, 28, 0, [])), (10, (33, 0, 1, 0, [])), (11, (18, 1, 2, 0, [])), (14, (1, 2, 1, 0, [])), (15, (26, 0, 0, 0, [])), (16, (15, 22, 0, 0, [])), (19, (3, 1, 3, 1, [])), (22, (3, 2, 3, 1, [])), (25, (14, 4, 0, 0, [])), (28, (1, 1, 1, 0, [])), (29, (50, 0, 0, 0, []))]
/-- 39: CausalPlaces$Link.<init>()V -/
def am_t39 : List (Nat × aI) := [(0, (33, 0, 1, 0, [])), (1, (35, 0, 0, 0, [])), (4, (53, 0, 0, 0, []))]
/-- 40: CausalPlaces$Link.append(LCausalPlaces$Message;)V -/
def am_t40 : List (Nat × aI) := [(0, (33, 0, 1, 0, [])), (1, (18, 2, 2, 0, [])), (4, (0, 3, 0, 512, [])), (7, (13, 2, 11, 0, [])), (10, (53, 0, 0, 0, [])), (11, (33, 0, 1, 0, [])), (12, (18, 2, 1, 0, [])), (15, (16, 26, 0, 0, [])), (18, (33, 0, 1, 0, [])), (19, (33, 1, 1, 0, [])), (20, (21, 2, 0, 0, [])), (23, (14, 34, 0, 0, [])), (26, (33, 0, 1, 0, [])), (27, (18, 2, 1, 0, [])), (30, (33, 1, 1, 0, [])), (31, (21, 3, 4, 0, [])), (34, (33, 0, 1, 0, [])), (35, (33, 1, 1, 0, [])), (36, (21, 2, 1, 0, [])), (39, (33, 0, 1, 0, [])), (40, (7, 0, 0, 0, [])), (41, (18, 2, 2, 0, [])), (44, (0, 1, 0, 1, [])), (45, (4, 0, 0, 0, [])), (46, (19, 2, 2, 0, [])), (49, (53, 0, 0, 0, []))]
/-- 41: CausalPlaces$Link.removeFirst()LCausalPlaces$Message; -/
def am_t41 : List (Nat × aI) := [(0, (33, 0, 1, 0, [])), (1, (18, 2, 0, 0, [])), (4, (34, 1, 1, 0, [])), (5, (33, 1, 1, 0, [])), (6, (16, 11, 0, 0, [])), (9, (17, 0, 0, 0, [])), (10, (52, 0, 0, 0, [])), (11, (33, 0, 1, 0, [])), (12, (33, 1, 1, 0, [])), (13, (18, 3, 4, 0, [])), (16, (21, 2, 0, 0, [])), (19, (33, 0, 1, 0, [])), (20, (18, 2, 0, 0, [])), (23, (16, 31, 0, 0, [])), (26, (33, 0, 1, 0, [])), (27, (17, 0, 0, 0, [])), (28, (21, 2, 1, 0, [])), (31, (33, 0, 1, 0, [])), (32, (7, 0, 0, 0, [])), (33, (18, 2, 2, 0, [])), (36, (0, 1, 0, 1, [])), (37, (4, 1, 0, 0, [])), (38, (19, 2, 2, 0, [])), (41, (33, 1, 1, 0, [])), (42, (52, 0, 0, 0, []))]
/-- 42: CausalPlaces$Message.<init>(III[I)V -/
def am_t42 : List (Nat × aI) := [(0, (33, 0, 1, 0, [])), (1, (35, 0, 0, 0, [])), (4, (33, 0, 1, 0, [])), (5, (1, 1, 1, 0, [])), (6, (19, 3, 0, 0, [])), (9, (33, 0, 1, 0, [])), (10, (1, 2, 1, 0, [])), (11, (19, 3, 1, 0, [])), (14, (33, 0, 1, 0, [])), (15, (1, 3, 1, 0, [])), (16, (19, 3, 2, 0, [])), (19, (33, 0, 1, 0, [])), (20, (33, 4, 2, 0, [])), (22, (21, 3, 3, 0, [])), (25, (53, 0, 0, 0, []))]
/-- 43: CausalPlaces$Server.<init>(I)V -/
def am_t43 : List (Nat × aI) := [(0, (33, 0, 1, 0, [])), (1, (35, 0, 0, 0, [])), (4, (33, 0, 1, 0, [])), (5, (0, 1, 0, 3, [])), (6, (30, 0, 0, 0, [])), (8, (21, 4, 2, 0, [])), (11, (33, 0, 1, 0, [])), (12, (0, 1, 0, 3, [])), (13, (30, 0, 0, 0, [])), (15, (21, 4, 3, 0, [])), (18, (33, 0, 1, 0, [])), (19, (0, 3, 0, 200, [])), (22, (30, 0, 0, 0, [])), (24, (21, 4, 4, 0, [])), (27, (33, 0, 1, 0, [])), (28, (0, 3, 0, 200, [])), (31, (30, 0, 0, 0, [])), (33, (21, 4, 5, 0, [])), (36, (33, 0, 1, 0, [])), (37, (0, 3, 0, 200, [])), (40, (31, 5, 0, 0, [])), (43, (21, 4, 6, 0, [])), (46, (33, 0, 1, 0, [])), (47, (1, 1, 1, 0, [])), (48, (19, 4, 0, 0, [])), (51, (33, 0, 1, 0, [])), (52, (1, 1, 1, 0, [])), (53, (0, 1, 0, 2, [])), (54, (5, 0, 0, 0, [])), (55, (19, 4, 1, 0, [])), (58, (53, 0, 0, 0, []))]
/-- 44: CausalPlaces$Server.keepsKey(I)Z -/
def am_t44 : List (Nat × aI) := [(0, (1, 1, 1, 0, [])), (1, (61, 22, 1, 0, [])), (4, (12, 0, 23, 0, [])), (7, (1, 1, 1, 0, [])), (8, (0, 1, 0, 2, [])), (9, (6, 0, 0, 0, [])), (10, (33, 0, 1, 0, [])), (11, (18, 4, 0, 0, [])), (14, (0, 1, 0, 2, [])), (15, (6, 0, 0, 0, [])), (16, (13, 1, 23, 0, [])), (19, (0, 1, 0, 1, [])), (20, (14, 24, 0, 0, [])), (23, (0, 1, 0, 0, [])), (24, (51, 0, 0, 0, []))]
/-- 45: CausalPlaces$Server.neighbour()I -/
def am_t45 : List (Nat × aI) := [(0, (33, 0, 1, 0, [])), (1, (18, 4, 0, 0, [])), (4, (0, 1, 0, 2, [])), (5, (6, 0, 0, 0, [])), (6, (12, 1, 18, 0, [])), (9, (33, 0, 1, 0, [])), (10, (18, 4, 0, 0, [])), (13, (0, 1, 0, 1, [])), (14, (4, 0, 0, 0, [])), (15, (14, 24, 0, 0, [])), (18, (33, 0, 1, 0, [])), (19, (18, 4, 0, 0, [])), (22, (0, 1, 0, 1, [])), (23, (4, 1, 0, 0, [])), (24, (50, 0, 0, 0, []))]
/-- 46: CausalPlaces$Server.stableOf(I)I -/
def am_t46 : List (Nat × aI) := [(0, (33, 0, 1, 0, [])), (1, (18, 4, 2, 0, [])), (4, (1, 1, 1, 0, [])), (5, (61, 25, 2, 0, [])), (8, (33, 0, 1, 0, [])), (9, (18, 4, 3, 0, [])), (12, (1, 1, 1, 0, [])), (13, (61, 25, 2, 0, [])), (16, (37, 0, 0, 0, [])), (19, (50, 0, 0, 0, []))]
/-- 47: CausalPlaces$Server.setKnown(II)V -/
def am_t47 : List (Nat × aI) := [(0, (1, 1, 1, 0, [])), (1, (61, 21, 1, 0, [])), (4, (12, 0, 14, 0, [])), (7, (33, 0, 1, 0, [])), (8, (18, 4, 2, 0, [])), (11, (1, 1, 1, 0, [])), (12, (1, 2, 1, 0, [])), (13, (23, 0, 0, 0, [])), (14, (53, 0, 0, 0, []))]
/-- 48: CausalPlaces$Server.hear([I)V -/
def am_t48 : List (Nat × aI) := [(0, (33, 1, 1, 0, [])), (1, (16, 5, 0, 0, [])), (4, (53, 0, 0, 0, [])), (5, (0, 1, 0, 0, [])), (6, (2, 2, 1, 0, [])), (7, (1, 2, 1, 0, [])), (8, (0, 1, 0, 3, [])), (9, (13, 3, 29, 0, [])), (12, (33, 0, 1, 0, [])), (13, (18, 4, 3, 0, [])), (16, (1, 2, 1, 0, [])), (17, (33, 1, 1, 0, [])), (18, (1, 2, 1, 0, [])), (19, (61, 25, 2, 0, [])), (22, (23, 0, 0, 0, [])), (23, (3, 2, 3, 1, [])), (26, (14, 7, 0, 0, [])), (29, (53, 0, 0, 0, []))]
/-- 49: CausalPlaces$Server.prepareNext(LCausalPlaces$Transaction;)I -/
def am_t49 : List (Nat × aI) := [(0, (33, 0, 1, 0, [])), (1, (18, 4, 8, 0, [])), (4, (33, 1, 1, 0, [])), (5, (18, 5, 3, 0, [])), (8, (36, 0, 0, 0, [])), (11, (2, 2, 1, 0, [])), (12, (0, 1, 0, 0, [])), (13, (2, 3, 1, 0, [])), (14, (1, 3, 1, 0, [])), (15, (0, 1, 0, 3, [])), (16, (13, 3, 38, 0, [])), (19, (1, 2, 1, 0, [])), (20, (33, 1, 1, 0, [])), (21, (18, 5, 4, 0, [])), (24, (1, 3, 1, 0, [])), (25, (61, 25, 2, 0, [])), (28, (36, 0, 0, 0, [])), (31, (2, 2, 1, 0, [])), (32, (3, 3, 3, 1, [])), (35, (14, 14, 0, 0, [])), (38, (33, 0, 1, 0, [])), (39, (1, 2, 1, 0, [])), (40, (0, 1, 0, 1, [])), (41, (4, 0, 0, 0, [])), (42, (19, 4, 8, 0, [])), (45, (33, 0, 1, 0, [])), (46, (33, 1, 1, 0, [])), (47, (18, 5, 0, 0, [])), (50, (0, 1, 0, 1, [])), (51, (33, 0, 1, 0, [])), (52, (18, 4, 8, 0, [])), (55, (60, 50, 3, 0, [])), (58, (33, 0, 1, 0, [])), (59, (18, 4, 8, 0, [])), (62, (50, 0, 0, 0, []))]
/-- 50: CausalPlaces$Server.setStage(III)V -/
def am_t50 : List (Nat × aI) := [(0, (1, 1, 1, 0, [])), (1, (12, 2, 25, 0, [])), (4, (1, 1, 1, 0, [])), (5, (0, 3, 0, 200, [])), (8, (13, 3, 25, 0, [])), (11, (33, 0, 1, 0, [])), (12, (18, 4, 4, 0, [])), (15, (1, 1, 1, 0, [])), (16, (1, 2, 1, 0, [])), (17, (23, 0, 0, 0, [])), (18, (33, 0, 1, 0, [])), (19, (18, 4, 5, 0, [])), (22, (1, 1, 1, 0, [])), (23, (1, 3, 1, 0, [])), (24, (23, 0, 0, 0, [])), (25, (53, 0, 0, 0, []))]
/-- 51: CausalPlaces$Server.countAtStage(I)I -/
def am_t51 : List (Nat × aI) := [(0, (0, 1, 0, 0, [])), (1, (2, 2, 1, 0, [])), (2, (0, 1, 0, 0, [])), (3, (2, 3, 1, 0, [])), (4, (1, 3, 1, 0, [])), (5, (0, 3, 0, 200, [])), (8, (13, 3, 30, 0, [])), (11, (33, 0, 1, 0, [])), (12, (18, 4, 4, 0, [])), (15, (1, 3, 1, 0, [])), (16, (22, 0, 0, 0, [])), (17, (1, 1, 1, 0, [])), (18, (13, 1, 24, 0, [])), (21, (3, 2, 3, 1, [])), (24, (3, 3, 3, 1, [])), (27, (14, 4, 0, 0, [])), (30, (1, 2, 1, 0, [])), (31, (50, 0, 0, 0, []))]
/-- 52: CausalPlaces$Server.leastTimeAtStage(I)I -/
def am_t52 : List (Nat × aI) := [(0, (0, 2, 0, 2147483647, [])), (2, (2, 2, 1, 0, [])), (3, (0, 1, 0, 0, [])), (4, (2, 3, 1, 0, [])), (5, (1, 3, 1, 0, [])), (6, (0, 3, 0, 200, [])), (9, (13, 3, 39, 0, [])), (12, (33, 0, 1, 0, [])), (13, (18, 4, 4, 0, [])), (16, (1, 3, 1, 0, [])), (17, (22, 0, 0, 0, [])), (18, (1, 1, 1, 0, [])), (19, (13, 1, 33, 0, [])), (22, (1, 2, 1, 0, [])), (23, (33, 0, 1, 0, [])), (24, (18, 4, 5, 0, [])), (27, (1, 3, 1, 0, [])), (28, (22, 0, 0, 0, [])), (29, (37, 0, 0, 0, [])), (32, (2, 2, 1, 0, [])), (33, (3, 3, 3, 1, [])), (36, (14, 5, 0, 0, [])), (39, (1, 2, 1, 0, [])), (40, (50, 0, 0, 0, []))]
/-- 53: CausalPlaces$Server.reachedTime()I -/
def am_t53 : List (Nat × aI) := [(0, (33, 0, 1, 0, [])), (1, (0, 1, 0, 1, [])), (2, (60, 52, 1, 0, [])), (5, (33, 0, 1, 0, [])), (6, (0, 1, 0, 2, [])), (7, (60, 52, 1, 0, [])), (10, (37, 0, 0, 0, [])), (13, (2, 1, 1, 0, [])), (14, (1, 1, 1, 0, [])), (15, (0, 2, 0, 2147483647, [])), (17, (13, 1, 27, 0, [])), (20, (33, 0, 1, 0, [])), (21, (18, 4, 8, 0, [])), (24, (14, 30, 0, 0, [])), (27, (1, 1, 1, 0, [])), (28, (0, 1, 0, 1, [])), (29, (4, 1, 0, 0, [])), (30, (50, 0, 0, 0, []))]
/-- 54: CausalPlaces$Server.nextToApply()I -/
def am_t54 : List (Nat × aI) := [(0, (0, 1, 0, (-1), [])), (1, (2, 1, 1, 0, [])), (2, (33, 0, 1, 0, [])), (3, (0, 1, 0, 1, [])), (4, (60, 52, 1, 0, [])), (7, (2, 2, 1, 0, [])), (8, (0, 1, 0, 0, [])), (9, (2, 3, 1, 0, [])), (10, (1, 3, 1, 0, [])), (11, (0, 3, 0, 200, [])), (14, (13, 3, 52, 0, [])), (17, (33, 0, 1, 0, [])), (18, (18, 4, 4, 0, [])), (21, (1, 3, 1, 0, [])), (22, (22, 0, 0, 0, [])), (23, (0, 1, 0, 2, [])), (24, (13, 1, 46, 0, [])), (27, (33, 0, 1, 0, [])), (28, (18, 4, 5, 0, [])), (31, (1, 3, 1, 0, [])), (32, (22, 0, 0, 0, [])), (33, (1, 2, 1, 0, [])), (34, (13, 3, 46, 0, [])), (37, (1, 3, 1, 0, [])), (38, (2, 1, 1, 0, [])), (39, (33, 0, 1, 0, [])), (40, (18, 4, 5, 0, [])), (43, (1, 3, 1, 0, [])), (44, (22, 0, 0, 0, [])), (45, (2, 2, 1, 0, [])), (46, (3, 3, 3, 1, [])), (49, (14, 10, 0, 0, [])), (52, (1, 1, 1, 0, [])), (53, (50, 0, 0, 0, []))]
/-- 55: CausalPlaces$Server.keepVersions(LCausalPlaces$Transaction;)V -/
def am_t55 : List (Nat × aI) := [(0, (33, 0, 1, 0, [])), (1, (33, 1, 1, 0, [])), (2, (18, 5, 0, 0, [])), (5, (0, 1, 0, 3, [])), (6, (33, 1, 1, 0, [])), (7, (18, 5, 6, 0, [])), (10, (60, 50, 3, 0, [])), (13, (33, 0, 1, 0, [])), (14, (18, 4, 7, 0, [])), (17, (12, 2, 30, 0, [])), (20, (33, 0, 1, 0, [])), (21, (18, 4, 7, 0, [])), (24, (0, 3, 0, 200, [])), (27, (13, 2, 31, 0, [])), (30, (53, 0, 0, 0, [])), (31, (33, 0, 1, 0, [])), (32, (18, 4, 7, 0, [])), (35, (2, 2, 1, 0, [])), (36, (1, 2, 1, 0, [])), (37, (12, 5, 86, 0, [])), (40, (33, 0, 1, 0, [])), (41, (18, 4, 6, 0, [])), (44, (1, 2, 1, 0, [])), (45, (0, 1, 0, 1, [])), (46, (4, 1, 0, 0, [])), (47, (26, 0, 0, 0, [])), (48, (15, 86, 0, 0, [])), (51, (33, 1, 1, 0, [])), (52, (33, 0, 1, 0, [])), (53, (18, 4, 6, 0, [])), (56, (1, 2, 1, 0, [])), (57, (0, 1, 0, 1, [])), (58, (4, 1, 0, 0, [])), (59, (26, 0, 0, 0, [])), (60, (60, 62, 1, 0, [])), (63, (12, 0, 86, 0, [])), (66, (33, 0, 1, 0, [])), (67, (18, 4, 6, 0, [])), (70, (1, 2, 1, 0, [])), (71, (33, 0, 1, 0, [])), (72, (18, 4, 6, 0, [])), (75, (1, 2, 1, 0, [])), (76, (0, 1, 0, 1, [])), (77, (4, 1, 0, 0, [])), (78, (26, 0, 0, 0, [])), (79, (27, 0, 0, 0, [])), (80, (3, 2, 3, (-1), [])), (83, (14, 36, 0, 0, [])), (86, (33, 0, 1, 0, [])), (87, (18, 4, 6, 0, [])), (90, (1, 2, 1, 0, [])), (91, (33, 1, 1, 0, [])), (92, (27, 0, 0, 0, [])), (93, (33, 0, 1, 0, [])), (94, (7, 0, 0, 0, [])), (95, (18, 4, 7, 0, [])), (98, (0, 1, 0, 1, [])), (99, (4, 0, 0, 0, [])), (100, (19, 4, 7, 0, [])), (103, (53, 0, 0, 0, []))]
/-- 56: CausalPlaces$Server.newestUpTo(I[I)LCausalPlaces$Transaction; -/
def am_t56 : List (Nat × aI) := [(0, (0, 1, 0, 0, [])), (1, (2, 3, 1, 0, [])), (2, (1, 3, 1, 0, [])), (3, (33, 0, 1, 0, [])), (4, (18, 4, 7, 0, [])), (7, (13, 3, 60, 0, [])), (10, (1, 3, 1, 0, [])), (11, (0, 3, 0, 200, [])), (14, (13, 3, 60, 0, [])), (17, (33, 0, 1, 0, [])), (18, (18, 4, 6, 0, [])), (21, (1, 3, 1, 0, [])), (22, (26, 0, 0, 0, [])), (23, (34, 4, 2, 0, [])), (25, (33, 4, 2, 0, [])), (27, (15, 54, 0, 0, [])), (30, (33, 4, 2, 0, [])), (32, (18, 5, 5, 0, [])), (35, (1, 1, 1, 0, [])), (36, (60, 67, 1, 0, [])), (39, (12, 0, 54, 0, [])), (42, (33, 4, 2, 0, [])), (44, (33, 2, 1, 0, [])), (45, (60, 61, 1, 0, [])), (48, (12, 0, 54, 0, [])), (51, (33, 4, 2, 0, [])), (53, (52, 0, 0, 0, [])), (54, (3, 3, 3, 1, [])), (57, (14, 2, 0, 0, [])), (60, (17, 0, 0, 0, [])), (61, (52, 0, 0, 0, []))]
/-- 57: CausalPlaces$Server.versionAt(II)LCausalPlaces$Transaction; -/
def am_t57 : List (Nat × aI) := [(0, (0, 1, 0, 0, [])), (1, (2, 3, 1, 0, [])), (2, (0, 1, 0, 0, [])), (3, (2, 4, 2, 0, [])), (5, (1, 4, 2, 0, [])), (7, (33, 0, 1, 0, [])), (8, (18, 4, 7, 0, [])), (11, (13, 3, 65, 0, [])), (14, (1, 4, 2, 0, [])), (16, (0, 3, 0, 200, [])), (19, (13, 3, 65, 0, [])), (22, (33, 0, 1, 0, [])), (23, (18, 4, 6, 0, [])), (26, (1, 4, 2, 0, [])), (28, (26, 0, 0, 0, [])), (29, (34, 5, 2, 0, [])), (31, (33, 5, 2, 0, [])), (33, (15, 59, 0, 0, [])), (36, (33, 5, 2, 0, [])), (38, (18, 5, 5, 0, [])), (41, (1, 1, 1, 0, [])), (42, (60, 67, 1, 0, [])), (45, (12, 0, 59, 0, [])), (48, (1, 3, 1, 0, [])), (49, (1, 2, 1, 0, [])), (50, (13, 1, 56, 0, [])), (53, (33, 5, 2, 0, [])), (55, (52, 0, 0, 0, [])), (56, (3, 3, 3, 1, [])), (59, (3, 4, 3, 1, [])), (62, (14, 5, 0, 0, [])), (65, (17, 0, 0, 0, [])), (66, (52, 0, 0, 0, []))]
/-- 58: CausalPlaces$Transaction.<init>(ILCausalPlaces$Client;)V -/
def am_t58 : List (Nat × aI) := [(0, (33, 0, 1, 0, [])), (1, (35, 0, 0, 0, [])), (4, (33, 0, 1, 0, [])), (5, (1, 1, 1, 0, [])), (6, (19, 5, 0, 0, [])), (9, (33, 0, 1, 0, [])), (10, (33, 2, 1, 0, [])), (11, (21, 5, 2, 0, [])), (14, (33, 0, 1, 0, [])), (15, (33, 2, 1, 0, [])), (16, (18, 1, 0, 0, [])), (19, (19, 5, 1, 0, [])), (22, (33, 0, 1, 0, [])), (23, (33, 2, 1, 0, [])), (24, (18, 1, 5, 0, [])), (27, (19, 5, 3, 0, [])), (30, (33, 0, 1, 0, [])), (31, (33, 2, 1, 0, [])), (32, (18, 1, 1, 0, [])), (35, (38, 0, 0, 0, [])), (38, (39, 0, 0, 0, [])), (41, (21, 5, 4, 0, [])), (44, (33, 0, 1, 0, [])), (45, (29, 6, 0, 0, [])), (48, (7, 0, 0, 0, [])), (49, (62, 63, 0, 0, [])), (52, (21, 5, 5, 0, [])), (55, (33, 0, 1, 0, [])), (56, (18, 5, 5, 0, [])), (59, (33, 2, 1, 0, [])), (60, (18, 1, 3, 0, [])), (63, (60, 66, 1, 0, [])), (66, (53, 0, 0, 0, []))]
/-- 59: CausalPlaces$Transaction.noteTime(I)V -/
def am_t59 : List (Nat × aI) := [(0, (33, 0, 1, 0, [])), (1, (33, 0, 1, 0, [])), (2, (18, 5, 6, 0, [])), (5, (1, 1, 1, 0, [])), (6, (36, 0, 0, 0, [])), (9, (19, 5, 6, 0, [])), (12, (53, 0, 0, 0, []))]
/-- 60: CausalPlaces$Transaction.stampOf(I)I -/
def am_t60 : List (Nat × aI) := [(0, (33, 0, 1, 0, [])), (1, (18, 5, 7, 0, [])), (4, (12, 0, 22, 0, [])), (7, (1, 1, 1, 0, [])), (8, (33, 0, 1, 0, [])), (9, (18, 5, 1, 0, [])), (12, (13, 1, 22, 0, [])), (15, (33, 0, 1, 0, [])), (16, (18, 5, 6, 0, [])), (19, (14, 30, 0, 0, [])), (22, (33, 0, 1, 0, [])), (23, (18, 5, 4, 0, [])), (26, (1, 1, 1, 0, [])), (27, (61, 25, 2, 0, [])), (30, (50, 0, 0, 0, []))]
/-- 61: CausalPlaces$Transaction.isUpTo([I)Z -/
def am_t61 : List (Nat × aI) := [(0, (0, 1, 0, 0, [])), (1, (2, 2, 1, 0, [])), (2, (1, 2, 1, 0, [])), (3, (0, 1, 0, 3, [])), (4, (13, 3, 28, 0, [])), (7, (33, 0, 1, 0, [])), (8, (1, 2, 1, 0, [])), (9, (60, 60, 1, 0, [])), (12, (33, 1, 1, 0, [])), (13, (1, 2, 1, 0, [])), (14, (61, 25, 2, 0, [])), (17, (13, 5, 22, 0, [])), (20, (0, 1, 0, 0, [])), (21, (51, 0, 0, 0, [])), (22, (3, 2, 3, 1, [])), (25, (14, 2, 0, 0, [])), (28, (0, 1, 0, 1, [])), (29, (51, 0, 0, 0, []))]
/-- 62: CausalPlaces$Transaction.isNewerThan(LCausalPlaces$Transaction;)Z -/
def am_t62 : List (Nat × aI) := [(0, (33, 0, 1, 0, [])), (1, (18, 5, 6, 0, [])), (4, (33, 1, 1, 0, [])), (5, (18, 5, 6, 0, [])), (8, (13, 0, 28, 0, [])), (11, (33, 0, 1, 0, [])), (12, (18, 5, 6, 0, [])), (15, (33, 1, 1, 0, [])), (16, (18, 5, 6, 0, [])), (19, (13, 5, 26, 0, [])), (22, (0, 1, 0, 1, [])), (23, (14, 27, 0, 0, [])), (26, (0, 1, 0, 0, [])), (27, (51, 0, 0, 0, [])), (28, (33, 0, 1, 0, [])), (29, (18, 5, 1, 0, [])), (32, (33, 1, 1, 0, [])), (33, (18, 5, 1, 0, [])), (36, (13, 0, 56, 0, [])), (39, (33, 0, 1, 0, [])), (40, (18, 5, 1, 0, [])), (43, (33, 1, 1, 0, [])), (44, (18, 5, 1, 0, [])), (47, (13, 5, 54, 0, [])), (50, (0, 1, 0, 1, [])), (51, (14, 55, 0, 0, [])), (54, (0, 1, 0, 0, [])), (55, (51, 0, 0, 0, [])), (56, (33, 0, 1, 0, [])), (57, (18, 5, 0, 0, [])), (60, (33, 1, 1, 0, [])), (61, (18, 5, 0, 0, [])), (64, (13, 5, 71, 0, [])), (67, (0, 1, 0, 1, [])), (68, (14, 72, 0, 0, [])), (71, (0, 1, 0, 0, [])), (72, (51, 0, 0, 0, []))]
/-- 63: CausalPlaces$Writes.<init>()V -/
def am_t63 : List (Nat × aI) := [(0, (33, 0, 1, 0, [])), (1, (35, 0, 0, 0, [])), (4, (33, 0, 1, 0, [])), (5, (0, 2, 0, 8, [])), (7, (30, 1, 0, 0, [])), (9, (21, 6, 0, 0, [])), (12, (33, 0, 1, 0, [])), (13, (0, 2, 0, 8, [])), (15, (30, 0, 0, 0, [])), (17, (21, 6, 1, 0, [])), (20, (53, 0, 0, 0, []))]
/-- 64: CausalPlaces$Writes.clear()V -/
def am_t64 : List (Nat × aI) := [(0, (0, 1, 0, 0, [])), (1, (2, 1, 1, 0, [])), (2, (1, 1, 1, 0, [])), (3, (0, 2, 0, 8, [])), (5, (13, 3, 28, 0, [])), (8, (33, 0, 1, 0, [])), (9, (18, 6, 0, 0, [])), (12, (1, 1, 1, 0, [])), (13, (0, 1, 0, 0, [])), (14, (25, 0, 0, 0, [])), (15, (33, 0, 1, 0, [])), (16, (18, 6, 1, 0, [])), (19, (1, 1, 1, 0, [])), (20, (0, 1, 0, 0, [])), (21, (23, 0, 0, 0, [])), (22, (3, 1, 3, 1, [])), (25, (14, 2, 0, 0, [])), (28, (53, 0, 0, 0, []))]
/-- 65: CausalPlaces$Writes.put(II)V -/
def am_t65 : List (Nat × aI) := [(0, (1, 1, 1, 0, [])), (1, (61, 22, 1, 0, [])), (4, (12, 0, 21, 0, [])), (7, (33, 0, 1, 0, [])), (8, (18, 6, 0, 0, [])), (11, (1, 1, 1, 0, [])), (12, (0, 1, 0, 1, [])), (13, (25, 0, 0, 0, [])), (14, (33, 0, 1, 0, [])), (15, (18, 6, 1, 0, [])), (18, (1, 1, 1, 0, [])), (19, (1, 2, 1, 0, [])), (20, (23, 0, 0, 0, [])), (21, (53, 0, 0, 0, []))]
/-- 66: CausalPlaces$Writes.putAll(LCausalPlaces$Writes;)V -/
def am_t66 : List (Nat × aI) := [(0, (0, 1, 0, 0, [])), (1, (2, 2, 1, 0, [])), (2, (1, 2, 1, 0, [])), (3, (0, 2, 0, 8, [])), (5, (13, 3, 38, 0, [])), (8, (33, 0, 1, 0, [])), (9, (18, 6, 0, 0, [])), (12, (1, 2, 1, 0, [])), (13, (33, 1, 1, 0, [])), (14, (18, 6, 0, 0, [])), (17, (1, 2, 1, 0, [])), (18, (24, 0, 0, 0, [])), (19, (25, 0, 0, 0, [])), (20, (33, 0, 1, 0, [])), (21, (18, 6, 1, 0, [])), (24, (1, 2, 1, 0, [])), (25, (33, 1, 1, 0, [])), (26, (18, 6, 1, 0, [])), (29, (1, 2, 1, 0, [])), (30, (22, 0, 0, 0, [])), (31, (23, 0, 0, 0, [])), (32, (3, 2, 3, 1, [])), (35, (14, 2, 0, 0, [])), (38, (53, 0, 0, 0, []))]
/-- 67: CausalPlaces$Writes.hasKey(I)Z -/
def am_t67 : List (Nat × aI) := [(0, (1, 1, 1, 0, [])), (1, (61, 22, 1, 0, [])), (4, (12, 0, 20, 0, [])), (7, (33, 0, 1, 0, [])), (8, (18, 6, 0, 0, [])), (11, (1, 1, 1, 0, [])), (12, (24, 0, 0, 0, [])), (13, (12, 0, 20, 0, [])), (16, (0, 1, 0, 1, [])), (17, (14, 21, 0, 0, [])), (20, (0, 1, 0, 0, [])), (21, (51, 0, 0, 0, []))]
/-- 68: CausalPlaces$Writes.intFor(I)I -/
def am_t68 : List (Nat × aI) := [(0, (33, 0, 1, 0, [])), (1, (1, 1, 1, 0, [])), (2, (60, 67, 1, 0, [])), (5, (12, 0, 17, 0, [])), (8, (33, 0, 1, 0, [])), (9, (18, 6, 1, 0, [])), (12, (1, 1, 1, 0, [])), (13, (22, 0, 0, 0, [])), (14, (14, 18, 0, 0, [])), (17, (0, 1, 0, 0, [])), (18, (50, 0, 0, 0, []))]
/-- 69: CausalPlaces$Writes.countKeys()I -/
def am_t69 : List (Nat × aI) := [(0, (0, 1, 0, 0, [])), (1, (2, 1, 1, 0, [])), (2, (0, 1, 0, 0, [])), (3, (2, 2, 1, 0, [])), (4, (1, 2, 1, 0, [])), (5, (0, 2, 0, 8, [])), (7, (13, 3, 28, 0, [])), (10, (33, 0, 1, 0, [])), (11, (18, 6, 0, 0, [])), (14, (1, 2, 1, 0, [])), (15, (24, 0, 0, 0, [])), (16, (12, 0, 22, 0, [])), (19, (3, 1, 3, 1, [])), (22, (3, 2, 3, 1, [])), (25, (14, 4, 0, 0, [])), (28, (1, 1, 1, 0, [])), (29, (50, 0, 0, 0, []))]
/-- 70: CausalPlaces$Writes.hasKeyOf(LCausalPlaces$Server;)Z -/
def am_t70 : List (Nat × aI) := [(0, (0, 1, 0, 0, [])), (1, (2, 2, 1, 0, [])), (2, (1, 2, 1, 0, [])), (3, (0, 2, 0, 8, [])), (5, (13, 3, 33, 0, [])), (8, (33, 0, 1, 0, [])), (9, (18, 6, 0, 0, [])), (12, (1, 2, 1, 0, [])), (13, (24, 0, 0, 0, [])), (14, (12, 0, 27, 0, [])), (17, (33, 1, 1, 0, [])), (18, (1, 2, 1, 0, [])), (19, (60, 44, 1, 0, [])), (22, (12, 0, 27, 0, [])), (25, (0, 1, 0, 1, [])), (26, (51, 0, 0, 0, [])), (27, (3, 2, 3, 1, [])), (30, (14, 2, 0, 0, [])), (33, (0, 1, 0, 0, [])), (34, (51, 0, 0, 0, []))]
/-- 71: CausalPlacesModel.<init>()V -/
def am_t71 : List (Nat × aI) := [(0, (33, 0, 1, 0, [])), (1, (35, 0, 0, 0, [])), (4, (33, 0, 1, 0, [])), (5, (0, 3, 0, 200, [])), (8, (30, 0, 0, 0, [])), (10, (21, 7, 1, 0, [])), (13, (33, 0, 1, 0, [])), (14, (0, 3, 0, 600, [])), (17, (30, 0, 0, 0, [])), (19, (21, 7, 2, 0, [])), (22, (33, 0, 1, 0, [])), (23, (0, 3, 0, 200, [])), (26, (30, 0, 0, 0, [])), (28, (21, 7, 3, 0, [])), (31, (33, 0, 1, 0, [])), (32, (0, 3, 0, 200, [])), (35, (30, 0, 0, 0, [])), (37, (21, 7, 4, 0, [])), (40, (33, 0, 1, 0, [])), (41, (0, 3, 0, 1600, [])), (44, (30, 0, 0, 0, [])), (46, (21, 7, 5, 0, [])), (49, (33, 0, 1, 0, [])), (50, (0, 3, 0, 200, [])), (53, (30, 0, 0, 0, [])), (55, (21, 7, 6, 0, [])), (58, (33, 0, 1, 0, [])), (59, (0, 3, 0, 200, [])), (62, (30, 0, 0, 0, [])), (64, (21, 7, 7, 0, [])), (67, (33, 0, 1, 0, [])), (68, (0, 3, 0, 200, [])), (71, (30, 1, 0, 0, [])), (73, (21, 7, 8, 0, [])), (76, (33, 0, 1, 0, [])), (77, (0, 3, 0, 200, [])), (80, (30, 0, 0, 0, [])), (82, (21, 7, 9, 0, [])), (85, (33, 0, 1, 0, [])), (86, (0, 2, 0, 6, [])), (88, (30, 0, 0, 0, [])), (90, (21, 7, 10, 0, [])), (93, (33, 0, 1, 0, [])), (94, (0, 3, 0, 1200, [])), (97, (30, 0, 0, 0, [])), (99, (21, 7, 11, 0, [])), (102, (33, 0, 1, 0, [])), (103, (0, 3, 0, 1200, [])), (106, (30, 0, 0, 0, [])), (108, (21, 7, 12, 0, [])), (111, (33, 0, 1, 0, [])), (112, (0, 2, 0, 18, [])), (114, (30, 0, 0, 0, [])), (116, (21, 7, 13, 0, [])), (119, (33, 0, 1, 0, [])), (120, (0, 2, 0, 18, [])), (122, (30, 0, 0, 0, [])), (124, (21, 7, 14, 0, [])), (127, (33, 0, 1, 0, [])), (128, (0, 2, 0, 6, [])), (130, (30, 0, 0, 0, [])), (132, (21, 7, 15, 0, [])), (135, (33, 0, 1, 0, [])), (136, (0, 2, 0, 6, [])), (138, (30, 0, 0, 0, [])), (140, (21, 7, 16, 0, [])), (143, (33, 0, 1, 0, [])), (144, (0, 2, 0, 18, [])), (146, (30, 0, 0, 0, [])), (148, (21, 7, 17, 0, [])), (151, (33, 0, 1, 0, [])), (152, (0, 2, 0, 48, [])), (154, (30, 0, 0, 0, [])), (156, (21, 7, 18, 0, [])), (159, (33, 0, 1, 0, [])), (160, (0, 2, 0, 6, [])), (162, (30, 0, 0, 0, [])), (164, (21, 7, 19, 0, [])), (167, (33, 0, 1, 0, [])), (168, (0, 2, 0, 48, [])), (170, (30, 0, 0, 0, [])), (172, (21, 7, 20, 0, [])), (175, (33, 0, 1, 0, [])), (176, (0, 2, 0, 6, [])), (178, (30, 0, 0, 0, [])), (180, (21, 7, 21, 0, [])), (183, (33, 0, 1, 0, [])), (184, (0, 3, 0, 448, [])), (187, (30, 0, 0, 0, [])), (189, (21, 7, 23, 0, [])), (192, (0, 1, 0, 0, [])), (193, (2, 1, 1, 0, [])), (194, (1, 1, 1, 0, [])), (195, (33, 0, 1, 0, [])), (196, (18, 7, 18, 0, [])), (199, (28, 0, 0, 0, [])), (200, (13, 3, 216, 0, [])), (203, (33, 0, 1, 0, [])), (204, (18, 7, 18, 0, [])), (207, (1, 1, 1, 0, [])), (208, (0, 1, 0, (-1), [])), (209, (23, 0, 0, 0, [])), (210, (3, 1, 3, 1, [])), (213, (14, 194, 0, 0, [])), (216, (53, 0, 0, 0, []))]
/-- 72: CausalPlacesModel.isClient(I)Z -/
def am_t72 : List (Nat × aI) := [(0, (1, 0, 1, 0, [])), (1, (12, 2, 14, 0, [])), (4, (1, 0, 1, 0, [])), (5, (0, 2, 0, 6, [])), (7, (13, 3, 14, 0, [])), (10, (0, 1, 0, 1, [])), (11, (14, 15, 0, 0, [])), (14, (0, 1, 0, 0, [])), (15, (51, 0, 0, 0, []))]
/-- 73: CausalPlacesModel.isServer(I)Z -/
def am_t73 : List (Nat × aI) := [(0, (1, 0, 1, 0, [])), (1, (12, 2, 14, 0, [])), (4, (1, 0, 1, 0, [])), (5, (0, 2, 0, 6, [])), (7, (13, 3, 14, 0, [])), (10, (0, 1, 0, 1, [])), (11, (14, 15, 0, 0, [])), (14, (0, 1, 0, 0, [])), (15, (51, 0, 0, 0, []))]
/-- 74: CausalPlacesModel.isKey(I)Z -/
def am_t74 : List (Nat × aI) := [(0, (1, 0, 1, 0, [])), (1, (12, 2, 14, 0, [])), (4, (1, 0, 1, 0, [])), (5, (0, 2, 0, 8, [])), (7, (13, 3, 14, 0, [])), (10, (0, 1, 0, 1, [])), (11, (14, 15, 0, 0, [])), (14, (0, 1, 0, 0, [])), (15, (51, 0, 0, 0, []))]
/-- 75: CausalPlacesModel.placeOf(I)I -/
def am_t75 : List (Nat × aI) := [(0, (1, 0, 1, 0, [])), (1, (0, 1, 0, 2, [])), (2, (5, 0, 0, 0, [])), (3, (50, 0, 0, 0, []))]
/-- 76: CausalPlacesModel.keeps(II)Z -/
def am_t76 : List (Nat × aI) := [(0, (1, 1, 1, 0, [])), (1, (0, 1, 0, 2, [])), (2, (6, 0, 0, 0, [])), (3, (1, 0, 1, 0, [])), (4, (0, 1, 0, 2, [])), (5, (6, 0, 0, 0, [])), (6, (13, 1, 13, 0, [])), (9, (0, 1, 0, 1, [])), (10, (14, 14, 0, 0, [])), (13, (0, 1, 0, 0, [])), (14, (51, 0, 0, 0, []))]
/-- 77: CausalPlacesModel.isLink(II)Z -/
def am_t77 : List (Nat × aI) := [(0, (1, 0, 1, 0, [])), (1, (61, 73, 1, 0, [])), (4, (12, 0, 43, 0, [])), (7, (1, 1, 1, 0, [])), (8, (61, 73, 1, 0, [])), (11, (12, 0, 43, 0, [])), (14, (1, 0, 1, 0, [])), (15, (1, 1, 1, 0, [])), (16, (13, 0, 43, 0, [])), (19, (1, 0, 1, 0, [])), (20, (61, 75, 1, 0, [])), (23, (1, 1, 1, 0, [])), (24, (61, 75, 1, 0, [])), (27, (13, 0, 39, 0, [])), (30, (1, 0, 1, 0, [])), (31, (0, 1, 0, 2, [])), (32, (6, 0, 0, 0, [])), (33, (1, 1, 1, 0, [])), (34, (0, 1, 0, 2, [])), (35, (6, 0, 0, 0, [])), (36, (13, 1, 43, 0, [])), (39, (0, 1, 0, 1, [])), (40, (14, 44, 0, 0, [])), (43, (0, 1, 0, 0, [])), (44, (51, 0, 0, 0, []))]
/-- 78: CausalPlacesModel.placeOfTransaction(I)I -/
def am_t78 : List (Nat × aI) := [(0, (33, 0, 1, 0, [])), (1, (18, 7, 1, 0, [])), (4, (1, 1, 1, 0, [])), (5, (22, 0, 0, 0, [])), (6, (0, 1, 0, 3, [])), (7, (6, 0, 0, 0, [])), (8, (50, 0, 0, 0, []))]
/-- 79: CausalPlacesModel.writesFor(II)Z -/
def am_t79 : List (Nat × aI) := [(0, (33, 0, 1, 0, [])), (1, (18, 7, 4, 0, [])), (4, (1, 1, 1, 0, [])), (5, (22, 0, 0, 0, [])), (6, (1, 2, 1, 0, [])), (7, (4, 7, 0, 0, [])), (8, (0, 1, 0, 1, [])), (9, (4, 3, 0, 0, [])), (10, (0, 1, 0, 1, [])), (11, (13, 1, 18, 0, [])), (14, (0, 1, 0, 1, [])), (15, (14, 19, 0, 0, [])), (18, (0, 1, 0, 0, [])), (19, (51, 0, 0, 0, []))]
/-- 80: CausalPlacesModel.stamp(II)I -/
def am_t80 : List (Nat × aI) := [(0, (33, 0, 1, 0, [])), (1, (18, 7, 8, 0, [])), (4, (1, 1, 1, 0, [])), (5, (24, 0, 0, 0, [])), (6, (12, 0, 27, 0, [])), (9, (1, 2, 1, 0, [])), (10, (33, 0, 1, 0, [])), (11, (1, 1, 1, 0, [])), (12, (60, 78, 1, 0, [])), (15, (13, 1, 27, 0, [])), (18, (33, 0, 1, 0, [])), (19, (18, 7, 9, 0, [])), (22, (1, 1, 1, 0, [])), (23, (22, 0, 0, 0, [])), (24, (14, 37, 0, 0, [])), (27, (33, 0, 1, 0, [])), (28, (18, 7, 2, 0, [])), (31, (0, 1, 0, 3, [])), (32, (1, 1, 1, 0, [])), (33, (4, 2, 0, 0, [])), (34, (1, 2, 1, 0, [])), (35, (4, 0, 0, 0, [])), (36, (22, 0, 0, 0, [])), (37, (50, 0, 0, 0, []))]
/-- 81: CausalPlacesModel.isSeen(II)Z -/
def am_t81 : List (Nat × aI) := [(0, (0, 1, 0, 0, [])), (1, (2, 3, 1, 0, [])), (2, (1, 3, 1, 0, [])), (3, (0, 1, 0, 3, [])), (4, (13, 3, 34, 0, [])), (7, (33, 0, 1, 0, [])), (8, (1, 1, 1, 0, [])), (9, (1, 3, 1, 0, [])), (10, (60, 80, 2, 0, [])), (13, (33, 0, 1, 0, [])), (14, (18, 7, 17, 0, [])), (17, (0, 1, 0, 3, [])), (18, (1, 2, 1, 0, [])), (19, (4, 2, 0, 0, [])), (20, (1, 3, 1, 0, [])), (21, (4, 0, 0, 0, [])), (22, (22, 0, 0, 0, [])), (23, (13, 5, 28, 0, [])), (26, (0, 1, 0, 0, [])), (27, (51, 0, 0, 0, [])), (28, (3, 3, 3, 1, [])), (31, (14, 2, 0, 0, [])), (34, (0, 1, 0, 1, [])), (35, (51, 0, 0, 0, []))]
/-- 82: CausalPlacesModel.isNewer(II)Z -/
def am_t82 : List (Nat × aI) := [(0, (33, 0, 1, 0, [])), (1, (18, 7, 9, 0, [])), (4, (1, 1, 1, 0, [])), (5, (22, 0, 0, 0, [])), (6, (33, 0, 1, 0, [])), (7, (18, 7, 9, 0, [])), (10, (1, 2, 1, 0, [])), (11, (22, 0, 0, 0, [])), (12, (13, 0, 36, 0, [])), (15, (33, 0, 1, 0, [])), (16, (18, 7, 9, 0, [])), (19, (1, 1, 1, 0, [])), (20, (22, 0, 0, 0, [])), (21, (33, 0, 1, 0, [])), (22, (18, 7, 9, 0, [])), (25, (1, 2, 1, 0, [])), (26, (22, 0, 0, 0, [])), (27, (13, 5, 34, 0, [])), (30, (0, 1, 0, 1, [])), (31, (14, 35, 0, 0, [])), (34, (0, 1, 0, 0, [])), (35, (51, 0, 0, 0, [])), (36, (33, 0, 1, 0, [])), (37, (1, 1, 1, 0, [])), (38, (60, 78, 1, 0, [])), (41, (33, 0, 1, 0, [])), (42, (1, 2, 1, 0, [])), (43, (60, 78, 1, 0, [])), (46, (13, 0, 68, 0, [])), (49, (33, 0, 1, 0, [])), (50, (1, 1, 1, 0, [])), (51, (60, 78, 1, 0, [])), (54, (33, 0, 1, 0, [])), (55, (1, 2, 1, 0, [])), (56, (60, 78, 1, 0, [])), (59, (13, 5, 66, 0, [])), (62, (0, 1, 0, 1, [])), (63, (14, 67, 0, 0, [])), (66, (0, 1, 0, 0, [])), (67, (51, 0, 0, 0, [])), (68, (1, 1, 1, 0, [])), (69, (1, 2, 1, 0, [])), (70, (13, 5, 77, 0, [])), (73, (0, 1, 0, 1, [])), (74, (14, 78, 0, 0, [])), (77, (0, 1, 0, 0, [])), (78, (51, 0, 0, 0, []))]
/-- 83: CausalPlacesModel.hasVersion(III)Z -/
def am_t83 : List (Nat × aI) := [(0, (33, 0, 1, 0, [])), (1, (18, 7, 11, 0, [])), (4, (0, 3, 0, 200, [])), (7, (1, 1, 1, 0, [])), (8, (4, 2, 0, 0, [])), (9, (1, 2, 1, 0, [])), (10, (4, 0, 0, 0, [])), (11, (22, 0, 0, 0, [])), (12, (0, 1, 0, 3, [])), (13, (13, 1, 29, 0, [])), (16, (33, 0, 1, 0, [])), (17, (1, 2, 1, 0, [])), (18, (1, 3, 1, 0, [])), (19, (60, 79, 2, 0, [])), (22, (12, 0, 29, 0, [])), (25, (0, 1, 0, 1, [])), (26, (14, 30, 0, 0, [])), (29, (0, 1, 0, 0, [])), (30, (51, 0, 0, 0, []))]
/-- 84: CausalPlacesModel.concerns(II)Z -/
def am_t84 : List (Nat × aI) := [(0, (0, 1, 0, 0, [])), (1, (2, 3, 1, 0, [])), (2, (1, 3, 1, 0, [])), (3, (0, 2, 0, 8, [])), (5, (13, 3, 33, 0, [])), (8, (33, 0, 1, 0, [])), (9, (1, 1, 1, 0, [])), (10, (1, 3, 1, 0, [])), (11, (60, 79, 2, 0, [])), (14, (12, 0, 27, 0, [])), (17, (1, 2, 1, 0, [])), (18, (1, 3, 1, 0, [])), (19, (61, 76, 2, 0, [])), (22, (12, 0, 27, 0, [])), (25, (0, 1, 0, 1, [])), (26, (51, 0, 0, 0, [])), (27, (3, 3, 3, 1, [])), (30, (14, 2, 0, 0, [])), (33, (0, 1, 0, 0, [])), (34, (51, 0, 0, 0, []))]
/-- 85: CausalPlacesModel.send(IIIIIII)V -/
def am_t85 : List (Nat × aI) := [(0, (1, 1, 1, 0, [])), (1, (1, 2, 1, 0, [])), (2, (13, 1, 21, 0, [])), (5, (33, 0, 1, 0, [])), (6, (1, 1, 1, 0, [])), (7, (1, 2, 1, 0, [])), (8, (1, 3, 1, 0, [])), (9, (1, 4, 2, 0, [])), (11, (1, 5, 2, 0, [])), (13, (1, 6, 2, 0, [])), (15, (1, 7, 2, 0, [])), (17, (60, 87, 7, 0, [])), (20, (53, 0, 0, 0, [])), (21, (0, 2, 0, 7, [])), (23, (33, 0, 1, 0, [])), (24, (18, 7, 22, 0, [])), (27, (0, 1, 0, 1, [])), (28, (4, 0, 0, 0, [])), (29, (4, 2, 0, 0, [])), (30, (33, 0, 1, 0, [])), (31, (18, 7, 23, 0, [])), (34, (28, 0, 0, 0, [])), (35, (13, 5, 86, 0, [])), (38, (0, 1, 0, 2, [])), (39, (33, 0, 1, 0, [])), (40, (18, 7, 23, 0, [])), (43, (28, 0, 0, 0, [])), (44, (4, 2, 0, 0, [])), (45, (30, 0, 0, 0, [])), (47, (34, 8, 2, 0, [])), (49, (0, 1, 0, 0, [])), (50, (2, 9, 2, 0, [])), (52, (1, 9, 2, 0, [])), (54, (33, 0, 1, 0, [])), (55, (18, 7, 23, 0, [])), (58, (28, 0, 0, 0, [])), (59, (13, 3, 80, 0, [])), (62, (33, 8, 2, 0, [])), (64, (1, 9, 2, 0, [])), (66, (33, 0, 1, 0, [])), (67, (18, 7, 23, 0, [])), (70, (1, 9, 2, 0, [])), (72, (22, 0, 0, 0, [])), (73, (23, 0, 0, 0, [])), (74, (3, 9, 3, 1, [])), (77, (14, 52, 0, 0, [])), (80, (33, 0, 1, 0, [])), (81, (33, 8, 2, 0, [])), (83, (21, 7, 23, 0, [])), (86, (0, 2, 0, 7, [])), (88, (33, 0, 1, 0, [])), (89, (18, 7, 22, 0, [])), (92, (4, 2, 0, 0, [])), (93, (2, 8, 2, 0, [])), (95, (33, 0, 1, 0, [])), (96, (18, 7, 23, 0, [])), (99, (1, 8, 2, 0, [])), (101, (1, 1, 1, 0, [])), (102, (23, 0, 0, 0, [])), (103, (33, 0, 1, 0, [])), (104, (18, 7, 23, 0, [])), (107, (1, 8, 2, 0, [])), (109, (0, 1, 0, 1, [])), (110, (4, 0, 0, 0, [])), (111, (1, 2, 1, 0, [])), (112, (23, 0, 0, 0, [])), (113, (33, 0, 1, 0, [])), (114, (18, 7, 23, 0, [])), (117, (1, 8, 2, 0, [])), (119, (0, 1, 0, 2, [])), (120, (4, 0, 0, 0, [])), (121, (1, 3, 1, 0, [])), (122, (23, 0, 0, 0, [])), (123, (33, 0, 1, 0, [])), (124, (18, 7, 23, 0, [])), (127, (1, 8, 2, 0, [])), (129, (0, 1, 0, 3, [])), (130, (4, 0, 0, 0, [])), (131, (1, 4, 2, 0, [])), (133, (23, 0, 0, 0, [])), (134, (33, 0, 1, 0, [])), (135, (18, 7, 23, 0, [])), (138, (1, 8, 2, 0, [])), (140, (0, 1, 0, 4, [])), (141, (4, 0, 0, 0, [])), (142, (1, 5, 2, 0, [])), (144, (23, 0, 0, 0, [])), (145, (33, 0, 1, 0, [])), (146, (18, 7, 23, 0, [])), (149, (1, 8, 2, 0, [])), (151, (0, 1, 0, 5, [])), (152, (4, 0, 0, 0, [])), (153, (1, 6, 2, 0, [])), (155, (23, 0, 0, 0, [])), (156, (33, 0, 1, 0, [])), (157, (18, 7, 23, 0, [])), (160, (1, 8, 2, 0, [])), (162, (0, 2, 0, 6, [])), (164, (4, 0, 0, 0, [])), (165, (1, 7, 2, 0, [])), (167, (23, 0, 0, 0, [])), (168, (33, 0, 1, 0, [])), (169, (7, 0, 0, 0, [])), (170, (18, 7, 22, 0, [])), (173, (0, 1, 0, 1, [])), (174, (4, 0, 0, 0, [])), (175, (19, 7, 22, 0, [])), (178, (53, 0, 0, 0, []))]
/-- 86: CausalPlacesModel.firstOf(II)I -/
def am_t86 : List (Nat × aI) := [(0, (0, 1, 0, 0, [])), (1, (2, 3, 1, 0, [])), (2, (1, 3, 1, 0, [])), (3, (33, 0, 1, 0, [])), (4, (18, 7, 22, 0, [])), (7, (13, 3, 46, 0, [])), (10, (33, 0, 1, 0, [])), (11, (18, 7, 23, 0, [])), (14, (0, 2, 0, 7, [])), (16, (1, 3, 1, 0, [])), (17, (4, 2, 0, 0, [])), (18, (22, 0, 0, 0, [])), (19, (1, 1, 1, 0, [])), (20, (13, 1, 40, 0, [])), (23, (33, 0, 1, 0, [])), (24, (18, 7, 23, 0, [])), (27, (0, 2, 0, 7, [])), (29, (1, 3, 1, 0, [])), (30, (4, 2, 0, 0, [])), (31, (0, 1, 0, 1, [])), (32, (4, 0, 0, 0, [])), (33, (22, 0, 0, 0, [])), (34, (1, 2, 1, 0, [])), (35, (13, 1, 40, 0, [])), (38, (1, 3, 1, 0, [])), (39, (50, 0, 0, 0, [])), (40, (3, 3, 3, 1, [])), (43, (14, 2, 0, 0, [])), (46, (0, 1, 0, (-1), [])), (47, (50, 0, 0, 0, []))]
/-- 87: CausalPlacesModel.take(IIIIIII)V -/
def am_t87 : List (Nat × aI) := [(0, (1, 3, 1, 0, [])), (1, (32, 106, 0, 0, [(1, 36), (2, 47), (3, 59), (4, 71), (5, 88)])), (36, (33, 0, 1, 0, [])), (37, (1, 2, 1, 0, [])), (38, (1, 1, 1, 0, [])), (39, (1, 4, 2, 0, [])), (41, (60, 88, 3, 0, [])), (44, (14, 140, 0, 0, [])), (47, (33, 0, 1, 0, [])), (48, (1, 2, 1, 0, [])), (49, (1, 4, 2, 0, [])), (51, (1, 5, 2, 0, [])), (53, (60, 89, 3, 0, [])), (56, (14, 140, 0, 0, [])), (59, (33, 0, 1, 0, [])), (60, (1, 2, 1, 0, [])), (61, (1, 4, 2, 0, [])), (63, (1, 5, 2, 0, [])), (65, (60, 90, 3, 0, [])), (68, (14, 140, 0, 0, [])), (71, (33, 0, 1, 0, [])), (72, (18, 7, 11, 0, [])), (75, (0, 3, 0, 200, [])), (78, (1, 2, 1, 0, [])), (79, (4, 2, 0, 0, [])), (80, (1, 4, 2, 0, [])), (82, (4, 0, 0, 0, [])), (83, (0, 1, 0, 3, [])), (84, (23, 0, 0, 0, [])), (85, (14, 140, 0, 0, [])), (88, (33, 0, 1, 0, [])), (89, (18, 7, 13, 0, [])), (92, (0, 1, 0, 3, [])), (93, (1, 2, 1, 0, [])), (94, (4, 2, 0, 0, [])), (95, (1, 1, 1, 0, [])), (96, (61, 75, 1, 0, [])), (99, (4, 0, 0, 0, [])), (100, (1, 4, 2, 0, [])), (102, (23, 0, 0, 0, [])), (103, (14, 140, 0, 0, [])), (106, (33, 0, 1, 0, [])), (107, (18, 7, 14, 0, [])), (110, (0, 1, 0, 3, [])), (111, (1, 2, 1, 0, [])), (112, (4, 2, 0, 0, [])), (113, (1, 5, 2, 0, [])), (115, (23, 0, 0, 0, [])), (116, (33, 0, 1, 0, [])), (117, (18, 7, 14, 0, [])), (120, (0, 1, 0, 3, [])), (121, (1, 2, 1, 0, [])), (122, (4, 2, 0, 0, [])), (123, (0, 1, 0, 1, [])), (124, (4, 0, 0, 0, [])), (125, (1, 6, 2, 0, [])), (127, (23, 0, 0, 0, [])), (128, (33, 0, 1, 0, [])), (129, (18, 7, 14, 0, [])), (132, (0, 1, 0, 3, [])), (133, (1, 2, 1, 0, [])), (134, (4, 2, 0, 0, [])), (135, (0, 1, 0, 2, [])), (136, (4, 0, 0, 0, [])), (137, (1, 7, 2, 0, [])), (139, (23, 0, 0, 0, [])), (140, (53, 0, 0, 0, []))]
/-- 88: CausalPlacesModel.prepare(III)V -/
def am_t88 : List (Nat × aI) := [(0, (33, 0, 1, 0, [])), (1, (18, 7, 10, 0, [])), (4, (1, 1, 1, 0, [])), (5, (22, 0, 0, 0, [])), (6, (33, 0, 1, 0, [])), (7, (18, 7, 3, 0, [])), (10, (1, 3, 1, 0, [])), (11, (22, 0, 0, 0, [])), (12, (36, 0, 0, 0, [])), (15, (2, 4, 2, 0, [])), (17, (0, 1, 0, 0, [])), (18, (2, 5, 2, 0, [])), (20, (1, 5, 2, 0, [])), (22, (0, 1, 0, 3, [])), (23, (13, 3, 50, 0, [])), (26, (1, 4, 2, 0, [])), (28, (33, 0, 1, 0, [])), (29, (18, 7, 2, 0, [])), (32, (0, 1, 0, 3, [])), (33, (1, 3, 1, 0, [])), (34, (4, 2, 0, 0, [])), (35, (1, 5, 2, 0, [])), (37, (4, 0, 0, 0, [])), (38, (22, 0, 0, 0, [])), (39, (36, 0, 0, 0, [])), (42, (2, 4, 2, 0, [])), (44, (3, 5, 3, 1, [])), (47, (14, 20, 0, 0, [])), (50, (33, 0, 1, 0, [])), (51, (18, 7, 10, 0, [])), (54, (1, 1, 1, 0, [])), (55, (1, 4, 2, 0, [])), (57, (0, 1, 0, 1, [])), (58, (4, 0, 0, 0, [])), (59, (23, 0, 0, 0, [])), (60, (33, 0, 1, 0, [])), (61, (18, 7, 11, 0, [])), (64, (0, 3, 0, 200, [])), (67, (1, 1, 1, 0, [])), (68, (4, 2, 0, 0, [])), (69, (1, 3, 1, 0, [])), (70, (4, 0, 0, 0, [])), (71, (0, 1, 0, 1, [])), (72, (23, 0, 0, 0, [])), (73, (33, 0, 1, 0, [])), (74, (18, 7, 12, 0, [])), (77, (0, 3, 0, 200, [])), (80, (1, 1, 1, 0, [])), (81, (4, 2, 0, 0, [])), (82, (1, 3, 1, 0, [])), (83, (4, 0, 0, 0, [])), (84, (1, 4, 2, 0, [])), (86, (0, 1, 0, 1, [])), (87, (4, 0, 0, 0, [])), (88, (23, 0, 0, 0, [])), (89, (33, 0, 1, 0, [])), (90, (1, 1, 1, 0, [])), (91, (1, 2, 1, 0, [])), (92, (0, 1, 0, 2, [])), (93, (1, 3, 1, 0, [])), (94, (1, 4, 2, 0, [])), (96, (0, 1, 0, 1, [])), (97, (4, 0, 0, 0, [])), (98, (0, 1, 0, 0, [])), (99, (0, 1, 0, 0, [])), (100, (60, 85, 7, 0, [])), (103, (53, 0, 0, 0, []))]
/-- 89: CausalPlacesModel.prepared(III)V -/
def am_t89 : List (Nat × aI) := [(0, (33, 0, 1, 0, [])), (1, (18, 7, 7, 0, [])), (4, (1, 2, 1, 0, [])), (5, (33, 0, 1, 0, [])), (6, (18, 7, 7, 0, [])), (9, (1, 2, 1, 0, [])), (10, (22, 0, 0, 0, [])), (11, (1, 3, 1, 0, [])), (12, (36, 0, 0, 0, [])), (15, (23, 0, 0, 0, [])), (16, (33, 0, 1, 0, [])), (17, (18, 7, 6, 0, [])), (20, (1, 2, 1, 0, [])), (21, (10, 0, 0, 0, [])), (22, (22, 0, 0, 0, [])), (23, (0, 1, 0, 1, [])), (24, (4, 1, 0, 0, [])), (25, (23, 0, 0, 0, [])), (26, (33, 0, 1, 0, [])), (27, (18, 7, 6, 0, [])), (30, (1, 2, 1, 0, [])), (31, (22, 0, 0, 0, [])), (32, (12, 5, 36, 0, [])), (35, (53, 0, 0, 0, [])), (36, (33, 0, 1, 0, [])), (37, (18, 7, 8, 0, [])), (40, (1, 2, 1, 0, [])), (41, (0, 1, 0, 1, [])), (42, (25, 0, 0, 0, [])), (43, (33, 0, 1, 0, [])), (44, (18, 7, 9, 0, [])), (47, (1, 2, 1, 0, [])), (48, (33, 0, 1, 0, [])), (49, (18, 7, 7, 0, [])), (52, (1, 2, 1, 0, [])), (53, (22, 0, 0, 0, [])), (54, (23, 0, 0, 0, [])), (55, (33, 0, 1, 0, [])), (56, (18, 7, 1, 0, [])), (59, (1, 2, 1, 0, [])), (60, (22, 0, 0, 0, [])), (61, (2, 4, 2, 0, [])), (63, (33, 0, 1, 0, [])), (64, (18, 7, 15, 0, [])), (67, (1, 4, 2, 0, [])), (69, (0, 1, 0, 0, [])), (70, (23, 0, 0, 0, [])), (71, (33, 0, 1, 0, [])), (72, (18, 7, 16, 0, [])), (75, (1, 4, 2, 0, [])), (77, (33, 0, 1, 0, [])), (78, (18, 7, 9, 0, [])), (81, (1, 2, 1, 0, [])), (82, (22, 0, 0, 0, [])), (83, (23, 0, 0, 0, [])), (84, (0, 1, 0, 0, [])), (85, (2, 5, 2, 0, [])), (87, (1, 5, 2, 0, [])), (89, (0, 2, 0, 8, [])), (91, (13, 3, 124, 0, [])), (94, (33, 0, 1, 0, [])), (95, (1, 2, 1, 0, [])), (96, (1, 5, 2, 0, [])), (98, (60, 79, 2, 0, [])), (101, (12, 0, 118, 0, [])), (104, (33, 0, 1, 0, [])), (105, (18, 7, 18, 0, [])), (108, (0, 2, 0, 8, [])), (110, (1, 4, 2, 0, [])), (112, (4, 2, 0, 0, [])), (113, (1, 5, 2, 0, [])), (115, (4, 0, 0, 0, [])), (116, (1, 2, 1, 0, [])), (117, (23, 0, 0, 0, [])), (118, (3, 5, 3, 1, [])), (121, (14, 87, 0, 0, [])), (124, (1, 1, 1, 0, [])), (125, (2, 5, 2, 0, [])), (127, (1, 5, 2, 0, [])), (129, (1, 1, 1, 0, [])), (130, (0, 1, 0, 2, [])), (131, (4, 0, 0, 0, [])), (132, (13, 3, 168, 0, [])), (135, (33, 0, 1, 0, [])), (136, (1, 2, 1, 0, [])), (137, (1, 5, 2, 0, [])), (139, (60, 84, 2, 0, [])), (142, (12, 0, 162, 0, [])), (145, (33, 0, 1, 0, [])), (146, (1, 1, 1, 0, [])), (147, (1, 5, 2, 0, [])), (149, (0, 1, 0, 3, [])), (150, (1, 2, 1, 0, [])), (151, (33, 0, 1, 0, [])), (152, (18, 7, 9, 0, [])), (155, (1, 2, 1, 0, [])), (156, (22, 0, 0, 0, [])), (157, (0, 1, 0, 0, [])), (158, (0, 1, 0, 0, [])), (159, (60, 85, 7, 0, [])), (162, (3, 5, 3, 1, [])), (165, (14, 127, 0, 0, [])), (168, (53, 0, 0, 0, []))]
/-- 90: CausalPlacesModel.decided(III)V -/
def am_t90 : List (Nat × aI) := [(0, (33, 0, 1, 0, [])), (1, (18, 7, 11, 0, [])), (4, (0, 3, 0, 200, [])), (7, (1, 1, 1, 0, [])), (8, (4, 2, 0, 0, [])), (9, (1, 2, 1, 0, [])), (10, (4, 0, 0, 0, [])), (11, (0, 1, 0, 2, [])), (12, (23, 0, 0, 0, [])), (13, (33, 0, 1, 0, [])), (14, (18, 7, 12, 0, [])), (17, (0, 3, 0, 200, [])), (20, (1, 1, 1, 0, [])), (21, (4, 2, 0, 0, [])), (22, (1, 2, 1, 0, [])), (23, (4, 0, 0, 0, [])), (24, (1, 3, 1, 0, [])), (25, (23, 0, 0, 0, [])), (26, (33, 0, 1, 0, [])), (27, (18, 7, 10, 0, [])), (30, (1, 1, 1, 0, [])), (31, (33, 0, 1, 0, [])), (32, (18, 7, 10, 0, [])), (35, (1, 1, 1, 0, [])), (36, (22, 0, 0, 0, [])), (37, (1, 3, 1, 0, [])), (38, (36, 0, 0, 0, [])), (41, (23, 0, 0, 0, [])), (42, (33, 0, 1, 0, [])), (43, (1, 1, 1, 0, [])), (44, (60, 92, 1, 0, [])), (47, (53, 0, 0, 0, []))]
/-- 91: CausalPlacesModel.least(II)I -/
def am_t91 : List (Nat × aI) := [(0, (0, 1, 0, (-1), [])), (1, (2, 3, 1, 0, [])), (2, (0, 1, 0, 0, [])), (3, (2, 4, 2, 0, [])), (5, (1, 4, 2, 0, [])), (7, (33, 0, 1, 0, [])), (8, (18, 7, 0, 0, [])), (11, (13, 3, 73, 0, [])), (14, (33, 0, 1, 0, [])), (15, (18, 7, 11, 0, [])), (18, (0, 3, 0, 200, [])), (21, (1, 1, 1, 0, [])), (22, (4, 2, 0, 0, [])), (23, (1, 4, 2, 0, [])), (25, (4, 0, 0, 0, [])), (26, (22, 0, 0, 0, [])), (27, (1, 2, 1, 0, [])), (28, (13, 1, 67, 0, [])), (31, (1, 3, 1, 0, [])), (32, (0, 1, 0, (-1), [])), (33, (13, 0, 64, 0, [])), (36, (33, 0, 1, 0, [])), (37, (18, 7, 12, 0, [])), (40, (0, 3, 0, 200, [])), (43, (1, 1, 1, 0, [])), (44, (4, 2, 0, 0, [])), (45, (1, 4, 2, 0, [])), (47, (4, 0, 0, 0, [])), (48, (22, 0, 0, 0, [])), (49, (33, 0, 1, 0, [])), (50, (18, 7, 12, 0, [])), (53, (0, 3, 0, 200, [])), (56, (1, 1, 1, 0, [])), (57, (4, 2, 0, 0, [])), (58, (1, 3, 1, 0, [])), (59, (4, 0, 0, 0, [])), (60, (22, 0, 0, 0, [])), (61, (13, 3, 67, 0, [])), (64, (1, 4, 2, 0, [])), (66, (2, 3, 1, 0, [])), (67, (3, 4, 3, 1, [])), (70, (14, 5, 0, 0, [])), (73, (1, 3, 1, 0, [])), (74, (50, 0, 0, 0, []))]
/-- 92: CausalPlacesModel.apply(I)V -/
def am_t92 : List (Nat × aI) := [(0, (33, 0, 1, 0, [])), (1, (1, 1, 1, 0, [])), (2, (0, 1, 0, 1, [])), (3, (60, 91, 2, 0, [])), (6, (2, 2, 1, 0, [])), (7, (33, 0, 1, 0, [])), (8, (1, 1, 1, 0, [])), (9, (0, 1, 0, 2, [])), (10, (60, 91, 2, 0, [])), (13, (2, 3, 1, 0, [])), (14, (1, 3, 1, 0, [])), (15, (0, 1, 0, (-1), [])), (16, (13, 0, 116, 0, [])), (19, (1, 2, 1, 0, [])), (20, (0, 1, 0, (-1), [])), (21, (13, 0, 51, 0, [])), (24, (33, 0, 1, 0, [])), (25, (18, 7, 12, 0, [])), (28, (0, 3, 0, 200, [])), (31, (1, 1, 1, 0, [])), (32, (4, 2, 0, 0, [])), (33, (1, 3, 1, 0, [])), (34, (4, 0, 0, 0, [])), (35, (22, 0, 0, 0, [])), (36, (33, 0, 1, 0, [])), (37, (18, 7, 12, 0, [])), (40, (0, 3, 0, 200, [])), (43, (1, 1, 1, 0, [])), (44, (4, 2, 0, 0, [])), (45, (1, 2, 1, 0, [])), (46, (4, 0, 0, 0, [])), (47, (22, 0, 0, 0, [])), (48, (13, 3, 116, 0, [])), (51, (33, 0, 1, 0, [])), (52, (18, 7, 11, 0, [])), (55, (0, 3, 0, 200, [])), (58, (1, 1, 1, 0, [])), (59, (4, 2, 0, 0, [])), (60, (1, 3, 1, 0, [])), (61, (4, 0, 0, 0, [])), (62, (0, 1, 0, 3, [])), (63, (23, 0, 0, 0, [])), (64, (0, 1, 0, 0, [])), (65, (2, 4, 2, 0, [])), (67, (1, 4, 2, 0, [])), (69, (0, 1, 0, 3, [])), (70, (13, 3, 106, 0, [])), (73, (1, 4, 2, 0, [])), (75, (1, 1, 1, 0, [])), (76, (61, 75, 1, 0, [])), (79, (13, 0, 100, 0, [])), (82, (33, 0, 1, 0, [])), (83, (1, 1, 1, 0, [])), (84, (0, 1, 0, 2, [])), (85, (1, 4, 2, 0, [])), (87, (4, 2, 0, 0, [])), (88, (1, 1, 1, 0, [])), (89, (0, 1, 0, 2, [])), (90, (6, 0, 0, 0, [])), (91, (4, 0, 0, 0, [])), (92, (0, 1, 0, 4, [])), (93, (1, 3, 1, 0, [])), (94, (0, 1, 0, 0, [])), (95, (0, 1, 0, 0, [])), (96, (0, 1, 0, 0, [])), (97, (60, 85, 7, 0, [])), (100, (3, 4, 3, 1, [])), (103, (14, 67, 0, 0, [])), (106, (33, 0, 1, 0, [])), (107, (1, 1, 1, 0, [])), (108, (0, 1, 0, 2, [])), (109, (60, 91, 2, 0, [])), (112, (2, 3, 1, 0, [])), (113, (14, 14, 0, 0, [])), (116, (53, 0, 0, 0, []))]
/-- 93: CausalPlacesModel.stable(II)I -/
def am_t93 : List (Nat × aI) := [(0, (33, 0, 1, 0, [])), (1, (18, 7, 13, 0, [])), (4, (0, 1, 0, 3, [])), (5, (1, 1, 1, 0, [])), (6, (4, 2, 0, 0, [])), (7, (1, 2, 1, 0, [])), (8, (4, 0, 0, 0, [])), (9, (22, 0, 0, 0, [])), (10, (33, 0, 1, 0, [])), (11, (18, 7, 14, 0, [])), (14, (0, 1, 0, 3, [])), (15, (1, 1, 1, 0, [])), (16, (4, 2, 0, 0, [])), (17, (1, 2, 1, 0, [])), (18, (4, 0, 0, 0, [])), (19, (22, 0, 0, 0, [])), (20, (37, 0, 0, 0, [])), (23, (50, 0, 0, 0, []))]
/-- 94: CausalPlacesModel.start(I)I -/
def am_t94 : List (Nat × aI) := [(0, (1, 1, 1, 0, [])), (1, (61, 72, 1, 0, [])), (4, (12, 1, 9, 0, [])), (7, (0, 1, 0, (-1), [])), (8, (50, 0, 0, 0, [])), (9, (33, 0, 1, 0, [])), (10, (18, 7, 15, 0, [])), (13, (1, 1, 1, 0, [])), (14, (22, 0, 0, 0, [])), (15, (12, 0, 20, 0, [])), (18, (0, 1, 0, 0, [])), (19, (50, 0, 0, 0, [])), (20, (33, 0, 1, 0, [])), (21, (18, 7, 15, 0, [])), (24, (1, 1, 1, 0, [])), (25, (0, 1, 0, 1, [])), (26, (23, 0, 0, 0, [])), (27, (33, 0, 1, 0, [])), (28, (18, 7, 19, 0, [])), (31, (1, 1, 1, 0, [])), (32, (0, 1, 0, 0, [])), (33, (23, 0, 0, 0, [])), (34, (0, 1, 0, 0, [])), (35, (2, 2, 1, 0, [])), (36, (1, 2, 1, 0, [])), (37, (0, 1, 0, 3, [])), (38, (13, 3, 78, 0, [])), (41, (0, 1, 0, 3, [])), (42, (1, 1, 1, 0, [])), (43, (4, 2, 0, 0, [])), (44, (1, 2, 1, 0, [])), (45, (4, 0, 0, 0, [])), (46, (2, 3, 1, 0, [])), (47, (33, 0, 1, 0, [])), (48, (18, 7, 17, 0, [])), (51, (1, 3, 1, 0, [])), (52, (33, 0, 1, 0, [])), (53, (18, 7, 17, 0, [])), (56, (1, 3, 1, 0, [])), (57, (22, 0, 0, 0, [])), (58, (33, 0, 1, 0, [])), (59, (0, 1, 0, 2, [])), (60, (1, 1, 1, 0, [])), (61, (0, 1, 0, 3, [])), (62, (6, 0, 0, 0, [])), (63, (4, 2, 0, 0, [])), (64, (1, 2, 1, 0, [])), (65, (60, 93, 2, 0, [])), (68, (36, 0, 0, 0, [])), (71, (23, 0, 0, 0, [])), (72, (3, 2, 3, 1, [])), (75, (14, 36, 0, 0, [])), (78, (0, 1, 0, 0, [])), (79, (2, 2, 1, 0, [])), (80, (1, 2, 1, 0, [])), (81, (0, 2, 0, 8, [])), (83, (13, 3, 130, 0, [])), (86, (0, 2, 0, 8, [])), (88, (1, 1, 1, 0, [])), (89, (4, 2, 0, 0, [])), (90, (1, 2, 1, 0, [])), (91, (4, 0, 0, 0, [])), (92, (2, 3, 1, 0, [])), (93, (33, 0, 1, 0, [])), (94, (18, 7, 18, 0, [])), (97, (1, 3, 1, 0, [])), (98, (22, 0, 0, 0, [])), (99, (0, 1, 0, (-1), [])), (100, (13, 0, 124, 0, [])), (103, (33, 0, 1, 0, [])), (104, (33, 0, 1, 0, [])), (105, (18, 7, 18, 0, [])), (108, (1, 3, 1, 0, [])), (109, (22, 0, 0, 0, [])), (110, (1, 1, 1, 0, [])), (111, (60, 81, 2, 0, [])), (114, (12, 0, 124, 0, [])), (117, (33, 0, 1, 0, [])), (118, (18, 7, 18, 0, [])), (121, (1, 3, 1, 0, [])), (122, (0, 1, 0, (-1), [])), (123, (23, 0, 0, 0, [])), (124, (3, 2, 3, 1, [])), (127, (14, 80, 0, 0, [])), (130, (0, 1, 0, 1, [])), (131, (50, 0, 0, 0, []))]
/-- 95: CausalPlacesModel.read(II)I -/
def am_t95 : List (Nat × aI) := [(0, (1, 1, 1, 0, [])), (1, (61, 72, 1, 0, [])), (4, (12, 0, 24, 0, [])), (7, (1, 2, 1, 0, [])), (8, (61, 74, 1, 0, [])), (11, (12, 0, 24, 0, [])), (14, (33, 0, 1, 0, [])), (15, (18, 7, 15, 0, [])), (18, (1, 1, 1, 0, [])), (19, (22, 0, 0, 0, [])), (20, (0, 1, 0, 1, [])), (21, (13, 0, 26, 0, [])), (24, (0, 1, 0, (-1), [])), (25, (50, 0, 0, 0, [])), (26, (33, 0, 1, 0, [])), (27, (18, 7, 19, 0, [])), (30, (1, 1, 1, 0, [])), (31, (22, 0, 0, 0, [])), (32, (1, 2, 1, 0, [])), (33, (4, 7, 0, 0, [])), (34, (0, 1, 0, 1, [])), (35, (4, 3, 0, 0, [])), (36, (0, 1, 0, 1, [])), (37, (13, 1, 60, 0, [])), (40, (33, 0, 1, 0, [])), (41, (18, 7, 21, 0, [])), (44, (1, 1, 1, 0, [])), (45, (33, 0, 1, 0, [])), (46, (18, 7, 20, 0, [])), (49, (0, 2, 0, 8, [])), (51, (1, 1, 1, 0, [])), (52, (4, 2, 0, 0, [])), (53, (1, 2, 1, 0, [])), (54, (4, 0, 0, 0, [])), (55, (22, 0, 0, 0, [])), (56, (23, 0, 0, 0, [])), (57, (0, 2, 0, (-2), [])), (59, (50, 0, 0, 0, [])), (60, (0, 1, 0, 2, [])), (61, (1, 1, 1, 0, [])), (62, (0, 1, 0, 3, [])), (63, (6, 0, 0, 0, [])), (64, (4, 2, 0, 0, [])), (65, (1, 2, 1, 0, [])), (66, (0, 1, 0, 2, [])), (67, (6, 0, 0, 0, [])), (68, (4, 0, 0, 0, [])), (69, (2, 3, 1, 0, [])), (70, (33, 0, 1, 0, [])), (71, (18, 7, 18, 0, [])), (74, (0, 2, 0, 8, [])), (76, (1, 1, 1, 0, [])), (77, (4, 2, 0, 0, [])), (78, (1, 2, 1, 0, [])), (79, (4, 0, 0, 0, [])), (80, (22, 0, 0, 0, [])), (81, (2, 4, 2, 0, [])), (83, (0, 1, 0, 0, [])), (84, (2, 5, 2, 0, [])), (86, (1, 5, 2, 0, [])), (88, (33, 0, 1, 0, [])), (89, (18, 7, 0, 0, [])), (92, (13, 3, 143, 0, [])), (95, (33, 0, 1, 0, [])), (96, (1, 3, 1, 0, [])), (97, (1, 5, 2, 0, [])), (99, (1, 2, 1, 0, [])), (100, (60, 83, 3, 0, [])), (103, (12, 0, 137, 0, [])), (106, (33, 0, 1, 0, [])), (107, (1, 5, 2, 0, [])), (109, (1, 1, 1, 0, [])), (110, (60, 81, 2, 0, [])), (113, (12, 0, 137, 0, [])), (116, (1, 4, 2, 0, [])), (118, (0, 1, 0, (-1), [])), (119, (13, 0, 133, 0, [])), (122, (33, 0, 1, 0, [])), (123, (1, 5, 2, 0, [])), (125, (1, 4, 2, 0, [])), (127, (60, 82, 2, 0, [])), (130, (12, 0, 137, 0, [])), (133, (1, 5, 2, 0, [])), (135, (2, 4, 2, 0, [])), (137, (3, 5, 3, 1, [])), (140, (14, 86, 0, 0, [])), (143, (33, 0, 1, 0, [])), (144, (18, 7, 21, 0, [])), (147, (1, 1, 1, 0, [])), (148, (1, 4, 2, 0, [])), (150, (0, 1, 0, (-1), [])), (151, (13, 1, 158, 0, [])), (154, (0, 1, 0, 0, [])), (155, (14, 170, 0, 0, [])), (158, (33, 0, 1, 0, [])), (159, (18, 7, 5, 0, [])), (162, (0, 2, 0, 8, [])), (164, (1, 4, 2, 0, [])), (166, (4, 2, 0, 0, [])), (167, (1, 2, 1, 0, [])), (168, (4, 0, 0, 0, [])), (169, (22, 0, 0, 0, [])), (170, (23, 0, 0, 0, [])), (171, (1, 4, 2, 0, [])), (173, (0, 1, 0, (-1), [])), (174, (13, 1, 182, 0, [])), (177, (0, 2, 0, (-3), [])), (179, (14, 184, 0, 0, [])), (182, (1, 4, 2, 0, [])), (184, (50, 0, 0, 0, []))]
/-- 96: CausalPlacesModel.value(I)I -/
def am_t96 : List (Nat × aI) := [(0, (1, 1, 1, 0, [])), (1, (61, 72, 1, 0, [])), (4, (12, 0, 16, 0, [])), (7, (33, 0, 1, 0, [])), (8, (18, 7, 21, 0, [])), (11, (1, 1, 1, 0, [])), (12, (22, 0, 0, 0, [])), (13, (14, 17, 0, 0, [])), (16, (0, 1, 0, 0, [])), (17, (50, 0, 0, 0, []))]
/-- 97: CausalPlacesModel.write(III)Z -/
def am_t97 : List (Nat × aI) := [(0, (1, 1, 1, 0, [])), (1, (61, 72, 1, 0, [])), (4, (12, 0, 24, 0, [])), (7, (1, 2, 1, 0, [])), (8, (61, 74, 1, 0, [])), (11, (12, 0, 24, 0, [])), (14, (33, 0, 1, 0, [])), (15, (18, 7, 15, 0, [])), (18, (1, 1, 1, 0, [])), (19, (22, 0, 0, 0, [])), (20, (0, 1, 0, 1, [])), (21, (13, 0, 26, 0, [])), (24, (0, 1, 0, 0, [])), (25, (51, 0, 0, 0, [])), (26, (33, 0, 1, 0, [])), (27, (18, 7, 19, 0, [])), (30, (1, 1, 1, 0, [])), (31, (10, 0, 0, 0, [])), (32, (22, 0, 0, 0, [])), (33, (0, 1, 0, 1, [])), (34, (1, 2, 1, 0, [])), (35, (4, 6, 0, 0, [])), (36, (4, 4, 0, 0, [])), (37, (23, 0, 0, 0, [])), (38, (33, 0, 1, 0, [])), (39, (18, 7, 20, 0, [])), (42, (0, 2, 0, 8, [])), (44, (1, 1, 1, 0, [])), (45, (4, 2, 0, 0, [])), (46, (1, 2, 1, 0, [])), (47, (4, 0, 0, 0, [])), (48, (1, 3, 1, 0, [])), (49, (23, 0, 0, 0, [])), (50, (0, 1, 0, 1, [])), (51, (51, 0, 0, 0, []))]
/-- 98: CausalPlacesModel.commit(I)I -/
def am_t98 : List (Nat × aI) := [(0, (1, 1, 1, 0, [])), (1, (61, 72, 1, 0, [])), (4, (12, 0, 17, 0, [])), (7, (33, 0, 1, 0, [])), (8, (18, 7, 15, 0, [])), (11, (1, 1, 1, 0, [])), (12, (22, 0, 0, 0, [])), (13, (0, 1, 0, 1, [])), (14, (13, 0, 19, 0, [])), (17, (0, 1, 0, (-1), [])), (18, (50, 0, 0, 0, [])), (19, (33, 0, 1, 0, [])), (20, (18, 7, 19, 0, [])), (23, (1, 1, 1, 0, [])), (24, (22, 0, 0, 0, [])), (25, (12, 1, 38, 0, [])), (28, (33, 0, 1, 0, [])), (29, (18, 7, 15, 0, [])), (32, (1, 1, 1, 0, [])), (33, (0, 1, 0, 0, [])), (34, (23, 0, 0, 0, [])), (35, (0, 2, 0, (-2), [])), (37, (50, 0, 0, 0, [])), (38, (33, 0, 1, 0, [])), (39, (18, 7, 0, 0, [])), (42, (0, 3, 0, 200, [])), (45, (13, 1, 51, 0, [])), (48, (0, 2, 0, (-3), [])), (50, (50, 0, 0, 0, [])), (51, (33, 0, 1, 0, [])), (52, (18, 7, 0, 0, [])), (55, (2, 2, 1, 0, [])), (56, (33, 0, 1, 0, [])), (57, (7, 0, 0, 0, [])), (58, (18, 7, 0, 0, [])), (61, (0, 1, 0, 1, [])), (62, (4, 0, 0, 0, [])), (63, (19, 7, 0, 0, [])), (66, (33, 0, 1, 0, [])), (67, (18, 7, 1, 0, [])), (70, (1, 2, 1, 0, [])), (71, (1, 1, 1, 0, [])), (72, (23, 0, 0, 0, [])), (73, (33, 0, 1, 0, [])), (74, (18, 7, 3, 0, [])), (77, (1, 2, 1, 0, [])), (78, (33, 0, 1, 0, [])), (79, (18, 7, 16, 0, [])), (82, (1, 1, 1, 0, [])), (83, (22, 0, 0, 0, [])), (84, (23, 0, 0, 0, [])), (85, (33, 0, 1, 0, [])), (86, (18, 7, 4, 0, [])), (89, (1, 2, 1, 0, [])), (90, (33, 0, 1, 0, [])), (91, (18, 7, 19, 0, [])), (94, (1, 1, 1, 0, [])), (95, (22, 0, 0, 0, [])), (96, (23, 0, 0, 0, [])), (97, (0, 1, 0, 0, [])), (98, (2, 3, 1, 0, [])), (99, (1, 3, 1, 0, [])), (100, (0, 1, 0, 3, [])), (101, (13, 3, 130, 0, [])), (104, (33, 0, 1, 0, [])), (105, (18, 7, 2, 0, [])), (108, (0, 1, 0, 3, [])), (109, (1, 2, 1, 0, [])), (110, (4, 2, 0, 0, [])), (111, (1, 3, 1, 0, [])), (112, (4, 0, 0, 0, [])), (113, (33, 0, 1, 0, [])), (114, (18, 7, 17, 0, [])), (117, (0, 1, 0, 3, [])), (118, (1, 1, 1, 0, [])), (119, (4, 2, 0, 0, [])), (120, (1, 3, 1, 0, [])), (121, (4, 0, 0, 0, [])), (122, (22, 0, 0, 0, [])), (123, (23, 0, 0, 0, [])), (124, (3, 3, 3, 1, [])), (127, (14, 99, 0, 0, [])), (130, (0, 1, 0, 0, [])), (131, (2, 3, 1, 0, [])), (132, (1, 3, 1, 0, [])), (133, (0, 2, 0, 8, [])), (135, (13, 3, 179, 0, [])), (138, (33, 0, 1, 0, [])), (139, (18, 7, 5, 0, [])), (142, (0, 2, 0, 8, [])), (144, (1, 2, 1, 0, [])), (145, (4, 2, 0, 0, [])), (146, (1, 3, 1, 0, [])), (147, (4, 0, 0, 0, [])), (148, (33, 0, 1, 0, [])), (149, (1, 2, 1, 0, [])), (150, (1, 3, 1, 0, [])), (151, (60, 79, 2, 0, [])), (154, (12, 0, 171, 0, [])), (157, (33, 0, 1, 0, [])), (158, (18, 7, 20, 0, [])), (161, (0, 2, 0, 8, [])), (163, (1, 1, 1, 0, [])), (164, (4, 2, 0, 0, [])), (165, (1, 3, 1, 0, [])), (166, (4, 0, 0, 0, [])), (167, (22, 0, 0, 0, [])), (168, (14, 172, 0, 0, [])), (171, (0, 1, 0, 0, [])), (172, (23, 0, 0, 0, [])), (173, (3, 3, 3, 1, [])), (176, (14, 132, 0, 0, [])), (179, (33, 0, 1, 0, [])), (180, (18, 7, 15, 0, [])), (183, (1, 1, 1, 0, [])), (184, (0, 1, 0, 2, [])), (185, (23, 0, 0, 0, [])), (186, (33, 0, 1, 0, [])), (187, (18, 7, 19, 0, [])), (190, (1, 1, 1, 0, [])), (191, (0, 1, 0, 0, [])), (192, (23, 0, 0, 0, [])), (193, (0, 1, 0, 2, [])), (194, (1, 1, 1, 0, [])), (195, (0, 1, 0, 3, [])), (196, (6, 0, 0, 0, [])), (197, (4, 2, 0, 0, [])), (198, (2, 3, 1, 0, [])), (199, (33, 0, 1, 0, [])), (200, (18, 7, 6, 0, [])), (203, (1, 2, 1, 0, [])), (204, (0, 1, 0, 0, [])), (205, (23, 0, 0, 0, [])), (206, (33, 0, 1, 0, [])), (207, (18, 7, 7, 0, [])), (210, (1, 2, 1, 0, [])), (211, (0, 1, 0, 0, [])), (212, (23, 0, 0, 0, [])), (213, (1, 3, 1, 0, [])), (214, (2, 4, 2, 0, [])), (216, (1, 4, 2, 0, [])), (218, (1, 3, 1, 0, [])), (219, (0, 1, 0, 2, [])), (220, (4, 0, 0, 0, [])), (221, (13, 3, 254, 0, [])), (224, (33, 0, 1, 0, [])), (225, (18, 7, 6, 0, [])), (228, (1, 2, 1, 0, [])), (229, (10, 0, 0, 0, [])), (230, (22, 0, 0, 0, [])), (231, (33, 0, 1, 0, [])), (232, (1, 2, 1, 0, [])), (233, (1, 4, 2, 0, [])), (235, (60, 84, 2, 0, [])), (238, (12, 0, 245, 0, [])), (241, (0, 1, 0, 1, [])), (242, (14, 246, 0, 0, [])), (245, (0, 1, 0, 0, [])), (246, (4, 0, 0, 0, [])), (247, (23, 0, 0, 0, [])), (248, (3, 4, 3, 1, [])), (251, (14, 216, 0, 0, [])), (254, (1, 3, 1, 0, [])), (255, (2, 4, 2, 0, [])), (257, (1, 4, 2, 0, [])), (259, (1, 3, 1, 0, [])), (260, (0, 1, 0, 2, [])), (261, (4, 0, 0, 0, [])), (262, (13, 3, 293, 0, [])), (265, (33, 0, 1, 0, [])), (266, (1, 2, 1, 0, [])), (267, (1, 4, 2, 0, [])), (269, (60, 84, 2, 0, [])), (272, (12, 0, 287, 0, [])), (275, (33, 0, 1, 0, [])), (276, (1, 3, 1, 0, [])), (277, (1, 4, 2, 0, [])), (279, (0, 1, 0, 1, [])), (280, (1, 2, 1, 0, [])), (281, (0, 1, 0, 0, [])), (282, (0, 1, 0, 0, [])), (283, (0, 1, 0, 0, [])), (284, (60, 85, 7, 0, [])), (287, (3, 4, 3, 1, [])), (290, (14, 257, 0, 0, [])), (293, (1, 2, 1, 0, [])), (294, (50, 0, 0, 0, []))]
/-- 99: CausalPlacesModel.abort(I)Z -/
def am_t99 : List (Nat × aI) := [(0, (1, 1, 1, 0, [])), (1, (61, 72, 1, 0, [])), (4, (12, 0, 17, 0, [])), (7, (33, 0, 1, 0, [])), (8, (18, 7, 15, 0, [])), (11, (1, 1, 1, 0, [])), (12, (22, 0, 0, 0, [])), (13, (0, 1, 0, 1, [])), (14, (13, 0, 19, 0, [])), (17, (0, 1, 0, 0, [])), (18, (51, 0, 0, 0, [])), (19, (33, 0, 1, 0, [])), (20, (18, 7, 15, 0, [])), (23, (1, 1, 1, 0, [])), (24, (0, 1, 0, 0, [])), (25, (23, 0, 0, 0, [])), (26, (33, 0, 1, 0, [])), (27, (18, 7, 19, 0, [])), (30, (1, 1, 1, 0, [])), (31, (0, 1, 0, 0, [])), (32, (23, 0, 0, 0, [])), (33, (0, 1, 0, 1, [])), (34, (51, 0, 0, 0, []))]
/-- 100: CausalPlacesModel.tick(I)I -/
def am_t100 : List (Nat × aI) := [(0, (1, 1, 1, 0, [])), (1, (61, 73, 1, 0, [])), (4, (12, 1, 9, 0, [])), (7, (0, 1, 0, (-1), [])), (8, (50, 0, 0, 0, [])), (9, (33, 0, 1, 0, [])), (10, (18, 7, 10, 0, [])), (13, (1, 1, 1, 0, [])), (14, (10, 0, 0, 0, [])), (15, (22, 0, 0, 0, [])), (16, (0, 1, 0, 1, [])), (17, (4, 0, 0, 0, [])), (18, (23, 0, 0, 0, [])), (19, (33, 0, 1, 0, [])), (20, (18, 7, 10, 0, [])), (23, (1, 1, 1, 0, [])), (24, (22, 0, 0, 0, [])), (25, (2, 2, 1, 0, [])), (26, (0, 1, 0, 0, [])), (27, (2, 3, 1, 0, [])), (28, (0, 1, 0, 0, [])), (29, (2, 4, 2, 0, [])), (31, (1, 4, 2, 0, [])), (33, (33, 0, 1, 0, [])), (34, (18, 7, 0, 0, [])), (37, (13, 3, 111, 0, [])), (40, (33, 0, 1, 0, [])), (41, (18, 7, 11, 0, [])), (44, (0, 3, 0, 200, [])), (47, (1, 1, 1, 0, [])), (48, (4, 2, 0, 0, [])), (49, (1, 4, 2, 0, [])), (51, (4, 0, 0, 0, [])), (52, (22, 0, 0, 0, [])), (53, (2, 5, 2, 0, [])), (55, (1, 5, 2, 0, [])), (57, (0, 1, 0, 1, [])), (58, (13, 0, 70, 0, [])), (61, (1, 5, 2, 0, [])), (63, (0, 1, 0, 2, [])), (64, (13, 0, 70, 0, [])), (67, (14, 105, 0, 0, [])), (70, (33, 0, 1, 0, [])), (71, (18, 7, 12, 0, [])), (74, (0, 3, 0, 200, [])), (77, (1, 1, 1, 0, [])), (78, (4, 2, 0, 0, [])), (79, (1, 4, 2, 0, [])), (81, (4, 0, 0, 0, [])), (82, (22, 0, 0, 0, [])), (83, (0, 1, 0, 1, [])), (84, (4, 1, 0, 0, [])), (85, (2, 6, 2, 0, [])), (87, (1, 3, 1, 0, [])), (88, (12, 0, 100, 0, [])), (91, (1, 2, 1, 0, [])), (92, (1, 6, 2, 0, [])), (94, (37, 0, 0, 0, [])), (97, (14, 102, 0, 0, [])), (100, (1, 6, 2, 0, [])), (102, (2, 2, 1, 0, [])), (103, (0, 1, 0, 1, [])), (104, (2, 3, 1, 0, [])), (105, (3, 4, 3, 1, [])), (108, (14, 31, 0, 0, [])), (111, (0, 1, 0, 3, [])), (112, (1, 1, 1, 0, [])), (113, (4, 2, 0, 0, [])), (114, (2, 4, 2, 0, [])), (116, (33, 0, 1, 0, [])), (117, (18, 7, 13, 0, [])), (120, (1, 4, 2, 0, [])), (122, (1, 1, 1, 0, [])), (123, (61, 75, 1, 0, [])), (126, (4, 0, 0, 0, [])), (127, (1, 2, 1, 0, [])), (128, (23, 0, 0, 0, [])), (129, (0, 1, 0, 0, [])), (130, (2, 5, 2, 0, [])), (132, (1, 5, 2, 0, [])), (134, (0, 1, 0, 3, [])), (135, (13, 3, 171, 0, [])), (138, (1, 5, 2, 0, [])), (140, (1, 1, 1, 0, [])), (141, (61, 75, 1, 0, [])), (144, (13, 0, 165, 0, [])), (147, (33, 0, 1, 0, [])), (148, (1, 1, 1, 0, [])), (149, (0, 1, 0, 2, [])), (150, (1, 5, 2, 0, [])), (152, (4, 2, 0, 0, [])), (153, (1, 1, 1, 0, [])), (154, (0, 1, 0, 2, [])), (155, (6, 0, 0, 0, [])), (156, (4, 0, 0, 0, [])), (157, (0, 1, 0, 5, [])), (158, (1, 2, 1, 0, [])), (159, (0, 1, 0, 0, [])), (160, (0, 1, 0, 0, [])), (161, (0, 1, 0, 0, [])), (162, (60, 85, 7, 0, [])), (165, (3, 5, 3, 1, [])), (168, (14, 132, 0, 0, [])), (171, (1, 1, 1, 0, [])), (172, (0, 1, 0, 2, [])), (173, (6, 0, 0, 0, [])), (174, (12, 1, 183, 0, [])), (177, (1, 1, 1, 0, [])), (178, (0, 1, 0, 1, [])), (179, (4, 0, 0, 0, [])), (180, (14, 186, 0, 0, [])), (183, (1, 1, 1, 0, [])), (184, (0, 1, 0, 1, [])), (185, (4, 1, 0, 0, [])), (186, (2, 5, 2, 0, [])), (188, (33, 0, 1, 0, [])), (189, (1, 1, 1, 0, [])), (190, (1, 5, 2, 0, [])), (192, (0, 2, 0, 6, [])), (194, (0, 1, 0, (-1), [])), (195, (33, 0, 1, 0, [])), (196, (18, 7, 13, 0, [])), (199, (1, 4, 2, 0, [])), (201, (22, 0, 0, 0, [])), (202, (33, 0, 1, 0, [])), (203, (18, 7, 13, 0, [])), (206, (1, 4, 2, 0, [])), (208, (0, 1, 0, 1, [])), (209, (4, 0, 0, 0, [])), (210, (22, 0, 0, 0, [])), (211, (33, 0, 1, 0, [])), (212, (18, 7, 13, 0, [])), (215, (1, 4, 2, 0, [])), (217, (0, 1, 0, 2, [])), (218, (4, 0, 0, 0, [])), (219, (22, 0, 0, 0, [])), (220, (60, 85, 7, 0, [])), (223, (33, 0, 1, 0, [])), (224, (18, 7, 10, 0, [])), (227, (1, 1, 1, 0, [])), (228, (22, 0, 0, 0, [])), (229, (50, 0, 0, 0, []))]
/-- 101: CausalPlacesModel.deliver(II)I -/
def am_t101 : List (Nat × aI) := [(0, (1, 1, 1, 0, [])), (1, (1, 2, 1, 0, [])), (2, (61, 77, 2, 0, [])), (5, (12, 1, 10, 0, [])), (8, (0, 1, 0, (-1), [])), (9, (50, 0, 0, 0, [])), (10, (33, 0, 1, 0, [])), (11, (1, 1, 1, 0, [])), (12, (1, 2, 1, 0, [])), (13, (60, 86, 2, 0, [])), (16, (2, 3, 1, 0, [])), (17, (1, 3, 1, 0, [])), (18, (0, 1, 0, (-1), [])), (19, (13, 1, 24, 0, [])), (22, (0, 1, 0, 0, [])), (23, (50, 0, 0, 0, [])), (24, (33, 0, 1, 0, [])), (25, (18, 7, 23, 0, [])), (28, (0, 2, 0, 7, [])), (30, (1, 3, 1, 0, [])), (31, (4, 2, 0, 0, [])), (32, (0, 1, 0, 2, [])), (33, (4, 0, 0, 0, [])), (34, (22, 0, 0, 0, [])), (35, (2, 4, 2, 0, [])), (37, (33, 0, 1, 0, [])), (38, (18, 7, 23, 0, [])), (41, (0, 2, 0, 7, [])), (43, (1, 3, 1, 0, [])), (44, (4, 2, 0, 0, [])), (45, (0, 1, 0, 3, [])), (46, (4, 0, 0, 0, [])), (47, (22, 0, 0, 0, [])), (48, (2, 5, 2, 0, [])), (50, (33, 0, 1, 0, [])), (51, (18, 7, 23, 0, [])), (54, (0, 2, 0, 7, [])), (56, (1, 3, 1, 0, [])), (57, (4, 2, 0, 0, [])), (58, (0, 1, 0, 4, [])), (59, (4, 0, 0, 0, [])), (60, (22, 0, 0, 0, [])), (61, (2, 6, 2, 0, [])), (63, (33, 0, 1, 0, [])), (64, (18, 7, 23, 0, [])), (67, (0, 2, 0, 7, [])), (69, (1, 3, 1, 0, [])), (70, (4, 2, 0, 0, [])), (71, (0, 1, 0, 5, [])), (72, (4, 0, 0, 0, [])), (73, (22, 0, 0, 0, [])), (74, (2, 7, 2, 0, [])), (76, (33, 0, 1, 0, [])), (77, (18, 7, 23, 0, [])), (80, (0, 2, 0, 7, [])), (82, (1, 3, 1, 0, [])), (83, (4, 2, 0, 0, [])), (84, (0, 2, 0, 6, [])), (86, (4, 0, 0, 0, [])), (87, (22, 0, 0, 0, [])), (88, (2, 8, 2, 0, [])), (90, (33, 0, 1, 0, [])), (91, (7, 0, 0, 0, [])), (92, (18, 7, 22, 0, [])), (95, (0, 1, 0, 1, [])), (96, (4, 1, 0, 0, [])), (97, (19, 7, 22, 0, [])), (100, (0, 2, 0, 7, [])), (102, (1, 3, 1, 0, [])), (103, (4, 2, 0, 0, [])), (104, (2, 9, 2, 0, [])), (106, (1, 9, 2, 0, [])), (108, (0, 2, 0, 7, [])), (110, (33, 0, 1, 0, [])), (111, (18, 7, 22, 0, [])), (114, (4, 2, 0, 0, [])), (115, (13, 3, 141, 0, [])), (118, (33, 0, 1, 0, [])), (119, (18, 7, 23, 0, [])), (122, (1, 9, 2, 0, [])), (124, (33, 0, 1, 0, [])), (125, (18, 7, 23, 0, [])), (128, (1, 9, 2, 0, [])), (130, (0, 2, 0, 7, [])), (132, (4, 0, 0, 0, [])), (133, (22, 0, 0, 0, [])), (134, (23, 0, 0, 0, [])), (135, (3, 9, 3, 1, [])), (138, (14, 106, 0, 0, [])), (141, (33, 0, 1, 0, [])), (142, (1, 1, 1, 0, [])), (143, (1, 2, 1, 0, [])), (144, (1, 4, 2, 0, [])), (146, (1, 5, 2, 0, [])), (148, (1, 6, 2, 0, [])), (150, (1, 7, 2, 0, [])), (152, (1, 8, 2, 0, [])), (154, (60, 87, 7, 0, [])), (157, (1, 4, 2, 0, [])), (159, (50, 0, 0, 0, []))]
/-- 102: CausalPlacesModel.bits(I)I -/
def am_t102 : List (Nat × aI) := [(0, (0, 1, 0, 0, [])), (1, (2, 1, 1, 0, [])), (2, (0, 1, 0, 0, [])), (3, (2, 2, 1, 0, [])), (4, (1, 2, 1, 0, [])), (5, (0, 2, 0, 8, [])), (7, (13, 3, 24, 0, [])), (10, (1, 1, 1, 0, [])), (11, (1, 0, 1, 0, [])), (12, (1, 2, 1, 0, [])), (13, (4, 7, 0, 0, [])), (14, (0, 1, 0, 1, [])), (15, (4, 3, 0, 0, [])), (16, (4, 0, 0, 0, [])), (17, (2, 1, 1, 0, [])), (18, (3, 2, 3, 1, [])), (21, (14, 4, 0, 0, [])), (24, (1, 1, 1, 0, [])), (25, (50, 0, 0, 0, []))]
/-- 103: CausalPlacesModel.client(II)I -/
def am_t103 : List (Nat × aI) := [(0, (1, 1, 1, 0, [])), (1, (61, 72, 1, 0, [])), (4, (12, 1, 9, 0, [])), (7, (0, 1, 0, (-1), [])), (8, (50, 0, 0, 0, [])), (9, (1, 2, 1, 0, [])), (10, (0, 2, 0, 10, [])), (12, (13, 2, 35, 0, [])), (15, (1, 2, 1, 0, [])), (16, (0, 2, 0, 13, [])), (18, (13, 3, 35, 0, [])), (21, (33, 0, 1, 0, [])), (22, (18, 7, 17, 0, [])), (25, (0, 1, 0, 3, [])), (26, (1, 1, 1, 0, [])), (27, (4, 2, 0, 0, [])), (28, (1, 2, 1, 0, [])), (29, (4, 0, 0, 0, [])), (30, (0, 2, 0, 10, [])), (32, (4, 1, 0, 0, [])), (33, (22, 0, 0, 0, [])), (34, (50, 0, 0, 0, [])), (35, (1, 2, 1, 0, [])), (36, (32, 136, 0, 0, [(0, 68), (1, 75), (2, 82), (3, 126)])), (68, (33, 0, 1, 0, [])), (69, (18, 7, 15, 0, [])), (72, (1, 1, 1, 0, [])), (73, (22, 0, 0, 0, [])), (74, (50, 0, 0, 0, [])), (75, (33, 0, 1, 0, [])), (76, (18, 7, 16, 0, [])), (79, (1, 1, 1, 0, [])), (80, (22, 0, 0, 0, [])), (81, (50, 0, 0, 0, [])), (82, (0, 1, 0, 0, [])), (83, (2, 3, 1, 0, [])), (84, (0, 1, 0, 0, [])), (85, (2, 4, 2, 0, [])), (87, (1, 4, 2, 0, [])), (89, (0, 2, 0, 8, [])), (91, (13, 3, 124, 0, [])), (94, (1, 3, 1, 0, [])), (95, (33, 0, 1, 0, [])), (96, (18, 7, 18, 0, [])), (99, (0, 2, 0, 8, [])), (101, (1, 1, 1, 0, [])), (102, (4, 2, 0, 0, [])), (103, (1, 4, 2, 0, [])), (105, (4, 0, 0, 0, [])), (106, (22, 0, 0, 0, [])), (107, (0, 1, 0, (-1), [])), (108, (13, 1, 115, 0, [])), (111, (0, 1, 0, 0, [])), (112, (14, 116, 0, 0, [])), (115, (0, 1, 0, 1, [])), (116, (4, 0, 0, 0, [])), (117, (2, 3, 1, 0, [])), (118, (3, 4, 3, 1, [])), (121, (14, 87, 0, 0, [])), (124, (1, 3, 1, 0, [])), (125, (50, 0, 0, 0, [])), (126, (33, 0, 1, 0, [])), (127, (18, 7, 19, 0, [])), (130, (1, 1, 1, 0, [])), (131, (22, 0, 0, 0, [])), (132, (61, 102, 1, 0, [])), (135, (50, 0, 0, 0, [])), (136, (0, 1, 0, (-1), [])), (137, (50, 0, 0, 0, []))]
/-- 104: CausalPlacesModel.howMany(II)I -/
def am_t104 : List (Nat × aI) := [(0, (0, 1, 0, 0, [])), (1, (2, 3, 1, 0, [])), (2, (0, 1, 0, 0, [])), (3, (2, 4, 2, 0, [])), (5, (1, 4, 2, 0, [])), (7, (33, 0, 1, 0, [])), (8, (18, 7, 0, 0, [])), (11, (13, 3, 45, 0, [])), (14, (1, 3, 1, 0, [])), (15, (33, 0, 1, 0, [])), (16, (18, 7, 11, 0, [])), (19, (0, 3, 0, 200, [])), (22, (1, 1, 1, 0, [])), (23, (4, 2, 0, 0, [])), (24, (1, 4, 2, 0, [])), (26, (4, 0, 0, 0, [])), (27, (22, 0, 0, 0, [])), (28, (1, 2, 1, 0, [])), (29, (13, 1, 36, 0, [])), (32, (0, 1, 0, 1, [])), (33, (14, 37, 0, 0, [])), (36, (0, 1, 0, 0, [])), (37, (4, 0, 0, 0, [])), (38, (2, 3, 1, 0, [])), (39, (3, 4, 3, 1, [])), (42, (14, 5, 0, 0, [])), (45, (1, 3, 1, 0, [])), (46, (50, 0, 0, 0, []))]
/-- 105: CausalPlacesModel.server(II)I -/
def am_t105 : List (Nat × aI) := [(0, (1, 1, 1, 0, [])), (1, (61, 73, 1, 0, [])), (4, (12, 1, 9, 0, [])), (7, (0, 1, 0, (-1), [])), (8, (50, 0, 0, 0, [])), (9, (1, 2, 1, 0, [])), (10, (0, 2, 0, 10, [])), (12, (13, 2, 35, 0, [])), (15, (1, 2, 1, 0, [])), (16, (0, 2, 0, 13, [])), (18, (13, 3, 35, 0, [])), (21, (33, 0, 1, 0, [])), (22, (18, 7, 13, 0, [])), (25, (0, 1, 0, 3, [])), (26, (1, 1, 1, 0, [])), (27, (4, 2, 0, 0, [])), (28, (1, 2, 1, 0, [])), (29, (4, 0, 0, 0, [])), (30, (0, 2, 0, 10, [])), (32, (4, 1, 0, 0, [])), (33, (22, 0, 0, 0, [])), (34, (50, 0, 0, 0, [])), (35, (1, 2, 1, 0, [])), (36, (0, 2, 0, 20, [])), (38, (13, 2, 61, 0, [])), (41, (1, 2, 1, 0, [])), (42, (0, 2, 0, 23, [])), (44, (13, 3, 61, 0, [])), (47, (33, 0, 1, 0, [])), (48, (18, 7, 14, 0, [])), (51, (0, 1, 0, 3, [])), (52, (1, 1, 1, 0, [])), (53, (4, 2, 0, 0, [])), (54, (1, 2, 1, 0, [])), (55, (4, 0, 0, 0, [])), (56, (0, 2, 0, 20, [])), (58, (4, 1, 0, 0, [])), (59, (22, 0, 0, 0, [])), (60, (50, 0, 0, 0, [])), (61, (1, 2, 1, 0, [])), (62, (0, 2, 0, 30, [])), (64, (13, 2, 83, 0, [])), (67, (1, 2, 1, 0, [])), (68, (0, 2, 0, 33, [])), (70, (13, 3, 83, 0, [])), (73, (33, 0, 1, 0, [])), (74, (1, 1, 1, 0, [])), (75, (1, 2, 1, 0, [])), (76, (0, 2, 0, 30, [])), (78, (4, 1, 0, 0, [])), (79, (60, 93, 2, 0, [])), (82, (50, 0, 0, 0, [])), (83, (1, 2, 1, 0, [])), (84, (32, 144, 0, 0, [(0, 116), (1, 123), (2, 130), (3, 137)])), (116, (33, 0, 1, 0, [])), (117, (18, 7, 10, 0, [])), (120, (1, 1, 1, 0, [])), (121, (22, 0, 0, 0, [])), (122, (50, 0, 0, 0, [])), (123, (33, 0, 1, 0, [])), (124, (1, 1, 1, 0, [])), (125, (0, 1, 0, 1, [])), (126, (60, 104, 2, 0, [])), (129, (50, 0, 0, 0, [])), (130, (33, 0, 1, 0, [])), (131, (1, 1, 1, 0, [])), (132, (0, 1, 0, 2, [])), (133, (60, 104, 2, 0, [])), (136, (50, 0, 0, 0, [])), (137, (33, 0, 1, 0, [])), (138, (1, 1, 1, 0, [])), (139, (0, 1, 0, 3, [])), (140, (60, 104, 2, 0, [])), (143, (50, 0, 0, 0, [])), (144, (0, 1, 0, (-1), [])), (145, (50, 0, 0, 0, []))]
/-- 106: CausalPlacesModel.transaction(II)I -/
def am_t106 : List (Nat × aI) := [(0, (1, 1, 1, 0, [])), (1, (12, 2, 12, 0, [])), (4, (1, 1, 1, 0, [])), (5, (33, 0, 1, 0, [])), (6, (18, 7, 0, 0, [])), (9, (13, 2, 14, 0, [])), (12, (0, 1, 0, (-1), [])), (13, (50, 0, 0, 0, [])), (14, (1, 2, 1, 0, [])), (15, (0, 2, 0, 10, [])), (17, (13, 2, 36, 0, [])), (20, (1, 2, 1, 0, [])), (21, (0, 2, 0, 13, [])), (23, (13, 3, 36, 0, [])), (26, (33, 0, 1, 0, [])), (27, (1, 1, 1, 0, [])), (28, (1, 2, 1, 0, [])), (29, (0, 2, 0, 10, [])), (31, (4, 1, 0, 0, [])), (32, (60, 80, 2, 0, [])), (35, (50, 0, 0, 0, [])), (36, (1, 2, 1, 0, [])), (37, (0, 2, 0, 20, [])), (39, (13, 2, 66, 0, [])), (42, (1, 2, 1, 0, [])), (43, (0, 2, 0, 28, [])), (45, (13, 3, 66, 0, [])), (48, (33, 0, 1, 0, [])), (49, (1, 1, 1, 0, [])), (50, (1, 2, 1, 0, [])), (51, (0, 2, 0, 20, [])), (53, (4, 1, 0, 0, [])), (54, (60, 79, 2, 0, [])), (57, (12, 0, 64, 0, [])), (60, (0, 1, 0, 1, [])), (61, (14, 65, 0, 0, [])), (64, (0, 1, 0, 0, [])), (65, (50, 0, 0, 0, [])), (66, (1, 2, 1, 0, [])), (67, (32, 147, 0, 0, [(0, 96), (1, 102), (2, 122), (3, 137)])), (96, (33, 0, 1, 0, [])), (97, (1, 1, 1, 0, [])), (98, (60, 78, 1, 0, [])), (101, (50, 0, 0, 0, [])), (102, (33, 0, 1, 0, [])), (103, (18, 7, 8, 0, [])), (106, (1, 1, 1, 0, [])), (107, (24, 0, 0, 0, [])), (108, (12, 0, 120, 0, [])), (111, (33, 0, 1, 0, [])), (112, (18, 7, 9, 0, [])), (115, (1, 1, 1, 0, [])), (116, (22, 0, 0, 0, [])), (117, (14, 121, 0, 0, [])), (120, (0, 1, 0, (-1), [])), (121, (50, 0, 0, 0, [])), (122, (33, 0, 1, 0, [])), (123, (18, 7, 8, 0, [])), (126, (1, 1, 1, 0, [])), (127, (24, 0, 0, 0, [])), (128, (12, 0, 135, 0, [])), (131, (0, 1, 0, 1, [])), (132, (14, 136, 0, 0, [])), (135, (0, 1, 0, 0, [])), (136, (50, 0, 0, 0, [])), (137, (33, 0, 1, 0, [])), (138, (18, 7, 4, 0, [])), (141, (1, 1, 1, 0, [])), (142, (22, 0, 0, 0, [])), (143, (61, 102, 1, 0, [])), (146, (50, 0, 0, 0, [])), (147, (0, 1, 0, (-1), [])), (148, (50, 0, 0, 0, []))]
/-- 107: CausalPlacesModel.written(II)I -/
def am_t107 : List (Nat × aI) := [(0, (1, 1, 1, 0, [])), (1, (12, 2, 33, 0, [])), (4, (1, 1, 1, 0, [])), (5, (33, 0, 1, 0, [])), (6, (18, 7, 0, 0, [])), (9, (13, 3, 33, 0, [])), (12, (1, 2, 1, 0, [])), (13, (61, 74, 1, 0, [])), (16, (12, 0, 33, 0, [])), (19, (33, 0, 1, 0, [])), (20, (18, 7, 5, 0, [])), (23, (0, 2, 0, 8, [])), (25, (1, 1, 1, 0, [])), (26, (4, 2, 0, 0, [])), (27, (1, 2, 1, 0, [])), (28, (4, 0, 0, 0, [])), (29, (22, 0, 0, 0, [])), (30, (14, 34, 0, 0, [])), (33, (0, 1, 0, 0, [])), (34, (50, 0, 0, 0, []))]
/-- 108: CausalPlacesModel.version(III)I -/
def am_t108 : List (Nat × aI) := [(0, (1, 1, 1, 0, [])), (1, (61, 73, 1, 0, [])), (4, (12, 0, 22, 0, [])), (7, (1, 2, 1, 0, [])), (8, (61, 74, 1, 0, [])), (11, (12, 0, 22, 0, [])), (14, (1, 1, 1, 0, [])), (15, (1, 2, 1, 0, [])), (16, (61, 76, 2, 0, [])), (19, (12, 1, 24, 0, [])), (22, (0, 1, 0, (-1), [])), (23, (50, 0, 0, 0, [])), (24, (0, 1, 0, 0, [])), (25, (2, 4, 2, 0, [])), (27, (1, 4, 2, 0, [])), (29, (33, 0, 1, 0, [])), (30, (18, 7, 0, 0, [])), (33, (13, 3, 111, 0, [])), (36, (33, 0, 1, 0, [])), (37, (1, 1, 1, 0, [])), (38, (1, 4, 2, 0, [])), (40, (1, 2, 1, 0, [])), (41, (60, 83, 3, 0, [])), (44, (12, 1, 50, 0, [])), (47, (14, 105, 0, 0, [])), (50, (0, 1, 0, 0, [])), (51, (2, 5, 2, 0, [])), (53, (0, 1, 0, 0, [])), (54, (2, 6, 2, 0, [])), (56, (1, 6, 2, 0, [])), (58, (33, 0, 1, 0, [])), (59, (18, 7, 0, 0, [])), (62, (13, 3, 96, 0, [])), (65, (33, 0, 1, 0, [])), (66, (1, 1, 1, 0, [])), (67, (1, 6, 2, 0, [])), (69, (1, 2, 1, 0, [])), (70, (60, 83, 3, 0, [])), (73, (12, 0, 90, 0, [])), (76, (33, 0, 1, 0, [])), (77, (1, 6, 2, 0, [])), (79, (1, 4, 2, 0, [])), (81, (60, 82, 2, 0, [])), (84, (12, 0, 90, 0, [])), (87, (3, 5, 3, 1, [])), (90, (3, 6, 3, 1, [])), (93, (14, 56, 0, 0, [])), (96, (1, 5, 2, 0, [])), (98, (1, 3, 1, 0, [])), (99, (13, 1, 105, 0, [])), (102, (1, 4, 2, 0, [])), (104, (50, 0, 0, 0, [])), (105, (3, 4, 3, 1, [])), (108, (14, 27, 0, 0, [])), (111, (0, 1, 0, (-1), [])), (112, (50, 0, 0, 0, []))]
/-- 109: CausalPlacesModel.link(III)I -/
def am_t109 : List (Nat × aI) := [(0, (1, 1, 1, 0, [])), (1, (1, 2, 1, 0, [])), (2, (61, 77, 2, 0, [])), (5, (12, 1, 10, 0, [])), (8, (0, 1, 0, (-1), [])), (9, (50, 0, 0, 0, [])), (10, (33, 0, 1, 0, [])), (11, (1, 1, 1, 0, [])), (12, (1, 2, 1, 0, [])), (13, (60, 86, 2, 0, [])), (16, (2, 4, 2, 0, [])), (18, (1, 3, 1, 0, [])), (19, (32, 154, 0, 0, [(0, 44), (1, 108), (2, 131)])), (44, (0, 1, 0, 0, [])), (45, (2, 5, 2, 0, [])), (47, (0, 1, 0, 0, [])), (48, (2, 6, 2, 0, [])), (50, (1, 6, 2, 0, [])), (52, (33, 0, 1, 0, [])), (53, (18, 7, 22, 0, [])), (56, (13, 3, 105, 0, [])), (59, (1, 5, 2, 0, [])), (61, (33, 0, 1, 0, [])), (62, (18, 7, 23, 0, [])), (65, (0, 2, 0, 7, [])), (67, (1, 6, 2, 0, [])), (69, (4, 2, 0, 0, [])), (70, (22, 0, 0, 0, [])), (71, (1, 1, 1, 0, [])), (72, (13, 1, 95, 0, [])), (75, (33, 0, 1, 0, [])), (76, (18, 7, 23, 0, [])), (79, (0, 2, 0, 7, [])), (81, (1, 6, 2, 0, [])), (83, (4, 2, 0, 0, [])), (84, (0, 1, 0, 1, [])), (85, (4, 0, 0, 0, [])), (86, (22, 0, 0, 0, [])), (87, (1, 2, 1, 0, [])), (88, (13, 1, 95, 0, [])), (91, (0, 1, 0, 1, [])), (92, (14, 96, 0, 0, [])), (95, (0, 1, 0, 0, [])), (96, (4, 0, 0, 0, [])), (97, (2, 5, 2, 0, [])), (99, (3, 6, 3, 1, [])), (102, (14, 50, 0, 0, [])), (105, (1, 5, 2, 0, [])), (107, (50, 0, 0, 0, [])), (108, (1, 4, 2, 0, [])), (110, (0, 1, 0, (-1), [])), (111, (13, 1, 118, 0, [])), (114, (0, 1, 0, 0, [])), (115, (14, 130, 0, 0, [])), (118, (33, 0, 1, 0, [])), (119, (18, 7, 23, 0, [])), (122, (0, 2, 0, 7, [])), (124, (1, 4, 2, 0, [])), (126, (4, 2, 0, 0, [])), (127, (0, 1, 0, 2, [])), (128, (4, 0, 0, 0, [])), (129, (22, 0, 0, 0, [])), (130, (50, 0, 0, 0, [])), (131, (1, 4, 2, 0, [])), (133, (0, 1, 0, (-1), [])), (134, (13, 1, 141, 0, [])), (137, (0, 1, 0, (-1), [])), (138, (14, 153, 0, 0, [])), (141, (33, 0, 1, 0, [])), (142, (18, 7, 23, 0, [])), (145, (0, 2, 0, 7, [])), (147, (1, 4, 2, 0, [])), (149, (4, 2, 0, 0, [])), (150, (0, 1, 0, 3, [])), (151, (4, 0, 0, 0, [])), (152, (22, 0, 0, 0, [])), (153, (50, 0, 0, 0, [])), (154, (0, 1, 0, (-1), [])), (155, (50, 0, 0, 0, []))]
def am_tab (i : Nat) : List (Nat × aI) := match i with
  | 0 => am_t0
  | 1 => am_t1
  | 2 => am_t2
  | 3 => am_t3
  | 4 => am_t4
  | 5 => am_t5
  | 6 => am_t6
  | 7 => am_t7
  | 8 => am_t8
  | 9 => am_t9
  | 10 => am_t10
  | 11 => am_t11
  | 12 => am_t12
  | 13 => am_t13
  | 14 => am_t14
  | 15 => am_t15
  | 16 => am_t16
  | 17 => am_t17
  | 18 => am_t18
  | 19 => am_t19
  | 20 => am_t20
  | 21 => am_t21
  | 22 => am_t22
  | 23 => am_t23
  | 24 => am_t24
  | 25 => am_t25
  | 26 => am_t26
  | 27 => am_t27
  | 28 => am_t28
  | 29 => am_t29
  | 30 => am_t30
  | 31 => am_t31
  | 32 => am_t32
  | 33 => am_t33
  | 34 => am_t34
  | 35 => am_t35
  | 36 => am_t36
  | 37 => am_t37
  | 38 => am_t38
  | 39 => am_t39
  | 40 => am_t40
  | 41 => am_t41
  | 42 => am_t42
  | 43 => am_t43
  | 44 => am_t44
  | 45 => am_t45
  | 46 => am_t46
  | 47 => am_t47
  | 48 => am_t48
  | 49 => am_t49
  | 50 => am_t50
  | 51 => am_t51
  | 52 => am_t52
  | 53 => am_t53
  | 54 => am_t54
  | 55 => am_t55
  | 56 => am_t56
  | 57 => am_t57
  | 58 => am_t58
  | 59 => am_t59
  | 60 => am_t60
  | 61 => am_t61
  | 62 => am_t62
  | 63 => am_t63
  | 64 => am_t64
  | 65 => am_t65
  | 66 => am_t66
  | 67 => am_t67
  | 68 => am_t68
  | 69 => am_t69
  | 70 => am_t70
  | 71 => am_t71
  | 72 => am_t72
  | 73 => am_t73
  | 74 => am_t74
  | 75 => am_t75
  | 76 => am_t76
  | 77 => am_t77
  | 78 => am_t78
  | 79 => am_t79
  | 80 => am_t80
  | 81 => am_t81
  | 82 => am_t82
  | 83 => am_t83
  | 84 => am_t84
  | 85 => am_t85
  | 86 => am_t86
  | 87 => am_t87
  | 88 => am_t88
  | 89 => am_t89
  | 90 => am_t90
  | 91 => am_t91
  | 92 => am_t92
  | 93 => am_t93
  | 94 => am_t94
  | 95 => am_t95
  | 96 => am_t96
  | 97 => am_t97
  | 98 => am_t98
  | 99 => am_t99
  | 100 => am_t100
  | 101 => am_t101
  | 102 => am_t102
  | 103 => am_t103
  | 104 => am_t104
  | 105 => am_t105
  | 106 => am_t106
  | 107 => am_t107
  | 108 => am_t108
  | 109 => am_t109
  | _ => []
def am_ins (i pc : Nat) : aI := ((am_tab i).lookup pc).getD (99, 0, 0, 0, [])
def am_TW : List Cond := lw_tbl.filter goodWord
theorem am_TW_good : ∀ w ∈ am_TW, (w.onTables && w.keeps) = true ∨ ∃ ty, w = .arrayClass ty := fun w hw => good_of_word (List.mem_filter.mp hw).2
theorem am_tw {w : Cond} (i : Nat) (h : lw_tbl[i]? = some w) (hg : goodWord w = true) : w ∈ am_TW := List.mem_filter.mpr ⟨List.mem_of_getElem? h, hg⟩
theorem fin0 : ∀ w ∈ u_ws CN0 FT0 5, w ∈ am_TW := by
  have h : (u_ws CN0 FT0 5).map some = [172, 174, 176, 178, 180].map (fun i => lw_tbl[i]?) := by decide +kernel
  have hg : (u_ws CN0 FT0 5).all goodWord = true := by decide +kernel
  intro w hw
  have h1 : some w ∈ (u_ws CN0 FT0 5).map some := List.mem_map.mpr ⟨w, hw, rfl⟩
  rw [h] at h1
  obtain ⟨i, -, hi⟩ := List.mem_map.mp h1
  exact am_tw i hi (List.all_eq_true.mp hg w hw)
theorem fin1 : ∀ w ∈ u_ws CN1 FT1 7, w ∈ am_TW := by
  have h : (u_ws CN1 FT1 7).map some = [87, 89, 91, 93, 95, 97, 99].map (fun i => lw_tbl[i]?) := by decide +kernel
  have hg : (u_ws CN1 FT1 7).all goodWord = true := by decide +kernel
  intro w hw
  have h1 : some w ∈ (u_ws CN1 FT1 7).map some := List.mem_map.mpr ⟨w, hw, rfl⟩
  rw [h] at h1
  obtain ⟨i, -, hi⟩ := List.mem_map.mp h1
  exact am_tw i hi (List.all_eq_true.mp hg w hw)
theorem fin2 : ∀ w ∈ u_ws CN2 FT2 3, w ∈ am_TW := by
  have h : (u_ws CN2 FT2 3).map some = [159, 161, 163].map (fun i => lw_tbl[i]?) := by decide +kernel
  have hg : (u_ws CN2 FT2 3).all goodWord = true := by decide +kernel
  intro w hw
  have h1 : some w ∈ (u_ws CN2 FT2 3).map some := List.mem_map.mpr ⟨w, hw, rfl⟩
  rw [h] at h1
  obtain ⟨i, -, hi⟩ := List.mem_map.mp h1
  exact am_tw i hi (List.all_eq_true.mp hg w hw)
theorem fin3 : ∀ w ∈ u_ws CN3 FT3 5, w ∈ am_TW := by
  have h : (u_ws CN3 FT3 5).map some = [390, 392, 394, 396, 398].map (fun i => lw_tbl[i]?) := by decide +kernel
  have hg : (u_ws CN3 FT3 5).all goodWord = true := by decide +kernel
  intro w hw
  have h1 : some w ∈ (u_ws CN3 FT3 5).map some := List.mem_map.mpr ⟨w, hw, rfl⟩
  rw [h] at h1
  obtain ⟨i, -, hi⟩ := List.mem_map.mp h1
  exact am_tw i hi (List.all_eq_true.mp hg w hw)
theorem fin4 : ∀ w ∈ u_ws CN4 FT4 9, w ∈ am_TW := by
  have h : (u_ws CN4 FT4 9).map some = [125, 127, 129, 131, 133, 135, 137, 139, 141].map (fun i => lw_tbl[i]?) := by decide +kernel
  have hg : (u_ws CN4 FT4 9).all goodWord = true := by decide +kernel
  intro w hw
  have h1 : some w ∈ (u_ws CN4 FT4 9).map some := List.mem_map.mpr ⟨w, hw, rfl⟩
  rw [h] at h1
  obtain ⟨i, -, hi⟩ := List.mem_map.mp h1
  exact am_tw i hi (List.all_eq_true.mp hg w hw)
theorem fin5 : ∀ w ∈ u_ws CN5 FT5 8, w ∈ am_TW := by
  have h : (u_ws CN5 FT5 8).map some = [327, 329, 331, 333, 335, 337, 339, 341].map (fun i => lw_tbl[i]?) := by decide +kernel
  have hg : (u_ws CN5 FT5 8).all goodWord = true := by decide +kernel
  intro w hw
  have h1 : some w ∈ (u_ws CN5 FT5 8).map some := List.mem_map.mpr ⟨w, hw, rfl⟩
  rw [h] at h1
  obtain ⟨i, -, hi⟩ := List.mem_map.mp h1
  exact am_tw i hi (List.all_eq_true.mp hg w hw)
theorem fin6 : ∀ w ∈ u_ws CN6 FT6 2, w ∈ am_TW := by
  have h : (u_ws CN6 FT6 2).map some = [64, 66].map (fun i => lw_tbl[i]?) := by decide +kernel
  have hg : (u_ws CN6 FT6 2).all goodWord = true := by decide +kernel
  intro w hw
  have h1 : some w ∈ (u_ws CN6 FT6 2).map some := List.mem_map.mpr ⟨w, hw, rfl⟩
  rw [h] at h1
  obtain ⟨i, -, hi⟩ := List.mem_map.mp h1
  exact am_tw i hi (List.all_eq_true.mp hg w hw)
theorem fin7 : ∀ w ∈ u_ws CN7 FT7 24, w ∈ am_TW := by
  have h : (u_ws CN7 FT7 24).map some = [562, 564, 566, 568, 570, 572, 574, 576, 578, 580, 582, 584, 586, 588, 590, 592, 594, 596, 598, 600, 602, 604, 606, 608].map (fun i => lw_tbl[i]?) := by decide +kernel
  have hg : (u_ws CN7 FT7 24).all goodWord = true := by decide +kernel
  intro w hw
  have h1 : some w ∈ (u_ws CN7 FT7 24).map some := List.mem_map.mpr ⟨w, hw, rfl⟩
  rw [h] at h1
  obtain ⟨i, -, hi⟩ := List.mem_map.mp h1
  exact am_tw i hi (List.all_eq_true.mp hg w hw)
theorem w_1 : (Jvm.Cond.initialized "CausalPlaces") ∈ am_TW := am_tw 30 (by decide +kernel) rfl
theorem w_2 : (Jvm.Cond.initialized "CausalPlaces$Client") ∈ am_TW := am_tw 31 (by decide +kernel) rfl
theorem w_3 : (Jvm.Cond.initialized "CausalPlaces$Writes") ∈ am_TW := am_tw 32 (by decide +kernel) rfl
theorem w_4 : (Jvm.Cond.initialized "CausalPlaces$Server") ∈ am_TW := am_tw 33 (by decide +kernel) rfl
theorem w_5 : (Jvm.Cond.initialized "CausalPlaces$Link") ∈ am_TW := am_tw 34 (by decide +kernel) rfl
theorem w_6 : (Jvm.Cond.initialized "CausalPlacesModel") ∈ am_TW := am_tw 35 (by decide +kernel) rfl
theorem w_7 : (Jvm.Cond.initialized "java/lang/Math") ∈ am_TW := am_tw 36 (by decide +kernel) rfl
theorem w_8 : (Jvm.Cond.initialized "CausalPlaces$Transaction") ∈ am_TW := am_tw 37 (by decide +kernel) rfl
theorem w_9 : (Jvm.Cond.initialized "CausalPlaces$Message") ∈ am_TW := am_tw 38 (by decide +kernel) rfl
theorem w_10 : (Jvm.Cond.classLink "CausalPlacesLaw" (7 : Nat) "CausalPlaces") ∈ am_TW := am_tw 39 (by decide +kernel) rfl
theorem w_11 : (Jvm.Cond.instantiable "CausalPlaces" (5 : Nat)) ∈ am_TW := am_tw 40 (by decide +kernel) rfl
theorem w_12 : (Jvm.Cond.methodLink "CausalPlacesLaw" (9 : Nat) ({ cls := "CausalPlaces", name := "<init>", desc := "()V" } : Jvm.MethodName)) ∈ am_TW := am_tw 41 (by decide +kernel) rfl
theorem w_13 : (Jvm.Cond.instanceMethod ({ cls := "CausalPlaces", name := "<init>", desc := "()V" } : Jvm.MethodName)) ∈ am_TW := am_tw 42 (by decide +kernel) rfl
theorem w_15 : (Jvm.Cond.methodLink "CausalPlaces" (1 : Nat) ({ cls := "java/lang/Object", name := "<init>", desc := "()V" } : Jvm.MethodName)) ∈ am_TW := am_tw 44 (by decide +kernel) rfl
theorem w_16 : (Jvm.Cond.instanceMethod ({ cls := "java/lang/Object", name := "<init>", desc := "()V" } : Jvm.MethodName)) ∈ am_TW := am_tw 45 (by decide +kernel) rfl
set_option maxRecDepth 100000 in
theorem w_17 : (Jvm.Cond.code ({ cls := "java/lang/Object", name := "<init>", desc := "()V" } : Jvm.MethodName) object_method_1_code (1 : Nat) (Option.none : Option Jvm.ClassFile.FieldType)) ∈ am_TW := am_tw 46 rfl rfl
theorem w_18 : (Jvm.Cond.classLink "CausalPlaces" (9 : Nat) "CausalPlaces$Client") ∈ am_TW := am_tw 47 (by decide +kernel) rfl
theorem w_20 : (Jvm.Cond.instantiable "CausalPlaces$Client" (7 : Nat)) ∈ am_TW := am_tw 49 (by decide +kernel) rfl
theorem w_21 : (Jvm.Cond.methodLink "CausalPlaces" (15 : Nat) ({ cls := "CausalPlaces$Client", name := "<init>", desc := "(I)V" } : Jvm.MethodName)) ∈ am_TW := am_tw 50 (by decide +kernel) rfl
theorem w_22 : (Jvm.Cond.instanceMethod ({ cls := "CausalPlaces$Client", name := "<init>", desc := "(I)V" } : Jvm.MethodName)) ∈ am_TW := am_tw 51 (by decide +kernel) rfl
theorem w_24 : (Jvm.Cond.methodLink "CausalPlaces$Client" (3 : Nat) ({ cls := "java/lang/Object", name := "<init>", desc := "()V" } : Jvm.MethodName)) ∈ am_TW := am_tw 53 (by decide +kernel) rfl
theorem w_25 : (Jvm.Cond.classLink "CausalPlaces$Client" (15 : Nat) "CausalPlaces$Transaction") ∈ am_TW := am_tw 54 (by decide +kernel) rfl
theorem w_27 : (Jvm.Cond.classLink "CausalPlaces$Client" (21 : Nat) "CausalPlaces$Writes") ∈ am_TW := am_tw 56 (by decide +kernel) rfl
theorem w_28 : (Jvm.Cond.instantiable "CausalPlaces$Writes" (2 : Nat)) ∈ am_TW := am_tw 57 (by decide +kernel) rfl
theorem w_30 : (Jvm.Cond.instanceMethod ({ cls := "CausalPlaces$Writes", name := "<init>", desc := "()V" } : Jvm.MethodName)) ∈ am_TW := am_tw 59 (by decide +kernel) rfl
theorem w_32 : (Jvm.Cond.methodLink "CausalPlaces$Writes" (3 : Nat) ({ cls := "java/lang/Object", name := "<init>", desc := "()V" } : Jvm.MethodName)) ∈ am_TW := am_tw 61 (by decide +kernel) rfl
theorem w_33 : (Jvm.Cond.fieldLink "CausalPlaces$Writes" (9 : Nat) "CausalPlaces$Writes" "has" "[Z") ∈ am_TW := am_tw 62 (by decide +kernel) rfl
theorem w_34 : (Jvm.Cond.fieldLink "CausalPlaces$Writes" (15 : Nat) "CausalPlaces$Writes" "ints" "[I") ∈ am_TW := am_tw 63 (by decide +kernel) rfl
theorem w_40 : (Jvm.Cond.arrayClass Jvm.ClassFile.FieldType.int) ∈ am_TW := am_tw 69 (by decide +kernel) rfl
theorem w_41 : (Jvm.Cond.arrayClass Jvm.ClassFile.FieldType.boolean) ∈ am_TW := am_tw 70 (by decide +kernel) rfl
theorem w_42 : (Jvm.Cond.fieldLink "CausalPlaces$Transaction" (19 : Nat) "CausalPlaces$Client" "place" "I") ∈ am_TW := am_tw 71 (by decide +kernel) rfl
theorem w_43 : (Jvm.Cond.fieldLink "CausalPlaces$Client" (28 : Nat) "CausalPlaces$Client" "place" "I") ∈ am_TW := am_tw 72 (by decide +kernel) rfl
theorem w_44 : (Jvm.Cond.fieldLink "CausalPlaces" (53 : Nat) "CausalPlaces$Client" "place" "I") ∈ am_TW := am_tw 73 (by decide +kernel) rfl
theorem w_45 : (Jvm.Cond.fieldLink "CausalPlaces$Client" (9 : Nat) "CausalPlaces$Client" "seen" "[I") ∈ am_TW := am_tw 74 (by decide +kernel) rfl
theorem w_46 : (Jvm.Cond.fieldLink "CausalPlaces$Transaction" (29 : Nat) "CausalPlaces$Client" "seen" "[I") ∈ am_TW := am_tw 75 (by decide +kernel) rfl
theorem w_47 : (Jvm.Cond.fieldLink "CausalPlaces" (180 : Nat) "CausalPlaces$Client" "seen" "[I") ∈ am_TW := am_tw 76 (by decide +kernel) rfl
theorem w_48 : (Jvm.Cond.fieldLink "CausalPlaces$Client" (17 : Nat) "CausalPlaces$Client" "own" "[LCausalPlaces$Transaction;") ∈ am_TW := am_tw 77 (by decide +kernel) rfl
theorem w_49 : (Jvm.Cond.fieldLink "CausalPlaces$Client" (24 : Nat) "CausalPlaces$Client" "writes" "LCausalPlaces$Writes;") ∈ am_TW := am_tw 78 (by decide +kernel) rfl
theorem w_50 : (Jvm.Cond.fieldLink "CausalPlaces$Transaction" (46 : Nat) "CausalPlaces$Client" "writes" "LCausalPlaces$Writes;") ∈ am_TW := am_tw 79 (by decide +kernel) rfl
theorem w_51 : (Jvm.Cond.fieldLink "CausalPlaces" (78 : Nat) "CausalPlaces$Client" "writes" "LCausalPlaces$Writes;") ∈ am_TW := am_tw 80 (by decide +kernel) rfl
theorem w_52 : (Jvm.Cond.fieldLink "CausalPlaces" (50 : Nat) "CausalPlaces$Client" "doing" "I") ∈ am_TW := am_tw 81 (by decide +kernel) rfl
theorem w_53 : (Jvm.Cond.fieldLink "CausalPlaces$Client" (48 : Nat) "CausalPlaces$Client" "doing" "I") ∈ am_TW := am_tw 82 (by decide +kernel) rfl
theorem w_54 : (Jvm.Cond.fieldLink "CausalPlaces$Transaction" (25 : Nat) "CausalPlaces$Client" "latest" "I") ∈ am_TW := am_tw 83 (by decide +kernel) rfl
theorem w_55 : (Jvm.Cond.fieldLink "CausalPlaces$Client" (54 : Nat) "CausalPlaces$Client" "latest" "I") ∈ am_TW := am_tw 84 (by decide +kernel) rfl
theorem w_56 : (Jvm.Cond.fieldLink "CausalPlaces" (174 : Nat) "CausalPlaces$Client" "latest" "I") ∈ am_TW := am_tw 85 (by decide +kernel) rfl
theorem w_57 : (Jvm.Cond.fieldLink "CausalPlaces" (90 : Nat) "CausalPlaces$Client" "lastRead" "I") ∈ am_TW := am_tw 86 (by decide +kernel) rfl
theorem w_73 : (Jvm.Cond.classLink "CausalPlaces" (18 : Nat) "CausalPlaces$Server") ∈ am_TW := am_tw 102 (by decide +kernel) rfl
theorem w_75 : (Jvm.Cond.instantiable "CausalPlaces$Server" (9 : Nat)) ∈ am_TW := am_tw 104 (by decide +kernel) rfl
theorem w_76 : (Jvm.Cond.methodLink "CausalPlaces" (24 : Nat) ({ cls := "CausalPlaces$Server", name := "<init>", desc := "(I)V" } : Jvm.MethodName)) ∈ am_TW := am_tw 105 (by decide +kernel) rfl
theorem w_77 : (Jvm.Cond.instanceMethod ({ cls := "CausalPlaces$Server", name := "<init>", desc := "(I)V" } : Jvm.MethodName)) ∈ am_TW := am_tw 106 (by decide +kernel) rfl
theorem w_79 : (Jvm.Cond.methodLink "CausalPlaces$Server" (3 : Nat) ({ cls := "java/lang/Object", name := "<init>", desc := "()V" } : Jvm.MethodName)) ∈ am_TW := am_tw 108 (by decide +kernel) rfl
theorem w_80 : (Jvm.Cond.classLink "CausalPlaces$Server" (24 : Nat) "CausalPlaces$Transaction") ∈ am_TW := am_tw 109 (by decide +kernel) rfl
theorem w_81 : (Jvm.Cond.fieldLink "CausalPlaces$Server" (30 : Nat) "CausalPlaces$Server" "number" "I") ∈ am_TW := am_tw 110 (by decide +kernel) rfl
theorem w_82 : (Jvm.Cond.fieldLink "CausalPlaces" (137 : Nat) "CausalPlaces$Server" "number" "I") ∈ am_TW := am_tw 111 (by decide +kernel) rfl
theorem w_83 : (Jvm.Cond.fieldLink "CausalPlaces$Server" (34 : Nat) "CausalPlaces$Server" "place" "I") ∈ am_TW := am_tw 112 (by decide +kernel) rfl
theorem w_84 : (Jvm.Cond.fieldLink "CausalPlaces" (129 : Nat) "CausalPlaces$Server" "place" "I") ∈ am_TW := am_tw 113 (by decide +kernel) rfl
theorem w_85 : (Jvm.Cond.fieldLink "CausalPlaces$Server" (9 : Nat) "CausalPlaces$Server" "known" "[I") ∈ am_TW := am_tw 114 (by decide +kernel) rfl
theorem w_86 : (Jvm.Cond.fieldLink "CausalPlaces" (143 : Nat) "CausalPlaces$Server" "known" "[I") ∈ am_TW := am_tw 115 (by decide +kernel) rfl
theorem w_87 : (Jvm.Cond.fieldLink "CausalPlaces$Server" (15 : Nat) "CausalPlaces$Server" "heard" "[I") ∈ am_TW := am_tw 116 (by decide +kernel) rfl
theorem w_88 : (Jvm.Cond.fieldLink "CausalPlaces" (193 : Nat) "CausalPlaces$Server" "heard" "[I") ∈ am_TW := am_tw 117 (by decide +kernel) rfl
theorem w_89 : (Jvm.Cond.fieldLink "CausalPlaces$Server" (18 : Nat) "CausalPlaces$Server" "stages" "[I") ∈ am_TW := am_tw 118 (by decide +kernel) rfl
theorem w_90 : (Jvm.Cond.fieldLink "CausalPlaces$Server" (21 : Nat) "CausalPlaces$Server" "times" "[I") ∈ am_TW := am_tw 119 (by decide +kernel) rfl
theorem w_91 : (Jvm.Cond.fieldLink "CausalPlaces$Server" (26 : Nat) "CausalPlaces$Server" "kept" "[LCausalPlaces$Transaction;") ∈ am_TW := am_tw 120 (by decide +kernel) rfl
theorem w_92 : (Jvm.Cond.fieldLink "CausalPlaces" (199 : Nat) "CausalPlaces$Server" "keptCount" "I") ∈ am_TW := am_tw 121 (by decide +kernel) rfl
theorem w_93 : (Jvm.Cond.fieldLink "CausalPlaces$Server" (79 : Nat) "CausalPlaces$Server" "keptCount" "I") ∈ am_TW := am_tw 122 (by decide +kernel) rfl
theorem w_94 : (Jvm.Cond.fieldLink "CausalPlaces$Server" (54 : Nat) "CausalPlaces$Server" "clock" "I") ∈ am_TW := am_tw 123 (by decide +kernel) rfl
theorem w_95 : (Jvm.Cond.fieldLink "CausalPlaces" (123 : Nat) "CausalPlaces$Server" "clock" "I") ∈ am_TW := am_tw 124 (by decide +kernel) rfl
theorem w_115 : (Jvm.Cond.classLink "CausalPlaces" (25 : Nat) "CausalPlaces$Link") ∈ am_TW := am_tw 144 (by decide +kernel) rfl
theorem w_117 : (Jvm.Cond.methodLink "CausalPlaces" (31 : Nat) ({ cls := "CausalPlaces", name := "areLinked", desc := "(II)Z" } : Jvm.MethodName)) ∈ am_TW := am_tw 146 (by decide +kernel) rfl
theorem w_118 : (Jvm.Cond.static ({ cls := "CausalPlaces", name := "areLinked", desc := "(II)Z" } : Jvm.MethodName)) ∈ am_TW := am_tw 147 (by decide +kernel) rfl
theorem w_120 : (Jvm.Cond.instantiable "CausalPlaces$Link" (3 : Nat)) ∈ am_TW := am_tw 149 (by decide +kernel) rfl
theorem w_122 : (Jvm.Cond.instanceMethod ({ cls := "CausalPlaces$Link", name := "<init>", desc := "()V" } : Jvm.MethodName)) ∈ am_TW := am_tw 151 (by decide +kernel) rfl
theorem w_124 : (Jvm.Cond.methodLink "CausalPlaces$Link" (3 : Nat) ({ cls := "java/lang/Object", name := "<init>", desc := "()V" } : Jvm.MethodName)) ∈ am_TW := am_tw 153 (by decide +kernel) rfl
theorem w_125 : (Jvm.Cond.fieldLink "CausalPlaces$Link" (19 : Nat) "CausalPlaces$Link" "first" "LCausalPlaces$Message;") ∈ am_TW := am_tw 154 (by decide +kernel) rfl
theorem w_126 : (Jvm.Cond.fieldLink "CausalPlaces" (227 : Nat) "CausalPlaces$Link" "first" "LCausalPlaces$Message;") ∈ am_TW := am_tw 155 (by decide +kernel) rfl
theorem w_127 : (Jvm.Cond.fieldLink "CausalPlaces$Link" (15 : Nat) "CausalPlaces$Link" "last" "LCausalPlaces$Message;") ∈ am_TW := am_tw 156 (by decide +kernel) rfl
theorem w_128 : (Jvm.Cond.fieldLink "CausalPlaces$Link" (9 : Nat) "CausalPlaces$Link" "count" "I") ∈ am_TW := am_tw 157 (by decide +kernel) rfl
theorem w_129 : (Jvm.Cond.fieldLink "CausalPlaces" (224 : Nat) "CausalPlaces$Link" "count" "I") ∈ am_TW := am_tw 158 (by decide +kernel) rfl
theorem w_137 : (Jvm.Cond.classLink "CausalPlaces" (36 : Nat) "CausalPlaces$Transaction") ∈ am_TW := am_tw 166 (by decide +kernel) rfl
theorem w_138 : (Jvm.Cond.fieldLink "CausalPlaces" (11 : Nat) "CausalPlaces" "clients" "[LCausalPlaces$Client;") ∈ am_TW := am_tw 167 (by decide +kernel) rfl
theorem w_139 : (Jvm.Cond.fieldLink "CausalPlaces" (20 : Nat) "CausalPlaces" "servers" "[LCausalPlaces$Server;") ∈ am_TW := am_tw 168 (by decide +kernel) rfl
theorem w_140 : (Jvm.Cond.fieldLink "CausalPlaces" (27 : Nat) "CausalPlaces" "links" "[LCausalPlaces$Link;") ∈ am_TW := am_tw 169 (by decide +kernel) rfl
theorem w_141 : (Jvm.Cond.fieldLink "CausalPlaces" (38 : Nat) "CausalPlaces" "transactions" "[LCausalPlaces$Transaction;") ∈ am_TW := am_tw 170 (by decide +kernel) rfl
theorem w_142 : (Jvm.Cond.fieldLink "CausalPlaces" (42 : Nat) "CausalPlaces" "transactionCount" "I") ∈ am_TW := am_tw 171 (by decide +kernel) rfl
theorem w_154 : (Jvm.Cond.methodLink "CausalPlacesLaw" (13 : Nat) ({ cls := "CausalPlaces", name := "start", desc := "(I)I" } : Jvm.MethodName)) ∈ am_TW := am_tw 183 (by decide +kernel) rfl
theorem w_155 : (Jvm.Cond.instanceMethod ({ cls := "CausalPlaces", name := "start", desc := "(I)I" } : Jvm.MethodName)) ∈ am_TW := am_tw 184 (by decide +kernel) rfl
theorem w_156 : (Jvm.Cond.selects "CausalPlaces" ({ cls := "CausalPlaces", name := "start", desc := "(I)I" } : Jvm.MethodName) ({ cls := "CausalPlaces", name := "start", desc := "(I)I" } : Jvm.MethodName)) ∈ am_TW := am_tw 185 (by decide +kernel) rfl
theorem w_158 : (Jvm.Cond.methodLink "CausalPlaces" (46 : Nat) ({ cls := "CausalPlaces", name := "clientAt", desc := "(I)LCausalPlaces$Client;" } : Jvm.MethodName)) ∈ am_TW := am_tw 187 (by decide +kernel) rfl
theorem w_160 : (Jvm.Cond.instanceMethod ({ cls := "CausalPlaces", name := "clientAt", desc := "(I)LCausalPlaces$Client;" } : Jvm.MethodName)) ∈ am_TW := am_tw 189 (by decide +kernel) rfl
theorem w_162 : (Jvm.Cond.methodLink "CausalPlaces" (56 : Nat) ({ cls := "CausalPlaces", name := "firstServerOf", desc := "(I)I" } : Jvm.MethodName)) ∈ am_TW := am_tw 191 (by decide +kernel) rfl
theorem w_163 : (Jvm.Cond.static ({ cls := "CausalPlaces", name := "firstServerOf", desc := "(I)I" } : Jvm.MethodName)) ∈ am_TW := am_tw 192 (by decide +kernel) rfl
theorem w_165 : (Jvm.Cond.methodLink "CausalPlaces" (60 : Nat) ({ cls := "CausalPlaces", name := "serverAt", desc := "(I)LCausalPlaces$Server;" } : Jvm.MethodName)) ∈ am_TW := am_tw 194 (by decide +kernel) rfl
theorem w_167 : (Jvm.Cond.instanceMethod ({ cls := "CausalPlaces", name := "serverAt", desc := "(I)LCausalPlaces$Server;" } : Jvm.MethodName)) ∈ am_TW := am_tw 196 (by decide +kernel) rfl
theorem w_169 : (Jvm.Cond.methodLink "CausalPlaces" (64 : Nat) ({ cls := "CausalPlaces$Client", name := "seeStable", desc := "(LCausalPlaces$Server;)V" } : Jvm.MethodName)) ∈ am_TW := am_tw 198 (by decide +kernel) rfl
theorem w_170 : (Jvm.Cond.instanceMethod ({ cls := "CausalPlaces$Client", name := "seeStable", desc := "(LCausalPlaces$Server;)V" } : Jvm.MethodName)) ∈ am_TW := am_tw 199 (by decide +kernel) rfl
theorem w_171 : (Jvm.Cond.selects "CausalPlaces$Client" ({ cls := "CausalPlaces$Client", name := "seeStable", desc := "(LCausalPlaces$Server;)V" } : Jvm.MethodName) ({ cls := "CausalPlaces$Client", name := "seeStable", desc := "(LCausalPlaces$Server;)V" } : Jvm.MethodName)) ∈ am_TW := am_tw 200 (by decide +kernel) rfl
theorem w_173 : (Jvm.Cond.methodLink "CausalPlaces$Client" (32 : Nat) ({ cls := "CausalPlaces$Server", name := "stableOf", desc := "(I)I" } : Jvm.MethodName)) ∈ am_TW := am_tw 202 (by decide +kernel) rfl
theorem w_174 : (Jvm.Cond.instanceMethod ({ cls := "CausalPlaces$Server", name := "stableOf", desc := "(I)I" } : Jvm.MethodName)) ∈ am_TW := am_tw 203 (by decide +kernel) rfl
theorem w_175 : (Jvm.Cond.selects "CausalPlaces$Server" ({ cls := "CausalPlaces$Server", name := "stableOf", desc := "(I)I" } : Jvm.MethodName) ({ cls := "CausalPlaces$Server", name := "stableOf", desc := "(I)I" } : Jvm.MethodName)) ∈ am_TW := am_tw 204 (by decide +kernel) rfl
theorem w_178 : (Jvm.Cond.static ({ cls := "CausalPlaces", name := "numberOf", desc := "([II)I" } : Jvm.MethodName)) ∈ am_TW := am_tw 207 (by decide +kernel) rfl
theorem w_180 : (Jvm.Cond.methodLink "CausalPlaces$Server" (45 : Nat) ({ cls := "java/lang/Math", name := "min", desc := "(II)I" } : Jvm.MethodName)) ∈ am_TW := am_tw 209 (by decide +kernel) rfl
theorem w_181 : (Jvm.Cond.static ({ cls := "java/lang/Math", name := "min", desc := "(II)I" } : Jvm.MethodName)) ∈ am_TW := am_tw 210 (by decide +kernel) rfl
set_option maxRecDepth 100000 in
theorem w_182 : (Jvm.Cond.code ({ cls := "java/lang/Math", name := "min", desc := "(II)I" } : Jvm.MethodName) prog_11_method_69_code (2 : Nat) (Option.some Jvm.ClassFile.FieldType.int)) ∈ am_TW := am_tw 211 rfl rfl
theorem w_183 : (Jvm.Cond.methodLink "CausalPlaces$Client" (38 : Nat) ({ cls := "java/lang/Math", name := "max", desc := "(II)I" } : Jvm.MethodName)) ∈ am_TW := am_tw 212 (by decide +kernel) rfl
theorem w_184 : (Jvm.Cond.static ({ cls := "java/lang/Math", name := "max", desc := "(II)I" } : Jvm.MethodName)) ∈ am_TW := am_tw 213 (by decide +kernel) rfl
set_option maxRecDepth 100000 in
theorem w_185 : (Jvm.Cond.code ({ cls := "java/lang/Math", name := "max", desc := "(II)I" } : Jvm.MethodName) prog_11_method_65_code (2 : Nat) (Option.some Jvm.ClassFile.FieldType.int)) ∈ am_TW := am_tw 214 rfl rfl
theorem w_186 : (Jvm.Cond.methodLink "CausalPlaces" (68 : Nat) ({ cls := "CausalPlaces$Client", name := "forgetSeenVersions", desc := "()V" } : Jvm.MethodName)) ∈ am_TW := am_tw 215 (by decide +kernel) rfl
theorem w_187 : (Jvm.Cond.instanceMethod ({ cls := "CausalPlaces$Client", name := "forgetSeenVersions", desc := "()V" } : Jvm.MethodName)) ∈ am_TW := am_tw 216 (by decide +kernel) rfl
theorem w_188 : (Jvm.Cond.selects "CausalPlaces$Client" ({ cls := "CausalPlaces$Client", name := "forgetSeenVersions", desc := "()V" } : Jvm.MethodName) ({ cls := "CausalPlaces$Client", name := "forgetSeenVersions", desc := "()V" } : Jvm.MethodName)) ∈ am_TW := am_tw 217 (by decide +kernel) rfl
theorem w_190 : (Jvm.Cond.methodLink "CausalPlaces$Client" (44 : Nat) ({ cls := "CausalPlaces$Transaction", name := "isUpTo", desc := "([I)Z" } : Jvm.MethodName)) ∈ am_TW := am_tw 219 (by decide +kernel) rfl
theorem w_191 : (Jvm.Cond.instanceMethod ({ cls := "CausalPlaces$Transaction", name := "isUpTo", desc := "([I)Z" } : Jvm.MethodName)) ∈ am_TW := am_tw 220 (by decide +kernel) rfl
theorem w_192 : (Jvm.Cond.selects "CausalPlaces$Transaction" ({ cls := "CausalPlaces$Transaction", name := "isUpTo", desc := "([I)Z" } : Jvm.MethodName) ({ cls := "CausalPlaces$Transaction", name := "isUpTo", desc := "([I)Z" } : Jvm.MethodName)) ∈ am_TW := am_tw 221 (by decide +kernel) rfl
theorem w_194 : (Jvm.Cond.methodLink "CausalPlaces$Transaction" (68 : Nat) ({ cls := "CausalPlaces$Transaction", name := "stampOf", desc := "(I)I" } : Jvm.MethodName)) ∈ am_TW := am_tw 223 (by decide +kernel) rfl
theorem w_195 : (Jvm.Cond.instanceMethod ({ cls := "CausalPlaces$Transaction", name := "stampOf", desc := "(I)I" } : Jvm.MethodName)) ∈ am_TW := am_tw 224 (by decide +kernel) rfl
theorem w_196 : (Jvm.Cond.selects "CausalPlaces$Transaction" ({ cls := "CausalPlaces$Transaction", name := "stampOf", desc := "(I)I" } : Jvm.MethodName) ({ cls := "CausalPlaces$Transaction", name := "stampOf", desc := "(I)I" } : Jvm.MethodName)) ∈ am_TW := am_tw 225 (by decide +kernel) rfl
theorem w_199 : (Jvm.Cond.methodLink "CausalPlacesLaw" (18 : Nat) ({ cls := "CausalPlaces", name := "read", desc := "(II)I" } : Jvm.MethodName)) ∈ am_TW := am_tw 228 (by decide +kernel) rfl
theorem w_200 : (Jvm.Cond.instanceMethod ({ cls := "CausalPlaces", name := "read", desc := "(II)I" } : Jvm.MethodName)) ∈ am_TW := am_tw 229 (by decide +kernel) rfl
theorem w_201 : (Jvm.Cond.selects "CausalPlaces" ({ cls := "CausalPlaces", name := "read", desc := "(II)I" } : Jvm.MethodName) ({ cls := "CausalPlaces", name := "read", desc := "(II)I" } : Jvm.MethodName)) ∈ am_TW := am_tw 230 (by decide +kernel) rfl
theorem w_203 : (Jvm.Cond.methodLink "CausalPlaces" (71 : Nat) ({ cls := "CausalPlaces", name := "openClientAt", desc := "(I)LCausalPlaces$Client;" } : Jvm.MethodName)) ∈ am_TW := am_tw 232 (by decide +kernel) rfl
theorem w_205 : (Jvm.Cond.instanceMethod ({ cls := "CausalPlaces", name := "openClientAt", desc := "(I)LCausalPlaces$Client;" } : Jvm.MethodName)) ∈ am_TW := am_tw 234 (by decide +kernel) rfl
theorem w_207 : (Jvm.Cond.methodLink "CausalPlaces" (74 : Nat) ({ cls := "CausalPlaces", name := "isKey", desc := "(I)Z" } : Jvm.MethodName)) ∈ am_TW := am_tw 236 (by decide +kernel) rfl
theorem w_208 : (Jvm.Cond.static ({ cls := "CausalPlaces", name := "isKey", desc := "(I)Z" } : Jvm.MethodName)) ∈ am_TW := am_tw 237 (by decide +kernel) rfl
theorem w_210 : (Jvm.Cond.methodLink "CausalPlaces" (82 : Nat) ({ cls := "CausalPlaces$Writes", name := "hasKey", desc := "(I)Z" } : Jvm.MethodName)) ∈ am_TW := am_tw 239 (by decide +kernel) rfl
theorem w_211 : (Jvm.Cond.instanceMethod ({ cls := "CausalPlaces$Writes", name := "hasKey", desc := "(I)Z" } : Jvm.MethodName)) ∈ am_TW := am_tw 240 (by decide +kernel) rfl
theorem w_212 : (Jvm.Cond.selects "CausalPlaces$Writes" ({ cls := "CausalPlaces$Writes", name := "hasKey", desc := "(I)Z" } : Jvm.MethodName) ({ cls := "CausalPlaces$Writes", name := "hasKey", desc := "(I)Z" } : Jvm.MethodName)) ∈ am_TW := am_tw 241 (by decide +kernel) rfl
theorem w_215 : (Jvm.Cond.methodLink "CausalPlaces" (87 : Nat) ({ cls := "CausalPlaces$Writes", name := "intFor", desc := "(I)I" } : Jvm.MethodName)) ∈ am_TW := am_tw 244 (by decide +kernel) rfl
theorem w_216 : (Jvm.Cond.instanceMethod ({ cls := "CausalPlaces$Writes", name := "intFor", desc := "(I)I" } : Jvm.MethodName)) ∈ am_TW := am_tw 245 (by decide +kernel) rfl
theorem w_217 : (Jvm.Cond.selects "CausalPlaces$Writes" ({ cls := "CausalPlaces$Writes", name := "intFor", desc := "(I)I" } : Jvm.MethodName) ({ cls := "CausalPlaces$Writes", name := "intFor", desc := "(I)I" } : Jvm.MethodName)) ∈ am_TW := am_tw 246 (by decide +kernel) rfl
theorem w_219 : (Jvm.Cond.methodLink "CausalPlaces$Writes" (23 : Nat) ({ cls := "CausalPlaces$Writes", name := "hasKey", desc := "(I)Z" } : Jvm.MethodName)) ∈ am_TW := am_tw 248 (by decide +kernel) rfl
theorem w_220 : (Jvm.Cond.methodLink "CausalPlaces" (93 : Nat) ({ cls := "CausalPlaces", name := "newestFor", desc := "(LCausalPlaces$Client;I)LCausalPlaces$Transaction;" } : Jvm.MethodName)) ∈ am_TW := am_tw 249 (by decide +kernel) rfl
theorem w_222 : (Jvm.Cond.instanceMethod ({ cls := "CausalPlaces", name := "newestFor", desc := "(LCausalPlaces$Client;I)LCausalPlaces$Transaction;" } : Jvm.MethodName)) ∈ am_TW := am_tw 251 (by decide +kernel) rfl
theorem w_224 : (Jvm.Cond.methodLink "CausalPlaces" (232 : Nat) ({ cls := "CausalPlaces$Client", name := "ownFor", desc := "(I)LCausalPlaces$Transaction;" } : Jvm.MethodName)) ∈ am_TW := am_tw 253 (by decide +kernel) rfl
theorem w_225 : (Jvm.Cond.instanceMethod ({ cls := "CausalPlaces$Client", name := "ownFor", desc := "(I)LCausalPlaces$Transaction;" } : Jvm.MethodName)) ∈ am_TW := am_tw 254 (by decide +kernel) rfl
theorem w_226 : (Jvm.Cond.selects "CausalPlaces$Client" ({ cls := "CausalPlaces$Client", name := "ownFor", desc := "(I)LCausalPlaces$Transaction;" } : Jvm.MethodName) ({ cls := "CausalPlaces$Client", name := "ownFor", desc := "(I)LCausalPlaces$Transaction;" } : Jvm.MethodName)) ∈ am_TW := am_tw 255 (by decide +kernel) rfl
theorem w_229 : (Jvm.Cond.methodLink "CausalPlaces" (235 : Nat) ({ cls := "CausalPlaces$Server", name := "newestUpTo", desc := "(I[I)LCausalPlaces$Transaction;" } : Jvm.MethodName)) ∈ am_TW := am_tw 258 (by decide +kernel) rfl
theorem w_230 : (Jvm.Cond.instanceMethod ({ cls := "CausalPlaces$Server", name := "newestUpTo", desc := "(I[I)LCausalPlaces$Transaction;" } : Jvm.MethodName)) ∈ am_TW := am_tw 259 (by decide +kernel) rfl
theorem w_231 : (Jvm.Cond.selects "CausalPlaces$Server" ({ cls := "CausalPlaces$Server", name := "newestUpTo", desc := "(I[I)LCausalPlaces$Transaction;" } : Jvm.MethodName) ({ cls := "CausalPlaces$Server", name := "newestUpTo", desc := "(I[I)LCausalPlaces$Transaction;" } : Jvm.MethodName)) ∈ am_TW := am_tw 260 (by decide +kernel) rfl
theorem w_233 : (Jvm.Cond.methodLink "CausalPlaces$Server" (90 : Nat) ({ cls := "CausalPlaces$Writes", name := "hasKey", desc := "(I)Z" } : Jvm.MethodName)) ∈ am_TW := am_tw 262 (by decide +kernel) rfl
theorem w_234 : (Jvm.Cond.methodLink "CausalPlaces$Server" (95 : Nat) ({ cls := "CausalPlaces$Transaction", name := "isUpTo", desc := "([I)Z" } : Jvm.MethodName)) ∈ am_TW := am_tw 263 (by decide +kernel) rfl
theorem w_235 : (Jvm.Cond.methodLink "CausalPlaces" (239 : Nat) ({ cls := "CausalPlaces$Transaction", name := "isNewerThan", desc := "(LCausalPlaces$Transaction;)Z" } : Jvm.MethodName)) ∈ am_TW := am_tw 264 (by decide +kernel) rfl
theorem w_236 : (Jvm.Cond.instanceMethod ({ cls := "CausalPlaces$Transaction", name := "isNewerThan", desc := "(LCausalPlaces$Transaction;)Z" } : Jvm.MethodName)) ∈ am_TW := am_tw 265 (by decide +kernel) rfl
theorem w_237 : (Jvm.Cond.selects "CausalPlaces$Transaction" ({ cls := "CausalPlaces$Transaction", name := "isNewerThan", desc := "(LCausalPlaces$Transaction;)Z" } : Jvm.MethodName) ({ cls := "CausalPlaces$Transaction", name := "isNewerThan", desc := "(LCausalPlaces$Transaction;)Z" } : Jvm.MethodName)) ∈ am_TW := am_tw 266 (by decide +kernel) rfl
theorem w_239 : (Jvm.Cond.methodLink "CausalPlacesLaw" (23 : Nat) ({ cls := "CausalPlaces", name := "value", desc := "(I)I" } : Jvm.MethodName)) ∈ am_TW := am_tw 268 (by decide +kernel) rfl
theorem w_240 : (Jvm.Cond.instanceMethod ({ cls := "CausalPlaces", name := "value", desc := "(I)I" } : Jvm.MethodName)) ∈ am_TW := am_tw 269 (by decide +kernel) rfl
theorem w_241 : (Jvm.Cond.selects "CausalPlaces" ({ cls := "CausalPlaces", name := "value", desc := "(I)I" } : Jvm.MethodName) ({ cls := "CausalPlaces", name := "value", desc := "(I)I" } : Jvm.MethodName)) ∈ am_TW := am_tw 270 (by decide +kernel) rfl
theorem w_243 : (Jvm.Cond.methodLink "CausalPlacesLaw" (27 : Nat) ({ cls := "CausalPlaces", name := "write", desc := "(III)Z" } : Jvm.MethodName)) ∈ am_TW := am_tw 272 (by decide +kernel) rfl
theorem w_244 : (Jvm.Cond.instanceMethod ({ cls := "CausalPlaces", name := "write", desc := "(III)Z" } : Jvm.MethodName)) ∈ am_TW := am_tw 273 (by decide +kernel) rfl
theorem w_245 : (Jvm.Cond.selects "CausalPlaces" ({ cls := "CausalPlaces", name := "write", desc := "(III)Z" } : Jvm.MethodName) ({ cls := "CausalPlaces", name := "write", desc := "(III)Z" } : Jvm.MethodName)) ∈ am_TW := am_tw 274 (by decide +kernel) rfl
theorem w_247 : (Jvm.Cond.methodLink "CausalPlaces" (101 : Nat) ({ cls := "CausalPlaces$Writes", name := "put", desc := "(II)V" } : Jvm.MethodName)) ∈ am_TW := am_tw 276 (by decide +kernel) rfl
theorem w_248 : (Jvm.Cond.instanceMethod ({ cls := "CausalPlaces$Writes", name := "put", desc := "(II)V" } : Jvm.MethodName)) ∈ am_TW := am_tw 277 (by decide +kernel) rfl
theorem w_249 : (Jvm.Cond.selects "CausalPlaces$Writes" ({ cls := "CausalPlaces$Writes", name := "put", desc := "(II)V" } : Jvm.MethodName) ({ cls := "CausalPlaces$Writes", name := "put", desc := "(II)V" } : Jvm.MethodName)) ∈ am_TW := am_tw 278 (by decide +kernel) rfl
theorem w_251 : (Jvm.Cond.methodLink "CausalPlacesLaw" (32 : Nat) ({ cls := "CausalPlaces", name := "commit", desc := "(I)I" } : Jvm.MethodName)) ∈ am_TW := am_tw 280 (by decide +kernel) rfl
theorem w_252 : (Jvm.Cond.instanceMethod ({ cls := "CausalPlaces", name := "commit", desc := "(I)I" } : Jvm.MethodName)) ∈ am_TW := am_tw 281 (by decide +kernel) rfl
theorem w_253 : (Jvm.Cond.selects "CausalPlaces" ({ cls := "CausalPlaces", name := "commit", desc := "(I)I" } : Jvm.MethodName) ({ cls := "CausalPlaces", name := "commit", desc := "(I)I" } : Jvm.MethodName)) ∈ am_TW := am_tw 282 (by decide +kernel) rfl
theorem w_255 : (Jvm.Cond.methodLink "CausalPlaces" (105 : Nat) ({ cls := "CausalPlaces$Writes", name := "countKeys", desc := "()I" } : Jvm.MethodName)) ∈ am_TW := am_tw 284 (by decide +kernel) rfl
theorem w_256 : (Jvm.Cond.instanceMethod ({ cls := "CausalPlaces$Writes", name := "countKeys", desc := "()I" } : Jvm.MethodName)) ∈ am_TW := am_tw 285 (by decide +kernel) rfl
theorem w_257 : (Jvm.Cond.selects "CausalPlaces$Writes" ({ cls := "CausalPlaces$Writes", name := "countKeys", desc := "()I" } : Jvm.MethodName) ({ cls := "CausalPlaces$Writes", name := "countKeys", desc := "()I" } : Jvm.MethodName)) ∈ am_TW := am_tw 286 (by decide +kernel) rfl
theorem w_259 : (Jvm.Cond.instantiable "CausalPlaces$Transaction" (8 : Nat)) ∈ am_TW := am_tw 288 (by decide +kernel) rfl
theorem w_260 : (Jvm.Cond.methodLink "CausalPlaces" (109 : Nat) ({ cls := "CausalPlaces$Transaction", name := "<init>", desc := "(ILCausalPlaces$Client;)V" } : Jvm.MethodName)) ∈ am_TW := am_tw 289 (by decide +kernel) rfl
theorem w_261 : (Jvm.Cond.instanceMethod ({ cls := "CausalPlaces$Transaction", name := "<init>", desc := "(ILCausalPlaces$Client;)V" } : Jvm.MethodName)) ∈ am_TW := am_tw 290 (by decide +kernel) rfl
theorem w_263 : (Jvm.Cond.methodLink "CausalPlaces$Transaction" (3 : Nat) ({ cls := "java/lang/Object", name := "<init>", desc := "()V" } : Jvm.MethodName)) ∈ am_TW := am_tw 292 (by decide +kernel) rfl
theorem w_264 : (Jvm.Cond.methodLink "CausalPlaces$Transaction" (33 : Nat) ({ cls := "[I", name := "clone", desc := "()Ljava/lang/Object;" } : Jvm.MethodName)) ∈ am_TW := am_tw 293 (by decide +kernel) rfl
theorem w_265 : (Jvm.Cond.sameMethod "[I" "java/lang/Object" "clone" "()Ljava/lang/Object;") ∈ am_TW := am_tw 294 (by decide +kernel) rfl
theorem w_266 : (Jvm.Cond.native ({ cls := "java/lang/Object", name := "clone", desc := "()Ljava/lang/Object;" } : Jvm.MethodName)) ∈ am_TW := am_tw 295 (by decide +kernel) rfl
theorem w_267 : (Jvm.Cond.instanceMethod ({ cls := "java/lang/Object", name := "clone", desc := "()Ljava/lang/Object;" } : Jvm.MethodName)) ∈ am_TW := am_tw 296 (by decide +kernel) rfl
theorem w_268 : (Jvm.Cond.selects "[I" ({ cls := "[I", name := "clone", desc := "()Ljava/lang/Object;" } : Jvm.MethodName) ({ cls := "java/lang/Object", name := "clone", desc := "()Ljava/lang/Object;" } : Jvm.MethodName)) ∈ am_TW := am_tw 297 (by decide +kernel) rfl
theorem w_270 : (Jvm.Cond.classLink "CausalPlaces$Transaction" (34 : Nat) "[I") ∈ am_TW := am_tw 299 (by decide +kernel) rfl
theorem w_271 : (Jvm.Cond.classLink "CausalPlaces$Transaction" (39 : Nat) "CausalPlaces$Writes") ∈ am_TW := am_tw 300 (by decide +kernel) rfl
theorem w_273 : (Jvm.Cond.methodLink "CausalPlaces$Transaction" (47 : Nat) ({ cls := "CausalPlaces$Writes", name := "putAll", desc := "(LCausalPlaces$Writes;)V" } : Jvm.MethodName)) ∈ am_TW := am_tw 302 (by decide +kernel) rfl
theorem w_274 : (Jvm.Cond.instanceMethod ({ cls := "CausalPlaces$Writes", name := "putAll", desc := "(LCausalPlaces$Writes;)V" } : Jvm.MethodName)) ∈ am_TW := am_tw 303 (by decide +kernel) rfl
theorem w_275 : (Jvm.Cond.selects "CausalPlaces$Writes" ({ cls := "CausalPlaces$Writes", name := "putAll", desc := "(LCausalPlaces$Writes;)V" } : Jvm.MethodName) ({ cls := "CausalPlaces$Writes", name := "putAll", desc := "(LCausalPlaces$Writes;)V" } : Jvm.MethodName)) ∈ am_TW := am_tw 304 (by decide +kernel) rfl
theorem w_277 : (Jvm.Cond.fieldLink "CausalPlaces$Transaction" (9 : Nat) "CausalPlaces$Transaction" "number" "I") ∈ am_TW := am_tw 306 (by decide +kernel) rfl
theorem w_278 : (Jvm.Cond.fieldLink "CausalPlaces" (98 : Nat) "CausalPlaces$Transaction" "number" "I") ∈ am_TW := am_tw 307 (by decide +kernel) rfl
theorem w_279 : (Jvm.Cond.fieldLink "CausalPlaces$Server" (66 : Nat) "CausalPlaces$Transaction" "number" "I") ∈ am_TW := am_tw 308 (by decide +kernel) rfl
theorem w_280 : (Jvm.Cond.fieldLink "CausalPlaces$Transaction" (24 : Nat) "CausalPlaces$Transaction" "place" "I") ∈ am_TW := am_tw 309 (by decide +kernel) rfl
theorem w_281 : (Jvm.Cond.fieldLink "CausalPlaces" (209 : Nat) "CausalPlaces$Transaction" "place" "I") ∈ am_TW := am_tw 310 (by decide +kernel) rfl
theorem w_282 : (Jvm.Cond.fieldLink "CausalPlaces$Transaction" (15 : Nat) "CausalPlaces$Transaction" "client" "LCausalPlaces$Client;") ∈ am_TW := am_tw 311 (by decide +kernel) rfl
theorem w_283 : (Jvm.Cond.fieldLink "CausalPlaces" (257 : Nat) "CausalPlaces$Transaction" "client" "LCausalPlaces$Client;") ∈ am_TW := am_tw 312 (by decide +kernel) rfl
theorem w_284 : (Jvm.Cond.fieldLink "CausalPlaces$Transaction" (28 : Nat) "CausalPlaces$Transaction" "latest" "I") ∈ am_TW := am_tw 313 (by decide +kernel) rfl
theorem w_285 : (Jvm.Cond.fieldLink "CausalPlaces$Server" (57 : Nat) "CausalPlaces$Transaction" "latest" "I") ∈ am_TW := am_tw 314 (by decide +kernel) rfl
theorem w_286 : (Jvm.Cond.fieldLink "CausalPlaces$Transaction" (38 : Nat) "CausalPlaces$Transaction" "seen" "[I") ∈ am_TW := am_tw 315 (by decide +kernel) rfl
theorem w_287 : (Jvm.Cond.fieldLink "CausalPlaces$Server" (63 : Nat) "CausalPlaces$Transaction" "seen" "[I") ∈ am_TW := am_tw 316 (by decide +kernel) rfl
theorem w_288 : (Jvm.Cond.fieldLink "CausalPlaces$Transaction" (42 : Nat) "CausalPlaces$Transaction" "writes" "LCausalPlaces$Writes;") ∈ am_TW := am_tw 317 (by decide +kernel) rfl
theorem w_289 : (Jvm.Cond.fieldLink "CausalPlaces" (97 : Nat) "CausalPlaces$Transaction" "writes" "LCausalPlaces$Writes;") ∈ am_TW := am_tw 318 (by decide +kernel) rfl
theorem w_290 : (Jvm.Cond.fieldLink "CausalPlaces$Client" (57 : Nat) "CausalPlaces$Transaction" "writes" "LCausalPlaces$Writes;") ∈ am_TW := am_tw 319 (by decide +kernel) rfl
theorem w_291 : (Jvm.Cond.fieldLink "CausalPlaces$Server" (86 : Nat) "CausalPlaces$Transaction" "writes" "LCausalPlaces$Writes;") ∈ am_TW := am_tw 320 (by decide +kernel) rfl
theorem w_292 : (Jvm.Cond.fieldLink "CausalPlaces$Transaction" (51 : Nat) "CausalPlaces$Transaction" "time" "I") ∈ am_TW := am_tw 321 (by decide +kernel) rfl
theorem w_293 : (Jvm.Cond.fieldLink "CausalPlaces$Client" (51 : Nat) "CausalPlaces$Transaction" "time" "I") ∈ am_TW := am_tw 322 (by decide +kernel) rfl
theorem w_294 : (Jvm.Cond.fieldLink "CausalPlaces" (214 : Nat) "CausalPlaces$Transaction" "time" "I") ∈ am_TW := am_tw 323 (by decide +kernel) rfl
theorem w_295 : (Jvm.Cond.fieldLink "CausalPlaces$Server" (76 : Nat) "CausalPlaces$Transaction" "time" "I") ∈ am_TW := am_tw 324 (by decide +kernel) rfl
theorem w_296 : (Jvm.Cond.fieldLink "CausalPlaces$Transaction" (60 : Nat) "CausalPlaces$Transaction" "told" "Z") ∈ am_TW := am_tw 325 (by decide +kernel) rfl
theorem w_297 : (Jvm.Cond.fieldLink "CausalPlaces" (210 : Nat) "CausalPlaces$Transaction" "told" "Z") ∈ am_TW := am_tw 326 (by decide +kernel) rfl
theorem w_315 : (Jvm.Cond.methodLink "CausalPlaces" (112 : Nat) ({ cls := "CausalPlaces$Writes", name := "clear", desc := "()V" } : Jvm.MethodName)) ∈ am_TW := am_tw 344 (by decide +kernel) rfl
theorem w_316 : (Jvm.Cond.instanceMethod ({ cls := "CausalPlaces$Writes", name := "clear", desc := "()V" } : Jvm.MethodName)) ∈ am_TW := am_tw 345 (by decide +kernel) rfl
theorem w_317 : (Jvm.Cond.selects "CausalPlaces$Writes" ({ cls := "CausalPlaces$Writes", name := "clear", desc := "()V" } : Jvm.MethodName) ({ cls := "CausalPlaces$Writes", name := "clear", desc := "()V" } : Jvm.MethodName)) ∈ am_TW := am_tw 346 (by decide +kernel) rfl
theorem w_319 : (Jvm.Cond.methodLink "CausalPlaces" (115 : Nat) ({ cls := "CausalPlaces", name := "sendPrepares", desc := "(LCausalPlaces$Transaction;)Z" } : Jvm.MethodName)) ∈ am_TW := am_tw 348 (by decide +kernel) rfl
theorem w_321 : (Jvm.Cond.instanceMethod ({ cls := "CausalPlaces", name := "sendPrepares", desc := "(LCausalPlaces$Transaction;)Z" } : Jvm.MethodName)) ∈ am_TW := am_tw 350 (by decide +kernel) rfl
theorem w_323 : (Jvm.Cond.methodLink "CausalPlaces" (242 : Nat) ({ cls := "CausalPlaces$Writes", name := "hasKeyOf", desc := "(LCausalPlaces$Server;)Z" } : Jvm.MethodName)) ∈ am_TW := am_tw 352 (by decide +kernel) rfl
theorem w_324 : (Jvm.Cond.instanceMethod ({ cls := "CausalPlaces$Writes", name := "hasKeyOf", desc := "(LCausalPlaces$Server;)Z" } : Jvm.MethodName)) ∈ am_TW := am_tw 353 (by decide +kernel) rfl
theorem w_325 : (Jvm.Cond.selects "CausalPlaces$Writes" ({ cls := "CausalPlaces$Writes", name := "hasKeyOf", desc := "(LCausalPlaces$Server;)Z" } : Jvm.MethodName) ({ cls := "CausalPlaces$Writes", name := "hasKeyOf", desc := "(LCausalPlaces$Server;)Z" } : Jvm.MethodName)) ∈ am_TW := am_tw 354 (by decide +kernel) rfl
theorem w_327 : (Jvm.Cond.methodLink "CausalPlaces$Writes" (26 : Nat) ({ cls := "CausalPlaces$Server", name := "keepsKey", desc := "(I)Z" } : Jvm.MethodName)) ∈ am_TW := am_tw 356 (by decide +kernel) rfl
theorem w_328 : (Jvm.Cond.instanceMethod ({ cls := "CausalPlaces$Server", name := "keepsKey", desc := "(I)Z" } : Jvm.MethodName)) ∈ am_TW := am_tw 357 (by decide +kernel) rfl
theorem w_329 : (Jvm.Cond.selects "CausalPlaces$Server" ({ cls := "CausalPlaces$Server", name := "keepsKey", desc := "(I)Z" } : Jvm.MethodName) ({ cls := "CausalPlaces$Server", name := "keepsKey", desc := "(I)Z" } : Jvm.MethodName)) ∈ am_TW := am_tw 358 (by decide +kernel) rfl
theorem w_332 : (Jvm.Cond.methodLink "CausalPlaces" (246 : Nat) ({ cls := "CausalPlaces$Server", name := "prepareNext", desc := "(LCausalPlaces$Transaction;)I" } : Jvm.MethodName)) ∈ am_TW := am_tw 361 (by decide +kernel) rfl
theorem w_333 : (Jvm.Cond.instanceMethod ({ cls := "CausalPlaces$Server", name := "prepareNext", desc := "(LCausalPlaces$Transaction;)I" } : Jvm.MethodName)) ∈ am_TW := am_tw 362 (by decide +kernel) rfl
theorem w_334 : (Jvm.Cond.selects "CausalPlaces$Server" ({ cls := "CausalPlaces$Server", name := "prepareNext", desc := "(LCausalPlaces$Transaction;)I" } : Jvm.MethodName) ({ cls := "CausalPlaces$Server", name := "prepareNext", desc := "(LCausalPlaces$Transaction;)I" } : Jvm.MethodName)) ∈ am_TW := am_tw 363 (by decide +kernel) rfl
theorem w_336 : (Jvm.Cond.methodLink "CausalPlaces$Server" (60 : Nat) ({ cls := "java/lang/Math", name := "max", desc := "(II)I" } : Jvm.MethodName)) ∈ am_TW := am_tw 365 (by decide +kernel) rfl
theorem w_337 : (Jvm.Cond.methodLink "CausalPlaces$Server" (67 : Nat) ({ cls := "CausalPlaces$Server", name := "setStage", desc := "(III)V" } : Jvm.MethodName)) ∈ am_TW := am_tw 366 (by decide +kernel) rfl
theorem w_338 : (Jvm.Cond.instanceMethod ({ cls := "CausalPlaces$Server", name := "setStage", desc := "(III)V" } : Jvm.MethodName)) ∈ am_TW := am_tw 367 (by decide +kernel) rfl
theorem w_339 : (Jvm.Cond.selects "CausalPlaces$Server" ({ cls := "CausalPlaces$Server", name := "setStage", desc := "(III)V" } : Jvm.MethodName) ({ cls := "CausalPlaces$Server", name := "setStage", desc := "(III)V" } : Jvm.MethodName)) ∈ am_TW := am_tw 368 (by decide +kernel) rfl
theorem w_341 : (Jvm.Cond.methodLink "CausalPlaces" (250 : Nat) ({ cls := "CausalPlaces$Transaction", name := "noteTime", desc := "(I)V" } : Jvm.MethodName)) ∈ am_TW := am_tw 370 (by decide +kernel) rfl
theorem w_342 : (Jvm.Cond.instanceMethod ({ cls := "CausalPlaces$Transaction", name := "noteTime", desc := "(I)V" } : Jvm.MethodName)) ∈ am_TW := am_tw 371 (by decide +kernel) rfl
theorem w_343 : (Jvm.Cond.selects "CausalPlaces$Transaction" ({ cls := "CausalPlaces$Transaction", name := "noteTime", desc := "(I)V" } : Jvm.MethodName) ({ cls := "CausalPlaces$Transaction", name := "noteTime", desc := "(I)V" } : Jvm.MethodName)) ∈ am_TW := am_tw 372 (by decide +kernel) rfl
theorem w_345 : (Jvm.Cond.methodLink "CausalPlaces$Transaction" (54 : Nat) ({ cls := "java/lang/Math", name := "max", desc := "(II)I" } : Jvm.MethodName)) ∈ am_TW := am_tw 374 (by decide +kernel) rfl
theorem w_346 : (Jvm.Cond.classLink "CausalPlaces" (141 : Nat) "CausalPlaces$Message") ∈ am_TW := am_tw 375 (by decide +kernel) rfl
theorem w_347 : (Jvm.Cond.instantiable "CausalPlaces$Message" (5 : Nat)) ∈ am_TW := am_tw 376 (by decide +kernel) rfl
theorem w_348 : (Jvm.Cond.methodLink "CausalPlaces" (152 : Nat) ({ cls := "CausalPlaces$Message", name := "<init>", desc := "(III[I)V" } : Jvm.MethodName)) ∈ am_TW := am_tw 377 (by decide +kernel) rfl
theorem w_349 : (Jvm.Cond.instanceMethod ({ cls := "CausalPlaces$Message", name := "<init>", desc := "(III[I)V" } : Jvm.MethodName)) ∈ am_TW := am_tw 378 (by decide +kernel) rfl
theorem w_351 : (Jvm.Cond.methodLink "CausalPlaces$Message" (1 : Nat) ({ cls := "java/lang/Object", name := "<init>", desc := "()V" } : Jvm.MethodName)) ∈ am_TW := am_tw 380 (by decide +kernel) rfl
theorem w_352 : (Jvm.Cond.fieldLink "CausalPlaces$Message" (7 : Nat) "CausalPlaces$Message" "kind" "I") ∈ am_TW := am_tw 381 (by decide +kernel) rfl
theorem w_353 : (Jvm.Cond.fieldLink "CausalPlaces" (171 : Nat) "CausalPlaces$Message" "kind" "I") ∈ am_TW := am_tw 382 (by decide +kernel) rfl
theorem w_354 : (Jvm.Cond.fieldLink "CausalPlaces$Message" (13 : Nat) "CausalPlaces$Message" "number" "I") ∈ am_TW := am_tw 383 (by decide +kernel) rfl
theorem w_355 : (Jvm.Cond.fieldLink "CausalPlaces" (231 : Nat) "CausalPlaces$Message" "number" "I") ∈ am_TW := am_tw 384 (by decide +kernel) rfl
theorem w_356 : (Jvm.Cond.fieldLink "CausalPlaces$Message" (16 : Nat) "CausalPlaces$Message" "time" "I") ∈ am_TW := am_tw 385 (by decide +kernel) rfl
theorem w_357 : (Jvm.Cond.fieldLink "CausalPlaces" (287 : Nat) "CausalPlaces$Message" "time" "I") ∈ am_TW := am_tw 386 (by decide +kernel) rfl
theorem w_358 : (Jvm.Cond.fieldLink "CausalPlaces$Message" (19 : Nat) "CausalPlaces$Message" "vector" "[I") ∈ am_TW := am_tw 387 (by decide +kernel) rfl
theorem w_359 : (Jvm.Cond.fieldLink "CausalPlaces" (280 : Nat) "CausalPlaces$Message" "vector" "[I") ∈ am_TW := am_tw 388 (by decide +kernel) rfl
theorem w_360 : (Jvm.Cond.fieldLink "CausalPlaces$Link" (22 : Nat) "CausalPlaces$Message" "next" "LCausalPlaces$Message;") ∈ am_TW := am_tw 389 (by decide +kernel) rfl
theorem w_372 : (Jvm.Cond.methodLink "CausalPlaces" (155 : Nat) ({ cls := "CausalPlaces", name := "send", desc := "(IILCausalPlaces$Message;)V" } : Jvm.MethodName)) ∈ am_TW := am_tw 401 (by decide +kernel) rfl
theorem w_374 : (Jvm.Cond.instanceMethod ({ cls := "CausalPlaces", name := "send", desc := "(IILCausalPlaces$Message;)V" } : Jvm.MethodName)) ∈ am_TW := am_tw 403 (by decide +kernel) rfl
theorem w_376 : (Jvm.Cond.methodLink "CausalPlaces" (159 : Nat) ({ cls := "CausalPlaces", name := "linkAt", desc := "(II)LCausalPlaces$Link;" } : Jvm.MethodName)) ∈ am_TW := am_tw 405 (by decide +kernel) rfl
theorem w_378 : (Jvm.Cond.instanceMethod ({ cls := "CausalPlaces", name := "linkAt", desc := "(II)LCausalPlaces$Link;" } : Jvm.MethodName)) ∈ am_TW := am_tw 407 (by decide +kernel) rfl
theorem w_380 : (Jvm.Cond.methodLink "CausalPlaces" (288 : Nat) ({ cls := "CausalPlaces$Link", name := "append", desc := "(LCausalPlaces$Message;)V" } : Jvm.MethodName)) ∈ am_TW := am_tw 409 (by decide +kernel) rfl
theorem w_381 : (Jvm.Cond.instanceMethod ({ cls := "CausalPlaces$Link", name := "append", desc := "(LCausalPlaces$Message;)V" } : Jvm.MethodName)) ∈ am_TW := am_tw 410 (by decide +kernel) rfl
theorem w_382 : (Jvm.Cond.selects "CausalPlaces$Link" ({ cls := "CausalPlaces$Link", name := "append", desc := "(LCausalPlaces$Message;)V" } : Jvm.MethodName) ({ cls := "CausalPlaces$Link", name := "append", desc := "(LCausalPlaces$Message;)V" } : Jvm.MethodName)) ∈ am_TW := am_tw 411 (by decide +kernel) rfl
theorem w_384 : (Jvm.Cond.methodLink "CausalPlaces" (119 : Nat) ({ cls := "CausalPlaces", name := "decide", desc := "(LCausalPlaces$Transaction;)V" } : Jvm.MethodName)) ∈ am_TW := am_tw 413 (by decide +kernel) rfl
theorem w_386 : (Jvm.Cond.instanceMethod ({ cls := "CausalPlaces", name := "decide", desc := "(LCausalPlaces$Transaction;)V" } : Jvm.MethodName)) ∈ am_TW := am_tw 415 (by decide +kernel) rfl
theorem w_388 : (Jvm.Cond.methodLink "CausalPlaces" (253 : Nat) ({ cls := "CausalPlaces", name := "takeDecide", desc := "(LCausalPlaces$Server;LCausalPlaces$Transaction;I)V" } : Jvm.MethodName)) ∈ am_TW := am_tw 417 (by decide +kernel) rfl
theorem w_390 : (Jvm.Cond.instanceMethod ({ cls := "CausalPlaces", name := "takeDecide", desc := "(LCausalPlaces$Server;LCausalPlaces$Transaction;I)V" } : Jvm.MethodName)) ∈ am_TW := am_tw 419 (by decide +kernel) rfl
theorem w_392 : (Jvm.Cond.methodLink "CausalPlaces" (264 : Nat) ({ cls := "CausalPlaces$Server", name := "setStage", desc := "(III)V" } : Jvm.MethodName)) ∈ am_TW := am_tw 421 (by decide +kernel) rfl
theorem w_393 : (Jvm.Cond.methodLink "CausalPlaces" (268 : Nat) ({ cls := "java/lang/Math", name := "max", desc := "(II)I" } : Jvm.MethodName)) ∈ am_TW := am_tw 422 (by decide +kernel) rfl
theorem w_394 : (Jvm.Cond.methodLink "CausalPlaces" (274 : Nat) ({ cls := "CausalPlaces$Server", name := "nextToApply", desc := "()I" } : Jvm.MethodName)) ∈ am_TW := am_tw 423 (by decide +kernel) rfl
theorem w_395 : (Jvm.Cond.instanceMethod ({ cls := "CausalPlaces$Server", name := "nextToApply", desc := "()I" } : Jvm.MethodName)) ∈ am_TW := am_tw 424 (by decide +kernel) rfl
theorem w_396 : (Jvm.Cond.selects "CausalPlaces$Server" ({ cls := "CausalPlaces$Server", name := "nextToApply", desc := "()I" } : Jvm.MethodName) ({ cls := "CausalPlaces$Server", name := "nextToApply", desc := "()I" } : Jvm.MethodName)) ∈ am_TW := am_tw 425 (by decide +kernel) rfl
theorem w_398 : (Jvm.Cond.methodLink "CausalPlaces$Server" (72 : Nat) ({ cls := "CausalPlaces$Server", name := "leastTimeAtStage", desc := "(I)I" } : Jvm.MethodName)) ∈ am_TW := am_tw 427 (by decide +kernel) rfl
theorem w_399 : (Jvm.Cond.instanceMethod ({ cls := "CausalPlaces$Server", name := "leastTimeAtStage", desc := "(I)I" } : Jvm.MethodName)) ∈ am_TW := am_tw 428 (by decide +kernel) rfl
theorem w_400 : (Jvm.Cond.selects "CausalPlaces$Server" ({ cls := "CausalPlaces$Server", name := "leastTimeAtStage", desc := "(I)I" } : Jvm.MethodName) ({ cls := "CausalPlaces$Server", name := "leastTimeAtStage", desc := "(I)I" } : Jvm.MethodName)) ∈ am_TW := am_tw 429 (by decide +kernel) rfl
theorem w_402 : (Jvm.Cond.constant "CausalPlaces$Server" (71 : Nat) (2147483647 : Int32)) ∈ am_TW := am_tw 431 (by decide +kernel) rfl
theorem w_403 : (Jvm.Cond.methodLink "CausalPlaces" (202 : Nat) ({ cls := "CausalPlaces", name := "transactionAt", desc := "(I)LCausalPlaces$Transaction;" } : Jvm.MethodName)) ∈ am_TW := am_tw 432 (by decide +kernel) rfl
theorem w_405 : (Jvm.Cond.instanceMethod ({ cls := "CausalPlaces", name := "transactionAt", desc := "(I)LCausalPlaces$Transaction;" } : Jvm.MethodName)) ∈ am_TW := am_tw 434 (by decide +kernel) rfl
theorem w_407 : (Jvm.Cond.methodLink "CausalPlaces" (277 : Nat) ({ cls := "CausalPlaces$Server", name := "keepVersions", desc := "(LCausalPlaces$Transaction;)V" } : Jvm.MethodName)) ∈ am_TW := am_tw 436 (by decide +kernel) rfl
theorem w_408 : (Jvm.Cond.instanceMethod ({ cls := "CausalPlaces$Server", name := "keepVersions", desc := "(LCausalPlaces$Transaction;)V" } : Jvm.MethodName)) ∈ am_TW := am_tw 437 (by decide +kernel) rfl
theorem w_409 : (Jvm.Cond.selects "CausalPlaces$Server" ({ cls := "CausalPlaces$Server", name := "keepVersions", desc := "(LCausalPlaces$Transaction;)V" } : Jvm.MethodName) ({ cls := "CausalPlaces$Server", name := "keepVersions", desc := "(LCausalPlaces$Transaction;)V" } : Jvm.MethodName)) ∈ am_TW := am_tw 438 (by decide +kernel) rfl
theorem w_411 : (Jvm.Cond.methodLink "CausalPlaces$Server" (82 : Nat) ({ cls := "CausalPlaces$Transaction", name := "isNewerThan", desc := "(LCausalPlaces$Transaction;)Z" } : Jvm.MethodName)) ∈ am_TW := am_tw 440 (by decide +kernel) rfl
theorem w_412 : (Jvm.Cond.methodLink "CausalPlaces" (133 : Nat) ({ cls := "CausalPlaces", name := "sendToOtherPlaces", desc := "(LCausalPlaces$Server;II)V" } : Jvm.MethodName)) ∈ am_TW := am_tw 441 (by decide +kernel) rfl
theorem w_414 : (Jvm.Cond.instanceMethod ({ cls := "CausalPlaces", name := "sendToOtherPlaces", desc := "(LCausalPlaces$Server;II)V" } : Jvm.MethodName)) ∈ am_TW := am_tw 443 (by decide +kernel) rfl
theorem w_416 : (Jvm.Cond.methodLink "CausalPlaces" (261 : Nat) ({ cls := "CausalPlaces$Client", name := "finishCommit", desc := "(LCausalPlaces$Transaction;)V" } : Jvm.MethodName)) ∈ am_TW := am_tw 445 (by decide +kernel) rfl
theorem w_417 : (Jvm.Cond.instanceMethod ({ cls := "CausalPlaces$Client", name := "finishCommit", desc := "(LCausalPlaces$Transaction;)V" } : Jvm.MethodName)) ∈ am_TW := am_tw 446 (by decide +kernel) rfl
theorem w_418 : (Jvm.Cond.selects "CausalPlaces$Client" ({ cls := "CausalPlaces$Client", name := "finishCommit", desc := "(LCausalPlaces$Transaction;)V" } : Jvm.MethodName) ({ cls := "CausalPlaces$Client", name := "finishCommit", desc := "(LCausalPlaces$Transaction;)V" } : Jvm.MethodName)) ∈ am_TW := am_tw 447 (by decide +kernel) rfl
theorem w_420 : (Jvm.Cond.methodLink "CausalPlaces$Client" (58 : Nat) ({ cls := "CausalPlaces$Writes", name := "hasKey", desc := "(I)Z" } : Jvm.MethodName)) ∈ am_TW := am_tw 449 (by decide +kernel) rfl
theorem w_421 : (Jvm.Cond.methodLink "CausalPlacesLaw" (36 : Nat) ({ cls := "CausalPlaces", name := "abort", desc := "(I)Z" } : Jvm.MethodName)) ∈ am_TW := am_tw 450 (by decide +kernel) rfl
theorem w_422 : (Jvm.Cond.instanceMethod ({ cls := "CausalPlaces", name := "abort", desc := "(I)Z" } : Jvm.MethodName)) ∈ am_TW := am_tw 451 (by decide +kernel) rfl
theorem w_423 : (Jvm.Cond.selects "CausalPlaces" ({ cls := "CausalPlaces", name := "abort", desc := "(I)Z" } : Jvm.MethodName) ({ cls := "CausalPlaces", name := "abort", desc := "(I)Z" } : Jvm.MethodName)) ∈ am_TW := am_tw 452 (by decide +kernel) rfl
theorem w_425 : (Jvm.Cond.methodLink "CausalPlacesLaw" (41 : Nat) ({ cls := "CausalPlaces", name := "tick", desc := "(I)I" } : Jvm.MethodName)) ∈ am_TW := am_tw 454 (by decide +kernel) rfl
theorem w_426 : (Jvm.Cond.instanceMethod ({ cls := "CausalPlaces", name := "tick", desc := "(I)I" } : Jvm.MethodName)) ∈ am_TW := am_tw 455 (by decide +kernel) rfl
theorem w_427 : (Jvm.Cond.selects "CausalPlaces" ({ cls := "CausalPlaces", name := "tick", desc := "(I)I" } : Jvm.MethodName) ({ cls := "CausalPlaces", name := "tick", desc := "(I)I" } : Jvm.MethodName)) ∈ am_TW := am_tw 456 (by decide +kernel) rfl
theorem w_429 : (Jvm.Cond.methodLink "CausalPlaces" (126 : Nat) ({ cls := "CausalPlaces$Server", name := "reachedTime", desc := "()I" } : Jvm.MethodName)) ∈ am_TW := am_tw 458 (by decide +kernel) rfl
theorem w_430 : (Jvm.Cond.instanceMethod ({ cls := "CausalPlaces$Server", name := "reachedTime", desc := "()I" } : Jvm.MethodName)) ∈ am_TW := am_tw 459 (by decide +kernel) rfl
theorem w_431 : (Jvm.Cond.selects "CausalPlaces$Server" ({ cls := "CausalPlaces$Server", name := "reachedTime", desc := "()I" } : Jvm.MethodName) ({ cls := "CausalPlaces$Server", name := "reachedTime", desc := "()I" } : Jvm.MethodName)) ∈ am_TW := am_tw 460 (by decide +kernel) rfl
theorem w_433 : (Jvm.Cond.methodLink "CausalPlaces" (130 : Nat) ({ cls := "CausalPlaces$Server", name := "setKnown", desc := "(II)V" } : Jvm.MethodName)) ∈ am_TW := am_tw 462 (by decide +kernel) rfl
theorem w_434 : (Jvm.Cond.instanceMethod ({ cls := "CausalPlaces$Server", name := "setKnown", desc := "(II)V" } : Jvm.MethodName)) ∈ am_TW := am_tw 463 (by decide +kernel) rfl
theorem w_435 : (Jvm.Cond.selects "CausalPlaces$Server" ({ cls := "CausalPlaces$Server", name := "setKnown", desc := "(II)V" } : Jvm.MethodName) ({ cls := "CausalPlaces$Server", name := "setKnown", desc := "(II)V" } : Jvm.MethodName)) ∈ am_TW := am_tw 464 (by decide +kernel) rfl
theorem w_438 : (Jvm.Cond.static ({ cls := "CausalPlaces", name := "isPlace", desc := "(I)Z" } : Jvm.MethodName)) ∈ am_TW := am_tw 467 (by decide +kernel) rfl
theorem w_440 : (Jvm.Cond.methodLink "CausalPlaces" (138 : Nat) ({ cls := "CausalPlaces$Server", name := "neighbour", desc := "()I" } : Jvm.MethodName)) ∈ am_TW := am_tw 469 (by decide +kernel) rfl
theorem w_441 : (Jvm.Cond.instanceMethod ({ cls := "CausalPlaces$Server", name := "neighbour", desc := "()I" } : Jvm.MethodName)) ∈ am_TW := am_tw 470 (by decide +kernel) rfl
theorem w_442 : (Jvm.Cond.selects "CausalPlaces$Server" ({ cls := "CausalPlaces$Server", name := "neighbour", desc := "()I" } : Jvm.MethodName) ({ cls := "CausalPlaces$Server", name := "neighbour", desc := "()I" } : Jvm.MethodName)) ∈ am_TW := am_tw 471 (by decide +kernel) rfl
theorem w_444 : (Jvm.Cond.methodLink "CausalPlaces" (147 : Nat) ({ cls := "[I", name := "clone", desc := "()Ljava/lang/Object;" } : Jvm.MethodName)) ∈ am_TW := am_tw 473 (by decide +kernel) rfl
theorem w_445 : (Jvm.Cond.classLink "CausalPlaces" (148 : Nat) "[I") ∈ am_TW := am_tw 474 (by decide +kernel) rfl
theorem w_446 : (Jvm.Cond.methodLink "CausalPlacesLaw" (45 : Nat) ({ cls := "CausalPlaces", name := "deliver", desc := "(II)I" } : Jvm.MethodName)) ∈ am_TW := am_tw 475 (by decide +kernel) rfl
theorem w_447 : (Jvm.Cond.instanceMethod ({ cls := "CausalPlaces", name := "deliver", desc := "(II)I" } : Jvm.MethodName)) ∈ am_TW := am_tw 476 (by decide +kernel) rfl
theorem w_448 : (Jvm.Cond.selects "CausalPlaces" ({ cls := "CausalPlaces", name := "deliver", desc := "(II)I" } : Jvm.MethodName) ({ cls := "CausalPlaces", name := "deliver", desc := "(II)I" } : Jvm.MethodName)) ∈ am_TW := am_tw 477 (by decide +kernel) rfl
theorem w_450 : (Jvm.Cond.methodLink "CausalPlaces" (163 : Nat) ({ cls := "CausalPlaces$Link", name := "removeFirst", desc := "()LCausalPlaces$Message;" } : Jvm.MethodName)) ∈ am_TW := am_tw 479 (by decide +kernel) rfl
theorem w_451 : (Jvm.Cond.instanceMethod ({ cls := "CausalPlaces$Link", name := "removeFirst", desc := "()LCausalPlaces$Message;" } : Jvm.MethodName)) ∈ am_TW := am_tw 480 (by decide +kernel) rfl
theorem w_452 : (Jvm.Cond.selects "CausalPlaces$Link" ({ cls := "CausalPlaces$Link", name := "removeFirst", desc := "()LCausalPlaces$Message;" } : Jvm.MethodName) ({ cls := "CausalPlaces$Link", name := "removeFirst", desc := "()LCausalPlaces$Message;" } : Jvm.MethodName)) ∈ am_TW := am_tw 481 (by decide +kernel) rfl
theorem w_454 : (Jvm.Cond.methodLink "CausalPlaces" (167 : Nat) ({ cls := "CausalPlaces", name := "takeMessage", desc := "(LCausalPlaces$Message;LCausalPlaces$Server;LCausalPlaces$Server;)V" } : Jvm.MethodName)) ∈ am_TW := am_tw 483 (by decide +kernel) rfl
theorem w_456 : (Jvm.Cond.instanceMethod ({ cls := "CausalPlaces", name := "takeMessage", desc := "(LCausalPlaces$Message;LCausalPlaces$Server;LCausalPlaces$Server;)V" } : Jvm.MethodName)) ∈ am_TW := am_tw 485 (by decide +kernel) rfl
theorem w_458 : (Jvm.Cond.methodLink "CausalPlaces" (283 : Nat) ({ cls := "CausalPlaces$Server", name := "hear", desc := "([I)V" } : Jvm.MethodName)) ∈ am_TW := am_tw 487 (by decide +kernel) rfl
theorem w_459 : (Jvm.Cond.instanceMethod ({ cls := "CausalPlaces$Server", name := "hear", desc := "([I)V" } : Jvm.MethodName)) ∈ am_TW := am_tw 488 (by decide +kernel) rfl
theorem w_460 : (Jvm.Cond.selects "CausalPlaces$Server" ({ cls := "CausalPlaces$Server", name := "hear", desc := "([I)V" } : Jvm.MethodName) ({ cls := "CausalPlaces$Server", name := "hear", desc := "([I)V" } : Jvm.MethodName)) ∈ am_TW := am_tw 489 (by decide +kernel) rfl
theorem w_462 : (Jvm.Cond.methodLink "CausalPlacesLaw" (49 : Nat) ({ cls := "CausalPlaces", name := "client", desc := "(II)I" } : Jvm.MethodName)) ∈ am_TW := am_tw 491 (by decide +kernel) rfl
theorem w_463 : (Jvm.Cond.instanceMethod ({ cls := "CausalPlaces", name := "client", desc := "(II)I" } : Jvm.MethodName)) ∈ am_TW := am_tw 492 (by decide +kernel) rfl
theorem w_464 : (Jvm.Cond.selects "CausalPlaces" ({ cls := "CausalPlaces", name := "client", desc := "(II)I" } : Jvm.MethodName) ({ cls := "CausalPlaces", name := "client", desc := "(II)I" } : Jvm.MethodName)) ∈ am_TW := am_tw 493 (by decide +kernel) rfl
theorem w_466 : (Jvm.Cond.methodLink "CausalPlaces" (177 : Nat) ({ cls := "CausalPlaces$Client", name := "countOwn", desc := "()I" } : Jvm.MethodName)) ∈ am_TW := am_tw 495 (by decide +kernel) rfl
theorem w_467 : (Jvm.Cond.instanceMethod ({ cls := "CausalPlaces$Client", name := "countOwn", desc := "()I" } : Jvm.MethodName)) ∈ am_TW := am_tw 496 (by decide +kernel) rfl
theorem w_468 : (Jvm.Cond.selects "CausalPlaces$Client" ({ cls := "CausalPlaces$Client", name := "countOwn", desc := "()I" } : Jvm.MethodName) ({ cls := "CausalPlaces$Client", name := "countOwn", desc := "()I" } : Jvm.MethodName)) ∈ am_TW := am_tw 497 (by decide +kernel) rfl
theorem w_470 : (Jvm.Cond.methodLink "CausalPlaces" (183 : Nat) ({ cls := "CausalPlaces", name := "numberOf", desc := "([II)I" } : Jvm.MethodName)) ∈ am_TW := am_tw 499 (by decide +kernel) rfl
theorem w_471 : (Jvm.Cond.methodLink "CausalPlacesLaw" (53 : Nat) ({ cls := "CausalPlaces", name := "server", desc := "(II)I" } : Jvm.MethodName)) ∈ am_TW := am_tw 500 (by decide +kernel) rfl
theorem w_472 : (Jvm.Cond.instanceMethod ({ cls := "CausalPlaces", name := "server", desc := "(II)I" } : Jvm.MethodName)) ∈ am_TW := am_tw 501 (by decide +kernel) rfl
theorem w_473 : (Jvm.Cond.selects "CausalPlaces" ({ cls := "CausalPlaces", name := "server", desc := "(II)I" } : Jvm.MethodName) ({ cls := "CausalPlaces", name := "server", desc := "(II)I" } : Jvm.MethodName)) ∈ am_TW := am_tw 502 (by decide +kernel) rfl
theorem w_475 : (Jvm.Cond.methodLink "CausalPlaces" (187 : Nat) ({ cls := "CausalPlaces", name := "isPlace", desc := "(I)Z" } : Jvm.MethodName)) ∈ am_TW := am_tw 504 (by decide +kernel) rfl
theorem w_476 : (Jvm.Cond.methodLink "CausalPlaces" (190 : Nat) ({ cls := "CausalPlaces$Server", name := "stableOf", desc := "(I)I" } : Jvm.MethodName)) ∈ am_TW := am_tw 505 (by decide +kernel) rfl
theorem w_477 : (Jvm.Cond.methodLink "CausalPlaces" (196 : Nat) ({ cls := "CausalPlaces$Server", name := "countAtStage", desc := "(I)I" } : Jvm.MethodName)) ∈ am_TW := am_tw 506 (by decide +kernel) rfl
theorem w_478 : (Jvm.Cond.instanceMethod ({ cls := "CausalPlaces$Server", name := "countAtStage", desc := "(I)I" } : Jvm.MethodName)) ∈ am_TW := am_tw 507 (by decide +kernel) rfl
theorem w_479 : (Jvm.Cond.selects "CausalPlaces$Server" ({ cls := "CausalPlaces$Server", name := "countAtStage", desc := "(I)I" } : Jvm.MethodName) ({ cls := "CausalPlaces$Server", name := "countAtStage", desc := "(I)I" } : Jvm.MethodName)) ∈ am_TW := am_tw 508 (by decide +kernel) rfl
theorem w_481 : (Jvm.Cond.methodLink "CausalPlacesLaw" (57 : Nat) ({ cls := "CausalPlaces", name := "transaction", desc := "(II)I" } : Jvm.MethodName)) ∈ am_TW := am_tw 510 (by decide +kernel) rfl
theorem w_482 : (Jvm.Cond.instanceMethod ({ cls := "CausalPlaces", name := "transaction", desc := "(II)I" } : Jvm.MethodName)) ∈ am_TW := am_tw 511 (by decide +kernel) rfl
theorem w_483 : (Jvm.Cond.selects "CausalPlaces" ({ cls := "CausalPlaces", name := "transaction", desc := "(II)I" } : Jvm.MethodName) ({ cls := "CausalPlaces", name := "transaction", desc := "(II)I" } : Jvm.MethodName)) ∈ am_TW := am_tw 512 (by decide +kernel) rfl
theorem w_485 : (Jvm.Cond.methodLink "CausalPlaces" (206 : Nat) ({ cls := "CausalPlaces$Transaction", name := "stampOf", desc := "(I)I" } : Jvm.MethodName)) ∈ am_TW := am_tw 514 (by decide +kernel) rfl
theorem w_486 : (Jvm.Cond.methodLink "CausalPlacesLaw" (61 : Nat) ({ cls := "CausalPlaces", name := "written", desc := "(II)I" } : Jvm.MethodName)) ∈ am_TW := am_tw 515 (by decide +kernel) rfl
theorem w_487 : (Jvm.Cond.instanceMethod ({ cls := "CausalPlaces", name := "written", desc := "(II)I" } : Jvm.MethodName)) ∈ am_TW := am_tw 516 (by decide +kernel) rfl
theorem w_488 : (Jvm.Cond.selects "CausalPlaces" ({ cls := "CausalPlaces", name := "written", desc := "(II)I" } : Jvm.MethodName) ({ cls := "CausalPlaces", name := "written", desc := "(II)I" } : Jvm.MethodName)) ∈ am_TW := am_tw 517 (by decide +kernel) rfl
theorem w_490 : (Jvm.Cond.methodLink "CausalPlacesLaw" (65 : Nat) ({ cls := "CausalPlaces", name := "version", desc := "(III)I" } : Jvm.MethodName)) ∈ am_TW := am_tw 519 (by decide +kernel) rfl
theorem w_491 : (Jvm.Cond.instanceMethod ({ cls := "CausalPlaces", name := "version", desc := "(III)I" } : Jvm.MethodName)) ∈ am_TW := am_tw 520 (by decide +kernel) rfl
theorem w_492 : (Jvm.Cond.selects "CausalPlaces" ({ cls := "CausalPlaces", name := "version", desc := "(III)I" } : Jvm.MethodName) ({ cls := "CausalPlaces", name := "version", desc := "(III)I" } : Jvm.MethodName)) ∈ am_TW := am_tw 521 (by decide +kernel) rfl
theorem w_494 : (Jvm.Cond.methodLink "CausalPlaces" (217 : Nat) ({ cls := "CausalPlaces$Server", name := "keepsKey", desc := "(I)Z" } : Jvm.MethodName)) ∈ am_TW := am_tw 523 (by decide +kernel) rfl
theorem w_495 : (Jvm.Cond.methodLink "CausalPlaces" (220 : Nat) ({ cls := "CausalPlaces$Server", name := "versionAt", desc := "(II)LCausalPlaces$Transaction;" } : Jvm.MethodName)) ∈ am_TW := am_tw 524 (by decide +kernel) rfl
theorem w_496 : (Jvm.Cond.instanceMethod ({ cls := "CausalPlaces$Server", name := "versionAt", desc := "(II)LCausalPlaces$Transaction;" } : Jvm.MethodName)) ∈ am_TW := am_tw 525 (by decide +kernel) rfl
theorem w_497 : (Jvm.Cond.selects "CausalPlaces$Server" ({ cls := "CausalPlaces$Server", name := "versionAt", desc := "(II)LCausalPlaces$Transaction;" } : Jvm.MethodName) ({ cls := "CausalPlaces$Server", name := "versionAt", desc := "(II)LCausalPlaces$Transaction;" } : Jvm.MethodName)) ∈ am_TW := am_tw 526 (by decide +kernel) rfl
theorem w_499 : (Jvm.Cond.methodLink "CausalPlacesLaw" (70 : Nat) ({ cls := "CausalPlaces", name := "link", desc := "(III)I" } : Jvm.MethodName)) ∈ am_TW := am_tw 528 (by decide +kernel) rfl
theorem w_500 : (Jvm.Cond.instanceMethod ({ cls := "CausalPlaces", name := "link", desc := "(III)I" } : Jvm.MethodName)) ∈ am_TW := am_tw 529 (by decide +kernel) rfl
theorem w_501 : (Jvm.Cond.selects "CausalPlaces" ({ cls := "CausalPlaces", name := "link", desc := "(III)I" } : Jvm.MethodName) ({ cls := "CausalPlaces", name := "link", desc := "(III)I" } : Jvm.MethodName)) ∈ am_TW := am_tw 530 (by decide +kernel) rfl
theorem w_503 : (Jvm.Cond.classLink "CausalPlacesLaw" (10 : Nat) "CausalPlacesModel") ∈ am_TW := am_tw 532 (by decide +kernel) rfl
theorem w_504 : (Jvm.Cond.instantiable "CausalPlacesModel" (24 : Nat)) ∈ am_TW := am_tw 533 (by decide +kernel) rfl
theorem w_505 : (Jvm.Cond.methodLink "CausalPlacesLaw" (12 : Nat) ({ cls := "CausalPlacesModel", name := "<init>", desc := "()V" } : Jvm.MethodName)) ∈ am_TW := am_tw 534 (by decide +kernel) rfl
theorem w_506 : (Jvm.Cond.instanceMethod ({ cls := "CausalPlacesModel", name := "<init>", desc := "()V" } : Jvm.MethodName)) ∈ am_TW := am_tw 535 (by decide +kernel) rfl
theorem w_508 : (Jvm.Cond.methodLink "CausalPlacesModel" (1 : Nat) ({ cls := "java/lang/Object", name := "<init>", desc := "()V" } : Jvm.MethodName)) ∈ am_TW := am_tw 537 (by decide +kernel) rfl
theorem w_509 : (Jvm.Cond.fieldLink "CausalPlacesModel" (132 : Nat) "CausalPlacesModel" "many" "I") ∈ am_TW := am_tw 538 (by decide +kernel) rfl
theorem w_510 : (Jvm.Cond.fieldLink "CausalPlacesModel" (9 : Nat) "CausalPlacesModel" "whose" "[I") ∈ am_TW := am_tw 539 (by decide +kernel) rfl
theorem w_511 : (Jvm.Cond.fieldLink "CausalPlacesModel" (13 : Nat) "CausalPlacesModel" "saw" "[I") ∈ am_TW := am_tw 540 (by decide +kernel) rfl
theorem w_512 : (Jvm.Cond.fieldLink "CausalPlacesModel" (16 : Nat) "CausalPlacesModel" "behind" "[I") ∈ am_TW := am_tw 541 (by decide +kernel) rfl
theorem w_513 : (Jvm.Cond.fieldLink "CausalPlacesModel" (19 : Nat) "CausalPlacesModel" "keys" "[I") ∈ am_TW := am_tw 542 (by decide +kernel) rfl
theorem w_514 : (Jvm.Cond.fieldLink "CausalPlacesModel" (22 : Nat) "CausalPlacesModel" "ints" "[I") ∈ am_TW := am_tw 543 (by decide +kernel) rfl
theorem w_515 : (Jvm.Cond.fieldLink "CausalPlacesModel" (25 : Nat) "CausalPlacesModel" "lack" "[I") ∈ am_TW := am_tw 544 (by decide +kernel) rfl
theorem w_516 : (Jvm.Cond.fieldLink "CausalPlacesModel" (28 : Nat) "CausalPlacesModel" "greatest" "[I") ∈ am_TW := am_tw 545 (by decide +kernel) rfl
theorem w_517 : (Jvm.Cond.fieldLink "CausalPlacesModel" (31 : Nat) "CausalPlacesModel" "told" "[Z") ∈ am_TW := am_tw 546 (by decide +kernel) rfl
theorem w_518 : (Jvm.Cond.fieldLink "CausalPlacesModel" (35 : Nat) "CausalPlacesModel" "time" "[I") ∈ am_TW := am_tw 547 (by decide +kernel) rfl
theorem w_519 : (Jvm.Cond.fieldLink "CausalPlacesModel" (38 : Nat) "CausalPlacesModel" "clock" "[I") ∈ am_TW := am_tw 548 (by decide +kernel) rfl
theorem w_520 : (Jvm.Cond.fieldLink "CausalPlacesModel" (41 : Nat) "CausalPlacesModel" "far" "[I") ∈ am_TW := am_tw 549 (by decide +kernel) rfl
theorem w_521 : (Jvm.Cond.fieldLink "CausalPlacesModel" (44 : Nat) "CausalPlacesModel" "when" "[I") ∈ am_TW := am_tw 550 (by decide +kernel) rfl
theorem w_522 : (Jvm.Cond.fieldLink "CausalPlacesModel" (47 : Nat) "CausalPlacesModel" "known" "[I") ∈ am_TW := am_tw 551 (by decide +kernel) rfl
theorem w_523 : (Jvm.Cond.fieldLink "CausalPlacesModel" (50 : Nat) "CausalPlacesModel" "heard" "[I") ∈ am_TW := am_tw 552 (by decide +kernel) rfl
theorem w_524 : (Jvm.Cond.fieldLink "CausalPlacesModel" (53 : Nat) "CausalPlacesModel" "doing" "[I") ∈ am_TW := am_tw 553 (by decide +kernel) rfl
theorem w_525 : (Jvm.Cond.fieldLink "CausalPlacesModel" (56 : Nat) "CausalPlacesModel" "latest" "[I") ∈ am_TW := am_tw 554 (by decide +kernel) rfl
theorem w_526 : (Jvm.Cond.fieldLink "CausalPlacesModel" (59 : Nat) "CausalPlacesModel" "seen" "[I") ∈ am_TW := am_tw 555 (by decide +kernel) rfl
theorem w_527 : (Jvm.Cond.fieldLink "CausalPlacesModel" (62 : Nat) "CausalPlacesModel" "own" "[I") ∈ am_TW := am_tw 556 (by decide +kernel) rfl
theorem w_528 : (Jvm.Cond.fieldLink "CausalPlacesModel" (65 : Nat) "CausalPlacesModel" "writes" "[I") ∈ am_TW := am_tw 557 (by decide +kernel) rfl
theorem w_529 : (Jvm.Cond.fieldLink "CausalPlacesModel" (68 : Nat) "CausalPlacesModel" "written" "[I") ∈ am_TW := am_tw 558 (by decide +kernel) rfl
theorem w_530 : (Jvm.Cond.fieldLink "CausalPlacesModel" (71 : Nat) "CausalPlacesModel" "got" "[I") ∈ am_TW := am_tw 559 (by decide +kernel) rfl
theorem w_531 : (Jvm.Cond.fieldLink "CausalPlacesModel" (103 : Nat) "CausalPlacesModel" "waiting" "I") ∈ am_TW := am_tw 560 (by decide +kernel) rfl
theorem w_532 : (Jvm.Cond.fieldLink "CausalPlacesModel" (74 : Nat) "CausalPlacesModel" "post" "[I") ∈ am_TW := am_tw 561 (by decide +kernel) rfl
theorem w_582 : (Jvm.Cond.methodLink "CausalPlacesLaw" (17 : Nat) ({ cls := "CausalPlacesModel", name := "start", desc := "(I)I" } : Jvm.MethodName)) ∈ am_TW := am_tw 611 (by decide +kernel) rfl
theorem w_583 : (Jvm.Cond.instanceMethod ({ cls := "CausalPlacesModel", name := "start", desc := "(I)I" } : Jvm.MethodName)) ∈ am_TW := am_tw 612 (by decide +kernel) rfl
theorem w_584 : (Jvm.Cond.selects "CausalPlacesModel" ({ cls := "CausalPlacesModel", name := "start", desc := "(I)I" } : Jvm.MethodName) ({ cls := "CausalPlacesModel", name := "start", desc := "(I)I" } : Jvm.MethodName)) ∈ am_TW := am_tw 613 (by decide +kernel) rfl
theorem w_586 : (Jvm.Cond.methodLink "CausalPlacesModel" (141 : Nat) ({ cls := "CausalPlacesModel", name := "isClient", desc := "(I)Z" } : Jvm.MethodName)) ∈ am_TW := am_tw 615 (by decide +kernel) rfl
theorem w_587 : (Jvm.Cond.static ({ cls := "CausalPlacesModel", name := "isClient", desc := "(I)Z" } : Jvm.MethodName)) ∈ am_TW := am_tw 616 (by decide +kernel) rfl
theorem w_589 : (Jvm.Cond.methodLink "CausalPlacesModel" (144 : Nat) ({ cls := "CausalPlacesModel", name := "stable", desc := "(II)I" } : Jvm.MethodName)) ∈ am_TW := am_tw 618 (by decide +kernel) rfl
theorem w_591 : (Jvm.Cond.instanceMethod ({ cls := "CausalPlacesModel", name := "stable", desc := "(II)I" } : Jvm.MethodName)) ∈ am_TW := am_tw 620 (by decide +kernel) rfl
theorem w_593 : (Jvm.Cond.methodLink "CausalPlacesModel" (138 : Nat) ({ cls := "java/lang/Math", name := "min", desc := "(II)I" } : Jvm.MethodName)) ∈ am_TW := am_tw 622 (by decide +kernel) rfl
theorem w_594 : (Jvm.Cond.methodLink "CausalPlacesModel" (117 : Nat) ({ cls := "java/lang/Math", name := "max", desc := "(II)I" } : Jvm.MethodName)) ∈ am_TW := am_tw 623 (by decide +kernel) rfl
theorem w_595 : (Jvm.Cond.methodLink "CausalPlacesModel" (147 : Nat) ({ cls := "CausalPlacesModel", name := "isSeen", desc := "(II)Z" } : Jvm.MethodName)) ∈ am_TW := am_tw 624 (by decide +kernel) rfl
theorem w_597 : (Jvm.Cond.instanceMethod ({ cls := "CausalPlacesModel", name := "isSeen", desc := "(II)Z" } : Jvm.MethodName)) ∈ am_TW := am_tw 626 (by decide +kernel) rfl
theorem w_599 : (Jvm.Cond.methodLink "CausalPlacesModel" (88 : Nat) ({ cls := "CausalPlacesModel", name := "stamp", desc := "(II)I" } : Jvm.MethodName)) ∈ am_TW := am_tw 628 (by decide +kernel) rfl
theorem w_601 : (Jvm.Cond.instanceMethod ({ cls := "CausalPlacesModel", name := "stamp", desc := "(II)I" } : Jvm.MethodName)) ∈ am_TW := am_tw 630 (by decide +kernel) rfl
theorem w_603 : (Jvm.Cond.methodLink "CausalPlacesModel" (85 : Nat) ({ cls := "CausalPlacesModel", name := "placeOfTransaction", desc := "(I)I" } : Jvm.MethodName)) ∈ am_TW := am_tw 632 (by decide +kernel) rfl
theorem w_605 : (Jvm.Cond.instanceMethod ({ cls := "CausalPlacesModel", name := "placeOfTransaction", desc := "(I)I" } : Jvm.MethodName)) ∈ am_TW := am_tw 634 (by decide +kernel) rfl
theorem w_607 : (Jvm.Cond.methodLink "CausalPlacesLaw" (22 : Nat) ({ cls := "CausalPlacesModel", name := "read", desc := "(II)I" } : Jvm.MethodName)) ∈ am_TW := am_tw 636 (by decide +kernel) rfl
theorem w_608 : (Jvm.Cond.instanceMethod ({ cls := "CausalPlacesModel", name := "read", desc := "(II)I" } : Jvm.MethodName)) ∈ am_TW := am_tw 637 (by decide +kernel) rfl
theorem w_609 : (Jvm.Cond.selects "CausalPlacesModel" ({ cls := "CausalPlacesModel", name := "read", desc := "(II)I" } : Jvm.MethodName) ({ cls := "CausalPlacesModel", name := "read", desc := "(II)I" } : Jvm.MethodName)) ∈ am_TW := am_tw 638 (by decide +kernel) rfl
theorem w_611 : (Jvm.Cond.methodLink "CausalPlacesModel" (150 : Nat) ({ cls := "CausalPlacesModel", name := "isKey", desc := "(I)Z" } : Jvm.MethodName)) ∈ am_TW := am_tw 640 (by decide +kernel) rfl
theorem w_612 : (Jvm.Cond.static ({ cls := "CausalPlacesModel", name := "isKey", desc := "(I)Z" } : Jvm.MethodName)) ∈ am_TW := am_tw 641 (by decide +kernel) rfl
theorem w_614 : (Jvm.Cond.methodLink "CausalPlacesModel" (153 : Nat) ({ cls := "CausalPlacesModel", name := "hasVersion", desc := "(III)Z" } : Jvm.MethodName)) ∈ am_TW := am_tw 643 (by decide +kernel) rfl
theorem w_616 : (Jvm.Cond.instanceMethod ({ cls := "CausalPlacesModel", name := "hasVersion", desc := "(III)Z" } : Jvm.MethodName)) ∈ am_TW := am_tw 645 (by decide +kernel) rfl
theorem w_618 : (Jvm.Cond.methodLink "CausalPlacesModel" (92 : Nat) ({ cls := "CausalPlacesModel", name := "writesFor", desc := "(II)Z" } : Jvm.MethodName)) ∈ am_TW := am_tw 647 (by decide +kernel) rfl
theorem w_620 : (Jvm.Cond.instanceMethod ({ cls := "CausalPlacesModel", name := "writesFor", desc := "(II)Z" } : Jvm.MethodName)) ∈ am_TW := am_tw 649 (by decide +kernel) rfl
theorem w_622 : (Jvm.Cond.methodLink "CausalPlacesModel" (157 : Nat) ({ cls := "CausalPlacesModel", name := "isNewer", desc := "(II)Z" } : Jvm.MethodName)) ∈ am_TW := am_tw 651 (by decide +kernel) rfl
theorem w_624 : (Jvm.Cond.instanceMethod ({ cls := "CausalPlacesModel", name := "isNewer", desc := "(II)Z" } : Jvm.MethodName)) ∈ am_TW := am_tw 653 (by decide +kernel) rfl
theorem w_626 : (Jvm.Cond.methodLink "CausalPlacesLaw" (26 : Nat) ({ cls := "CausalPlacesModel", name := "value", desc := "(I)I" } : Jvm.MethodName)) ∈ am_TW := am_tw 655 (by decide +kernel) rfl
theorem w_627 : (Jvm.Cond.instanceMethod ({ cls := "CausalPlacesModel", name := "value", desc := "(I)I" } : Jvm.MethodName)) ∈ am_TW := am_tw 656 (by decide +kernel) rfl
theorem w_628 : (Jvm.Cond.selects "CausalPlacesModel" ({ cls := "CausalPlacesModel", name := "value", desc := "(I)I" } : Jvm.MethodName) ({ cls := "CausalPlacesModel", name := "value", desc := "(I)I" } : Jvm.MethodName)) ∈ am_TW := am_tw 657 (by decide +kernel) rfl
theorem w_630 : (Jvm.Cond.methodLink "CausalPlacesLaw" (31 : Nat) ({ cls := "CausalPlacesModel", name := "write", desc := "(III)Z" } : Jvm.MethodName)) ∈ am_TW := am_tw 659 (by decide +kernel) rfl
theorem w_631 : (Jvm.Cond.instanceMethod ({ cls := "CausalPlacesModel", name := "write", desc := "(III)Z" } : Jvm.MethodName)) ∈ am_TW := am_tw 660 (by decide +kernel) rfl
theorem w_632 : (Jvm.Cond.selects "CausalPlacesModel" ({ cls := "CausalPlacesModel", name := "write", desc := "(III)Z" } : Jvm.MethodName) ({ cls := "CausalPlacesModel", name := "write", desc := "(III)Z" } : Jvm.MethodName)) ∈ am_TW := am_tw 661 (by decide +kernel) rfl
theorem w_634 : (Jvm.Cond.methodLink "CausalPlacesLaw" (35 : Nat) ({ cls := "CausalPlacesModel", name := "commit", desc := "(I)I" } : Jvm.MethodName)) ∈ am_TW := am_tw 663 (by decide +kernel) rfl
theorem w_635 : (Jvm.Cond.instanceMethod ({ cls := "CausalPlacesModel", name := "commit", desc := "(I)I" } : Jvm.MethodName)) ∈ am_TW := am_tw 664 (by decide +kernel) rfl
theorem w_636 : (Jvm.Cond.selects "CausalPlacesModel" ({ cls := "CausalPlacesModel", name := "commit", desc := "(I)I" } : Jvm.MethodName) ({ cls := "CausalPlacesModel", name := "commit", desc := "(I)I" } : Jvm.MethodName)) ∈ am_TW := am_tw 665 (by decide +kernel) rfl
theorem w_638 : (Jvm.Cond.methodLink "CausalPlacesModel" (125 : Nat) ({ cls := "CausalPlacesModel", name := "concerns", desc := "(II)Z" } : Jvm.MethodName)) ∈ am_TW := am_tw 667 (by decide +kernel) rfl
theorem w_640 : (Jvm.Cond.instanceMethod ({ cls := "CausalPlacesModel", name := "concerns", desc := "(II)Z" } : Jvm.MethodName)) ∈ am_TW := am_tw 669 (by decide +kernel) rfl
theorem w_642 : (Jvm.Cond.methodLink "CausalPlacesModel" (96 : Nat) ({ cls := "CausalPlacesModel", name := "keeps", desc := "(II)Z" } : Jvm.MethodName)) ∈ am_TW := am_tw 671 (by decide +kernel) rfl
theorem w_643 : (Jvm.Cond.static ({ cls := "CausalPlacesModel", name := "keeps", desc := "(II)Z" } : Jvm.MethodName)) ∈ am_TW := am_tw 672 (by decide +kernel) rfl
theorem w_645 : (Jvm.Cond.methodLink "CausalPlacesModel" (122 : Nat) ({ cls := "CausalPlacesModel", name := "send", desc := "(IIIIIII)V" } : Jvm.MethodName)) ∈ am_TW := am_tw 674 (by decide +kernel) rfl
theorem w_647 : (Jvm.Cond.instanceMethod ({ cls := "CausalPlacesModel", name := "send", desc := "(IIIIIII)V" } : Jvm.MethodName)) ∈ am_TW := am_tw 676 (by decide +kernel) rfl
theorem w_649 : (Jvm.Cond.methodLink "CausalPlacesModel" (99 : Nat) ({ cls := "CausalPlacesModel", name := "take", desc := "(IIIIIII)V" } : Jvm.MethodName)) ∈ am_TW := am_tw 678 (by decide +kernel) rfl
theorem w_651 : (Jvm.Cond.instanceMethod ({ cls := "CausalPlacesModel", name := "take", desc := "(IIIIIII)V" } : Jvm.MethodName)) ∈ am_TW := am_tw 680 (by decide +kernel) rfl
theorem w_653 : (Jvm.Cond.methodLink "CausalPlacesModel" (107 : Nat) ({ cls := "CausalPlacesModel", name := "prepare", desc := "(III)V" } : Jvm.MethodName)) ∈ am_TW := am_tw 682 (by decide +kernel) rfl
theorem w_655 : (Jvm.Cond.instanceMethod ({ cls := "CausalPlacesModel", name := "prepare", desc := "(III)V" } : Jvm.MethodName)) ∈ am_TW := am_tw 684 (by decide +kernel) rfl
theorem w_657 : (Jvm.Cond.methodLink "CausalPlacesModel" (111 : Nat) ({ cls := "CausalPlacesModel", name := "prepared", desc := "(III)V" } : Jvm.MethodName)) ∈ am_TW := am_tw 686 (by decide +kernel) rfl
theorem w_659 : (Jvm.Cond.instanceMethod ({ cls := "CausalPlacesModel", name := "prepared", desc := "(III)V" } : Jvm.MethodName)) ∈ am_TW := am_tw 688 (by decide +kernel) rfl
theorem w_661 : (Jvm.Cond.methodLink "CausalPlacesModel" (114 : Nat) ({ cls := "CausalPlacesModel", name := "decided", desc := "(III)V" } : Jvm.MethodName)) ∈ am_TW := am_tw 690 (by decide +kernel) rfl
theorem w_663 : (Jvm.Cond.instanceMethod ({ cls := "CausalPlacesModel", name := "decided", desc := "(III)V" } : Jvm.MethodName)) ∈ am_TW := am_tw 692 (by decide +kernel) rfl
theorem w_665 : (Jvm.Cond.methodLink "CausalPlacesModel" (128 : Nat) ({ cls := "CausalPlacesModel", name := "apply", desc := "(I)V" } : Jvm.MethodName)) ∈ am_TW := am_tw 694 (by decide +kernel) rfl
theorem w_667 : (Jvm.Cond.instanceMethod ({ cls := "CausalPlacesModel", name := "apply", desc := "(I)V" } : Jvm.MethodName)) ∈ am_TW := am_tw 696 (by decide +kernel) rfl
theorem w_669 : (Jvm.Cond.methodLink "CausalPlacesModel" (135 : Nat) ({ cls := "CausalPlacesModel", name := "least", desc := "(II)I" } : Jvm.MethodName)) ∈ am_TW := am_tw 698 (by decide +kernel) rfl
theorem w_671 : (Jvm.Cond.instanceMethod ({ cls := "CausalPlacesModel", name := "least", desc := "(II)I" } : Jvm.MethodName)) ∈ am_TW := am_tw 700 (by decide +kernel) rfl
theorem w_673 : (Jvm.Cond.methodLink "CausalPlacesModel" (81 : Nat) ({ cls := "CausalPlacesModel", name := "placeOf", desc := "(I)I" } : Jvm.MethodName)) ∈ am_TW := am_tw 702 (by decide +kernel) rfl
theorem w_674 : (Jvm.Cond.static ({ cls := "CausalPlacesModel", name := "placeOf", desc := "(I)I" } : Jvm.MethodName)) ∈ am_TW := am_tw 703 (by decide +kernel) rfl
theorem w_676 : (Jvm.Cond.methodLink "CausalPlacesLaw" (40 : Nat) ({ cls := "CausalPlacesModel", name := "abort", desc := "(I)Z" } : Jvm.MethodName)) ∈ am_TW := am_tw 705 (by decide +kernel) rfl
theorem w_677 : (Jvm.Cond.instanceMethod ({ cls := "CausalPlacesModel", name := "abort", desc := "(I)Z" } : Jvm.MethodName)) ∈ am_TW := am_tw 706 (by decide +kernel) rfl
theorem w_678 : (Jvm.Cond.selects "CausalPlacesModel" ({ cls := "CausalPlacesModel", name := "abort", desc := "(I)Z" } : Jvm.MethodName) ({ cls := "CausalPlacesModel", name := "abort", desc := "(I)Z" } : Jvm.MethodName)) ∈ am_TW := am_tw 707 (by decide +kernel) rfl
theorem w_680 : (Jvm.Cond.methodLink "CausalPlacesLaw" (44 : Nat) ({ cls := "CausalPlacesModel", name := "tick", desc := "(I)I" } : Jvm.MethodName)) ∈ am_TW := am_tw 709 (by decide +kernel) rfl
theorem w_681 : (Jvm.Cond.instanceMethod ({ cls := "CausalPlacesModel", name := "tick", desc := "(I)I" } : Jvm.MethodName)) ∈ am_TW := am_tw 710 (by decide +kernel) rfl
theorem w_682 : (Jvm.Cond.selects "CausalPlacesModel" ({ cls := "CausalPlacesModel", name := "tick", desc := "(I)I" } : Jvm.MethodName) ({ cls := "CausalPlacesModel", name := "tick", desc := "(I)I" } : Jvm.MethodName)) ∈ am_TW := am_tw 711 (by decide +kernel) rfl
theorem w_684 : (Jvm.Cond.methodLink "CausalPlacesModel" (77 : Nat) ({ cls := "CausalPlacesModel", name := "isServer", desc := "(I)Z" } : Jvm.MethodName)) ∈ am_TW := am_tw 713 (by decide +kernel) rfl
theorem w_685 : (Jvm.Cond.static ({ cls := "CausalPlacesModel", name := "isServer", desc := "(I)Z" } : Jvm.MethodName)) ∈ am_TW := am_tw 714 (by decide +kernel) rfl
theorem w_687 : (Jvm.Cond.methodLink "CausalPlacesLaw" (48 : Nat) ({ cls := "CausalPlacesModel", name := "deliver", desc := "(II)I" } : Jvm.MethodName)) ∈ am_TW := am_tw 716 (by decide +kernel) rfl
theorem w_688 : (Jvm.Cond.instanceMethod ({ cls := "CausalPlacesModel", name := "deliver", desc := "(II)I" } : Jvm.MethodName)) ∈ am_TW := am_tw 717 (by decide +kernel) rfl
theorem w_689 : (Jvm.Cond.selects "CausalPlacesModel" ({ cls := "CausalPlacesModel", name := "deliver", desc := "(II)I" } : Jvm.MethodName) ({ cls := "CausalPlacesModel", name := "deliver", desc := "(II)I" } : Jvm.MethodName)) ∈ am_TW := am_tw 718 (by decide +kernel) rfl
theorem w_691 : (Jvm.Cond.methodLink "CausalPlacesModel" (160 : Nat) ({ cls := "CausalPlacesModel", name := "isLink", desc := "(II)Z" } : Jvm.MethodName)) ∈ am_TW := am_tw 720 (by decide +kernel) rfl
theorem w_692 : (Jvm.Cond.static ({ cls := "CausalPlacesModel", name := "isLink", desc := "(II)Z" } : Jvm.MethodName)) ∈ am_TW := am_tw 721 (by decide +kernel) rfl
theorem w_694 : (Jvm.Cond.methodLink "CausalPlacesModel" (163 : Nat) ({ cls := "CausalPlacesModel", name := "firstOf", desc := "(II)I" } : Jvm.MethodName)) ∈ am_TW := am_tw 723 (by decide +kernel) rfl
theorem w_696 : (Jvm.Cond.instanceMethod ({ cls := "CausalPlacesModel", name := "firstOf", desc := "(II)I" } : Jvm.MethodName)) ∈ am_TW := am_tw 725 (by decide +kernel) rfl
theorem w_698 : (Jvm.Cond.methodLink "CausalPlacesLaw" (52 : Nat) ({ cls := "CausalPlacesModel", name := "client", desc := "(II)I" } : Jvm.MethodName)) ∈ am_TW := am_tw 727 (by decide +kernel) rfl
theorem w_699 : (Jvm.Cond.instanceMethod ({ cls := "CausalPlacesModel", name := "client", desc := "(II)I" } : Jvm.MethodName)) ∈ am_TW := am_tw 728 (by decide +kernel) rfl
theorem w_700 : (Jvm.Cond.selects "CausalPlacesModel" ({ cls := "CausalPlacesModel", name := "client", desc := "(II)I" } : Jvm.MethodName) ({ cls := "CausalPlacesModel", name := "client", desc := "(II)I" } : Jvm.MethodName)) ∈ am_TW := am_tw 729 (by decide +kernel) rfl
theorem w_702 : (Jvm.Cond.methodLink "CausalPlacesModel" (166 : Nat) ({ cls := "CausalPlacesModel", name := "bits", desc := "(I)I" } : Jvm.MethodName)) ∈ am_TW := am_tw 731 (by decide +kernel) rfl
theorem w_703 : (Jvm.Cond.static ({ cls := "CausalPlacesModel", name := "bits", desc := "(I)I" } : Jvm.MethodName)) ∈ am_TW := am_tw 732 (by decide +kernel) rfl
theorem w_705 : (Jvm.Cond.methodLink "CausalPlacesLaw" (56 : Nat) ({ cls := "CausalPlacesModel", name := "server", desc := "(II)I" } : Jvm.MethodName)) ∈ am_TW := am_tw 734 (by decide +kernel) rfl
theorem w_706 : (Jvm.Cond.instanceMethod ({ cls := "CausalPlacesModel", name := "server", desc := "(II)I" } : Jvm.MethodName)) ∈ am_TW := am_tw 735 (by decide +kernel) rfl
theorem w_707 : (Jvm.Cond.selects "CausalPlacesModel" ({ cls := "CausalPlacesModel", name := "server", desc := "(II)I" } : Jvm.MethodName) ({ cls := "CausalPlacesModel", name := "server", desc := "(II)I" } : Jvm.MethodName)) ∈ am_TW := am_tw 736 (by decide +kernel) rfl
theorem w_709 : (Jvm.Cond.methodLink "CausalPlacesModel" (169 : Nat) ({ cls := "CausalPlacesModel", name := "howMany", desc := "(II)I" } : Jvm.MethodName)) ∈ am_TW := am_tw 738 (by decide +kernel) rfl
theorem w_711 : (Jvm.Cond.instanceMethod ({ cls := "CausalPlacesModel", name := "howMany", desc := "(II)I" } : Jvm.MethodName)) ∈ am_TW := am_tw 740 (by decide +kernel) rfl
theorem w_713 : (Jvm.Cond.methodLink "CausalPlacesLaw" (60 : Nat) ({ cls := "CausalPlacesModel", name := "transaction", desc := "(II)I" } : Jvm.MethodName)) ∈ am_TW := am_tw 742 (by decide +kernel) rfl
theorem w_714 : (Jvm.Cond.instanceMethod ({ cls := "CausalPlacesModel", name := "transaction", desc := "(II)I" } : Jvm.MethodName)) ∈ am_TW := am_tw 743 (by decide +kernel) rfl
theorem w_715 : (Jvm.Cond.selects "CausalPlacesModel" ({ cls := "CausalPlacesModel", name := "transaction", desc := "(II)I" } : Jvm.MethodName) ({ cls := "CausalPlacesModel", name := "transaction", desc := "(II)I" } : Jvm.MethodName)) ∈ am_TW := am_tw 744 (by decide +kernel) rfl
theorem w_717 : (Jvm.Cond.methodLink "CausalPlacesLaw" (64 : Nat) ({ cls := "CausalPlacesModel", name := "written", desc := "(II)I" } : Jvm.MethodName)) ∈ am_TW := am_tw 746 (by decide +kernel) rfl
theorem w_718 : (Jvm.Cond.instanceMethod ({ cls := "CausalPlacesModel", name := "written", desc := "(II)I" } : Jvm.MethodName)) ∈ am_TW := am_tw 747 (by decide +kernel) rfl
theorem w_719 : (Jvm.Cond.selects "CausalPlacesModel" ({ cls := "CausalPlacesModel", name := "written", desc := "(II)I" } : Jvm.MethodName) ({ cls := "CausalPlacesModel", name := "written", desc := "(II)I" } : Jvm.MethodName)) ∈ am_TW := am_tw 748 (by decide +kernel) rfl
theorem w_721 : (Jvm.Cond.methodLink "CausalPlacesLaw" (69 : Nat) ({ cls := "CausalPlacesModel", name := "version", desc := "(III)I" } : Jvm.MethodName)) ∈ am_TW := am_tw 750 (by decide +kernel) rfl
theorem w_722 : (Jvm.Cond.instanceMethod ({ cls := "CausalPlacesModel", name := "version", desc := "(III)I" } : Jvm.MethodName)) ∈ am_TW := am_tw 751 (by decide +kernel) rfl
theorem w_723 : (Jvm.Cond.selects "CausalPlacesModel" ({ cls := "CausalPlacesModel", name := "version", desc := "(III)I" } : Jvm.MethodName) ({ cls := "CausalPlacesModel", name := "version", desc := "(III)I" } : Jvm.MethodName)) ∈ am_TW := am_tw 752 (by decide +kernel) rfl
theorem w_725 : (Jvm.Cond.methodLink "CausalPlacesLaw" (73 : Nat) ({ cls := "CausalPlacesModel", name := "link", desc := "(III)I" } : Jvm.MethodName)) ∈ am_TW := am_tw 754 (by decide +kernel) rfl
theorem w_726 : (Jvm.Cond.instanceMethod ({ cls := "CausalPlacesModel", name := "link", desc := "(III)I" } : Jvm.MethodName)) ∈ am_TW := am_tw 755 (by decide +kernel) rfl
theorem w_727 : (Jvm.Cond.selects "CausalPlacesModel" ({ cls := "CausalPlacesModel", name := "link", desc := "(III)I" } : Jvm.MethodName) ({ cls := "CausalPlacesModel", name := "link", desc := "(III)I" } : Jvm.MethodName)) ∈ am_TW := am_tw 756 (by decide +kernel) rfl
theorem ws_0 : Cond.selects "CausalPlaces" ⟨"CausalPlaces", "clientAt", "(I)LCausalPlaces$Client;"⟩ ⟨"CausalPlaces", "clientAt", "(I)LCausalPlaces$Client;"⟩ ∈ am_TW := am_tw 0 (by decide +kernel) rfl
theorem ws_1 : Cond.selects "CausalPlaces" ⟨"CausalPlaces", "serverAt", "(I)LCausalPlaces$Server;"⟩ ⟨"CausalPlaces", "serverAt", "(I)LCausalPlaces$Server;"⟩ ∈ am_TW := am_tw 1 (by decide +kernel) rfl
theorem ws_2 : Cond.selects "CausalPlaces" ⟨"CausalPlaces", "openClientAt", "(I)LCausalPlaces$Client;"⟩ ⟨"CausalPlaces", "openClientAt", "(I)LCausalPlaces$Client;"⟩ ∈ am_TW := am_tw 2 (by decide +kernel) rfl
theorem ws_3 : Cond.selects "CausalPlaces" ⟨"CausalPlaces", "newestFor", "(LCausalPlaces$Client;I)LCausalPlaces$Transaction;"⟩ ⟨"CausalPlaces", "newestFor", "(LCausalPlaces$Client;I)LCausalPlaces$Transaction;"⟩ ∈ am_TW := am_tw 3 (by decide +kernel) rfl
theorem ws_4 : Cond.selects "CausalPlaces" ⟨"CausalPlaces", "sendPrepares", "(LCausalPlaces$Transaction;)Z"⟩ ⟨"CausalPlaces", "sendPrepares", "(LCausalPlaces$Transaction;)Z"⟩ ∈ am_TW := am_tw 4 (by decide +kernel) rfl
theorem ws_5 : Cond.selects "CausalPlaces" ⟨"CausalPlaces", "send", "(IILCausalPlaces$Message;)V"⟩ ⟨"CausalPlaces", "send", "(IILCausalPlaces$Message;)V"⟩ ∈ am_TW := am_tw 5 (by decide +kernel) rfl
theorem ws_6 : Cond.selects "CausalPlaces" ⟨"CausalPlaces", "linkAt", "(II)LCausalPlaces$Link;"⟩ ⟨"CausalPlaces", "linkAt", "(II)LCausalPlaces$Link;"⟩ ∈ am_TW := am_tw 6 (by decide +kernel) rfl
theorem ws_7 : Cond.selects "CausalPlaces" ⟨"CausalPlaces", "decide", "(LCausalPlaces$Transaction;)V"⟩ ⟨"CausalPlaces", "decide", "(LCausalPlaces$Transaction;)V"⟩ ∈ am_TW := am_tw 7 (by decide +kernel) rfl
theorem ws_8 : Cond.selects "CausalPlaces" ⟨"CausalPlaces", "takeDecide", "(LCausalPlaces$Server;LCausalPlaces$Transaction;I)V"⟩ ⟨"CausalPlaces", "takeDecide", "(LCausalPlaces$Server;LCausalPlaces$Transaction;I)V"⟩ ∈ am_TW := am_tw 8 (by decide +kernel) rfl
theorem ws_9 : Cond.selects "CausalPlaces" ⟨"CausalPlaces", "transactionAt", "(I)LCausalPlaces$Transaction;"⟩ ⟨"CausalPlaces", "transactionAt", "(I)LCausalPlaces$Transaction;"⟩ ∈ am_TW := am_tw 9 (by decide +kernel) rfl
theorem ws_10 : Cond.selects "CausalPlaces" ⟨"CausalPlaces", "sendToOtherPlaces", "(LCausalPlaces$Server;II)V"⟩ ⟨"CausalPlaces", "sendToOtherPlaces", "(LCausalPlaces$Server;II)V"⟩ ∈ am_TW := am_tw 10 (by decide +kernel) rfl
theorem ws_11 : Cond.selects "CausalPlaces" ⟨"CausalPlaces", "takeMessage", "(LCausalPlaces$Message;LCausalPlaces$Server;LCausalPlaces$Server;)V"⟩ ⟨"CausalPlaces", "takeMessage", "(LCausalPlaces$Message;LCausalPlaces$Server;LCausalPlaces$Server;)V"⟩ ∈ am_TW := am_tw 11 (by decide +kernel) rfl
theorem ws_12 : Cond.selects "CausalPlacesModel" ⟨"CausalPlacesModel", "stable", "(II)I"⟩ ⟨"CausalPlacesModel", "stable", "(II)I"⟩ ∈ am_TW := am_tw 12 (by decide +kernel) rfl
theorem ws_13 : Cond.selects "CausalPlacesModel" ⟨"CausalPlacesModel", "isSeen", "(II)Z"⟩ ⟨"CausalPlacesModel", "isSeen", "(II)Z"⟩ ∈ am_TW := am_tw 13 (by decide +kernel) rfl
theorem ws_14 : Cond.selects "CausalPlacesModel" ⟨"CausalPlacesModel", "stamp", "(II)I"⟩ ⟨"CausalPlacesModel", "stamp", "(II)I"⟩ ∈ am_TW := am_tw 14 (by decide +kernel) rfl
theorem ws_15 : Cond.selects "CausalPlacesModel" ⟨"CausalPlacesModel", "placeOfTransaction", "(I)I"⟩ ⟨"CausalPlacesModel", "placeOfTransaction", "(I)I"⟩ ∈ am_TW := am_tw 15 (by decide +kernel) rfl
theorem ws_16 : Cond.selects "CausalPlacesModel" ⟨"CausalPlacesModel", "hasVersion", "(III)Z"⟩ ⟨"CausalPlacesModel", "hasVersion", "(III)Z"⟩ ∈ am_TW := am_tw 16 (by decide +kernel) rfl
theorem ws_17 : Cond.selects "CausalPlacesModel" ⟨"CausalPlacesModel", "writesFor", "(II)Z"⟩ ⟨"CausalPlacesModel", "writesFor", "(II)Z"⟩ ∈ am_TW := am_tw 17 (by decide +kernel) rfl
theorem ws_18 : Cond.selects "CausalPlacesModel" ⟨"CausalPlacesModel", "isNewer", "(II)Z"⟩ ⟨"CausalPlacesModel", "isNewer", "(II)Z"⟩ ∈ am_TW := am_tw 18 (by decide +kernel) rfl
theorem ws_19 : Cond.selects "CausalPlacesModel" ⟨"CausalPlacesModel", "concerns", "(II)Z"⟩ ⟨"CausalPlacesModel", "concerns", "(II)Z"⟩ ∈ am_TW := am_tw 19 (by decide +kernel) rfl
theorem ws_20 : Cond.selects "CausalPlacesModel" ⟨"CausalPlacesModel", "send", "(IIIIIII)V"⟩ ⟨"CausalPlacesModel", "send", "(IIIIIII)V"⟩ ∈ am_TW := am_tw 20 (by decide +kernel) rfl
theorem ws_21 : Cond.selects "CausalPlacesModel" ⟨"CausalPlacesModel", "take", "(IIIIIII)V"⟩ ⟨"CausalPlacesModel", "take", "(IIIIIII)V"⟩ ∈ am_TW := am_tw 21 (by decide +kernel) rfl
theorem ws_22 : Cond.selects "CausalPlacesModel" ⟨"CausalPlacesModel", "prepare", "(III)V"⟩ ⟨"CausalPlacesModel", "prepare", "(III)V"⟩ ∈ am_TW := am_tw 22 (by decide +kernel) rfl
theorem ws_23 : Cond.selects "CausalPlacesModel" ⟨"CausalPlacesModel", "prepared", "(III)V"⟩ ⟨"CausalPlacesModel", "prepared", "(III)V"⟩ ∈ am_TW := am_tw 23 (by decide +kernel) rfl
theorem ws_24 : Cond.selects "CausalPlacesModel" ⟨"CausalPlacesModel", "decided", "(III)V"⟩ ⟨"CausalPlacesModel", "decided", "(III)V"⟩ ∈ am_TW := am_tw 24 (by decide +kernel) rfl
theorem ws_25 : Cond.selects "CausalPlacesModel" ⟨"CausalPlacesModel", "apply", "(I)V"⟩ ⟨"CausalPlacesModel", "apply", "(I)V"⟩ ∈ am_TW := am_tw 25 (by decide +kernel) rfl
theorem ws_26 : Cond.selects "CausalPlacesModel" ⟨"CausalPlacesModel", "least", "(II)I"⟩ ⟨"CausalPlacesModel", "least", "(II)I"⟩ ∈ am_TW := am_tw 26 (by decide +kernel) rfl
theorem ws_27 : Cond.selects "CausalPlacesModel" ⟨"CausalPlacesModel", "firstOf", "(II)I"⟩ ⟨"CausalPlacesModel", "firstOf", "(II)I"⟩ ∈ am_TW := am_tw 27 (by decide +kernel) rfl
theorem ws_28 : Cond.selects "CausalPlacesModel" ⟨"CausalPlacesModel", "howMany", "(II)I"⟩ ⟨"CausalPlacesModel", "howMany", "(II)I"⟩ ∈ am_TW := am_tw 28 (by decide +kernel) rfl
set_option maxRecDepth 100000 in
theorem co1 : Cond.code (am_y 1) (am_cod 1) (am_mx 1) (am_rty 1) ∈ am_TW := am_tw 43 rfl rfl
theorem hd1 : (am_y 1).cls ≠ "java/lang/invoke/MethodHandle" ∧ (am_y 1).cls ≠ "java/lang/invoke/VarHandle" ∧ (parseMethodDescriptor (am_y 1).desc).map (fun d => d.parameters.length) = some 0 := by decide +kernel
set_option maxRecDepth 100000 in
theorem co2 : Cond.code (am_y 2) (am_cod 2) (am_mx 2) (am_rty 2) ∈ am_TW := am_tw 186 rfl rfl
theorem hd2 : (am_y 2).cls ≠ "java/lang/invoke/MethodHandle" ∧ (am_y 2).cls ≠ "java/lang/invoke/VarHandle" ∧ (parseMethodDescriptor (am_y 2).desc).map (fun d => d.parameters.length) = some 1 := by decide +kernel
set_option maxRecDepth 100000 in
theorem co3 : Cond.code (am_y 3) (am_cod 3) (am_mx 3) (am_rty 3) ∈ am_TW := am_tw 231 rfl rfl
theorem hd3 : (am_y 3).cls ≠ "java/lang/invoke/MethodHandle" ∧ (am_y 3).cls ≠ "java/lang/invoke/VarHandle" ∧ (parseMethodDescriptor (am_y 3).desc).map (fun d => d.parameters.length) = some 2 := by decide +kernel
set_option maxRecDepth 100000 in
theorem co4 : Cond.code (am_y 4) (am_cod 4) (am_mx 4) (am_rty 4) ∈ am_TW := am_tw 271 rfl rfl
theorem hd4 : (am_y 4).cls ≠ "java/lang/invoke/MethodHandle" ∧ (am_y 4).cls ≠ "java/lang/invoke/VarHandle" ∧ (parseMethodDescriptor (am_y 4).desc).map (fun d => d.parameters.length) = some 1 := by decide +kernel
set_option maxRecDepth 100000 in
theorem co5 : Cond.code (am_y 5) (am_cod 5) (am_mx 5) (am_rty 5) ∈ am_TW := am_tw 275 rfl rfl
theorem hd5 : (am_y 5).cls ≠ "java/lang/invoke/MethodHandle" ∧ (am_y 5).cls ≠ "java/lang/invoke/VarHandle" ∧ (parseMethodDescriptor (am_y 5).desc).map (fun d => d.parameters.length) = some 3 := by decide +kernel
set_option maxRecDepth 100000 in
theorem co6 : Cond.code (am_y 6) (am_cod 6) (am_mx 6) (am_rty 6) ∈ am_TW := am_tw 283 rfl rfl
theorem hd6 : (am_y 6).cls ≠ "java/lang/invoke/MethodHandle" ∧ (am_y 6).cls ≠ "java/lang/invoke/VarHandle" ∧ (parseMethodDescriptor (am_y 6).desc).map (fun d => d.parameters.length) = some 1 := by decide +kernel
set_option maxRecDepth 100000 in
theorem co7 : Cond.code (am_y 7) (am_cod 7) (am_mx 7) (am_rty 7) ∈ am_TW := am_tw 453 rfl rfl
theorem hd7 : (am_y 7).cls ≠ "java/lang/invoke/MethodHandle" ∧ (am_y 7).cls ≠ "java/lang/invoke/VarHandle" ∧ (parseMethodDescriptor (am_y 7).desc).map (fun d => d.parameters.length) = some 1 := by decide +kernel
set_option maxRecDepth 100000 in
theorem co8 : Cond.code (am_y 8) (am_cod 8) (am_mx 8) (am_rty 8) ∈ am_TW := am_tw 457 rfl rfl
theorem hd8 : (am_y 8).cls ≠ "java/lang/invoke/MethodHandle" ∧ (am_y 8).cls ≠ "java/lang/invoke/VarHandle" ∧ (parseMethodDescriptor (am_y 8).desc).map (fun d => d.parameters.length) = some 1 := by decide +kernel
set_option maxRecDepth 100000 in
theorem co9 : Cond.code (am_y 9) (am_cod 9) (am_mx 9) (am_rty 9) ∈ am_TW := am_tw 478 rfl rfl
theorem hd9 : (am_y 9).cls ≠ "java/lang/invoke/MethodHandle" ∧ (am_y 9).cls ≠ "java/lang/invoke/VarHandle" ∧ (parseMethodDescriptor (am_y 9).desc).map (fun d => d.parameters.length) = some 2 := by decide +kernel
set_option maxRecDepth 100000 in
theorem co10 : Cond.code (am_y 10) (am_cod 10) (am_mx 10) (am_rty 10) ∈ am_TW := am_tw 494 rfl rfl
theorem hd10 : (am_y 10).cls ≠ "java/lang/invoke/MethodHandle" ∧ (am_y 10).cls ≠ "java/lang/invoke/VarHandle" ∧ (parseMethodDescriptor (am_y 10).desc).map (fun d => d.parameters.length) = some 2 := by decide +kernel
set_option maxRecDepth 100000 in
theorem co11 : Cond.code (am_y 11) (am_cod 11) (am_mx 11) (am_rty 11) ∈ am_TW := am_tw 503 rfl rfl
theorem hd11 : (am_y 11).cls ≠ "java/lang/invoke/MethodHandle" ∧ (am_y 11).cls ≠ "java/lang/invoke/VarHandle" ∧ (parseMethodDescriptor (am_y 11).desc).map (fun d => d.parameters.length) = some 2 := by decide +kernel
set_option maxRecDepth 100000 in
theorem co12 : Cond.code (am_y 12) (am_cod 12) (am_mx 12) (am_rty 12) ∈ am_TW := am_tw 513 rfl rfl
theorem hd12 : (am_y 12).cls ≠ "java/lang/invoke/MethodHandle" ∧ (am_y 12).cls ≠ "java/lang/invoke/VarHandle" ∧ (parseMethodDescriptor (am_y 12).desc).map (fun d => d.parameters.length) = some 2 := by decide +kernel
set_option maxRecDepth 100000 in
theorem co13 : Cond.code (am_y 13) (am_cod 13) (am_mx 13) (am_rty 13) ∈ am_TW := am_tw 518 rfl rfl
theorem hd13 : (am_y 13).cls ≠ "java/lang/invoke/MethodHandle" ∧ (am_y 13).cls ≠ "java/lang/invoke/VarHandle" ∧ (parseMethodDescriptor (am_y 13).desc).map (fun d => d.parameters.length) = some 2 := by decide +kernel
set_option maxRecDepth 100000 in
theorem co14 : Cond.code (am_y 14) (am_cod 14) (am_mx 14) (am_rty 14) ∈ am_TW := am_tw 522 rfl rfl
theorem hd14 : (am_y 14).cls ≠ "java/lang/invoke/MethodHandle" ∧ (am_y 14).cls ≠ "java/lang/invoke/VarHandle" ∧ (parseMethodDescriptor (am_y 14).desc).map (fun d => d.parameters.length) = some 3 := by decide +kernel
set_option maxRecDepth 100000 in
theorem co15 : Cond.code (am_y 15) (am_cod 15) (am_mx 15) (am_rty 15) ∈ am_TW := am_tw 531 rfl rfl
theorem hd15 : (am_y 15).cls ≠ "java/lang/invoke/MethodHandle" ∧ (am_y 15).cls ≠ "java/lang/invoke/VarHandle" ∧ (parseMethodDescriptor (am_y 15).desc).map (fun d => d.parameters.length) = some 3 := by decide +kernel
set_option maxRecDepth 100000 in
theorem co16 : Cond.code (am_y 16) (am_cod 16) (am_mx 16) (am_rty 16) ∈ am_TW := am_tw 190 rfl rfl
theorem hd16 : (am_y 16).cls ≠ "java/lang/invoke/MethodHandle" ∧ (am_y 16).cls ≠ "java/lang/invoke/VarHandle" ∧ (parseMethodDescriptor (am_y 16).desc).map (fun d => d.parameters.length) = some 1 := by decide +kernel
set_option maxRecDepth 100000 in
theorem co17 : Cond.code (am_y 17) (am_cod 17) (am_mx 17) (am_rty 17) ∈ am_TW := am_tw 235 rfl rfl
theorem hd17 : (am_y 17).cls ≠ "java/lang/invoke/MethodHandle" ∧ (am_y 17).cls ≠ "java/lang/invoke/VarHandle" ∧ (parseMethodDescriptor (am_y 17).desc).map (fun d => d.parameters.length) = some 1 := by decide +kernel
set_option maxRecDepth 100000 in
theorem co18 : Cond.code (am_y 18) (am_cod 18) (am_mx 18) (am_rty 18) ∈ am_TW := am_tw 197 rfl rfl
theorem hd18 : (am_y 18).cls ≠ "java/lang/invoke/MethodHandle" ∧ (am_y 18).cls ≠ "java/lang/invoke/VarHandle" ∧ (parseMethodDescriptor (am_y 18).desc).map (fun d => d.parameters.length) = some 1 := by decide +kernel
set_option maxRecDepth 100000 in
theorem co19 : Cond.code (am_y 19) (am_cod 19) (am_mx 19) (am_rty 19) ∈ am_TW := am_tw 435 rfl rfl
theorem hd19 : (am_y 19).cls ≠ "java/lang/invoke/MethodHandle" ∧ (am_y 19).cls ≠ "java/lang/invoke/VarHandle" ∧ (parseMethodDescriptor (am_y 19).desc).map (fun d => d.parameters.length) = some 1 := by decide +kernel
set_option maxRecDepth 100000 in
theorem co20 : Cond.code (am_y 20) (am_cod 20) (am_mx 20) (am_rty 20) ∈ am_TW := am_tw 408 rfl rfl
theorem hd20 : (am_y 20).cls ≠ "java/lang/invoke/MethodHandle" ∧ (am_y 20).cls ≠ "java/lang/invoke/VarHandle" ∧ (parseMethodDescriptor (am_y 20).desc).map (fun d => d.parameters.length) = some 2 := by decide +kernel
set_option maxRecDepth 100000 in
theorem co21 : Cond.code (am_y 21) (am_cod 21) (am_mx 21) (am_rty 21) ∈ am_TW := am_tw 468 rfl rfl
theorem hd21 : (am_y 21).cls ≠ "java/lang/invoke/MethodHandle" ∧ (am_y 21).cls ≠ "java/lang/invoke/VarHandle" ∧ (parseMethodDescriptor (am_y 21).desc).map (fun d => d.parameters.length) = some 1 := by decide +kernel
set_option maxRecDepth 100000 in
theorem co22 : Cond.code (am_y 22) (am_cod 22) (am_mx 22) (am_rty 22) ∈ am_TW := am_tw 238 rfl rfl
theorem hd22 : (am_y 22).cls ≠ "java/lang/invoke/MethodHandle" ∧ (am_y 22).cls ≠ "java/lang/invoke/VarHandle" ∧ (parseMethodDescriptor (am_y 22).desc).map (fun d => d.parameters.length) = some 1 := by decide +kernel
set_option maxRecDepth 100000 in
theorem co23 : Cond.code (am_y 23) (am_cod 23) (am_mx 23) (am_rty 23) ∈ am_TW := am_tw 193 rfl rfl
theorem hd23 : (am_y 23).cls ≠ "java/lang/invoke/MethodHandle" ∧ (am_y 23).cls ≠ "java/lang/invoke/VarHandle" ∧ (parseMethodDescriptor (am_y 23).desc).map (fun d => d.parameters.length) = some 1 := by decide +kernel
set_option maxRecDepth 100000 in
theorem co24 : Cond.code (am_y 24) (am_cod 24) (am_mx 24) (am_rty 24) ∈ am_TW := am_tw 148 rfl rfl
theorem hd24 : (am_y 24).cls ≠ "java/lang/invoke/MethodHandle" ∧ (am_y 24).cls ≠ "java/lang/invoke/VarHandle" ∧ (parseMethodDescriptor (am_y 24).desc).map (fun d => d.parameters.length) = some 2 := by decide +kernel
set_option maxRecDepth 100000 in
theorem co25 : Cond.code (am_y 25) (am_cod 25) (am_mx 25) (am_rty 25) ∈ am_TW := am_tw 208 rfl rfl
theorem hd25 : (am_y 25).cls ≠ "java/lang/invoke/MethodHandle" ∧ (am_y 25).cls ≠ "java/lang/invoke/VarHandle" ∧ (parseMethodDescriptor (am_y 25).desc).map (fun d => d.parameters.length) = some 2 := by decide +kernel
set_option maxRecDepth 100000 in
theorem co26 : Cond.code (am_y 26) (am_cod 26) (am_mx 26) (am_rty 26) ∈ am_TW := am_tw 252 rfl rfl
theorem hd26 : (am_y 26).cls ≠ "java/lang/invoke/MethodHandle" ∧ (am_y 26).cls ≠ "java/lang/invoke/VarHandle" ∧ (parseMethodDescriptor (am_y 26).desc).map (fun d => d.parameters.length) = some 2 := by decide +kernel
set_option maxRecDepth 100000 in
theorem co27 : Cond.code (am_y 27) (am_cod 27) (am_mx 27) (am_rty 27) ∈ am_TW := am_tw 351 rfl rfl
theorem hd27 : (am_y 27).cls ≠ "java/lang/invoke/MethodHandle" ∧ (am_y 27).cls ≠ "java/lang/invoke/VarHandle" ∧ (parseMethodDescriptor (am_y 27).desc).map (fun d => d.parameters.length) = some 1 := by decide +kernel
set_option maxRecDepth 100000 in
theorem co28 : Cond.code (am_y 28) (am_cod 28) (am_mx 28) (am_rty 28) ∈ am_TW := am_tw 416 rfl rfl
theorem hd28 : (am_y 28).cls ≠ "java/lang/invoke/MethodHandle" ∧ (am_y 28).cls ≠ "java/lang/invoke/VarHandle" ∧ (parseMethodDescriptor (am_y 28).desc).map (fun d => d.parameters.length) = some 1 := by decide +kernel
set_option maxRecDepth 100000 in
theorem co29 : Cond.code (am_y 29) (am_cod 29) (am_mx 29) (am_rty 29) ∈ am_TW := am_tw 420 rfl rfl
theorem hd29 : (am_y 29).cls ≠ "java/lang/invoke/MethodHandle" ∧ (am_y 29).cls ≠ "java/lang/invoke/VarHandle" ∧ (parseMethodDescriptor (am_y 29).desc).map (fun d => d.parameters.length) = some 3 := by decide +kernel
set_option maxRecDepth 100000 in
theorem co30 : Cond.code (am_y 30) (am_cod 30) (am_mx 30) (am_rty 30) ∈ am_TW := am_tw 486 rfl rfl
theorem hd30 : (am_y 30).cls ≠ "java/lang/invoke/MethodHandle" ∧ (am_y 30).cls ≠ "java/lang/invoke/VarHandle" ∧ (parseMethodDescriptor (am_y 30).desc).map (fun d => d.parameters.length) = some 3 := by decide +kernel
set_option maxRecDepth 100000 in
theorem co31 : Cond.code (am_y 31) (am_cod 31) (am_mx 31) (am_rty 31) ∈ am_TW := am_tw 444 rfl rfl
theorem hd31 : (am_y 31).cls ≠ "java/lang/invoke/MethodHandle" ∧ (am_y 31).cls ≠ "java/lang/invoke/VarHandle" ∧ (parseMethodDescriptor (am_y 31).desc).map (fun d => d.parameters.length) = some 3 := by decide +kernel
set_option maxRecDepth 100000 in
theorem co32 : Cond.code (am_y 32) (am_cod 32) (am_mx 32) (am_rty 32) ∈ am_TW := am_tw 404 rfl rfl
theorem hd32 : (am_y 32).cls ≠ "java/lang/invoke/MethodHandle" ∧ (am_y 32).cls ≠ "java/lang/invoke/VarHandle" ∧ (parseMethodDescriptor (am_y 32).desc).map (fun d => d.parameters.length) = some 3 := by decide +kernel
set_option maxRecDepth 100000 in
theorem co33 : Cond.code (am_y 33) (am_cod 33) (am_mx 33) (am_rty 33) ∈ am_TW := am_tw 52 rfl rfl
theorem hd33 : (am_y 33).cls ≠ "java/lang/invoke/MethodHandle" ∧ (am_y 33).cls ≠ "java/lang/invoke/VarHandle" ∧ (parseMethodDescriptor (am_y 33).desc).map (fun d => d.parameters.length) = some 1 := by decide +kernel
set_option maxRecDepth 100000 in
theorem co34 : Cond.code (am_y 34) (am_cod 34) (am_mx 34) (am_rty 34) ∈ am_TW := am_tw 201 rfl rfl
theorem hd34 : (am_y 34).cls ≠ "java/lang/invoke/MethodHandle" ∧ (am_y 34).cls ≠ "java/lang/invoke/VarHandle" ∧ (parseMethodDescriptor (am_y 34).desc).map (fun d => d.parameters.length) = some 1 := by decide +kernel
set_option maxRecDepth 100000 in
theorem co35 : Cond.code (am_y 35) (am_cod 35) (am_mx 35) (am_rty 35) ∈ am_TW := am_tw 218 rfl rfl
theorem hd35 : (am_y 35).cls ≠ "java/lang/invoke/MethodHandle" ∧ (am_y 35).cls ≠ "java/lang/invoke/VarHandle" ∧ (parseMethodDescriptor (am_y 35).desc).map (fun d => d.parameters.length) = some 0 := by decide +kernel
set_option maxRecDepth 100000 in
theorem co36 : Cond.code (am_y 36) (am_cod 36) (am_mx 36) (am_rty 36) ∈ am_TW := am_tw 448 rfl rfl
theorem hd36 : (am_y 36).cls ≠ "java/lang/invoke/MethodHandle" ∧ (am_y 36).cls ≠ "java/lang/invoke/VarHandle" ∧ (parseMethodDescriptor (am_y 36).desc).map (fun d => d.parameters.length) = some 1 := by decide +kernel
set_option maxRecDepth 100000 in
theorem co37 : Cond.code (am_y 37) (am_cod 37) (am_mx 37) (am_rty 37) ∈ am_TW := am_tw 256 rfl rfl
theorem hd37 : (am_y 37).cls ≠ "java/lang/invoke/MethodHandle" ∧ (am_y 37).cls ≠ "java/lang/invoke/VarHandle" ∧ (parseMethodDescriptor (am_y 37).desc).map (fun d => d.parameters.length) = some 1 := by decide +kernel
set_option maxRecDepth 100000 in
theorem co38 : Cond.code (am_y 38) (am_cod 38) (am_mx 38) (am_rty 38) ∈ am_TW := am_tw 498 rfl rfl
theorem hd38 : (am_y 38).cls ≠ "java/lang/invoke/MethodHandle" ∧ (am_y 38).cls ≠ "java/lang/invoke/VarHandle" ∧ (parseMethodDescriptor (am_y 38).desc).map (fun d => d.parameters.length) = some 0 := by decide +kernel
set_option maxRecDepth 100000 in
theorem co39 : Cond.code (am_y 39) (am_cod 39) (am_mx 39) (am_rty 39) ∈ am_TW := am_tw 152 rfl rfl
theorem hd39 : (am_y 39).cls ≠ "java/lang/invoke/MethodHandle" ∧ (am_y 39).cls ≠ "java/lang/invoke/VarHandle" ∧ (parseMethodDescriptor (am_y 39).desc).map (fun d => d.parameters.length) = some 0 := by decide +kernel
set_option maxRecDepth 100000 in
theorem co40 : Cond.code (am_y 40) (am_cod 40) (am_mx 40) (am_rty 40) ∈ am_TW := am_tw 412 rfl rfl
theorem hd40 : (am_y 40).cls ≠ "java/lang/invoke/MethodHandle" ∧ (am_y 40).cls ≠ "java/lang/invoke/VarHandle" ∧ (parseMethodDescriptor (am_y 40).desc).map (fun d => d.parameters.length) = some 1 := by decide +kernel
set_option maxRecDepth 100000 in
theorem co41 : Cond.code (am_y 41) (am_cod 41) (am_mx 41) (am_rty 41) ∈ am_TW := am_tw 482 rfl rfl
theorem hd41 : (am_y 41).cls ≠ "java/lang/invoke/MethodHandle" ∧ (am_y 41).cls ≠ "java/lang/invoke/VarHandle" ∧ (parseMethodDescriptor (am_y 41).desc).map (fun d => d.parameters.length) = some 0 := by decide +kernel
set_option maxRecDepth 100000 in
theorem co42 : Cond.code (am_y 42) (am_cod 42) (am_mx 42) (am_rty 42) ∈ am_TW := am_tw 379 rfl rfl
theorem hd42 : (am_y 42).cls ≠ "java/lang/invoke/MethodHandle" ∧ (am_y 42).cls ≠ "java/lang/invoke/VarHandle" ∧ (parseMethodDescriptor (am_y 42).desc).map (fun d => d.parameters.length) = some 4 := by decide +kernel
set_option maxRecDepth 100000 in
theorem co43 : Cond.code (am_y 43) (am_cod 43) (am_mx 43) (am_rty 43) ∈ am_TW := am_tw 107 rfl rfl
theorem hd43 : (am_y 43).cls ≠ "java/lang/invoke/MethodHandle" ∧ (am_y 43).cls ≠ "java/lang/invoke/VarHandle" ∧ (parseMethodDescriptor (am_y 43).desc).map (fun d => d.parameters.length) = some 1 := by decide +kernel
set_option maxRecDepth 100000 in
theorem co44 : Cond.code (am_y 44) (am_cod 44) (am_mx 44) (am_rty 44) ∈ am_TW := am_tw 359 rfl rfl
theorem hd44 : (am_y 44).cls ≠ "java/lang/invoke/MethodHandle" ∧ (am_y 44).cls ≠ "java/lang/invoke/VarHandle" ∧ (parseMethodDescriptor (am_y 44).desc).map (fun d => d.parameters.length) = some 1 := by decide +kernel
set_option maxRecDepth 100000 in
theorem co45 : Cond.code (am_y 45) (am_cod 45) (am_mx 45) (am_rty 45) ∈ am_TW := am_tw 472 rfl rfl
theorem hd45 : (am_y 45).cls ≠ "java/lang/invoke/MethodHandle" ∧ (am_y 45).cls ≠ "java/lang/invoke/VarHandle" ∧ (parseMethodDescriptor (am_y 45).desc).map (fun d => d.parameters.length) = some 0 := by decide +kernel
set_option maxRecDepth 100000 in
theorem co46 : Cond.code (am_y 46) (am_cod 46) (am_mx 46) (am_rty 46) ∈ am_TW := am_tw 205 rfl rfl
theorem hd46 : (am_y 46).cls ≠ "java/lang/invoke/MethodHandle" ∧ (am_y 46).cls ≠ "java/lang/invoke/VarHandle" ∧ (parseMethodDescriptor (am_y 46).desc).map (fun d => d.parameters.length) = some 1 := by decide +kernel
set_option maxRecDepth 100000 in
theorem co47 : Cond.code (am_y 47) (am_cod 47) (am_mx 47) (am_rty 47) ∈ am_TW := am_tw 465 rfl rfl
theorem hd47 : (am_y 47).cls ≠ "java/lang/invoke/MethodHandle" ∧ (am_y 47).cls ≠ "java/lang/invoke/VarHandle" ∧ (parseMethodDescriptor (am_y 47).desc).map (fun d => d.parameters.length) = some 2 := by decide +kernel
set_option maxRecDepth 100000 in
theorem co48 : Cond.code (am_y 48) (am_cod 48) (am_mx 48) (am_rty 48) ∈ am_TW := am_tw 490 rfl rfl
theorem hd48 : (am_y 48).cls ≠ "java/lang/invoke/MethodHandle" ∧ (am_y 48).cls ≠ "java/lang/invoke/VarHandle" ∧ (parseMethodDescriptor (am_y 48).desc).map (fun d => d.parameters.length) = some 1 := by decide +kernel
set_option maxRecDepth 100000 in
theorem co49 : Cond.code (am_y 49) (am_cod 49) (am_mx 49) (am_rty 49) ∈ am_TW := am_tw 364 rfl rfl
theorem hd49 : (am_y 49).cls ≠ "java/lang/invoke/MethodHandle" ∧ (am_y 49).cls ≠ "java/lang/invoke/VarHandle" ∧ (parseMethodDescriptor (am_y 49).desc).map (fun d => d.parameters.length) = some 1 := by decide +kernel
set_option maxRecDepth 100000 in
theorem co50 : Cond.code (am_y 50) (am_cod 50) (am_mx 50) (am_rty 50) ∈ am_TW := am_tw 369 rfl rfl
theorem hd50 : (am_y 50).cls ≠ "java/lang/invoke/MethodHandle" ∧ (am_y 50).cls ≠ "java/lang/invoke/VarHandle" ∧ (parseMethodDescriptor (am_y 50).desc).map (fun d => d.parameters.length) = some 3 := by decide +kernel
set_option maxRecDepth 100000 in
theorem co51 : Cond.code (am_y 51) (am_cod 51) (am_mx 51) (am_rty 51) ∈ am_TW := am_tw 509 rfl rfl
theorem hd51 : (am_y 51).cls ≠ "java/lang/invoke/MethodHandle" ∧ (am_y 51).cls ≠ "java/lang/invoke/VarHandle" ∧ (parseMethodDescriptor (am_y 51).desc).map (fun d => d.parameters.length) = some 1 := by decide +kernel
set_option maxRecDepth 100000 in
theorem co52 : Cond.code (am_y 52) (am_cod 52) (am_mx 52) (am_rty 52) ∈ am_TW := am_tw 430 rfl rfl
theorem hd52 : (am_y 52).cls ≠ "java/lang/invoke/MethodHandle" ∧ (am_y 52).cls ≠ "java/lang/invoke/VarHandle" ∧ (parseMethodDescriptor (am_y 52).desc).map (fun d => d.parameters.length) = some 1 := by decide +kernel
set_option maxRecDepth 100000 in
theorem co53 : Cond.code (am_y 53) (am_cod 53) (am_mx 53) (am_rty 53) ∈ am_TW := am_tw 461 rfl rfl
theorem hd53 : (am_y 53).cls ≠ "java/lang/invoke/MethodHandle" ∧ (am_y 53).cls ≠ "java/lang/invoke/VarHandle" ∧ (parseMethodDescriptor (am_y 53).desc).map (fun d => d.parameters.length) = some 0 := by decide +kernel
set_option maxRecDepth 100000 in
theorem co54 : Cond.code (am_y 54) (am_cod 54) (am_mx 54) (am_rty 54) ∈ am_TW := am_tw 426 rfl rfl
theorem hd54 : (am_y 54).cls ≠ "java/lang/invoke/MethodHandle" ∧ (am_y 54).cls ≠ "java/lang/invoke/VarHandle" ∧ (parseMethodDescriptor (am_y 54).desc).map (fun d => d.parameters.length) = some 0 := by decide +kernel
set_option maxRecDepth 100000 in
theorem co55 : Cond.code (am_y 55) (am_cod 55) (am_mx 55) (am_rty 55) ∈ am_TW := am_tw 439 rfl rfl
theorem hd55 : (am_y 55).cls ≠ "java/lang/invoke/MethodHandle" ∧ (am_y 55).cls ≠ "java/lang/invoke/VarHandle" ∧ (parseMethodDescriptor (am_y 55).desc).map (fun d => d.parameters.length) = some 1 := by decide +kernel
set_option maxRecDepth 100000 in
theorem co56 : Cond.code (am_y 56) (am_cod 56) (am_mx 56) (am_rty 56) ∈ am_TW := am_tw 261 rfl rfl
theorem hd56 : (am_y 56).cls ≠ "java/lang/invoke/MethodHandle" ∧ (am_y 56).cls ≠ "java/lang/invoke/VarHandle" ∧ (parseMethodDescriptor (am_y 56).desc).map (fun d => d.parameters.length) = some 2 := by decide +kernel
set_option maxRecDepth 100000 in
theorem co57 : Cond.code (am_y 57) (am_cod 57) (am_mx 57) (am_rty 57) ∈ am_TW := am_tw 527 rfl rfl
theorem hd57 : (am_y 57).cls ≠ "java/lang/invoke/MethodHandle" ∧ (am_y 57).cls ≠ "java/lang/invoke/VarHandle" ∧ (parseMethodDescriptor (am_y 57).desc).map (fun d => d.parameters.length) = some 2 := by decide +kernel
set_option maxRecDepth 100000 in
theorem co58 : Cond.code (am_y 58) (am_cod 58) (am_mx 58) (am_rty 58) ∈ am_TW := am_tw 291 rfl rfl
theorem hd58 : (am_y 58).cls ≠ "java/lang/invoke/MethodHandle" ∧ (am_y 58).cls ≠ "java/lang/invoke/VarHandle" ∧ (parseMethodDescriptor (am_y 58).desc).map (fun d => d.parameters.length) = some 2 := by decide +kernel
set_option maxRecDepth 100000 in
theorem co59 : Cond.code (am_y 59) (am_cod 59) (am_mx 59) (am_rty 59) ∈ am_TW := am_tw 373 rfl rfl
theorem hd59 : (am_y 59).cls ≠ "java/lang/invoke/MethodHandle" ∧ (am_y 59).cls ≠ "java/lang/invoke/VarHandle" ∧ (parseMethodDescriptor (am_y 59).desc).map (fun d => d.parameters.length) = some 1 := by decide +kernel
set_option maxRecDepth 100000 in
theorem co60 : Cond.code (am_y 60) (am_cod 60) (am_mx 60) (am_rty 60) ∈ am_TW := am_tw 226 rfl rfl
theorem hd60 : (am_y 60).cls ≠ "java/lang/invoke/MethodHandle" ∧ (am_y 60).cls ≠ "java/lang/invoke/VarHandle" ∧ (parseMethodDescriptor (am_y 60).desc).map (fun d => d.parameters.length) = some 1 := by decide +kernel
set_option maxRecDepth 100000 in
theorem co61 : Cond.code (am_y 61) (am_cod 61) (am_mx 61) (am_rty 61) ∈ am_TW := am_tw 222 rfl rfl
theorem hd61 : (am_y 61).cls ≠ "java/lang/invoke/MethodHandle" ∧ (am_y 61).cls ≠ "java/lang/invoke/VarHandle" ∧ (parseMethodDescriptor (am_y 61).desc).map (fun d => d.parameters.length) = some 1 := by decide +kernel
set_option maxRecDepth 100000 in
theorem co62 : Cond.code (am_y 62) (am_cod 62) (am_mx 62) (am_rty 62) ∈ am_TW := am_tw 267 rfl rfl
theorem hd62 : (am_y 62).cls ≠ "java/lang/invoke/MethodHandle" ∧ (am_y 62).cls ≠ "java/lang/invoke/VarHandle" ∧ (parseMethodDescriptor (am_y 62).desc).map (fun d => d.parameters.length) = some 1 := by decide +kernel
set_option maxRecDepth 100000 in
theorem co63 : Cond.code (am_y 63) (am_cod 63) (am_mx 63) (am_rty 63) ∈ am_TW := am_tw 60 rfl rfl
theorem hd63 : (am_y 63).cls ≠ "java/lang/invoke/MethodHandle" ∧ (am_y 63).cls ≠ "java/lang/invoke/VarHandle" ∧ (parseMethodDescriptor (am_y 63).desc).map (fun d => d.parameters.length) = some 0 := by decide +kernel
set_option maxRecDepth 100000 in
theorem co64 : Cond.code (am_y 64) (am_cod 64) (am_mx 64) (am_rty 64) ∈ am_TW := am_tw 347 rfl rfl
theorem hd64 : (am_y 64).cls ≠ "java/lang/invoke/MethodHandle" ∧ (am_y 64).cls ≠ "java/lang/invoke/VarHandle" ∧ (parseMethodDescriptor (am_y 64).desc).map (fun d => d.parameters.length) = some 0 := by decide +kernel
set_option maxRecDepth 100000 in
theorem co65 : Cond.code (am_y 65) (am_cod 65) (am_mx 65) (am_rty 65) ∈ am_TW := am_tw 279 rfl rfl
theorem hd65 : (am_y 65).cls ≠ "java/lang/invoke/MethodHandle" ∧ (am_y 65).cls ≠ "java/lang/invoke/VarHandle" ∧ (parseMethodDescriptor (am_y 65).desc).map (fun d => d.parameters.length) = some 2 := by decide +kernel
set_option maxRecDepth 100000 in
theorem co66 : Cond.code (am_y 66) (am_cod 66) (am_mx 66) (am_rty 66) ∈ am_TW := am_tw 305 rfl rfl
theorem hd66 : (am_y 66).cls ≠ "java/lang/invoke/MethodHandle" ∧ (am_y 66).cls ≠ "java/lang/invoke/VarHandle" ∧ (parseMethodDescriptor (am_y 66).desc).map (fun d => d.parameters.length) = some 1 := by decide +kernel
set_option maxRecDepth 100000 in
theorem co67 : Cond.code (am_y 67) (am_cod 67) (am_mx 67) (am_rty 67) ∈ am_TW := am_tw 242 rfl rfl
theorem hd67 : (am_y 67).cls ≠ "java/lang/invoke/MethodHandle" ∧ (am_y 67).cls ≠ "java/lang/invoke/VarHandle" ∧ (parseMethodDescriptor (am_y 67).desc).map (fun d => d.parameters.length) = some 1 := by decide +kernel
set_option maxRecDepth 100000 in
theorem co68 : Cond.code (am_y 68) (am_cod 68) (am_mx 68) (am_rty 68) ∈ am_TW := am_tw 247 rfl rfl
theorem hd68 : (am_y 68).cls ≠ "java/lang/invoke/MethodHandle" ∧ (am_y 68).cls ≠ "java/lang/invoke/VarHandle" ∧ (parseMethodDescriptor (am_y 68).desc).map (fun d => d.parameters.length) = some 1 := by decide +kernel
set_option maxRecDepth 100000 in
theorem co69 : Cond.code (am_y 69) (am_cod 69) (am_mx 69) (am_rty 69) ∈ am_TW := am_tw 287 rfl rfl
theorem hd69 : (am_y 69).cls ≠ "java/lang/invoke/MethodHandle" ∧ (am_y 69).cls ≠ "java/lang/invoke/VarHandle" ∧ (parseMethodDescriptor (am_y 69).desc).map (fun d => d.parameters.length) = some 0 := by decide +kernel
set_option maxRecDepth 100000 in
theorem co70 : Cond.code (am_y 70) (am_cod 70) (am_mx 70) (am_rty 70) ∈ am_TW := am_tw 355 rfl rfl
theorem hd70 : (am_y 70).cls ≠ "java/lang/invoke/MethodHandle" ∧ (am_y 70).cls ≠ "java/lang/invoke/VarHandle" ∧ (parseMethodDescriptor (am_y 70).desc).map (fun d => d.parameters.length) = some 1 := by decide +kernel
set_option maxRecDepth 100000 in
theorem co71 : Cond.code (am_y 71) (am_cod 71) (am_mx 71) (am_rty 71) ∈ am_TW := am_tw 536 rfl rfl
theorem hd71 : (am_y 71).cls ≠ "java/lang/invoke/MethodHandle" ∧ (am_y 71).cls ≠ "java/lang/invoke/VarHandle" ∧ (parseMethodDescriptor (am_y 71).desc).map (fun d => d.parameters.length) = some 0 := by decide +kernel
set_option maxRecDepth 100000 in
theorem co72 : Cond.code (am_y 72) (am_cod 72) (am_mx 72) (am_rty 72) ∈ am_TW := am_tw 617 rfl rfl
theorem hd72 : (am_y 72).cls ≠ "java/lang/invoke/MethodHandle" ∧ (am_y 72).cls ≠ "java/lang/invoke/VarHandle" ∧ (parseMethodDescriptor (am_y 72).desc).map (fun d => d.parameters.length) = some 1 := by decide +kernel
set_option maxRecDepth 100000 in
theorem co73 : Cond.code (am_y 73) (am_cod 73) (am_mx 73) (am_rty 73) ∈ am_TW := am_tw 715 rfl rfl
theorem hd73 : (am_y 73).cls ≠ "java/lang/invoke/MethodHandle" ∧ (am_y 73).cls ≠ "java/lang/invoke/VarHandle" ∧ (parseMethodDescriptor (am_y 73).desc).map (fun d => d.parameters.length) = some 1 := by decide +kernel
set_option maxRecDepth 100000 in
theorem co74 : Cond.code (am_y 74) (am_cod 74) (am_mx 74) (am_rty 74) ∈ am_TW := am_tw 642 rfl rfl
theorem hd74 : (am_y 74).cls ≠ "java/lang/invoke/MethodHandle" ∧ (am_y 74).cls ≠ "java/lang/invoke/VarHandle" ∧ (parseMethodDescriptor (am_y 74).desc).map (fun d => d.parameters.length) = some 1 := by decide +kernel
set_option maxRecDepth 100000 in
theorem co75 : Cond.code (am_y 75) (am_cod 75) (am_mx 75) (am_rty 75) ∈ am_TW := am_tw 704 rfl rfl
theorem hd75 : (am_y 75).cls ≠ "java/lang/invoke/MethodHandle" ∧ (am_y 75).cls ≠ "java/lang/invoke/VarHandle" ∧ (parseMethodDescriptor (am_y 75).desc).map (fun d => d.parameters.length) = some 1 := by decide +kernel
set_option maxRecDepth 100000 in
theorem co76 : Cond.code (am_y 76) (am_cod 76) (am_mx 76) (am_rty 76) ∈ am_TW := am_tw 673 rfl rfl
theorem hd76 : (am_y 76).cls ≠ "java/lang/invoke/MethodHandle" ∧ (am_y 76).cls ≠ "java/lang/invoke/VarHandle" ∧ (parseMethodDescriptor (am_y 76).desc).map (fun d => d.parameters.length) = some 2 := by decide +kernel
set_option maxRecDepth 100000 in
theorem co77 : Cond.code (am_y 77) (am_cod 77) (am_mx 77) (am_rty 77) ∈ am_TW := am_tw 722 rfl rfl
theorem hd77 : (am_y 77).cls ≠ "java/lang/invoke/MethodHandle" ∧ (am_y 77).cls ≠ "java/lang/invoke/VarHandle" ∧ (parseMethodDescriptor (am_y 77).desc).map (fun d => d.parameters.length) = some 2 := by decide +kernel
set_option maxRecDepth 100000 in
theorem co78 : Cond.code (am_y 78) (am_cod 78) (am_mx 78) (am_rty 78) ∈ am_TW := am_tw 635 rfl rfl
theorem hd78 : (am_y 78).cls ≠ "java/lang/invoke/MethodHandle" ∧ (am_y 78).cls ≠ "java/lang/invoke/VarHandle" ∧ (parseMethodDescriptor (am_y 78).desc).map (fun d => d.parameters.length) = some 1 := by decide +kernel
set_option maxRecDepth 100000 in
theorem co79 : Cond.code (am_y 79) (am_cod 79) (am_mx 79) (am_rty 79) ∈ am_TW := am_tw 650 rfl rfl
theorem hd79 : (am_y 79).cls ≠ "java/lang/invoke/MethodHandle" ∧ (am_y 79).cls ≠ "java/lang/invoke/VarHandle" ∧ (parseMethodDescriptor (am_y 79).desc).map (fun d => d.parameters.length) = some 2 := by decide +kernel
set_option maxRecDepth 100000 in
theorem co80 : Cond.code (am_y 80) (am_cod 80) (am_mx 80) (am_rty 80) ∈ am_TW := am_tw 631 rfl rfl
theorem hd80 : (am_y 80).cls ≠ "java/lang/invoke/MethodHandle" ∧ (am_y 80).cls ≠ "java/lang/invoke/VarHandle" ∧ (parseMethodDescriptor (am_y 80).desc).map (fun d => d.parameters.length) = some 2 := by decide +kernel
set_option maxRecDepth 100000 in
theorem co81 : Cond.code (am_y 81) (am_cod 81) (am_mx 81) (am_rty 81) ∈ am_TW := am_tw 627 rfl rfl
theorem hd81 : (am_y 81).cls ≠ "java/lang/invoke/MethodHandle" ∧ (am_y 81).cls ≠ "java/lang/invoke/VarHandle" ∧ (parseMethodDescriptor (am_y 81).desc).map (fun d => d.parameters.length) = some 2 := by decide +kernel
set_option maxRecDepth 100000 in
theorem co82 : Cond.code (am_y 82) (am_cod 82) (am_mx 82) (am_rty 82) ∈ am_TW := am_tw 654 rfl rfl
theorem hd82 : (am_y 82).cls ≠ "java/lang/invoke/MethodHandle" ∧ (am_y 82).cls ≠ "java/lang/invoke/VarHandle" ∧ (parseMethodDescriptor (am_y 82).desc).map (fun d => d.parameters.length) = some 2 := by decide +kernel
set_option maxRecDepth 100000 in
theorem co83 : Cond.code (am_y 83) (am_cod 83) (am_mx 83) (am_rty 83) ∈ am_TW := am_tw 646 rfl rfl
theorem hd83 : (am_y 83).cls ≠ "java/lang/invoke/MethodHandle" ∧ (am_y 83).cls ≠ "java/lang/invoke/VarHandle" ∧ (parseMethodDescriptor (am_y 83).desc).map (fun d => d.parameters.length) = some 3 := by decide +kernel
set_option maxRecDepth 100000 in
theorem co84 : Cond.code (am_y 84) (am_cod 84) (am_mx 84) (am_rty 84) ∈ am_TW := am_tw 670 rfl rfl
theorem hd84 : (am_y 84).cls ≠ "java/lang/invoke/MethodHandle" ∧ (am_y 84).cls ≠ "java/lang/invoke/VarHandle" ∧ (parseMethodDescriptor (am_y 84).desc).map (fun d => d.parameters.length) = some 2 := by decide +kernel
set_option maxRecDepth 100000 in
theorem co85 : Cond.code (am_y 85) (am_cod 85) (am_mx 85) (am_rty 85) ∈ am_TW := am_tw 677 rfl rfl
theorem hd85 : (am_y 85).cls ≠ "java/lang/invoke/MethodHandle" ∧ (am_y 85).cls ≠ "java/lang/invoke/VarHandle" ∧ (parseMethodDescriptor (am_y 85).desc).map (fun d => d.parameters.length) = some 7 := by decide +kernel
set_option maxRecDepth 100000 in
theorem co86 : Cond.code (am_y 86) (am_cod 86) (am_mx 86) (am_rty 86) ∈ am_TW := am_tw 726 rfl rfl
theorem hd86 : (am_y 86).cls ≠ "java/lang/invoke/MethodHandle" ∧ (am_y 86).cls ≠ "java/lang/invoke/VarHandle" ∧ (parseMethodDescriptor (am_y 86).desc).map (fun d => d.parameters.length) = some 2 := by decide +kernel
set_option maxRecDepth 100000 in
theorem co87 : Cond.code (am_y 87) (am_cod 87) (am_mx 87) (am_rty 87) ∈ am_TW := am_tw 681 rfl rfl
theorem hd87 : (am_y 87).cls ≠ "java/lang/invoke/MethodHandle" ∧ (am_y 87).cls ≠ "java/lang/invoke/VarHandle" ∧ (parseMethodDescriptor (am_y 87).desc).map (fun d => d.parameters.length) = some 7 := by decide +kernel
set_option maxRecDepth 100000 in
theorem co88 : Cond.code (am_y 88) (am_cod 88) (am_mx 88) (am_rty 88) ∈ am_TW := am_tw 685 rfl rfl
theorem hd88 : (am_y 88).cls ≠ "java/lang/invoke/MethodHandle" ∧ (am_y 88).cls ≠ "java/lang/invoke/VarHandle" ∧ (parseMethodDescriptor (am_y 88).desc).map (fun d => d.parameters.length) = some 3 := by decide +kernel
set_option maxRecDepth 100000 in
theorem co89 : Cond.code (am_y 89) (am_cod 89) (am_mx 89) (am_rty 89) ∈ am_TW := am_tw 689 rfl rfl
theorem hd89 : (am_y 89).cls ≠ "java/lang/invoke/MethodHandle" ∧ (am_y 89).cls ≠ "java/lang/invoke/VarHandle" ∧ (parseMethodDescriptor (am_y 89).desc).map (fun d => d.parameters.length) = some 3 := by decide +kernel
set_option maxRecDepth 100000 in
theorem co90 : Cond.code (am_y 90) (am_cod 90) (am_mx 90) (am_rty 90) ∈ am_TW := am_tw 693 rfl rfl
theorem hd90 : (am_y 90).cls ≠ "java/lang/invoke/MethodHandle" ∧ (am_y 90).cls ≠ "java/lang/invoke/VarHandle" ∧ (parseMethodDescriptor (am_y 90).desc).map (fun d => d.parameters.length) = some 3 := by decide +kernel
set_option maxRecDepth 100000 in
theorem co91 : Cond.code (am_y 91) (am_cod 91) (am_mx 91) (am_rty 91) ∈ am_TW := am_tw 701 rfl rfl
theorem hd91 : (am_y 91).cls ≠ "java/lang/invoke/MethodHandle" ∧ (am_y 91).cls ≠ "java/lang/invoke/VarHandle" ∧ (parseMethodDescriptor (am_y 91).desc).map (fun d => d.parameters.length) = some 2 := by decide +kernel
set_option maxRecDepth 100000 in
theorem co92 : Cond.code (am_y 92) (am_cod 92) (am_mx 92) (am_rty 92) ∈ am_TW := am_tw 697 rfl rfl
theorem hd92 : (am_y 92).cls ≠ "java/lang/invoke/MethodHandle" ∧ (am_y 92).cls ≠ "java/lang/invoke/VarHandle" ∧ (parseMethodDescriptor (am_y 92).desc).map (fun d => d.parameters.length) = some 1 := by decide +kernel
set_option maxRecDepth 100000 in
theorem co93 : Cond.code (am_y 93) (am_cod 93) (am_mx 93) (am_rty 93) ∈ am_TW := am_tw 621 rfl rfl
theorem hd93 : (am_y 93).cls ≠ "java/lang/invoke/MethodHandle" ∧ (am_y 93).cls ≠ "java/lang/invoke/VarHandle" ∧ (parseMethodDescriptor (am_y 93).desc).map (fun d => d.parameters.length) = some 2 := by decide +kernel
set_option maxRecDepth 100000 in
theorem co94 : Cond.code (am_y 94) (am_cod 94) (am_mx 94) (am_rty 94) ∈ am_TW := am_tw 614 rfl rfl
theorem hd94 : (am_y 94).cls ≠ "java/lang/invoke/MethodHandle" ∧ (am_y 94).cls ≠ "java/lang/invoke/VarHandle" ∧ (parseMethodDescriptor (am_y 94).desc).map (fun d => d.parameters.length) = some 1 := by decide +kernel
set_option maxRecDepth 100000 in
theorem co95 : Cond.code (am_y 95) (am_cod 95) (am_mx 95) (am_rty 95) ∈ am_TW := am_tw 639 rfl rfl
theorem hd95 : (am_y 95).cls ≠ "java/lang/invoke/MethodHandle" ∧ (am_y 95).cls ≠ "java/lang/invoke/VarHandle" ∧ (parseMethodDescriptor (am_y 95).desc).map (fun d => d.parameters.length) = some 2 := by decide +kernel
set_option maxRecDepth 100000 in
theorem co96 : Cond.code (am_y 96) (am_cod 96) (am_mx 96) (am_rty 96) ∈ am_TW := am_tw 658 rfl rfl
theorem hd96 : (am_y 96).cls ≠ "java/lang/invoke/MethodHandle" ∧ (am_y 96).cls ≠ "java/lang/invoke/VarHandle" ∧ (parseMethodDescriptor (am_y 96).desc).map (fun d => d.parameters.length) = some 1 := by decide +kernel
set_option maxRecDepth 100000 in
theorem co97 : Cond.code (am_y 97) (am_cod 97) (am_mx 97) (am_rty 97) ∈ am_TW := am_tw 662 rfl rfl
theorem hd97 : (am_y 97).cls ≠ "java/lang/invoke/MethodHandle" ∧ (am_y 97).cls ≠ "java/lang/invoke/VarHandle" ∧ (parseMethodDescriptor (am_y 97).desc).map (fun d => d.parameters.length) = some 3 := by decide +kernel
set_option maxRecDepth 100000 in
theorem co98 : Cond.code (am_y 98) (am_cod 98) (am_mx 98) (am_rty 98) ∈ am_TW := am_tw 666 rfl rfl
theorem hd98 : (am_y 98).cls ≠ "java/lang/invoke/MethodHandle" ∧ (am_y 98).cls ≠ "java/lang/invoke/VarHandle" ∧ (parseMethodDescriptor (am_y 98).desc).map (fun d => d.parameters.length) = some 1 := by decide +kernel
set_option maxRecDepth 100000 in
theorem co99 : Cond.code (am_y 99) (am_cod 99) (am_mx 99) (am_rty 99) ∈ am_TW := am_tw 708 rfl rfl
theorem hd99 : (am_y 99).cls ≠ "java/lang/invoke/MethodHandle" ∧ (am_y 99).cls ≠ "java/lang/invoke/VarHandle" ∧ (parseMethodDescriptor (am_y 99).desc).map (fun d => d.parameters.length) = some 1 := by decide +kernel
set_option maxRecDepth 100000 in
theorem co100 : Cond.code (am_y 100) (am_cod 100) (am_mx 100) (am_rty 100) ∈ am_TW := am_tw 712 rfl rfl
theorem hd100 : (am_y 100).cls ≠ "java/lang/invoke/MethodHandle" ∧ (am_y 100).cls ≠ "java/lang/invoke/VarHandle" ∧ (parseMethodDescriptor (am_y 100).desc).map (fun d => d.parameters.length) = some 1 := by decide +kernel
set_option maxRecDepth 100000 in
theorem co101 : Cond.code (am_y 101) (am_cod 101) (am_mx 101) (am_rty 101) ∈ am_TW := am_tw 719 rfl rfl
theorem hd101 : (am_y 101).cls ≠ "java/lang/invoke/MethodHandle" ∧ (am_y 101).cls ≠ "java/lang/invoke/VarHandle" ∧ (parseMethodDescriptor (am_y 101).desc).map (fun d => d.parameters.length) = some 2 := by decide +kernel
set_option maxRecDepth 100000 in
theorem co102 : Cond.code (am_y 102) (am_cod 102) (am_mx 102) (am_rty 102) ∈ am_TW := am_tw 733 rfl rfl
theorem hd102 : (am_y 102).cls ≠ "java/lang/invoke/MethodHandle" ∧ (am_y 102).cls ≠ "java/lang/invoke/VarHandle" ∧ (parseMethodDescriptor (am_y 102).desc).map (fun d => d.parameters.length) = some 1 := by decide +kernel
set_option maxRecDepth 100000 in
theorem co103 : Cond.code (am_y 103) (am_cod 103) (am_mx 103) (am_rty 103) ∈ am_TW := am_tw 730 rfl rfl
theorem hd103 : (am_y 103).cls ≠ "java/lang/invoke/MethodHandle" ∧ (am_y 103).cls ≠ "java/lang/invoke/VarHandle" ∧ (parseMethodDescriptor (am_y 103).desc).map (fun d => d.parameters.length) = some 2 := by decide +kernel
set_option maxRecDepth 100000 in
theorem co104 : Cond.code (am_y 104) (am_cod 104) (am_mx 104) (am_rty 104) ∈ am_TW := am_tw 741 rfl rfl
theorem hd104 : (am_y 104).cls ≠ "java/lang/invoke/MethodHandle" ∧ (am_y 104).cls ≠ "java/lang/invoke/VarHandle" ∧ (parseMethodDescriptor (am_y 104).desc).map (fun d => d.parameters.length) = some 2 := by decide +kernel
set_option maxRecDepth 100000 in
theorem co105 : Cond.code (am_y 105) (am_cod 105) (am_mx 105) (am_rty 105) ∈ am_TW := am_tw 737 rfl rfl
theorem hd105 : (am_y 105).cls ≠ "java/lang/invoke/MethodHandle" ∧ (am_y 105).cls ≠ "java/lang/invoke/VarHandle" ∧ (parseMethodDescriptor (am_y 105).desc).map (fun d => d.parameters.length) = some 2 := by decide +kernel
set_option maxRecDepth 100000 in
theorem co106 : Cond.code (am_y 106) (am_cod 106) (am_mx 106) (am_rty 106) ∈ am_TW := am_tw 745 rfl rfl
theorem hd106 : (am_y 106).cls ≠ "java/lang/invoke/MethodHandle" ∧ (am_y 106).cls ≠ "java/lang/invoke/VarHandle" ∧ (parseMethodDescriptor (am_y 106).desc).map (fun d => d.parameters.length) = some 2 := by decide +kernel
set_option maxRecDepth 100000 in
theorem co107 : Cond.code (am_y 107) (am_cod 107) (am_mx 107) (am_rty 107) ∈ am_TW := am_tw 749 rfl rfl
theorem hd107 : (am_y 107).cls ≠ "java/lang/invoke/MethodHandle" ∧ (am_y 107).cls ≠ "java/lang/invoke/VarHandle" ∧ (parseMethodDescriptor (am_y 107).desc).map (fun d => d.parameters.length) = some 2 := by decide +kernel
set_option maxRecDepth 100000 in
theorem co108 : Cond.code (am_y 108) (am_cod 108) (am_mx 108) (am_rty 108) ∈ am_TW := am_tw 753 rfl rfl
theorem hd108 : (am_y 108).cls ≠ "java/lang/invoke/MethodHandle" ∧ (am_y 108).cls ≠ "java/lang/invoke/VarHandle" ∧ (parseMethodDescriptor (am_y 108).desc).map (fun d => d.parameters.length) = some 3 := by decide +kernel
set_option maxRecDepth 100000 in
theorem co109 : Cond.code (am_y 109) (am_cod 109) (am_mx 109) (am_rty 109) ∈ am_TW := am_tw 757 rfl rfl
theorem hd109 : (am_y 109).cls ≠ "java/lang/invoke/MethodHandle" ∧ (am_y 109).cls ≠ "java/lang/invoke/VarHandle" ∧ (parseMethodDescriptor (am_y 109).desc).map (fun d => d.parameters.length) = some 3 := by decide +kernel
def am_NW : List Cond := [Cond.arrayOver (.object CN1), Cond.arrayOver (.object CN2), Cond.arrayOver (.object CN4), Cond.arrayOver (.object CN5), Cond.castable "[I" "java/lang/Cloneable", (Jvm.Cond.methodLinkNest "CausalPlaces$Client" (23 : Nat) ({ cls := "CausalPlaces$Writes", name := "<init>", desc := "()V" } : Jvm.MethodName) "CausalPlaces"), (Jvm.Cond.methodLinkNest "CausalPlaces" (35 : Nat) ({ cls := "CausalPlaces$Link", name := "<init>", desc := "()V" } : Jvm.MethodName) "CausalPlaces"), (Jvm.Cond.methodLinkNest "CausalPlaces$Server" (41 : Nat) ({ cls := "CausalPlaces", name := "numberOf", desc := "([II)I" } : Jvm.MethodName) "CausalPlaces"), (Jvm.Cond.methodLinkNest "CausalPlaces$Transaction" (64 : Nat) ({ cls := "CausalPlaces", name := "numberOf", desc := "([II)I" } : Jvm.MethodName) "CausalPlaces"), (Jvm.Cond.methodLinkNest "CausalPlaces$Writes" (19 : Nat) ({ cls := "CausalPlaces", name := "isKey", desc := "(I)Z" } : Jvm.MethodName) "CausalPlaces"), (Jvm.Cond.methodLinkNest "CausalPlaces$Client" (62 : Nat) ({ cls := "CausalPlaces", name := "isKey", desc := "(I)Z" } : Jvm.MethodName) "CausalPlaces"), (Jvm.Cond.methodLinkNest "CausalPlaces$Transaction" (41 : Nat) ({ cls := "CausalPlaces$Writes", name := "<init>", desc := "()V" } : Jvm.MethodName) "CausalPlaces"), (Jvm.Cond.methodLinkNest "CausalPlaces$Server" (37 : Nat) ({ cls := "CausalPlaces", name := "isKey", desc := "(I)Z" } : Jvm.MethodName) "CausalPlaces"), (Jvm.Cond.methodLinkNest "CausalPlaces$Server" (51 : Nat) ({ cls := "CausalPlaces", name := "isPlace", desc := "(I)Z" } : Jvm.MethodName) "CausalPlaces")]
theorem nwAO1 : Cond.arrayOver (.object CN1) ∈ am_NW := List.mem_of_getElem? (i := 0) rfl
theorem nwAO2 : Cond.arrayOver (.object CN2) ∈ am_NW := List.mem_of_getElem? (i := 1) rfl
theorem nwAO4 : Cond.arrayOver (.object CN4) ∈ am_NW := List.mem_of_getElem? (i := 2) rfl
theorem nwAO5 : Cond.arrayOver (.object CN5) ∈ am_NW := List.mem_of_getElem? (i := 3) rfl
theorem nwCA : Cond.castable "[I" "java/lang/Cloneable" ∈ am_NW := List.mem_of_getElem? (i := 4) rfl
theorem nw_29 : (Jvm.Cond.methodLinkNest "CausalPlaces$Client" (23 : Nat) ({ cls := "CausalPlaces$Writes", name := "<init>", desc := "()V" } : Jvm.MethodName) "CausalPlaces") ∈ am_NW := List.mem_of_getElem? (i := 5) rfl
theorem nw_121 : (Jvm.Cond.methodLinkNest "CausalPlaces" (35 : Nat) ({ cls := "CausalPlaces$Link", name := "<init>", desc := "()V" } : Jvm.MethodName) "CausalPlaces") ∈ am_NW := List.mem_of_getElem? (i := 6) rfl
theorem nw_177 : (Jvm.Cond.methodLinkNest "CausalPlaces$Server" (41 : Nat) ({ cls := "CausalPlaces", name := "numberOf", desc := "([II)I" } : Jvm.MethodName) "CausalPlaces") ∈ am_NW := List.mem_of_getElem? (i := 7) rfl
theorem nw_198 : (Jvm.Cond.methodLinkNest "CausalPlaces$Transaction" (64 : Nat) ({ cls := "CausalPlaces", name := "numberOf", desc := "([II)I" } : Jvm.MethodName) "CausalPlaces") ∈ am_NW := List.mem_of_getElem? (i := 8) rfl
theorem nw_214 : (Jvm.Cond.methodLinkNest "CausalPlaces$Writes" (19 : Nat) ({ cls := "CausalPlaces", name := "isKey", desc := "(I)Z" } : Jvm.MethodName) "CausalPlaces") ∈ am_NW := List.mem_of_getElem? (i := 9) rfl
theorem nw_228 : (Jvm.Cond.methodLinkNest "CausalPlaces$Client" (62 : Nat) ({ cls := "CausalPlaces", name := "isKey", desc := "(I)Z" } : Jvm.MethodName) "CausalPlaces") ∈ am_NW := List.mem_of_getElem? (i := 10) rfl
theorem nw_272 : (Jvm.Cond.methodLinkNest "CausalPlaces$Transaction" (41 : Nat) ({ cls := "CausalPlaces$Writes", name := "<init>", desc := "()V" } : Jvm.MethodName) "CausalPlaces") ∈ am_NW := List.mem_of_getElem? (i := 11) rfl
theorem nw_331 : (Jvm.Cond.methodLinkNest "CausalPlaces$Server" (37 : Nat) ({ cls := "CausalPlaces", name := "isKey", desc := "(I)Z" } : Jvm.MethodName) "CausalPlaces") ∈ am_NW := List.mem_of_getElem? (i := 12) rfl
theorem nw_437 : (Jvm.Cond.methodLinkNest "CausalPlaces$Server" (51 : Nat) ({ cls := "CausalPlaces", name := "isPlace", desc := "(I)Z" } : Jvm.MethodName) "CausalPlaces") ∈ am_NW := List.mem_of_getElem? (i := 13) rfl
theorem am_NW_same : ∀ w ∈ am_NW, ∀ (u U : State), u.vm = U.vm → va_Nw w u → va_Nw w U := by
  unfold am_NW
  exact List.forall_mem_cons.mpr ⟨fun u U e hZ => va_AO.moved (C := CN1) (e ▸ Vm.Alike.refl u.vm) hZ, List.forall_mem_cons.mpr ⟨fun u U e hZ => va_AO.moved (C := CN2) (e ▸ Vm.Alike.refl u.vm) hZ, List.forall_mem_cons.mpr ⟨fun u U e hZ => va_AO.moved (C := CN4) (e ▸ Vm.Alike.refl u.vm) hZ, List.forall_mem_cons.mpr ⟨fun u U e hZ => va_AO.moved (C := CN5) (e ▸ Vm.Alike.refl u.vm) hZ, List.forall_mem_cons.mpr ⟨fun u U e hZ => va_Nw.same rfl e hZ, List.forall_mem_cons.mpr ⟨fun u U e hZ => va_Nw.same rfl e hZ, List.forall_mem_cons.mpr ⟨fun u U e hZ => va_Nw.same rfl e hZ, List.forall_mem_cons.mpr ⟨fun u U e hZ => va_Nw.same rfl e hZ, List.forall_mem_cons.mpr ⟨fun u U e hZ => va_Nw.same rfl e hZ, List.forall_mem_cons.mpr ⟨fun u U e hZ => va_Nw.same rfl e hZ, List.forall_mem_cons.mpr ⟨fun u U e hZ => va_Nw.same rfl e hZ, List.forall_mem_cons.mpr ⟨fun u U e hZ => va_Nw.same rfl e hZ, List.forall_mem_cons.mpr ⟨fun u U e hZ => va_Nw.same rfl e hZ, List.forall_mem_cons.mpr ⟨fun u U e hZ => va_Nw.same rfl e hZ, fun _ h => absurd h List.not_mem_nil⟩⟩⟩⟩⟩⟩⟩⟩⟩⟩⟩⟩⟩⟩
theorem am_NW_of : ∀ w ∈ am_NW, ∀ (A : Array Value) (U : State), w.before A U = true → va_Nw w U := by
  unfold am_NW
  exact List.forall_mem_cons.mpr ⟨fun A U h => va_AO.of (C := CN1) h, List.forall_mem_cons.mpr ⟨fun A U h => va_AO.of (C := CN2) h, List.forall_mem_cons.mpr ⟨fun A U h => va_AO.of (C := CN4) h, List.forall_mem_cons.mpr ⟨fun A U h => va_AO.of (C := CN5) h, List.forall_mem_cons.mpr ⟨fun A U h => va_Nw.of rfl h, List.forall_mem_cons.mpr ⟨fun A U h => va_Nw.of rfl h, List.forall_mem_cons.mpr ⟨fun A U h => va_Nw.of rfl h, List.forall_mem_cons.mpr ⟨fun A U h => va_Nw.of rfl h, List.forall_mem_cons.mpr ⟨fun A U h => va_Nw.of rfl h, List.forall_mem_cons.mpr ⟨fun A U h => va_Nw.of rfl h, List.forall_mem_cons.mpr ⟨fun A U h => va_Nw.of rfl h, List.forall_mem_cons.mpr ⟨fun A U h => va_Nw.of rfl h, List.forall_mem_cons.mpr ⟨fun A U h => va_Nw.of rfl h, List.forall_mem_cons.mpr ⟨fun A U h => va_Nw.of rfl h, fun _ h => absurd h List.not_mem_nil⟩⟩⟩⟩⟩⟩⟩⟩⟩⟩⟩⟩⟩⟩
theorem am_NW_warm : ∀ w ∈ am_NW, ∀ (s U : State), s.WarmedH U.vm → va_Nw w s → va_Nw w U := by
  unfold am_NW
  exact List.forall_mem_cons.mpr ⟨fun s U hW hZ => va_AO.moved (C := CN1) hW.alike hZ, List.forall_mem_cons.mpr ⟨fun s U hW hZ => va_AO.moved (C := CN2) hW.alike hZ, List.forall_mem_cons.mpr ⟨fun s U hW hZ => va_AO.moved (C := CN4) hW.alike hZ, List.forall_mem_cons.mpr ⟨fun s U hW hZ => va_AO.moved (C := CN5) hW.alike hZ, List.forall_mem_cons.mpr ⟨fun s U hW hZ => va_Nw.warmC hW hZ, List.forall_mem_cons.mpr ⟨fun s U hW hZ => va_Nw.warmM hW hZ, List.forall_mem_cons.mpr ⟨fun s U hW hZ => va_Nw.warmM hW hZ, List.forall_mem_cons.mpr ⟨fun s U hW hZ => va_Nw.warmM hW hZ, List.forall_mem_cons.mpr ⟨fun s U hW hZ => va_Nw.warmM hW hZ, List.forall_mem_cons.mpr ⟨fun s U hW hZ => va_Nw.warmM hW hZ, List.forall_mem_cons.mpr ⟨fun s U hW hZ => va_Nw.warmM hW hZ, List.forall_mem_cons.mpr ⟨fun s U hW hZ => va_Nw.warmM hW hZ, List.forall_mem_cons.mpr ⟨fun s U hW hZ => va_Nw.warmM hW hZ, List.forall_mem_cons.mpr ⟨fun s U hW hZ => va_Nw.warmM hW hZ, fun _ h => absurd h List.not_mem_nil⟩⟩⟩⟩⟩⟩⟩⟩⟩⟩⟩⟩⟩⟩
theorem am_NW_in : ∀ w ∈ am_NW, w ∈ lw_tbl := by
  have h : am_NW.map some = [48, 145, 103, 55, 298, 58, 150, 206, 227, 243, 257, 301, 360, 466].map (fun i => lw_tbl[i]?) := by decide +kernel
  intro w hw
  have h1 : some w ∈ am_NW.map some := List.mem_map.mpr ⟨w, hw, rfl⟩
  rw [h] at h1
  obtain ⟨i, -, hi⟩ := List.mem_map.mp h1
  exact List.mem_of_getElem? hi
