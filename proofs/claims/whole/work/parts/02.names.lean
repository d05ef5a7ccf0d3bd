/-! names of the claim's classes and their fields (by program out of the claim's own listing) -/
def zCn_0 : String := "TurnedLand$Doubts"
def zT_0 : u_T := fun k => match k with
  | 0 => ("TurnedLand$Doubts", "joins", "I", false)
  | 1 => ("TurnedLand$Doubts", "facts", "I", false)
  | 2 => ("TurnedLand$Doubts", "factWalks", "[I", true)
  | 3 => ("TurnedLand$Doubts", "factOdds", "[I", true)
  | 4 => ("TurnedLand$Doubts", "agreeing", "I", false)
  | 5 => ("TurnedLand$Doubts", "turned", "[I", true)
  | 6 => ("TurnedLand$Doubts", "evens", "[I", true)
  | _ => ("TurnedLand$Doubts", "oddJoins", "[I", true)
def zTy_0 : Nat → FieldType := fun k => match k with
  | 0 => .int
  | 1 => .int
  | 2 => .array .int
  | 3 => .array .int
  | 4 => .int
  | 5 => .array .int
  | 6 => .array .int
  | _ => .array .int
theorem znm_0 : ∀ a, a < 8 → ∀ b, b < 8 → a ≠ b → (zT_0 a).2.1 ≠ (zT_0 b).2.1 := by decide +kernel
theorem zty_0 : ∀ k, k < 8 → parseFieldDescriptor (zT_0 k).2.2.1 = some (zTy_0 k) := by decide +kernel
theorem zow_0 : ∀ k, k < 8 → (zT_0 k).1 = zCn_0 := by decide +kernel
theorem zin_0 : ∀ k, k < 8 → u_lay zCn_0 zT_0 k ∈ zAll := fun k h => match k, h with
  | 0, _ => zAll_t 176 (by decide +kernel) (by decide +kernel)
  | 1, _ => zAll_t 178 (by decide +kernel) (by decide +kernel)
  | 2, _ => zAll_t 180 (by decide +kernel) (by decide +kernel)
  | 3, _ => zAll_t 182 (by decide +kernel) (by decide +kernel)
  | 4, _ => zAll_t 184 (by decide +kernel) (by decide +kernel)
  | 5, _ => zAll_t 186 (by decide +kernel) (by decide +kernel)
  | 6, _ => zAll_t 188 (by decide +kernel) (by decide +kernel)
  | 7, _ => zAll_t 190 (by decide +kernel) (by decide +kernel)
  | n + 8, h => absurd h (by omega)
def zCn_1 : String := "TurnedLand$Folk"
def zT_1 : u_T := fun k => match k with
  | 0 => ("TurnedLand$Folk", "people", "I", false)
  | 1 => ("TurnedLand$Folk", "places", "[I", true)
  | 2 => ("TurnedLand$Folk", "hours", "[I", true)
  | 3 => ("TurnedLand$Folk", "things", "I", false)
  | 4 => ("TurnedLand$Folk", "lies", "[I", true)
  | 5 => ("TurnedLand$Folk", "worths", "[I", true)
  | _ => ("TurnedLand$Folk", "alikes", "[I", true)
def zTy_1 : Nat → FieldType := fun k => match k with
  | 0 => .int
  | 1 => .array .int
  | 2 => .array .int
  | 3 => .int
  | 4 => .array .int
  | 5 => .array .int
  | _ => .array .int
theorem znm_1 : ∀ a, a < 7 → ∀ b, b < 7 → a ≠ b → (zT_1 a).2.1 ≠ (zT_1 b).2.1 := by decide +kernel
theorem zty_1 : ∀ k, k < 7 → parseFieldDescriptor (zT_1 k).2.2.1 = some (zTy_1 k) := by decide +kernel
theorem zow_1 : ∀ k, k < 7 → (zT_1 k).1 = zCn_1 := by decide +kernel
theorem zin_1 : ∀ k, k < 7 → u_lay zCn_1 zT_1 k ∈ zAll := fun k h => match k, h with
  | 0, _ => zAll_t 141 (by decide +kernel) (by decide +kernel)
  | 1, _ => zAll_t 143 (by decide +kernel) (by decide +kernel)
  | 2, _ => zAll_t 145 (by decide +kernel) (by decide +kernel)
  | 3, _ => zAll_t 147 (by decide +kernel) (by decide +kernel)
  | 4, _ => zAll_t 149 (by decide +kernel) (by decide +kernel)
  | 5, _ => zAll_t 151 (by decide +kernel) (by decide +kernel)
  | 6, _ => zAll_t 153 (by decide +kernel) (by decide +kernel)
  | n + 7, h => absurd h (by omega)
def zCn_2 : String := "TurnedLand$Ground"
def zT_2 : u_T := fun k => match k with
  | 0 => ("TurnedLand$Ground", "squares", "I", false)
  | 1 => ("TurnedLand$Ground", "costs", "[I", true)
  | 2 => ("TurnedLand$Ground", "joins", "I", false)
  | 3 => ("TurnedLand$Ground", "ends", "[I", true)
  | 4 => ("TurnedLand$Ground", "turned", "[I", true)
  | _ => ("TurnedLand$Ground", "joinAt", "[I", true)
def zTy_2 : Nat → FieldType := fun k => match k with
  | 0 => .int
  | 1 => .array .int
  | 2 => .int
  | 3 => .array .int
  | 4 => .array .int
  | _ => .array .int
theorem znm_2 : ∀ a, a < 6 → ∀ b, b < 6 → a ≠ b → (zT_2 a).2.1 ≠ (zT_2 b).2.1 := by decide +kernel
theorem zty_2 : ∀ k, k < 6 → parseFieldDescriptor (zT_2 k).2.2.1 = some (zTy_2 k) := by decide +kernel
theorem zow_2 : ∀ k, k < 6 → (zT_2 k).1 = zCn_2 := by decide +kernel
theorem zin_2 : ∀ k, k < 6 → u_lay zCn_2 zT_2 k ∈ zAll := fun k h => match k, h with
  | 0, _ => zAll_t 65 (by decide +kernel) (by decide +kernel)
  | 1, _ => zAll_t 67 (by decide +kernel) (by decide +kernel)
  | 2, _ => zAll_t 69 (by decide +kernel) (by decide +kernel)
  | 3, _ => zAll_t 71 (by decide +kernel) (by decide +kernel)
  | 4, _ => zAll_t 73 (by decide +kernel) (by decide +kernel)
  | 5, _ => zAll_t 75 (by decide +kernel) (by decide +kernel)
  | n + 6, h => absurd h (by omega)
def zCn_3 : String := "TurnedLand$Reader"
def zT_3 : u_T := fun k => match k with
  | 0 => ("TurnedLand$Reader", "operations", "[I", true)
  | 1 => ("TurnedLand$Reader", "operands", "[I", true)
  | 2 => ("TurnedLand$Reader", "size", "I", false)
  | 3 => ("TurnedLand$Reader", "at", "I", false)
  | 4 => ("TurnedLand$Reader", "bytes", "[I", true)
  | 5 => ("TurnedLand$Reader", "length", "I", false)
  | _ => ("TurnedLand$Reader", "use", "I", false)
def zTy_3 : Nat → FieldType := fun k => match k with
  | 0 => .array .int
  | 1 => .array .int
  | 2 => .int
  | 3 => .int
  | 4 => .array .int
  | 5 => .int
  | _ => .int
theorem znm_3 : ∀ a, a < 7 → ∀ b, b < 7 → a ≠ b → (zT_3 a).2.1 ≠ (zT_3 b).2.1 := by decide +kernel
theorem zty_3 : ∀ k, k < 7 → parseFieldDescriptor (zT_3 k).2.2.1 = some (zTy_3 k) := by decide +kernel
theorem zow_3 : ∀ k, k < 7 → (zT_3 k).1 = zCn_3 := by decide +kernel
theorem zin_3 : ∀ k, k < 7 → u_lay zCn_3 zT_3 k ∈ zAll := fun k h => match k, h with
  | 0, _ => zAll_t 340 (by decide +kernel) (by decide +kernel)
  | 1, _ => zAll_t 342 (by decide +kernel) (by decide +kernel)
  | 2, _ => zAll_t 344 (by decide +kernel) (by decide +kernel)
  | 3, _ => zAll_t 346 (by decide +kernel) (by decide +kernel)
  | 4, _ => zAll_t 348 (by decide +kernel) (by decide +kernel)
  | 5, _ => zAll_t 350 (by decide +kernel) (by decide +kernel)
  | 6, _ => zAll_t 352 (by decide +kernel) (by decide +kernel)
  | n + 7, h => absurd h (by omega)
def zCn_4 : String := "TurnedLand$Shape"
def zT_4 : u_T := fun k => match k with
  | 0 => ("TurnedLand$Shape", "labels", "[I", true)
  | _ => ("TurnedLand$Shape", "flips", "[I", true)
def zTy_4 : Nat → FieldType := fun k => match k with
  | 0 => .array .int
  | _ => .array .int
theorem znm_4 : ∀ a, a < 2 → ∀ b, b < 2 → a ≠ b → (zT_4 a).2.1 ≠ (zT_4 b).2.1 := by decide +kernel
theorem zty_4 : ∀ k, k < 2 → parseFieldDescriptor (zT_4 k).2.2.1 = some (zTy_4 k) := by decide +kernel
theorem zow_4 : ∀ k, k < 2 → (zT_4 k).1 = zCn_4 := by decide +kernel
theorem zin_4 : ∀ k, k < 2 → u_lay zCn_4 zT_4 k ∈ zAll := fun k h => match k, h with
  | 0, _ => zAll_t 279 (by decide +kernel) (by decide +kernel)
  | 1, _ => zAll_t 281 (by decide +kernel) (by decide +kernel)
  | n + 2, h => absurd h (by omega)
def zCn_5 : String := "TurnedLand$Text"
def zT_5 : u_T := fun k => match k with
  | 0 => ("TurnedLand$Text", "isThere", "Z", false)
  | 1 => ("TurnedLand$Text", "size", "I", false)
  | 2 => ("TurnedLand$Text", "operations", "[I", true)
  | 3 => ("TurnedLand$Text", "operands", "[I", true)
  | 4 => ("TurnedLand$Text", "stack", "[I", true)
  | _ => ("TurnedLand$Text", "names", "[I", true)
def zTy_5 : Nat → FieldType := fun k => match k with
  | 0 => .boolean
  | 1 => .int
  | 2 => .array .int
  | 3 => .array .int
  | 4 => .array .int
  | _ => .array .int
theorem znm_5 : ∀ a, a < 6 → ∀ b, b < 6 → a ≠ b → (zT_5 a).2.1 ≠ (zT_5 b).2.1 := by decide +kernel
theorem zty_5 : ∀ k, k < 6 → parseFieldDescriptor (zT_5 k).2.2.1 = some (zTy_5 k) := by decide +kernel
theorem zow_5 : ∀ k, k < 6 → (zT_5 k).1 = zCn_5 := by decide +kernel
theorem zin_5 : ∀ k, k < 6 → u_lay zCn_5 zT_5 k ∈ zAll := fun k h => match k, h with
  | 0, _ => zAll_t 207 (by decide +kernel) (by decide +kernel)
  | 1, _ => zAll_t 209 (by decide +kernel) (by decide +kernel)
  | 2, _ => zAll_t 211 (by decide +kernel) (by decide +kernel)
  | 3, _ => zAll_t 213 (by decide +kernel) (by decide +kernel)
  | 4, _ => zAll_t 215 (by decide +kernel) (by decide +kernel)
  | 5, _ => zAll_t 217 (by decide +kernel) (by decide +kernel)
  | n + 6, h => absurd h (by omega)
def zCn_6 : String := "TurnedLand$Voices"
def zT_6 : u_T := fun k => match k with
  | 0 => ("TurnedLand$Voices", "trace", "[I", true)
  | 1 => ("TurnedLand$Voices", "traced", "I", false)
  | 2 => ("TurnedLand$Voices", "parted", "Z", false)
  | 3 => ("TurnedLand$Voices", "kind", "I", false)
  | 4 => ("TurnedLand$Voices", "number", "I", false)
  | _ => ("TurnedLand$Voices", "steps", "I", false)
def zTy_6 : Nat → FieldType := fun k => match k with
  | 0 => .array .int
  | 1 => .int
  | 2 => .boolean
  | 3 => .int
  | 4 => .int
  | _ => .int
theorem znm_6 : ∀ a, a < 6 → ∀ b, b < 6 → a ≠ b → (zT_6 a).2.1 ≠ (zT_6 b).2.1 := by decide +kernel
theorem zty_6 : ∀ k, k < 6 → parseFieldDescriptor (zT_6 k).2.2.1 = some (zTy_6 k) := by decide +kernel
theorem zow_6 : ∀ k, k < 6 → (zT_6 k).1 = zCn_6 := by decide +kernel
theorem zin_6 : ∀ k, k < 6 → u_lay zCn_6 zT_6 k ∈ zAll := fun k h => match k, h with
  | 0, _ => zAll_t 370 (by decide +kernel) (by decide +kernel)
  | 1, _ => zAll_t 372 (by decide +kernel) (by decide +kernel)
  | 2, _ => zAll_t 374 (by decide +kernel) (by decide +kernel)
  | 3, _ => zAll_t 376 (by decide +kernel) (by decide +kernel)
  | 4, _ => zAll_t 378 (by decide +kernel) (by decide +kernel)
  | 5, _ => zAll_t 380 (by decide +kernel) (by decide +kernel)
  | n + 6, h => absurd h (by omega)
def zCn_7 : String := "TurnedLand$Walker"
def zT_7 : u_T := fun k => match k with
  | 0 => ("TurnedLand$Walker", "places", "[I", true)
  | _ => ("TurnedLand$Walker", "crossed", "I", false)
def zTy_7 : Nat → FieldType := fun k => match k with
  | 0 => .array .int
  | _ => .int
theorem znm_7 : ∀ a, a < 2 → ∀ b, b < 2 → a ≠ b → (zT_7 a).2.1 ≠ (zT_7 b).2.1 := by decide +kernel
theorem zty_7 : ∀ k, k < 2 → parseFieldDescriptor (zT_7 k).2.2.1 = some (zTy_7 k) := by decide +kernel
theorem zow_7 : ∀ k, k < 2 → (zT_7 k).1 = zCn_7 := by decide +kernel
theorem zin_7 : ∀ k, k < 2 → u_lay zCn_7 zT_7 k ∈ zAll := fun k h => match k, h with
  | 0, _ => zAll_t 318 (by decide +kernel) (by decide +kernel)
  | 1, _ => zAll_t 320 (by decide +kernel) (by decide +kernel)
  | n + 2, h => absurd h (by omega)
def zCn_8 : String := "TurnedLand$Walks"
def zT_8 : u_T := fun k => match k with
  | 0 => ("TurnedLand$Walks", "size", "I", false)
  | 1 => ("TurnedLand$Walks", "kinds", "[I", true)
  | 2 => ("TurnedLand$Walks", "begins", "[I", true)
  | 3 => ("TurnedLand$Walks", "steps", "[I", true)
  | 4 => ("TurnedLand$Walks", "marks", "[I", true)
  | _ => ("TurnedLand$Walks", "edges", "[[I", true)
def zTy_8 : Nat → FieldType := fun k => match k with
  | 0 => .int
  | 1 => .array .int
  | 2 => .array .int
  | 3 => .array .int
  | 4 => .array .int
  | _ => .array (.array .int)
theorem znm_8 : ∀ a, a < 6 → ∀ b, b < 6 → a ≠ b → (zT_8 a).2.1 ≠ (zT_8 b).2.1 := by decide +kernel
theorem zty_8 : ∀ k, k < 6 → parseFieldDescriptor (zT_8 k).2.2.1 = some (zTy_8 k) := by decide +kernel
theorem zow_8 : ∀ k, k < 6 → (zT_8 k).1 = zCn_8 := by decide +kernel
theorem zin_8 : ∀ k, k < 6 → u_lay zCn_8 zT_8 k ∈ zAll := fun k h => match k, h with
  | 0, _ => zAll_t 104 (by decide +kernel) (by decide +kernel)
  | 1, _ => zAll_t 106 (by decide +kernel) (by decide +kernel)
  | 2, _ => zAll_t 108 (by decide +kernel) (by decide +kernel)
  | 3, _ => zAll_t 110 (by decide +kernel) (by decide +kernel)
  | 4, _ => zAll_t 112 (by decide +kernel) (by decide +kernel)
  | 5, _ => zAll_t 114 (by decide +kernel) (by decide +kernel)
  | n + 6, h => absurd h (by omega)
def zCn_9 : String := "TurnedLand$Ways"
def zT_9 : u_T := fun k => match k with
  | 0 => ("TurnedLand$Ways", "least", "[I", true)
  | 1 => ("TurnedLand$Ways", "firsts", "[I", true)
  | 2 => ("TurnedLand$Ways", "comes", "[[I", true)
  | 3 => ("TurnedLand$Ways", "hours", "[[I", true)
  | _ => ("TurnedLand$Ways", "places", "I", false)
def zTy_9 : Nat → FieldType := fun k => match k with
  | 0 => .array .int
  | 1 => .array .int
  | 2 => .array (.array .int)
  | 3 => .array (.array .int)
  | _ => .int
theorem znm_9 : ∀ a, a < 5 → ∀ b, b < 5 → a ≠ b → (zT_9 a).2.1 ≠ (zT_9 b).2.1 := by decide +kernel
theorem zty_9 : ∀ k, k < 5 → parseFieldDescriptor (zT_9 k).2.2.1 = some (zTy_9 k) := by decide +kernel
theorem zow_9 : ∀ k, k < 5 → (zT_9 k).1 = zCn_9 := by decide +kernel
theorem zin_9 : ∀ k, k < 5 → u_lay zCn_9 zT_9 k ∈ zAll := fun k h => match k, h with
  | 0, _ => zAll_t 298 (by decide +kernel) (by decide +kernel)
  | 1, _ => zAll_t 300 (by decide +kernel) (by decide +kernel)
  | 2, _ => zAll_t 302 (by decide +kernel) (by decide +kernel)
  | 3, _ => zAll_t 304 (by decide +kernel) (by decide +kernel)
  | 4, _ => zAll_t 306 (by decide +kernel) (by decide +kernel)
  | n + 5, h => absurd h (by omega)
def zCn_10 : String := "TurnedLand$World"
def zT_10 : u_T := fun k => match k with
  | 0 => ("TurnedLand$World", "ground", "LTurnedLand$Ground;", true)
  | 1 => ("TurnedLand$World", "walks", "LTurnedLand$Walks;", true)
  | 2 => ("TurnedLand$World", "folk", "LTurnedLand$Folk;", true)
  | 3 => ("TurnedLand$World", "doubts", "LTurnedLand$Doubts;", true)
  | 4 => ("TurnedLand$World", "hoursText", "LTurnedLand$Text;", true)
  | 5 => ("TurnedLand$World", "priceText", "LTurnedLand$Text;", true)
  | 6 => ("TurnedLand$World", "tape", "[I", true)
  | 7 => ("TurnedLand$World", "taped", "I", false)
  | 8 => ("TurnedLand$World", "waiting", "[I", true)
  | 9 => ("TurnedLand$World", "waits", "I", false)
  | _ => ("TurnedLand$World", "drawn", "I", false)
def zTy_10 : Nat → FieldType := fun k => match k with
  | 0 => .object "TurnedLand$Ground"
  | 1 => .object "TurnedLand$Walks"
  | 2 => .object "TurnedLand$Folk"
  | 3 => .object "TurnedLand$Doubts"
  | 4 => .object "TurnedLand$Text"
  | 5 => .object "TurnedLand$Text"
  | 6 => .array .int
  | 7 => .int
  | 8 => .array .int
  | 9 => .int
  | _ => .int
theorem znm_10 : ∀ a, a < 11 → ∀ b, b < 11 → a ≠ b → (zT_10 a).2.1 ≠ (zT_10 b).2.1 := by decide +kernel
theorem zty_10 : ∀ k, k < 11 → parseFieldDescriptor (zT_10 k).2.2.1 = some (zTy_10 k) := by decide +kernel
theorem zow_10 : ∀ k, k < 11 → (zT_10 k).1 = zCn_10 := by decide +kernel
theorem zin_10 : ∀ k, k < 11 → u_lay zCn_10 zT_10 k ∈ zAll := fun k h => match k, h with
  | 0, _ => zAll_t 247 (by decide +kernel) (by decide +kernel)
  | 1, _ => zAll_t 249 (by decide +kernel) (by decide +kernel)
  | 2, _ => zAll_t 251 (by decide +kernel) (by decide +kernel)
  | 3, _ => zAll_t 253 (by decide +kernel) (by decide +kernel)
  | 4, _ => zAll_t 255 (by decide +kernel) (by decide +kernel)
  | 5, _ => zAll_t 257 (by decide +kernel) (by decide +kernel)
  | 6, _ => zAll_t 259 (by decide +kernel) (by decide +kernel)
  | 7, _ => zAll_t 261 (by decide +kernel) (by decide +kernel)
  | 8, _ => zAll_t 263 (by decide +kernel) (by decide +kernel)
  | 9, _ => zAll_t 265 (by decide +kernel) (by decide +kernel)
  | 10, _ => zAll_t 267 (by decide +kernel) (by decide +kernel)
  | n + 11, h => absurd h (by omega)
def zCn_11 : String := "TurnedLand"
def zT_11 : u_T := fun k => match k with
  | 0 => ("TurnedLand", "now", "LTurnedLand$World;", true)
  | 1 => ("TurnedLand", "kept", "LTurnedLand$World;", true)
  | 2 => ("TurnedLand", "images", "I", false)
  | 3 => ("TurnedLand", "refused", "[I", true)
  | 4 => ("TurnedLand", "sheetBits", "[I", true)
  | 5 => ("TurnedLand", "sheetSize", "[I", true)
  | 6 => ("TurnedLand", "sheetRow", "[[I", true)
  | 7 => ("TurnedLand", "shape", "LTurnedLand$Shape;", true)
  | 8 => ("TurnedLand", "ways", "LTurnedLand$Ways;", true)
  | 9 => ("TurnedLand", "otherWays", "LTurnedLand$Ways;", true)
  | 10 => ("TurnedLand", "walker", "LTurnedLand$Walker;", true)
  | 11 => ("TurnedLand", "reader", "LTurnedLand$Reader;", true)
  | _ => ("TurnedLand", "voices", "LTurnedLand$Voices;", true)
def zTy_11 : Nat → FieldType := fun k => match k with
  | 0 => .object "TurnedLand$World"
  | 1 => .object "TurnedLand$World"
  | 2 => .int
  | 3 => .array .int
  | 4 => .array .int
  | 5 => .array .int
  | 6 => .array (.array .int)
  | 7 => .object "TurnedLand$Shape"
  | 8 => .object "TurnedLand$Ways"
  | 9 => .object "TurnedLand$Ways"
  | 10 => .object "TurnedLand$Walker"
  | 11 => .object "TurnedLand$Reader"
  | _ => .object "TurnedLand$Voices"
theorem znm_11 : ∀ a, a < 13 → ∀ b, b < 13 → a ≠ b → (zT_11 a).2.1 ≠ (zT_11 b).2.1 := by decide +kernel
theorem zty_11 : ∀ k, k < 13 → parseFieldDescriptor (zT_11 k).2.2.1 = some (zTy_11 k) := by decide +kernel
theorem zow_11 : ∀ k, k < 13 → (zT_11 k).1 = zCn_11 := by decide +kernel
theorem zin_11 : ∀ k, k < 13 → u_lay zCn_11 zT_11 k ∈ zAll := fun k h => match k, h with
  | 0, _ => zAll_t 396 (by decide +kernel) (by decide +kernel)
  | 1, _ => zAll_t 398 (by decide +kernel) (by decide +kernel)
  | 2, _ => zAll_t 400 (by decide +kernel) (by decide +kernel)
  | 3, _ => zAll_t 402 (by decide +kernel) (by decide +kernel)
  | 4, _ => zAll_t 404 (by decide +kernel) (by decide +kernel)
  | 5, _ => zAll_t 406 (by decide +kernel) (by decide +kernel)
  | 6, _ => zAll_t 408 (by decide +kernel) (by decide +kernel)
  | 7, _ => zAll_t 410 (by decide +kernel) (by decide +kernel)
  | 8, _ => zAll_t 412 (by decide +kernel) (by decide +kernel)
  | 9, _ => zAll_t 414 (by decide +kernel) (by decide +kernel)
  | 10, _ => zAll_t 416 (by decide +kernel) (by decide +kernel)
  | 11, _ => zAll_t 418 (by decide +kernel) (by decide +kernel)
  | 12, _ => zAll_t 420 (by decide +kernel) (by decide +kernel)
  | n + 13, h => absurd h (by omega)
def zCn_12 : String := "TurnedLandModel"
def zT_12 : u_T := fun k => match k with
  | 0 => ("TurnedLandModel", "now", "[I", true)
  | 1 => ("TurnedLandModel", "kept", "[I", true)
  | 2 => ("TurnedLandModel", "images", "I", false)
  | 3 => ("TurnedLandModel", "errors", "[I", true)
  | 4 => ("TurnedLandModel", "corner", "[I", true)
  | 5 => ("TurnedLandModel", "NAMED", "[Ljava/lang/String;", true)
  | 6 => ("TurnedLandModel", "at", "I", false)
  | 7 => ("TurnedLandModel", "open", "I", false)
  | 8 => ("TurnedLandModel", "use", "I", false)
  | 9 => ("TurnedLandModel", "isWrong", "Z", false)
  | 10 => ("TurnedLandModel", "code", "[I", true)
  | 11 => ("TurnedLandModel", "coded", "I", false)
  | 12 => ("TurnedLandModel", "named", "[I", true)
  | 13 => ("TurnedLandModel", "pile", "[I", true)
  | 14 => ("TurnedLandModel", "place", "I", false)
  | 15 => ("TurnedLandModel", "hours", "I", false)
  | 16 => ("TurnedLandModel", "soon", "[I", true)
  | 17 => ("TurnedLandModel", "ends", "I", false)
  | 18 => ("TurnedLandModel", "took", "I", false)
  | 19 => ("TurnedLandModel", "turns", "I", false)
  | 20 => ("TurnedLandModel", "by", "I", false)
  | 21 => ("TurnedLandModel", "crossedMany", "I", false)
  | 22 => ("TurnedLandModel", "ways", "[I", true)
  | 23 => ("TurnedLandModel", "wayMany", "I", false)
  | 24 => ("TurnedLandModel", "trace", "[I", true)
  | 25 => ("TurnedLandModel", "traced", "I", false)
  | 26 => ("TurnedLandModel", "speaker", "I", false)
  | 27 => ("TurnedLandModel", "isParted", "Z", false)
  | 28 => ("TurnedLandModel", "widths", "[I", true)
  | 29 => ("TurnedLandModel", "sizes", "[I", true)
  | 30 => ("TurnedLandModel", "numbers", "[I", true)
  | _ => ("TurnedLandModel", "carried", "[I", true)
def zTy_12 : Nat → FieldType := fun k => match k with
  | 0 => .array .int
  | 1 => .array .int
  | 2 => .int
  | 3 => .array .int
  | 4 => .array .int
  | 5 => .array (.object "java/lang/String")
  | 6 => .int
  | 7 => .int
  | 8 => .int
  | 9 => .boolean
  | 10 => .array .int
  | 11 => .int
  | 12 => .array .int
  | 13 => .array .int
  | 14 => .int
  | 15 => .int
  | 16 => .array .int
  | 17 => .int
  | 18 => .int
  | 19 => .int
  | 20 => .int
  | 21 => .int
  | 22 => .array .int
  | 23 => .int
  | 24 => .array .int
  | 25 => .int
  | 26 => .int
  | 27 => .boolean
  | 28 => .array .int
  | 29 => .array .int
  | 30 => .array .int
  | _ => .array .int
theorem znm_12 : ∀ a, a < 32 → ∀ b, b < 32 → a ≠ b → (zT_12 a).2.1 ≠ (zT_12 b).2.1 := by decide +kernel
theorem zty_12 : ∀ k, k < 32 → parseFieldDescriptor (zT_12 k).2.2.1 = some (zTy_12 k) := by decide +kernel
theorem zow_12 : ∀ k, k < 32 → (zT_12 k).1 = zCn_12 := by decide +kernel
theorem zin_12 : ∀ k, k < 32 → u_lay zCn_12 zT_12 k ∈ zAll := fun k h => match k, h with
  | 0, _ => zAll_t 1066 (by decide +kernel) (by decide +kernel)
  | 1, _ => zAll_t 1068 (by decide +kernel) (by decide +kernel)
  | 2, _ => zAll_t 1070 (by decide +kernel) (by decide +kernel)
  | 3, _ => zAll_t 1072 (by decide +kernel) (by decide +kernel)
  | 4, _ => zAll_t 1074 (by decide +kernel) (by decide +kernel)
  | 5, _ => zAll_t 1076 (by decide +kernel) (by decide +kernel)
  | 6, _ => zAll_t 1078 (by decide +kernel) (by decide +kernel)
  | 7, _ => zAll_t 1080 (by decide +kernel) (by decide +kernel)
  | 8, _ => zAll_t 1082 (by decide +kernel) (by decide +kernel)
  | 9, _ => zAll_t 1084 (by decide +kernel) (by decide +kernel)
  | 10, _ => zAll_t 1086 (by decide +kernel) (by decide +kernel)
  | 11, _ => zAll_t 1088 (by decide +kernel) (by decide +kernel)
  | 12, _ => zAll_t 1090 (by decide +kernel) (by decide +kernel)
  | 13, _ => zAll_t 1092 (by decide +kernel) (by decide +kernel)
  | 14, _ => zAll_t 1094 (by decide +kernel) (by decide +kernel)
  | 15, _ => zAll_t 1096 (by decide +kernel) (by decide +kernel)
  | 16, _ => zAll_t 1098 (by decide +kernel) (by decide +kernel)
  | 17, _ => zAll_t 1100 (by decide +kernel) (by decide +kernel)
  | 18, _ => zAll_t 1102 (by decide +kernel) (by decide +kernel)
  | 19, _ => zAll_t 1104 (by decide +kernel) (by decide +kernel)
  | 20, _ => zAll_t 1106 (by decide +kernel) (by decide +kernel)
  | 21, _ => zAll_t 1108 (by decide +kernel) (by decide +kernel)
  | 22, _ => zAll_t 1110 (by decide +kernel) (by decide +kernel)
  | 23, _ => zAll_t 1112 (by decide +kernel) (by decide +kernel)
  | 24, _ => zAll_t 1114 (by decide +kernel) (by decide +kernel)
  | 25, _ => zAll_t 1116 (by decide +kernel) (by decide +kernel)
  | 26, _ => zAll_t 1118 (by decide +kernel) (by decide +kernel)
  | 27, _ => zAll_t 1120 (by decide +kernel) (by decide +kernel)
  | 28, _ => zAll_t 1122 (by decide +kernel) (by decide +kernel)
  | 29, _ => zAll_t 1124 (by decide +kernel) (by decide +kernel)
  | 30, _ => zAll_t 1126 (by decide +kernel) (by decide +kernel)
  | 31, _ => zAll_t 1128 (by decide +kernel) (by decide +kernel)
  | n + 32, h => absurd h (by omega)
def zCl : List vw_C := [(zCn_0, zT_0, 8), (zCn_1, zT_1, 7), (zCn_2, zT_2, 6), (zCn_3, zT_3, 7), (zCn_4, zT_4, 2), (zCn_5, zT_5, 6), (zCn_6, zT_6, 6), (zCn_7, zT_7, 2), (zCn_8, zT_8, 6), (zCn_9, zT_9, 5), (zCn_10, zT_10, 11), (zCn_11, zT_11, 13), (zCn_12, zT_12, 32)]
def zTy : Nat → Nat → FieldType := fun ci => match ci with
  | 0 => zTy_0
  | 1 => zTy_1
  | 2 => zTy_2
  | 3 => zTy_3
  | 4 => zTy_4
  | 5 => zTy_5
  | 6 => zTy_6
  | 7 => zTy_7
  | 8 => zTy_8
  | 9 => zTy_9
  | 10 => zTy_10
  | 11 => zTy_11
  | _ => zTy_12
theorem zCl_nm : ∀ (ci : Nat) (q : vw_C), zCl[ci]? = some q → ∀ a, a < q.2.2 → ∀ b, b < q.2.2 → a ≠ b → (q.2.1 a).2.1 ≠ (q.2.1 b).2.1
  | 0, q, h => by cases h; exact znm_0
  | 1, q, h => by cases h; exact znm_1
  | 2, q, h => by cases h; exact znm_2
  | 3, q, h => by cases h; exact znm_3
  | 4, q, h => by cases h; exact znm_4
  | 5, q, h => by cases h; exact znm_5
  | 6, q, h => by cases h; exact znm_6
  | 7, q, h => by cases h; exact znm_7
  | 8, q, h => by cases h; exact znm_8
  | 9, q, h => by cases h; exact znm_9
  | 10, q, h => by cases h; exact znm_10
  | 11, q, h => by cases h; exact znm_11
  | 12, q, h => by cases h; exact znm_12
  | n + 13, q, h => by simp [zCl] at h
theorem zCl_ty : ∀ (ci : Nat) (q : vw_C), zCl[ci]? = some q → ∀ k, k < q.2.2 → parseFieldDescriptor (q.2.1 k).2.2.1 = some (zTy ci k)
  | 0, q, h => by cases h; exact zty_0
  | 1, q, h => by cases h; exact zty_1
  | 2, q, h => by cases h; exact zty_2
  | 3, q, h => by cases h; exact zty_3
  | 4, q, h => by cases h; exact zty_4
  | 5, q, h => by cases h; exact zty_5
  | 6, q, h => by cases h; exact zty_6
  | 7, q, h => by cases h; exact zty_7
  | 8, q, h => by cases h; exact zty_8
  | 9, q, h => by cases h; exact zty_9
  | 10, q, h => by cases h; exact zty_10
  | 11, q, h => by cases h; exact zty_11
  | 12, q, h => by cases h; exact zty_12
  | n + 13, q, h => by simp [zCl] at h
theorem zCl_ow : ∀ (ci : Nat) (q : vw_C), zCl[ci]? = some q → ∀ k, k < q.2.2 → (q.2.1 k).1 = q.1
  | 0, q, h => by cases h; exact zow_0
  | 1, q, h => by cases h; exact zow_1
  | 2, q, h => by cases h; exact zow_2
  | 3, q, h => by cases h; exact zow_3
  | 4, q, h => by cases h; exact zow_4
  | 5, q, h => by cases h; exact zow_5
  | 6, q, h => by cases h; exact zow_6
  | 7, q, h => by cases h; exact zow_7
  | 8, q, h => by cases h; exact zow_8
  | 9, q, h => by cases h; exact zow_9
  | 10, q, h => by cases h; exact zow_10
  | 11, q, h => by cases h; exact zow_11
  | 12, q, h => by cases h; exact zow_12
  | n + 13, q, h => by simp [zCl] at h
theorem zCl_in0 : ∀ (ci : Nat) (q : vw_C), zCl[ci]? = some q → ∀ k, k < q.2.2 → u_lay q.1 q.2.1 k ∈ zAll
  | 0, q, h => by cases h; exact zin_0
  | 1, q, h => by cases h; exact zin_1
  | 2, q, h => by cases h; exact zin_2
  | 3, q, h => by cases h; exact zin_3
  | 4, q, h => by cases h; exact zin_4
  | 5, q, h => by cases h; exact zin_5
  | 6, q, h => by cases h; exact zin_6
  | 7, q, h => by cases h; exact zin_7
  | 8, q, h => by cases h; exact zin_8
  | 9, q, h => by cases h; exact zin_9
  | 10, q, h => by cases h; exact zin_10
  | 11, q, h => by cases h; exact zin_11
  | 12, q, h => by cases h; exact zin_12
  | n + 13, q, h => by simp [zCl] at h
theorem zCl_in {ci : Nat} {q : vw_C} (h : zCl[ci]? = some q) : ∀ w ∈ u_ws q.1 q.2.1 q.2.2, w ∈ zAll := by
  intro w hw
  obtain ⟨k, hk, rfl⟩ := List.mem_map.mp hw
  exact zCl_in0 ci q h k (List.mem_range.mp hk)
