def cR0 : String := "CutBlocks$Row"
def cT0 : u_T := fun k => match k with
  | 0 => ("CutBlocks$Row", "bytes", "[I", true)
  | 1 => ("CutBlocks$Row", "starts", "[I", true)
  | 2 => ("CutBlocks$Row", "sums", "[I", true)
  | 3 => ("CutBlocks$Row", "heads", "[I", true)
  | 4 => ("CutBlocks$Row", "nexts", "[I", true)
  | _ => ("CutBlocks$Row", "count", "I", false)
def cY0 : Nat → FieldType := fun k => match k with
  | 0 => .array .int
  | 1 => .array .int
  | 2 => .array .int
  | 3 => .array .int
  | 4 => .array .int
  | _ => .int
theorem cN0 : ∀ a, a < 6 → ∀ b, b < 6 → a ≠ b → (cT0 a).2.1 ≠ (cT0 b).2.1 := by decide +kernel
theorem cP0 : ∀ k, k < 6 → parseFieldDescriptor (cT0 k).2.2.1 = some (cY0 k) := by decide +kernel
def cR1 : String := "CutBlocks$Rules"
def cT1 : u_T := fun k => match k with
  | 0 => ("CutBlocks$Rules", "table", "[I", true)
  | 1 => ("CutBlocks$Rules", "mode", "I", false)
  | 2 => ("CutBlocks$Rules", "least", "I", false)
  | 3 => ("CutBlocks$Rules", "greatest", "I", false)
  | 4 => ("CutBlocks$Rules", "bits", "I", false)
  | 5 => ("CutBlocks$Rules", "level", "I", false)
  | _ => ("CutBlocks$Rules", "record", "I", false)
def cY1 : Nat → FieldType := fun k => match k with
  | 0 => .array .int
  | 1 => .int
  | 2 => .int
  | 3 => .int
  | 4 => .int
  | 5 => .int
  | _ => .int
theorem cN1 : ∀ a, a < 7 → ∀ b, b < 7 → a ≠ b → (cT1 a).2.1 ≠ (cT1 b).2.1 := by decide +kernel
theorem cP1 : ∀ k, k < 7 → parseFieldDescriptor (cT1 k).2.2.1 = some (cY1 k) := by decide +kernel
def cR2 : String := "CutBlocks$Snapshot"
def cT2 : u_T := fun k => match k with
  | 0 => ("CutBlocks$Snapshot", "numbers", "[I", true)
  | 1 => ("CutBlocks$Snapshot", "count", "I", false)
  | 2 => ("CutBlocks$Snapshot", "length", "I", false)
  | _ => ("CutBlocks$Snapshot", "there", "Z", false)
def cY2 : Nat → FieldType := fun k => match k with
  | 0 => .array .int
  | 1 => .int
  | 2 => .int
  | _ => .boolean
theorem cN2 : ∀ a, a < 4 → ∀ b, b < 4 → a ≠ b → (cT2 a).2.1 ≠ (cT2 b).2.1 := by decide +kernel
theorem cP2 : ∀ k, k < 4 → parseFieldDescriptor (cT2 k).2.2.1 = some (cY2 k) := by decide +kernel
def cR3 : String := "CutBlocks$Store"
def cT3 : u_T := fun k => match k with
  | 0 => ("CutBlocks$Store", "row", "LCutBlocks$Row;", true)
  | 1 => ("CutBlocks$Store", "places", "[I", true)
  | 2 => ("CutBlocks$Store", "newNumbers", "[I", true)
  | _ => ("CutBlocks$Store", "snapshots", "[LCutBlocks$Snapshot;", true)
def cY3 : Nat → FieldType := fun k => match k with
  | 0 => .object "CutBlocks$Row"
  | 1 => .array .int
  | 2 => .array .int
  | _ => .array (.object "CutBlocks$Snapshot")
theorem cN3 : ∀ a, a < 4 → ∀ b, b < 4 → a ≠ b → (cT3 a).2.1 ≠ (cT3 b).2.1 := by decide +kernel
theorem cP3 : ∀ k, k < 4 → parseFieldDescriptor (cT3 k).2.2.1 = some (cY3 k) := by decide +kernel
def cR4 : String := "CutBlocks$Text"
def cT4 : u_T := fun k => match k with
  | 0 => ("CutBlocks$Text", "row", "LCutBlocks$Row;", true)
  | 1 => ("CutBlocks$Text", "length", "I", false)
  | 2 => ("CutBlocks$Text", "cut", "Z", false)
  | _ => ("CutBlocks$Text", "indexed", "Z", false)
def cY4 : Nat → FieldType := fun k => match k with
  | 0 => .object "CutBlocks$Row"
  | 1 => .int
  | 2 => .boolean
  | _ => .boolean
theorem cN4 : ∀ a, a < 4 → ∀ b, b < 4 → a ≠ b → (cT4 a).2.1 ≠ (cT4 b).2.1 := by decide +kernel
theorem cP4 : ∀ k, k < 4 → parseFieldDescriptor (cT4 k).2.2.1 = some (cY4 k) := by decide +kernel
def cR5 : String := "CutBlocks"
def cT5 : u_T := fun k => match k with
  | 0 => ("CutBlocks", "rules", "LCutBlocks$Rules;", true)
  | 1 => ("CutBlocks", "texts", "[LCutBlocks$Text;", true)
  | _ => ("CutBlocks", "store", "LCutBlocks$Store;", true)
def cY5 : Nat → FieldType := fun k => match k with
  | 0 => .object "CutBlocks$Rules"
  | 1 => .array (.object "CutBlocks$Text")
  | _ => .object "CutBlocks$Store"
theorem cN5 : ∀ a, a < 3 → ∀ b, b < 3 → a ≠ b → (cT5 a).2.1 ≠ (cT5 b).2.1 := by decide +kernel
theorem cP5 : ∀ k, k < 3 → parseFieldDescriptor (cT5 k).2.2.1 = some (cY5 k) := by decide +kernel
def cR6 : String := "CutBlocksModel"
def cT6 : u_T := fun k => match k with
  | 0 => ("CutBlocksModel", "code", "I", false)
  | 1 => ("CutBlocksModel", "texts", "[I", true)
  | 2 => ("CutBlocksModel", "sizes", "[I", true)
  | 3 => ("CutBlocksModel", "table", "[I", true)
  | 4 => ("CutBlocksModel", "mode", "I", false)
  | 5 => ("CutBlocksModel", "least", "I", false)
  | 6 => ("CutBlocksModel", "greatest", "I", false)
  | 7 => ("CutBlocksModel", "bits", "I", false)
  | 8 => ("CutBlocksModel", "level", "I", false)
  | 9 => ("CutBlocksModel", "record", "I", false)
  | 10 => ("CutBlocksModel", "begins", "[I", true)
  | 11 => ("CutBlocksModel", "many", "I", false)
  | 12 => ("CutBlocksModel", "others", "[I", true)
  | 13 => ("CutBlocksModel", "otherMany", "I", false)
  | 14 => ("CutBlocksModel", "pool", "[I", true)
  | 15 => ("CutBlocksModel", "poolSize", "I", false)
  | 16 => ("CutBlocksModel", "keptMany", "I", false)
  | 17 => ("CutBlocksModel", "keptAt", "[I", true)
  | 18 => ("CutBlocksModel", "keptLong", "[I", true)
  | 19 => ("CutBlocksModel", "keptUses", "[I", true)
  | 20 => ("CutBlocksModel", "isThere", "[Z", true)
  | 21 => ("CutBlocksModel", "rowSize", "[I", true)
  | 22 => ("CutBlocksModel", "rows", "[I", true)
  | _ => ("CutBlocksModel", "keys", "[I", true)
def cY6 : Nat → FieldType := fun k => match k with
  | 0 => .int
  | 1 => .array .int
  | 2 => .array .int
  | 3 => .array .int
  | 4 => .int
  | 5 => .int
  | 6 => .int
  | 7 => .int
  | 8 => .int
  | 9 => .int
  | 10 => .array .int
  | 11 => .int
  | 12 => .array .int
  | 13 => .int
  | 14 => .array .int
  | 15 => .int
  | 16 => .int
  | 17 => .array .int
  | 18 => .array .int
  | 19 => .array .int
  | 20 => .array .boolean
  | 21 => .array .int
  | 22 => .array .int
  | _ => .array .int
theorem cN6 : ∀ a, a < 24 → ∀ b, b < 24 → a ≠ b → (cT6 a).2.1 ≠ (cT6 b).2.1 := by decide +kernel
theorem cP6 : ∀ k, k < 24 → parseFieldDescriptor (cT6 k).2.2.1 = some (cY6 k) := by decide +kernel
def vwCl : List vw_C := [(cR0, cT0, 6), (cR1, cT1, 7), (cR2, cT2, 4), (cR3, cT3, 4), (cR4, cT4, 4), (cR5, cT5, 3), (cR6, cT6, 24)]
def kv_flags : Nat → List Bool := fun k => match k with
  | 0 => [true, true, true, true, true, false]
  | 1 => [true, false, false, false, false, false, false]
  | 2 => [true, false, false, false]
  | 3 => [true, true, true, true]
  | 4 => [true, false, false, false]
  | 5 => [true, true, true]
  | 6 => [false, true, true, true, false, false, false, false, false, false, true, false, true, false, true, false, false, true, true, true, true, true, true, true]
  | _ => []
def kv_tys (cA : Nat → ClassId) : List (ClassId × FieldType) := [(cA 0, .int), (cA 1, .boolean), (cA 6, .object "CutBlocks$Text"), (cA 4, .object "CutBlocks$Snapshot")]
def kv_ao : List String := ["CutBlocks$Text", "CutBlocks$Snapshot"]
