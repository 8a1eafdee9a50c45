def RX0 : String := "ChainHouse$Assembler"
def TX0 : u_T := fun k => match k with
  | 0 => ("ChainHouse$Assembler", "fault", "I", false)
  | 1 => ("ChainHouse$Assembler", "place", "I", false)
  | 2 => ("ChainHouse$Assembler", "scope", "LChainHouse$Scope;", true)
  | 3 => ("ChainHouse$Assembler", "current", "I", false)
  | 4 => ("ChainHouse$Assembler", "shorts", "Z", false)
  | 5 => ("ChainHouse$Assembler", "shrinks", "Z", false)
  | 6 => ("ChainHouse$Assembler", "pushed", "[I", true)
  | 7 => ("ChainHouse$Assembler", "pushCount", "I", false)
  | 8 => ("ChainHouse$Assembler", "kind", "I", false)
  | 9 => ("ChainHouse$Assembler", "other", "I", false)
  | 10 => ("ChainHouse$Assembler", "d", "I", false)
  | 11 => ("ChainHouse$Assembler", "a", "I", false)
  | 12 => ("ChainHouse$Assembler", "b", "I", false)
  | 13 => ("ChainHouse$Assembler", "i", "I", false)
  | 14 => ("ChainHouse$Assembler", "mark", "I", false)
  | 15 => ("ChainHouse$Assembler", "symbol", "I", false)
  | _ => ("ChainHouse$Assembler", "number", "I", false)
def tyX0 : Nat → FieldType := fun k => match k with
  | 0 => .int
  | 1 => .int
  | 2 => .object "ChainHouse$Scope"
  | 3 => .int
  | 4 => .boolean
  | 5 => .boolean
  | 6 => .array .int
  | 7 => .int
  | 8 => .int
  | 9 => .int
  | 10 => .int
  | 11 => .int
  | 12 => .int
  | 13 => .int
  | 14 => .int
  | 15 => .int
  | _ => .int
theorem nmX0 : ∀ a, a < 17 → ∀ b, b < 17 → a ≠ b → (TX0 a).2.1 ≠ (TX0 b).2.1 := by decide +kernel
theorem tyX0_ok : ∀ k, k < 17 → parseFieldDescriptor (TX0 k).2.2.1 = some (tyX0 k) := by decide +kernel
def RX1 : String := "ChainHouse$Bytes"
def TX1 : u_T := fun k => match k with
  | 0 => ("ChainHouse$Bytes", "row", "[B", true)
  | _ => ("ChainHouse$Bytes", "count", "I", false)
def tyX1 : Nat → FieldType := fun k => match k with
  | 0 => .array .byte
  | _ => .int
theorem nmX1 : ∀ a, a < 2 → ∀ b, b < 2 → a ≠ b → (TX1 a).2.1 ≠ (TX1 b).2.1 := by decide +kernel
theorem tyX1_ok : ∀ k, k < 2 → parseFieldDescriptor (TX1 k).2.2.1 = some (tyX1 k) := by decide +kernel
def RX2 : String := "ChainHouse$Contents"
def TX2 : u_T := fun k => match k with
  | 0 => ("ChainHouse$Contents", "bytes", "[LChainHouse$Bytes;", true)
  | 1 => ("ChainHouse$Contents", "bss", "I", false)
  | 2 => ("ChainHouse$Contents", "alignment", "[I", true)
  | 3 => ("ChainHouse$Contents", "starts", "[I", true)
  | 4 => ("ChainHouse$Contents", "startCount", "I", false)
  | 5 => ("ChainHouse$Contents", "names", "[[J", true)
  | 6 => ("ChainHouse$Contents", "symbols", "[[I", true)
  | 7 => ("ChainHouse$Contents", "symbolCount", "I", false)
  | 8 => ("ChainHouse$Contents", "relocations", "[[I", true)
  | _ => ("ChainHouse$Contents", "relocationCount", "I", false)
def tyX2 : Nat → FieldType := fun k => match k with
  | 0 => .array (.object "ChainHouse$Bytes")
  | 1 => .int
  | 2 => .array .int
  | 3 => .array .int
  | 4 => .int
  | 5 => .array (.array .long)
  | 6 => .array (.array .int)
  | 7 => .int
  | 8 => .array (.array .int)
  | _ => .int
theorem nmX2 : ∀ a, a < 10 → ∀ b, b < 10 → a ≠ b → (TX2 a).2.1 ≠ (TX2 b).2.1 := by decide +kernel
theorem tyX2_ok : ∀ k, k < 10 → parseFieldDescriptor (TX2 k).2.2.1 = some (tyX2 k) := by decide +kernel
def RX3 : String := "ChainHouse$Globals"
def TX3 : u_T := fun k => match k with
  | 0 => ("ChainHouse$Globals", "names", "[[J", true)
  | 1 => ("ChainHouse$Globals", "rows", "[[I", true)
  | 2 => ("ChainHouse$Globals", "of", "[[I", true)
  | _ => ("ChainHouse$Globals", "count", "I", false)
def tyX3 : Nat → FieldType := fun k => match k with
  | 0 => .array (.array .long)
  | 1 => .array (.array .int)
  | 2 => .array (.array .int)
  | _ => .int
theorem nmX3 : ∀ a, a < 4 → ∀ b, b < 4 → a ≠ b → (TX3 a).2.1 ≠ (TX3 b).2.1 := by decide +kernel
theorem tyX3_ok : ∀ k, k < 4 → parseFieldDescriptor (TX3 k).2.2.1 = some (tyX3 k) := by decide +kernel
def RX4 : String := "ChainHouse$Image"
def TX4 : u_T := fun k => match k with
  | 0 => ("ChainHouse$Image", "isThere", "[Z", true)
  | 1 => ("ChainHouse$Image", "address", "[I", true)
  | 2 => ("ChainHouse$Image", "bytes", "[LChainHouse$Bytes;", true)
  | 3 => ("ChainHouse$Image", "more", "[I", true)
  | 4 => ("ChainHouse$Image", "marks", "[Z", true)
  | 5 => ("ChainHouse$Image", "entry", "I", false)
  | 6 => ("ChainHouse$Image", "fault", "I", false)
  | 7 => ("ChainHouse$Image", "place", "I", false)
  | 8 => ("ChainHouse$Image", "bad", "I", false)
  | 9 => ("ChainHouse$Image", "file", "LChainHouse$Bytes;", false)
  | 10 => ("ChainHouse$Image", "rowOf", "[I", true)
  | 11 => ("ChainHouse$Image", "table", "I", false)
  | _ => ("ChainHouse$Image", "rows", "I", false)
def tyX4 : Nat → FieldType := fun k => match k with
  | 0 => .array .boolean
  | 1 => .array .int
  | 2 => .array (.object "ChainHouse$Bytes")
  | 3 => .array .int
  | 4 => .array .boolean
  | 5 => .int
  | 6 => .int
  | 7 => .int
  | 8 => .int
  | 9 => .object "ChainHouse$Bytes"
  | 10 => .array .int
  | 11 => .int
  | _ => .int
theorem nmX4 : ∀ a, a < 13 → ∀ b, b < 13 → a ≠ b → (TX4 a).2.1 ≠ (TX4 b).2.1 := by decide +kernel
theorem tyX4_ok : ∀ k, k < 13 → parseFieldDescriptor (TX4 k).2.2.1 = some (tyX4 k) := by decide +kernel
def RX5 : String := "ChainHouse$Layout"
def TX5 : u_T := fun k => match k with
  | 0 => ("ChainHouse$Layout", "parts", "[[I", true)
  | 1 => ("ChainHouse$Layout", "partCount", "I", false)
  | 2 => ("ChainHouse$Layout", "pieces", "[[I", true)
  | 3 => ("ChainHouse$Layout", "pieceCount", "I", false)
  | 4 => ("ChainHouse$Layout", "labels", "[[I", true)
  | 5 => ("ChainHouse$Layout", "labelCount", "I", false)
  | 6 => ("ChainHouse$Layout", "begins", "[I", true)
  | _ => ("ChainHouse$Layout", "ends", "[I", true)
def tyX5 : Nat → FieldType := fun k => match k with
  | 0 => .array (.array .int)
  | 1 => .int
  | 2 => .array (.array .int)
  | 3 => .int
  | 4 => .array (.array .int)
  | 5 => .int
  | 6 => .array .int
  | _ => .array .int
theorem nmX5 : ∀ a, a < 8 → ∀ b, b < 8 → a ≠ b → (TX5 a).2.1 ≠ (TX5 b).2.1 := by decide +kernel
theorem tyX5_ok : ∀ k, k < 8 → parseFieldDescriptor (TX5 k).2.2.1 = some (tyX5 k) := by decide +kernel
def RX6 : String := "ChainHouse$Linker"
def TX6 : u_T := fun k => match k with
  | 0 => ("ChainHouse$Linker", "fault", "I", false)
  | 1 => ("ChainHouse$Linker", "unit", "I", false)
  | 2 => ("ChainHouse$Linker", "number", "I", false)
  | 3 => ("ChainHouse$Linker", "fixed", "I", false)
  | 4 => ("ChainHouse$Linker", "saved", "I", false)
  | 5 => ("ChainHouse$Linker", "objects", "[LChainHouse$Contents;", true)
  | 6 => ("ChainHouse$Linker", "units", "[I", true)
  | 7 => ("ChainHouse$Linker", "unitCount", "I", false)
  | 8 => ("ChainHouse$Linker", "shrinks", "Z", false)
  | 9 => ("ChainHouse$Linker", "globals", "LChainHouse$Globals;", false)
  | 10 => ("ChainHouse$Linker", "known", "LChainHouse$Globals;", false)
  | 11 => ("ChainHouse$Linker", "layout", "LChainHouse$Layout;", true)
  | 12 => ("ChainHouse$Linker", "image", "LChainHouse$Image;", true)
  | 13 => ("ChainHouse$Linker", "word", "LChainHouse$Word;", true)
  | 14 => ("ChainHouse$Linker", "own", "[[I", true)
  | 15 => ("ChainHouse$Linker", "eased", "[[I", true)
  | 16 => ("ChainHouse$Linker", "labels", "[[I", true)
  | 17 => ("ChainHouse$Linker", "spots", "[[I", true)
  | _ => ("ChainHouse$Linker", "order", "[I", true)
def tyX6 : Nat → FieldType := fun k => match k with
  | 0 => .int
  | 1 => .int
  | 2 => .int
  | 3 => .int
  | 4 => .int
  | 5 => .array (.object "ChainHouse$Contents")
  | 6 => .array .int
  | 7 => .int
  | 8 => .boolean
  | 9 => .object "ChainHouse$Globals"
  | 10 => .object "ChainHouse$Globals"
  | 11 => .object "ChainHouse$Layout"
  | 12 => .object "ChainHouse$Image"
  | 13 => .object "ChainHouse$Word"
  | 14 => .array (.array .int)
  | 15 => .array (.array .int)
  | 16 => .array (.array .int)
  | 17 => .array (.array .int)
  | _ => .array .int
theorem nmX6 : ∀ a, a < 19 → ∀ b, b < 19 → a ≠ b → (TX6 a).2.1 ≠ (TX6 b).2.1 := by decide +kernel
theorem tyX6_ok : ∀ k, k < 19 → parseFieldDescriptor (TX6 k).2.2.1 = some (tyX6 k) := by decide +kernel
def RX7 : String := "ChainHouse$Machine"
def TX7 : u_T := fun k => match k with
  | 0 => ("ChainHouse$Machine", "memory", "[I", true)
  | 1 => ("ChainHouse$Machine", "registers", "[I", true)
  | 2 => ("ChainHouse$Machine", "output", "LChainHouse$Bytes;", true)
  | 3 => ("ChainHouse$Machine", "state", "I", false)
  | 4 => ("ChainHouse$Machine", "culprit", "I", false)
  | 5 => ("ChainHouse$Machine", "value", "I", false)
  | 6 => ("ChainHouse$Machine", "steps", "I", false)
  | 7 => ("ChainHouse$Machine", "units", "I", false)
  | 8 => ("ChainHouse$Machine", "begins", "[I", true)
  | 9 => ("ChainHouse$Machine", "extents", "[I", true)
  | 10 => ("ChainHouse$Machine", "marking", "Z", false)
  | 11 => ("ChainHouse$Machine", "marks", "[Z", true)
  | 12 => ("ChainHouse$Machine", "halts", "[I", true)
  | 13 => ("ChainHouse$Machine", "haltCount", "I", false)
  | 14 => ("ChainHouse$Machine", "input", "LChainHouse$Bytes;", true)
  | 15 => ("ChainHouse$Machine", "taken", "I", false)
  | 16 => ("ChainHouse$Machine", "kept", "[[I", true)
  | 17 => ("ChainHouse$Machine", "keptCount", "I", false)
  | _ => ("ChainHouse$Machine", "word", "LChainHouse$Word;", true)
def tyX7 : Nat → FieldType := fun k => match k with
  | 0 => .array .int
  | 1 => .array .int
  | 2 => .object "ChainHouse$Bytes"
  | 3 => .int
  | 4 => .int
  | 5 => .int
  | 6 => .int
  | 7 => .int
  | 8 => .array .int
  | 9 => .array .int
  | 10 => .boolean
  | 11 => .array .boolean
  | 12 => .array .int
  | 13 => .int
  | 14 => .object "ChainHouse$Bytes"
  | 15 => .int
  | 16 => .array (.array .int)
  | 17 => .int
  | _ => .object "ChainHouse$Word"
theorem nmX7 : ∀ a, a < 19 → ∀ b, b < 19 → a ≠ b → (TX7 a).2.1 ≠ (TX7 b).2.1 := by decide +kernel
theorem tyX7_ok : ∀ k, k < 19 → parseFieldDescriptor (TX7 k).2.2.1 = some (tyX7 k) := by decide +kernel
def RX8 : String := "ChainHouse$ObjectFile"
def TX8 : u_T := fun k => match k with
  | 0 => ("ChainHouse$ObjectFile", "fault", "I", false)
  | 1 => ("ChainHouse$ObjectFile", "place", "I", false)
  | 2 => ("ChainHouse$ObjectFile", "contents", "LChainHouse$Contents;", false)
  | 3 => ("ChainHouse$ObjectFile", "file", "LChainHouse$Bytes;", false)
  | 4 => ("ChainHouse$ObjectFile", "strings", "LChainHouse$Bytes;", true)
  | 5 => ("ChainHouse$ObjectFile", "entryOf", "[I", true)
  | 6 => ("ChainHouse$ObjectFile", "begins", "[I", true)
  | 7 => ("ChainHouse$ObjectFile", "lengths", "[I", true)
  | 8 => ("ChainHouse$ObjectFile", "nameAt", "[I", true)
  | 9 => ("ChainHouse$ObjectFile", "partOf", "[I", true)
  | 10 => ("ChainHouse$ObjectFile", "entries", "I", false)
  | 11 => ("ChainHouse$ObjectFile", "table", "I", false)
  | 12 => ("ChainHouse$ObjectFile", "symbolCount", "I", false)
  | 13 => ("ChainHouse$ObjectFile", "order", "[I", true)
  | _ => ("ChainHouse$ObjectFile", "numberOf", "[I", true)
def tyX8 : Nat → FieldType := fun k => match k with
  | 0 => .int
  | 1 => .int
  | 2 => .object "ChainHouse$Contents"
  | 3 => .object "ChainHouse$Bytes"
  | 4 => .object "ChainHouse$Bytes"
  | 5 => .array .int
  | 6 => .array .int
  | 7 => .array .int
  | 8 => .array .int
  | 9 => .array .int
  | 10 => .int
  | 11 => .int
  | 12 => .int
  | 13 => .array .int
  | _ => .array .int
theorem nmX8 : ∀ a, a < 15 → ∀ b, b < 15 → a ≠ b → (TX8 a).2.1 ≠ (TX8 b).2.1 := by decide +kernel
theorem tyX8_ok : ∀ k, k < 15 → parseFieldDescriptor (TX8 k).2.2.1 = some (tyX8 k) := by decide +kernel
def RX9 : String := "ChainHouse$Scope"
def TX9 : u_T := fun k => match k with
  | 0 => ("ChainHouse$Scope", "source", "LChainHouse$Source;", true)
  | 1 => ("ChainHouse$Scope", "contents", "LChainHouse$Contents;", true)
  | 2 => ("ChainHouse$Scope", "fault", "I", false)
  | 3 => ("ChainHouse$Scope", "place", "I", false)
  | 4 => ("ChainHouse$Scope", "statementPlace", "I", false)
  | 5 => ("ChainHouse$Scope", "section", "I", false)
  | 6 => ("ChainHouse$Scope", "begin", "I", false)
  | 7 => ("ChainHouse$Scope", "here", "I", false)
  | 8 => ("ChainHouse$Scope", "symbolOf", "[I", true)
  | 9 => ("ChainHouse$Scope", "latest", "[I", true)
  | 10 => ("ChainHouse$Scope", "next", "[I", true)
  | 11 => ("ChainHouse$Scope", "nextPlace", "[I", true)
  | 12 => ("ChainHouse$Scope", "hidden", "I", false)
  | 13 => ("ChainHouse$Scope", "stack", "[[I", true)
  | 14 => ("ChainHouse$Scope", "top", "I", false)
  | _ => ("ChainHouse$Scope", "values", "[[I", true)
def tyX9 : Nat → FieldType := fun k => match k with
  | 0 => .object "ChainHouse$Source"
  | 1 => .object "ChainHouse$Contents"
  | 2 => .int
  | 3 => .int
  | 4 => .int
  | 5 => .int
  | 6 => .int
  | 7 => .int
  | 8 => .array .int
  | 9 => .array .int
  | 10 => .array .int
  | 11 => .array .int
  | 12 => .int
  | 13 => .array (.array .int)
  | 14 => .int
  | _ => .array (.array .int)
theorem nmX9 : ∀ a, a < 16 → ∀ b, b < 16 → a ≠ b → (TX9 a).2.1 ≠ (TX9 b).2.1 := by decide +kernel
theorem tyX9_ok : ∀ k, k < 16 → parseFieldDescriptor (TX9 k).2.2.1 = some (tyX9 k) := by decide +kernel
def RX10 : String := "ChainHouse$Source"
def TX10 : u_T := fun k => match k with
  | 0 => ("ChainHouse$Source", "names", "[[J", true)
  | 1 => ("ChainHouse$Source", "statements", "[[I", true)
  | 2 => ("ChainHouse$Source", "operands", "[[I", true)
  | 3 => ("ChainHouse$Source", "items", "[[I", true)
  | 4 => ("ChainHouse$Source", "nameCount", "I", false)
  | 5 => ("ChainHouse$Source", "statementCount", "I", false)
  | 6 => ("ChainHouse$Source", "operandCount", "I", false)
  | 7 => ("ChainHouse$Source", "fault", "I", false)
  | 8 => ("ChainHouse$Source", "place", "I", false)
  | 9 => ("ChainHouse$Source", "text", "LChainHouse$Bytes;", false)
  | 10 => ("ChainHouse$Source", "itemCount", "I", false)
  | 11 => ("ChainHouse$Source", "words", "[[I", true)
  | 12 => ("ChainHouse$Source", "wordCount", "I", false)
  | 13 => ("ChainHouse$Source", "at", "I", false)
  | 14 => ("ChainHouse$Source", "pending", "[I", true)
  | 15 => ("ChainHouse$Source", "pendingCount", "I", false)
  | 16 => ("ChainHouse$Source", "depth", "I", false)
  | _ => ("ChainHouse$Source", "counted", "I", false)
def tyX10 : Nat → FieldType := fun k => match k with
  | 0 => .array (.array .long)
  | 1 => .array (.array .int)
  | 2 => .array (.array .int)
  | 3 => .array (.array .int)
  | 4 => .int
  | 5 => .int
  | 6 => .int
  | 7 => .int
  | 8 => .int
  | 9 => .object "ChainHouse$Bytes"
  | 10 => .int
  | 11 => .array (.array .int)
  | 12 => .int
  | 13 => .int
  | 14 => .array .int
  | 15 => .int
  | 16 => .int
  | _ => .int
theorem nmX10 : ∀ a, a < 18 → ∀ b, b < 18 → a ≠ b → (TX10 a).2.1 ≠ (TX10 b).2.1 := by decide +kernel
theorem tyX10_ok : ∀ k, k < 18 → parseFieldDescriptor (TX10 k).2.2.1 = some (tyX10 k) := by decide +kernel
def RX11 : String := "ChainHouse$Word"
def TX11 : u_T := fun k => match k with
  | 0 => ("ChainHouse$Word", "kind", "I", false)
  | 1 => ("ChainHouse$Word", "d", "I", false)
  | 2 => ("ChainHouse$Word", "a", "I", false)
  | 3 => ("ChainHouse$Word", "b", "I", false)
  | _ => ("ChainHouse$Word", "i", "I", false)
def tyX11 : Nat → FieldType := fun k => match k with
  | 0 => .int
  | 1 => .int
  | 2 => .int
  | 3 => .int
  | _ => .int
theorem nmX11 : ∀ a, a < 5 → ∀ b, b < 5 → a ≠ b → (TX11 a).2.1 ≠ (TX11 b).2.1 := by decide +kernel
theorem tyX11_ok : ∀ k, k < 5 → parseFieldDescriptor (TX11 k).2.2.1 = some (tyX11 k) := by decide +kernel
def RX12 : String := "ChainHouse"
def TX12 : u_T := fun k => match k with
  | 0 => ("ChainHouse", "waiting", "[B", true)
  | 1 => ("ChainHouse", "text", "LChainHouse$Bytes;", true)
  | 2 => ("ChainHouse", "files", "[LChainHouse$Bytes;", true)
  | 3 => ("ChainHouse", "image", "LChainHouse$Bytes;", true)
  | 4 => ("ChainHouse", "scratch", "LChainHouse$Bytes;", true)
  | 5 => ("ChainHouse", "out", "LChainHouse$Bytes;", true)
  | 6 => ("ChainHouse", "assembler", "LChainHouse$Assembler;", true)
  | 7 => ("ChainHouse", "objectFile", "LChainHouse$ObjectFile;", true)
  | 8 => ("ChainHouse", "linker", "LChainHouse$Linker;", true)
  | 9 => ("ChainHouse", "loaded", "LChainHouse$Image;", true)
  | 10 => ("ChainHouse", "machine", "LChainHouse$Machine;", true)
  | 11 => ("ChainHouse", "checked", "LChainHouse$Contents;", false)
  | 12 => ("ChainHouse", "spare", "LChainHouse$Contents;", false)
  | 13 => ("ChainHouse", "checkPlace", "I", false)
  | _ => ("ChainHouse", "loadPlace", "I", false)
def tyX12 : Nat → FieldType := fun k => match k with
  | 0 => .array .byte
  | 1 => .object "ChainHouse$Bytes"
  | 2 => .array (.object "ChainHouse$Bytes")
  | 3 => .object "ChainHouse$Bytes"
  | 4 => .object "ChainHouse$Bytes"
  | 5 => .object "ChainHouse$Bytes"
  | 6 => .object "ChainHouse$Assembler"
  | 7 => .object "ChainHouse$ObjectFile"
  | 8 => .object "ChainHouse$Linker"
  | 9 => .object "ChainHouse$Image"
  | 10 => .object "ChainHouse$Machine"
  | 11 => .object "ChainHouse$Contents"
  | 12 => .object "ChainHouse$Contents"
  | 13 => .int
  | _ => .int
theorem nmX12 : ∀ a, a < 15 → ∀ b, b < 15 → a ≠ b → (TX12 a).2.1 ≠ (TX12 b).2.1 := by decide +kernel
theorem tyX12_ok : ∀ k, k < 15 → parseFieldDescriptor (TX12 k).2.2.1 = some (tyX12 k) := by decide +kernel
def RX13 : String := "ChainHouseModel$CodeWordsModel"
def TX13 : u_T := fun k => match k with
  | 0 => ("ChainHouseModel$CodeWordsModel", "thrown", "I", false)
  | 1 => ("ChainHouseModel$CodeWordsModel", "row", "[I", true)
  | 2 => ("ChainHouseModel$CodeWordsModel", "part", "[I", true)
  | 3 => ("ChainHouseModel$CodeWordsModel", "out", "[I", true)
  | 4 => ("ChainHouseModel$CodeWordsModel", "size", "I", false)
  | _ => ("ChainHouseModel$CodeWordsModel", "begun", "Z", false)
def tyX13 : Nat → FieldType := fun k => match k with
  | 0 => .int
  | 1 => .array .int
  | 2 => .array .int
  | 3 => .array .int
  | 4 => .int
  | _ => .boolean
theorem nmX13 : ∀ a, a < 6 → ∀ b, b < 6 → a ≠ b → (TX13 a).2.1 ≠ (TX13 b).2.1 := by decide +kernel
theorem tyX13_ok : ∀ k, k < 6 → parseFieldDescriptor (TX13 k).2.2.1 = some (tyX13 k) := by decide +kernel
def RX14 : String := "ChainHouseModel$ImageFileModel"
def TX14 : u_T := fun k => match k with
  | 0 => ("ChainHouseModel$ImageFileModel", "there", "[Z", true)
  | 1 => ("ChainHouseModel$ImageFileModel", "address", "[I", true)
  | 2 => ("ChainHouseModel$ImageFileModel", "more", "[I", true)
  | 3 => ("ChainHouseModel$ImageFileModel", "many", "[I", true)
  | 4 => ("ChainHouseModel$ImageFileModel", "bytes", "[I", true)
  | 5 => ("ChainHouseModel$ImageFileModel", "marks", "[Z", true)
  | 6 => ("ChainHouseModel$ImageFileModel", "entry", "[I", true)
  | 7 => ("ChainHouseModel$ImageFileModel", "page", "[I", true)
  | 8 => ("ChainHouseModel$ImageFileModel", "file", "[I", true)
  | 9 => ("ChainHouseModel$ImageFileModel", "filed", "I", false)
  | 10 => ("ChainHouseModel$ImageFileModel", "place", "I", false)
  | 11 => ("ChainHouseModel$ImageFileModel", "table", "I", false)
  | 12 => ("ChainHouseModel$ImageFileModel", "rows", "I", false)
  | 13 => ("ChainHouseModel$ImageFileModel", "rowOf", "[I", true)
  | 14 => ("ChainHouseModel$ImageFileModel", "begins", "[I", true)
  | _ => ("ChainHouseModel$ImageFileModel", "sum", "I", false)
def tyX14 : Nat → FieldType := fun k => match k with
  | 0 => .array .boolean
  | 1 => .array .int
  | 2 => .array .int
  | 3 => .array .int
  | 4 => .array .int
  | 5 => .array .boolean
  | 6 => .array .int
  | 7 => .array .int
  | 8 => .array .int
  | 9 => .int
  | 10 => .int
  | 11 => .int
  | 12 => .int
  | 13 => .array .int
  | 14 => .array .int
  | _ => .int
theorem nmX14 : ∀ a, a < 16 → ∀ b, b < 16 → a ≠ b → (TX14 a).2.1 ≠ (TX14 b).2.1 := by decide +kernel
theorem tyX14_ok : ∀ k, k < 16 → parseFieldDescriptor (TX14 k).2.2.1 = some (tyX14 k) := by decide +kernel
def RX15 : String := "ChainHouseModel$ObjectFileModel"
def TX15 : u_T := fun k => match k with
  | 0 => ("ChainHouseModel$ObjectFileModel", "bytes", "[I", true)
  | 1 => ("ChainHouseModel$ObjectFileModel", "sizes", "[I", true)
  | 2 => ("ChainHouseModel$ObjectFileModel", "aligns", "[I", true)
  | 3 => ("ChainHouseModel$ObjectFileModel", "starts", "[I", true)
  | 4 => ("ChainHouseModel$ObjectFileModel", "startMany", "[I", true)
  | 5 => ("ChainHouseModel$ObjectFileModel", "where", "[I", true)
  | 6 => ("ChainHouseModel$ObjectFileModel", "value", "[I", true)
  | 7 => ("ChainHouseModel$ObjectFileModel", "length", "[I", true)
  | 8 => ("ChainHouseModel$ObjectFileModel", "bind", "[I", true)
  | 9 => ("ChainHouseModel$ObjectFileModel", "sort", "[I", true)
  | 10 => ("ChainHouseModel$ObjectFileModel", "named", "[I", true)
  | 11 => ("ChainHouseModel$ObjectFileModel", "names", "[I", true)
  | 12 => ("ChainHouseModel$ObjectFileModel", "symbolMany", "[I", true)
  | 13 => ("ChainHouseModel$ObjectFileModel", "part", "[I", true)
  | 14 => ("ChainHouseModel$ObjectFileModel", "spot", "[I", true)
  | 15 => ("ChainHouseModel$ObjectFileModel", "kind", "[I", true)
  | 16 => ("ChainHouseModel$ObjectFileModel", "target", "[I", true)
  | 17 => ("ChainHouseModel$ObjectFileModel", "addend", "[I", true)
  | 18 => ("ChainHouseModel$ObjectFileModel", "relocationMany", "[I", true)
  | 19 => ("ChainHouseModel$ObjectFileModel", "draft", "[I", true)
  | 20 => ("ChainHouseModel$ObjectFileModel", "drafted", "I", false)
  | 21 => ("ChainHouseModel$ObjectFileModel", "file", "[I", true)
  | 22 => ("ChainHouseModel$ObjectFileModel", "filed", "I", false)
  | 23 => ("ChainHouseModel$ObjectFileModel", "place", "I", false)
  | 24 => ("ChainHouseModel$ObjectFileModel", "titles", "[I", true)
  | 25 => ("ChainHouseModel$ObjectFileModel", "titleAt", "[I", true)
  | 26 => ("ChainHouseModel$ObjectFileModel", "begins", "[I", true)
  | 27 => ("ChainHouseModel$ObjectFileModel", "many", "[I", true)
  | 28 => ("ChainHouseModel$ObjectFileModel", "entry", "[I", true)
  | 29 => ("ChainHouseModel$ObjectFileModel", "strings", "[I", true)
  | 30 => ("ChainHouseModel$ObjectFileModel", "stringMany", "I", false)
  | 31 => ("ChainHouseModel$ObjectFileModel", "word", "[I", true)
  | 32 => ("ChainHouseModel$ObjectFileModel", "wordMany", "I", false)
  | 33 => ("ChainHouseModel$ObjectFileModel", "stringAt", "[I", true)
  | 34 => ("ChainHouseModel$ObjectFileModel", "turn", "[I", true)
  | 35 => ("ChainHouseModel$ObjectFileModel", "titlePlace", "[I", true)
  | 36 => ("ChainHouseModel$ObjectFileModel", "headMany", "I", false)
  | 37 => ("ChainHouseModel$ObjectFileModel", "entryOf", "[I", true)
  | 38 => ("ChainHouseModel$ObjectFileModel", "nameOf", "[I", true)
  | 39 => ("ChainHouseModel$ObjectFileModel", "table", "I", false)
  | _ => ("ChainHouseModel$ObjectFileModel", "entries", "I", false)
def tyX15 : Nat → FieldType := fun k => match k with
  | 0 => .array .int
  | 1 => .array .int
  | 2 => .array .int
  | 3 => .array .int
  | 4 => .array .int
  | 5 => .array .int
  | 6 => .array .int
  | 7 => .array .int
  | 8 => .array .int
  | 9 => .array .int
  | 10 => .array .int
  | 11 => .array .int
  | 12 => .array .int
  | 13 => .array .int
  | 14 => .array .int
  | 15 => .array .int
  | 16 => .array .int
  | 17 => .array .int
  | 18 => .array .int
  | 19 => .array .int
  | 20 => .int
  | 21 => .array .int
  | 22 => .int
  | 23 => .int
  | 24 => .array .int
  | 25 => .array .int
  | 26 => .array .int
  | 27 => .array .int
  | 28 => .array .int
  | 29 => .array .int
  | 30 => .int
  | 31 => .array .int
  | 32 => .int
  | 33 => .array .int
  | 34 => .array .int
  | 35 => .array .int
  | 36 => .int
  | 37 => .array .int
  | 38 => .array .int
  | 39 => .int
  | _ => .int
theorem nmX15 : ∀ a, a < 41 → ∀ b, b < 41 → a ≠ b → (TX15 a).2.1 ≠ (TX15 b).2.1 := by decide +kernel
theorem tyX15_ok : ∀ k, k < 41 → parseFieldDescriptor (TX15 k).2.2.1 = some (tyX15 k) := by decide +kernel
def RX16 : String := "ChainHouseModel$ShrinkLayoutModel"
def TX16 : u_T := fun k => match k with
  | 0 => ("ChainHouseModel$ShrinkLayoutModel", "base", "I", false)
  | 1 => ("ChainHouseModel$ShrinkLayoutModel", "outputAlign", "[I", true)
  | 2 => ("ChainHouseModel$ShrinkLayoutModel", "outputBegin", "[I", true)
  | 3 => ("ChainHouseModel$ShrinkLayoutModel", "outputEnd", "[I", true)
  | 4 => ("ChainHouseModel$ShrinkLayoutModel", "parts", "I", false)
  | 5 => ("ChainHouseModel$ShrinkLayoutModel", "output", "[I", true)
  | 6 => ("ChainHouseModel$ShrinkLayoutModel", "align", "[I", true)
  | 7 => ("ChainHouseModel$ShrinkLayoutModel", "isRoot", "[Z", true)
  | 8 => ("ChainHouseModel$ShrinkLayoutModel", "gone", "[Z", true)
  | 9 => ("ChainHouseModel$ShrinkLayoutModel", "met", "[Z", true)
  | 10 => ("ChainHouseModel$ShrinkLayoutModel", "partBegin", "[I", true)
  | 11 => ("ChainHouseModel$ShrinkLayoutModel", "partEnd", "[I", true)
  | 12 => ("ChainHouseModel$ShrinkLayoutModel", "pieces", "I", false)
  | 13 => ("ChainHouseModel$ShrinkLayoutModel", "sort", "[I", true)
  | 14 => ("ChainHouseModel$ShrinkLayoutModel", "partOf", "[I", true)
  | 15 => ("ChainHouseModel$ShrinkLayoutModel", "size", "[I", true)
  | 16 => ("ChainHouseModel$ShrinkLayoutModel", "most", "[I", true)
  | 17 => ("ChainHouseModel$ShrinkLayoutModel", "power", "[I", true)
  | 18 => ("ChainHouseModel$ShrinkLayoutModel", "labelOf", "[I", true)
  | 19 => ("ChainHouseModel$ShrinkLayoutModel", "constant", "[I", true)
  | 20 => ("ChainHouseModel$ShrinkLayoutModel", "two", "[Z", true)
  | 21 => ("ChainHouseModel$ShrinkLayoutModel", "fixed", "[Z", true)
  | 22 => ("ChainHouseModel$ShrinkLayoutModel", "place", "[I", true)
  | 23 => ("ChainHouseModel$ShrinkLayoutModel", "lack", "[I", true)
  | 24 => ("ChainHouseModel$ShrinkLayoutModel", "least", "[I", true)
  | 25 => ("ChainHouseModel$ShrinkLayoutModel", "labels", "I", false)
  | 26 => ("ChainHouseModel$ShrinkLayoutModel", "pieceOf", "[I", true)
  | _ => ("ChainHouseModel$ShrinkLayoutModel", "spot", "[I", true)
def tyX16 : Nat → FieldType := fun k => match k with
  | 0 => .int
  | 1 => .array .int
  | 2 => .array .int
  | 3 => .array .int
  | 4 => .int
  | 5 => .array .int
  | 6 => .array .int
  | 7 => .array .boolean
  | 8 => .array .boolean
  | 9 => .array .boolean
  | 10 => .array .int
  | 11 => .array .int
  | 12 => .int
  | 13 => .array .int
  | 14 => .array .int
  | 15 => .array .int
  | 16 => .array .int
  | 17 => .array .int
  | 18 => .array .int
  | 19 => .array .int
  | 20 => .array .boolean
  | 21 => .array .boolean
  | 22 => .array .int
  | 23 => .array .int
  | 24 => .array .int
  | 25 => .int
  | 26 => .array .int
  | _ => .array .int
theorem nmX16 : ∀ a, a < 28 → ∀ b, b < 28 → a ≠ b → (TX16 a).2.1 ≠ (TX16 b).2.1 := by decide +kernel
theorem tyX16_ok : ∀ k, k < 28 → parseFieldDescriptor (TX16 k).2.2.1 = some (tyX16 k) := by decide +kernel
def RX17 : String := "ChainHouseModel$StepMachineModel"
def TX17 : u_T := fun k => match k with
  | 0 => ("ChainHouseModel$StepMachineModel", "row", "[I", true)
  | 1 => ("ChainHouseModel$StepMachineModel", "part", "[I", true)
  | 2 => ("ChainHouseModel$StepMachineModel", "memory", "[I", true)
  | 3 => ("ChainHouseModel$StepMachineModel", "marked", "[Z", true)
  | 4 => ("ChainHouseModel$StepMachineModel", "segmentFrom", "[I", true)
  | 5 => ("ChainHouseModel$StepMachineModel", "segmentSize", "[I", true)
  | 6 => ("ChainHouseModel$StepMachineModel", "segmentRights", "[I", true)
  | 7 => ("ChainHouseModel$StepMachineModel", "marking", "Z", false)
  | 8 => ("ChainHouseModel$StepMachineModel", "halts", "[I", true)
  | 9 => ("ChainHouseModel$StepMachineModel", "haltCount", "I", false)
  | 10 => ("ChainHouseModel$StepMachineModel", "register", "[I", true)
  | 11 => ("ChainHouseModel$StepMachineModel", "pc", "I", false)
  | 12 => ("ChainHouseModel$StepMachineModel", "input", "[I", true)
  | 13 => ("ChainHouseModel$StepMachineModel", "inputSize", "I", false)
  | 14 => ("ChainHouseModel$StepMachineModel", "taken", "I", false)
  | 15 => ("ChainHouseModel$StepMachineModel", "output", "[I", true)
  | 16 => ("ChainHouseModel$StepMachineModel", "outputSize", "I", false)
  | 17 => ("ChainHouseModel$StepMachineModel", "state", "I", false)
  | 18 => ("ChainHouseModel$StepMachineModel", "culprit", "I", false)
  | 19 => ("ChainHouseModel$StepMachineModel", "value", "I", false)
  | 20 => ("ChainHouseModel$StepMachineModel", "steps", "I", false)
  | 21 => ("ChainHouseModel$StepMachineModel", "units", "I", false)
  | 22 => ("ChainHouseModel$StepMachineModel", "kept", "[I", true)
  | 23 => ("ChainHouseModel$StepMachineModel", "keptCount", "I", false)
  | 24 => ("ChainHouseModel$StepMachineModel", "keptNext", "I", false)
  | 25 => ("ChainHouseModel$StepMachineModel", "bytes", "I", false)
  | 26 => ("ChainHouseModel$StepMachineModel", "kind", "I", false)
  | 27 => ("ChainHouseModel$StepMachineModel", "target", "I", false)
  | _ => ("ChainHouseModel$StepMachineModel", "jumps", "Z", false)
def tyX17 : Nat → FieldType := fun k => match k with
  | 0 => .array .int
  | 1 => .array .int
  | 2 => .array .int
  | 3 => .array .boolean
  | 4 => .array .int
  | 5 => .array .int
  | 6 => .array .int
  | 7 => .boolean
  | 8 => .array .int
  | 9 => .int
  | 10 => .array .int
  | 11 => .int
  | 12 => .array .int
  | 13 => .int
  | 14 => .int
  | 15 => .array .int
  | 16 => .int
  | 17 => .int
  | 18 => .int
  | 19 => .int
  | 20 => .int
  | 21 => .int
  | 22 => .array .int
  | 23 => .int
  | 24 => .int
  | 25 => .int
  | 26 => .int
  | 27 => .int
  | _ => .boolean
theorem nmX17 : ∀ a, a < 29 → ∀ b, b < 29 → a ≠ b → (TX17 a).2.1 ≠ (TX17 b).2.1 := by decide +kernel
theorem tyX17_ok : ∀ k, k < 29 → parseFieldDescriptor (TX17 k).2.2.1 = some (tyX17 k) := by decide +kernel
def RX18 : String := "ChainHouseModel$UnitTextModel"
def TX18 : u_T := fun k => match k with
  | 0 => ("ChainHouseModel$UnitTextModel", "thrown", "I", false)
  | 1 => ("ChainHouseModel$UnitTextModel", "waiting", "[I", true)
  | 2 => ("ChainHouseModel$UnitTextModel", "text", "[I", true)
  | 3 => ("ChainHouseModel$UnitTextModel", "size", "I", false)
  | 4 => ("ChainHouseModel$UnitTextModel", "many", "[I", true)
  | 5 => ("ChainHouseModel$UnitTextModel", "statement", "[I", true)
  | 6 => ("ChainHouseModel$UnitTextModel", "operand", "[I", true)
  | 7 => ("ChainHouseModel$UnitTextModel", "item", "[I", true)
  | 8 => ("ChainHouseModel$UnitTextModel", "name", "[I", true)
  | 9 => ("ChainHouseModel$UnitTextModel", "nameSize", "[I", true)
  | 10 => ("ChainHouseModel$UnitTextModel", "letters", "[I", true)
  | 11 => ("ChainHouseModel$UnitTextModel", "lettersNow", "I", false)
  | 12 => ("ChainHouseModel$UnitTextModel", "lettersSize", "I", false)
  | 13 => ("ChainHouseModel$UnitTextModel", "faultNumber", "I", false)
  | 14 => ("ChainHouseModel$UnitTextModel", "faultPlace", "I", false)
  | 15 => ("ChainHouseModel$UnitTextModel", "sort", "I", false)
  | 16 => ("ChainHouseModel$UnitTextModel", "value", "I", false)
  | 17 => ("ChainHouseModel$UnitTextModel", "from", "I", false)
  | 18 => ("ChainHouseModel$UnitTextModel", "to", "I", false)
  | 19 => ("ChainHouseModel$UnitTextModel", "line", "I", false)
  | 20 => ("ChainHouseModel$UnitTextModel", "fault", "I", false)
  | 21 => ("ChainHouseModel$UnitTextModel", "place", "I", false)
  | 22 => ("ChainHouseModel$UnitTextModel", "sign", "[I", true)
  | 23 => ("ChainHouseModel$UnitTextModel", "signs", "I", false)
  | 24 => ("ChainHouseModel$UnitTextModel", "counted", "I", false)
  | 25 => ("ChainHouseModel$UnitTextModel", "countedHere", "I", false)
  | 26 => ("ChainHouseModel$UnitTextModel", "deep", "I", false)
  | 27 => ("ChainHouseModel$UnitTextModel", "open", "I", false)
  | 28 => ("ChainHouseModel$UnitTextModel", "out", "[I", true)
  | 29 => ("ChainHouseModel$UnitTextModel", "outSize", "I", false)
  | 30 => ("ChainHouseModel$UnitTextModel", "begin", "[I", true)
  | 31 => ("ChainHouseModel$UnitTextModel", "task", "[I", true)
  | 32 => ("ChainHouseModel$UnitTextModel", "stack", "[I", true)
  | 33 => ("ChainHouseModel$UnitTextModel", "spare", "[I", true)
  | 34 => ("ChainHouseModel$UnitTextModel", "operandText", "[I", true)
  | _ => ("ChainHouseModel$UnitTextModel", "tasks", "I", false)
def tyX18 : Nat → FieldType := fun k => match k with
  | 0 => .int
  | 1 => .array .int
  | 2 => .array .int
  | 3 => .int
  | 4 => .array .int
  | 5 => .array .int
  | 6 => .array .int
  | 7 => .array .int
  | 8 => .array .int
  | 9 => .array .int
  | 10 => .array .int
  | 11 => .int
  | 12 => .int
  | 13 => .int
  | 14 => .int
  | 15 => .int
  | 16 => .int
  | 17 => .int
  | 18 => .int
  | 19 => .int
  | 20 => .int
  | 21 => .int
  | 22 => .array .int
  | 23 => .int
  | 24 => .int
  | 25 => .int
  | 26 => .int
  | 27 => .int
  | 28 => .array .int
  | 29 => .int
  | 30 => .array .int
  | 31 => .array .int
  | 32 => .array .int
  | 33 => .array .int
  | 34 => .array .int
  | _ => .int
theorem nmX18 : ∀ a, a < 36 → ∀ b, b < 36 → a ≠ b → (TX18 a).2.1 ≠ (TX18 b).2.1 := by decide +kernel
theorem tyX18_ok : ∀ k, k < 36 → parseFieldDescriptor (TX18 k).2.2.1 = some (tyX18 k) := by decide +kernel
def RX19 : String := "ChainHouseModel"
def TX19 : u_T := fun k => match k with
  | 0 => ("ChainHouseModel", "files", "[I", true)
  | 1 => ("ChainHouseModel", "fileSize", "[I", true)
  | 2 => ("ChainHouseModel", "imageFile", "[I", true)
  | 3 => ("ChainHouseModel", "imageSize", "I", false)
  | 4 => ("ChainHouseModel", "thrown", "I", false)
  | 5 => ("ChainHouseModel", "words", "LChainHouseModel$CodeWordsModel;", true)
  | 6 => ("ChainHouseModel", "texts", "LChainHouseModel$UnitTextModel;", true)
  | 7 => ("ChainHouseModel", "objects", "LChainHouseModel$ObjectFileModel;", true)
  | 8 => ("ChainHouseModel", "checked", "LChainHouseModel$ObjectFileModel;", true)
  | 9 => ("ChainHouseModel", "layout", "LChainHouseModel$ShrinkLayoutModel;", true)
  | 10 => ("ChainHouseModel", "images", "LChainHouseModel$ImageFileModel;", true)
  | 11 => ("ChainHouseModel", "machine", "LChainHouseModel$StepMachineModel;", true)
  | 12 => ("ChainHouseModel", "symbols", "I", false)
  | 13 => ("ChainHouseModel", "symbolName", "[I", true)
  | 14 => ("ChainHouseModel", "symbolWhere", "[I", true)
  | 15 => ("ChainHouseModel", "symbolValue", "[I", true)
  | 16 => ("ChainHouseModel", "symbolSize", "[I", true)
  | 17 => ("ChainHouseModel", "symbolBind", "[I", true)
  | 18 => ("ChainHouseModel", "symbolOf", "[I", true)
  | 19 => ("ChainHouseModel", "hidden", "I", false)
  | 20 => ("ChainHouseModel", "behindDigit", "[I", true)
  | 21 => ("ChainHouseModel", "aheadDigit", "[I", true)
  | 22 => ("ChainHouseModel", "aheadPlace", "[I", true)
  | 23 => ("ChainHouseModel", "bytes", "[I", true)
  | 24 => ("ChainHouseModel", "sizes", "[I", true)
  | 25 => ("ChainHouseModel", "aligns", "[I", true)
  | 26 => ("ChainHouseModel", "starts", "I", false)
  | 27 => ("ChainHouseModel", "start", "[I", true)
  | 28 => ("ChainHouseModel", "moves", "I", false)
  | 29 => ("ChainHouseModel", "moveSection", "[I", true)
  | 30 => ("ChainHouseModel", "movePlace", "[I", true)
  | 31 => ("ChainHouseModel", "moveKind", "[I", true)
  | 32 => ("ChainHouseModel", "moveSymbol", "[I", true)
  | 33 => ("ChainHouseModel", "moveAddend", "[I", true)
  | 34 => ("ChainHouseModel", "current", "I", false)
  | 35 => ("ChainHouseModel", "shorts", "Z", false)
  | 36 => ("ChainHouseModel", "shrinks", "Z", false)
  | 37 => ("ChainHouseModel", "pushed", "I", false)
  | 38 => ("ChainHouseModel", "keptShorts", "[Z", true)
  | 39 => ("ChainHouseModel", "keptShrinks", "[Z", true)
  | 40 => ("ChainHouseModel", "faultNumber", "I", false)
  | 41 => ("ChainHouseModel", "faultPlace", "I", false)
  | 42 => ("ChainHouseModel", "fault", "I", false)
  | 43 => ("ChainHouseModel", "place", "I", false)
  | 44 => ("ChainHouseModel", "here", "I", false)
  | 45 => ("ChainHouseModel", "first", "I", false)
  | 46 => ("ChainHouseModel", "many", "I", false)
  | 47 => ("ChainHouseModel", "beginning", "I", false)
  | 48 => ("ChainHouseModel", "hereSymbol", "I", false)
  | 49 => ("ChainHouseModel", "number", "[I", true)
  | 50 => ("ChainHouseModel", "added", "[I", true)
  | 51 => ("ChainHouseModel", "takenOff", "[I", true)
  | 52 => ("ChainHouseModel", "number0", "I", false)
  | 53 => ("ChainHouseModel", "added0", "I", false)
  | 54 => ("ChainHouseModel", "takenOff0", "I", false)
  | 55 => ("ChainHouseModel", "rowNumber", "[I", true)
  | 56 => ("ChainHouseModel", "rowAdded", "[I", true)
  | 57 => ("ChainHouseModel", "rowOff", "[I", true)
  | 58 => ("ChainHouseModel", "has", "[I", true)
  | 59 => ("ChainHouseModel", "moved", "I", false)
  | 60 => ("ChainHouseModel", "movedSymbol", "I", false)
  | 61 => ("ChainHouseModel", "movedAddend", "I", false)
  | 62 => ("ChainHouseModel", "unitBytes", "[I", true)
  | 63 => ("ChainHouseModel", "unitSize", "[I", true)
  | 64 => ("ChainHouseModel", "unitAlign", "[I", true)
  | 65 => ("ChainHouseModel", "unitStart", "[I", true)
  | 66 => ("ChainHouseModel", "unitStarts", "[I", true)
  | 67 => ("ChainHouseModel", "unitShort", "[Z", true)
  | 68 => ("ChainHouseModel", "unitSymbols", "[I", true)
  | 69 => ("ChainHouseModel", "where", "[I", true)
  | 70 => ("ChainHouseModel", "value", "[I", true)
  | 71 => ("ChainHouseModel", "length", "[I", true)
  | 72 => ("ChainHouseModel", "bind", "[I", true)
  | 73 => ("ChainHouseModel", "nameSize", "[I", true)
  | 74 => ("ChainHouseModel", "name", "[I", true)
  | 75 => ("ChainHouseModel", "unitMoves", "[I", true)
  | 76 => ("ChainHouseModel", "section", "[I", true)
  | 77 => ("ChainHouseModel", "spot", "[I", true)
  | 78 => ("ChainHouseModel", "kind", "[I", true)
  | 79 => ("ChainHouseModel", "target", "[I", true)
  | 80 => ("ChainHouseModel", "addend", "[I", true)
  | 81 => ("ChainHouseModel", "globals", "I", false)
  | 82 => ("ChainHouseModel", "globalOf", "[I", true)
  | 83 => ("ChainHouseModel", "globalFirst", "[I", true)
  | 84 => ("ChainHouseModel", "globalHow", "[I", true)
  | 85 => ("ChainHouseModel", "globalSymbol", "[I", true)
  | 86 => ("ChainHouseModel", "globalSize", "[I", true)
  | 87 => ("ChainHouseModel", "globalAlign", "[I", true)
  | 88 => ("ChainHouseModel", "globalPart", "[I", true)
  | 89 => ("ChainHouseModel", "globalRule", "[I", true)
  | 90 => ("ChainHouseModel", "pieceFrom", "[I", true)
  | 91 => ("ChainHouseModel", "pieceBytes", "[I", true)
  | 92 => ("ChainHouseModel", "pieceMove", "[I", true)
  | 93 => ("ChainHouseModel", "partFirst", "[I", true)
  | 94 => ("ChainHouseModel", "partMany", "[I", true)
  | 95 => ("ChainHouseModel", "partOf", "[I", true)
  | 96 => ("ChainHouseModel", "ownPiece", "[I", true)
  | 97 => ("ChainHouseModel", "labelOf", "[I", true)
  | 98 => ("ChainHouseModel", "outBytes", "[I", true)
  | 99 => ("ChainHouseModel", "linkFault", "I", false)
  | 100 => ("ChainHouseModel", "linkUnit", "I", false)
  | 101 => ("ChainHouseModel", "linkNumber", "I", false)
  | 102 => ("ChainHouseModel", "fixedPieces", "I", false)
  | 103 => ("ChainHouseModel", "savedBytes", "I", false)
  | 104 => ("ChainHouseModel", "fixedNow", "I", false)
  | 105 => ("ChainHouseModel", "savedNow", "I", false)
  | 106 => ("ChainHouseModel", "shrinking", "Z", false)
  | 107 => ("ChainHouseModel", "set", "I", false)
  | 108 => ("ChainHouseModel", "pointer", "I", false)
  | 109 => ("ChainHouseModel", "told", "I", false)
  | 110 => ("ChainHouseModel", "toldSize", "[I", true)
  | 111 => ("ChainHouseModel", "toldName", "[I", true)
  | 112 => ("ChainHouseModel", "toldValue", "[I", true)
  | 113 => ("ChainHouseModel", "unit", "I", false)
  | 114 => ("ChainHouseModel", "own", "I", false)
  | 115 => ("ChainHouseModel", "at", "I", false)
  | 116 => ("ChainHouseModel", "from", "J", false)
  | 117 => ("ChainHouseModel", "asked", "[I", true)
  | _ => ("ChainHouseModel", "loadPlace", "I", false)
def tyX19 : Nat → FieldType := fun k => match k with
  | 0 => .array .int
  | 1 => .array .int
  | 2 => .array .int
  | 3 => .int
  | 4 => .int
  | 5 => .object "ChainHouseModel$CodeWordsModel"
  | 6 => .object "ChainHouseModel$UnitTextModel"
  | 7 => .object "ChainHouseModel$ObjectFileModel"
  | 8 => .object "ChainHouseModel$ObjectFileModel"
  | 9 => .object "ChainHouseModel$ShrinkLayoutModel"
  | 10 => .object "ChainHouseModel$ImageFileModel"
  | 11 => .object "ChainHouseModel$StepMachineModel"
  | 12 => .int
  | 13 => .array .int
  | 14 => .array .int
  | 15 => .array .int
  | 16 => .array .int
  | 17 => .array .int
  | 18 => .array .int
  | 19 => .int
  | 20 => .array .int
  | 21 => .array .int
  | 22 => .array .int
  | 23 => .array .int
  | 24 => .array .int
  | 25 => .array .int
  | 26 => .int
  | 27 => .array .int
  | 28 => .int
  | 29 => .array .int
  | 30 => .array .int
  | 31 => .array .int
  | 32 => .array .int
  | 33 => .array .int
  | 34 => .int
  | 35 => .boolean
  | 36 => .boolean
  | 37 => .int
  | 38 => .array .boolean
  | 39 => .array .boolean
  | 40 => .int
  | 41 => .int
  | 42 => .int
  | 43 => .int
  | 44 => .int
  | 45 => .int
  | 46 => .int
  | 47 => .int
  | 48 => .int
  | 49 => .array .int
  | 50 => .array .int
  | 51 => .array .int
  | 52 => .int
  | 53 => .int
  | 54 => .int
  | 55 => .array .int
  | 56 => .array .int
  | 57 => .array .int
  | 58 => .array .int
  | 59 => .int
  | 60 => .int
  | 61 => .int
  | 62 => .array .int
  | 63 => .array .int
  | 64 => .array .int
  | 65 => .array .int
  | 66 => .array .int
  | 67 => .array .boolean
  | 68 => .array .int
  | 69 => .array .int
  | 70 => .array .int
  | 71 => .array .int
  | 72 => .array .int
  | 73 => .array .int
  | 74 => .array .int
  | 75 => .array .int
  | 76 => .array .int
  | 77 => .array .int
  | 78 => .array .int
  | 79 => .array .int
  | 80 => .array .int
  | 81 => .int
  | 82 => .array .int
  | 83 => .array .int
  | 84 => .array .int
  | 85 => .array .int
  | 86 => .array .int
  | 87 => .array .int
  | 88 => .array .int
  | 89 => .array .int
  | 90 => .array .int
  | 91 => .array .int
  | 92 => .array .int
  | 93 => .array .int
  | 94 => .array .int
  | 95 => .array .int
  | 96 => .array .int
  | 97 => .array .int
  | 98 => .array .int
  | 99 => .int
  | 100 => .int
  | 101 => .int
  | 102 => .int
  | 103 => .int
  | 104 => .int
  | 105 => .int
  | 106 => .boolean
  | 107 => .int
  | 108 => .int
  | 109 => .int
  | 110 => .array .int
  | 111 => .array .int
  | 112 => .array .int
  | 113 => .int
  | 114 => .int
  | 115 => .int
  | 116 => .long
  | 117 => .array .int
  | _ => .int
theorem nmX19 : ∀ a, a < 119 → ∀ b, b < 119 → a ≠ b → (TX19 a).2.1 ≠ (TX19 b).2.1 := by decide +kernel
theorem tyX19_ok : ∀ k, k < 119 → parseFieldDescriptor (TX19 k).2.2.1 = some (tyX19 k) := by decide +kernel
abbrev zu_cl : List vw_C := [(RX0, TX0, 17), (RX1, TX1, 2), (RX2, TX2, 10), (RX3, TX3, 4), (RX4, TX4, 13), (RX5, TX5, 8), (RX6, TX6, 19), (RX7, TX7, 19), (RX8, TX8, 15), (RX9, TX9, 16), (RX10, TX10, 18), (RX11, TX11, 5), (RX12, TX12, 15), (RX13, TX13, 6), (RX14, TX14, 16), (RX15, TX15, 41), (RX16, TX16, 28), (RX17, TX17, 29), (RX18, TX18, 36), (RX19, TX19, 119)]
def zu_w0 : List Cond := [
  (Cond.code ({ cls := "ChainHouse$Bytes", name := "<init>", desc := "(I)V" } : MethodName) prog_3_method_1_code (2 : Nat) (Option.none : Option FieldType)),
  (Cond.code ({ cls := "ChainHouse$Source", name := "<init>", desc := "()V" } : MethodName) prog_12_method_1_code (1 : Nat) (Option.none : Option FieldType)),
  (Cond.code ({ cls := "ChainHouse$Contents", name := "<init>", desc := "()V" } : MethodName) prog_4_method_1_code (2 : Nat) (Option.none : Option FieldType)),
  (Cond.code ({ cls := "ChainHouse$Scope", name := "<init>", desc := "()V" } : MethodName) prog_11_method_1_code (1 : Nat) (Option.none : Option FieldType)),
  (Cond.code ({ cls := "ChainHouse$Assembler", name := "<init>", desc := "()V" } : MethodName) prog_2_method_1_code (1 : Nat) (Option.none : Option FieldType)),
  (Cond.code ({ cls := "ChainHouse$ObjectFile", name := "<init>", desc := "()V" } : MethodName) prog_10_method_1_code (1 : Nat) (Option.none : Option FieldType)),
  (Cond.code ({ cls := "ChainHouse$Globals", name := "<init>", desc := "()V" } : MethodName) prog_5_method_1_code (1 : Nat) (Option.none : Option FieldType)),
  (Cond.code ({ cls := "ChainHouse$Layout", name := "<init>", desc := "()V" } : MethodName) prog_7_method_1_code (1 : Nat) (Option.none : Option FieldType)),
  (Cond.code ({ cls := "ChainHouse$Image", name := "<init>", desc := "()V" } : MethodName) prog_6_method_1_code (2 : Nat) (Option.none : Option FieldType)),
  (Cond.code ({ cls := "ChainHouse$Word", name := "<init>", desc := "()V" } : MethodName) prog_13_method_1_code (1 : Nat) (Option.none : Option FieldType)),
  (Cond.code ({ cls := "ChainHouse$Linker", name := "<init>", desc := "()V" } : MethodName) prog_8_method_1_code (2 : Nat) (Option.none : Option FieldType)),
  (Cond.code ({ cls := "ChainHouse$Machine", name := "<init>", desc := "()V" } : MethodName) prog_9_method_1_code (1 : Nat) (Option.none : Option FieldType)),
  (Cond.code ({ cls := "ChainHouse", name := "<init>", desc := "()V" } : MethodName) prog_1_method_1_code (2 : Nat) (Option.none : Option FieldType)),
  (Cond.code ({ cls := "ChainHouse", name := "isUnit", desc := "(I)Z" } : MethodName) prog_1_method_2_code (1 : Nat) (Option.some FieldType.boolean)),
  (Cond.code ({ cls := "ChainHouse$Assembler", name := "source", desc := "()LChainHouse$Source;" } : MethodName) prog_2_method_2_code (1 : Nat) (Option.some (FieldType.object "ChainHouse$Source"))),
  (Cond.code ({ cls := "ChainHouse$Bytes", name := "length", desc := "()I" } : MethodName) prog_3_method_2_code (1 : Nat) (Option.some FieldType.int)),
  (Cond.code ({ cls := "ChainHouse$Source", name := "addWord", desc := "(IIII)V" } : MethodName) prog_12_method_3_code (5 : Nat) (Option.none : Option FieldType)),
  (Cond.code ({ cls := "ChainHouse$Source", name := "sortAt", desc := "(I)I" } : MethodName) prog_12_method_19_code (2 : Nat) (Option.some FieldType.int)),
  (Cond.code ({ cls := "ChainHouse$Source", name := "readLabels", desc := "()Z" } : MethodName) prog_12_method_28_code (5 : Nat) (Option.some FieldType.boolean)),
  (Cond.code ({ cls := "ChainHouse$Source", name := "read", desc := "(LChainHouse$Bytes;)V" } : MethodName) prog_12_method_2_code (4 : Nat) (Option.none : Option FieldType)),
  (Cond.code ({ cls := "ChainHouse$Bytes", name := "clear", desc := "()V" } : MethodName) prog_3_method_5_code (1 : Nat) (Option.none : Option FieldType)),
  (Cond.code ({ cls := "ChainHouse$Contents", name := "clear", desc := "()V" } : MethodName) prog_4_method_2_code (2 : Nat) (Option.none : Option FieldType)),
  (Cond.code ({ cls := "ChainHouse$Scope", name := "begin", desc := "()V" } : MethodName) prog_11_method_2_code (2 : Nat) (Option.none : Option FieldType)),
  (Cond.code ({ cls := "ChainHouse$Scope", name := "finish", desc := "()V" } : MethodName) prog_11_method_13_code (3 : Nat) (Option.none : Option FieldType)),
  (Cond.code ({ cls := "ChainHouse$ObjectFile", name := "orderSymbols", desc := "()V" } : MethodName) prog_10_method_3_code (4 : Nat) (Option.none : Option FieldType)),
  (Cond.code ({ cls := "ChainHouse$Bytes", name := "add", desc := "(I)V" } : MethodName) prog_3_method_10_code (2 : Nat) (Option.none : Option FieldType)),
  (Cond.code ({ cls := "ChainHouse$Bytes", name := "addNumber", desc := "(JI)V" } : MethodName) prog_3_method_11_code (5 : Nat) (Option.none : Option FieldType)),
  (Cond.code ({ cls := "ChainHouse$Bytes", name := "beginFile", desc := "(I)V" } : MethodName) prog_3_method_26_code (3 : Nat) (Option.none : Option FieldType)),
  (Cond.code ({ cls := "ChainHouse$Bytes", name := "addZeros", desc := "(I)V" } : MethodName) prog_3_method_13_code (3 : Nat) (Option.none : Option FieldType)),
  (Cond.code ({ cls := "ChainHouse$ObjectFile", name := "relocationsOf", desc := "(I)I" } : MethodName) prog_10_method_5_code (4 : Nat) (Option.some FieldType.int)),
  (Cond.code ({ cls := "ChainHouse$ObjectFile", name := "isThere", desc := "(I)Z" } : MethodName) prog_10_method_4_code (2 : Nat) (Option.some FieldType.boolean)),
  (Cond.code ({ cls := "ChainHouse$ObjectFile", name := "alignmentOf", desc := "(I)I" } : MethodName) prog_10_method_6_code (2 : Nat) (Option.some FieldType.int)),
  (Cond.code ({ cls := "ChainHouse$Bytes", name := "alignTo", desc := "(II)V" } : MethodName) prog_3_method_16_code (3 : Nat) (Option.none : Option FieldType)),
  (Cond.code ({ cls := "ChainHouse$Bytes", name := "addAll", desc := "(LChainHouse$Bytes;)V" } : MethodName) prog_3_method_14_code (4 : Nat) (Option.none : Option FieldType)),
  (Cond.code ({ cls := "ChainHouse$ObjectFile", name := "writeSymbols", desc := "(LChainHouse$Bytes;)V" } : MethodName) prog_10_method_9_code (7 : Nat) (Option.none : Option FieldType)),
  (Cond.code ({ cls := "java/lang/String", name := "coder", desc := "()B" } : MethodName) prog_31_method_152_code (1 : Nat) (Option.some FieldType.byte)),
  (Cond.code ({ cls := "java/lang/String", name := "length", desc := "()I" } : MethodName) prog_31_method_54_code (1 : Nat) (Option.some FieldType.int)),
  (Cond.code ({ cls := "java/lang/String", name := "isLatin1", desc := "()Z" } : MethodName) prog_31_method_154_code (1 : Nat) (Option.some FieldType.boolean)),
  (Cond.code ({ cls := "jdk/internal/util/Preconditions", name := "checkIndex", desc := "(IILjava/util/function/BiFunction;)I" } : MethodName) prog_38_method_11_code (3 : Nat) (Option.some FieldType.int)),
  (Cond.code ({ cls := "java/lang/String", name := "checkIndex", desc := "(II)V" } : MethodName) prog_31_method_155_code (2 : Nat) (Option.none : Option FieldType)),
  (Cond.code ({ cls := "java/lang/StringLatin1", name := "charAt", desc := "([BI)C" } : MethodName) prog_32_method_2_code (2 : Nat) (Option.some FieldType.char)),
  (Cond.code ({ cls := "java/lang/String", name := "charAt", desc := "(I)C" } : MethodName) prog_31_method_56_code (2 : Nat) (Option.some FieldType.char)),
  (Cond.code ({ cls := "ChainHouse$Bytes", name := "halfOfWord", desc := "(Ljava/lang/String;II)J" } : MethodName) prog_3_method_22_code (9 : Nat) (Option.some FieldType.long)),
  (Cond.code ({ cls := "ChainHouse$Bytes", name := "nameByte", desc := "(JJI)I" } : MethodName) prog_3_method_20_code (5 : Nat) (Option.some FieldType.int)),
  (Cond.code ({ cls := "ChainHouse$Bytes", name := "one", desc := "(I)I" } : MethodName) prog_3_method_7_code (2 : Nat) (Option.some FieldType.int)),
  (Cond.code ({ cls := "ChainHouse$Bytes", name := "holdsName", desc := "(IJJ)Z" } : MethodName) prog_3_method_18_code (8 : Nat) (Option.some FieldType.boolean)),
  (Cond.code ({ cls := "ChainHouse$Bytes", name := "placeOfName", desc := "(JJ)I" } : MethodName) prog_3_method_19_code (7 : Nat) (Option.some FieldType.int)),
  (Cond.code ({ cls := "ChainHouse$ObjectFile", name := "writeNames", desc := "(LChainHouse$Bytes;)V" } : MethodName) prog_10_method_10_code (3 : Nat) (Option.none : Option FieldType)),
  (Cond.code ({ cls := "ChainHouse$ObjectFile", name := "writePart", desc := "(ILChainHouse$Bytes;)V" } : MethodName) prog_10_method_7_code (4 : Nat) (Option.none : Option FieldType)),
  (Cond.code ({ cls := "ChainHouse$Bytes", name := "put", desc := "(IJI)V" } : MethodName) prog_3_method_9_code (7 : Nat) (Option.none : Option FieldType)),
  (Cond.code ({ cls := "ChainHouse$Contents", name := "shortStarts", desc := "()I" } : MethodName) prog_4_method_10_code (3 : Nat) (Option.some FieldType.int)),
  (Cond.code ({ cls := "ChainHouse$ObjectFile", name := "linkOf", desc := "(I)I" } : MethodName) prog_10_method_12_code (2 : Nat) (Option.some FieldType.int)),
  (Cond.code ({ cls := "ChainHouse$Contents", name := "locals", desc := "()I" } : MethodName) prog_4_method_12_code (3 : Nat) (Option.some FieldType.int)),
  (Cond.code ({ cls := "ChainHouse$ObjectFile", name := "infoOf", desc := "(I)I" } : MethodName) prog_10_method_13_code (2 : Nat) (Option.some FieldType.int)),
  (Cond.code ({ cls := "ChainHouse$ObjectFile", name := "writeTable", desc := "(LChainHouse$Bytes;)V" } : MethodName) prog_10_method_11_code (3 : Nat) (Option.none : Option FieldType)),
  (Cond.code ({ cls := "ChainHouse$ObjectFile", name := "write", desc := "(LChainHouse$Contents;LChainHouse$Bytes;)V" } : MethodName) prog_10_method_2_code (4 : Nat) (Option.none : Option FieldType)),
  (Cond.code ({ cls := "ChainHouse$Assembler", name := "make", desc := "(LChainHouse$ObjectFile;LChainHouse$Bytes;)I" } : MethodName) prog_2_method_3_code (7 : Nat) (Option.some FieldType.int)),
  (Cond.code ({ cls := "ChainHouse$Bytes", name := "copy", desc := "(LChainHouse$Bytes;)V" } : MethodName) prog_3_method_15_code (2 : Nat) (Option.none : Option FieldType)),
  (Cond.code ({ cls := "ChainHouse", name := "assemble", desc := "(I)I" } : MethodName) prog_1_method_7_code (3 : Nat) (Option.some FieldType.int)),
  (Cond.code ({ cls := "ChainHouse$Machine", name := "undo", desc := "(I)I" } : MethodName) prog_9_method_30_code (3 : Nat) (Option.some FieldType.int)),
  (Cond.code ({ cls := "ChainHouse", name := "back", desc := "(I)I" } : MethodName) prog_1_method_24_code (2 : Nat) (Option.some FieldType.int)),
  (Cond.code ({ cls := "ChainHouse", name := "fileOf", desc := "(I)LChainHouse$Bytes;" } : MethodName) prog_1_method_3_code (2 : Nat) (Option.some (FieldType.object "ChainHouse$Bytes"))),
  (Cond.code ({ cls := "ChainHouse$Bytes", name := "has", desc := "(I)Z" } : MethodName) prog_3_method_4_code (2 : Nat) (Option.some FieldType.boolean)),
  (Cond.code ({ cls := "ChainHouse", name := "byteAt", desc := "(II)I" } : MethodName) prog_1_method_14_code (4 : Nat) (Option.some FieldType.int)),
  (Cond.code ({ cls := "ChainHouse$Bytes", name := "headFault", desc := "(I)I" } : MethodName) prog_3_method_27_code (4 : Nat) (Option.some FieldType.int)),
  (Cond.code ({ cls := "ChainHouse$ObjectFile", name := "fail", desc := "(II)Z" } : MethodName) prog_10_method_15_code (3 : Nat) (Option.some FieldType.boolean)),
  (Cond.code ({ cls := "ChainHouse$ObjectFile", name := "readHeader", desc := "()Z" } : MethodName) prog_10_method_17_code (4 : Nat) (Option.some FieldType.boolean)),
  (Cond.code ({ cls := "ChainHouse$ObjectFile", name := "read", desc := "(LChainHouse$Bytes;LChainHouse$Contents;)I" } : MethodName) prog_10_method_14_code (4 : Nat) (Option.some FieldType.int)),
  (Cond.code ({ cls := "ChainHouse", name := "check", desc := "(I)I" } : MethodName) prog_1_method_15_code (4 : Nat) (Option.some FieldType.int)),
  (Cond.code ({ cls := "ChainHouse$Bytes", name := "shorten", desc := "(I)V" } : MethodName) prog_3_method_6_code (2 : Nat) (Option.none : Option FieldType)),
  (Cond.code ({ cls := "ChainHouse", name := "cut", desc := "(II)Z" } : MethodName) prog_1_method_11_code (4 : Nat) (Option.some FieldType.boolean)),
  (Cond.code ({ cls := "ChainHouse$Bytes", name := "room", desc := "()I" } : MethodName) prog_3_method_3_code (1 : Nat) (Option.some FieldType.int)),
  (Cond.code ({ cls := "ChainHouse", name := "end", desc := "(I)I" } : MethodName) prog_1_method_6_code (3 : Nat) (Option.some FieldType.int)),
  (Cond.code ({ cls := "ChainHouse$Bytes", name := "addHighest", desc := "(IJ)Z" } : MethodName) prog_3_method_12_code (5 : Nat) (Option.some FieldType.boolean)),
  (Cond.code ({ cls := "ChainHouse", name := "extend", desc := "(IIJ)Z" } : MethodName) prog_1_method_10_code (6 : Nat) (Option.some FieldType.boolean)),
  (Cond.code ({ cls := "ChainHouse", name := "fault", desc := "(I)I" } : MethodName) prog_1_method_8_code (2 : Nat) (Option.some FieldType.int)),
  (Cond.code ({ cls := "ChainHouse", name := "fourWait", desc := "(II)V" } : MethodName) prog_1_method_5_code (4 : Nat) (Option.none : Option FieldType)),
  (Cond.code ({ cls := "ChainHouse", name := "feed", desc := "(IIIII)V" } : MethodName) prog_1_method_4_code (6 : Nat) (Option.none : Option FieldType)),
  (Cond.code ({ cls := "ChainHouse", name := "get", desc := "(I)I" } : MethodName) prog_1_method_26_code (2 : Nat) (Option.some FieldType.int)),
  (Cond.code ({ cls := "ChainHouse$Machine", name := "haltAt", desc := "(I)I" } : MethodName) prog_9_method_29_code (3 : Nat) (Option.some FieldType.int)),
  (Cond.code ({ cls := "ChainHouse$Machine", name := "addHalt", desc := "(I)Z" } : MethodName) prog_9_method_34_code (2 : Nat) (Option.some FieldType.boolean)),
  (Cond.code ({ cls := "ChainHouse$Machine", name := "dropHalt", desc := "(I)Z" } : MethodName) prog_9_method_35_code (3 : Nat) (Option.some FieldType.boolean)),
  (Cond.code ({ cls := "ChainHouse", name := "halt", desc := "(IZ)Z" } : MethodName) prog_1_method_29_code (3 : Nat) (Option.some FieldType.boolean)),
  (Cond.code ({ cls := "ChainHouse$Machine", name := "fill", desc := "(IJ)Z" } : MethodName) prog_9_method_33_code (4 : Nat) (Option.some FieldType.boolean)),
  (Cond.code ({ cls := "ChainHouse", name := "input", desc := "(IJ)Z" } : MethodName) prog_1_method_28_code (4 : Nat) (Option.some FieldType.boolean)),
  (Cond.code ({ cls := "ChainHouse", name := "letter", desc := "(I)I" } : MethodName) prog_1_method_34_code (2 : Nat) (Option.some FieldType.int)),
  (Cond.code ({ cls := "ChainHouse$Linker", name := "tellReading", desc := "(II)V" } : MethodName) prog_8_method_4_code (3 : Nat) (Option.none : Option FieldType)),
  (Cond.code ({ cls := "ChainHouse$Linker", name := "join", desc := "([LChainHouse$Bytes;IZLChainHouse$ObjectFile;LChainHouse$Bytes;)I" } : MethodName) prog_8_method_2_code (7 : Nat) (Option.some FieldType.int)),
  (Cond.code ({ cls := "ChainHouse", name := "link", desc := "(IZ)I" } : MethodName) prog_1_method_17_code (3 : Nat) (Option.some FieldType.int)),
  (Cond.code ({ cls := "ChainHouse", name := "linked", desc := "(I)I" } : MethodName) prog_1_method_18_code (2 : Nat) (Option.some FieldType.int)),
  (Cond.code ({ cls := "ChainHouse$Image", name := "clear", desc := "()V" } : MethodName) prog_6_method_2_code (2 : Nat) (Option.none : Option FieldType)),
  (Cond.code ({ cls := "ChainHouse$Image", name := "fail", desc := "(II)Z" } : MethodName) prog_6_method_21_code (3 : Nat) (Option.some FieldType.boolean)),
  (Cond.code ({ cls := "ChainHouse$Image", name := "readHeader", desc := "()Z" } : MethodName) prog_6_method_23_code (4 : Nat) (Option.some FieldType.boolean)),
  (Cond.code ({ cls := "ChainHouse$Image", name := "read", desc := "(LChainHouse$Bytes;)I" } : MethodName) prog_6_method_20_code (3 : Nat) (Option.some FieldType.int)),
  (Cond.code ({ cls := "ChainHouse", name := "load", desc := "()I" } : MethodName) prog_1_method_20_code (2 : Nat) (Option.some FieldType.int)),
  (Cond.code ({ cls := "ChainHouse$Contents", name := "extent", desc := "(I)I" } : MethodName) prog_4_method_3_code (2 : Nat) (Option.some FieldType.int)),
  (Cond.code ({ cls := "ChainHouse$Contents", name := "toldOfSymbol", desc := "(II)I" } : MethodName) prog_4_method_15_code (4 : Nat) (Option.some FieldType.int)),
  (Cond.code ({ cls := "ChainHouse$Contents", name := "count", desc := "(I)I" } : MethodName) prog_4_method_14_code (2 : Nat) (Option.some FieldType.int)),
  (Cond.code ({ cls := "ChainHouse$Contents", name := "told", desc := "(III)I" } : MethodName) prog_4_method_13_code (4 : Nat) (Option.some FieldType.int)),
  (Cond.code ({ cls := "ChainHouse", name := "object", desc := "(III)I" } : MethodName) prog_1_method_16_code (4 : Nat) (Option.some FieldType.int)),
  (Cond.code ({ cls := "ChainHouse", name := "output", desc := "(I)I" } : MethodName) prog_1_method_31_code (2 : Nat) (Option.some FieldType.int)),
  (Cond.code ({ cls := "ChainHouse$Machine", name := "byteOf", desc := "(I)I" } : MethodName) prog_9_method_5_code (2 : Nat) (Option.some FieldType.int)),
  (Cond.code ({ cls := "ChainHouse", name := "peek", desc := "(I)I" } : MethodName) prog_1_method_27_code (2 : Nat) (Option.some FieldType.int)),
  (Cond.code ({ cls := "ChainHouse", name := "place", desc := "()I" } : MethodName) prog_1_method_21_code (1 : Nat) (Option.some FieldType.int)),
  (Cond.code ({ cls := "ChainHouse$Machine", name := "rightsOf", desc := "(I)I" } : MethodName) prog_9_method_3_code (3 : Nat) (Option.some FieldType.int)),
  (Cond.code ({ cls := "ChainHouse$Machine", name := "isMarked", desc := "(I)Z" } : MethodName) prog_9_method_4_code (3 : Nat) (Option.some FieldType.boolean)),
  (Cond.code ({ cls := "ChainHouse", name := "rights", desc := "(I)I" } : MethodName) prog_1_method_32_code (2 : Nat) (Option.some FieldType.int)),
  (Cond.code ({ cls := "ChainHouse$Machine", name := "isEnd", desc := "()Z" } : MethodName) prog_9_method_9_code (1 : Nat) (Option.some FieldType.boolean)),
  (Cond.code ({ cls := "ChainHouse$Machine", name := "become", desc := "(II)V" } : MethodName) prog_9_method_10_code (3 : Nat) (Option.none : Option FieldType)),
  (Cond.code ({ cls := "ChainHouse$Machine", name := "mayFetch", desc := "(I)Z" } : MethodName) prog_9_method_12_code (4 : Nat) (Option.some FieldType.boolean)),
  (Cond.code ({ cls := "ChainHouse$Machine", name := "advance", desc := "()Z" } : MethodName) prog_9_method_11_code (3 : Nat) (Option.some FieldType.boolean)),
  (Cond.code ({ cls := "ChainHouse$Machine", name := "advanceUnits", desc := "(I)I" } : MethodName) prog_9_method_28_code (6 : Nat) (Option.some FieldType.int)),
  (Cond.code ({ cls := "ChainHouse", name := "run", desc := "(I)I" } : MethodName) prog_1_method_23_code (2 : Nat) (Option.some FieldType.int)),
  (Cond.code ({ cls := "ChainHouse$Machine", name := "change", desc := "(II)Z" } : MethodName) prog_9_method_32_code (3 : Nat) (Option.some FieldType.boolean)),
  (Cond.code ({ cls := "ChainHouse", name := "set", desc := "(II)Z" } : MethodName) prog_1_method_25_code (3 : Nat) (Option.some FieldType.boolean)),
  (Cond.code ({ cls := "ChainHouse", name := "size", desc := "(I)I" } : MethodName) prog_1_method_13_code (3 : Nat) (Option.some FieldType.int)),
  (Cond.code ({ cls := "ChainHouse", name := "spoil", desc := "(III)I" } : MethodName) prog_1_method_12_code (6 : Nat) (Option.some FieldType.int)),
  (Cond.code ({ cls := "ChainHouse$Machine", name := "told", desc := "(I)I" } : MethodName) prog_9_method_36_code (2 : Nat) (Option.some FieldType.int)),
  (Cond.code ({ cls := "ChainHouse", name := "state", desc := "(I)I" } : MethodName) prog_1_method_30_code (2 : Nat) (Option.some FieldType.int)),
  (Cond.code ({ cls := "ChainHouse", name := "step", desc := "()I" } : MethodName) prog_1_method_22_code (1 : Nat) (Option.some FieldType.int)),
  (Cond.code ({ cls := "ChainHouse", name := "take", desc := "(I)I" } : MethodName) prog_1_method_9_code (2 : Nat) (Option.some FieldType.int)),
  (Cond.code ({ cls := "ChainHouse$Machine", name := "read", desc := "(II)I" } : MethodName) prog_9_method_6_code (6 : Nat) (Option.some FieldType.int)),
  (Cond.code ({ cls := "ChainHouse$Word", name := "register", desc := "(II)I" } : MethodName) prog_13_method_3_code (2 : Nat) (Option.some FieldType.int)),
  (Cond.code ({ cls := "ChainHouse$Word", name := "immediate", desc := "(II)I" } : MethodName) prog_13_method_4_code (5 : Nat) (Option.some FieldType.int)),
  (Cond.code ({ cls := "ChainHouse$Word", name := "mayHave", desc := "(ICI)Z" } : MethodName) prog_13_method_5_code (6 : Nat) (Option.some FieldType.boolean)),
  (Cond.code ({ cls := "ChainHouse$Word", name := "mayHave", desc := "(IJ)Z" } : MethodName) prog_13_method_6_code (7 : Nat) (Option.some FieldType.boolean)),
  (Cond.code ({ cls := "ChainHouse$Word", name := "read", desc := "(I)V" } : MethodName) prog_13_method_2_code (7 : Nat) (Option.none : Option FieldType)),
  (Cond.code ({ cls := "ChainHouse$Bytes", name := "addWord", desc := "(Ljava/lang/String;I)V" } : MethodName) prog_3_method_23_code (8 : Nat) (Option.none : Option FieldType)),
  (Cond.code ({ cls := "ChainHouse$Bytes", name := "addHex", desc := "(I)V" } : MethodName) prog_3_method_24_code (5 : Nat) (Option.none : Option FieldType)),
  (Cond.code ({ cls := "ChainHouse$Word", name := "spell", desc := "(IILChainHouse$Bytes;)V" } : MethodName) prog_13_method_12_code (6 : Nat) (Option.none : Option FieldType)),
  (Cond.code ({ cls := "ChainHouse$Machine", name := "spell", desc := "(ILChainHouse$Bytes;)V" } : MethodName) prog_9_method_8_code (4 : Nat) (Option.none : Option FieldType)),
  (Cond.code ({ cls := "ChainHouse", name := "tell", desc := "(I)I" } : MethodName) prog_1_method_33_code (2 : Nat) (Option.some FieldType.int)),
  (Cond.code ({ cls := "ChainHouse$Globals", name := "find", desc := "(JJ)I" } : MethodName) prog_5_method_2_code (6 : Nat) (Option.some FieldType.int)),
  (Cond.code ({ cls := "ChainHouse$Linker", name := "knownGlobal", desc := "(JJ)I" } : MethodName) prog_8_method_50_code (13 : Nat) (Option.some FieldType.int)),
  (Cond.code ({ cls := "ChainHouse", name := "where", desc := "(JJ)I" } : MethodName) prog_1_method_19_code (6 : Nat) (Option.some FieldType.int)),
  (Cond.code ({ cls := "ChainHouseModel$CodeWordsModel", name := "fix", desc := "(IIII)V" } : MethodName) prog_16_method_4_code (6 : Nat) (Option.none : Option FieldType)),
  (Cond.code ({ cls := "ChainHouseModel$CodeWordsModel", name := "opcodeOf", desc := "(I)I" } : MethodName) prog_16_method_5_code (1 : Nat) (Option.some FieldType.int)),
  (Cond.code ({ cls := "ChainHouseModel$CodeWordsModel", name := "lay", desc := "(IIIII)V" } : MethodName) prog_16_method_3_code (7 : Nat) (Option.none : Option FieldType)),
  (Cond.code ({ cls := "ChainHouseModel$CodeWordsModel", name := "thirdOf", desc := "(I)I" } : MethodName) prog_16_method_6_code (1 : Nat) (Option.some FieldType.int)),
  (Cond.code ({ cls := "ChainHouseModel$CodeWordsModel", name := "isBranch", desc := "(I)Z" } : MethodName) prog_16_method_8_code (1 : Nat) (Option.some FieldType.boolean)),
  (Cond.code ({ cls := "ChainHouseModel$CodeWordsModel", name := "isStore", desc := "(I)Z" } : MethodName) prog_16_method_9_code (1 : Nat) (Option.some FieldType.boolean)),
  (Cond.code ({ cls := "ChainHouseModel$CodeWordsModel", name := "seventhOf", desc := "(I)I" } : MethodName) prog_16_method_7_code (1 : Nat) (Option.some FieldType.int)),
  (Cond.code ({ cls := "ChainHouseModel$CodeWordsModel", name := "isShift", desc := "(I)Z" } : MethodName) prog_16_method_10_code (1 : Nat) (Option.some FieldType.boolean)),
  (Cond.code ({ cls := "ChainHouseModel$CodeWordsModel", name := "layLong", desc := "(I)V" } : MethodName) prog_16_method_11_code (2 : Nat) (Option.none : Option FieldType)),
  (Cond.code ({ cls := "ChainHouseModel$CodeWordsModel", name := "ends", desc := "(III)V" } : MethodName) prog_16_method_13_code (4 : Nat) (Option.none : Option FieldType)),
  (Cond.code ({ cls := "ChainHouseModel$CodeWordsModel", name := "one", desc := "(III)V" } : MethodName) prog_16_method_12_code (4 : Nat) (Option.none : Option FieldType)),
  (Cond.code ({ cls := "ChainHouseModel$CodeWordsModel", name := "layJump", desc := "(II)V" } : MethodName) prog_16_method_15_code (3 : Nat) (Option.none : Option FieldType)),
  (Cond.code ({ cls := "ChainHouseModel$CodeWordsModel", name := "layShort", desc := "()V" } : MethodName) prog_16_method_14_code (2 : Nat) (Option.none : Option FieldType)),
  (Cond.code ({ cls := "ChainHouseModel$CodeWordsModel", name := "<init>", desc := "()V" } : MethodName) prog_16_method_1_code (2 : Nat) (Option.none : Option FieldType)),
  (Cond.code ({ cls := "ChainHouseModel$UnitTextModel", name := "<init>", desc := "()V" } : MethodName) prog_21_method_1_code (1 : Nat) (Option.none : Option FieldType)),
  (Cond.code ({ cls := "ChainHouseModel$ObjectFileModel", name := "letterOf", desc := "(I)V" } : MethodName) prog_18_method_3_code (2 : Nat) (Option.none : Option FieldType)),
  (Cond.code ({ cls := "ChainHouseModel$ObjectFileModel", name := "title", desc := "(IIIIIIIII)V" } : MethodName) prog_18_method_4_code (10 : Nat) (Option.none : Option FieldType)),
  (Cond.code ({ cls := "ChainHouseModel$ObjectFileModel", name := "<init>", desc := "()V" } : MethodName) prog_18_method_1_code (2 : Nat) (Option.none : Option FieldType)),
  (Cond.code ({ cls := "ChainHouseModel$ShrinkLayoutModel", name := "<init>", desc := "()V" } : MethodName) prog_19_method_1_code (1 : Nat) (Option.none : Option FieldType)),
  (Cond.code ({ cls := "ChainHouseModel$ImageFileModel", name := "<init>", desc := "()V" } : MethodName) prog_17_method_1_code (1 : Nat) (Option.none : Option FieldType)),
  (Cond.code ({ cls := "ChainHouseModel$StepMachineModel", name := "fix", desc := "(IIII)V" } : MethodName) prog_20_method_4_code (6 : Nat) (Option.none : Option FieldType)),
  (Cond.code ({ cls := "ChainHouseModel$StepMachineModel", name := "opcodeOf", desc := "(I)I" } : MethodName) prog_20_method_5_code (1 : Nat) (Option.some FieldType.int)),
  (Cond.code ({ cls := "ChainHouseModel$StepMachineModel", name := "lay", desc := "(IIIII)V" } : MethodName) prog_20_method_3_code (7 : Nat) (Option.none : Option FieldType)),
  (Cond.code ({ cls := "ChainHouseModel$StepMachineModel", name := "thirdOf", desc := "(I)I" } : MethodName) prog_20_method_6_code (1 : Nat) (Option.some FieldType.int)),
  (Cond.code ({ cls := "ChainHouseModel$StepMachineModel", name := "isBranch", desc := "(I)Z" } : MethodName) prog_20_method_8_code (1 : Nat) (Option.some FieldType.boolean)),
  (Cond.code ({ cls := "ChainHouseModel$StepMachineModel", name := "isStore", desc := "(I)Z" } : MethodName) prog_20_method_9_code (1 : Nat) (Option.some FieldType.boolean)),
  (Cond.code ({ cls := "ChainHouseModel$StepMachineModel", name := "seventhOf", desc := "(I)I" } : MethodName) prog_20_method_7_code (1 : Nat) (Option.some FieldType.int)),
  (Cond.code ({ cls := "ChainHouseModel$StepMachineModel", name := "isShift", desc := "(I)Z" } : MethodName) prog_20_method_10_code (1 : Nat) (Option.some FieldType.boolean)),
  (Cond.code ({ cls := "ChainHouseModel$StepMachineModel", name := "layLong", desc := "(I)V" } : MethodName) prog_20_method_11_code (2 : Nat) (Option.none : Option FieldType)),
  (Cond.code ({ cls := "ChainHouseModel$StepMachineModel", name := "ends", desc := "(III)V" } : MethodName) prog_20_method_13_code (4 : Nat) (Option.none : Option FieldType)),
  (Cond.code ({ cls := "ChainHouseModel$StepMachineModel", name := "one", desc := "(III)V" } : MethodName) prog_20_method_12_code (4 : Nat) (Option.none : Option FieldType)),
  (Cond.code ({ cls := "ChainHouseModel$StepMachineModel", name := "layJump", desc := "(II)V" } : MethodName) prog_20_method_15_code (3 : Nat) (Option.none : Option FieldType)),
  (Cond.code ({ cls := "ChainHouseModel$StepMachineModel", name := "layShort", desc := "()V" } : MethodName) prog_20_method_14_code (2 : Nat) (Option.none : Option FieldType)),
  (Cond.code ({ cls := "ChainHouseModel$StepMachineModel", name := "<init>", desc := "()V" } : MethodName) prog_20_method_1_code (2 : Nat) (Option.none : Option FieldType)),
  (Cond.code ({ cls := "ChainHouseModel", name := "<init>", desc := "()V" } : MethodName) prog_15_method_1_code (1 : Nat) (Option.none : Option FieldType)),
  (Cond.code ({ cls := "ChainHouseModel", name := "isUnit", desc := "(I)Z" } : MethodName) prog_15_method_3_code (1 : Nat) (Option.some FieldType.boolean)),
  (Cond.code ({ cls := "ChainHouseModel$UnitTextModel", name := "next", desc := "()V" } : MethodName) prog_21_method_12_code (3 : Nat) (Option.none : Option FieldType)),
  (Cond.code ({ cls := "ChainHouseModel$UnitTextModel", name := "readLine", desc := "()Z" } : MethodName) prog_21_method_42_code (6 : Nat) (Option.some FieldType.boolean)),
  (Cond.code ({ cls := "ChainHouseModel$UnitTextModel", name := "keep", desc := "()V" } : MethodName) prog_21_method_44_code (2 : Nat) (Option.none : Option FieldType)),
  (Cond.code ({ cls := "ChainHouseModel$UnitTextModel", name := "read", desc := "()I" } : MethodName) prog_21_method_43_code (2 : Nat) (Option.some FieldType.int)),
  (Cond.code ({ cls := "ChainHouseModel", name := "beginUnit", desc := "()V" } : MethodName) prog_15_method_17_code (2 : Nat) (Option.none : Option FieldType)),
  (Cond.code ({ cls := "ChainHouseModel$UnitTextModel", name := "fault", desc := "(I)I" } : MethodName) prog_21_method_45_code (2 : Nat) (Option.some FieldType.int)),
  (Cond.code ({ cls := "ChainHouseModel$UnitTextModel", name := "count", desc := "(I)I" } : MethodName) prog_21_method_46_code (2 : Nat) (Option.some FieldType.int)),
  (Cond.code ({ cls := "ChainHouseModel", name := "statements", desc := "()Z" } : MethodName) prog_15_method_88_code (4 : Nat) (Option.some FieldType.boolean)),
  (Cond.code ({ cls := "ChainHouseModel$ObjectFileModel", name := "clear", desc := "()V" } : MethodName) prog_18_method_15_code (2 : Nat) (Option.none : Option FieldType)),
  (Cond.code ({ cls := "ChainHouseModel", name := "makeObject", desc := "()V" } : MethodName) prog_15_method_89_code (4 : Nat) (Option.none : Option FieldType)),
  (Cond.code ({ cls := "ChainHouseModel$ObjectFileModel", name := "unfit", desc := "()I" } : MethodName) prog_18_method_28_code (2 : Nat) (Option.some FieldType.int)),
  (Cond.code ({ cls := "ChainHouseModel$ObjectFileModel", name := "roundUp", desc := "(II)I" } : MethodName) prog_18_method_12_code (2 : Nat) (Option.some FieldType.int)),
  (Cond.code ({ cls := "ChainHouseModel$ObjectFileModel", name := "relocationsOf", desc := "(I)I" } : MethodName) prog_18_method_27_code (4 : Nat) (Option.some FieldType.int)),
  (Cond.code ({ cls := "ChainHouseModel$ObjectFileModel", name := "order", desc := "()I" } : MethodName) prog_18_method_29_code (5 : Nat) (Option.some FieldType.int)),
  (Cond.code ({ cls := "ChainHouseModel$ObjectFileModel", name := "begin", desc := "()V" } : MethodName) prog_18_method_24_code (1 : Nat) (Option.none : Option FieldType)),
  (Cond.code ({ cls := "ChainHouseModel$ObjectFileModel", name := "sizeOfSymbolNames", desc := "()I" } : MethodName) prog_18_method_30_code (4 : Nat) (Option.some FieldType.int)),
  (Cond.code ({ cls := "ChainHouseModel$ObjectFileModel", name := "takeTitle", desc := "(I)V" } : MethodName) prog_18_method_26_code (3 : Nat) (Option.none : Option FieldType)),
  (Cond.code ({ cls := "ChainHouseModel$ObjectFileModel", name := "stringFor", desc := "()I" } : MethodName) prog_18_method_25_code (4 : Nat) (Option.some FieldType.int)),
  (Cond.code ({ cls := "ChainHouseModel$ObjectFileModel", name := "sizeOfTitles", desc := "()I" } : MethodName) prog_18_method_31_code (2 : Nat) (Option.some FieldType.int)),
  (Cond.code ({ cls := "ChainHouseModel$ObjectFileModel", name := "lay", desc := "()I" } : MethodName) prog_18_method_32_code (5 : Nat) (Option.some FieldType.int)),
  (Cond.code ({ cls := "ChainHouseModel$ObjectFileModel", name := "write1", desc := "(II)V" } : MethodName) prog_18_method_33_code (3 : Nat) (Option.none : Option FieldType)),
  (Cond.code ({ cls := "ChainHouseModel$ObjectFileModel", name := "write2", desc := "(II)V" } : MethodName) prog_18_method_34_code (3 : Nat) (Option.none : Option FieldType)),
  (Cond.code ({ cls := "ChainHouseModel$ObjectFileModel", name := "write4", desc := "(II)V" } : MethodName) prog_18_method_35_code (3 : Nat) (Option.none : Option FieldType)),
  (Cond.code ({ cls := "ChainHouseModel$ObjectFileModel", name := "writeHead", desc := "(I)V" } : MethodName) prog_18_method_36_code (4 : Nat) (Option.none : Option FieldType)),
  (Cond.code ({ cls := "ChainHouseModel$ObjectFileModel", name := "writeRelocations", desc := "(I)V" } : MethodName) prog_18_method_42_code (4 : Nat) (Option.none : Option FieldType)),
  (Cond.code ({ cls := "ChainHouseModel$ObjectFileModel", name := "writeSymbols", desc := "()V" } : MethodName) prog_18_method_41_code (3 : Nat) (Option.none : Option FieldType)),
  (Cond.code ({ cls := "ChainHouseModel$ObjectFileModel", name := "sortOf", desc := "(I)I" } : MethodName) prog_18_method_38_code (1 : Nat) (Option.some FieldType.int)),
  (Cond.code ({ cls := "ChainHouseModel$ObjectFileModel", name := "flagsOf", desc := "(I)I" } : MethodName) prog_18_method_37_code (1 : Nat) (Option.some FieldType.int)),
  (Cond.code ({ cls := "ChainHouseModel$ObjectFileModel", name := "eachOf", desc := "(I)I" } : MethodName) prog_18_method_39_code (1 : Nat) (Option.some FieldType.int)),
  (Cond.code ({ cls := "ChainHouseModel$ObjectFileModel", name := "writeEntry", desc := "(III)V" } : MethodName) prog_18_method_40_code (5 : Nat) (Option.none : Option FieldType)),
  (Cond.code ({ cls := "ChainHouseModel$ObjectFileModel", name := "write", desc := "()I" } : MethodName) prog_18_method_43_code (6 : Nat) (Option.some FieldType.int)),
  (Cond.code ({ cls := "ChainHouseModel", name := "assemble", desc := "(I)I" } : MethodName) prog_15_method_91_code (5 : Nat) (Option.some FieldType.int)),
  (Cond.code ({ cls := "ChainHouseModel$StepMachineModel", name := "back", desc := "(I)I" } : MethodName) prog_20_method_66_code (5 : Nat) (Option.some FieldType.int)),
  (Cond.code ({ cls := "ChainHouseModel", name := "back", desc := "(I)I" } : MethodName) prog_15_method_162_code (2 : Nat) (Option.some FieldType.int)),
  (Cond.code ({ cls := "ChainHouseModel", name := "byteAt", desc := "(II)I" } : MethodName) prog_15_method_10_code (3 : Nat) (Option.some FieldType.int)),
  (Cond.code ({ cls := "ChainHouseModel", name := "give", desc := "(LChainHouseModel$ObjectFileModel;I)V" } : MethodName) prog_15_method_12_code (4 : Nat) (Option.none : Option FieldType)),
  (Cond.code ({ cls := "ChainHouseModel$ObjectFileModel", name := "fault", desc := "(II)I" } : MethodName) prog_18_method_51_code (3 : Nat) (Option.some FieldType.int)),
  (Cond.code ({ cls := "ChainHouseModel$ObjectFileModel", name := "head", desc := "()I" } : MethodName) prog_18_method_54_code (4 : Nat) (Option.some FieldType.int)),
  (Cond.code ({ cls := "ChainHouseModel$ObjectFileModel", name := "allFaults", desc := "()I" } : MethodName) prog_18_method_76_code (5 : Nat) (Option.some FieldType.int)),
  (Cond.code ({ cls := "ChainHouseModel$ObjectFileModel", name := "read", desc := "()I" } : MethodName) prog_18_method_77_code (5 : Nat) (Option.some FieldType.int)),
  (Cond.code ({ cls := "ChainHouseModel", name := "check", desc := "(I)I" } : MethodName) prog_15_method_13_code (2 : Nat) (Option.some FieldType.int)),
  (Cond.code ({ cls := "ChainHouseModel", name := "cut", desc := "(II)Z" } : MethodName) prog_15_method_9_code (3 : Nat) (Option.some FieldType.boolean)),
  (Cond.code ({ cls := "ChainHouseModel$UnitTextModel", name := "end", desc := "(I)I" } : MethodName) prog_21_method_5_code (3 : Nat) (Option.some FieldType.int)),
  (Cond.code ({ cls := "ChainHouseModel", name := "end", desc := "(I)I" } : MethodName) prog_15_method_5_code (2 : Nat) (Option.some FieldType.int)),
  (Cond.code ({ cls := "ChainHouseModel", name := "extend", desc := "(IIJ)Z" } : MethodName) prog_15_method_8_code (8 : Nat) (Option.some FieldType.boolean)),
  (Cond.code ({ cls := "ChainHouseModel", name := "fault", desc := "(I)I" } : MethodName) prog_15_method_92_code (2 : Nat) (Option.some FieldType.int)),
  (Cond.code ({ cls := "ChainHouseModel$UnitTextModel", name := "wait", desc := "(II)V" } : MethodName) prog_21_method_3_code (4 : Nat) (Option.none : Option FieldType)),
  (Cond.code ({ cls := "ChainHouseModel$UnitTextModel", name := "feed", desc := "(IIIII)V" } : MethodName) prog_21_method_4_code (6 : Nat) (Option.none : Option FieldType)),
  (Cond.code ({ cls := "ChainHouseModel", name := "feed", desc := "(IIIII)V" } : MethodName) prog_15_method_4_code (6 : Nat) (Option.none : Option FieldType)),
  (Cond.code ({ cls := "ChainHouseModel$StepMachineModel", name := "get", desc := "(I)I" } : MethodName) prog_20_method_38_code (2 : Nat) (Option.some FieldType.int)),
  (Cond.code ({ cls := "ChainHouseModel", name := "get", desc := "(I)I" } : MethodName) prog_15_method_164_code (2 : Nat) (Option.some FieldType.int)),
  (Cond.code ({ cls := "ChainHouseModel$StepMachineModel", name := "haltAt", desc := "(I)I" } : MethodName) prog_20_method_40_code (3 : Nat) (Option.some FieldType.int)),
  (Cond.code ({ cls := "ChainHouseModel$StepMachineModel", name := "forget", desc := "()V" } : MethodName) prog_20_method_31_code (1 : Nat) (Option.none : Option FieldType)),
  (Cond.code ({ cls := "ChainHouseModel$StepMachineModel", name := "halt", desc := "(IZ)Z" } : MethodName) prog_20_method_41_code (4 : Nat) (Option.some FieldType.boolean)),
  (Cond.code ({ cls := "ChainHouseModel", name := "halt", desc := "(IZ)Z" } : MethodName) prog_15_method_167_code (3 : Nat) (Option.some FieldType.boolean)),
  (Cond.code ({ cls := "ChainHouseModel$StepMachineModel", name := "input", desc := "(IJ)Z" } : MethodName) prog_20_method_39_code (5 : Nat) (Option.some FieldType.boolean)),
  (Cond.code ({ cls := "ChainHouseModel", name := "input", desc := "(IJ)Z" } : MethodName) prog_15_method_166_code (4 : Nat) (Option.some FieldType.boolean)),
  (Cond.code ({ cls := "ChainHouseModel", name := "isIn", desc := "(I)Z" } : MethodName) prog_15_method_94_code (2 : Nat) (Option.some FieldType.boolean)),
  (Cond.code ({ cls := "ChainHouseModel$CodeWordsModel", name := "letter", desc := "(I)I" } : MethodName) prog_16_method_55_code (2 : Nat) (Option.some FieldType.int)),
  (Cond.code ({ cls := "ChainHouseModel", name := "letter", desc := "(I)I" } : MethodName) prog_15_method_172_code (2 : Nat) (Option.some FieldType.int)),
  (Cond.code ({ cls := "ChainHouseModel", name := "refuse", desc := "(III)Z" } : MethodName) prog_15_method_93_code (4 : Nat) (Option.some FieldType.boolean)),
  (Cond.code ({ cls := "ChainHouseModel", name := "readUnits", desc := "()Z" } : MethodName) prog_15_method_95_code (3 : Nat) (Option.some FieldType.boolean)),
  (Cond.code ({ cls := "ChainHouseModel", name := "link", desc := "(IZ)I" } : MethodName) prog_15_method_154_code (5 : Nat) (Option.some FieldType.int)),
  (Cond.code ({ cls := "ChainHouseModel", name := "linked", desc := "(I)I" } : MethodName) prog_15_method_155_code (2 : Nat) (Option.some FieldType.int)),
  (Cond.code ({ cls := "ChainHouseModel$ImageFileModel", name := "fault", desc := "(II)I" } : MethodName) prog_17_method_41_code (3 : Nat) (Option.some FieldType.int)),
  (Cond.code ({ cls := "ChainHouseModel$ImageFileModel", name := "headFault", desc := "()I" } : MethodName) prog_17_method_42_code (4 : Nat) (Option.some FieldType.int)),
  (Cond.code ({ cls := "ChainHouseModel$ImageFileModel", name := "read", desc := "()I" } : MethodName) prog_17_method_58_code (5 : Nat) (Option.some FieldType.int)),
  (Cond.code ({ cls := "ChainHouseModel$ImageFileModel", name := "place", desc := "()I" } : MethodName) prog_17_method_59_code (1 : Nat) (Option.some FieldType.int)),
  (Cond.code ({ cls := "ChainHouseModel", name := "load", desc := "()I" } : MethodName) prog_15_method_157_code (6 : Nat) (Option.some FieldType.int)),
  (Cond.code ({ cls := "ChainHouseModel$ObjectFileModel", name := "section", desc := "(II)I" } : MethodName) prog_18_method_82_code (3 : Nat) (Option.some FieldType.int)),
  (Cond.code ({ cls := "ChainHouseModel$ObjectFileModel", name := "startAt", desc := "(I)I" } : MethodName) prog_18_method_85_code (2 : Nat) (Option.some FieldType.int)),
  (Cond.code ({ cls := "ChainHouseModel$ObjectFileModel", name := "symbolAt", desc := "(II)I" } : MethodName) prog_18_method_86_code (4 : Nat) (Option.some FieldType.int)),
  (Cond.code ({ cls := "ChainHouseModel$ObjectFileModel", name := "relocationAt", desc := "(II)I" } : MethodName) prog_18_method_87_code (4 : Nat) (Option.some FieldType.int)),
  (Cond.code ({ cls := "ChainHouseModel$ObjectFileModel", name := "count", desc := "(I)I" } : MethodName) prog_18_method_84_code (4 : Nat) (Option.some FieldType.int)),
  (Cond.code ({ cls := "ChainHouseModel$ObjectFileModel", name := "place", desc := "()I" } : MethodName) prog_18_method_80_code (1 : Nat) (Option.some FieldType.int)),
  (Cond.code ({ cls := "ChainHouseModel", name := "object", desc := "(III)I" } : MethodName) prog_15_method_14_code (4 : Nat) (Option.some FieldType.int)),
  (Cond.code ({ cls := "ChainHouseModel$StepMachineModel", name := "output", desc := "(I)I" } : MethodName) prog_20_method_68_code (2 : Nat) (Option.some FieldType.int)),
  (Cond.code ({ cls := "ChainHouseModel", name := "output", desc := "(I)I" } : MethodName) prog_15_method_169_code (2 : Nat) (Option.some FieldType.int)),
  (Cond.code ({ cls := "ChainHouseModel$StepMachineModel", name := "peek", desc := "(I)I" } : MethodName) prog_20_method_36_code (2 : Nat) (Option.some FieldType.int)),
  (Cond.code ({ cls := "ChainHouseModel", name := "peek", desc := "(I)I" } : MethodName) prog_15_method_165_code (2 : Nat) (Option.some FieldType.int)),
  (Cond.code ({ cls := "ChainHouseModel", name := "place", desc := "()I" } : MethodName) prog_15_method_159_code (1 : Nat) (Option.some FieldType.int)),
  (Cond.code ({ cls := "ChainHouseModel$StepMachineModel", name := "rightsOf", desc := "(J)I" } : MethodName) prog_20_method_42_code (4 : Nat) (Option.some FieldType.int)),
  (Cond.code ({ cls := "ChainHouseModel$StepMachineModel", name := "isMarked", desc := "(J)Z" } : MethodName) prog_20_method_43_code (3 : Nat) (Option.some FieldType.boolean)),
  (Cond.code ({ cls := "ChainHouseModel$StepMachineModel", name := "rights", desc := "(I)I" } : MethodName) prog_20_method_69_code (2 : Nat) (Option.some FieldType.int)),
  (Cond.code ({ cls := "ChainHouseModel", name := "rights", desc := "(I)I" } : MethodName) prog_15_method_170_code (2 : Nat) (Option.some FieldType.int)),
  (Cond.code ({ cls := "ChainHouseModel$StepMachineModel", name := "isEnd", desc := "()Z" } : MethodName) prog_20_method_63_code (1 : Nat) (Option.some FieldType.boolean)),
  (Cond.code ({ cls := "ChainHouseModel$StepMachineModel", name := "isUnit", desc := "()Z" } : MethodName) prog_20_method_62_code (1 : Nat) (Option.some FieldType.boolean)),
  (Cond.code ({ cls := "ChainHouseModel$StepMachineModel", name := "bare", desc := "(I)J" } : MethodName) prog_20_method_44_code (1 : Nat) (Option.some FieldType.long)),
  (Cond.code ({ cls := "ChainHouseModel$StepMachineModel", name := "without", desc := "(JII)J" } : MethodName) prog_20_method_46_code (6 : Nat) (Option.some FieldType.long)),
  (Cond.code ({ cls := "ChainHouseModel$StepMachineModel", name := "fail", desc := "(II)I" } : MethodName) prog_20_method_45_code (3 : Nat) (Option.some FieldType.int)),
  (Cond.code ({ cls := "ChainHouseModel$StepMachineModel", name := "isFetched", desc := "()Z" } : MethodName) prog_20_method_48_code (7 : Nat) (Option.some FieldType.boolean)),
  (Cond.code ({ cls := "ChainHouseModel$StepMachineModel", name := "step", desc := "()I" } : MethodName) prog_20_method_64_code (4 : Nat) (Option.some FieldType.int)),
  (Cond.code ({ cls := "ChainHouseModel$StepMachineModel", name := "run", desc := "(I)I" } : MethodName) prog_20_method_65_code (5 : Nat) (Option.some FieldType.int)),
  (Cond.code ({ cls := "ChainHouseModel", name := "run", desc := "(I)I" } : MethodName) prog_15_method_161_code (2 : Nat) (Option.some FieldType.int)),
  (Cond.code ({ cls := "ChainHouseModel$StepMachineModel", name := "set", desc := "(II)Z" } : MethodName) prog_20_method_37_code (3 : Nat) (Option.some FieldType.boolean)),
  (Cond.code ({ cls := "ChainHouseModel", name := "set", desc := "(II)Z" } : MethodName) prog_15_method_163_code (3 : Nat) (Option.some FieldType.boolean)),
  (Cond.code ({ cls := "ChainHouseModel", name := "size", desc := "(I)I" } : MethodName) prog_15_method_7_code (2 : Nat) (Option.some FieldType.int)),
  (Cond.code ({ cls := "ChainHouseModel", name := "spoil", desc := "(III)I" } : MethodName) prog_15_method_11_code (5 : Nat) (Option.some FieldType.int)),
  (Cond.code ({ cls := "ChainHouseModel$StepMachineModel", name := "state", desc := "(I)I" } : MethodName) prog_20_method_67_code (2 : Nat) (Option.some FieldType.int)),
  (Cond.code ({ cls := "ChainHouseModel", name := "state", desc := "(I)I" } : MethodName) prog_15_method_168_code (2 : Nat) (Option.some FieldType.int)),
  (Cond.code ({ cls := "ChainHouseModel", name := "step", desc := "()I" } : MethodName) prog_15_method_160_code (1 : Nat) (Option.some FieldType.int)),
  (Cond.code ({ cls := "ChainHouseModel", name := "take", desc := "(I)I" } : MethodName) prog_15_method_6_code (3 : Nat) (Option.some FieldType.int)),
  (Cond.code ({ cls := "ChainHouseModel$CodeWordsModel", name := "isLong", desc := "(I)Z" } : MethodName) prog_16_method_27_code (1 : Nat) (Option.some FieldType.boolean)),
  (Cond.code ({ cls := "ChainHouseModel$CodeWordsModel", name := "bitsOf", desc := "(I)I" } : MethodName) prog_16_method_17_code (1 : Nat) (Option.some FieldType.int)),
  (Cond.code ({ cls := "ChainHouseModel$CodeWordsModel", name := "isShortPart", desc := "(II)Z" } : MethodName) prog_16_method_19_code (4 : Nat) (Option.some FieldType.boolean)),
  (Cond.code ({ cls := "ChainHouseModel$CodeWordsModel", name := "signOf", desc := "(I)I" } : MethodName) prog_16_method_23_code (1 : Nat) (Option.some FieldType.int)),
  (Cond.code ({ cls := "ChainHouseModel$CodeWordsModel", name := "has", desc := "(II)Z" } : MethodName) prog_16_method_18_code (5 : Nat) (Option.some FieldType.boolean)),
  (Cond.code ({ cls := "ChainHouseModel$CodeWordsModel", name := "isRegister", desc := "(III)Z" } : MethodName) prog_16_method_20_code (4 : Nat) (Option.some FieldType.boolean)),
  (Cond.code ({ cls := "ChainHouseModel$CodeWordsModel", name := "isStep", desc := "(JJJJ)Z" } : MethodName) prog_16_method_21_code (8 : Nat) (Option.some FieldType.boolean)),
  (Cond.code ({ cls := "ChainHouseModel$CodeWordsModel", name := "isImmediate", desc := "(IJ)Z" } : MethodName) prog_16_method_22_code (3 : Nat) (Option.some FieldType.boolean)),
  (Cond.code ({ cls := "ChainHouseModel$CodeWordsModel", name := "areGood", desc := "(I)Z" } : MethodName) prog_16_method_24_code (3 : Nat) (Option.some FieldType.boolean)),
  (Cond.code ({ cls := "ChainHouseModel$CodeWordsModel", name := "take", desc := "(II)Z" } : MethodName) prog_16_method_26_code (6 : Nat) (Option.some FieldType.boolean)),
  (Cond.code ({ cls := "ChainHouseModel$CodeWordsModel", name := "find", desc := "(I)I" } : MethodName) prog_16_method_28_code (5 : Nat) (Option.some FieldType.int)),
  (Cond.code ({ cls := "ChainHouseModel$CodeWordsModel", name := "say", desc := "(I)V" } : MethodName) prog_16_method_43_code (2 : Nat) (Option.none : Option FieldType)),
  (Cond.code ({ cls := "ChainHouseModel$CodeWordsModel", name := "lettersOf", desc := "(J)I" } : MethodName) prog_16_method_42_code (5 : Nat) (Option.some FieldType.int)),
  (Cond.code ({ cls := "ChainHouseModel$CodeWordsModel", name := "sayName", desc := "(J)V" } : MethodName) prog_16_method_44_code (8 : Nat) (Option.none : Option FieldType)),
  (Cond.code ({ cls := "ChainHouseModel$CodeWordsModel", name := "sayHexadecimal", desc := "(I)V" } : MethodName) prog_16_method_46_code (5 : Nat) (Option.none : Option FieldType)),
  (Cond.code ({ cls := "ChainHouseModel$CodeWordsModel", name := "tell", desc := "(II)I" } : MethodName) prog_16_method_54_code (4 : Nat) (Option.some FieldType.int)),
  (Cond.code ({ cls := "ChainHouseModel", name := "tell", desc := "(I)I" } : MethodName) prog_15_method_171_code (3 : Nat) (Option.some FieldType.int)),
  (Cond.code ({ cls := "ChainHouseModel", name := "thrown", desc := "()I" } : MethodName) prog_15_method_2_code (1 : Nat) (Option.some FieldType.int)),
  (Cond.code ({ cls := "ChainHouseModel", name := "where", desc := "(JJ)I" } : MethodName) prog_15_method_156_code (9 : Nat) (Option.some FieldType.int)),
  (Cond.selects "ChainHouse" ({ cls := "ChainHouse", name := "assemble", desc := "(I)I" } : MethodName) ({ cls := "ChainHouse", name := "assemble", desc := "(I)I" } : MethodName)),
  (Cond.selects "ChainHouse" ({ cls := "ChainHouse", name := "take", desc := "(I)I" } : MethodName) ({ cls := "ChainHouse", name := "take", desc := "(I)I" } : MethodName)),
  (Cond.selects "ChainHouse" ({ cls := "ChainHouse", name := "check", desc := "(I)I" } : MethodName) ({ cls := "ChainHouse", name := "check", desc := "(I)I" } : MethodName)),
  (Cond.selects "ChainHouse" ({ cls := "ChainHouse", name := "link", desc := "(IZ)I" } : MethodName) ({ cls := "ChainHouse", name := "link", desc := "(IZ)I" } : MethodName)),
  (Cond.selects "ChainHouse" ({ cls := "ChainHouse", name := "where", desc := "(JJ)I" } : MethodName) ({ cls := "ChainHouse", name := "where", desc := "(JJ)I" } : MethodName)),
  (Cond.code ({ cls := "java/lang/Throwable", name := "<init>", desc := "()V" } : MethodName) prog_34_method_1_code (1 : Nat) (Option.none : Option FieldType)),
  (Cond.codeSync ({ cls := "java/lang/Throwable", name := "fillInStackTrace", desc := "()Ljava/lang/Throwable;" } : MethodName) prog_34_method_18_code (1 : Nat) (Option.some (FieldType.object "java/lang/Throwable"))),
  (Cond.code ({ cls := "java/lang/IndexOutOfBoundsException", name := "<init>", desc := "()V" } : MethodName) prog_28_method_1_code (1 : Nat) (Option.none : Option FieldType)),
  (Cond.code ({ cls := "java/lang/RuntimeException", name := "<init>", desc := "()V" } : MethodName) prog_30_method_1_code (1 : Nat) (Option.none : Option FieldType)),
  (Cond.code ({ cls := "java/lang/Exception", name := "<init>", desc := "()V" } : MethodName) prog_25_method_1_code (1 : Nat) (Option.none : Option FieldType)),
  (Cond.code ({ cls := "java/lang/IllegalArgumentException", name := "<init>", desc := "()V" } : MethodName) prog_26_method_1_code (1 : Nat) (Option.none : Option FieldType)),
  (Cond.code ({ cls := "java/lang/IllegalStateException", name := "<init>", desc := "()V" } : MethodName) prog_27_method_1_code (1 : Nat) (Option.none : Option FieldType)),
  (Cond.code ({ cls := "java/util/NoSuchElementException", name := "<init>", desc := "()V" } : MethodName) prog_37_method_1_code (1 : Nat) (Option.none : Option FieldType)),
  (Cond.codeWith ({ cls := "ChainHouseLaw", name := "assemble", desc := "(LChainHouse;I[J)I" } : MethodName) method_3_code (4 : Nat) (Option.some FieldType.int) [((0 : Nat), (9 : Nat), (12 : Nat), (13 : Nat)), ((0 : Nat), (9 : Nat), (15 : Nat), (15 : Nat))]),
  (Cond.codeWith ({ cls := "ChainHouseLaw", name := "take", desc := "(LChainHouse;I[J)I" } : MethodName) method_4_code (4 : Nat) (Option.some FieldType.int) [((0 : Nat), (9 : Nat), (12 : Nat), (13 : Nat))]),
  (Cond.codeWith ({ cls := "ChainHouseLaw", name := "check", desc := "(LChainHouse;I[J)I" } : MethodName) method_5_code (4 : Nat) (Option.some FieldType.int) [((0 : Nat), (9 : Nat), (12 : Nat), (13 : Nat))]),
  (Cond.codeWith ({ cls := "ChainHouseLaw", name := "link", desc := "(LChainHouse;IZ[J)I" } : MethodName) method_6_code (5 : Nat) (Option.some FieldType.int) [((0 : Nat), (10 : Nat), (13 : Nat), (15 : Nat)), ((0 : Nat), (10 : Nat), (17 : Nat), (27 : Nat))]),
  (Cond.codeWith ({ cls := "ChainHouseLaw", name := "where", desc := "(LChainHouse;JJ[J)I" } : MethodName) method_7_code (7 : Nat) (Option.some FieldType.int) [((0 : Nat), (11 : Nat), (14 : Nat), (33 : Nat))]),
  (Cond.methodLink "ChainHouse$Bytes" (3 : Nat) ({ cls := "java/lang/Object", name := "<init>", desc := "()V" } : MethodName)),
  (Cond.instanceMethod ({ cls := "java/lang/Object", name := "<init>", desc := "()V" } : MethodName)),
  (Cond.code ({ cls := "java/lang/Object", name := "<init>", desc := "()V" } : MethodName) object_method_1_code (1 : Nat) (Option.none : Option FieldType)),
  (Cond.methodLink "ChainHouse$Bytes" (9 : Nat) ({ cls := "java/lang/Math", name := "max", desc := "(II)I" } : MethodName)),
  (Cond.static ({ cls := "java/lang/Math", name := "max", desc := "(II)I" } : MethodName)),
  (Cond.initialized "java/lang/Math"),
  (Cond.code ({ cls := "java/lang/Math", name := "max", desc := "(II)I" } : MethodName) prog_29_method_65_code (2 : Nat) (Option.some FieldType.int)),
  (Cond.arrayClass FieldType.byte),
  (Cond.fieldLink "ChainHouse$Bytes" (15 : Nat) "ChainHouse$Bytes" "row" "[B"),
  (Cond.methodLink "ChainHouse$Source" (3 : Nat) ({ cls := "java/lang/Object", name := "<init>", desc := "()V" } : MethodName)),
  (Cond.classLink "ChainHouse$Source" (11 : Nat) "[[J"),
  (Cond.arrayClass FieldType.long),
  (Cond.fieldLink "ChainHouse$Source" (13 : Nat) "ChainHouse$Source" "names" "[[J"),
  (Cond.classLink "ChainHouse$Source" (16 : Nat) "[[I"),
  (Cond.arrayClass FieldType.int),
  (Cond.fieldLink "ChainHouse$Source" (18 : Nat) "ChainHouse$Source" "statements" "[[I"),
  (Cond.fieldLink "ChainHouse$Source" (21 : Nat) "ChainHouse$Source" "operands" "[[I"),
  (Cond.fieldLink "ChainHouse$Source" (24 : Nat) "ChainHouse$Source" "items" "[[I"),
  (Cond.classLink "ChainHouse$Source" (27 : Nat) "ChainHouse$Bytes"),
  (Cond.instantiable "ChainHouse$Bytes" (2 : Nat)),
  (Cond.initialized "ChainHouse$Bytes"),
  (Cond.methodLink "ChainHouse$Source" (29 : Nat) ({ cls := "ChainHouse$Bytes", name := "<init>", desc := "(I)V" } : MethodName)),
  (Cond.instanceMethod ({ cls := "ChainHouse$Bytes", name := "<init>", desc := "(I)V" } : MethodName)),
  (Cond.fieldLink "ChainHouse$Source" (32 : Nat) "ChainHouse$Source" "text" "LChainHouse$Bytes;"),
  (Cond.fieldLink "ChainHouse$Source" (36 : Nat) "ChainHouse$Source" "words" "[[I"),
  (Cond.fieldLink "ChainHouse$Source" (39 : Nat) "ChainHouse$Source" "pending" "[I"),
  (Cond.methodLink "ChainHouse$Contents" (3 : Nat) ({ cls := "java/lang/Object", name := "<init>", desc := "()V" } : MethodName)),
  (Cond.classLink "ChainHouse$Contents" (11 : Nat) "ChainHouse$Bytes"),
  (Cond.fieldLink "ChainHouse$Contents" (13 : Nat) "ChainHouse$Contents" "bytes" "[LChainHouse$Bytes;"),
  (Cond.fieldLink "ChainHouse$Contents" (17 : Nat) "ChainHouse$Contents" "alignment" "[I"),
  (Cond.fieldLink "ChainHouse$Contents" (21 : Nat) "ChainHouse$Contents" "starts" "[I"),
  (Cond.classLink "ChainHouse$Contents" (24 : Nat) "[[J"),
  (Cond.fieldLink "ChainHouse$Contents" (26 : Nat) "ChainHouse$Contents" "names" "[[J"),
  (Cond.classLink "ChainHouse$Contents" (29 : Nat) "[[I"),
  (Cond.fieldLink "ChainHouse$Contents" (31 : Nat) "ChainHouse$Contents" "symbols" "[[I"),
  (Cond.fieldLink "ChainHouse$Contents" (34 : Nat) "ChainHouse$Contents" "relocations" "[[I"),
  (Cond.methodLink "ChainHouse$Contents" (37 : Nat) ({ cls := "ChainHouse$Bytes", name := "<init>", desc := "(I)V" } : MethodName)),
  (Cond.methodLink "ChainHouse$Scope" (3 : Nat) ({ cls := "java/lang/Object", name := "<init>", desc := "()V" } : MethodName)),
  (Cond.classLink "ChainHouse$Scope" (9 : Nat) "ChainHouse$Source"),
  (Cond.instantiable "ChainHouse$Source" (18 : Nat)),
  (Cond.initialized "ChainHouse$Source"),
  (Cond.instanceMethod ({ cls := "ChainHouse$Source", name := "<init>", desc := "()V" } : MethodName)),
  (Cond.fieldLink "ChainHouse$Scope" (12 : Nat) "ChainHouse$Scope" "source" "LChainHouse$Source;"),
  (Cond.classLink "ChainHouse$Scope" (18 : Nat) "ChainHouse$Contents"),
  (Cond.instantiable "ChainHouse$Contents" (10 : Nat)),
  (Cond.initialized "ChainHouse$Contents"),
  (Cond.methodLink "ChainHouse$Scope" (20 : Nat) ({ cls := "ChainHouse$Contents", name := "<init>", desc := "()V" } : MethodName)),
  (Cond.instanceMethod ({ cls := "ChainHouse$Contents", name := "<init>", desc := "()V" } : MethodName)),
  (Cond.fieldLink "ChainHouse$Scope" (21 : Nat) "ChainHouse$Scope" "contents" "LChainHouse$Contents;"),
  (Cond.fieldLink "ChainHouse$Scope" (25 : Nat) "ChainHouse$Scope" "symbolOf" "[I"),
  (Cond.fieldLink "ChainHouse$Scope" (29 : Nat) "ChainHouse$Scope" "latest" "[I"),
  (Cond.fieldLink "ChainHouse$Scope" (32 : Nat) "ChainHouse$Scope" "next" "[I"),
  (Cond.fieldLink "ChainHouse$Scope" (35 : Nat) "ChainHouse$Scope" "nextPlace" "[I"),
  (Cond.classLink "ChainHouse$Scope" (38 : Nat) "[[I"),
  (Cond.fieldLink "ChainHouse$Scope" (40 : Nat) "ChainHouse$Scope" "stack" "[[I"),
  (Cond.fieldLink "ChainHouse$Scope" (43 : Nat) "ChainHouse$Scope" "values" "[[I"),
  (Cond.methodLink "ChainHouse$Assembler" (3 : Nat) ({ cls := "java/lang/Object", name := "<init>", desc := "()V" } : MethodName)),
  (Cond.fieldLink "ChainHouse$Assembler" (9 : Nat) "ChainHouse$Assembler" "place" "I"),
  (Cond.classLink "ChainHouse$Assembler" (15 : Nat) "ChainHouse$Scope"),
  (Cond.instantiable "ChainHouse$Scope" (16 : Nat)),
  (Cond.initialized "ChainHouse$Scope"),
  (Cond.instanceMethod ({ cls := "ChainHouse$Scope", name := "<init>", desc := "()V" } : MethodName)),
  (Cond.fieldLink "ChainHouse$Assembler" (18 : Nat) "ChainHouse$Assembler" "scope" "LChainHouse$Scope;"),
  (Cond.fieldLink "ChainHouse$Assembler" (22 : Nat) "ChainHouse$Assembler" "pushed" "[I"),
  (Cond.methodLink "ChainHouse$ObjectFile" (3 : Nat) ({ cls := "java/lang/Object", name := "<init>", desc := "()V" } : MethodName)),
  (Cond.fieldLink "ChainHouse$ObjectFile" (9 : Nat) "ChainHouse$ObjectFile" "place" "I"),
  (Cond.classLink "ChainHouse$ObjectFile" (15 : Nat) "ChainHouse$Contents"),
  (Cond.methodLink "ChainHouse$ObjectFile" (17 : Nat) ({ cls := "ChainHouse$Contents", name := "<init>", desc := "()V" } : MethodName)),
  (Cond.fieldLink "ChainHouse$ObjectFile" (18 : Nat) "ChainHouse$ObjectFile" "contents" "LChainHouse$Contents;"),
  (Cond.classLink "ChainHouse$ObjectFile" (22 : Nat) "ChainHouse$Bytes"),
  (Cond.methodLink "ChainHouse$ObjectFile" (24 : Nat) ({ cls := "ChainHouse$Bytes", name := "<init>", desc := "(I)V" } : MethodName)),
  (Cond.fieldLink "ChainHouse$ObjectFile" (27 : Nat) "ChainHouse$ObjectFile" "file" "LChainHouse$Bytes;"),
  (Cond.fieldLink "ChainHouse$ObjectFile" (31 : Nat) "ChainHouse$ObjectFile" "strings" "LChainHouse$Bytes;"),
  (Cond.fieldLink "ChainHouse$ObjectFile" (34 : Nat) "ChainHouse$ObjectFile" "entryOf" "[I"),
  (Cond.fieldLink "ChainHouse$ObjectFile" (38 : Nat) "ChainHouse$ObjectFile" "begins" "[I"),
  (Cond.fieldLink "ChainHouse$ObjectFile" (41 : Nat) "ChainHouse$ObjectFile" "lengths" "[I"),
  (Cond.fieldLink "ChainHouse$ObjectFile" (44 : Nat) "ChainHouse$ObjectFile" "nameAt" "[I"),
  (Cond.fieldLink "ChainHouse$ObjectFile" (47 : Nat) "ChainHouse$ObjectFile" "partOf" "[I"),
  (Cond.fieldLink "ChainHouse$ObjectFile" (50 : Nat) "ChainHouse$ObjectFile" "order" "[I"),
  (Cond.fieldLink "ChainHouse$ObjectFile" (53 : Nat) "ChainHouse$ObjectFile" "numberOf" "[I"),
  (Cond.methodLink "ChainHouse$Globals" (3 : Nat) ({ cls := "java/lang/Object", name := "<init>", desc := "()V" } : MethodName)),
  (Cond.classLink "ChainHouse$Globals" (11 : Nat) "[[J"),
  (Cond.fieldLink "ChainHouse$Globals" (13 : Nat) "ChainHouse$Globals" "names" "[[J"),
  (Cond.classLink "ChainHouse$Globals" (16 : Nat) "[[I"),
  (Cond.fieldLink "ChainHouse$Globals" (18 : Nat) "ChainHouse$Globals" "rows" "[[I"),
  (Cond.fieldLink "ChainHouse$Globals" (23 : Nat) "ChainHouse$Globals" "of" "[[I"),
  (Cond.methodLink "ChainHouse$Layout" (3 : Nat) ({ cls := "java/lang/Object", name := "<init>", desc := "()V" } : MethodName)),
  (Cond.classLink "ChainHouse$Layout" (11 : Nat) "[[I"),
  (Cond.fieldLink "ChainHouse$Layout" (13 : Nat) "ChainHouse$Layout" "parts" "[[I"),
  (Cond.fieldLink "ChainHouse$Layout" (16 : Nat) "ChainHouse$Layout" "pieces" "[[I"),
  (Cond.fieldLink "ChainHouse$Layout" (19 : Nat) "ChainHouse$Layout" "labels" "[[I"),
  (Cond.fieldLink "ChainHouse$Layout" (22 : Nat) "ChainHouse$Layout" "begins" "[I"),
  (Cond.fieldLink "ChainHouse$Layout" (26 : Nat) "ChainHouse$Layout" "ends" "[I"),
  (Cond.methodLink "ChainHouse$Image" (5 : Nat) ({ cls := "java/lang/Object", name := "<init>", desc := "()V" } : MethodName)),
  (Cond.arrayClass FieldType.boolean),
  (Cond.fieldLink "ChainHouse$Image" (11 : Nat) "ChainHouse$Image" "isThere" "[Z"),
  (Cond.fieldLink "ChainHouse$Image" (15 : Nat) "ChainHouse$Image" "address" "[I"),
  (Cond.classLink "ChainHouse$Image" (19 : Nat) "ChainHouse$Bytes"),
  (Cond.fieldLink "ChainHouse$Image" (21 : Nat) "ChainHouse$Image" "bytes" "[LChainHouse$Bytes;"),
  (Cond.fieldLink "ChainHouse$Image" (25 : Nat) "ChainHouse$Image" "more" "[I"),
  (Cond.fieldLink "ChainHouse$Image" (28 : Nat) "ChainHouse$Image" "marks" "[Z"),
  (Cond.fieldLink "ChainHouse$Image" (31 : Nat) "ChainHouse$Image" "place" "I"),
  (Cond.methodLink "ChainHouse$Image" (35 : Nat) ({ cls := "ChainHouse$Bytes", name := "<init>", desc := "(I)V" } : MethodName)),
  (Cond.fieldLink "ChainHouse$Image" (38 : Nat) "ChainHouse$Image" "file" "LChainHouse$Bytes;"),
  (Cond.fieldLink "ChainHouse$Image" (42 : Nat) "ChainHouse$Image" "rowOf" "[I"),
  (Cond.methodLink "ChainHouse$Word" (3 : Nat) ({ cls := "java/lang/Object", name := "<init>", desc := "()V" } : MethodName)),
  (Cond.fieldLink "ChainHouse$Word" (11 : Nat) "ChainHouse$Word" "kind" "I"),
  (Cond.methodLink "ChainHouse$Linker" (3 : Nat) ({ cls := "java/lang/Object", name := "<init>", desc := "()V" } : MethodName)),
  (Cond.fieldLink "ChainHouse$Linker" (9 : Nat) "ChainHouse$Linker" "unit" "I"),
  (Cond.fieldLink "ChainHouse$Linker" (15 : Nat) "ChainHouse$Linker" "number" "I"),
  (Cond.classLink "ChainHouse$Linker" (18 : Nat) "ChainHouse$Contents"),
  (Cond.fieldLink "ChainHouse$Linker" (20 : Nat) "ChainHouse$Linker" "objects" "[LChainHouse$Contents;"),
  (Cond.fieldLink "ChainHouse$Linker" (24 : Nat) "ChainHouse$Linker" "units" "[I"),
  (Cond.classLink "ChainHouse$Linker" (28 : Nat) "ChainHouse$Globals"),
  (Cond.instantiable "ChainHouse$Globals" (4 : Nat)),
  (Cond.initialized "ChainHouse$Globals"),
  (Cond.instanceMethod ({ cls := "ChainHouse$Globals", name := "<init>", desc := "()V" } : MethodName)),
  (Cond.fieldLink "ChainHouse$Linker" (31 : Nat) "ChainHouse$Linker" "globals" "LChainHouse$Globals;"),
  (Cond.fieldLink "ChainHouse$Linker" (35 : Nat) "ChainHouse$Linker" "known" "LChainHouse$Globals;"),
  (Cond.classLink "ChainHouse$Linker" (38 : Nat) "ChainHouse$Layout"),
  (Cond.instantiable "ChainHouse$Layout" (8 : Nat)),
  (Cond.initialized "ChainHouse$Layout"),
  (Cond.instanceMethod ({ cls := "ChainHouse$Layout", name := "<init>", desc := "()V" } : MethodName)),
  (Cond.fieldLink "ChainHouse$Linker" (41 : Nat) "ChainHouse$Linker" "layout" "LChainHouse$Layout;"),
  (Cond.classLink "ChainHouse$Linker" (45 : Nat) "ChainHouse$Image"),
  (Cond.instantiable "ChainHouse$Image" (13 : Nat)),
  (Cond.initialized "ChainHouse$Image"),
  (Cond.methodLink "ChainHouse$Linker" (47 : Nat) ({ cls := "ChainHouse$Image", name := "<init>", desc := "()V" } : MethodName)),
  (Cond.instanceMethod ({ cls := "ChainHouse$Image", name := "<init>", desc := "()V" } : MethodName)),
  (Cond.fieldLink "ChainHouse$Linker" (48 : Nat) "ChainHouse$Linker" "image" "LChainHouse$Image;"),
  (Cond.classLink "ChainHouse$Linker" (52 : Nat) "ChainHouse$Word"),
  (Cond.instantiable "ChainHouse$Word" (5 : Nat)),
  (Cond.initialized "ChainHouse$Word"),
  (Cond.instanceMethod ({ cls := "ChainHouse$Word", name := "<init>", desc := "()V" } : MethodName)),
  (Cond.fieldLink "ChainHouse$Linker" (55 : Nat) "ChainHouse$Linker" "word" "LChainHouse$Word;"),
  (Cond.classLink "ChainHouse$Linker" (59 : Nat) "[[I"),
  (Cond.fieldLink "ChainHouse$Linker" (61 : Nat) "ChainHouse$Linker" "own" "[[I"),
  (Cond.fieldLink "ChainHouse$Linker" (64 : Nat) "ChainHouse$Linker" "eased" "[[I"),
  (Cond.fieldLink "ChainHouse$Linker" (67 : Nat) "ChainHouse$Linker" "labels" "[[I"),
  (Cond.fieldLink "ChainHouse$Linker" (70 : Nat) "ChainHouse$Linker" "spots" "[[I"),
  (Cond.fieldLink "ChainHouse$Linker" (73 : Nat) "ChainHouse$Linker" "order" "[I"),
  (Cond.methodLink "ChainHouse$Linker" (76 : Nat) ({ cls := "ChainHouse$Contents", name := "<init>", desc := "()V" } : MethodName)),
  (Cond.methodLink "ChainHouse$Machine" (3 : Nat) ({ cls := "java/lang/Object", name := "<init>", desc := "()V" } : MethodName)),
  (Cond.constant "ChainHouse$Machine" (11 : Nat) (32768 : Int32)),
  (Cond.fieldLink "ChainHouse$Machine" (12 : Nat) "ChainHouse$Machine" "memory" "[I"),
  (Cond.fieldLink "ChainHouse$Machine" (16 : Nat) "ChainHouse$Machine" "registers" "[I"),
  (Cond.classLink "ChainHouse$Machine" (19 : Nat) "ChainHouse$Bytes"),
  (Cond.methodLink "ChainHouse$Machine" (21 : Nat) ({ cls := "ChainHouse$Bytes", name := "<init>", desc := "(I)V" } : MethodName)),
  (Cond.fieldLink "ChainHouse$Machine" (24 : Nat) "ChainHouse$Machine" "output" "LChainHouse$Bytes;"),
  (Cond.fieldLink "ChainHouse$Machine" (30 : Nat) "ChainHouse$Machine" "begins" "[I"),
  (Cond.fieldLink "ChainHouse$Machine" (33 : Nat) "ChainHouse$Machine" "extents" "[I"),
  (Cond.fieldLink "ChainHouse$Machine" (36 : Nat) "ChainHouse$Machine" "marks" "[Z"),
  (Cond.fieldLink "ChainHouse$Machine" (40 : Nat) "ChainHouse$Machine" "halts" "[I"),
  (Cond.fieldLink "ChainHouse$Machine" (43 : Nat) "ChainHouse$Machine" "input" "LChainHouse$Bytes;"),
  (Cond.classLink "ChainHouse$Machine" (46 : Nat) "[[I"),
  (Cond.fieldLink "ChainHouse$Machine" (48 : Nat) "ChainHouse$Machine" "kept" "[[I"),
  (Cond.classLink "ChainHouse$Machine" (51 : Nat) "ChainHouse$Word"),
  (Cond.fieldLink "ChainHouse$Machine" (54 : Nat) "ChainHouse$Machine" "word" "LChainHouse$Word;"),
  (Cond.methodLink "ChainHouse" (1 : Nat) ({ cls := "java/lang/Object", name := "<init>", desc := "()V" } : MethodName)),
  (Cond.fieldLink "ChainHouse" (9 : Nat) "ChainHouse" "waiting" "[B"),
  (Cond.classLink "ChainHouse" (13 : Nat) "ChainHouse$Bytes"),
  (Cond.methodLink "ChainHouse" (15 : Nat) ({ cls := "ChainHouse$Bytes", name := "<init>", desc := "(I)V" } : MethodName)),
  (Cond.fieldLink "ChainHouse" (18 : Nat) "ChainHouse" "text" "LChainHouse$Bytes;"),
  (Cond.fieldLink "ChainHouse" (22 : Nat) "ChainHouse" "files" "[LChainHouse$Bytes;"),
  (Cond.fieldLink "ChainHouse" (26 : Nat) "ChainHouse" "image" "LChainHouse$Bytes;"),
  (Cond.fieldLink "ChainHouse" (29 : Nat) "ChainHouse" "scratch" "LChainHouse$Bytes;"),
  (Cond.fieldLink "ChainHouse" (32 : Nat) "ChainHouse" "out" "LChainHouse$Bytes;"),
  (Cond.classLink "ChainHouse" (35 : Nat) "ChainHouse$Assembler"),
  (Cond.instantiable "ChainHouse$Assembler" (17 : Nat)),
  (Cond.initialized "ChainHouse$Assembler"),
  (Cond.instanceMethod ({ cls := "ChainHouse$Assembler", name := "<init>", desc := "()V" } : MethodName)),
  (Cond.fieldLink "ChainHouse" (38 : Nat) "ChainHouse" "assembler" "LChainHouse$Assembler;"),
  (Cond.classLink "ChainHouse" (42 : Nat) "ChainHouse$ObjectFile"),
  (Cond.instantiable "ChainHouse$ObjectFile" (15 : Nat)),
  (Cond.initialized "ChainHouse$ObjectFile"),
  (Cond.instanceMethod ({ cls := "ChainHouse$ObjectFile", name := "<init>", desc := "()V" } : MethodName)),
  (Cond.fieldLink "ChainHouse" (45 : Nat) "ChainHouse" "objectFile" "LChainHouse$ObjectFile;"),
  (Cond.classLink "ChainHouse" (49 : Nat) "ChainHouse$Linker"),
  (Cond.instantiable "ChainHouse$Linker" (19 : Nat)),
  (Cond.initialized "ChainHouse$Linker"),
  (Cond.methodLink "ChainHouse" (51 : Nat) ({ cls := "ChainHouse$Linker", name := "<init>", desc := "()V" } : MethodName)),
  (Cond.instanceMethod ({ cls := "ChainHouse$Linker", name := "<init>", desc := "()V" } : MethodName)),
  (Cond.fieldLink "ChainHouse" (52 : Nat) "ChainHouse" "linker" "LChainHouse$Linker;"),
  (Cond.classLink "ChainHouse" (56 : Nat) "ChainHouse$Image"),
  (Cond.methodLink "ChainHouse" (58 : Nat) ({ cls := "ChainHouse$Image", name := "<init>", desc := "()V" } : MethodName)),
  (Cond.fieldLink "ChainHouse" (59 : Nat) "ChainHouse" "loaded" "LChainHouse$Image;"),
  (Cond.classLink "ChainHouse" (63 : Nat) "ChainHouse$Machine"),
  (Cond.instantiable "ChainHouse$Machine" (19 : Nat)),
  (Cond.initialized "ChainHouse$Machine"),
  (Cond.instanceMethod ({ cls := "ChainHouse$Machine", name := "<init>", desc := "()V" } : MethodName)),
  (Cond.fieldLink "ChainHouse" (66 : Nat) "ChainHouse" "machine" "LChainHouse$Machine;"),
  (Cond.classLink "ChainHouse" (70 : Nat) "ChainHouse$Contents"),
  (Cond.methodLink "ChainHouse" (72 : Nat) ({ cls := "ChainHouse$Contents", name := "<init>", desc := "()V" } : MethodName)),
  (Cond.fieldLink "ChainHouse" (73 : Nat) "ChainHouse" "checked" "LChainHouse$Contents;"),
  (Cond.fieldLink "ChainHouse" (77 : Nat) "ChainHouse" "spare" "LChainHouse$Contents;"),
  (Cond.fieldLink "ChainHouse" (80 : Nat) "ChainHouse" "checkPlace" "I"),
  (Cond.fieldLink "ChainHouse" (84 : Nat) "ChainHouse" "loadPlace" "I"),
  (Cond.fieldLink "ChainHouse$Assembler" (26 : Nat) "ChainHouse$Scope" "source" "LChainHouse$Source;"),
  (Cond.fieldLink "ChainHouse$Bytes" (21 : Nat) "ChainHouse$Bytes" "count" "I"),
  (Cond.fieldLink "ChainHouse$Source" (62 : Nat) "ChainHouse$Source" "wordCount" "I"),
  (Cond.fieldLink "ChainHouse$Source" (77 : Nat) "ChainHouse$Source" "at" "I"),
  (Cond.methodLink "ChainHouse$Source" (154 : Nat) ({ cls := "ChainHouse$Source", name := "sortAt", desc := "(I)I" } : MethodName)),
  (Cond.instanceMethod ({ cls := "ChainHouse$Source", name := "sortAt", desc := "(I)I" } : MethodName)),
  (Cond.selects "ChainHouse$Source" ({ cls := "ChainHouse$Source", name := "sortAt", desc := "(I)I" } : MethodName) ({ cls := "ChainHouse$Source", name := "sortAt", desc := "(I)I" } : MethodName)),
  (Cond.fieldLink "ChainHouse$Source" (43 : Nat) "ChainHouse$Source" "fault" "I"),
  (Cond.fieldLink "ChainHouse$Source" (47 : Nat) "ChainHouse$Source" "place" "I"),
  (Cond.fieldLink "ChainHouse$Source" (50 : Nat) "ChainHouse$Source" "nameCount" "I"),
  (Cond.fieldLink "ChainHouse$Source" (53 : Nat) "ChainHouse$Source" "statementCount" "I"),
  (Cond.fieldLink "ChainHouse$Source" (56 : Nat) "ChainHouse$Source" "operandCount" "I"),
  (Cond.fieldLink "ChainHouse$Source" (59 : Nat) "ChainHouse$Source" "itemCount" "I"),
  (Cond.methodLink "ChainHouse$Source" (65 : Nat) ({ cls := "ChainHouse$Bytes", name := "length", desc := "()I" } : MethodName)),
  (Cond.instanceMethod ({ cls := "ChainHouse$Bytes", name := "length", desc := "()I" } : MethodName)),
  (Cond.selects "ChainHouse$Bytes" ({ cls := "ChainHouse$Bytes", name := "length", desc := "()I" } : MethodName) ({ cls := "ChainHouse$Bytes", name := "length", desc := "()I" } : MethodName)),
  (Cond.methodLink "ChainHouse$Source" (73 : Nat) ({ cls := "ChainHouse$Source", name := "addWord", desc := "(IIII)V" } : MethodName)),
  (Cond.instanceMethod ({ cls := "ChainHouse$Source", name := "addWord", desc := "(IIII)V" } : MethodName)),
  (Cond.selects "ChainHouse$Source" ({ cls := "ChainHouse$Source", name := "addWord", desc := "(IIII)V" } : MethodName) ({ cls := "ChainHouse$Source", name := "addWord", desc := "(IIII)V" } : MethodName)),
  (Cond.methodLink "ChainHouse$Source" (80 : Nat) ({ cls := "ChainHouse$Source", name := "readLabels", desc := "()Z" } : MethodName)),
  (Cond.instanceMethod ({ cls := "ChainHouse$Source", name := "readLabels", desc := "()Z" } : MethodName)),
  (Cond.selects "ChainHouse$Source" ({ cls := "ChainHouse$Source", name := "readLabels", desc := "()Z" } : MethodName) ({ cls := "ChainHouse$Source", name := "readLabels", desc := "()Z" } : MethodName)),
  (Cond.methodLink "ChainHouse$Contents" (40 : Nat) ({ cls := "ChainHouse$Bytes", name := "clear", desc := "()V" } : MethodName)),
  (Cond.instanceMethod ({ cls := "ChainHouse$Bytes", name := "clear", desc := "()V" } : MethodName)),
  (Cond.selects "ChainHouse$Bytes" ({ cls := "ChainHouse$Bytes", name := "clear", desc := "()V" } : MethodName) ({ cls := "ChainHouse$Bytes", name := "clear", desc := "()V" } : MethodName)),
  (Cond.fieldLink "ChainHouse$Contents" (43 : Nat) "ChainHouse$Contents" "bss" "I"),
  (Cond.fieldLink "ChainHouse$Contents" (47 : Nat) "ChainHouse$Contents" "startCount" "I"),
  (Cond.fieldLink "ChainHouse$Contents" (50 : Nat) "ChainHouse$Contents" "symbolCount" "I"),
  (Cond.fieldLink "ChainHouse$Contents" (53 : Nat) "ChainHouse$Contents" "relocationCount" "I"),
  (Cond.fieldLink "ChainHouse$Scope" (46 : Nat) "ChainHouse$Source" "fault" "I"),
  (Cond.fieldLink "ChainHouse$Scope" (50 : Nat) "ChainHouse$Scope" "fault" "I"),
  (Cond.fieldLink "ChainHouse$Scope" (51 : Nat) "ChainHouse$Source" "place" "I"),
  (Cond.fieldLink "ChainHouse$Scope" (54 : Nat) "ChainHouse$Scope" "place" "I"),
  (Cond.methodLink "ChainHouse$Scope" (55 : Nat) ({ cls := "ChainHouse$Contents", name := "clear", desc := "()V" } : MethodName)),
  (Cond.instanceMethod ({ cls := "ChainHouse$Contents", name := "clear", desc := "()V" } : MethodName)),
  (Cond.selects "ChainHouse$Contents" ({ cls := "ChainHouse$Contents", name := "clear", desc := "()V" } : MethodName) ({ cls := "ChainHouse$Contents", name := "clear", desc := "()V" } : MethodName)),
  (Cond.fieldLink "ChainHouse$Scope" (58 : Nat) "ChainHouse$Scope" "hidden" "I"),
  (Cond.fieldLink "ChainHouse$Scope" (106 : Nat) "ChainHouse$Contents" "symbolCount" "I"),
  (Cond.fieldLink "ChainHouse$ObjectFile" (106 : Nat) "ChainHouse$Contents" "symbolCount" "I"),
  (Cond.fieldLink "ChainHouse$Bytes" (69 : Nat) "ChainHouse$Bytes" "IDENTITY" "[I"),
  (Cond.methodLink "ChainHouse$Bytes" (48 : Nat) ({ cls := "ChainHouse$Bytes", name := "add", desc := "(I)V" } : MethodName)),
  (Cond.instanceMethod ({ cls := "ChainHouse$Bytes", name := "add", desc := "(I)V" } : MethodName)),
  (Cond.selects "ChainHouse$Bytes" ({ cls := "ChainHouse$Bytes", name := "add", desc := "(I)V" } : MethodName) ({ cls := "ChainHouse$Bytes", name := "add", desc := "(I)V" } : MethodName)),
  (Cond.methodLink "ChainHouse$Bytes" (73 : Nat) ({ cls := "ChainHouse$Bytes", name := "addNumber", desc := "(JI)V" } : MethodName)),
  (Cond.instanceMethod ({ cls := "ChainHouse$Bytes", name := "addNumber", desc := "(JI)V" } : MethodName)),
  (Cond.selects "ChainHouse$Bytes" ({ cls := "ChainHouse$Bytes", name := "addNumber", desc := "(JI)V" } : MethodName) ({ cls := "ChainHouse$Bytes", name := "addNumber", desc := "(JI)V" } : MethodName)),
  (Cond.constantLong "ChainHouse$Bytes" (77 : Nat) (243 : Int64)),
  (Cond.fieldLink "ChainHouse$ObjectFile" (118 : Nat) "ChainHouse$Contents" "relocationCount" "I"),
  (Cond.fieldLink "ChainHouse$ObjectFile" (112 : Nat) "ChainHouse$Contents" "startCount" "I"),
  (Cond.methodLink "ChainHouse$ObjectFile" (115 : Nat) ({ cls := "ChainHouse$ObjectFile", name := "relocationsOf", desc := "(I)I" } : MethodName)),
  (Cond.instanceMethod ({ cls := "ChainHouse$ObjectFile", name := "relocationsOf", desc := "(I)I" } : MethodName)),
  (Cond.selects "ChainHouse$ObjectFile" ({ cls := "ChainHouse$ObjectFile", name := "relocationsOf", desc := "(I)I" } : MethodName) ({ cls := "ChainHouse$ObjectFile", name := "relocationsOf", desc := "(I)I" } : MethodName)),
  (Cond.fieldLink "ChainHouse$ObjectFile" (125 : Nat) "ChainHouse$Contents" "alignment" "[I"),
  (Cond.fieldLink "ChainHouse$ObjectFile" (128 : Nat) "ChainHouse$ObjectFile" "ALIGNMENTS" "[I"),
  (Cond.methodLink "ChainHouse$Bytes" (32 : Nat) ({ cls := "ChainHouse$Bytes", name := "addZeros", desc := "(I)V" } : MethodName)),
  (Cond.instanceMethod ({ cls := "ChainHouse$Bytes", name := "addZeros", desc := "(I)V" } : MethodName)),
  (Cond.selects "ChainHouse$Bytes" ({ cls := "ChainHouse$Bytes", name := "addZeros", desc := "(I)V" } : MethodName) ({ cls := "ChainHouse$Bytes", name := "addZeros", desc := "(I)V" } : MethodName)),
  (Cond.methodLink "ChainHouse$Bytes" (25 : Nat) ({ cls := "java/lang/Math", name := "min", desc := "(II)I" } : MethodName)),
  (Cond.static ({ cls := "java/lang/Math", name := "min", desc := "(II)I" } : MethodName)),
  (Cond.code ({ cls := "java/lang/Math", name := "min", desc := "(II)I" } : MethodName) prog_29_method_69_code (2 : Nat) (Option.some FieldType.int)),
  (Cond.methodLink "ChainHouse$ObjectFile" (154 : Nat) ({ cls := "ChainHouse$Bytes", name := "clear", desc := "()V" } : MethodName)),
  (Cond.methodLink "ChainHouse$ObjectFile" (157 : Nat) ({ cls := "ChainHouse$Bytes", name := "add", desc := "(I)V" } : MethodName)),
  (Cond.methodLink "ChainHouse$ObjectFile" (66 : Nat) ({ cls := "ChainHouse$Bytes", name := "addZeros", desc := "(I)V" } : MethodName)),
  (Cond.fieldLink "java/lang/String" (38 : Nat) "java/lang/String" "COMPACT_STRINGS" "Z"),
  (Cond.fieldLink "java/lang/String" (15 : Nat) "java/lang/String" "coder" "B"),
  (Cond.fieldLink "java/lang/String" (9 : Nat) "java/lang/String" "value" "[B"),
  (Cond.methodLink "java/lang/String" (335 : Nat) ({ cls := "java/lang/String", name := "coder", desc := "()B" } : MethodName)),
  (Cond.instanceMethod ({ cls := "java/lang/String", name := "coder", desc := "()B" } : MethodName)),
  (Cond.selects "java/lang/String" ({ cls := "java/lang/String", name := "coder", desc := "()B" } : MethodName) ({ cls := "java/lang/String", name := "coder", desc := "()B" } : MethodName)),
  (Cond.fieldLink "java/lang/String" (1053 : Nat) "jdk/internal/util/Preconditions" "SIOOBE_FORMATTER" "Ljava/util/function/BiFunction;"),
  (Cond.methodLink "java/lang/String" (1059 : Nat) ({ cls := "jdk/internal/util/Preconditions", name := "checkIndex", desc := "(IILjava/util/function/BiFunction;)I" } : MethodName)),
  (Cond.static ({ cls := "jdk/internal/util/Preconditions", name := "checkIndex", desc := "(IILjava/util/function/BiFunction;)I" } : MethodName)),
  (Cond.methodLink "java/lang/StringLatin1" (9 : Nat) ({ cls := "java/lang/String", name := "checkIndex", desc := "(II)V" } : MethodName)),
  (Cond.static ({ cls := "java/lang/String", name := "checkIndex", desc := "(II)V" } : MethodName)),
  (Cond.methodLink "java/lang/String" (492 : Nat) ({ cls := "java/lang/String", name := "isLatin1", desc := "()Z" } : MethodName)),
  (Cond.instanceMethod ({ cls := "java/lang/String", name := "isLatin1", desc := "()Z" } : MethodName)),
  (Cond.selects "java/lang/String" ({ cls := "java/lang/String", name := "isLatin1", desc := "()Z" } : MethodName) ({ cls := "java/lang/String", name := "isLatin1", desc := "()Z" } : MethodName)),
  (Cond.methodLink "java/lang/String" (495 : Nat) ({ cls := "java/lang/StringLatin1", name := "charAt", desc := "([BI)C" } : MethodName)),
  (Cond.static ({ cls := "java/lang/StringLatin1", name := "charAt", desc := "([BI)C" } : MethodName)),
  (Cond.methodLink "ChainHouse$Bytes" (51 : Nat) ({ cls := "java/lang/String", name := "length", desc := "()I" } : MethodName)),
  (Cond.instanceMethod ({ cls := "java/lang/String", name := "length", desc := "()I" } : MethodName)),
  (Cond.selects "java/lang/String" ({ cls := "java/lang/String", name := "length", desc := "()I" } : MethodName) ({ cls := "java/lang/String", name := "length", desc := "()I" } : MethodName)),
  (Cond.methodLink "ChainHouse$Bytes" (57 : Nat) ({ cls := "java/lang/String", name := "charAt", desc := "(I)C" } : MethodName)),
  (Cond.instanceMethod ({ cls := "java/lang/String", name := "charAt", desc := "(I)C" } : MethodName)),
  (Cond.selects "java/lang/String" ({ cls := "java/lang/String", name := "charAt", desc := "(I)C" } : MethodName) ({ cls := "java/lang/String", name := "charAt", desc := "(I)C" } : MethodName)),
  (Cond.methodLink "ChainHouse$Bytes" (36 : Nat) ({ cls := "ChainHouse$Bytes", name := "nameByte", desc := "(JJI)I" } : MethodName)),
  (Cond.static ({ cls := "ChainHouse$Bytes", name := "nameByte", desc := "(JJI)I" } : MethodName)),
  (Cond.methodLink "ChainHouse$Bytes" (40 : Nat) ({ cls := "ChainHouse$Bytes", name := "one", desc := "(I)I" } : MethodName)),
  (Cond.instanceMethod ({ cls := "ChainHouse$Bytes", name := "one", desc := "(I)I" } : MethodName)),
  (Cond.selects "ChainHouse$Bytes" ({ cls := "ChainHouse$Bytes", name := "one", desc := "(I)I" } : MethodName) ({ cls := "ChainHouse$Bytes", name := "one", desc := "(I)I" } : MethodName)),
  (Cond.methodLink "ChainHouse$Bytes" (44 : Nat) ({ cls := "ChainHouse$Bytes", name := "holdsName", desc := "(IJJ)Z" } : MethodName)),
  (Cond.instanceMethod ({ cls := "ChainHouse$Bytes", name := "holdsName", desc := "(IJJ)Z" } : MethodName)),
  (Cond.selects "ChainHouse$Bytes" ({ cls := "ChainHouse$Bytes", name := "holdsName", desc := "(IJJ)Z" } : MethodName) ({ cls := "ChainHouse$Bytes", name := "holdsName", desc := "(IJJ)Z" } : MethodName))]
def zu_w1 : List Cond := [
  (Cond.methodLink "ChainHouse$ObjectFile" (177 : Nat) ({ cls := "ChainHouse$Bytes", name := "halfOfWord", desc := "(Ljava/lang/String;II)J" } : MethodName)),
  (Cond.static ({ cls := "ChainHouse$Bytes", name := "halfOfWord", desc := "(Ljava/lang/String;II)J" } : MethodName)),
  (Cond.methodLink "ChainHouse$ObjectFile" (167 : Nat) ({ cls := "ChainHouse$Bytes", name := "placeOfName", desc := "(JJ)I" } : MethodName)),
  (Cond.instanceMethod ({ cls := "ChainHouse$Bytes", name := "placeOfName", desc := "(JJ)I" } : MethodName)),
  (Cond.selects "ChainHouse$Bytes" ({ cls := "ChainHouse$Bytes", name := "placeOfName", desc := "(JJ)I" } : MethodName) ({ cls := "ChainHouse$Bytes", name := "placeOfName", desc := "(JJ)I" } : MethodName)),
  (Cond.methodLink "ChainHouse$ObjectFile" (135 : Nat) ({ cls := "ChainHouse$Bytes", name := "addAll", desc := "(LChainHouse$Bytes;)V" } : MethodName)),
  (Cond.instanceMethod ({ cls := "ChainHouse$Bytes", name := "addAll", desc := "(LChainHouse$Bytes;)V" } : MethodName)),
  (Cond.selects "ChainHouse$Bytes" ({ cls := "ChainHouse$Bytes", name := "addAll", desc := "(LChainHouse$Bytes;)V" } : MethodName) ({ cls := "ChainHouse$Bytes", name := "addAll", desc := "(LChainHouse$Bytes;)V" } : MethodName)),
  (Cond.fieldLink "ChainHouse$ObjectFile" (131 : Nat) "ChainHouse$Contents" "bytes" "[LChainHouse$Bytes;"),
  (Cond.methodLink "ChainHouse$ObjectFile" (145 : Nat) ({ cls := "ChainHouse$ObjectFile", name := "writeSymbols", desc := "(LChainHouse$Bytes;)V" } : MethodName)),
  (Cond.instanceMethod ({ cls := "ChainHouse$ObjectFile", name := "writeSymbols", desc := "(LChainHouse$Bytes;)V" } : MethodName)),
  (Cond.selects "ChainHouse$ObjectFile" ({ cls := "ChainHouse$ObjectFile", name := "writeSymbols", desc := "(LChainHouse$Bytes;)V" } : MethodName) ({ cls := "ChainHouse$ObjectFile", name := "writeSymbols", desc := "(LChainHouse$Bytes;)V" } : MethodName)),
  (Cond.methodLink "ChainHouse$ObjectFile" (148 : Nat) ({ cls := "ChainHouse$ObjectFile", name := "writeNames", desc := "(LChainHouse$Bytes;)V" } : MethodName)),
  (Cond.instanceMethod ({ cls := "ChainHouse$ObjectFile", name := "writeNames", desc := "(LChainHouse$Bytes;)V" } : MethodName)),
  (Cond.selects "ChainHouse$ObjectFile" ({ cls := "ChainHouse$ObjectFile", name := "writeNames", desc := "(LChainHouse$Bytes;)V" } : MethodName) ({ cls := "ChainHouse$ObjectFile", name := "writeNames", desc := "(LChainHouse$Bytes;)V" } : MethodName)),
  (Cond.methodLink "ChainHouse$ObjectFile" (141 : Nat) ({ cls := "ChainHouse$Bytes", name := "addNumber", desc := "(JI)V" } : MethodName)),
  (Cond.fieldLink "ChainHouse$ObjectFile" (181 : Nat) "ChainHouse$ObjectFile" "SORTS" "[I"),
  (Cond.fieldLink "ChainHouse$ObjectFile" (184 : Nat) "ChainHouse$ObjectFile" "FLAGS" "[I"),
  (Cond.methodLink "ChainHouse$ObjectFile" (187 : Nat) ({ cls := "ChainHouse$ObjectFile", name := "linkOf", desc := "(I)I" } : MethodName)),
  (Cond.instanceMethod ({ cls := "ChainHouse$ObjectFile", name := "linkOf", desc := "(I)I" } : MethodName)),
  (Cond.selects "ChainHouse$ObjectFile" ({ cls := "ChainHouse$ObjectFile", name := "linkOf", desc := "(I)I" } : MethodName) ({ cls := "ChainHouse$ObjectFile", name := "linkOf", desc := "(I)I" } : MethodName)),
  (Cond.methodLink "ChainHouse$ObjectFile" (190 : Nat) ({ cls := "ChainHouse$Contents", name := "locals", desc := "()I" } : MethodName)),
  (Cond.instanceMethod ({ cls := "ChainHouse$Contents", name := "locals", desc := "()I" } : MethodName)),
  (Cond.selects "ChainHouse$Contents" ({ cls := "ChainHouse$Contents", name := "locals", desc := "()I" } : MethodName) ({ cls := "ChainHouse$Contents", name := "locals", desc := "()I" } : MethodName)),
  (Cond.methodLink "ChainHouse$ObjectFile" (193 : Nat) ({ cls := "ChainHouse$ObjectFile", name := "infoOf", desc := "(I)I" } : MethodName)),
  (Cond.instanceMethod ({ cls := "ChainHouse$ObjectFile", name := "infoOf", desc := "(I)I" } : MethodName)),
  (Cond.selects "ChainHouse$ObjectFile" ({ cls := "ChainHouse$ObjectFile", name := "infoOf", desc := "(I)I" } : MethodName) ({ cls := "ChainHouse$ObjectFile", name := "infoOf", desc := "(I)I" } : MethodName)),
  (Cond.methodLink "ChainHouse$ObjectFile" (76 : Nat) ({ cls := "ChainHouse$ObjectFile", name := "alignmentOf", desc := "(I)I" } : MethodName)),
  (Cond.instanceMethod ({ cls := "ChainHouse$ObjectFile", name := "alignmentOf", desc := "(I)I" } : MethodName)),
  (Cond.selects "ChainHouse$ObjectFile" ({ cls := "ChainHouse$ObjectFile", name := "alignmentOf", desc := "(I)I" } : MethodName) ({ cls := "ChainHouse$ObjectFile", name := "alignmentOf", desc := "(I)I" } : MethodName)),
  (Cond.fieldLink "ChainHouse$ObjectFile" (196 : Nat) "ChainHouse$ObjectFile" "EACH" "[I"),
  (Cond.methodLink "ChainHouse$ObjectFile" (56 : Nat) ({ cls := "ChainHouse$ObjectFile", name := "orderSymbols", desc := "()V" } : MethodName)),
  (Cond.instanceMethod ({ cls := "ChainHouse$ObjectFile", name := "orderSymbols", desc := "()V" } : MethodName)),
  (Cond.selects "ChainHouse$ObjectFile" ({ cls := "ChainHouse$ObjectFile", name := "orderSymbols", desc := "()V" } : MethodName) ({ cls := "ChainHouse$ObjectFile", name := "orderSymbols", desc := "()V" } : MethodName)),
  (Cond.methodLink "ChainHouse$ObjectFile" (59 : Nat) ({ cls := "ChainHouse$Bytes", name := "beginFile", desc := "(I)V" } : MethodName)),
  (Cond.instanceMethod ({ cls := "ChainHouse$Bytes", name := "beginFile", desc := "(I)V" } : MethodName)),
  (Cond.selects "ChainHouse$Bytes" ({ cls := "ChainHouse$Bytes", name := "beginFile", desc := "(I)V" } : MethodName) ({ cls := "ChainHouse$Bytes", name := "beginFile", desc := "(I)V" } : MethodName)),
  (Cond.methodLink "ChainHouse$ObjectFile" (62 : Nat) ({ cls := "ChainHouse$Bytes", name := "length", desc := "()I" } : MethodName)),
  (Cond.fieldLink "ChainHouse$ObjectFile" (69 : Nat) "ChainHouse$ObjectFile" "entries" "I"),
  (Cond.methodLink "ChainHouse$ObjectFile" (72 : Nat) ({ cls := "ChainHouse$ObjectFile", name := "isThere", desc := "(I)Z" } : MethodName)),
  (Cond.instanceMethod ({ cls := "ChainHouse$ObjectFile", name := "isThere", desc := "(I)Z" } : MethodName)),
  (Cond.selects "ChainHouse$ObjectFile" ({ cls := "ChainHouse$ObjectFile", name := "isThere", desc := "(I)Z" } : MethodName) ({ cls := "ChainHouse$ObjectFile", name := "isThere", desc := "(I)Z" } : MethodName)),
  (Cond.methodLink "ChainHouse$ObjectFile" (80 : Nat) ({ cls := "ChainHouse$Bytes", name := "alignTo", desc := "(II)V" } : MethodName)),
  (Cond.instanceMethod ({ cls := "ChainHouse$Bytes", name := "alignTo", desc := "(II)V" } : MethodName)),
  (Cond.selects "ChainHouse$Bytes" ({ cls := "ChainHouse$Bytes", name := "alignTo", desc := "(II)V" } : MethodName) ({ cls := "ChainHouse$Bytes", name := "alignTo", desc := "(II)V" } : MethodName)),
  (Cond.methodLink "ChainHouse$ObjectFile" (84 : Nat) ({ cls := "ChainHouse$ObjectFile", name := "writePart", desc := "(ILChainHouse$Bytes;)V" } : MethodName)),
  (Cond.instanceMethod ({ cls := "ChainHouse$ObjectFile", name := "writePart", desc := "(ILChainHouse$Bytes;)V" } : MethodName)),
  (Cond.selects "ChainHouse$ObjectFile" ({ cls := "ChainHouse$ObjectFile", name := "writePart", desc := "(ILChainHouse$Bytes;)V" } : MethodName) ({ cls := "ChainHouse$ObjectFile", name := "writePart", desc := "(ILChainHouse$Bytes;)V" } : MethodName)),
  (Cond.fieldLink "ChainHouse$ObjectFile" (88 : Nat) "ChainHouse$Contents" "bss" "I"),
  (Cond.methodLink "ChainHouse$ObjectFile" (91 : Nat) ({ cls := "ChainHouse$Bytes", name := "put", desc := "(IJI)V" } : MethodName)),
  (Cond.instanceMethod ({ cls := "ChainHouse$Bytes", name := "put", desc := "(IJI)V" } : MethodName)),
  (Cond.selects "ChainHouse$Bytes" ({ cls := "ChainHouse$Bytes", name := "put", desc := "(IJI)V" } : MethodName) ({ cls := "ChainHouse$Bytes", name := "put", desc := "(IJI)V" } : MethodName)),
  (Cond.methodLink "ChainHouse$ObjectFile" (95 : Nat) ({ cls := "ChainHouse$Contents", name := "shortStarts", desc := "()I" } : MethodName)),
  (Cond.instanceMethod ({ cls := "ChainHouse$Contents", name := "shortStarts", desc := "()I" } : MethodName)),
  (Cond.selects "ChainHouse$Contents" ({ cls := "ChainHouse$Contents", name := "shortStarts", desc := "()I" } : MethodName) ({ cls := "ChainHouse$Contents", name := "shortStarts", desc := "()I" } : MethodName)),
  (Cond.constantLong "ChainHouse$ObjectFile" (98 : Nat) (52 : Int64)),
  (Cond.constantLong "ChainHouse$ObjectFile" (100 : Nat) (40 : Int64)),
  (Cond.methodLink "ChainHouse$ObjectFile" (102 : Nat) ({ cls := "ChainHouse$ObjectFile", name := "writeTable", desc := "(LChainHouse$Bytes;)V" } : MethodName)),
  (Cond.instanceMethod ({ cls := "ChainHouse$ObjectFile", name := "writeTable", desc := "(LChainHouse$Bytes;)V" } : MethodName)),
  (Cond.selects "ChainHouse$ObjectFile" ({ cls := "ChainHouse$ObjectFile", name := "writeTable", desc := "(LChainHouse$Bytes;)V" } : MethodName) ({ cls := "ChainHouse$ObjectFile", name := "writeTable", desc := "(LChainHouse$Bytes;)V" } : MethodName)),
  (Cond.methodLink "ChainHouse$Assembler" (30 : Nat) ({ cls := "ChainHouse$Scope", name := "begin", desc := "()V" } : MethodName)),
  (Cond.instanceMethod ({ cls := "ChainHouse$Scope", name := "begin", desc := "()V" } : MethodName)),
  (Cond.selects "ChainHouse$Scope" ({ cls := "ChainHouse$Scope", name := "begin", desc := "()V" } : MethodName) ({ cls := "ChainHouse$Scope", name := "begin", desc := "()V" } : MethodName)),
  (Cond.fieldLink "ChainHouse$Assembler" (35 : Nat) "ChainHouse$Assembler" "current" "I"),
  (Cond.fieldLink "ChainHouse$Assembler" (38 : Nat) "ChainHouse$Assembler" "shorts" "Z"),
  (Cond.fieldLink "ChainHouse$Assembler" (42 : Nat) "ChainHouse$Assembler" "shrinks" "Z"),
  (Cond.fieldLink "ChainHouse$Assembler" (45 : Nat) "ChainHouse$Assembler" "pushCount" "I"),
  (Cond.fieldLink "ChainHouse$Assembler" (48 : Nat) "ChainHouse$Scope" "contents" "LChainHouse$Contents;"),
  (Cond.fieldLink "ChainHouse$Assembler" (52 : Nat) "ChainHouse$Contents" "alignment" "[I"),
  (Cond.fieldLink "ChainHouse$Assembler" (55 : Nat) "ChainHouse$Source" "statementCount" "I"),
  (Cond.fieldLink "ChainHouse$Assembler" (60 : Nat) "ChainHouse$Scope" "fault" "I"),
  (Cond.methodLink "ChainHouse$Assembler" (98 : Nat) ({ cls := "ChainHouse$Scope", name := "finish", desc := "()V" } : MethodName)),
  (Cond.instanceMethod ({ cls := "ChainHouse$Scope", name := "finish", desc := "()V" } : MethodName)),
  (Cond.selects "ChainHouse$Scope" ({ cls := "ChainHouse$Scope", name := "finish", desc := "()V" } : MethodName) ({ cls := "ChainHouse$Scope", name := "finish", desc := "()V" } : MethodName)),
  (Cond.methodLink "ChainHouse$Assembler" (101 : Nat) ({ cls := "ChainHouse$ObjectFile", name := "write", desc := "(LChainHouse$Contents;LChainHouse$Bytes;)V" } : MethodName)),
  (Cond.instanceMethod ({ cls := "ChainHouse$ObjectFile", name := "write", desc := "(LChainHouse$Contents;LChainHouse$Bytes;)V" } : MethodName)),
  (Cond.selects "ChainHouse$ObjectFile" ({ cls := "ChainHouse$ObjectFile", name := "write", desc := "(LChainHouse$Contents;LChainHouse$Bytes;)V" } : MethodName) ({ cls := "ChainHouse$ObjectFile", name := "write", desc := "(LChainHouse$Contents;LChainHouse$Bytes;)V" } : MethodName)),
  (Cond.methodLink "ChainHouse$Assembler" (107 : Nat) ({ cls := "ChainHouse$Bytes", name := "length", desc := "()I" } : MethodName)),
  (Cond.fieldLink "ChainHouse$Assembler" (121 : Nat) "ChainHouse$Assembler" "fault" "I"),
  (Cond.fieldLink "ChainHouse$Assembler" (122 : Nat) "ChainHouse$Scope" "place" "I"),
  (Cond.methodLink "ChainHouse$Bytes" (28 : Nat) ({ cls := "ChainHouse$Bytes", name := "addAll", desc := "(LChainHouse$Bytes;)V" } : MethodName)),
  (Cond.methodLink "ChainHouse" (87 : Nat) ({ cls := "ChainHouse", name := "isUnit", desc := "(I)Z" } : MethodName)),
  (Cond.static ({ cls := "ChainHouse", name := "isUnit", desc := "(I)Z" } : MethodName)),
  (Cond.methodLink "ChainHouse" (108 : Nat) ({ cls := "ChainHouse$Assembler", name := "source", desc := "()LChainHouse$Source;" } : MethodName)),
  (Cond.instanceMethod ({ cls := "ChainHouse$Assembler", name := "source", desc := "()LChainHouse$Source;" } : MethodName)),
  (Cond.selects "ChainHouse$Assembler" ({ cls := "ChainHouse$Assembler", name := "source", desc := "()LChainHouse$Source;" } : MethodName) ({ cls := "ChainHouse$Assembler", name := "source", desc := "()LChainHouse$Source;" } : MethodName)),
  (Cond.methodLink "ChainHouse" (112 : Nat) ({ cls := "ChainHouse$Source", name := "read", desc := "(LChainHouse$Bytes;)V" } : MethodName)),
  (Cond.instanceMethod ({ cls := "ChainHouse$Source", name := "read", desc := "(LChainHouse$Bytes;)V" } : MethodName)),
  (Cond.selects "ChainHouse$Source" ({ cls := "ChainHouse$Source", name := "read", desc := "(LChainHouse$Bytes;)V" } : MethodName) ({ cls := "ChainHouse$Source", name := "read", desc := "(LChainHouse$Bytes;)V" } : MethodName)),
  (Cond.methodLink "ChainHouse" (118 : Nat) ({ cls := "ChainHouse$Assembler", name := "make", desc := "(LChainHouse$ObjectFile;LChainHouse$Bytes;)I" } : MethodName)),
  (Cond.instanceMethod ({ cls := "ChainHouse$Assembler", name := "make", desc := "(LChainHouse$ObjectFile;LChainHouse$Bytes;)I" } : MethodName)),
  (Cond.selects "ChainHouse$Assembler" ({ cls := "ChainHouse$Assembler", name := "make", desc := "(LChainHouse$ObjectFile;LChainHouse$Bytes;)I" } : MethodName) ({ cls := "ChainHouse$Assembler", name := "make", desc := "(LChainHouse$ObjectFile;LChainHouse$Bytes;)I" } : MethodName)),
  (Cond.methodLink "ChainHouse" (122 : Nat) ({ cls := "ChainHouse$Bytes", name := "clear", desc := "()V" } : MethodName)),
  (Cond.methodLink "ChainHouse" (128 : Nat) ({ cls := "ChainHouse$Bytes", name := "copy", desc := "(LChainHouse$Bytes;)V" } : MethodName)),
  (Cond.instanceMethod ({ cls := "ChainHouse$Bytes", name := "copy", desc := "(LChainHouse$Bytes;)V" } : MethodName)),
  (Cond.selects "ChainHouse$Bytes" ({ cls := "ChainHouse$Bytes", name := "copy", desc := "(LChainHouse$Bytes;)V" } : MethodName) ({ cls := "ChainHouse$Bytes", name := "copy", desc := "(LChainHouse$Bytes;)V" } : MethodName)),
  (Cond.methodLink "ChainHouse" (102 : Nat) ({ cls := "ChainHouse$Bytes", name := "length", desc := "()I" } : MethodName)),
  (Cond.fieldLink "ChainHouse$Machine" (117 : Nat) "ChainHouse$Machine" "keptCount" "I"),
  (Cond.methodLink "ChainHouse" (215 : Nat) ({ cls := "ChainHouse$Machine", name := "undo", desc := "(I)I" } : MethodName)),
  (Cond.instanceMethod ({ cls := "ChainHouse$Machine", name := "undo", desc := "(I)I" } : MethodName))]
def zu_w2 : List Cond := [
  (Cond.selects "ChainHouse$Machine" ({ cls := "ChainHouse$Machine", name := "undo", desc := "(I)I" } : MethodName) ({ cls := "ChainHouse$Machine", name := "undo", desc := "(I)I" } : MethodName)),
  (Cond.methodLink "ChainHouse" (137 : Nat) ({ cls := "ChainHouse", name := "fileOf", desc := "(I)LChainHouse$Bytes;" } : MethodName)),
  (Cond.instanceMethod ({ cls := "ChainHouse", name := "fileOf", desc := "(I)LChainHouse$Bytes;" } : MethodName)),
  (Cond.selects "ChainHouse" ({ cls := "ChainHouse", name := "fileOf", desc := "(I)LChainHouse$Bytes;" } : MethodName) ({ cls := "ChainHouse", name := "fileOf", desc := "(I)LChainHouse$Bytes;" } : MethodName)),
  (Cond.methodLink "ChainHouse" (148 : Nat) ({ cls := "ChainHouse$Bytes", name := "has", desc := "(I)Z" } : MethodName)),
  (Cond.instanceMethod ({ cls := "ChainHouse$Bytes", name := "has", desc := "(I)Z" } : MethodName)),
  (Cond.selects "ChainHouse$Bytes" ({ cls := "ChainHouse$Bytes", name := "has", desc := "(I)Z" } : MethodName) ({ cls := "ChainHouse$Bytes", name := "has", desc := "(I)Z" } : MethodName)),
  (Cond.constant "ChainHouse$Bytes" (79 : Nat) (65536 : Int32)),
  (Cond.fieldLink "ChainHouse$ObjectFile" (199 : Nat) "ChainHouse$ObjectFile" "fault" "I"),
  (Cond.methodLink "ChainHouse$ObjectFile" (245 : Nat) ({ cls := "ChainHouse$Bytes", name := "headFault", desc := "(I)I" } : MethodName)),
  (Cond.instanceMethod ({ cls := "ChainHouse$Bytes", name := "headFault", desc := "(I)I" } : MethodName)),
  (Cond.selects "ChainHouse$Bytes" ({ cls := "ChainHouse$Bytes", name := "headFault", desc := "(I)I" } : MethodName) ({ cls := "ChainHouse$Bytes", name := "headFault", desc := "(I)I" } : MethodName)),
  (Cond.constant "ChainHouse$ObjectFile" (248 : Nat) (65535 : Int32)),
  (Cond.methodLink "ChainHouse$ObjectFile" (242 : Nat) ({ cls := "ChainHouse$ObjectFile", name := "fail", desc := "(II)Z" } : MethodName)),
  (Cond.instanceMethod ({ cls := "ChainHouse$ObjectFile", name := "fail", desc := "(II)Z" } : MethodName)),
  (Cond.selects "ChainHouse$ObjectFile" ({ cls := "ChainHouse$ObjectFile", name := "fail", desc := "(II)Z" } : MethodName) ({ cls := "ChainHouse$ObjectFile", name := "fail", desc := "(II)Z" } : MethodName)),
  (Cond.methodLink "ChainHouse$ObjectFile" (202 : Nat) ({ cls := "ChainHouse$Contents", name := "clear", desc := "()V" } : MethodName)),
  (Cond.methodLink "ChainHouse$ObjectFile" (203 : Nat) ({ cls := "ChainHouse$ObjectFile", name := "readHeader", desc := "()Z" } : MethodName)),
  (Cond.instanceMethod ({ cls := "ChainHouse$ObjectFile", name := "readHeader", desc := "()Z" } : MethodName)),
  (Cond.selects "ChainHouse$ObjectFile" ({ cls := "ChainHouse$ObjectFile", name := "readHeader", desc := "()Z" } : MethodName) ({ cls := "ChainHouse$ObjectFile", name := "readHeader", desc := "()Z" } : MethodName)),
  (Cond.methodLink "ChainHouse" (159 : Nat) ({ cls := "ChainHouse$ObjectFile", name := "read", desc := "(LChainHouse$Bytes;LChainHouse$Contents;)I" } : MethodName)),
  (Cond.instanceMethod ({ cls := "ChainHouse$ObjectFile", name := "read", desc := "(LChainHouse$Bytes;LChainHouse$Contents;)I" } : MethodName)),
  (Cond.selects "ChainHouse$ObjectFile" ({ cls := "ChainHouse$ObjectFile", name := "read", desc := "(LChainHouse$Bytes;LChainHouse$Contents;)I" } : MethodName) ({ cls := "ChainHouse$ObjectFile", name := "read", desc := "(LChainHouse$Bytes;LChainHouse$Contents;)I" } : MethodName)),
  (Cond.fieldLink "ChainHouse" (162 : Nat) "ChainHouse$ObjectFile" "place" "I"),
  (Cond.methodLink "ChainHouse" (145 : Nat) ({ cls := "ChainHouse$Bytes", name := "shorten", desc := "(I)V" } : MethodName)),
  (Cond.instanceMethod ({ cls := "ChainHouse$Bytes", name := "shorten", desc := "(I)V" } : MethodName)),
  (Cond.selects "ChainHouse$Bytes" ({ cls := "ChainHouse$Bytes", name := "shorten", desc := "(I)V" } : MethodName) ({ cls := "ChainHouse$Bytes", name := "shorten", desc := "(I)V" } : MethodName)),
  (Cond.methodLink "ChainHouse" (95 : Nat) ({ cls := "ChainHouse$Bytes", name := "room", desc := "()I" } : MethodName)),
  (Cond.instanceMethod ({ cls := "ChainHouse$Bytes", name := "room", desc := "()I" } : MethodName)),
  (Cond.selects "ChainHouse$Bytes" ({ cls := "ChainHouse$Bytes", name := "room", desc := "()I" } : MethodName) ({ cls := "ChainHouse$Bytes", name := "room", desc := "()I" } : MethodName)),
  (Cond.methodLink "ChainHouse" (99 : Nat) ({ cls := "ChainHouse$Bytes", name := "add", desc := "(I)V" } : MethodName)),
  (Cond.methodLink "ChainHouse" (141 : Nat) ({ cls := "ChainHouse$Bytes", name := "addHighest", desc := "(IJ)Z" } : MethodName)),
  (Cond.instanceMethod ({ cls := "ChainHouse$Bytes", name := "addHighest", desc := "(IJ)Z" } : MethodName)),
  (Cond.selects "ChainHouse$Bytes" ({ cls := "ChainHouse$Bytes", name := "addHighest", desc := "(IJ)Z" } : MethodName) ({ cls := "ChainHouse$Bytes", name := "addHighest", desc := "(IJ)Z" } : MethodName)),
  (Cond.fieldLink "ChainHouse" (131 : Nat) "ChainHouse$Assembler" "fault" "I"),
  (Cond.fieldLink "ChainHouse" (134 : Nat) "ChainHouse$Assembler" "place" "I"),
  (Cond.methodLink "ChainHouse" (91 : Nat) ({ cls := "ChainHouse", name := "fourWait", desc := "(II)V" } : MethodName)),
  (Cond.instanceMethod ({ cls := "ChainHouse", name := "fourWait", desc := "(II)V" } : MethodName)),
  (Cond.selects "ChainHouse" ({ cls := "ChainHouse", name := "fourWait", desc := "(II)V" } : MethodName) ({ cls := "ChainHouse", name := "fourWait", desc := "(II)V" } : MethodName)),
  (Cond.fieldLink "ChainHouse" (222 : Nat) "ChainHouse$Machine" "registers" "[I"),
  (Cond.fieldLink "ChainHouse$Machine" (111 : Nat) "ChainHouse$Machine" "haltCount" "I"),
  (Cond.methodLink "ChainHouse$Machine" (241 : Nat) ({ cls := "ChainHouse$Machine", name := "haltAt", desc := "(I)I" } : MethodName)),
  (Cond.instanceMethod ({ cls := "ChainHouse$Machine", name := "haltAt", desc := "(I)I" } : MethodName)),
  (Cond.selects "ChainHouse$Machine" ({ cls := "ChainHouse$Machine", name := "haltAt", desc := "(I)I" } : MethodName) ({ cls := "ChainHouse$Machine", name := "haltAt", desc := "(I)I" } : MethodName)),
  (Cond.methodLink "ChainHouse" (232 : Nat) ({ cls := "ChainHouse$Machine", name := "addHalt", desc := "(I)Z" } : MethodName)),
  (Cond.instanceMethod ({ cls := "ChainHouse$Machine", name := "addHalt", desc := "(I)Z" } : MethodName)),
  (Cond.selects "ChainHouse$Machine" ({ cls := "ChainHouse$Machine", name := "addHalt", desc := "(I)Z" } : MethodName) ({ cls := "ChainHouse$Machine", name := "addHalt", desc := "(I)Z" } : MethodName)),
  (Cond.methodLink "ChainHouse" (235 : Nat) ({ cls := "ChainHouse$Machine", name := "dropHalt", desc := "(I)Z" } : MethodName)),
  (Cond.instanceMethod ({ cls := "ChainHouse$Machine", name := "dropHalt", desc := "(I)Z" } : MethodName)),
  (Cond.selects "ChainHouse$Machine" ({ cls := "ChainHouse$Machine", name := "dropHalt", desc := "(I)Z" } : MethodName) ({ cls := "ChainHouse$Machine", name := "dropHalt", desc := "(I)Z" } : MethodName)),
  (Cond.methodLink "ChainHouse$Machine" (254 : Nat) ({ cls := "ChainHouse$Bytes", name := "addHighest", desc := "(IJ)Z" } : MethodName)),
  (Cond.methodLink "ChainHouse" (229 : Nat) ({ cls := "ChainHouse$Machine", name := "fill", desc := "(IJ)Z" } : MethodName)),
  (Cond.instanceMethod ({ cls := "ChainHouse$Machine", name := "fill", desc := "(IJ)Z" } : MethodName)),
  (Cond.selects "ChainHouse$Machine" ({ cls := "ChainHouse$Machine", name := "fill", desc := "(IJ)Z" } : MethodName) ({ cls := "ChainHouse$Machine", name := "fill", desc := "(IJ)Z" } : MethodName)),
  (Cond.fieldLink "ChainHouse$Linker" (77 : Nat) "ChainHouse$Linker" "fault" "I"),
  (Cond.fieldLink "ChainHouse$Linker" (80 : Nat) "ChainHouse$Linker" "shrinks" "Z"),
  (Cond.fieldLink "ChainHouse$Linker" (84 : Nat) "ChainHouse$Linker" "unitCount" "I"),
  (Cond.methodLink "ChainHouse$Linker" (87 : Nat) ({ cls := "ChainHouse$Bytes", name := "length", desc := "()I" } : MethodName)),
  (Cond.methodLink "ChainHouse$Linker" (99 : Nat) ({ cls := "ChainHouse$Linker", name := "tellReading", desc := "(II)V" } : MethodName)),
  (Cond.instanceMethod ({ cls := "ChainHouse$Linker", name := "tellReading", desc := "(II)V" } : MethodName)),
  (Cond.selects "ChainHouse$Linker" ({ cls := "ChainHouse$Linker", name := "tellReading", desc := "(II)V" } : MethodName) ({ cls := "ChainHouse$Linker", name := "tellReading", desc := "(II)V" } : MethodName)),
  (Cond.methodLink "ChainHouse" (167 : Nat) ({ cls := "ChainHouse$Linker", name := "join", desc := "([LChainHouse$Bytes;IZLChainHouse$ObjectFile;LChainHouse$Bytes;)I" } : MethodName)),
  (Cond.instanceMethod ({ cls := "ChainHouse$Linker", name := "join", desc := "([LChainHouse$Bytes;IZLChainHouse$ObjectFile;LChainHouse$Bytes;)I" } : MethodName)),
  (Cond.selects "ChainHouse$Linker" ({ cls := "ChainHouse$Linker", name := "join", desc := "([LChainHouse$Bytes;IZLChainHouse$ObjectFile;LChainHouse$Bytes;)I" } : MethodName) ({ cls := "ChainHouse$Linker", name := "join", desc := "([LChainHouse$Bytes;IZLChainHouse$ObjectFile;LChainHouse$Bytes;)I" } : MethodName)),
  (Cond.fieldLink "ChainHouse" (174 : Nat) "ChainHouse$Linker" "fault" "I"),
  (Cond.fieldLink "ChainHouse" (175 : Nat) "ChainHouse$Linker" "unit" "I"),
  (Cond.fieldLink "ChainHouse" (178 : Nat) "ChainHouse$Linker" "number" "I"),
  (Cond.fieldLink "ChainHouse" (181 : Nat) "ChainHouse$Linker" "fixed" "I"),
  (Cond.fieldLink "ChainHouse" (184 : Nat) "ChainHouse$Linker" "saved" "I"),
  (Cond.methodLink "ChainHouse$Image" (45 : Nat) ({ cls := "ChainHouse$Bytes", name := "clear", desc := "()V" } : MethodName)),
  (Cond.fieldLink "ChainHouse$Image" (48 : Nat) "ChainHouse$Image" "entry" "I"),
  (Cond.fieldLink "ChainHouse$Image" (155 : Nat) "ChainHouse$Image" "fault" "I"),
  (Cond.methodLink "ChainHouse$Image" (185 : Nat) ({ cls := "ChainHouse$Bytes", name := "headFault", desc := "(I)I" } : MethodName)),
  (Cond.constant "ChainHouse$Image" (188 : Nat) (65535 : Int32)),
  (Cond.methodLink "ChainHouse$Image" (177 : Nat) ({ cls := "ChainHouse$Image", name := "fail", desc := "(II)Z" } : MethodName)),
  (Cond.instanceMethod ({ cls := "ChainHouse$Image", name := "fail", desc := "(II)Z" } : MethodName)),
  (Cond.selects "ChainHouse$Image" ({ cls := "ChainHouse$Image", name := "fail", desc := "(II)Z" } : MethodName) ({ cls := "ChainHouse$Image", name := "fail", desc := "(II)Z" } : MethodName)),
  (Cond.methodLink "ChainHouse$Image" (158 : Nat) ({ cls := "ChainHouse$Image", name := "clear", desc := "()V" } : MethodName)),
  (Cond.instanceMethod ({ cls := "ChainHouse$Image", name := "clear", desc := "()V" } : MethodName)),
  (Cond.selects "ChainHouse$Image" ({ cls := "ChainHouse$Image", name := "clear", desc := "()V" } : MethodName) ({ cls := "ChainHouse$Image", name := "clear", desc := "()V" } : MethodName)),
  (Cond.methodLink "ChainHouse$Image" (159 : Nat) ({ cls := "ChainHouse$Image", name := "readHeader", desc := "()Z" } : MethodName)),
  (Cond.instanceMethod ({ cls := "ChainHouse$Image", name := "readHeader", desc := "()Z" } : MethodName)),
  (Cond.selects "ChainHouse$Image" ({ cls := "ChainHouse$Image", name := "readHeader", desc := "()Z" } : MethodName) ({ cls := "ChainHouse$Image", name := "readHeader", desc := "()Z" } : MethodName)),
  (Cond.methodLink "ChainHouse" (197 : Nat) ({ cls := "ChainHouse$Image", name := "read", desc := "(LChainHouse$Bytes;)I" } : MethodName)),
  (Cond.instanceMethod ({ cls := "ChainHouse$Image", name := "read", desc := "(LChainHouse$Bytes;)I" } : MethodName)),
  (Cond.selects "ChainHouse$Image" ({ cls := "ChainHouse$Image", name := "read", desc := "(LChainHouse$Bytes;)I" } : MethodName) ({ cls := "ChainHouse$Image", name := "read", desc := "(LChainHouse$Bytes;)I" } : MethodName)),
  (Cond.fieldLink "ChainHouse" (200 : Nat) "ChainHouse$Image" "place" "I"),
  (Cond.methodLink "ChainHouse$Contents" (56 : Nat) ({ cls := "ChainHouse$Bytes", name := "length", desc := "()I" } : MethodName)),
  (Cond.methodLink "ChainHouse$Contents" (78 : Nat) ({ cls := "ChainHouse$Contents", name := "shortStarts", desc := "()I" } : MethodName)),
  (Cond.methodLink "ChainHouse$Contents" (68 : Nat) ({ cls := "ChainHouse$Contents", name := "extent", desc := "(I)I" } : MethodName)),
  (Cond.instanceMethod ({ cls := "ChainHouse$Contents", name := "extent", desc := "(I)I" } : MethodName)),
  (Cond.selects "ChainHouse$Contents" ({ cls := "ChainHouse$Contents", name := "extent", desc := "(I)I" } : MethodName) ({ cls := "ChainHouse$Contents", name := "extent", desc := "(I)I" } : MethodName)),
  (Cond.methodLink "ChainHouse$Contents" (71 : Nat) ({ cls := "ChainHouse$Contents", name := "toldOfSymbol", desc := "(II)I" } : MethodName)),
  (Cond.instanceMethod ({ cls := "ChainHouse$Contents", name := "toldOfSymbol", desc := "(II)I" } : MethodName)),
  (Cond.selects "ChainHouse$Contents" ({ cls := "ChainHouse$Contents", name := "toldOfSymbol", desc := "(II)I" } : MethodName) ({ cls := "ChainHouse$Contents", name := "toldOfSymbol", desc := "(II)I" } : MethodName)),
  (Cond.methodLink "ChainHouse$Contents" (75 : Nat) ({ cls := "ChainHouse$Contents", name := "count", desc := "(I)I" } : MethodName)),
  (Cond.instanceMethod ({ cls := "ChainHouse$Contents", name := "count", desc := "(I)I" } : MethodName)),
  (Cond.selects "ChainHouse$Contents" ({ cls := "ChainHouse$Contents", name := "count", desc := "(I)I" } : MethodName) ({ cls := "ChainHouse$Contents", name := "count", desc := "(I)I" } : MethodName)),
  (Cond.methodLink "ChainHouse" (163 : Nat) ({ cls := "ChainHouse$Contents", name := "told", desc := "(III)I" } : MethodName)),
  (Cond.instanceMethod ({ cls := "ChainHouse$Contents", name := "told", desc := "(III)I" } : MethodName))]
def zu_w3 : List Cond := [
  (Cond.selects "ChainHouse$Contents" ({ cls := "ChainHouse$Contents", name := "told", desc := "(III)I" } : MethodName) ({ cls := "ChainHouse$Contents", name := "told", desc := "(III)I" } : MethodName)),
  (Cond.fieldLink "ChainHouse" (240 : Nat) "ChainHouse$Machine" "output" "LChainHouse$Bytes;"),
  (Cond.constant "ChainHouse$Machine" (123 : Nat) (131072 : Int32)),
  (Cond.methodLink "ChainHouse" (226 : Nat) ({ cls := "ChainHouse$Machine", name := "byteOf", desc := "(I)I" } : MethodName)),
  (Cond.instanceMethod ({ cls := "ChainHouse$Machine", name := "byteOf", desc := "(I)I" } : MethodName)),
  (Cond.selects "ChainHouse$Machine" ({ cls := "ChainHouse$Machine", name := "byteOf", desc := "(I)I" } : MethodName) ({ cls := "ChainHouse$Machine", name := "byteOf", desc := "(I)I" } : MethodName)),
  (Cond.methodLink "ChainHouse" (243 : Nat) ({ cls := "ChainHouse$Machine", name := "rightsOf", desc := "(I)I" } : MethodName)),
  (Cond.instanceMethod ({ cls := "ChainHouse$Machine", name := "rightsOf", desc := "(I)I" } : MethodName)),
  (Cond.selects "ChainHouse$Machine" ({ cls := "ChainHouse$Machine", name := "rightsOf", desc := "(I)I" } : MethodName) ({ cls := "ChainHouse$Machine", name := "rightsOf", desc := "(I)I" } : MethodName)),
  (Cond.methodLink "ChainHouse" (246 : Nat) ({ cls := "ChainHouse$Machine", name := "isMarked", desc := "(I)Z" } : MethodName)),
  (Cond.instanceMethod ({ cls := "ChainHouse$Machine", name := "isMarked", desc := "(I)Z" } : MethodName)),
  (Cond.selects "ChainHouse$Machine" ({ cls := "ChainHouse$Machine", name := "isMarked", desc := "(I)Z" } : MethodName) ({ cls := "ChainHouse$Machine", name := "isMarked", desc := "(I)Z" } : MethodName)),
  (Cond.fieldLink "ChainHouse$Machine" (96 : Nat) "ChainHouse$Machine" "state" "I"),
  (Cond.fieldLink "ChainHouse$Machine" (99 : Nat) "ChainHouse$Machine" "culprit" "I"),
  (Cond.methodLink "ChainHouse$Machine" (161 : Nat) ({ cls := "ChainHouse$Machine", name := "rightsOf", desc := "(I)I" } : MethodName)),
  (Cond.methodLink "ChainHouse$Machine" (145 : Nat) ({ cls := "ChainHouse$Machine", name := "become", desc := "(II)V" } : MethodName)),
  (Cond.instanceMethod ({ cls := "ChainHouse$Machine", name := "become", desc := "(II)V" } : MethodName)),
  (Cond.selects "ChainHouse$Machine" ({ cls := "ChainHouse$Machine", name := "become", desc := "(II)V" } : MethodName) ({ cls := "ChainHouse$Machine", name := "become", desc := "(II)V" } : MethodName)),
  (Cond.methodLink "ChainHouse$Machine" (134 : Nat) ({ cls := "ChainHouse$Machine", name := "isEnd", desc := "()Z" } : MethodName)),
  (Cond.instanceMethod ({ cls := "ChainHouse$Machine", name := "isEnd", desc := "()Z" } : MethodName)),
  (Cond.selects "ChainHouse$Machine" ({ cls := "ChainHouse$Machine", name := "isEnd", desc := "()Z" } : MethodName) ({ cls := "ChainHouse$Machine", name := "isEnd", desc := "()Z" } : MethodName)),
  (Cond.methodLink "ChainHouse$Machine" (138 : Nat) ({ cls := "ChainHouse$Machine", name := "mayFetch", desc := "(I)Z" } : MethodName)),
  (Cond.instanceMethod ({ cls := "ChainHouse$Machine", name := "mayFetch", desc := "(I)Z" } : MethodName)),
  (Cond.selects "ChainHouse$Machine" ({ cls := "ChainHouse$Machine", name := "mayFetch", desc := "(I)Z" } : MethodName) ({ cls := "ChainHouse$Machine", name := "mayFetch", desc := "(I)Z" } : MethodName)),
  (Cond.fieldLink "ChainHouse$Machine" (108 : Nat) "ChainHouse$Machine" "units" "I"),
  (Cond.fieldLink "ChainHouse$Machine" (81 : Nat) "ChainHouse$Machine" "marking" "Z"),
  (Cond.methodLink "ChainHouse$Machine" (244 : Nat) ({ cls := "ChainHouse$Machine", name := "advance", desc := "()Z" } : MethodName)),
  (Cond.instanceMethod ({ cls := "ChainHouse$Machine", name := "advance", desc := "()Z" } : MethodName)),
  (Cond.selects "ChainHouse$Machine" ({ cls := "ChainHouse$Machine", name := "advance", desc := "()Z" } : MethodName) ({ cls := "ChainHouse$Machine", name := "advance", desc := "()Z" } : MethodName)),
  (Cond.methodLink "ChainHouse" (212 : Nat) ({ cls := "ChainHouse$Machine", name := "advanceUnits", desc := "(I)I" } : MethodName)),
  (Cond.instanceMethod ({ cls := "ChainHouse$Machine", name := "advanceUnits", desc := "(I)I" } : MethodName)),
  (Cond.selects "ChainHouse$Machine" ({ cls := "ChainHouse$Machine", name := "advanceUnits", desc := "(I)I" } : MethodName) ({ cls := "ChainHouse$Machine", name := "advanceUnits", desc := "(I)I" } : MethodName)),
  (Cond.methodLink "ChainHouse" (218 : Nat) ({ cls := "ChainHouse$Machine", name := "change", desc := "(II)Z" } : MethodName)),
  (Cond.instanceMethod ({ cls := "ChainHouse$Machine", name := "change", desc := "(II)Z" } : MethodName)),
  (Cond.selects "ChainHouse$Machine" ({ cls := "ChainHouse$Machine", name := "change", desc := "(II)Z" } : MethodName) ({ cls := "ChainHouse$Machine", name := "change", desc := "(II)Z" } : MethodName)),
  (Cond.fieldLink "ChainHouse$Machine" (102 : Nat) "ChainHouse$Machine" "value" "I"),
  (Cond.fieldLink "ChainHouse$Machine" (105 : Nat) "ChainHouse$Machine" "steps" "I"),
  (Cond.methodLink "ChainHouse$Machine" (69 : Nat) ({ cls := "ChainHouse$Bytes", name := "length", desc := "()I" } : MethodName)),
  (Cond.fieldLink "ChainHouse$Machine" (114 : Nat) "ChainHouse$Machine" "taken" "I"),
  (Cond.methodLink "ChainHouse" (238 : Nat) ({ cls := "ChainHouse$Machine", name := "told", desc := "(I)I" } : MethodName)),
  (Cond.instanceMethod ({ cls := "ChainHouse$Machine", name := "told", desc := "(I)I" } : MethodName)),
  (Cond.selects "ChainHouse$Machine" ({ cls := "ChainHouse$Machine", name := "told", desc := "(I)I" } : MethodName) ({ cls := "ChainHouse$Machine", name := "told", desc := "(I)I" } : MethodName)),
  (Cond.methodLink "ChainHouse" (205 : Nat) ({ cls := "ChainHouse$Machine", name := "advance", desc := "()Z" } : MethodName)),
  (Cond.fieldLink "ChainHouse" (209 : Nat) "ChainHouse$Machine" "state" "I"),
  (Cond.fieldLink "ChainHouse$Word" (61 : Nat) "ChainHouse$Word" "RUN_FROM" "[I"),
  (Cond.fieldLink "ChainHouse$Word" (64 : Nat) "ChainHouse$Word" "RUNS" "[I"),
  (Cond.fieldLink "ChainHouse$Word" (67 : Nat) "ChainHouse$Word" "LOW" "[I"),
  (Cond.fieldLink "ChainHouse$Word" (16 : Nat) "ChainHouse$Word" "FORM" "[I"),
  (Cond.fieldLink "ChainHouse$Word" (26 : Nat) "ChainHouse$Word" "D_AT" "[I"),
  (Cond.fieldLink "ChainHouse$Word" (36 : Nat) "ChainHouse$Word" "A_AT" "[I"),
  (Cond.fieldLink "ChainHouse$Word" (42 : Nat) "ChainHouse$Word" "B_AT" "[I"),
  (Cond.constant "ChainHouse$Word" (15 : Nat) (65535 : Int32)),
  (Cond.fieldLink "ChainHouse$Word" (20 : Nat) "ChainHouse$Word" "MASK" "[I"),
  (Cond.fieldLink "ChainHouse$Word" (23 : Nat) "ChainHouse$Word" "MATCH" "[I"),
  (Cond.methodLink "ChainHouse$Word" (29 : Nat) ({ cls := "ChainHouse$Word", name := "register", desc := "(II)I" } : MethodName)),
  (Cond.static ({ cls := "ChainHouse$Word", name := "register", desc := "(II)I" } : MethodName)),
  (Cond.fieldLink "ChainHouse$Word" (33 : Nat) "ChainHouse$Word" "d" "I"),
  (Cond.fieldLink "ChainHouse$Word" (39 : Nat) "ChainHouse$Word" "a" "I"),
  (Cond.fieldLink "ChainHouse$Word" (45 : Nat) "ChainHouse$Word" "b" "I"),
  (Cond.methodLink "ChainHouse$Word" (48 : Nat) ({ cls := "ChainHouse$Word", name := "immediate", desc := "(II)I" } : MethodName)),
  (Cond.static ({ cls := "ChainHouse$Word", name := "immediate", desc := "(II)I" } : MethodName)),
  (Cond.fieldLink "ChainHouse$Word" (51 : Nat) "ChainHouse$Word" "i" "I"),
  (Cond.methodLink "ChainHouse$Word" (54 : Nat) ({ cls := "ChainHouse$Word", name := "mayHave", desc := "(ICI)Z" } : MethodName)),
  (Cond.static ({ cls := "ChainHouse$Word", name := "mayHave", desc := "(ICI)Z" } : MethodName)),
  (Cond.methodLink "ChainHouse$Word" (58 : Nat) ({ cls := "ChainHouse$Word", name := "mayHave", desc := "(IJ)Z" } : MethodName)),
  (Cond.static ({ cls := "ChainHouse$Word", name := "mayHave", desc := "(IJ)Z" } : MethodName)),
  (Cond.methodLink "ChainHouse$Bytes" (61 : Nat) ({ cls := "ChainHouse$Bytes", name := "halfOfWord", desc := "(Ljava/lang/String;II)J" } : MethodName)),
  (Cond.methodLink "ChainHouse$Word" (135 : Nat) ({ cls := "ChainHouse$Bytes", name := "clear", desc := "()V" } : MethodName)),
  (Cond.methodLink "ChainHouse$Word" (142 : Nat) ({ cls := "ChainHouse$Bytes", name := "addWord", desc := "(Ljava/lang/String;I)V" } : MethodName)),
  (Cond.instanceMethod ({ cls := "ChainHouse$Bytes", name := "addWord", desc := "(Ljava/lang/String;I)V" } : MethodName)),
  (Cond.selects "ChainHouse$Bytes" ({ cls := "ChainHouse$Bytes", name := "addWord", desc := "(Ljava/lang/String;I)V" } : MethodName) ({ cls := "ChainHouse$Bytes", name := "addWord", desc := "(Ljava/lang/String;I)V" } : MethodName)),
  (Cond.methodLink "ChainHouse$Word" (146 : Nat) ({ cls := "ChainHouse$Bytes", name := "add", desc := "(I)V" } : MethodName)),
  (Cond.methodLink "ChainHouse$Word" (150 : Nat) ({ cls := "ChainHouse$Bytes", name := "addHex", desc := "(I)V" } : MethodName)),
  (Cond.instanceMethod ({ cls := "ChainHouse$Bytes", name := "addHex", desc := "(I)V" } : MethodName)),
  (Cond.selects "ChainHouse$Bytes" ({ cls := "ChainHouse$Bytes", name := "addHex", desc := "(I)V" } : MethodName) ({ cls := "ChainHouse$Bytes", name := "addHex", desc := "(I)V" } : MethodName)),
  (Cond.methodLink "ChainHouse$Machine" (124 : Nat) ({ cls := "ChainHouse$Machine", name := "read", desc := "(II)I" } : MethodName)),
  (Cond.instanceMethod ({ cls := "ChainHouse$Machine", name := "read", desc := "(II)I" } : MethodName)),
  (Cond.selects "ChainHouse$Machine" ({ cls := "ChainHouse$Machine", name := "read", desc := "(II)I" } : MethodName) ({ cls := "ChainHouse$Machine", name := "read", desc := "(II)I" } : MethodName)),
  (Cond.methodLink "ChainHouse$Machine" (128 : Nat) ({ cls := "ChainHouse$Word", name := "read", desc := "(I)V" } : MethodName)),
  (Cond.instanceMethod ({ cls := "ChainHouse$Word", name := "read", desc := "(I)V" } : MethodName)),
  (Cond.selects "ChainHouse$Word" ({ cls := "ChainHouse$Word", name := "read", desc := "(I)V" } : MethodName) ({ cls := "ChainHouse$Word", name := "read", desc := "(I)V" } : MethodName)),
  (Cond.methodLink "ChainHouse$Machine" (130 : Nat) ({ cls := "ChainHouse$Word", name := "spell", desc := "(IILChainHouse$Bytes;)V" } : MethodName)),
  (Cond.instanceMethod ({ cls := "ChainHouse$Word", name := "spell", desc := "(IILChainHouse$Bytes;)V" } : MethodName)),
  (Cond.selects "ChainHouse$Word" ({ cls := "ChainHouse$Word", name := "spell", desc := "(IILChainHouse$Bytes;)V" } : MethodName) ({ cls := "ChainHouse$Word", name := "spell", desc := "(IILChainHouse$Bytes;)V" } : MethodName)),
  (Cond.constant "ChainHouse" (249 : Nat) (131072 : Int32)),
  (Cond.methodLink "ChainHouse" (250 : Nat) ({ cls := "ChainHouse$Machine", name := "spell", desc := "(ILChainHouse$Bytes;)V" } : MethodName)),
  (Cond.instanceMethod ({ cls := "ChainHouse$Machine", name := "spell", desc := "(ILChainHouse$Bytes;)V" } : MethodName)),
  (Cond.selects "ChainHouse$Machine" ({ cls := "ChainHouse$Machine", name := "spell", desc := "(ILChainHouse$Bytes;)V" } : MethodName) ({ cls := "ChainHouse$Machine", name := "spell", desc := "(ILChainHouse$Bytes;)V" } : MethodName)),
  (Cond.fieldLink "ChainHouse$Globals" (26 : Nat) "ChainHouse$Globals" "count" "I"),
  (Cond.methodLink "ChainHouse$Linker" (456 : Nat) ({ cls := "ChainHouse$Bytes", name := "nameByte", desc := "(JJI)I" } : MethodName)),
  (Cond.methodLink "ChainHouse$Linker" (176 : Nat) ({ cls := "ChainHouse$Globals", name := "find", desc := "(JJ)I" } : MethodName)),
  (Cond.instanceMethod ({ cls := "ChainHouse$Globals", name := "find", desc := "(JJ)I" } : MethodName)),
  (Cond.selects "ChainHouse$Globals" ({ cls := "ChainHouse$Globals", name := "find", desc := "(JJ)I" } : MethodName) ({ cls := "ChainHouse$Globals", name := "find", desc := "(JJ)I" } : MethodName)),
  (Cond.methodLink "ChainHouse" (187 : Nat) ({ cls := "ChainHouse$Linker", name := "knownGlobal", desc := "(JJ)I" } : MethodName)),
  (Cond.instanceMethod ({ cls := "ChainHouse$Linker", name := "knownGlobal", desc := "(JJ)I" } : MethodName)),
  (Cond.selects "ChainHouse$Linker" ({ cls := "ChainHouse$Linker", name := "knownGlobal", desc := "(JJ)I" } : MethodName) ({ cls := "ChainHouse$Linker", name := "knownGlobal", desc := "(JJ)I" } : MethodName)),
  (Cond.fieldLink "ChainHouseModel$CodeWordsModel" (7 : Nat) "ChainHouseModel$CodeWordsModel" "row" "[I"),
  (Cond.constant "ChainHouseModel$CodeWordsModel" (30 : Nat) (267386895 : Int32)),
  (Cond.constant "ChainHouseModel$CodeWordsModel" (31 : Nat) (1048691 : Int32)),
  (Cond.methodLink "ChainHouseModel$CodeWordsModel" (32 : Nat) ({ cls := "ChainHouseModel$CodeWordsModel", name := "fix", desc := "(IIII)V" } : MethodName))]
def zu_w4 : List Cond := [
  (Cond.instanceMethod ({ cls := "ChainHouseModel$CodeWordsModel", name := "fix", desc := "(IIII)V" } : MethodName)),
  (Cond.selects "ChainHouseModel$CodeWordsModel" ({ cls := "ChainHouseModel$CodeWordsModel", name := "fix", desc := "(IIII)V" } : MethodName) ({ cls := "ChainHouseModel$CodeWordsModel", name := "fix", desc := "(IIII)V" } : MethodName)),
  (Cond.methodLink "ChainHouseModel$CodeWordsModel" (36 : Nat) ({ cls := "ChainHouseModel$CodeWordsModel", name := "opcodeOf", desc := "(I)I" } : MethodName)),
  (Cond.static ({ cls := "ChainHouseModel$CodeWordsModel", name := "opcodeOf", desc := "(I)I" } : MethodName)),
  (Cond.methodLink "ChainHouseModel$CodeWordsModel" (40 : Nat) ({ cls := "ChainHouseModel$CodeWordsModel", name := "lay", desc := "(IIIII)V" } : MethodName)),
  (Cond.instanceMethod ({ cls := "ChainHouseModel$CodeWordsModel", name := "lay", desc := "(IIIII)V" } : MethodName)),
  (Cond.selects "ChainHouseModel$CodeWordsModel" ({ cls := "ChainHouseModel$CodeWordsModel", name := "lay", desc := "(IIIII)V" } : MethodName) ({ cls := "ChainHouseModel$CodeWordsModel", name := "lay", desc := "(IIIII)V" } : MethodName)),
  (Cond.methodLink "ChainHouseModel$CodeWordsModel" (44 : Nat) ({ cls := "ChainHouseModel$CodeWordsModel", name := "thirdOf", desc := "(I)I" } : MethodName)),
  (Cond.static ({ cls := "ChainHouseModel$CodeWordsModel", name := "thirdOf", desc := "(I)I" } : MethodName)),
  (Cond.methodLink "ChainHouseModel$CodeWordsModel" (47 : Nat) ({ cls := "ChainHouseModel$CodeWordsModel", name := "isBranch", desc := "(I)Z" } : MethodName)),
  (Cond.static ({ cls := "ChainHouseModel$CodeWordsModel", name := "isBranch", desc := "(I)Z" } : MethodName)),
  (Cond.methodLink "ChainHouseModel$CodeWordsModel" (51 : Nat) ({ cls := "ChainHouseModel$CodeWordsModel", name := "isStore", desc := "(I)Z" } : MethodName)),
  (Cond.static ({ cls := "ChainHouseModel$CodeWordsModel", name := "isStore", desc := "(I)Z" } : MethodName)),
  (Cond.methodLink "ChainHouseModel$CodeWordsModel" (54 : Nat) ({ cls := "ChainHouseModel$CodeWordsModel", name := "seventhOf", desc := "(I)I" } : MethodName)),
  (Cond.static ({ cls := "ChainHouseModel$CodeWordsModel", name := "seventhOf", desc := "(I)I" } : MethodName)),
  (Cond.methodLink "ChainHouseModel$CodeWordsModel" (57 : Nat) ({ cls := "ChainHouseModel$CodeWordsModel", name := "isShift", desc := "(I)Z" } : MethodName)),
  (Cond.static ({ cls := "ChainHouseModel$CodeWordsModel", name := "isShift", desc := "(I)Z" } : MethodName)),
  (Cond.methodLink "ChainHouseModel$CodeWordsModel" (60 : Nat) ({ cls := "ChainHouseModel$CodeWordsModel", name := "ends", desc := "(III)V" } : MethodName)),
  (Cond.instanceMethod ({ cls := "ChainHouseModel$CodeWordsModel", name := "ends", desc := "(III)V" } : MethodName)),
  (Cond.selects "ChainHouseModel$CodeWordsModel" ({ cls := "ChainHouseModel$CodeWordsModel", name := "ends", desc := "(III)V" } : MethodName) ({ cls := "ChainHouseModel$CodeWordsModel", name := "ends", desc := "(III)V" } : MethodName)),
  (Cond.methodLink "ChainHouseModel$CodeWordsModel" (64 : Nat) ({ cls := "ChainHouseModel$CodeWordsModel", name := "one", desc := "(III)V" } : MethodName)),
  (Cond.instanceMethod ({ cls := "ChainHouseModel$CodeWordsModel", name := "one", desc := "(III)V" } : MethodName)),
  (Cond.selects "ChainHouseModel$CodeWordsModel" ({ cls := "ChainHouseModel$CodeWordsModel", name := "one", desc := "(III)V" } : MethodName) ({ cls := "ChainHouseModel$CodeWordsModel", name := "one", desc := "(III)V" } : MethodName)),
  (Cond.methodLink "ChainHouseModel$CodeWordsModel" (67 : Nat) ({ cls := "ChainHouseModel$CodeWordsModel", name := "layJump", desc := "(II)V" } : MethodName)),
  (Cond.instanceMethod ({ cls := "ChainHouseModel$CodeWordsModel", name := "layJump", desc := "(II)V" } : MethodName)),
  (Cond.selects "ChainHouseModel$CodeWordsModel" ({ cls := "ChainHouseModel$CodeWordsModel", name := "layJump", desc := "(II)V" } : MethodName) ({ cls := "ChainHouseModel$CodeWordsModel", name := "layJump", desc := "(II)V" } : MethodName)),
  (Cond.methodLink "ChainHouseModel$CodeWordsModel" (1 : Nat) ({ cls := "java/lang/Object", name := "<init>", desc := "()V" } : MethodName)),
  (Cond.fieldLink "ChainHouseModel$CodeWordsModel" (13 : Nat) "ChainHouseModel$CodeWordsModel" "part" "[I"),
  (Cond.fieldLink "ChainHouseModel$CodeWordsModel" (16 : Nat) "ChainHouseModel$CodeWordsModel" "out" "[I"),
  (Cond.methodLink "ChainHouseModel$CodeWordsModel" (19 : Nat) ({ cls := "ChainHouseModel$CodeWordsModel", name := "layLong", desc := "(I)V" } : MethodName)),
  (Cond.instanceMethod ({ cls := "ChainHouseModel$CodeWordsModel", name := "layLong", desc := "(I)V" } : MethodName)),
  (Cond.selects "ChainHouseModel$CodeWordsModel" ({ cls := "ChainHouseModel$CodeWordsModel", name := "layLong", desc := "(I)V" } : MethodName) ({ cls := "ChainHouseModel$CodeWordsModel", name := "layLong", desc := "(I)V" } : MethodName)),
  (Cond.methodLink "ChainHouseModel$CodeWordsModel" (23 : Nat) ({ cls := "ChainHouseModel$CodeWordsModel", name := "layShort", desc := "()V" } : MethodName)),
  (Cond.instanceMethod ({ cls := "ChainHouseModel$CodeWordsModel", name := "layShort", desc := "()V" } : MethodName)),
  (Cond.selects "ChainHouseModel$CodeWordsModel" ({ cls := "ChainHouseModel$CodeWordsModel", name := "layShort", desc := "()V" } : MethodName) ({ cls := "ChainHouseModel$CodeWordsModel", name := "layShort", desc := "()V" } : MethodName)),
  (Cond.methodLink "ChainHouseModel$UnitTextModel" (1 : Nat) ({ cls := "java/lang/Object", name := "<init>", desc := "()V" } : MethodName)),
  (Cond.fieldLink "ChainHouseModel$UnitTextModel" (7 : Nat) "ChainHouseModel$UnitTextModel" "waiting" "[I"),
  (Cond.fieldLink "ChainHouseModel$UnitTextModel" (13 : Nat) "ChainHouseModel$UnitTextModel" "text" "[I"),
  (Cond.fieldLink "ChainHouseModel$UnitTextModel" (16 : Nat) "ChainHouseModel$UnitTextModel" "many" "[I"),
  (Cond.fieldLink "ChainHouseModel$UnitTextModel" (19 : Nat) "ChainHouseModel$UnitTextModel" "statement" "[I"),
  (Cond.fieldLink "ChainHouseModel$UnitTextModel" (22 : Nat) "ChainHouseModel$UnitTextModel" "operand" "[I"),
  (Cond.fieldLink "ChainHouseModel$UnitTextModel" (25 : Nat) "ChainHouseModel$UnitTextModel" "item" "[I"),
  (Cond.fieldLink "ChainHouseModel$UnitTextModel" (28 : Nat) "ChainHouseModel$UnitTextModel" "name" "[I"),
  (Cond.fieldLink "ChainHouseModel$UnitTextModel" (31 : Nat) "ChainHouseModel$UnitTextModel" "nameSize" "[I"),
  (Cond.fieldLink "ChainHouseModel$UnitTextModel" (34 : Nat) "ChainHouseModel$UnitTextModel" "letters" "[I"),
  (Cond.fieldLink "ChainHouseModel$UnitTextModel" (37 : Nat) "ChainHouseModel$UnitTextModel" "faultPlace" "I"),
  (Cond.fieldLink "ChainHouseModel$UnitTextModel" (41 : Nat) "ChainHouseModel$UnitTextModel" "sign" "[I"),
  (Cond.fieldLink "ChainHouseModel$UnitTextModel" (44 : Nat) "ChainHouseModel$UnitTextModel" "out" "[I"),
  (Cond.fieldLink "ChainHouseModel$UnitTextModel" (47 : Nat) "ChainHouseModel$UnitTextModel" "begin" "[I"),
  (Cond.fieldLink "ChainHouseModel$UnitTextModel" (50 : Nat) "ChainHouseModel$UnitTextModel" "task" "[I"),
  (Cond.fieldLink "ChainHouseModel$UnitTextModel" (53 : Nat) "ChainHouseModel$UnitTextModel" "stack" "[I"),
  (Cond.fieldLink "ChainHouseModel$UnitTextModel" (56 : Nat) "ChainHouseModel$UnitTextModel" "spare" "[I"),
  (Cond.fieldLink "ChainHouseModel$UnitTextModel" (59 : Nat) "ChainHouseModel$UnitTextModel" "operandText" "[I"),
  (Cond.fieldLink "ChainHouseModel$ObjectFileModel" (77 : Nat) "ChainHouseModel$ObjectFileModel" "titles" "[I"),
  (Cond.fieldLink "ChainHouseModel$ObjectFileModel" (117 : Nat) "ChainHouseModel$ObjectFileModel" "headMany" "I"),
  (Cond.fieldLink "ChainHouseModel$ObjectFileModel" (80 : Nat) "ChainHouseModel$ObjectFileModel" "titleAt" "[I"),
  (Cond.methodLink "ChainHouseModel$ObjectFileModel" (120 : Nat) ({ cls := "ChainHouseModel$ObjectFileModel", name := "letterOf", desc := "(I)V" } : MethodName)),
  (Cond.instanceMethod ({ cls := "ChainHouseModel$ObjectFileModel", name := "letterOf", desc := "(I)V" } : MethodName)),
  (Cond.selects "ChainHouseModel$ObjectFileModel" ({ cls := "ChainHouseModel$ObjectFileModel", name := "letterOf", desc := "(I)V" } : MethodName) ({ cls := "ChainHouseModel$ObjectFileModel", name := "letterOf", desc := "(I)V" } : MethodName)),
  (Cond.methodLink "ChainHouseModel$ObjectFileModel" (1 : Nat) ({ cls := "java/lang/Object", name := "<init>", desc := "()V" } : MethodName)),
  (Cond.fieldLink "ChainHouseModel$ObjectFileModel" (7 : Nat) "ChainHouseModel$ObjectFileModel" "bytes" "[I"),
  (Cond.fieldLink "ChainHouseModel$ObjectFileModel" (13 : Nat) "ChainHouseModel$ObjectFileModel" "sizes" "[I"),
  (Cond.fieldLink "ChainHouseModel$ObjectFileModel" (16 : Nat) "ChainHouseModel$ObjectFileModel" "aligns" "[I"),
  (Cond.fieldLink "ChainHouseModel$ObjectFileModel" (19 : Nat) "ChainHouseModel$ObjectFileModel" "starts" "[I"),
  (Cond.fieldLink "ChainHouseModel$ObjectFileModel" (22 : Nat) "ChainHouseModel$ObjectFileModel" "startMany" "[I"),
  (Cond.fieldLink "ChainHouseModel$ObjectFileModel" (25 : Nat) "ChainHouseModel$ObjectFileModel" "where" "[I"),
  (Cond.fieldLink "ChainHouseModel$ObjectFileModel" (28 : Nat) "ChainHouseModel$ObjectFileModel" "value" "[I"),
  (Cond.fieldLink "ChainHouseModel$ObjectFileModel" (31 : Nat) "ChainHouseModel$ObjectFileModel" "length" "[I"),
  (Cond.fieldLink "ChainHouseModel$ObjectFileModel" (34 : Nat) "ChainHouseModel$ObjectFileModel" "bind" "[I"),
  (Cond.fieldLink "ChainHouseModel$ObjectFileModel" (37 : Nat) "ChainHouseModel$ObjectFileModel" "sort" "[I"),
  (Cond.fieldLink "ChainHouseModel$ObjectFileModel" (40 : Nat) "ChainHouseModel$ObjectFileModel" "named" "[I"),
  (Cond.fieldLink "ChainHouseModel$ObjectFileModel" (43 : Nat) "ChainHouseModel$ObjectFileModel" "names" "[I"),
  (Cond.fieldLink "ChainHouseModel$ObjectFileModel" (46 : Nat) "ChainHouseModel$ObjectFileModel" "symbolMany" "[I"),
  (Cond.fieldLink "ChainHouseModel$ObjectFileModel" (49 : Nat) "ChainHouseModel$ObjectFileModel" "part" "[I"),
  (Cond.fieldLink "ChainHouseModel$ObjectFileModel" (52 : Nat) "ChainHouseModel$ObjectFileModel" "spot" "[I"),
  (Cond.fieldLink "ChainHouseModel$ObjectFileModel" (55 : Nat) "ChainHouseModel$ObjectFileModel" "kind" "[I"),
  (Cond.fieldLink "ChainHouseModel$ObjectFileModel" (58 : Nat) "ChainHouseModel$ObjectFileModel" "target" "[I"),
  (Cond.fieldLink "ChainHouseModel$ObjectFileModel" (61 : Nat) "ChainHouseModel$ObjectFileModel" "addend" "[I"),
  (Cond.fieldLink "ChainHouseModel$ObjectFileModel" (64 : Nat) "ChainHouseModel$ObjectFileModel" "relocationMany" "[I"),
  (Cond.fieldLink "ChainHouseModel$ObjectFileModel" (67 : Nat) "ChainHouseModel$ObjectFileModel" "draft" "[I"),
  (Cond.fieldLink "ChainHouseModel$ObjectFileModel" (70 : Nat) "ChainHouseModel$ObjectFileModel" "file" "[I"),
  (Cond.fieldLink "ChainHouseModel$ObjectFileModel" (73 : Nat) "ChainHouseModel$ObjectFileModel" "place" "I"),
  (Cond.fieldLink "ChainHouseModel$ObjectFileModel" (83 : Nat) "ChainHouseModel$ObjectFileModel" "begins" "[I"),
  (Cond.fieldLink "ChainHouseModel$ObjectFileModel" (86 : Nat) "ChainHouseModel$ObjectFileModel" "many" "[I"),
  (Cond.fieldLink "ChainHouseModel$ObjectFileModel" (89 : Nat) "ChainHouseModel$ObjectFileModel" "entry" "[I"),
  (Cond.fieldLink "ChainHouseModel$ObjectFileModel" (92 : Nat) "ChainHouseModel$ObjectFileModel" "strings" "[I"),
  (Cond.fieldLink "ChainHouseModel$ObjectFileModel" (95 : Nat) "ChainHouseModel$ObjectFileModel" "word" "[I"),
  (Cond.fieldLink "ChainHouseModel$ObjectFileModel" (98 : Nat) "ChainHouseModel$ObjectFileModel" "stringAt" "[I"),
  (Cond.fieldLink "ChainHouseModel$ObjectFileModel" (101 : Nat) "ChainHouseModel$ObjectFileModel" "turn" "[I"),
  (Cond.fieldLink "ChainHouseModel$ObjectFileModel" (104 : Nat) "ChainHouseModel$ObjectFileModel" "titlePlace" "[I"),
  (Cond.fieldLink "ChainHouseModel$ObjectFileModel" (107 : Nat) "ChainHouseModel$ObjectFileModel" "entryOf" "[I"),
  (Cond.fieldLink "ChainHouseModel$ObjectFileModel" (110 : Nat) "ChainHouseModel$ObjectFileModel" "nameOf" "[I"),
  (Cond.methodLink "ChainHouseModel$ObjectFileModel" (113 : Nat) ({ cls := "ChainHouseModel$ObjectFileModel", name := "title", desc := "(IIIIIIIII)V" } : MethodName)),
  (Cond.instanceMethod ({ cls := "ChainHouseModel$ObjectFileModel", name := "title", desc := "(IIIIIIIII)V" } : MethodName)),
  (Cond.selects "ChainHouseModel$ObjectFileModel" ({ cls := "ChainHouseModel$ObjectFileModel", name := "title", desc := "(IIIIIIIII)V" } : MethodName) ({ cls := "ChainHouseModel$ObjectFileModel", name := "title", desc := "(IIIIIIIII)V" } : MethodName)),
  (Cond.methodLink "ChainHouseModel$ShrinkLayoutModel" (1 : Nat) ({ cls := "java/lang/Object", name := "<init>", desc := "()V" } : MethodName)),
  (Cond.fieldLink "ChainHouseModel$ShrinkLayoutModel" (7 : Nat) "ChainHouseModel$ShrinkLayoutModel" "outputAlign" "[I"),
  (Cond.fieldLink "ChainHouseModel$ShrinkLayoutModel" (13 : Nat) "ChainHouseModel$ShrinkLayoutModel" "outputBegin" "[I"),
  (Cond.fieldLink "ChainHouseModel$ShrinkLayoutModel" (16 : Nat) "ChainHouseModel$ShrinkLayoutModel" "outputEnd" "[I"),
  (Cond.fieldLink "ChainHouseModel$ShrinkLayoutModel" (19 : Nat) "ChainHouseModel$ShrinkLayoutModel" "output" "[I")]
def zu_w5 : List Cond := [
  (Cond.fieldLink "ChainHouseModel$ShrinkLayoutModel" (22 : Nat) "ChainHouseModel$ShrinkLayoutModel" "align" "[I"),
  (Cond.fieldLink "ChainHouseModel$ShrinkLayoutModel" (25 : Nat) "ChainHouseModel$ShrinkLayoutModel" "isRoot" "[Z"),
  (Cond.fieldLink "ChainHouseModel$ShrinkLayoutModel" (29 : Nat) "ChainHouseModel$ShrinkLayoutModel" "gone" "[Z"),
  (Cond.fieldLink "ChainHouseModel$ShrinkLayoutModel" (32 : Nat) "ChainHouseModel$ShrinkLayoutModel" "met" "[Z"),
  (Cond.fieldLink "ChainHouseModel$ShrinkLayoutModel" (35 : Nat) "ChainHouseModel$ShrinkLayoutModel" "partBegin" "[I"),
  (Cond.fieldLink "ChainHouseModel$ShrinkLayoutModel" (38 : Nat) "ChainHouseModel$ShrinkLayoutModel" "partEnd" "[I"),
  (Cond.fieldLink "ChainHouseModel$ShrinkLayoutModel" (41 : Nat) "ChainHouseModel$ShrinkLayoutModel" "sort" "[I"),
  (Cond.fieldLink "ChainHouseModel$ShrinkLayoutModel" (44 : Nat) "ChainHouseModel$ShrinkLayoutModel" "partOf" "[I"),
  (Cond.fieldLink "ChainHouseModel$ShrinkLayoutModel" (47 : Nat) "ChainHouseModel$ShrinkLayoutModel" "size" "[I"),
  (Cond.fieldLink "ChainHouseModel$ShrinkLayoutModel" (50 : Nat) "ChainHouseModel$ShrinkLayoutModel" "most" "[I"),
  (Cond.fieldLink "ChainHouseModel$ShrinkLayoutModel" (53 : Nat) "ChainHouseModel$ShrinkLayoutModel" "power" "[I"),
  (Cond.fieldLink "ChainHouseModel$ShrinkLayoutModel" (56 : Nat) "ChainHouseModel$ShrinkLayoutModel" "labelOf" "[I"),
  (Cond.fieldLink "ChainHouseModel$ShrinkLayoutModel" (59 : Nat) "ChainHouseModel$ShrinkLayoutModel" "constant" "[I"),
  (Cond.fieldLink "ChainHouseModel$ShrinkLayoutModel" (62 : Nat) "ChainHouseModel$ShrinkLayoutModel" "two" "[Z"),
  (Cond.fieldLink "ChainHouseModel$ShrinkLayoutModel" (65 : Nat) "ChainHouseModel$ShrinkLayoutModel" "fixed" "[Z"),
  (Cond.fieldLink "ChainHouseModel$ShrinkLayoutModel" (68 : Nat) "ChainHouseModel$ShrinkLayoutModel" "place" "[I"),
  (Cond.fieldLink "ChainHouseModel$ShrinkLayoutModel" (71 : Nat) "ChainHouseModel$ShrinkLayoutModel" "lack" "[I"),
  (Cond.fieldLink "ChainHouseModel$ShrinkLayoutModel" (74 : Nat) "ChainHouseModel$ShrinkLayoutModel" "least" "[I"),
  (Cond.fieldLink "ChainHouseModel$ShrinkLayoutModel" (77 : Nat) "ChainHouseModel$ShrinkLayoutModel" "pieceOf" "[I"),
  (Cond.fieldLink "ChainHouseModel$ShrinkLayoutModel" (80 : Nat) "ChainHouseModel$ShrinkLayoutModel" "spot" "[I"),
  (Cond.methodLink "ChainHouseModel$ImageFileModel" (1 : Nat) ({ cls := "java/lang/Object", name := "<init>", desc := "()V" } : MethodName)),
  (Cond.fieldLink "ChainHouseModel$ImageFileModel" (7 : Nat) "ChainHouseModel$ImageFileModel" "there" "[Z"),
  (Cond.fieldLink "ChainHouseModel$ImageFileModel" (13 : Nat) "ChainHouseModel$ImageFileModel" "address" "[I"),
  (Cond.fieldLink "ChainHouseModel$ImageFileModel" (17 : Nat) "ChainHouseModel$ImageFileModel" "more" "[I"),
  (Cond.fieldLink "ChainHouseModel$ImageFileModel" (20 : Nat) "ChainHouseModel$ImageFileModel" "many" "[I"),
  (Cond.fieldLink "ChainHouseModel$ImageFileModel" (23 : Nat) "ChainHouseModel$ImageFileModel" "bytes" "[I"),
  (Cond.fieldLink "ChainHouseModel$ImageFileModel" (26 : Nat) "ChainHouseModel$ImageFileModel" "marks" "[Z"),
  (Cond.fieldLink "ChainHouseModel$ImageFileModel" (29 : Nat) "ChainHouseModel$ImageFileModel" "entry" "[I"),
  (Cond.fieldLink "ChainHouseModel$ImageFileModel" (32 : Nat) "ChainHouseModel$ImageFileModel" "page" "[I"),
  (Cond.fieldLink "ChainHouseModel$ImageFileModel" (35 : Nat) "ChainHouseModel$ImageFileModel" "file" "[I"),
  (Cond.fieldLink "ChainHouseModel$ImageFileModel" (38 : Nat) "ChainHouseModel$ImageFileModel" "place" "I"),
  (Cond.fieldLink "ChainHouseModel$ImageFileModel" (42 : Nat) "ChainHouseModel$ImageFileModel" "rowOf" "[I"),
  (Cond.fieldLink "ChainHouseModel$ImageFileModel" (45 : Nat) "ChainHouseModel$ImageFileModel" "begins" "[I"),
  (Cond.fieldLink "ChainHouseModel$StepMachineModel" (7 : Nat) "ChainHouseModel$StepMachineModel" "row" "[I"),
  (Cond.constant "ChainHouseModel$StepMachineModel" (56 : Nat) (267386895 : Int32)),
  (Cond.constant "ChainHouseModel$StepMachineModel" (57 : Nat) (1048691 : Int32)),
  (Cond.methodLink "ChainHouseModel$StepMachineModel" (58 : Nat) ({ cls := "ChainHouseModel$StepMachineModel", name := "fix", desc := "(IIII)V" } : MethodName)),
  (Cond.instanceMethod ({ cls := "ChainHouseModel$StepMachineModel", name := "fix", desc := "(IIII)V" } : MethodName)),
  (Cond.selects "ChainHouseModel$StepMachineModel" ({ cls := "ChainHouseModel$StepMachineModel", name := "fix", desc := "(IIII)V" } : MethodName) ({ cls := "ChainHouseModel$StepMachineModel", name := "fix", desc := "(IIII)V" } : MethodName)),
  (Cond.methodLink "ChainHouseModel$StepMachineModel" (62 : Nat) ({ cls := "ChainHouseModel$StepMachineModel", name := "opcodeOf", desc := "(I)I" } : MethodName)),
  (Cond.static ({ cls := "ChainHouseModel$StepMachineModel", name := "opcodeOf", desc := "(I)I" } : MethodName)),
  (Cond.methodLink "ChainHouseModel$StepMachineModel" (66 : Nat) ({ cls := "ChainHouseModel$StepMachineModel", name := "lay", desc := "(IIIII)V" } : MethodName)),
  (Cond.instanceMethod ({ cls := "ChainHouseModel$StepMachineModel", name := "lay", desc := "(IIIII)V" } : MethodName)),
  (Cond.selects "ChainHouseModel$StepMachineModel" ({ cls := "ChainHouseModel$StepMachineModel", name := "lay", desc := "(IIIII)V" } : MethodName) ({ cls := "ChainHouseModel$StepMachineModel", name := "lay", desc := "(IIIII)V" } : MethodName)),
  (Cond.methodLink "ChainHouseModel$StepMachineModel" (70 : Nat) ({ cls := "ChainHouseModel$StepMachineModel", name := "thirdOf", desc := "(I)I" } : MethodName)),
  (Cond.static ({ cls := "ChainHouseModel$StepMachineModel", name := "thirdOf", desc := "(I)I" } : MethodName)),
  (Cond.methodLink "ChainHouseModel$StepMachineModel" (73 : Nat) ({ cls := "ChainHouseModel$StepMachineModel", name := "isBranch", desc := "(I)Z" } : MethodName)),
  (Cond.static ({ cls := "ChainHouseModel$StepMachineModel", name := "isBranch", desc := "(I)Z" } : MethodName)),
  (Cond.methodLink "ChainHouseModel$StepMachineModel" (77 : Nat) ({ cls := "ChainHouseModel$StepMachineModel", name := "isStore", desc := "(I)Z" } : MethodName)),
  (Cond.static ({ cls := "ChainHouseModel$StepMachineModel", name := "isStore", desc := "(I)Z" } : MethodName)),
  (Cond.methodLink "ChainHouseModel$StepMachineModel" (80 : Nat) ({ cls := "ChainHouseModel$StepMachineModel", name := "seventhOf", desc := "(I)I" } : MethodName)),
  (Cond.static ({ cls := "ChainHouseModel$StepMachineModel", name := "seventhOf", desc := "(I)I" } : MethodName)),
  (Cond.methodLink "ChainHouseModel$StepMachineModel" (83 : Nat) ({ cls := "ChainHouseModel$StepMachineModel", name := "isShift", desc := "(I)Z" } : MethodName)),
  (Cond.static ({ cls := "ChainHouseModel$StepMachineModel", name := "isShift", desc := "(I)Z" } : MethodName)),
  (Cond.methodLink "ChainHouseModel$StepMachineModel" (86 : Nat) ({ cls := "ChainHouseModel$StepMachineModel", name := "ends", desc := "(III)V" } : MethodName)),
  (Cond.instanceMethod ({ cls := "ChainHouseModel$StepMachineModel", name := "ends", desc := "(III)V" } : MethodName)),
  (Cond.selects "ChainHouseModel$StepMachineModel" ({ cls := "ChainHouseModel$StepMachineModel", name := "ends", desc := "(III)V" } : MethodName) ({ cls := "ChainHouseModel$StepMachineModel", name := "ends", desc := "(III)V" } : MethodName)),
  (Cond.methodLink "ChainHouseModel$StepMachineModel" (90 : Nat) ({ cls := "ChainHouseModel$StepMachineModel", name := "one", desc := "(III)V" } : MethodName)),
  (Cond.instanceMethod ({ cls := "ChainHouseModel$StepMachineModel", name := "one", desc := "(III)V" } : MethodName)),
  (Cond.selects "ChainHouseModel$StepMachineModel" ({ cls := "ChainHouseModel$StepMachineModel", name := "one", desc := "(III)V" } : MethodName) ({ cls := "ChainHouseModel$StepMachineModel", name := "one", desc := "(III)V" } : MethodName)),
  (Cond.methodLink "ChainHouseModel$StepMachineModel" (93 : Nat) ({ cls := "ChainHouseModel$StepMachineModel", name := "layJump", desc := "(II)V" } : MethodName)),
  (Cond.instanceMethod ({ cls := "ChainHouseModel$StepMachineModel", name := "layJump", desc := "(II)V" } : MethodName)),
  (Cond.selects "ChainHouseModel$StepMachineModel" ({ cls := "ChainHouseModel$StepMachineModel", name := "layJump", desc := "(II)V" } : MethodName) ({ cls := "ChainHouseModel$StepMachineModel", name := "layJump", desc := "(II)V" } : MethodName)),
  (Cond.methodLink "ChainHouseModel$StepMachineModel" (1 : Nat) ({ cls := "java/lang/Object", name := "<init>", desc := "()V" } : MethodName)),
  (Cond.fieldLink "ChainHouseModel$StepMachineModel" (13 : Nat) "ChainHouseModel$StepMachineModel" "part" "[I"),
  (Cond.constant "ChainHouseModel$StepMachineModel" (16 : Nat) (131072 : Int32)),
  (Cond.fieldLink "ChainHouseModel$StepMachineModel" (17 : Nat) "ChainHouseModel$StepMachineModel" "memory" "[I"),
  (Cond.constant "ChainHouseModel$StepMachineModel" (20 : Nat) (65536 : Int32)),
  (Cond.fieldLink "ChainHouseModel$StepMachineModel" (21 : Nat) "ChainHouseModel$StepMachineModel" "marked" "[Z"),
  (Cond.fieldLink "ChainHouseModel$StepMachineModel" (25 : Nat) "ChainHouseModel$StepMachineModel" "segmentFrom" "[I"),
  (Cond.fieldLink "ChainHouseModel$StepMachineModel" (28 : Nat) "ChainHouseModel$StepMachineModel" "segmentSize" "[I"),
  (Cond.fieldLink "ChainHouseModel$StepMachineModel" (31 : Nat) "ChainHouseModel$StepMachineModel" "segmentRights" "[I"),
  (Cond.fieldLink "ChainHouseModel$StepMachineModel" (34 : Nat) "ChainHouseModel$StepMachineModel" "halts" "[I"),
  (Cond.fieldLink "ChainHouseModel$StepMachineModel" (37 : Nat) "ChainHouseModel$StepMachineModel" "register" "[I"),
  (Cond.fieldLink "ChainHouseModel$StepMachineModel" (40 : Nat) "ChainHouseModel$StepMachineModel" "input" "[I"),
  (Cond.fieldLink "ChainHouseModel$StepMachineModel" (43 : Nat) "ChainHouseModel$StepMachineModel" "output" "[I"),
  (Cond.fieldLink "ChainHouseModel$StepMachineModel" (46 : Nat) "ChainHouseModel$StepMachineModel" "kept" "[I"),
  (Cond.methodLink "ChainHouseModel$StepMachineModel" (49 : Nat) ({ cls := "ChainHouseModel$StepMachineModel", name := "layLong", desc := "(I)V" } : MethodName)),
  (Cond.instanceMethod ({ cls := "ChainHouseModel$StepMachineModel", name := "layLong", desc := "(I)V" } : MethodName)),
  (Cond.selects "ChainHouseModel$StepMachineModel" ({ cls := "ChainHouseModel$StepMachineModel", name := "layLong", desc := "(I)V" } : MethodName) ({ cls := "ChainHouseModel$StepMachineModel", name := "layLong", desc := "(I)V" } : MethodName)),
  (Cond.methodLink "ChainHouseModel$StepMachineModel" (53 : Nat) ({ cls := "ChainHouseModel$StepMachineModel", name := "layShort", desc := "()V" } : MethodName)),
  (Cond.instanceMethod ({ cls := "ChainHouseModel$StepMachineModel", name := "layShort", desc := "()V" } : MethodName)),
  (Cond.selects "ChainHouseModel$StepMachineModel" ({ cls := "ChainHouseModel$StepMachineModel", name := "layShort", desc := "()V" } : MethodName) ({ cls := "ChainHouseModel$StepMachineModel", name := "layShort", desc := "()V" } : MethodName)),
  (Cond.methodLink "ChainHouseModel" (1 : Nat) ({ cls := "java/lang/Object", name := "<init>", desc := "()V" } : MethodName)),
  (Cond.constant "ChainHouseModel" (7 : Nat) (49152 : Int32)),
  (Cond.fieldLink "ChainHouseModel" (8 : Nat) "ChainHouseModel" "files" "[I"),
  (Cond.fieldLink "ChainHouseModel" (14 : Nat) "ChainHouseModel" "fileSize" "[I"),
  (Cond.fieldLink "ChainHouseModel" (17 : Nat) "ChainHouseModel" "imageFile" "[I"),
  (Cond.classLink "ChainHouseModel" (20 : Nat) "ChainHouseModel$CodeWordsModel"),
  (Cond.instantiable "ChainHouseModel$CodeWordsModel" (6 : Nat)),
  (Cond.initialized "ChainHouseModel$CodeWordsModel"),
  (Cond.methodLink "ChainHouseModel" (22 : Nat) ({ cls := "ChainHouseModel$CodeWordsModel", name := "<init>", desc := "()V" } : MethodName)),
  (Cond.instanceMethod ({ cls := "ChainHouseModel$CodeWordsModel", name := "<init>", desc := "()V" } : MethodName)),
  (Cond.fieldLink "ChainHouseModel" (23 : Nat) "ChainHouseModel" "words" "LChainHouseModel$CodeWordsModel;"),
  (Cond.classLink "ChainHouseModel" (27 : Nat) "ChainHouseModel$UnitTextModel"),
  (Cond.instantiable "ChainHouseModel$UnitTextModel" (36 : Nat)),
  (Cond.initialized "ChainHouseModel$UnitTextModel"),
  (Cond.methodLink "ChainHouseModel" (29 : Nat) ({ cls := "ChainHouseModel$UnitTextModel", name := "<init>", desc := "()V" } : MethodName)),
  (Cond.instanceMethod ({ cls := "ChainHouseModel$UnitTextModel", name := "<init>", desc := "()V" } : MethodName)),
  (Cond.fieldLink "ChainHouseModel" (30 : Nat) "ChainHouseModel" "texts" "LChainHouseModel$UnitTextModel;")]
def zu_w6 : List Cond := [
  (Cond.classLink "ChainHouseModel" (34 : Nat) "ChainHouseModel$ObjectFileModel"),
  (Cond.instantiable "ChainHouseModel$ObjectFileModel" (41 : Nat)),
  (Cond.initialized "ChainHouseModel$ObjectFileModel"),
  (Cond.methodLink "ChainHouseModel" (36 : Nat) ({ cls := "ChainHouseModel$ObjectFileModel", name := "<init>", desc := "()V" } : MethodName)),
  (Cond.instanceMethod ({ cls := "ChainHouseModel$ObjectFileModel", name := "<init>", desc := "()V" } : MethodName)),
  (Cond.fieldLink "ChainHouseModel" (37 : Nat) "ChainHouseModel" "objects" "LChainHouseModel$ObjectFileModel;"),
  (Cond.fieldLink "ChainHouseModel" (41 : Nat) "ChainHouseModel" "checked" "LChainHouseModel$ObjectFileModel;"),
  (Cond.classLink "ChainHouseModel" (44 : Nat) "ChainHouseModel$ShrinkLayoutModel"),
  (Cond.instantiable "ChainHouseModel$ShrinkLayoutModel" (28 : Nat)),
  (Cond.initialized "ChainHouseModel$ShrinkLayoutModel"),
  (Cond.methodLink "ChainHouseModel" (46 : Nat) ({ cls := "ChainHouseModel$ShrinkLayoutModel", name := "<init>", desc := "()V" } : MethodName)),
  (Cond.instanceMethod ({ cls := "ChainHouseModel$ShrinkLayoutModel", name := "<init>", desc := "()V" } : MethodName)),
  (Cond.fieldLink "ChainHouseModel" (47 : Nat) "ChainHouseModel" "layout" "LChainHouseModel$ShrinkLayoutModel;"),
  (Cond.classLink "ChainHouseModel" (51 : Nat) "ChainHouseModel$ImageFileModel"),
  (Cond.instantiable "ChainHouseModel$ImageFileModel" (16 : Nat)),
  (Cond.initialized "ChainHouseModel$ImageFileModel"),
  (Cond.methodLink "ChainHouseModel" (53 : Nat) ({ cls := "ChainHouseModel$ImageFileModel", name := "<init>", desc := "()V" } : MethodName)),
  (Cond.instanceMethod ({ cls := "ChainHouseModel$ImageFileModel", name := "<init>", desc := "()V" } : MethodName)),
  (Cond.fieldLink "ChainHouseModel" (54 : Nat) "ChainHouseModel" "images" "LChainHouseModel$ImageFileModel;"),
  (Cond.classLink "ChainHouseModel" (58 : Nat) "ChainHouseModel$StepMachineModel"),
  (Cond.instantiable "ChainHouseModel$StepMachineModel" (29 : Nat)),
  (Cond.initialized "ChainHouseModel$StepMachineModel"),
  (Cond.methodLink "ChainHouseModel" (60 : Nat) ({ cls := "ChainHouseModel$StepMachineModel", name := "<init>", desc := "()V" } : MethodName)),
  (Cond.instanceMethod ({ cls := "ChainHouseModel$StepMachineModel", name := "<init>", desc := "()V" } : MethodName)),
  (Cond.fieldLink "ChainHouseModel" (61 : Nat) "ChainHouseModel" "machine" "LChainHouseModel$StepMachineModel;"),
  (Cond.fieldLink "ChainHouseModel" (65 : Nat) "ChainHouseModel" "symbolName" "[I"),
  (Cond.fieldLink "ChainHouseModel" (68 : Nat) "ChainHouseModel" "symbolWhere" "[I"),
  (Cond.fieldLink "ChainHouseModel" (71 : Nat) "ChainHouseModel" "symbolValue" "[I"),
  (Cond.fieldLink "ChainHouseModel" (74 : Nat) "ChainHouseModel" "symbolSize" "[I"),
  (Cond.fieldLink "ChainHouseModel" (77 : Nat) "ChainHouseModel" "symbolBind" "[I"),
  (Cond.fieldLink "ChainHouseModel" (80 : Nat) "ChainHouseModel" "symbolOf" "[I"),
  (Cond.fieldLink "ChainHouseModel" (83 : Nat) "ChainHouseModel" "behindDigit" "[I"),
  (Cond.fieldLink "ChainHouseModel" (86 : Nat) "ChainHouseModel" "aheadDigit" "[I"),
  (Cond.fieldLink "ChainHouseModel" (89 : Nat) "ChainHouseModel" "aheadPlace" "[I"),
  (Cond.fieldLink "ChainHouseModel" (92 : Nat) "ChainHouseModel" "bytes" "[I"),
  (Cond.fieldLink "ChainHouseModel" (95 : Nat) "ChainHouseModel" "sizes" "[I"),
  (Cond.fieldLink "ChainHouseModel" (98 : Nat) "ChainHouseModel" "aligns" "[I"),
  (Cond.fieldLink "ChainHouseModel" (101 : Nat) "ChainHouseModel" "start" "[I"),
  (Cond.fieldLink "ChainHouseModel" (104 : Nat) "ChainHouseModel" "moveSection" "[I"),
  (Cond.fieldLink "ChainHouseModel" (107 : Nat) "ChainHouseModel" "movePlace" "[I"),
  (Cond.fieldLink "ChainHouseModel" (110 : Nat) "ChainHouseModel" "moveKind" "[I"),
  (Cond.fieldLink "ChainHouseModel" (113 : Nat) "ChainHouseModel" "moveSymbol" "[I"),
  (Cond.fieldLink "ChainHouseModel" (116 : Nat) "ChainHouseModel" "moveAddend" "[I"),
  (Cond.fieldLink "ChainHouseModel" (119 : Nat) "ChainHouseModel" "keptShorts" "[Z"),
  (Cond.fieldLink "ChainHouseModel" (123 : Nat) "ChainHouseModel" "keptShrinks" "[Z"),
  (Cond.fieldLink "ChainHouseModel" (126 : Nat) "ChainHouseModel" "faultPlace" "I"),
  (Cond.fieldLink "ChainHouseModel" (130 : Nat) "ChainHouseModel" "number" "[I"),
  (Cond.fieldLink "ChainHouseModel" (133 : Nat) "ChainHouseModel" "added" "[I"),
  (Cond.fieldLink "ChainHouseModel" (136 : Nat) "ChainHouseModel" "takenOff" "[I"),
  (Cond.fieldLink "ChainHouseModel" (139 : Nat) "ChainHouseModel" "rowNumber" "[I"),
  (Cond.fieldLink "ChainHouseModel" (142 : Nat) "ChainHouseModel" "rowAdded" "[I"),
  (Cond.fieldLink "ChainHouseModel" (145 : Nat) "ChainHouseModel" "rowOff" "[I"),
  (Cond.fieldLink "ChainHouseModel" (148 : Nat) "ChainHouseModel" "has" "[I"),
  (Cond.constant "ChainHouseModel" (151 : Nat) (36864 : Int32)),
  (Cond.fieldLink "ChainHouseModel" (152 : Nat) "ChainHouseModel" "unitBytes" "[I"),
  (Cond.fieldLink "ChainHouseModel" (155 : Nat) "ChainHouseModel" "unitSize" "[I"),
  (Cond.fieldLink "ChainHouseModel" (158 : Nat) "ChainHouseModel" "unitAlign" "[I"),
  (Cond.fieldLink "ChainHouseModel" (161 : Nat) "ChainHouseModel" "unitStart" "[I"),
  (Cond.fieldLink "ChainHouseModel" (164 : Nat) "ChainHouseModel" "unitStarts" "[I"),
  (Cond.fieldLink "ChainHouseModel" (167 : Nat) "ChainHouseModel" "unitShort" "[Z"),
  (Cond.fieldLink "ChainHouseModel" (170 : Nat) "ChainHouseModel" "unitSymbols" "[I"),
  (Cond.fieldLink "ChainHouseModel" (173 : Nat) "ChainHouseModel" "where" "[I"),
  (Cond.fieldLink "ChainHouseModel" (176 : Nat) "ChainHouseModel" "value" "[I"),
  (Cond.fieldLink "ChainHouseModel" (179 : Nat) "ChainHouseModel" "length" "[I"),
  (Cond.fieldLink "ChainHouseModel" (182 : Nat) "ChainHouseModel" "bind" "[I"),
  (Cond.fieldLink "ChainHouseModel" (185 : Nat) "ChainHouseModel" "nameSize" "[I"),
  (Cond.fieldLink "ChainHouseModel" (188 : Nat) "ChainHouseModel" "name" "[I"),
  (Cond.fieldLink "ChainHouseModel" (191 : Nat) "ChainHouseModel" "unitMoves" "[I"),
  (Cond.fieldLink "ChainHouseModel" (194 : Nat) "ChainHouseModel" "section" "[I"),
  (Cond.fieldLink "ChainHouseModel" (197 : Nat) "ChainHouseModel" "spot" "[I"),
  (Cond.fieldLink "ChainHouseModel" (200 : Nat) "ChainHouseModel" "kind" "[I"),
  (Cond.fieldLink "ChainHouseModel" (203 : Nat) "ChainHouseModel" "target" "[I"),
  (Cond.fieldLink "ChainHouseModel" (206 : Nat) "ChainHouseModel" "addend" "[I"),
  (Cond.fieldLink "ChainHouseModel" (209 : Nat) "ChainHouseModel" "globalOf" "[I"),
  (Cond.fieldLink "ChainHouseModel" (212 : Nat) "ChainHouseModel" "globalFirst" "[I"),
  (Cond.fieldLink "ChainHouseModel" (215 : Nat) "ChainHouseModel" "globalHow" "[I"),
  (Cond.fieldLink "ChainHouseModel" (218 : Nat) "ChainHouseModel" "globalSymbol" "[I"),
  (Cond.fieldLink "ChainHouseModel" (221 : Nat) "ChainHouseModel" "globalSize" "[I"),
  (Cond.fieldLink "ChainHouseModel" (224 : Nat) "ChainHouseModel" "globalAlign" "[I"),
  (Cond.fieldLink "ChainHouseModel" (227 : Nat) "ChainHouseModel" "globalPart" "[I"),
  (Cond.fieldLink "ChainHouseModel" (230 : Nat) "ChainHouseModel" "globalRule" "[I"),
  (Cond.fieldLink "ChainHouseModel" (233 : Nat) "ChainHouseModel" "pieceFrom" "[I"),
  (Cond.fieldLink "ChainHouseModel" (236 : Nat) "ChainHouseModel" "pieceBytes" "[I"),
  (Cond.fieldLink "ChainHouseModel" (239 : Nat) "ChainHouseModel" "pieceMove" "[I"),
  (Cond.fieldLink "ChainHouseModel" (242 : Nat) "ChainHouseModel" "partFirst" "[I"),
  (Cond.fieldLink "ChainHouseModel" (245 : Nat) "ChainHouseModel" "partMany" "[I"),
  (Cond.fieldLink "ChainHouseModel" (248 : Nat) "ChainHouseModel" "partOf" "[I"),
  (Cond.fieldLink "ChainHouseModel" (251 : Nat) "ChainHouseModel" "ownPiece" "[I"),
  (Cond.fieldLink "ChainHouseModel" (254 : Nat) "ChainHouseModel" "labelOf" "[I"),
  (Cond.fieldLink "ChainHouseModel" (257 : Nat) "ChainHouseModel" "outBytes" "[I"),
  (Cond.fieldLink "ChainHouseModel" (260 : Nat) "ChainHouseModel" "linkUnit" "I"),
  (Cond.fieldLink "ChainHouseModel" (263 : Nat) "ChainHouseModel" "linkNumber" "I"),
  (Cond.fieldLink "ChainHouseModel" (266 : Nat) "ChainHouseModel" "toldSize" "[I"),
  (Cond.fieldLink "ChainHouseModel" (269 : Nat) "ChainHouseModel" "toldName" "[I"),
  (Cond.fieldLink "ChainHouseModel" (272 : Nat) "ChainHouseModel" "toldValue" "[I"),
  (Cond.fieldLink "ChainHouseModel" (275 : Nat) "ChainHouseModel" "asked" "[I"),
  (Cond.fieldLink "ChainHouseModel" (278 : Nat) "ChainHouseModel" "loadPlace" "I"),
  (Cond.fieldLink "ChainHouseModel$UnitTextModel" (88 : Nat) "ChainHouseModel$UnitTextModel" "to" "I"),
  (Cond.fieldLink "ChainHouseModel$UnitTextModel" (69 : Nat) "ChainHouseModel$UnitTextModel" "size" "I"),
  (Cond.fieldLink "ChainHouseModel$UnitTextModel" (85 : Nat) "ChainHouseModel$UnitTextModel" "from" "I")]
def zu_w7 : List Cond := [
  (Cond.fieldLink "ChainHouseModel$UnitTextModel" (79 : Nat) "ChainHouseModel$UnitTextModel" "sort" "I"),
  (Cond.fieldLink "ChainHouseModel$UnitTextModel" (208 : Nat) "ChainHouseModel$UnitTextModel" "lettersSize" "I"),
  (Cond.fieldLink "ChainHouseModel$UnitTextModel" (146 : Nat) "ChainHouseModel$UnitTextModel" "counted" "I"),
  (Cond.fieldLink "ChainHouseModel$UnitTextModel" (136 : Nat) "ChainHouseModel$UnitTextModel" "fault" "I"),
  (Cond.fieldLink "ChainHouseModel$UnitTextModel" (139 : Nat) "ChainHouseModel$UnitTextModel" "place" "I"),
  (Cond.fieldLink "ChainHouseModel$UnitTextModel" (220 : Nat) "ChainHouseModel$UnitTextModel" "line" "I"),
  (Cond.methodLink "ChainHouseModel$UnitTextModel" (177 : Nat) ({ cls := "ChainHouseModel$UnitTextModel", name := "next", desc := "()V" } : MethodName)),
  (Cond.instanceMethod ({ cls := "ChainHouseModel$UnitTextModel", name := "next", desc := "()V" } : MethodName)),
  (Cond.selects "ChainHouseModel$UnitTextModel" ({ cls := "ChainHouseModel$UnitTextModel", name := "next", desc := "()V" } : MethodName) ({ cls := "ChainHouseModel$UnitTextModel", name := "next", desc := "()V" } : MethodName)),
  (Cond.methodLink "ChainHouseModel$UnitTextModel" (232 : Nat) ({ cls := "ChainHouseModel$UnitTextModel", name := "readLine", desc := "()Z" } : MethodName)),
  (Cond.instanceMethod ({ cls := "ChainHouseModel$UnitTextModel", name := "readLine", desc := "()Z" } : MethodName)),
  (Cond.selects "ChainHouseModel$UnitTextModel" ({ cls := "ChainHouseModel$UnitTextModel", name := "readLine", desc := "()Z" } : MethodName) ({ cls := "ChainHouseModel$UnitTextModel", name := "readLine", desc := "()Z" } : MethodName)),
  (Cond.fieldLink "ChainHouseModel$UnitTextModel" (235 : Nat) "ChainHouseModel$UnitTextModel" "faultNumber" "I"),
  (Cond.fieldLink "ChainHouseModel$UnitTextModel" (62 : Nat) "ChainHouseModel$UnitTextModel" "thrown" "I"),
  (Cond.methodLink "ChainHouseModel$UnitTextModel" (238 : Nat) ({ cls := "ChainHouseModel$UnitTextModel", name := "keep", desc := "()V" } : MethodName)),
  (Cond.instanceMethod ({ cls := "ChainHouseModel$UnitTextModel", name := "keep", desc := "()V" } : MethodName)),
  (Cond.selects "ChainHouseModel$UnitTextModel" ({ cls := "ChainHouseModel$UnitTextModel", name := "keep", desc := "()V" } : MethodName) ({ cls := "ChainHouseModel$UnitTextModel", name := "keep", desc := "()V" } : MethodName)),
  (Cond.fieldLink "ChainHouseModel" (354 : Nat) "ChainHouseModel" "symbols" "I"),
  (Cond.fieldLink "ChainHouseModel" (357 : Nat) "ChainHouseModel" "hidden" "I"),
  (Cond.fieldLink "ChainHouseModel" (360 : Nat) "ChainHouseModel" "starts" "I"),
  (Cond.fieldLink "ChainHouseModel" (363 : Nat) "ChainHouseModel" "moves" "I"),
  (Cond.fieldLink "ChainHouseModel" (366 : Nat) "ChainHouseModel" "current" "I"),
  (Cond.fieldLink "ChainHouseModel" (369 : Nat) "ChainHouseModel" "shorts" "Z"),
  (Cond.fieldLink "ChainHouseModel" (373 : Nat) "ChainHouseModel" "shrinks" "Z"),
  (Cond.fieldLink "ChainHouseModel" (376 : Nat) "ChainHouseModel" "pushed" "I"),
  (Cond.fieldLink "ChainHouseModel" (342 : Nat) "ChainHouseModel" "fault" "I"),
  (Cond.fieldLink "ChainHouseModel" (345 : Nat) "ChainHouseModel" "place" "I"),
  (Cond.methodLink "ChainHouseModel" (755 : Nat) ({ cls := "ChainHouseModel$UnitTextModel", name := "count", desc := "(I)I" } : MethodName)),
  (Cond.instanceMethod ({ cls := "ChainHouseModel$UnitTextModel", name := "count", desc := "(I)I" } : MethodName)),
  (Cond.selects "ChainHouseModel$UnitTextModel" ({ cls := "ChainHouseModel$UnitTextModel", name := "count", desc := "(I)I" } : MethodName) ({ cls := "ChainHouseModel$UnitTextModel", name := "count", desc := "(I)I" } : MethodName)),
  (Cond.fieldLink "ChainHouseModel$ObjectFileModel" (134 : Nat) "ChainHouseModel$ObjectFileModel" "drafted" "I"),
  (Cond.methodLink "ChainHouseModel" (758 : Nat) ({ cls := "ChainHouseModel$ObjectFileModel", name := "clear", desc := "()V" } : MethodName)),
  (Cond.instanceMethod ({ cls := "ChainHouseModel$ObjectFileModel", name := "clear", desc := "()V" } : MethodName)),
  (Cond.selects "ChainHouseModel$ObjectFileModel" ({ cls := "ChainHouseModel$ObjectFileModel", name := "clear", desc := "()V" } : MethodName) ({ cls := "ChainHouseModel$ObjectFileModel", name := "clear", desc := "()V" } : MethodName)),
  (Cond.fieldLink "ChainHouseModel$ObjectFileModel" (162 : Nat) "ChainHouseModel$ObjectFileModel" "stringMany" "I"),
  (Cond.methodLink "ChainHouseModel$ObjectFileModel" (172 : Nat) ({ cls := "ChainHouseModel$ObjectFileModel", name := "begin", desc := "()V" } : MethodName)),
  (Cond.instanceMethod ({ cls := "ChainHouseModel$ObjectFileModel", name := "begin", desc := "()V" } : MethodName)),
  (Cond.selects "ChainHouseModel$ObjectFileModel" ({ cls := "ChainHouseModel$ObjectFileModel", name := "begin", desc := "()V" } : MethodName) ({ cls := "ChainHouseModel$ObjectFileModel", name := "begin", desc := "()V" } : MethodName)),
  (Cond.fieldLink "ChainHouseModel$ObjectFileModel" (165 : Nat) "ChainHouseModel$ObjectFileModel" "wordMany" "I"),
  (Cond.methodLink "ChainHouseModel$ObjectFileModel" (179 : Nat) ({ cls := "ChainHouseModel$ObjectFileModel", name := "takeTitle", desc := "(I)V" } : MethodName)),
  (Cond.instanceMethod ({ cls := "ChainHouseModel$ObjectFileModel", name := "takeTitle", desc := "(I)V" } : MethodName)),
  (Cond.selects "ChainHouseModel$ObjectFileModel" ({ cls := "ChainHouseModel$ObjectFileModel", name := "takeTitle", desc := "(I)V" } : MethodName) ({ cls := "ChainHouseModel$ObjectFileModel", name := "takeTitle", desc := "(I)V" } : MethodName)),
  (Cond.methodLink "ChainHouseModel$ObjectFileModel" (175 : Nat) ({ cls := "ChainHouseModel$ObjectFileModel", name := "stringFor", desc := "()I" } : MethodName)),
  (Cond.instanceMethod ({ cls := "ChainHouseModel$ObjectFileModel", name := "stringFor", desc := "()I" } : MethodName)),
  (Cond.selects "ChainHouseModel$ObjectFileModel" ({ cls := "ChainHouseModel$ObjectFileModel", name := "stringFor", desc := "()I" } : MethodName) ({ cls := "ChainHouseModel$ObjectFileModel", name := "stringFor", desc := "()I" } : MethodName)),
  (Cond.methodLink "ChainHouseModel$ObjectFileModel" (182 : Nat) ({ cls := "ChainHouseModel$ObjectFileModel", name := "roundUp", desc := "(II)I" } : MethodName)),
  (Cond.static ({ cls := "ChainHouseModel$ObjectFileModel", name := "roundUp", desc := "(II)I" } : MethodName)),
  (Cond.methodLink "ChainHouseModel$ObjectFileModel" (185 : Nat) ({ cls := "ChainHouseModel$ObjectFileModel", name := "relocationsOf", desc := "(I)I" } : MethodName)),
  (Cond.instanceMethod ({ cls := "ChainHouseModel$ObjectFileModel", name := "relocationsOf", desc := "(I)I" } : MethodName)),
  (Cond.selects "ChainHouseModel$ObjectFileModel" ({ cls := "ChainHouseModel$ObjectFileModel", name := "relocationsOf", desc := "(I)I" } : MethodName) ({ cls := "ChainHouseModel$ObjectFileModel", name := "relocationsOf", desc := "(I)I" } : MethodName)),
  (Cond.methodLink "ChainHouseModel$ObjectFileModel" (189 : Nat) ({ cls := "ChainHouseModel$ObjectFileModel", name := "order", desc := "()I" } : MethodName)),
  (Cond.instanceMethod ({ cls := "ChainHouseModel$ObjectFileModel", name := "order", desc := "()I" } : MethodName)),
  (Cond.selects "ChainHouseModel$ObjectFileModel" ({ cls := "ChainHouseModel$ObjectFileModel", name := "order", desc := "()I" } : MethodName) ({ cls := "ChainHouseModel$ObjectFileModel", name := "order", desc := "()I" } : MethodName)),
  (Cond.methodLink "ChainHouseModel$ObjectFileModel" (192 : Nat) ({ cls := "ChainHouseModel$ObjectFileModel", name := "sizeOfSymbolNames", desc := "()I" } : MethodName)),
  (Cond.instanceMethod ({ cls := "ChainHouseModel$ObjectFileModel", name := "sizeOfSymbolNames", desc := "()I" } : MethodName)),
  (Cond.selects "ChainHouseModel$ObjectFileModel" ({ cls := "ChainHouseModel$ObjectFileModel", name := "sizeOfSymbolNames", desc := "()I" } : MethodName) ({ cls := "ChainHouseModel$ObjectFileModel", name := "sizeOfSymbolNames", desc := "()I" } : MethodName)),
  (Cond.fieldLink "ChainHouseModel$ObjectFileModel" (195 : Nat) "ChainHouseModel$ObjectFileModel" "entries" "I"),
  (Cond.methodLink "ChainHouseModel$ObjectFileModel" (198 : Nat) ({ cls := "ChainHouseModel$ObjectFileModel", name := "sizeOfTitles", desc := "()I" } : MethodName)),
  (Cond.instanceMethod ({ cls := "ChainHouseModel$ObjectFileModel", name := "sizeOfTitles", desc := "()I" } : MethodName)),
  (Cond.selects "ChainHouseModel$ObjectFileModel" ({ cls := "ChainHouseModel$ObjectFileModel", name := "sizeOfTitles", desc := "()I" } : MethodName) ({ cls := "ChainHouseModel$ObjectFileModel", name := "sizeOfTitles", desc := "()I" } : MethodName)),
  (Cond.methodLink "ChainHouseModel$ObjectFileModel" (201 : Nat) ({ cls := "ChainHouseModel$ObjectFileModel", name := "write1", desc := "(II)V" } : MethodName)),
  (Cond.instanceMethod ({ cls := "ChainHouseModel$ObjectFileModel", name := "write1", desc := "(II)V" } : MethodName)),
  (Cond.selects "ChainHouseModel$ObjectFileModel" ({ cls := "ChainHouseModel$ObjectFileModel", name := "write1", desc := "(II)V" } : MethodName) ({ cls := "ChainHouseModel$ObjectFileModel", name := "write1", desc := "(II)V" } : MethodName)),
  (Cond.methodLink "ChainHouseModel$ObjectFileModel" (205 : Nat) ({ cls := "ChainHouseModel$ObjectFileModel", name := "write2", desc := "(II)V" } : MethodName)),
  (Cond.instanceMethod ({ cls := "ChainHouseModel$ObjectFileModel", name := "write2", desc := "(II)V" } : MethodName)),
  (Cond.selects "ChainHouseModel$ObjectFileModel" ({ cls := "ChainHouseModel$ObjectFileModel", name := "write2", desc := "(II)V" } : MethodName) ({ cls := "ChainHouseModel$ObjectFileModel", name := "write2", desc := "(II)V" } : MethodName)),
  (Cond.constant "ChainHouseModel$ObjectFileModel" (208 : Nat) (1179403647 : Int32)),
  (Cond.methodLink "ChainHouseModel$ObjectFileModel" (209 : Nat) ({ cls := "ChainHouseModel$ObjectFileModel", name := "write4", desc := "(II)V" } : MethodName)),
  (Cond.instanceMethod ({ cls := "ChainHouseModel$ObjectFileModel", name := "write4", desc := "(II)V" } : MethodName)),
  (Cond.selects "ChainHouseModel$ObjectFileModel" ({ cls := "ChainHouseModel$ObjectFileModel", name := "write4", desc := "(II)V" } : MethodName) ({ cls := "ChainHouseModel$ObjectFileModel", name := "write4", desc := "(II)V" } : MethodName)),
  (Cond.constant "ChainHouseModel$ObjectFileModel" (212 : Nat) (65793 : Int32)),
  (Cond.methodLink "ChainHouseModel$ObjectFileModel" (216 : Nat) ({ cls := "ChainHouseModel$ObjectFileModel", name := "sortOf", desc := "(I)I" } : MethodName)),
  (Cond.static ({ cls := "ChainHouseModel$ObjectFileModel", name := "sortOf", desc := "(I)I" } : MethodName)),
  (Cond.methodLink "ChainHouseModel$ObjectFileModel" (219 : Nat) ({ cls := "ChainHouseModel$ObjectFileModel", name := "flagsOf", desc := "(I)I" } : MethodName)),
  (Cond.static ({ cls := "ChainHouseModel$ObjectFileModel", name := "flagsOf", desc := "(I)I" } : MethodName)),
  (Cond.methodLink "ChainHouseModel$ObjectFileModel" (222 : Nat) ({ cls := "ChainHouseModel$ObjectFileModel", name := "eachOf", desc := "(I)I" } : MethodName)),
  (Cond.static ({ cls := "ChainHouseModel$ObjectFileModel", name := "eachOf", desc := "(I)I" } : MethodName)),
  (Cond.methodLink "ChainHouseModel$ObjectFileModel" (227 : Nat) ({ cls := "ChainHouseModel$ObjectFileModel", name := "unfit", desc := "()I" } : MethodName)),
  (Cond.instanceMethod ({ cls := "ChainHouseModel$ObjectFileModel", name := "unfit", desc := "()I" } : MethodName)),
  (Cond.selects "ChainHouseModel$ObjectFileModel" ({ cls := "ChainHouseModel$ObjectFileModel", name := "unfit", desc := "()I" } : MethodName) ({ cls := "ChainHouseModel$ObjectFileModel", name := "unfit", desc := "()I" } : MethodName)),
  (Cond.methodLink "ChainHouseModel$ObjectFileModel" (230 : Nat) ({ cls := "ChainHouseModel$ObjectFileModel", name := "lay", desc := "()I" } : MethodName)),
  (Cond.instanceMethod ({ cls := "ChainHouseModel$ObjectFileModel", name := "lay", desc := "()I" } : MethodName)),
  (Cond.selects "ChainHouseModel$ObjectFileModel" ({ cls := "ChainHouseModel$ObjectFileModel", name := "lay", desc := "()I" } : MethodName) ({ cls := "ChainHouseModel$ObjectFileModel", name := "lay", desc := "()I" } : MethodName)),
  (Cond.fieldLink "ChainHouseModel$ObjectFileModel" (233 : Nat) "ChainHouseModel$ObjectFileModel" "filed" "I"),
  (Cond.methodLink "ChainHouseModel$ObjectFileModel" (236 : Nat) ({ cls := "ChainHouseModel$ObjectFileModel", name := "writeHead", desc := "(I)V" } : MethodName)),
  (Cond.instanceMethod ({ cls := "ChainHouseModel$ObjectFileModel", name := "writeHead", desc := "(I)V" } : MethodName)),
  (Cond.selects "ChainHouseModel$ObjectFileModel" ({ cls := "ChainHouseModel$ObjectFileModel", name := "writeHead", desc := "(I)V" } : MethodName) ({ cls := "ChainHouseModel$ObjectFileModel", name := "writeHead", desc := "(I)V" } : MethodName)),
  (Cond.methodLink "ChainHouseModel$ObjectFileModel" (239 : Nat) ({ cls := "ChainHouseModel$ObjectFileModel", name := "writeRelocations", desc := "(I)V" } : MethodName)),
  (Cond.instanceMethod ({ cls := "ChainHouseModel$ObjectFileModel", name := "writeRelocations", desc := "(I)V" } : MethodName)),
  (Cond.selects "ChainHouseModel$ObjectFileModel" ({ cls := "ChainHouseModel$ObjectFileModel", name := "writeRelocations", desc := "(I)V" } : MethodName) ({ cls := "ChainHouseModel$ObjectFileModel", name := "writeRelocations", desc := "(I)V" } : MethodName)),
  (Cond.methodLink "ChainHouseModel$ObjectFileModel" (242 : Nat) ({ cls := "ChainHouseModel$ObjectFileModel", name := "writeSymbols", desc := "()V" } : MethodName)),
  (Cond.instanceMethod ({ cls := "ChainHouseModel$ObjectFileModel", name := "writeSymbols", desc := "()V" } : MethodName)),
  (Cond.selects "ChainHouseModel$ObjectFileModel" ({ cls := "ChainHouseModel$ObjectFileModel", name := "writeSymbols", desc := "()V" } : MethodName) ({ cls := "ChainHouseModel$ObjectFileModel", name := "writeSymbols", desc := "()V" } : MethodName)),
  (Cond.methodLink "ChainHouseModel$ObjectFileModel" (245 : Nat) ({ cls := "ChainHouseModel$ObjectFileModel", name := "writeEntry", desc := "(III)V" } : MethodName)),
  (Cond.instanceMethod ({ cls := "ChainHouseModel$ObjectFileModel", name := "writeEntry", desc := "(III)V" } : MethodName)),
  (Cond.selects "ChainHouseModel$ObjectFileModel" ({ cls := "ChainHouseModel$ObjectFileModel", name := "writeEntry", desc := "(III)V" } : MethodName) ({ cls := "ChainHouseModel$ObjectFileModel", name := "writeEntry", desc := "(III)V" } : MethodName)),
  (Cond.methodLink "ChainHouseModel" (292 : Nat) ({ cls := "ChainHouseModel", name := "isUnit", desc := "(I)Z" } : MethodName)),
  (Cond.static ({ cls := "ChainHouseModel", name := "isUnit", desc := "(I)Z" } : MethodName)),
  (Cond.fieldLink "ChainHouseModel" (281 : Nat) "ChainHouseModel" "thrown" "I"),
  (Cond.methodLink "ChainHouseModel" (778 : Nat) ({ cls := "ChainHouseModel$UnitTextModel", name := "read", desc := "()I" } : MethodName))]
def zu_w8 : List Cond := [
  (Cond.instanceMethod ({ cls := "ChainHouseModel$UnitTextModel", name := "read", desc := "()I" } : MethodName)),
  (Cond.selects "ChainHouseModel$UnitTextModel" ({ cls := "ChainHouseModel$UnitTextModel", name := "read", desc := "()I" } : MethodName) ({ cls := "ChainHouseModel$UnitTextModel", name := "read", desc := "()I" } : MethodName)),
  (Cond.methodLink "ChainHouseModel" (779 : Nat) ({ cls := "ChainHouseModel", name := "beginUnit", desc := "()V" } : MethodName)),
  (Cond.instanceMethod ({ cls := "ChainHouseModel", name := "beginUnit", desc := "()V" } : MethodName)),
  (Cond.selects "ChainHouseModel" ({ cls := "ChainHouseModel", name := "beginUnit", desc := "()V" } : MethodName) ({ cls := "ChainHouseModel", name := "beginUnit", desc := "()V" } : MethodName)),
  (Cond.methodLink "ChainHouseModel" (782 : Nat) ({ cls := "ChainHouseModel$UnitTextModel", name := "fault", desc := "(I)I" } : MethodName)),
  (Cond.instanceMethod ({ cls := "ChainHouseModel$UnitTextModel", name := "fault", desc := "(I)I" } : MethodName)),
  (Cond.selects "ChainHouseModel$UnitTextModel" ({ cls := "ChainHouseModel$UnitTextModel", name := "fault", desc := "(I)I" } : MethodName) ({ cls := "ChainHouseModel$UnitTextModel", name := "fault", desc := "(I)I" } : MethodName)),
  (Cond.methodLink "ChainHouseModel" (784 : Nat) ({ cls := "ChainHouseModel", name := "statements", desc := "()Z" } : MethodName)),
  (Cond.instanceMethod ({ cls := "ChainHouseModel", name := "statements", desc := "()Z" } : MethodName)),
  (Cond.selects "ChainHouseModel" ({ cls := "ChainHouseModel", name := "statements", desc := "()Z" } : MethodName) ({ cls := "ChainHouseModel", name := "statements", desc := "()Z" } : MethodName)),
  (Cond.methodLink "ChainHouseModel" (787 : Nat) ({ cls := "ChainHouseModel", name := "makeObject", desc := "()V" } : MethodName)),
  (Cond.instanceMethod ({ cls := "ChainHouseModel", name := "makeObject", desc := "()V" } : MethodName)),
  (Cond.selects "ChainHouseModel" ({ cls := "ChainHouseModel", name := "makeObject", desc := "()V" } : MethodName) ({ cls := "ChainHouseModel", name := "makeObject", desc := "()V" } : MethodName)),
  (Cond.methodLink "ChainHouseModel" (790 : Nat) ({ cls := "ChainHouseModel$ObjectFileModel", name := "write", desc := "()I" } : MethodName)),
  (Cond.instanceMethod ({ cls := "ChainHouseModel$ObjectFileModel", name := "write", desc := "()I" } : MethodName)),
  (Cond.selects "ChainHouseModel$ObjectFileModel" ({ cls := "ChainHouseModel$ObjectFileModel", name := "write", desc := "()I" } : MethodName) ({ cls := "ChainHouseModel$ObjectFileModel", name := "write", desc := "()I" } : MethodName)),
  (Cond.fieldLink "ChainHouseModel" (793 : Nat) "ChainHouseModel" "faultNumber" "I"),
  (Cond.fieldLink "ChainHouseModel$StepMachineModel" (180 : Nat) "ChainHouseModel$StepMachineModel" "keptCount" "I"),
  (Cond.methodLink "ChainHouseModel" (1220 : Nat) ({ cls := "ChainHouseModel$StepMachineModel", name := "back", desc := "(I)I" } : MethodName)),
  (Cond.instanceMethod ({ cls := "ChainHouseModel$StepMachineModel", name := "back", desc := "(I)I" } : MethodName)),
  (Cond.selects "ChainHouseModel$StepMachineModel" ({ cls := "ChainHouseModel$StepMachineModel", name := "back", desc := "(I)I" } : MethodName) ({ cls := "ChainHouseModel$StepMachineModel", name := "back", desc := "(I)I" } : MethodName)),
  (Cond.fieldLink "ChainHouseModel" (302 : Nat) "ChainHouseModel" "imageSize" "I"),
  (Cond.methodLink "ChainHouseModel$ObjectFileModel" (264 : Nat) ({ cls := "ChainHouseModel$ObjectFileModel", name := "fault", desc := "(II)I" } : MethodName)),
  (Cond.instanceMethod ({ cls := "ChainHouseModel$ObjectFileModel", name := "fault", desc := "(II)I" } : MethodName)),
  (Cond.selects "ChainHouseModel$ObjectFileModel" ({ cls := "ChainHouseModel$ObjectFileModel", name := "fault", desc := "(II)I" } : MethodName) ({ cls := "ChainHouseModel$ObjectFileModel", name := "fault", desc := "(II)I" } : MethodName)),
  (Cond.methodLink "ChainHouseModel$ObjectFileModel" (339 : Nat) ({ cls := "ChainHouseModel$ObjectFileModel", name := "head", desc := "()I" } : MethodName)),
  (Cond.instanceMethod ({ cls := "ChainHouseModel$ObjectFileModel", name := "head", desc := "()I" } : MethodName)),
  (Cond.selects "ChainHouseModel$ObjectFileModel" ({ cls := "ChainHouseModel$ObjectFileModel", name := "head", desc := "()I" } : MethodName) ({ cls := "ChainHouseModel$ObjectFileModel", name := "head", desc := "()I" } : MethodName)),
  (Cond.methodLink "ChainHouseModel$ObjectFileModel" (366 : Nat) ({ cls := "ChainHouseModel$ObjectFileModel", name := "allFaults", desc := "()I" } : MethodName)),
  (Cond.instanceMethod ({ cls := "ChainHouseModel$ObjectFileModel", name := "allFaults", desc := "()I" } : MethodName)),
  (Cond.selects "ChainHouseModel$ObjectFileModel" ({ cls := "ChainHouseModel$ObjectFileModel", name := "allFaults", desc := "()I" } : MethodName) ({ cls := "ChainHouseModel$ObjectFileModel", name := "allFaults", desc := "()I" } : MethodName)),
  (Cond.methodLink "ChainHouseModel" (317 : Nat) ({ cls := "ChainHouseModel", name := "give", desc := "(LChainHouseModel$ObjectFileModel;I)V" } : MethodName)),
  (Cond.instanceMethod ({ cls := "ChainHouseModel", name := "give", desc := "(LChainHouseModel$ObjectFileModel;I)V" } : MethodName)),
  (Cond.selects "ChainHouseModel" ({ cls := "ChainHouseModel", name := "give", desc := "(LChainHouseModel$ObjectFileModel;I)V" } : MethodName) ({ cls := "ChainHouseModel", name := "give", desc := "(LChainHouseModel$ObjectFileModel;I)V" } : MethodName)),
  (Cond.methodLink "ChainHouseModel" (321 : Nat) ({ cls := "ChainHouseModel$ObjectFileModel", name := "read", desc := "()I" } : MethodName)),
  (Cond.instanceMethod ({ cls := "ChainHouseModel$ObjectFileModel", name := "read", desc := "()I" } : MethodName)),
  (Cond.selects "ChainHouseModel$ObjectFileModel" ({ cls := "ChainHouseModel$ObjectFileModel", name := "read", desc := "()I" } : MethodName) ({ cls := "ChainHouseModel$ObjectFileModel", name := "read", desc := "()I" } : MethodName)),
  (Cond.methodLink "ChainHouseModel" (288 : Nat) ({ cls := "ChainHouseModel$UnitTextModel", name := "end", desc := "(I)I" } : MethodName)),
  (Cond.instanceMethod ({ cls := "ChainHouseModel$UnitTextModel", name := "end", desc := "(I)I" } : MethodName)),
  (Cond.selects "ChainHouseModel$UnitTextModel" ({ cls := "ChainHouseModel$UnitTextModel", name := "end", desc := "(I)I" } : MethodName) ({ cls := "ChainHouseModel$UnitTextModel", name := "end", desc := "(I)I" } : MethodName)),
  (Cond.constantLong "ChainHouseModel" (305 : Nat) (255 : Int64)),
  (Cond.methodLink "ChainHouseModel$UnitTextModel" (65 : Nat) ({ cls := "ChainHouseModel$UnitTextModel", name := "wait", desc := "(II)V" } : MethodName)),
  (Cond.instanceMethod ({ cls := "ChainHouseModel$UnitTextModel", name := "wait", desc := "(II)V" } : MethodName)),
  (Cond.selects "ChainHouseModel$UnitTextModel" ({ cls := "ChainHouseModel$UnitTextModel", name := "wait", desc := "(II)V" } : MethodName) ({ cls := "ChainHouseModel$UnitTextModel", name := "wait", desc := "(II)V" } : MethodName)),
  (Cond.methodLink "ChainHouseModel" (284 : Nat) ({ cls := "ChainHouseModel$UnitTextModel", name := "feed", desc := "(IIIII)V" } : MethodName)),
  (Cond.instanceMethod ({ cls := "ChainHouseModel$UnitTextModel", name := "feed", desc := "(IIIII)V" } : MethodName)),
  (Cond.selects "ChainHouseModel$UnitTextModel" ({ cls := "ChainHouseModel$UnitTextModel", name := "feed", desc := "(IIIII)V" } : MethodName) ({ cls := "ChainHouseModel$UnitTextModel", name := "feed", desc := "(IIIII)V" } : MethodName)),
  (Cond.fieldLink "ChainHouseModel$StepMachineModel" (195 : Nat) "ChainHouseModel$StepMachineModel" "pc" "I"),
  (Cond.methodLink "ChainHouseModel" (1225 : Nat) ({ cls := "ChainHouseModel$StepMachineModel", name := "get", desc := "(I)I" } : MethodName)),
  (Cond.instanceMethod ({ cls := "ChainHouseModel$StepMachineModel", name := "get", desc := "(I)I" } : MethodName)),
  (Cond.selects "ChainHouseModel$StepMachineModel" ({ cls := "ChainHouseModel$StepMachineModel", name := "get", desc := "(I)I" } : MethodName) ({ cls := "ChainHouseModel$StepMachineModel", name := "get", desc := "(I)I" } : MethodName)),
  (Cond.fieldLink "ChainHouseModel$StepMachineModel" (207 : Nat) "ChainHouseModel$StepMachineModel" "haltCount" "I"),
  (Cond.methodLink "ChainHouseModel$StepMachineModel" (210 : Nat) ({ cls := "ChainHouseModel$StepMachineModel", name := "haltAt", desc := "(I)I" } : MethodName)),
  (Cond.instanceMethod ({ cls := "ChainHouseModel$StepMachineModel", name := "haltAt", desc := "(I)I" } : MethodName)),
  (Cond.selects "ChainHouseModel$StepMachineModel" ({ cls := "ChainHouseModel$StepMachineModel", name := "haltAt", desc := "(I)I" } : MethodName) ({ cls := "ChainHouseModel$StepMachineModel", name := "haltAt", desc := "(I)I" } : MethodName)),
  (Cond.methodLink "ChainHouseModel$StepMachineModel" (186 : Nat) ({ cls := "ChainHouseModel$StepMachineModel", name := "forget", desc := "()V" } : MethodName)),
  (Cond.instanceMethod ({ cls := "ChainHouseModel$StepMachineModel", name := "forget", desc := "()V" } : MethodName)),
  (Cond.selects "ChainHouseModel$StepMachineModel" ({ cls := "ChainHouseModel$StepMachineModel", name := "forget", desc := "()V" } : MethodName) ({ cls := "ChainHouseModel$StepMachineModel", name := "forget", desc := "()V" } : MethodName)),
  (Cond.methodLink "ChainHouseModel" (1234 : Nat) ({ cls := "ChainHouseModel$StepMachineModel", name := "halt", desc := "(IZ)Z" } : MethodName)),
  (Cond.instanceMethod ({ cls := "ChainHouseModel$StepMachineModel", name := "halt", desc := "(IZ)Z" } : MethodName)),
  (Cond.selects "ChainHouseModel$StepMachineModel" ({ cls := "ChainHouseModel$StepMachineModel", name := "halt", desc := "(IZ)Z" } : MethodName) ({ cls := "ChainHouseModel$StepMachineModel", name := "halt", desc := "(IZ)Z" } : MethodName)),
  (Cond.fieldLink "ChainHouseModel$StepMachineModel" (204 : Nat) "ChainHouseModel$StepMachineModel" "inputSize" "I"),
  (Cond.constantLong "ChainHouseModel$StepMachineModel" (193 : Nat) (255 : Int64)),
  (Cond.methodLink "ChainHouseModel" (1231 : Nat) ({ cls := "ChainHouseModel$StepMachineModel", name := "input", desc := "(IJ)Z" } : MethodName)),
  (Cond.instanceMethod ({ cls := "ChainHouseModel$StepMachineModel", name := "input", desc := "(IJ)Z" } : MethodName)),
  (Cond.selects "ChainHouseModel$StepMachineModel" ({ cls := "ChainHouseModel$StepMachineModel", name := "input", desc := "(IJ)Z" } : MethodName) ({ cls := "ChainHouseModel$StepMachineModel", name := "input", desc := "(IJ)Z" } : MethodName)),
  (Cond.fieldLink "ChainHouseModel" (799 : Nat) "ChainHouseModel" "set" "I"),
  (Cond.fieldLink "ChainHouseModel$CodeWordsModel" (26 : Nat) "ChainHouseModel$CodeWordsModel" "thrown" "I"),
  (Cond.fieldLink "ChainHouseModel$CodeWordsModel" (382 : Nat) "ChainHouseModel$CodeWordsModel" "size" "I"),
  (Cond.methodLink "ChainHouseModel" (1248 : Nat) ({ cls := "ChainHouseModel$CodeWordsModel", name := "letter", desc := "(I)I" } : MethodName)),
  (Cond.instanceMethod ({ cls := "ChainHouseModel$CodeWordsModel", name := "letter", desc := "(I)I" } : MethodName)),
  (Cond.selects "ChainHouseModel$CodeWordsModel" ({ cls := "ChainHouseModel$CodeWordsModel", name := "letter", desc := "(I)I" } : MethodName) ({ cls := "ChainHouseModel$CodeWordsModel", name := "letter", desc := "(I)I" } : MethodName)),
  (Cond.fieldLink "ChainHouseModel" (796 : Nat) "ChainHouseModel" "linkFault" "I"),
  (Cond.methodLink "ChainHouseModel" (802 : Nat) ({ cls := "ChainHouseModel", name := "isIn", desc := "(I)Z" } : MethodName)),
  (Cond.instanceMethod ({ cls := "ChainHouseModel", name := "isIn", desc := "(I)Z" } : MethodName)),
  (Cond.selects "ChainHouseModel" ({ cls := "ChainHouseModel", name := "isIn", desc := "(I)Z" } : MethodName) ({ cls := "ChainHouseModel", name := "isIn", desc := "(I)Z" } : MethodName)),
  (Cond.methodLink "ChainHouseModel" (805 : Nat) ({ cls := "ChainHouseModel", name := "refuse", desc := "(III)Z" } : MethodName)),
  (Cond.instanceMethod ({ cls := "ChainHouseModel", name := "refuse", desc := "(III)Z" } : MethodName)),
  (Cond.selects "ChainHouseModel" ({ cls := "ChainHouseModel", name := "refuse", desc := "(III)Z" } : MethodName) ({ cls := "ChainHouseModel", name := "refuse", desc := "(III)Z" } : MethodName)),
  (Cond.fieldLink "ChainHouseModel" (966 : Nat) "ChainHouseModel" "shrinking" "Z"),
  (Cond.methodLink "ChainHouseModel" (1120 : Nat) ({ cls := "ChainHouseModel", name := "readUnits", desc := "()Z" } : MethodName)),
  (Cond.instanceMethod ({ cls := "ChainHouseModel", name := "readUnits", desc := "()Z" } : MethodName)),
  (Cond.selects "ChainHouseModel" ({ cls := "ChainHouseModel", name := "readUnits", desc := "()Z" } : MethodName) ({ cls := "ChainHouseModel", name := "readUnits", desc := "()Z" } : MethodName)),
  (Cond.fieldLink "ChainHouseModel" (1138 : Nat) "ChainHouseModel" "fixedPieces" "I"),
  (Cond.fieldLink "ChainHouseModel" (1141 : Nat) "ChainHouseModel" "savedBytes" "I"),
  (Cond.fieldLink "ChainHouseModel$ImageFileModel" (118 : Nat) "ChainHouseModel$ImageFileModel" "filed" "I"),
  (Cond.methodLink "ChainHouseModel$ImageFileModel" (142 : Nat) ({ cls := "ChainHouseModel$ImageFileModel", name := "fault", desc := "(II)I" } : MethodName)),
  (Cond.instanceMethod ({ cls := "ChainHouseModel$ImageFileModel", name := "fault", desc := "(II)I" } : MethodName)),
  (Cond.selects "ChainHouseModel$ImageFileModel" ({ cls := "ChainHouseModel$ImageFileModel", name := "fault", desc := "(II)I" } : MethodName) ({ cls := "ChainHouseModel$ImageFileModel", name := "fault", desc := "(II)I" } : MethodName)),
  (Cond.methodLink "ChainHouseModel$ImageFileModel" (209 : Nat) ({ cls := "ChainHouseModel$ImageFileModel", name := "headFault", desc := "()I" } : MethodName)),
  (Cond.instanceMethod ({ cls := "ChainHouseModel$ImageFileModel", name := "headFault", desc := "()I" } : MethodName)),
  (Cond.selects "ChainHouseModel$ImageFileModel" ({ cls := "ChainHouseModel$ImageFileModel", name := "headFault", desc := "()I" } : MethodName) ({ cls := "ChainHouseModel$ImageFileModel", name := "headFault", desc := "()I" } : MethodName)),
  (Cond.methodLink "ChainHouseModel" (1149 : Nat) ({ cls := "ChainHouseModel$ImageFileModel", name := "read", desc := "()I" } : MethodName)),
  (Cond.instanceMethod ({ cls := "ChainHouseModel$ImageFileModel", name := "read", desc := "()I" } : MethodName)),
  (Cond.selects "ChainHouseModel$ImageFileModel" ({ cls := "ChainHouseModel$ImageFileModel", name := "read", desc := "()I" } : MethodName) ({ cls := "ChainHouseModel$ImageFileModel", name := "read", desc := "()I" } : MethodName)),
  (Cond.methodLink "ChainHouseModel" (1150 : Nat) ({ cls := "ChainHouseModel$ImageFileModel", name := "place", desc := "()I" } : MethodName)),
  (Cond.instanceMethod ({ cls := "ChainHouseModel$ImageFileModel", name := "place", desc := "()I" } : MethodName)),
  (Cond.selects "ChainHouseModel$ImageFileModel" ({ cls := "ChainHouseModel$ImageFileModel", name := "place", desc := "()I" } : MethodName) ({ cls := "ChainHouseModel$ImageFileModel", name := "place", desc := "()I" } : MethodName)),
  (Cond.methodLink "ChainHouseModel" (325 : Nat) ({ cls := "ChainHouseModel$ObjectFileModel", name := "section", desc := "(II)I" } : MethodName))]
def zu_w9 : List Cond := [
  (Cond.instanceMethod ({ cls := "ChainHouseModel$ObjectFileModel", name := "section", desc := "(II)I" } : MethodName)),
  (Cond.selects "ChainHouseModel$ObjectFileModel" ({ cls := "ChainHouseModel$ObjectFileModel", name := "section", desc := "(II)I" } : MethodName) ({ cls := "ChainHouseModel$ObjectFileModel", name := "section", desc := "(II)I" } : MethodName)),
  (Cond.methodLink "ChainHouseModel" (327 : Nat) ({ cls := "ChainHouseModel$ObjectFileModel", name := "startAt", desc := "(I)I" } : MethodName)),
  (Cond.instanceMethod ({ cls := "ChainHouseModel$ObjectFileModel", name := "startAt", desc := "(I)I" } : MethodName)),
  (Cond.selects "ChainHouseModel$ObjectFileModel" ({ cls := "ChainHouseModel$ObjectFileModel", name := "startAt", desc := "(I)I" } : MethodName) ({ cls := "ChainHouseModel$ObjectFileModel", name := "startAt", desc := "(I)I" } : MethodName)),
  (Cond.methodLink "ChainHouseModel" (330 : Nat) ({ cls := "ChainHouseModel$ObjectFileModel", name := "symbolAt", desc := "(II)I" } : MethodName)),
  (Cond.instanceMethod ({ cls := "ChainHouseModel$ObjectFileModel", name := "symbolAt", desc := "(II)I" } : MethodName)),
  (Cond.selects "ChainHouseModel$ObjectFileModel" ({ cls := "ChainHouseModel$ObjectFileModel", name := "symbolAt", desc := "(II)I" } : MethodName) ({ cls := "ChainHouseModel$ObjectFileModel", name := "symbolAt", desc := "(II)I" } : MethodName)),
  (Cond.methodLink "ChainHouseModel" (333 : Nat) ({ cls := "ChainHouseModel$ObjectFileModel", name := "relocationAt", desc := "(II)I" } : MethodName)),
  (Cond.instanceMethod ({ cls := "ChainHouseModel$ObjectFileModel", name := "relocationAt", desc := "(II)I" } : MethodName)),
  (Cond.selects "ChainHouseModel$ObjectFileModel" ({ cls := "ChainHouseModel$ObjectFileModel", name := "relocationAt", desc := "(II)I" } : MethodName) ({ cls := "ChainHouseModel$ObjectFileModel", name := "relocationAt", desc := "(II)I" } : MethodName)),
  (Cond.methodLink "ChainHouseModel" (336 : Nat) ({ cls := "ChainHouseModel$ObjectFileModel", name := "count", desc := "(I)I" } : MethodName)),
  (Cond.instanceMethod ({ cls := "ChainHouseModel$ObjectFileModel", name := "count", desc := "(I)I" } : MethodName)),
  (Cond.selects "ChainHouseModel$ObjectFileModel" ({ cls := "ChainHouseModel$ObjectFileModel", name := "count", desc := "(I)I" } : MethodName) ({ cls := "ChainHouseModel$ObjectFileModel", name := "count", desc := "(I)I" } : MethodName)),
  (Cond.methodLink "ChainHouseModel" (339 : Nat) ({ cls := "ChainHouseModel$ObjectFileModel", name := "place", desc := "()I" } : MethodName)),
  (Cond.instanceMethod ({ cls := "ChainHouseModel$ObjectFileModel", name := "place", desc := "()I" } : MethodName)),
  (Cond.selects "ChainHouseModel$ObjectFileModel" ({ cls := "ChainHouseModel$ObjectFileModel", name := "place", desc := "()I" } : MethodName) ({ cls := "ChainHouseModel$ObjectFileModel", name := "place", desc := "()I" } : MethodName)),
  (Cond.fieldLink "ChainHouseModel$StepMachineModel" (263 : Nat) "ChainHouseModel$StepMachineModel" "outputSize" "I"),
  (Cond.methodLink "ChainHouseModel" (1239 : Nat) ({ cls := "ChainHouseModel$StepMachineModel", name := "output", desc := "(I)I" } : MethodName)),
  (Cond.instanceMethod ({ cls := "ChainHouseModel$StepMachineModel", name := "output", desc := "(I)I" } : MethodName)),
  (Cond.selects "ChainHouseModel$StepMachineModel" ({ cls := "ChainHouseModel$StepMachineModel", name := "output", desc := "(I)I" } : MethodName) ({ cls := "ChainHouseModel$StepMachineModel", name := "output", desc := "(I)I" } : MethodName)),
  (Cond.methodLink "ChainHouseModel" (1228 : Nat) ({ cls := "ChainHouseModel$StepMachineModel", name := "peek", desc := "(I)I" } : MethodName)),
  (Cond.instanceMethod ({ cls := "ChainHouseModel$StepMachineModel", name := "peek", desc := "(I)I" } : MethodName)),
  (Cond.selects "ChainHouseModel$StepMachineModel" ({ cls := "ChainHouseModel$StepMachineModel", name := "peek", desc := "(I)I" } : MethodName) ({ cls := "ChainHouseModel$StepMachineModel", name := "peek", desc := "(I)I" } : MethodName)),
  (Cond.constantLong "ChainHouseModel$StepMachineModel" (184 : Nat) (131072 : Int64)),
  (Cond.constantLong "ChainHouseModel$StepMachineModel" (114 : Nat) (2 : Int64)),
  (Cond.methodLink "ChainHouseModel$StepMachineModel" (215 : Nat) ({ cls := "ChainHouseModel$StepMachineModel", name := "rightsOf", desc := "(J)I" } : MethodName)),
  (Cond.instanceMethod ({ cls := "ChainHouseModel$StepMachineModel", name := "rightsOf", desc := "(J)I" } : MethodName)),
  (Cond.selects "ChainHouseModel$StepMachineModel" ({ cls := "ChainHouseModel$StepMachineModel", name := "rightsOf", desc := "(J)I" } : MethodName) ({ cls := "ChainHouseModel$StepMachineModel", name := "rightsOf", desc := "(J)I" } : MethodName)),
  (Cond.methodLink "ChainHouseModel$StepMachineModel" (305 : Nat) ({ cls := "ChainHouseModel$StepMachineModel", name := "isMarked", desc := "(J)Z" } : MethodName)),
  (Cond.instanceMethod ({ cls := "ChainHouseModel$StepMachineModel", name := "isMarked", desc := "(J)Z" } : MethodName)),
  (Cond.selects "ChainHouseModel$StepMachineModel" ({ cls := "ChainHouseModel$StepMachineModel", name := "isMarked", desc := "(J)Z" } : MethodName) ({ cls := "ChainHouseModel$StepMachineModel", name := "isMarked", desc := "(J)Z" } : MethodName)),
  (Cond.methodLink "ChainHouseModel" (1242 : Nat) ({ cls := "ChainHouseModel$StepMachineModel", name := "rights", desc := "(I)I" } : MethodName)),
  (Cond.instanceMethod ({ cls := "ChainHouseModel$StepMachineModel", name := "rights", desc := "(I)I" } : MethodName)),
  (Cond.selects "ChainHouseModel$StepMachineModel" ({ cls := "ChainHouseModel$StepMachineModel", name := "rights", desc := "(I)I" } : MethodName) ({ cls := "ChainHouseModel$StepMachineModel", name := "rights", desc := "(I)I" } : MethodName)),
  (Cond.fieldLink "ChainHouseModel$StepMachineModel" (198 : Nat) "ChainHouseModel$StepMachineModel" "state" "I"),
  (Cond.fieldLink "ChainHouseModel$StepMachineModel" (189 : Nat) "ChainHouseModel$StepMachineModel" "marking" "Z"),
  (Cond.constantLong "ChainHouseModel$StepMachineModel" (213 : Nat) (4294967295 : Int64)),
  (Cond.fieldLink "ChainHouseModel$StepMachineModel" (201 : Nat) "ChainHouseModel$StepMachineModel" "culprit" "I"),
  (Cond.methodLink "ChainHouseModel$StepMachineModel" (221 : Nat) ({ cls := "ChainHouseModel$StepMachineModel", name := "bare", desc := "(I)J" } : MethodName)),
  (Cond.static ({ cls := "ChainHouseModel$StepMachineModel", name := "bare", desc := "(I)J" } : MethodName)),
  (Cond.methodLink "ChainHouseModel$StepMachineModel" (225 : Nat) ({ cls := "ChainHouseModel$StepMachineModel", name := "without", desc := "(JII)J" } : MethodName)),
  (Cond.instanceMethod ({ cls := "ChainHouseModel$StepMachineModel", name := "without", desc := "(JII)J" } : MethodName)),
  (Cond.selects "ChainHouseModel$StepMachineModel" ({ cls := "ChainHouseModel$StepMachineModel", name := "without", desc := "(JII)J" } : MethodName) ({ cls := "ChainHouseModel$StepMachineModel", name := "without", desc := "(JII)J" } : MethodName)),
  (Cond.methodLink "ChainHouseModel$StepMachineModel" (229 : Nat) ({ cls := "ChainHouseModel$StepMachineModel", name := "fail", desc := "(II)I" } : MethodName)),
  (Cond.instanceMethod ({ cls := "ChainHouseModel$StepMachineModel", name := "fail", desc := "(II)I" } : MethodName)),
  (Cond.selects "ChainHouseModel$StepMachineModel" ({ cls := "ChainHouseModel$StepMachineModel", name := "fail", desc := "(II)I" } : MethodName) ({ cls := "ChainHouseModel$StepMachineModel", name := "fail", desc := "(II)I" } : MethodName)),
  (Cond.methodLink "ChainHouseModel$StepMachineModel" (309 : Nat) ({ cls := "ChainHouseModel$StepMachineModel", name := "isEnd", desc := "()Z" } : MethodName)),
  (Cond.instanceMethod ({ cls := "ChainHouseModel$StepMachineModel", name := "isEnd", desc := "()Z" } : MethodName)),
  (Cond.selects "ChainHouseModel$StepMachineModel" ({ cls := "ChainHouseModel$StepMachineModel", name := "isEnd", desc := "()Z" } : MethodName) ({ cls := "ChainHouseModel$StepMachineModel", name := "isEnd", desc := "()Z" } : MethodName)),
  (Cond.methodLink "ChainHouseModel$StepMachineModel" (313 : Nat) ({ cls := "ChainHouseModel$StepMachineModel", name := "isUnit", desc := "()Z" } : MethodName)),
  (Cond.instanceMethod ({ cls := "ChainHouseModel$StepMachineModel", name := "isUnit", desc := "()Z" } : MethodName)),
  (Cond.selects "ChainHouseModel$StepMachineModel" ({ cls := "ChainHouseModel$StepMachineModel", name := "isUnit", desc := "()Z" } : MethodName) ({ cls := "ChainHouseModel$StepMachineModel", name := "isUnit", desc := "()Z" } : MethodName)),
  (Cond.methodLink "ChainHouseModel$StepMachineModel" (316 : Nat) ({ cls := "ChainHouseModel$StepMachineModel", name := "isFetched", desc := "()Z" } : MethodName)),
  (Cond.instanceMethod ({ cls := "ChainHouseModel$StepMachineModel", name := "isFetched", desc := "()Z" } : MethodName)),
  (Cond.selects "ChainHouseModel$StepMachineModel" ({ cls := "ChainHouseModel$StepMachineModel", name := "isFetched", desc := "()Z" } : MethodName) ({ cls := "ChainHouseModel$StepMachineModel", name := "isFetched", desc := "()Z" } : MethodName)),
  (Cond.fieldLink "ChainHouseModel$StepMachineModel" (260 : Nat) "ChainHouseModel$StepMachineModel" "units" "I"),
  (Cond.methodLink "ChainHouseModel$StepMachineModel" (328 : Nat) ({ cls := "ChainHouseModel$StepMachineModel", name := "step", desc := "()I" } : MethodName)),
  (Cond.instanceMethod ({ cls := "ChainHouseModel$StepMachineModel", name := "step", desc := "()I" } : MethodName)),
  (Cond.selects "ChainHouseModel$StepMachineModel" ({ cls := "ChainHouseModel$StepMachineModel", name := "step", desc := "()I" } : MethodName) ({ cls := "ChainHouseModel$StepMachineModel", name := "step", desc := "()I" } : MethodName)),
  (Cond.methodLink "ChainHouseModel" (1217 : Nat) ({ cls := "ChainHouseModel$StepMachineModel", name := "run", desc := "(I)I" } : MethodName)),
  (Cond.instanceMethod ({ cls := "ChainHouseModel$StepMachineModel", name := "run", desc := "(I)I" } : MethodName)),
  (Cond.selects "ChainHouseModel$StepMachineModel" ({ cls := "ChainHouseModel$StepMachineModel", name := "run", desc := "(I)I" } : MethodName) ({ cls := "ChainHouseModel$StepMachineModel", name := "run", desc := "(I)I" } : MethodName)),
  (Cond.methodLink "ChainHouseModel" (1223 : Nat) ({ cls := "ChainHouseModel$StepMachineModel", name := "set", desc := "(II)Z" } : MethodName)),
  (Cond.instanceMethod ({ cls := "ChainHouseModel$StepMachineModel", name := "set", desc := "(II)Z" } : MethodName)),
  (Cond.selects "ChainHouseModel$StepMachineModel" ({ cls := "ChainHouseModel$StepMachineModel", name := "set", desc := "(II)Z" } : MethodName) ({ cls := "ChainHouseModel$StepMachineModel", name := "set", desc := "(II)Z" } : MethodName)),
  (Cond.methodLink "ChainHouseModel" (307 : Nat) ({ cls := "ChainHouseModel", name := "byteAt", desc := "(II)I" } : MethodName)),
  (Cond.instanceMethod ({ cls := "ChainHouseModel", name := "byteAt", desc := "(II)I" } : MethodName)),
  (Cond.selects "ChainHouseModel" ({ cls := "ChainHouseModel", name := "byteAt", desc := "(II)I" } : MethodName) ({ cls := "ChainHouseModel", name := "byteAt", desc := "(II)I" } : MethodName)),
  (Cond.fieldLink "ChainHouseModel$StepMachineModel" (254 : Nat) "ChainHouseModel$StepMachineModel" "value" "I"),
  (Cond.fieldLink "ChainHouseModel$StepMachineModel" (257 : Nat) "ChainHouseModel$StepMachineModel" "steps" "I"),
  (Cond.fieldLink "ChainHouseModel$StepMachineModel" (266 : Nat) "ChainHouseModel$StepMachineModel" "taken" "I"),
  (Cond.methodLink "ChainHouseModel" (1237 : Nat) ({ cls := "ChainHouseModel$StepMachineModel", name := "state", desc := "(I)I" } : MethodName)),
  (Cond.instanceMethod ({ cls := "ChainHouseModel$StepMachineModel", name := "state", desc := "(I)I" } : MethodName)),
  (Cond.selects "ChainHouseModel$StepMachineModel" ({ cls := "ChainHouseModel$StepMachineModel", name := "state", desc := "(I)I" } : MethodName) ({ cls := "ChainHouseModel$StepMachineModel", name := "state", desc := "(I)I" } : MethodName)),
  (Cond.methodLink "ChainHouseModel" (1214 : Nat) ({ cls := "ChainHouseModel$StepMachineModel", name := "step", desc := "()I" } : MethodName)),
  (Cond.methodLink "ChainHouseModel$CodeWordsModel" (71 : Nat) ({ cls := "ChainHouseModel$CodeWordsModel", name := "bitsOf", desc := "(I)I" } : MethodName)),
  (Cond.static ({ cls := "ChainHouseModel$CodeWordsModel", name := "bitsOf", desc := "(I)I" } : MethodName)),
  (Cond.methodLink "ChainHouseModel$CodeWordsModel" (74 : Nat) ({ cls := "ChainHouseModel$CodeWordsModel", name := "isShortPart", desc := "(II)Z" } : MethodName)),
  (Cond.instanceMethod ({ cls := "ChainHouseModel$CodeWordsModel", name := "isShortPart", desc := "(II)Z" } : MethodName)),
  (Cond.selects "ChainHouseModel$CodeWordsModel" ({ cls := "ChainHouseModel$CodeWordsModel", name := "isShortPart", desc := "(II)Z" } : MethodName) ({ cls := "ChainHouseModel$CodeWordsModel", name := "isShortPart", desc := "(II)Z" } : MethodName)),
  (Cond.constantLong "ChainHouseModel$CodeWordsModel" (100 : Nat) (4 : Int64)),
  (Cond.constantLong "ChainHouseModel$CodeWordsModel" (102 : Nat) (1020 : Int64)),
  (Cond.methodLink "ChainHouseModel$CodeWordsModel" (80 : Nat) ({ cls := "ChainHouseModel$CodeWordsModel", name := "isStep", desc := "(JJJJ)Z" } : MethodName)),
  (Cond.static ({ cls := "ChainHouseModel$CodeWordsModel", name := "isStep", desc := "(JJJJ)Z" } : MethodName)),
  (Cond.methodLink "ChainHouseModel$CodeWordsModel" (124 : Nat) ({ cls := "ChainHouseModel$CodeWordsModel", name := "has", desc := "(II)Z" } : MethodName)),
  (Cond.instanceMethod ({ cls := "ChainHouseModel$CodeWordsModel", name := "has", desc := "(II)Z" } : MethodName)),
  (Cond.selects "ChainHouseModel$CodeWordsModel" ({ cls := "ChainHouseModel$CodeWordsModel", name := "has", desc := "(II)Z" } : MethodName) ({ cls := "ChainHouseModel$CodeWordsModel", name := "has", desc := "(II)Z" } : MethodName)),
  (Cond.methodLink "ChainHouseModel$CodeWordsModel" (127 : Nat) ({ cls := "ChainHouseModel$CodeWordsModel", name := "isRegister", desc := "(III)Z" } : MethodName)),
  (Cond.instanceMethod ({ cls := "ChainHouseModel$CodeWordsModel", name := "isRegister", desc := "(III)Z" } : MethodName)),
  (Cond.selects "ChainHouseModel$CodeWordsModel" ({ cls := "ChainHouseModel$CodeWordsModel", name := "isRegister", desc := "(III)Z" } : MethodName) ({ cls := "ChainHouseModel$CodeWordsModel", name := "isRegister", desc := "(III)Z" } : MethodName)),
  (Cond.methodLink "ChainHouseModel$CodeWordsModel" (131 : Nat) ({ cls := "ChainHouseModel$CodeWordsModel", name := "isImmediate", desc := "(IJ)Z" } : MethodName)),
  (Cond.static ({ cls := "ChainHouseModel$CodeWordsModel", name := "isImmediate", desc := "(IJ)Z" } : MethodName)),
  (Cond.methodLink "ChainHouseModel$CodeWordsModel" (135 : Nat) ({ cls := "ChainHouseModel$CodeWordsModel", name := "signOf", desc := "(I)I" } : MethodName)),
  (Cond.static ({ cls := "ChainHouseModel$CodeWordsModel", name := "signOf", desc := "(I)I" } : MethodName)),
  (Cond.methodLink "ChainHouseModel$CodeWordsModel" (139 : Nat) ({ cls := "ChainHouseModel$CodeWordsModel", name := "areGood", desc := "(I)Z" } : MethodName)),
  (Cond.instanceMethod ({ cls := "ChainHouseModel$CodeWordsModel", name := "areGood", desc := "(I)Z" } : MethodName)),
  (Cond.selects "ChainHouseModel$CodeWordsModel" ({ cls := "ChainHouseModel$CodeWordsModel", name := "areGood", desc := "(I)Z" } : MethodName) ({ cls := "ChainHouseModel$CodeWordsModel", name := "areGood", desc := "(I)Z" } : MethodName)),
  (Cond.methodLink "ChainHouseModel$CodeWordsModel" (142 : Nat) ({ cls := "ChainHouseModel$CodeWordsModel", name := "isLong", desc := "(I)Z" } : MethodName)),
  (Cond.static ({ cls := "ChainHouseModel$CodeWordsModel", name := "isLong", desc := "(I)Z" } : MethodName))]
def zu_w10 : List Cond := [
  (Cond.methodLink "ChainHouseModel$CodeWordsModel" (145 : Nat) ({ cls := "ChainHouseModel$CodeWordsModel", name := "take", desc := "(II)Z" } : MethodName)),
  (Cond.instanceMethod ({ cls := "ChainHouseModel$CodeWordsModel", name := "take", desc := "(II)Z" } : MethodName)),
  (Cond.selects "ChainHouseModel$CodeWordsModel" ({ cls := "ChainHouseModel$CodeWordsModel", name := "take", desc := "(II)Z" } : MethodName) ({ cls := "ChainHouseModel$CodeWordsModel", name := "take", desc := "(II)Z" } : MethodName)),
  (Cond.constantLong "ChainHouseModel$CodeWordsModel" (380 : Nat) (40 : Int64)),
  (Cond.methodLink "ChainHouseModel$CodeWordsModel" (385 : Nat) ({ cls := "ChainHouseModel$CodeWordsModel", name := "lettersOf", desc := "(J)I" } : MethodName)),
  (Cond.static ({ cls := "ChainHouseModel$CodeWordsModel", name := "lettersOf", desc := "(J)I" } : MethodName)),
  (Cond.methodLink "ChainHouseModel$CodeWordsModel" (389 : Nat) ({ cls := "ChainHouseModel$CodeWordsModel", name := "say", desc := "(I)V" } : MethodName)),
  (Cond.instanceMethod ({ cls := "ChainHouseModel$CodeWordsModel", name := "say", desc := "(I)V" } : MethodName)),
  (Cond.selects "ChainHouseModel$CodeWordsModel" ({ cls := "ChainHouseModel$CodeWordsModel", name := "say", desc := "(I)V" } : MethodName) ({ cls := "ChainHouseModel$CodeWordsModel", name := "say", desc := "(I)V" } : MethodName)),
  (Cond.fieldLink "ChainHouseModel$CodeWordsModel" (396 : Nat) "ChainHouseModel$CodeWordsModel" "begun" "Z"),
  (Cond.methodLink "ChainHouseModel$CodeWordsModel" (154 : Nat) ({ cls := "ChainHouseModel$CodeWordsModel", name := "find", desc := "(I)I" } : MethodName)),
  (Cond.instanceMethod ({ cls := "ChainHouseModel$CodeWordsModel", name := "find", desc := "(I)I" } : MethodName)),
  (Cond.selects "ChainHouseModel$CodeWordsModel" ({ cls := "ChainHouseModel$CodeWordsModel", name := "find", desc := "(I)I" } : MethodName) ({ cls := "ChainHouseModel$CodeWordsModel", name := "find", desc := "(I)I" } : MethodName)),
  (Cond.constantLong "ChainHouseModel$CodeWordsModel" (440 : Nat) (514086 : Int64)),
  (Cond.methodLink "ChainHouseModel$CodeWordsModel" (407 : Nat) ({ cls := "ChainHouseModel$CodeWordsModel", name := "sayName", desc := "(J)V" } : MethodName)),
  (Cond.instanceMethod ({ cls := "ChainHouseModel$CodeWordsModel", name := "sayName", desc := "(J)V" } : MethodName)),
  (Cond.selects "ChainHouseModel$CodeWordsModel" ({ cls := "ChainHouseModel$CodeWordsModel", name := "sayName", desc := "(J)V" } : MethodName) ({ cls := "ChainHouseModel$CodeWordsModel", name := "sayName", desc := "(J)V" } : MethodName)),
  (Cond.constant "ChainHouseModel$CodeWordsModel" (442 : Nat) (65535 : Int32)),
  (Cond.methodLink "ChainHouseModel$CodeWordsModel" (414 : Nat) ({ cls := "ChainHouseModel$CodeWordsModel", name := "sayHexadecimal", desc := "(I)V" } : MethodName)),
  (Cond.instanceMethod ({ cls := "ChainHouseModel$CodeWordsModel", name := "sayHexadecimal", desc := "(I)V" } : MethodName)),
  (Cond.selects "ChainHouseModel$CodeWordsModel" ({ cls := "ChainHouseModel$CodeWordsModel", name := "sayHexadecimal", desc := "(I)V" } : MethodName) ({ cls := "ChainHouseModel$CodeWordsModel", name := "sayHexadecimal", desc := "(I)V" } : MethodName)),
  (Cond.constant "ChainHouseModel" (1183 : Nat) (131072 : Int32)),
  (Cond.methodLink "ChainHouseModel" (1245 : Nat) ({ cls := "ChainHouseModel$CodeWordsModel", name := "tell", desc := "(II)I" } : MethodName)),
  (Cond.instanceMethod ({ cls := "ChainHouseModel$CodeWordsModel", name := "tell", desc := "(II)I" } : MethodName)),
  (Cond.selects "ChainHouseModel$CodeWordsModel" ({ cls := "ChainHouseModel$CodeWordsModel", name := "tell", desc := "(II)I" } : MethodName) ({ cls := "ChainHouseModel$CodeWordsModel", name := "tell", desc := "(II)I" } : MethodName)),
  (Cond.fieldLink "ChainHouseModel" (1117 : Nat) "ChainHouseModel" "told" "I"),
  (Cond.classLink "ChainHouseLaw" (8 : Nat) "ChainHouse"),
  (Cond.instantiable "ChainHouse" (15 : Nat)),
  (Cond.initialized "ChainHouse"),
  (Cond.methodLink "ChainHouseLaw" (35 : Nat) ({ cls := "ChainHouse", name := "<init>", desc := "()V" } : MethodName)),
  (Cond.instanceMethod ({ cls := "ChainHouse", name := "<init>", desc := "()V" } : MethodName)),
  (Cond.classLink "ChainHouseLaw" (36 : Nat) "ChainHouseModel"),
  (Cond.instantiable "ChainHouseModel" (119 : Nat)),
  (Cond.initialized "ChainHouseModel"),
  (Cond.methodLink "ChainHouseLaw" (38 : Nat) ({ cls := "ChainHouseModel", name := "<init>", desc := "()V" } : MethodName)),
  (Cond.instanceMethod ({ cls := "ChainHouseModel", name := "<init>", desc := "()V" } : MethodName)),
  (Cond.methodLink "ChainHouseLaw" (39 : Nat) ({ cls := "ChainHouse", name := "feed", desc := "(IIIII)V" } : MethodName)),
  (Cond.instanceMethod ({ cls := "ChainHouse", name := "feed", desc := "(IIIII)V" } : MethodName)),
  (Cond.selects "ChainHouse" ({ cls := "ChainHouse", name := "feed", desc := "(IIIII)V" } : MethodName) ({ cls := "ChainHouse", name := "feed", desc := "(IIIII)V" } : MethodName)),
  (Cond.methodLink "ChainHouseLaw" (43 : Nat) ({ cls := "ChainHouseModel", name := "feed", desc := "(IIIII)V" } : MethodName)),
  (Cond.instanceMethod ({ cls := "ChainHouseModel", name := "feed", desc := "(IIIII)V" } : MethodName)),
  (Cond.selects "ChainHouseModel" ({ cls := "ChainHouseModel", name := "feed", desc := "(IIIII)V" } : MethodName) ({ cls := "ChainHouseModel", name := "feed", desc := "(IIIII)V" } : MethodName)),
  (Cond.methodLink "ChainHouseLaw" (44 : Nat) ({ cls := "ChainHouse", name := "end", desc := "(I)I" } : MethodName)),
  (Cond.instanceMethod ({ cls := "ChainHouse", name := "end", desc := "(I)I" } : MethodName)),
  (Cond.selects "ChainHouse" ({ cls := "ChainHouse", name := "end", desc := "(I)I" } : MethodName) ({ cls := "ChainHouse", name := "end", desc := "(I)I" } : MethodName)),
  (Cond.methodLink "ChainHouseLaw" (47 : Nat) ({ cls := "ChainHouseModel", name := "end", desc := "(I)I" } : MethodName)),
  (Cond.instanceMethod ({ cls := "ChainHouseModel", name := "end", desc := "(I)I" } : MethodName)),
  (Cond.selects "ChainHouseModel" ({ cls := "ChainHouseModel", name := "end", desc := "(I)I" } : MethodName) ({ cls := "ChainHouseModel", name := "end", desc := "(I)I" } : MethodName)),
  (Cond.methodLink "ChainHouseLaw" (53 : Nat) ({ cls := "ChainHouseModel", name := "assemble", desc := "(I)I" } : MethodName)),
  (Cond.instanceMethod ({ cls := "ChainHouseModel", name := "assemble", desc := "(I)I" } : MethodName)),
  (Cond.selects "ChainHouseModel" ({ cls := "ChainHouseModel", name := "assemble", desc := "(I)I" } : MethodName) ({ cls := "ChainHouseModel", name := "assemble", desc := "(I)I" } : MethodName)),
  (Cond.methodLink "ChainHouseLaw" (54 : Nat) ({ cls := "ChainHouseModel", name := "thrown", desc := "()I" } : MethodName)),
  (Cond.instanceMethod ({ cls := "ChainHouseModel", name := "thrown", desc := "()I" } : MethodName)),
  (Cond.selects "ChainHouseModel" ({ cls := "ChainHouseModel", name := "thrown", desc := "()I" } : MethodName) ({ cls := "ChainHouseModel", name := "thrown", desc := "()I" } : MethodName)),
  (Cond.methodLink "ChainHouseLaw" (58 : Nat) ({ cls := "ChainHouse", name := "fault", desc := "(I)I" } : MethodName)),
  (Cond.instanceMethod ({ cls := "ChainHouse", name := "fault", desc := "(I)I" } : MethodName)),
  (Cond.selects "ChainHouse" ({ cls := "ChainHouse", name := "fault", desc := "(I)I" } : MethodName) ({ cls := "ChainHouse", name := "fault", desc := "(I)I" } : MethodName)),
  (Cond.methodLink "ChainHouseLaw" (61 : Nat) ({ cls := "ChainHouseModel", name := "fault", desc := "(I)I" } : MethodName)),
  (Cond.instanceMethod ({ cls := "ChainHouseModel", name := "fault", desc := "(I)I" } : MethodName)),
  (Cond.selects "ChainHouseModel" ({ cls := "ChainHouseModel", name := "fault", desc := "(I)I" } : MethodName) ({ cls := "ChainHouseModel", name := "fault", desc := "(I)I" } : MethodName)),
  (Cond.methodLink "ChainHouseLaw" (64 : Nat) ({ cls := "ChainHouseModel", name := "take", desc := "(I)I" } : MethodName)),
  (Cond.instanceMethod ({ cls := "ChainHouseModel", name := "take", desc := "(I)I" } : MethodName)),
  (Cond.selects "ChainHouseModel" ({ cls := "ChainHouseModel", name := "take", desc := "(I)I" } : MethodName) ({ cls := "ChainHouseModel", name := "take", desc := "(I)I" } : MethodName)),
  (Cond.constantLong "ChainHouseLaw" (65 : Nat) (4294967295 : Int64)),
  (Cond.methodLink "ChainHouseLaw" (67 : Nat) ({ cls := "ChainHouse", name := "extend", desc := "(IIJ)Z" } : MethodName)),
  (Cond.instanceMethod ({ cls := "ChainHouse", name := "extend", desc := "(IIJ)Z" } : MethodName)),
  (Cond.selects "ChainHouse" ({ cls := "ChainHouse", name := "extend", desc := "(IIJ)Z" } : MethodName) ({ cls := "ChainHouse", name := "extend", desc := "(IIJ)Z" } : MethodName)),
  (Cond.methodLink "ChainHouseLaw" (71 : Nat) ({ cls := "ChainHouseModel", name := "extend", desc := "(IIJ)Z" } : MethodName)),
  (Cond.instanceMethod ({ cls := "ChainHouseModel", name := "extend", desc := "(IIJ)Z" } : MethodName)),
  (Cond.selects "ChainHouseModel" ({ cls := "ChainHouseModel", name := "extend", desc := "(IIJ)Z" } : MethodName) ({ cls := "ChainHouseModel", name := "extend", desc := "(IIJ)Z" } : MethodName)),
  (Cond.methodLink "ChainHouseLaw" (72 : Nat) ({ cls := "ChainHouse", name := "cut", desc := "(II)Z" } : MethodName)),
  (Cond.instanceMethod ({ cls := "ChainHouse", name := "cut", desc := "(II)Z" } : MethodName)),
  (Cond.selects "ChainHouse" ({ cls := "ChainHouse", name := "cut", desc := "(II)Z" } : MethodName) ({ cls := "ChainHouse", name := "cut", desc := "(II)Z" } : MethodName)),
  (Cond.methodLink "ChainHouseLaw" (76 : Nat) ({ cls := "ChainHouseModel", name := "cut", desc := "(II)Z" } : MethodName)),
  (Cond.instanceMethod ({ cls := "ChainHouseModel", name := "cut", desc := "(II)Z" } : MethodName)),
  (Cond.selects "ChainHouseModel" ({ cls := "ChainHouseModel", name := "cut", desc := "(II)Z" } : MethodName) ({ cls := "ChainHouseModel", name := "cut", desc := "(II)Z" } : MethodName)),
  (Cond.methodLink "ChainHouseLaw" (77 : Nat) ({ cls := "ChainHouse", name := "spoil", desc := "(III)I" } : MethodName)),
  (Cond.instanceMethod ({ cls := "ChainHouse", name := "spoil", desc := "(III)I" } : MethodName)),
  (Cond.selects "ChainHouse" ({ cls := "ChainHouse", name := "spoil", desc := "(III)I" } : MethodName) ({ cls := "ChainHouse", name := "spoil", desc := "(III)I" } : MethodName)),
  (Cond.methodLink "ChainHouseLaw" (81 : Nat) ({ cls := "ChainHouseModel", name := "spoil", desc := "(III)I" } : MethodName)),
  (Cond.instanceMethod ({ cls := "ChainHouseModel", name := "spoil", desc := "(III)I" } : MethodName)),
  (Cond.selects "ChainHouseModel" ({ cls := "ChainHouseModel", name := "spoil", desc := "(III)I" } : MethodName) ({ cls := "ChainHouseModel", name := "spoil", desc := "(III)I" } : MethodName)),
  (Cond.methodLink "ChainHouseLaw" (82 : Nat) ({ cls := "ChainHouse", name := "size", desc := "(I)I" } : MethodName)),
  (Cond.instanceMethod ({ cls := "ChainHouse", name := "size", desc := "(I)I" } : MethodName)),
  (Cond.selects "ChainHouse" ({ cls := "ChainHouse", name := "size", desc := "(I)I" } : MethodName) ({ cls := "ChainHouse", name := "size", desc := "(I)I" } : MethodName)),
  (Cond.methodLink "ChainHouseLaw" (85 : Nat) ({ cls := "ChainHouseModel", name := "size", desc := "(I)I" } : MethodName)),
  (Cond.instanceMethod ({ cls := "ChainHouseModel", name := "size", desc := "(I)I" } : MethodName)),
  (Cond.selects "ChainHouseModel" ({ cls := "ChainHouseModel", name := "size", desc := "(I)I" } : MethodName) ({ cls := "ChainHouseModel", name := "size", desc := "(I)I" } : MethodName)),
  (Cond.methodLink "ChainHouseLaw" (86 : Nat) ({ cls := "ChainHouse", name := "byteAt", desc := "(II)I" } : MethodName)),
  (Cond.instanceMethod ({ cls := "ChainHouse", name := "byteAt", desc := "(II)I" } : MethodName)),
  (Cond.selects "ChainHouse" ({ cls := "ChainHouse", name := "byteAt", desc := "(II)I" } : MethodName) ({ cls := "ChainHouse", name := "byteAt", desc := "(II)I" } : MethodName)),
  (Cond.methodLink "ChainHouseLaw" (90 : Nat) ({ cls := "ChainHouseModel", name := "byteAt", desc := "(II)I" } : MethodName)),
  (Cond.methodLink "ChainHouseLaw" (93 : Nat) ({ cls := "ChainHouseModel", name := "check", desc := "(I)I" } : MethodName)),
  (Cond.instanceMethod ({ cls := "ChainHouseModel", name := "check", desc := "(I)I" } : MethodName)),
  (Cond.selects "ChainHouseModel" ({ cls := "ChainHouseModel", name := "check", desc := "(I)I" } : MethodName) ({ cls := "ChainHouseModel", name := "check", desc := "(I)I" } : MethodName)),
  (Cond.methodLink "ChainHouseLaw" (94 : Nat) ({ cls := "ChainHouse", name := "object", desc := "(III)I" } : MethodName)),
  (Cond.instanceMethod ({ cls := "ChainHouse", name := "object", desc := "(III)I" } : MethodName)),
  (Cond.selects "ChainHouse" ({ cls := "ChainHouse", name := "object", desc := "(III)I" } : MethodName) ({ cls := "ChainHouse", name := "object", desc := "(III)I" } : MethodName)),
  (Cond.methodLink "ChainHouseLaw" (97 : Nat) ({ cls := "ChainHouseModel", name := "object", desc := "(III)I" } : MethodName)),
  (Cond.instanceMethod ({ cls := "ChainHouseModel", name := "object", desc := "(III)I" } : MethodName))]
def zu_w11 : List Cond := [
  (Cond.selects "ChainHouseModel" ({ cls := "ChainHouseModel", name := "object", desc := "(III)I" } : MethodName) ({ cls := "ChainHouseModel", name := "object", desc := "(III)I" } : MethodName)),
  (Cond.methodLink "ChainHouseLaw" (101 : Nat) ({ cls := "ChainHouseModel", name := "link", desc := "(IZ)I" } : MethodName)),
  (Cond.instanceMethod ({ cls := "ChainHouseModel", name := "link", desc := "(IZ)I" } : MethodName)),
  (Cond.selects "ChainHouseModel" ({ cls := "ChainHouseModel", name := "link", desc := "(IZ)I" } : MethodName) ({ cls := "ChainHouseModel", name := "link", desc := "(IZ)I" } : MethodName)),
  (Cond.methodLink "ChainHouseLaw" (102 : Nat) ({ cls := "ChainHouse", name := "linked", desc := "(I)I" } : MethodName)),
  (Cond.instanceMethod ({ cls := "ChainHouse", name := "linked", desc := "(I)I" } : MethodName)),
  (Cond.selects "ChainHouse" ({ cls := "ChainHouse", name := "linked", desc := "(I)I" } : MethodName) ({ cls := "ChainHouse", name := "linked", desc := "(I)I" } : MethodName)),
  (Cond.methodLink "ChainHouseLaw" (105 : Nat) ({ cls := "ChainHouseModel", name := "linked", desc := "(I)I" } : MethodName)),
  (Cond.instanceMethod ({ cls := "ChainHouseModel", name := "linked", desc := "(I)I" } : MethodName)),
  (Cond.selects "ChainHouseModel" ({ cls := "ChainHouseModel", name := "linked", desc := "(I)I" } : MethodName) ({ cls := "ChainHouseModel", name := "linked", desc := "(I)I" } : MethodName)),
  (Cond.methodLink "ChainHouseLaw" (109 : Nat) ({ cls := "ChainHouseModel", name := "where", desc := "(JJ)I" } : MethodName)),
  (Cond.instanceMethod ({ cls := "ChainHouseModel", name := "where", desc := "(JJ)I" } : MethodName)),
  (Cond.selects "ChainHouseModel" ({ cls := "ChainHouseModel", name := "where", desc := "(JJ)I" } : MethodName) ({ cls := "ChainHouseModel", name := "where", desc := "(JJ)I" } : MethodName)),
  (Cond.methodLink "ChainHouseLaw" (110 : Nat) ({ cls := "ChainHouse", name := "load", desc := "()I" } : MethodName)),
  (Cond.instanceMethod ({ cls := "ChainHouse", name := "load", desc := "()I" } : MethodName)),
  (Cond.selects "ChainHouse" ({ cls := "ChainHouse", name := "load", desc := "()I" } : MethodName) ({ cls := "ChainHouse", name := "load", desc := "()I" } : MethodName)),
  (Cond.methodLink "ChainHouseLaw" (113 : Nat) ({ cls := "ChainHouseModel", name := "load", desc := "()I" } : MethodName)),
  (Cond.instanceMethod ({ cls := "ChainHouseModel", name := "load", desc := "()I" } : MethodName)),
  (Cond.selects "ChainHouseModel" ({ cls := "ChainHouseModel", name := "load", desc := "()I" } : MethodName) ({ cls := "ChainHouseModel", name := "load", desc := "()I" } : MethodName)),
  (Cond.methodLink "ChainHouseLaw" (114 : Nat) ({ cls := "ChainHouse", name := "place", desc := "()I" } : MethodName)),
  (Cond.instanceMethod ({ cls := "ChainHouse", name := "place", desc := "()I" } : MethodName)),
  (Cond.selects "ChainHouse" ({ cls := "ChainHouse", name := "place", desc := "()I" } : MethodName) ({ cls := "ChainHouse", name := "place", desc := "()I" } : MethodName)),
  (Cond.methodLink "ChainHouseLaw" (117 : Nat) ({ cls := "ChainHouseModel", name := "place", desc := "()I" } : MethodName)),
  (Cond.instanceMethod ({ cls := "ChainHouseModel", name := "place", desc := "()I" } : MethodName)),
  (Cond.selects "ChainHouseModel" ({ cls := "ChainHouseModel", name := "place", desc := "()I" } : MethodName) ({ cls := "ChainHouseModel", name := "place", desc := "()I" } : MethodName)),
  (Cond.methodLink "ChainHouseLaw" (118 : Nat) ({ cls := "ChainHouse", name := "step", desc := "()I" } : MethodName)),
  (Cond.instanceMethod ({ cls := "ChainHouse", name := "step", desc := "()I" } : MethodName)),
  (Cond.selects "ChainHouse" ({ cls := "ChainHouse", name := "step", desc := "()I" } : MethodName) ({ cls := "ChainHouse", name := "step", desc := "()I" } : MethodName)),
  (Cond.methodLink "ChainHouseLaw" (121 : Nat) ({ cls := "ChainHouseModel", name := "step", desc := "()I" } : MethodName)),
  (Cond.instanceMethod ({ cls := "ChainHouseModel", name := "step", desc := "()I" } : MethodName)),
  (Cond.selects "ChainHouseModel" ({ cls := "ChainHouseModel", name := "step", desc := "()I" } : MethodName) ({ cls := "ChainHouseModel", name := "step", desc := "()I" } : MethodName)),
  (Cond.methodLink "ChainHouseLaw" (122 : Nat) ({ cls := "ChainHouse", name := "run", desc := "(I)I" } : MethodName)),
  (Cond.instanceMethod ({ cls := "ChainHouse", name := "run", desc := "(I)I" } : MethodName)),
  (Cond.selects "ChainHouse" ({ cls := "ChainHouse", name := "run", desc := "(I)I" } : MethodName) ({ cls := "ChainHouse", name := "run", desc := "(I)I" } : MethodName)),
  (Cond.methodLink "ChainHouseLaw" (125 : Nat) ({ cls := "ChainHouseModel", name := "run", desc := "(I)I" } : MethodName)),
  (Cond.instanceMethod ({ cls := "ChainHouseModel", name := "run", desc := "(I)I" } : MethodName)),
  (Cond.selects "ChainHouseModel" ({ cls := "ChainHouseModel", name := "run", desc := "(I)I" } : MethodName) ({ cls := "ChainHouseModel", name := "run", desc := "(I)I" } : MethodName)),
  (Cond.methodLink "ChainHouseLaw" (126 : Nat) ({ cls := "ChainHouse", name := "back", desc := "(I)I" } : MethodName)),
  (Cond.instanceMethod ({ cls := "ChainHouse", name := "back", desc := "(I)I" } : MethodName)),
  (Cond.selects "ChainHouse" ({ cls := "ChainHouse", name := "back", desc := "(I)I" } : MethodName) ({ cls := "ChainHouse", name := "back", desc := "(I)I" } : MethodName)),
  (Cond.methodLink "ChainHouseLaw" (129 : Nat) ({ cls := "ChainHouseModel", name := "back", desc := "(I)I" } : MethodName)),
  (Cond.instanceMethod ({ cls := "ChainHouseModel", name := "back", desc := "(I)I" } : MethodName)),
  (Cond.selects "ChainHouseModel" ({ cls := "ChainHouseModel", name := "back", desc := "(I)I" } : MethodName) ({ cls := "ChainHouseModel", name := "back", desc := "(I)I" } : MethodName)),
  (Cond.methodLink "ChainHouseLaw" (130 : Nat) ({ cls := "ChainHouse", name := "set", desc := "(II)Z" } : MethodName)),
  (Cond.instanceMethod ({ cls := "ChainHouse", name := "set", desc := "(II)Z" } : MethodName)),
  (Cond.selects "ChainHouse" ({ cls := "ChainHouse", name := "set", desc := "(II)Z" } : MethodName) ({ cls := "ChainHouse", name := "set", desc := "(II)Z" } : MethodName)),
  (Cond.methodLink "ChainHouseLaw" (133 : Nat) ({ cls := "ChainHouseModel", name := "set", desc := "(II)Z" } : MethodName)),
  (Cond.instanceMethod ({ cls := "ChainHouseModel", name := "set", desc := "(II)Z" } : MethodName)),
  (Cond.selects "ChainHouseModel" ({ cls := "ChainHouseModel", name := "set", desc := "(II)Z" } : MethodName) ({ cls := "ChainHouseModel", name := "set", desc := "(II)Z" } : MethodName)),
  (Cond.methodLink "ChainHouseLaw" (134 : Nat) ({ cls := "ChainHouse", name := "get", desc := "(I)I" } : MethodName)),
  (Cond.instanceMethod ({ cls := "ChainHouse", name := "get", desc := "(I)I" } : MethodName)),
  (Cond.selects "ChainHouse" ({ cls := "ChainHouse", name := "get", desc := "(I)I" } : MethodName) ({ cls := "ChainHouse", name := "get", desc := "(I)I" } : MethodName)),
  (Cond.methodLink "ChainHouseLaw" (137 : Nat) ({ cls := "ChainHouseModel", name := "get", desc := "(I)I" } : MethodName)),
  (Cond.instanceMethod ({ cls := "ChainHouseModel", name := "get", desc := "(I)I" } : MethodName)),
  (Cond.selects "ChainHouseModel" ({ cls := "ChainHouseModel", name := "get", desc := "(I)I" } : MethodName) ({ cls := "ChainHouseModel", name := "get", desc := "(I)I" } : MethodName)),
  (Cond.methodLink "ChainHouseLaw" (138 : Nat) ({ cls := "ChainHouse", name := "peek", desc := "(I)I" } : MethodName)),
  (Cond.instanceMethod ({ cls := "ChainHouse", name := "peek", desc := "(I)I" } : MethodName)),
  (Cond.selects "ChainHouse" ({ cls := "ChainHouse", name := "peek", desc := "(I)I" } : MethodName) ({ cls := "ChainHouse", name := "peek", desc := "(I)I" } : MethodName)),
  (Cond.methodLink "ChainHouseLaw" (141 : Nat) ({ cls := "ChainHouseModel", name := "peek", desc := "(I)I" } : MethodName)),
  (Cond.instanceMethod ({ cls := "ChainHouseModel", name := "peek", desc := "(I)I" } : MethodName)),
  (Cond.selects "ChainHouseModel" ({ cls := "ChainHouseModel", name := "peek", desc := "(I)I" } : MethodName) ({ cls := "ChainHouseModel", name := "peek", desc := "(I)I" } : MethodName)),
  (Cond.methodLink "ChainHouseLaw" (142 : Nat) ({ cls := "ChainHouse", name := "input", desc := "(IJ)Z" } : MethodName)),
  (Cond.instanceMethod ({ cls := "ChainHouse", name := "input", desc := "(IJ)Z" } : MethodName)),
  (Cond.selects "ChainHouse" ({ cls := "ChainHouse", name := "input", desc := "(IJ)Z" } : MethodName) ({ cls := "ChainHouse", name := "input", desc := "(IJ)Z" } : MethodName)),
  (Cond.methodLink "ChainHouseLaw" (146 : Nat) ({ cls := "ChainHouseModel", name := "input", desc := "(IJ)Z" } : MethodName)),
  (Cond.instanceMethod ({ cls := "ChainHouseModel", name := "input", desc := "(IJ)Z" } : MethodName)),
  (Cond.selects "ChainHouseModel" ({ cls := "ChainHouseModel", name := "input", desc := "(IJ)Z" } : MethodName) ({ cls := "ChainHouseModel", name := "input", desc := "(IJ)Z" } : MethodName)),
  (Cond.methodLink "ChainHouseLaw" (147 : Nat) ({ cls := "ChainHouse", name := "halt", desc := "(IZ)Z" } : MethodName)),
  (Cond.instanceMethod ({ cls := "ChainHouse", name := "halt", desc := "(IZ)Z" } : MethodName)),
  (Cond.selects "ChainHouse" ({ cls := "ChainHouse", name := "halt", desc := "(IZ)Z" } : MethodName) ({ cls := "ChainHouse", name := "halt", desc := "(IZ)Z" } : MethodName)),
  (Cond.methodLink "ChainHouseLaw" (151 : Nat) ({ cls := "ChainHouseModel", name := "halt", desc := "(IZ)Z" } : MethodName)),
  (Cond.instanceMethod ({ cls := "ChainHouseModel", name := "halt", desc := "(IZ)Z" } : MethodName)),
  (Cond.selects "ChainHouseModel" ({ cls := "ChainHouseModel", name := "halt", desc := "(IZ)Z" } : MethodName) ({ cls := "ChainHouseModel", name := "halt", desc := "(IZ)Z" } : MethodName)),
  (Cond.methodLink "ChainHouseLaw" (152 : Nat) ({ cls := "ChainHouse", name := "state", desc := "(I)I" } : MethodName)),
  (Cond.instanceMethod ({ cls := "ChainHouse", name := "state", desc := "(I)I" } : MethodName)),
  (Cond.selects "ChainHouse" ({ cls := "ChainHouse", name := "state", desc := "(I)I" } : MethodName) ({ cls := "ChainHouse", name := "state", desc := "(I)I" } : MethodName)),
  (Cond.methodLink "ChainHouseLaw" (155 : Nat) ({ cls := "ChainHouseModel", name := "state", desc := "(I)I" } : MethodName)),
  (Cond.instanceMethod ({ cls := "ChainHouseModel", name := "state", desc := "(I)I" } : MethodName)),
  (Cond.selects "ChainHouseModel" ({ cls := "ChainHouseModel", name := "state", desc := "(I)I" } : MethodName) ({ cls := "ChainHouseModel", name := "state", desc := "(I)I" } : MethodName)),
  (Cond.methodLink "ChainHouseLaw" (156 : Nat) ({ cls := "ChainHouse", name := "output", desc := "(I)I" } : MethodName)),
  (Cond.instanceMethod ({ cls := "ChainHouse", name := "output", desc := "(I)I" } : MethodName)),
  (Cond.selects "ChainHouse" ({ cls := "ChainHouse", name := "output", desc := "(I)I" } : MethodName) ({ cls := "ChainHouse", name := "output", desc := "(I)I" } : MethodName)),
  (Cond.methodLink "ChainHouseLaw" (159 : Nat) ({ cls := "ChainHouseModel", name := "output", desc := "(I)I" } : MethodName)),
  (Cond.instanceMethod ({ cls := "ChainHouseModel", name := "output", desc := "(I)I" } : MethodName)),
  (Cond.selects "ChainHouseModel" ({ cls := "ChainHouseModel", name := "output", desc := "(I)I" } : MethodName) ({ cls := "ChainHouseModel", name := "output", desc := "(I)I" } : MethodName)),
  (Cond.methodLink "ChainHouseLaw" (160 : Nat) ({ cls := "ChainHouse", name := "rights", desc := "(I)I" } : MethodName)),
  (Cond.instanceMethod ({ cls := "ChainHouse", name := "rights", desc := "(I)I" } : MethodName)),
  (Cond.selects "ChainHouse" ({ cls := "ChainHouse", name := "rights", desc := "(I)I" } : MethodName) ({ cls := "ChainHouse", name := "rights", desc := "(I)I" } : MethodName)),
  (Cond.methodLink "ChainHouseLaw" (163 : Nat) ({ cls := "ChainHouseModel", name := "rights", desc := "(I)I" } : MethodName)),
  (Cond.instanceMethod ({ cls := "ChainHouseModel", name := "rights", desc := "(I)I" } : MethodName)),
  (Cond.selects "ChainHouseModel" ({ cls := "ChainHouseModel", name := "rights", desc := "(I)I" } : MethodName) ({ cls := "ChainHouseModel", name := "rights", desc := "(I)I" } : MethodName)),
  (Cond.methodLink "ChainHouseLaw" (164 : Nat) ({ cls := "ChainHouse", name := "tell", desc := "(I)I" } : MethodName)),
  (Cond.instanceMethod ({ cls := "ChainHouse", name := "tell", desc := "(I)I" } : MethodName)),
  (Cond.selects "ChainHouse" ({ cls := "ChainHouse", name := "tell", desc := "(I)I" } : MethodName) ({ cls := "ChainHouse", name := "tell", desc := "(I)I" } : MethodName)),
  (Cond.methodLink "ChainHouseLaw" (167 : Nat) ({ cls := "ChainHouseModel", name := "tell", desc := "(I)I" } : MethodName)),
  (Cond.instanceMethod ({ cls := "ChainHouseModel", name := "tell", desc := "(I)I" } : MethodName)),
  (Cond.selects "ChainHouseModel" ({ cls := "ChainHouseModel", name := "tell", desc := "(I)I" } : MethodName) ({ cls := "ChainHouseModel", name := "tell", desc := "(I)I" } : MethodName)),
  (Cond.methodLink "ChainHouseLaw" (168 : Nat) ({ cls := "ChainHouse", name := "letter", desc := "(I)I" } : MethodName)),
  (Cond.instanceMethod ({ cls := "ChainHouse", name := "letter", desc := "(I)I" } : MethodName)),
  (Cond.selects "ChainHouse" ({ cls := "ChainHouse", name := "letter", desc := "(I)I" } : MethodName) ({ cls := "ChainHouse", name := "letter", desc := "(I)I" } : MethodName))]
def zu_w12 : List Cond := [
  (Cond.methodLink "ChainHouseLaw" (171 : Nat) ({ cls := "ChainHouseModel", name := "letter", desc := "(I)I" } : MethodName)),
  (Cond.instanceMethod ({ cls := "ChainHouseModel", name := "letter", desc := "(I)I" } : MethodName)),
  (Cond.selects "ChainHouseModel" ({ cls := "ChainHouseModel", name := "letter", desc := "(I)I" } : MethodName) ({ cls := "ChainHouseModel", name := "letter", desc := "(I)I" } : MethodName)),
  (Cond.initialized "java/lang/String"),
  (Cond.initialized "jdk/internal/util/Preconditions"),
  (Cond.initialized "java/lang/StringLatin1"),
  (Cond.initialized "java/lang/Throwable"),
  (Cond.initialized "java/lang/Exception"),
  (Cond.initialized "java/lang/RuntimeException"),
  (Cond.initialized "java/lang/IndexOutOfBoundsException"),
  (Cond.initialized "java/lang/IllegalArgumentException"),
  (Cond.initialized "java/lang/IllegalStateException"),
  (Cond.initialized "java/util/NoSuchElementException"),
  (Cond.classLink "ChainHouseLaw" (13 : Nat) "java/lang/IndexOutOfBoundsException"),
  (Cond.classLink "ChainHouseLaw" (15 : Nat) "java/lang/IllegalArgumentException"),
  (Cond.classLink "ChainHouse" (105 : Nat) "java/lang/IndexOutOfBoundsException"),
  (Cond.instantiable "java/lang/IndexOutOfBoundsException" (6 : Nat)),
  (Cond.selects "java/lang/IndexOutOfBoundsException" ({ cls := "java/lang/Throwable", name := "fillInStackTrace", desc := "(I)Ljava/lang/Throwable;" } : MethodName) ({ cls := "java/lang/Throwable", name := "fillInStackTrace", desc := "(I)Ljava/lang/Throwable;" } : MethodName)),
  (Cond.selects "java/lang/IndexOutOfBoundsException" ({ cls := "java/lang/Throwable", name := "fillInStackTrace", desc := "()Ljava/lang/Throwable;" } : MethodName) ({ cls := "java/lang/Throwable", name := "fillInStackTrace", desc := "()Ljava/lang/Throwable;" } : MethodName)),
  (Cond.lays "java/lang/IndexOutOfBoundsException" "java/lang/Throwable" "cause" "Ljava/lang/Throwable;"),
  (Cond.lays "java/lang/Throwable" "java/lang/Throwable" "cause" "Ljava/lang/Throwable;"),
  (Cond.lays "java/lang/IndexOutOfBoundsException" "java/lang/Throwable" "stackTrace" "[Ljava/lang/StackTraceElement;"),
  (Cond.lays "java/lang/Throwable" "java/lang/Throwable" "stackTrace" "[Ljava/lang/StackTraceElement;"),
  (Cond.lays "java/lang/IndexOutOfBoundsException" "java/lang/Throwable" "suppressedExceptions" "Ljava/util/List;"),
  (Cond.lays "java/lang/Throwable" "java/lang/Throwable" "suppressedExceptions" "Ljava/util/List;"),
  (Cond.lays "java/lang/IndexOutOfBoundsException" "java/lang/Throwable" "detailMessage" "Ljava/lang/String;"),
  (Cond.lays "java/lang/Throwable" "java/lang/Throwable" "detailMessage" "Ljava/lang/String;"),
  (Cond.lays "java/lang/IndexOutOfBoundsException" "java/lang/Throwable" "backtrace" "Ljava/lang/Object;"),
  (Cond.lays "java/lang/Throwable" "java/lang/Throwable" "backtrace" "Ljava/lang/Object;"),
  (Cond.fieldLink "java/lang/Throwable" (198 : Nat) "java/lang/Throwable" "backtrace" "Ljava/lang/Object;"),
  (Cond.superclass "java/lang/Throwable" "java/lang/Object"),
  (Cond.instanceMethod ({ cls := "java/lang/Throwable", name := "<init>", desc := "()V" } : MethodName)),
  (Cond.methodLink "java/lang/Throwable" (1 : Nat) ({ cls := "java/lang/Object", name := "<init>", desc := "()V" } : MethodName)),
  (Cond.fieldLink "java/lang/Throwable" (13 : Nat) "java/lang/Throwable" "UNASSIGNED_STACK" "[Ljava/lang/StackTraceElement;"),
  (Cond.fieldLink "java/lang/Throwable" (20 : Nat) "java/lang/Throwable" "SUPPRESSED_SENTINEL" "Ljava/util/List;"),
  (Cond.methodLink "java/lang/Throwable" (27 : Nat) ({ cls := "java/lang/Throwable", name := "fillInStackTrace", desc := "()Ljava/lang/Throwable;" } : MethodName)),
  (Cond.instanceMethod ({ cls := "java/lang/Throwable", name := "fillInStackTrace", desc := "()Ljava/lang/Throwable;" } : MethodName)),
  (Cond.sameMethod "java/lang/Throwable" "java/lang/Throwable" "fillInStackTrace" "()Ljava/lang/Throwable;"),
  (Cond.selects "java/lang/IllegalArgumentException" ({ cls := "java/lang/Throwable", name := "fillInStackTrace", desc := "()Ljava/lang/Throwable;" } : MethodName) ({ cls := "java/lang/Throwable", name := "fillInStackTrace", desc := "()Ljava/lang/Throwable;" } : MethodName)),
  (Cond.selects "java/lang/IllegalStateException" ({ cls := "java/lang/Throwable", name := "fillInStackTrace", desc := "()Ljava/lang/Throwable;" } : MethodName) ({ cls := "java/lang/Throwable", name := "fillInStackTrace", desc := "()Ljava/lang/Throwable;" } : MethodName)),
  (Cond.selects "java/util/NoSuchElementException" ({ cls := "java/lang/Throwable", name := "fillInStackTrace", desc := "()Ljava/lang/Throwable;" } : MethodName) ({ cls := "java/lang/Throwable", name := "fillInStackTrace", desc := "()Ljava/lang/Throwable;" } : MethodName)),
  (Cond.methodLink "java/lang/Throwable" (202 : Nat) ({ cls := "java/lang/Throwable", name := "fillInStackTrace", desc := "(I)Ljava/lang/Throwable;" } : MethodName)),
  (Cond.instanceMethod ({ cls := "java/lang/Throwable", name := "fillInStackTrace", desc := "(I)Ljava/lang/Throwable;" } : MethodName)),
  (Cond.instantiable "java/lang/Throwable" (6 : Nat)),
  (Cond.native ({ cls := "java/lang/Throwable", name := "fillInStackTrace", desc := "(I)Ljava/lang/Throwable;" } : MethodName)),
  (Cond.methodLink "ChainHouse" (107 : Nat) ({ cls := "java/lang/IndexOutOfBoundsException", name := "<init>", desc := "()V" } : MethodName)),
  (Cond.instanceMethod ({ cls := "java/lang/IndexOutOfBoundsException", name := "<init>", desc := "()V" } : MethodName)),
  (Cond.methodLink "java/lang/IndexOutOfBoundsException" (1 : Nat) ({ cls := "java/lang/RuntimeException", name := "<init>", desc := "()V" } : MethodName)),
  (Cond.instanceMethod ({ cls := "java/lang/RuntimeException", name := "<init>", desc := "()V" } : MethodName)),
  (Cond.methodLink "java/lang/RuntimeException" (1 : Nat) ({ cls := "java/lang/Exception", name := "<init>", desc := "()V" } : MethodName)),
  (Cond.instanceMethod ({ cls := "java/lang/Exception", name := "<init>", desc := "()V" } : MethodName)),
  (Cond.methodLink "java/lang/Exception" (1 : Nat) ({ cls := "java/lang/Throwable", name := "<init>", desc := "()V" } : MethodName)),
  (Cond.fieldLink "java/lang/Throwable" (7 : Nat) "java/lang/Throwable" "cause" "Ljava/lang/Throwable;"),
  (Cond.fieldLink "java/lang/Throwable" (17 : Nat) "java/lang/Throwable" "stackTrace" "[Ljava/lang/StackTraceElement;"),
  (Cond.fieldLink "java/lang/Throwable" (24 : Nat) "java/lang/Throwable" "suppressedExceptions" "Ljava/util/List;"),
  (Cond.soleField "java/lang/Throwable" "backtrace"),
  (Cond.soleField "java/lang/Throwable" "detailMessage"),
  (Cond.soleField "java/lang/Throwable" "cause"),
  (Cond.soleField "java/lang/Throwable" "stackTrace"),
  (Cond.lays "java/lang/IndexOutOfBoundsException" "java/lang/Throwable" "depth" "I"),
  (Cond.soleField "java/lang/Throwable" "depth"),
  (Cond.soleField "java/lang/Throwable" "suppressedExceptions"),
  (Cond.superclass "java/lang/IndexOutOfBoundsException" "java/lang/RuntimeException"),
  (Cond.classLink "ChainHouse" (125 : Nat) "java/lang/IllegalArgumentException"),
  (Cond.instantiable "java/lang/IllegalArgumentException" (6 : Nat)),
  (Cond.selects "java/lang/IllegalArgumentException" ({ cls := "java/lang/Throwable", name := "fillInStackTrace", desc := "(I)Ljava/lang/Throwable;" } : MethodName) ({ cls := "java/lang/Throwable", name := "fillInStackTrace", desc := "(I)Ljava/lang/Throwable;" } : MethodName)),
  (Cond.lays "java/lang/IllegalArgumentException" "java/lang/Throwable" "cause" "Ljava/lang/Throwable;"),
  (Cond.lays "java/lang/IllegalArgumentException" "java/lang/Throwable" "stackTrace" "[Ljava/lang/StackTraceElement;"),
  (Cond.lays "java/lang/IllegalArgumentException" "java/lang/Throwable" "suppressedExceptions" "Ljava/util/List;"),
  (Cond.lays "java/lang/IllegalArgumentException" "java/lang/Throwable" "detailMessage" "Ljava/lang/String;"),
  (Cond.lays "java/lang/IllegalArgumentException" "java/lang/Throwable" "backtrace" "Ljava/lang/Object;"),
  (Cond.methodLink "ChainHouse" (127 : Nat) ({ cls := "java/lang/IllegalArgumentException", name := "<init>", desc := "()V" } : MethodName)),
  (Cond.instanceMethod ({ cls := "java/lang/IllegalArgumentException", name := "<init>", desc := "()V" } : MethodName)),
  (Cond.methodLink "java/lang/IllegalArgumentException" (1 : Nat) ({ cls := "java/lang/RuntimeException", name := "<init>", desc := "()V" } : MethodName)),
  (Cond.lays "java/lang/IllegalArgumentException" "java/lang/Throwable" "depth" "I"),
  (Cond.superclass "java/lang/IllegalArgumentException" "java/lang/RuntimeException"),
  (Cond.classLink "ChainHouseLaw" (27 : Nat) "java/lang/IllegalStateException"),
  (Cond.classLink "ChainHouse" (171 : Nat) "java/lang/IllegalStateException"),
  (Cond.instantiable "java/lang/IllegalStateException" (6 : Nat)),
  (Cond.selects "java/lang/IllegalStateException" ({ cls := "java/lang/Throwable", name := "fillInStackTrace", desc := "(I)Ljava/lang/Throwable;" } : MethodName) ({ cls := "java/lang/Throwable", name := "fillInStackTrace", desc := "(I)Ljava/lang/Throwable;" } : MethodName)),
  (Cond.lays "java/lang/IllegalStateException" "java/lang/Throwable" "cause" "Ljava/lang/Throwable;"),
  (Cond.lays "java/lang/IllegalStateException" "java/lang/Throwable" "stackTrace" "[Ljava/lang/StackTraceElement;"),
  (Cond.lays "java/lang/IllegalStateException" "java/lang/Throwable" "suppressedExceptions" "Ljava/util/List;"),
  (Cond.lays "java/lang/IllegalStateException" "java/lang/Throwable" "detailMessage" "Ljava/lang/String;"),
  (Cond.lays "java/lang/IllegalStateException" "java/lang/Throwable" "backtrace" "Ljava/lang/Object;"),
  (Cond.methodLink "ChainHouse" (173 : Nat) ({ cls := "java/lang/IllegalStateException", name := "<init>", desc := "()V" } : MethodName)),
  (Cond.instanceMethod ({ cls := "java/lang/IllegalStateException", name := "<init>", desc := "()V" } : MethodName)),
  (Cond.methodLink "java/lang/IllegalStateException" (1 : Nat) ({ cls := "java/lang/RuntimeException", name := "<init>", desc := "()V" } : MethodName)),
  (Cond.lays "java/lang/IllegalStateException" "java/lang/Throwable" "depth" "I"),
  (Cond.superclass "java/lang/IllegalStateException" "java/lang/RuntimeException"),
  (Cond.classLink "ChainHouseLaw" (33 : Nat) "java/util/NoSuchElementException"),
  (Cond.classLink "ChainHouse" (191 : Nat) "java/util/NoSuchElementException"),
  (Cond.instantiable "java/util/NoSuchElementException" (6 : Nat)),
  (Cond.selects "java/util/NoSuchElementException" ({ cls := "java/lang/Throwable", name := "fillInStackTrace", desc := "(I)Ljava/lang/Throwable;" } : MethodName) ({ cls := "java/lang/Throwable", name := "fillInStackTrace", desc := "(I)Ljava/lang/Throwable;" } : MethodName)),
  (Cond.lays "java/util/NoSuchElementException" "java/lang/Throwable" "cause" "Ljava/lang/Throwable;"),
  (Cond.lays "java/util/NoSuchElementException" "java/lang/Throwable" "stackTrace" "[Ljava/lang/StackTraceElement;"),
  (Cond.lays "java/util/NoSuchElementException" "java/lang/Throwable" "suppressedExceptions" "Ljava/util/List;"),
  (Cond.lays "java/util/NoSuchElementException" "java/lang/Throwable" "detailMessage" "Ljava/lang/String;"),
  (Cond.lays "java/util/NoSuchElementException" "java/lang/Throwable" "backtrace" "Ljava/lang/Object;"),
  (Cond.methodLink "ChainHouse" (193 : Nat) ({ cls := "java/util/NoSuchElementException", name := "<init>", desc := "()V" } : MethodName))]
def zu_w13 : List Cond := [
  (Cond.instanceMethod ({ cls := "java/util/NoSuchElementException", name := "<init>", desc := "()V" } : MethodName)),
  (Cond.methodLink "java/util/NoSuchElementException" (1 : Nat) ({ cls := "java/lang/RuntimeException", name := "<init>", desc := "()V" } : MethodName)),
  (Cond.lays "java/util/NoSuchElementException" "java/lang/Throwable" "depth" "I"),
  (Cond.superclass "java/util/NoSuchElementException" "java/lang/RuntimeException"),
  (Cond.sameMethod "java/lang/Throwable" "java/lang/Throwable" "fillInStackTrace" "(I)Ljava/lang/Throwable;"),
  (Cond.static ({ cls := "ChainHouseLaw", name := "assemble", desc := "(LChainHouse;I[J)I" } : MethodName)),
  (Cond.methodLink "ChainHouseLaw" (48 : Nat) ({ cls := "ChainHouseLaw", name := "assemble", desc := "(LChainHouse;I[J)I" } : MethodName)),
  (Cond.methodLink "ChainHouseLaw" (7 : Nat) ({ cls := "ChainHouse", name := "assemble", desc := "(I)I" } : MethodName)),
  (Cond.instanceMethod ({ cls := "ChainHouse", name := "assemble", desc := "(I)I" } : MethodName)),
  (Cond.static ({ cls := "ChainHouseLaw", name := "take", desc := "(LChainHouse;I[J)I" } : MethodName)),
  (Cond.methodLink "ChainHouseLaw" (62 : Nat) ({ cls := "ChainHouseLaw", name := "take", desc := "(LChainHouse;I[J)I" } : MethodName)),
  (Cond.methodLink "ChainHouseLaw" (17 : Nat) ({ cls := "ChainHouse", name := "take", desc := "(I)I" } : MethodName)),
  (Cond.instanceMethod ({ cls := "ChainHouse", name := "take", desc := "(I)I" } : MethodName)),
  (Cond.static ({ cls := "ChainHouseLaw", name := "check", desc := "(LChainHouse;I[J)I" } : MethodName)),
  (Cond.methodLink "ChainHouseLaw" (91 : Nat) ({ cls := "ChainHouseLaw", name := "check", desc := "(LChainHouse;I[J)I" } : MethodName)),
  (Cond.methodLink "ChainHouseLaw" (20 : Nat) ({ cls := "ChainHouse", name := "check", desc := "(I)I" } : MethodName)),
  (Cond.instanceMethod ({ cls := "ChainHouse", name := "check", desc := "(I)I" } : MethodName)),
  (Cond.static ({ cls := "ChainHouseLaw", name := "link", desc := "(LChainHouse;IZ[J)I" } : MethodName)),
  (Cond.methodLink "ChainHouseLaw" (98 : Nat) ({ cls := "ChainHouseLaw", name := "link", desc := "(LChainHouse;IZ[J)I" } : MethodName)),
  (Cond.methodLink "ChainHouseLaw" (23 : Nat) ({ cls := "ChainHouse", name := "link", desc := "(IZ)I" } : MethodName)),
  (Cond.instanceMethod ({ cls := "ChainHouse", name := "link", desc := "(IZ)I" } : MethodName)),
  (Cond.static ({ cls := "ChainHouseLaw", name := "where", desc := "(LChainHouse;JJ[J)I" } : MethodName)),
  (Cond.methodLink "ChainHouseLaw" (106 : Nat) ({ cls := "ChainHouseLaw", name := "where", desc := "(LChainHouse;JJ[J)I" } : MethodName)),
  (Cond.methodLink "ChainHouseLaw" (29 : Nat) ({ cls := "ChainHouse", name := "where", desc := "(JJ)I" } : MethodName)),
  (Cond.instanceMethod ({ cls := "ChainHouse", name := "where", desc := "(JJ)I" } : MethodName)),
  (Cond.initialized "ChainHouseLaw"),
  (Cond.lays "ChainHouse$Assembler" "ChainHouse$Assembler" "fault" "I"),
  (Cond.lays "ChainHouse$Assembler" "ChainHouse$Assembler" "place" "I"),
  (Cond.laysFinal "ChainHouse$Assembler" "ChainHouse$Assembler" "scope" "LChainHouse$Scope;"),
  (Cond.lays "ChainHouse$Assembler" "ChainHouse$Assembler" "current" "I"),
  (Cond.lays "ChainHouse$Assembler" "ChainHouse$Assembler" "shorts" "Z"),
  (Cond.lays "ChainHouse$Assembler" "ChainHouse$Assembler" "shrinks" "Z"),
  (Cond.laysFinal "ChainHouse$Assembler" "ChainHouse$Assembler" "pushed" "[I"),
  (Cond.lays "ChainHouse$Assembler" "ChainHouse$Assembler" "pushCount" "I"),
  (Cond.lays "ChainHouse$Assembler" "ChainHouse$Assembler" "kind" "I"),
  (Cond.lays "ChainHouse$Assembler" "ChainHouse$Assembler" "other" "I"),
  (Cond.lays "ChainHouse$Assembler" "ChainHouse$Assembler" "d" "I"),
  (Cond.lays "ChainHouse$Assembler" "ChainHouse$Assembler" "a" "I"),
  (Cond.lays "ChainHouse$Assembler" "ChainHouse$Assembler" "b" "I"),
  (Cond.lays "ChainHouse$Assembler" "ChainHouse$Assembler" "i" "I"),
  (Cond.lays "ChainHouse$Assembler" "ChainHouse$Assembler" "mark" "I"),
  (Cond.lays "ChainHouse$Assembler" "ChainHouse$Assembler" "symbol" "I"),
  (Cond.lays "ChainHouse$Assembler" "ChainHouse$Assembler" "number" "I"),
  (Cond.laysFinal "ChainHouse$Bytes" "ChainHouse$Bytes" "row" "[B"),
  (Cond.lays "ChainHouse$Bytes" "ChainHouse$Bytes" "count" "I"),
  (Cond.laysFinal "ChainHouse$Contents" "ChainHouse$Contents" "bytes" "[LChainHouse$Bytes;"),
  (Cond.lays "ChainHouse$Contents" "ChainHouse$Contents" "bss" "I"),
  (Cond.laysFinal "ChainHouse$Contents" "ChainHouse$Contents" "alignment" "[I"),
  (Cond.laysFinal "ChainHouse$Contents" "ChainHouse$Contents" "starts" "[I"),
  (Cond.lays "ChainHouse$Contents" "ChainHouse$Contents" "startCount" "I"),
  (Cond.laysFinal "ChainHouse$Contents" "ChainHouse$Contents" "names" "[[J"),
  (Cond.laysFinal "ChainHouse$Contents" "ChainHouse$Contents" "symbols" "[[I"),
  (Cond.lays "ChainHouse$Contents" "ChainHouse$Contents" "symbolCount" "I"),
  (Cond.laysFinal "ChainHouse$Contents" "ChainHouse$Contents" "relocations" "[[I"),
  (Cond.lays "ChainHouse$Contents" "ChainHouse$Contents" "relocationCount" "I"),
  (Cond.laysFinal "ChainHouse$Globals" "ChainHouse$Globals" "names" "[[J"),
  (Cond.laysFinal "ChainHouse$Globals" "ChainHouse$Globals" "rows" "[[I"),
  (Cond.laysFinal "ChainHouse$Globals" "ChainHouse$Globals" "of" "[[I"),
  (Cond.lays "ChainHouse$Globals" "ChainHouse$Globals" "count" "I"),
  (Cond.laysFinal "ChainHouse$Image" "ChainHouse$Image" "isThere" "[Z"),
  (Cond.laysFinal "ChainHouse$Image" "ChainHouse$Image" "address" "[I"),
  (Cond.laysFinal "ChainHouse$Image" "ChainHouse$Image" "bytes" "[LChainHouse$Bytes;"),
  (Cond.laysFinal "ChainHouse$Image" "ChainHouse$Image" "more" "[I"),
  (Cond.laysFinal "ChainHouse$Image" "ChainHouse$Image" "marks" "[Z"),
  (Cond.lays "ChainHouse$Image" "ChainHouse$Image" "entry" "I"),
  (Cond.lays "ChainHouse$Image" "ChainHouse$Image" "fault" "I"),
  (Cond.lays "ChainHouse$Image" "ChainHouse$Image" "place" "I"),
  (Cond.lays "ChainHouse$Image" "ChainHouse$Image" "bad" "I"),
  (Cond.lays "ChainHouse$Image" "ChainHouse$Image" "file" "LChainHouse$Bytes;"),
  (Cond.laysFinal "ChainHouse$Image" "ChainHouse$Image" "rowOf" "[I"),
  (Cond.lays "ChainHouse$Image" "ChainHouse$Image" "table" "I"),
  (Cond.lays "ChainHouse$Image" "ChainHouse$Image" "rows" "I"),
  (Cond.laysFinal "ChainHouse$Layout" "ChainHouse$Layout" "parts" "[[I"),
  (Cond.lays "ChainHouse$Layout" "ChainHouse$Layout" "partCount" "I"),
  (Cond.laysFinal "ChainHouse$Layout" "ChainHouse$Layout" "pieces" "[[I"),
  (Cond.lays "ChainHouse$Layout" "ChainHouse$Layout" "pieceCount" "I"),
  (Cond.laysFinal "ChainHouse$Layout" "ChainHouse$Layout" "labels" "[[I"),
  (Cond.lays "ChainHouse$Layout" "ChainHouse$Layout" "labelCount" "I"),
  (Cond.laysFinal "ChainHouse$Layout" "ChainHouse$Layout" "begins" "[I"),
  (Cond.laysFinal "ChainHouse$Layout" "ChainHouse$Layout" "ends" "[I"),
  (Cond.lays "ChainHouse$Linker" "ChainHouse$Linker" "fault" "I"),
  (Cond.lays "ChainHouse$Linker" "ChainHouse$Linker" "unit" "I"),
  (Cond.lays "ChainHouse$Linker" "ChainHouse$Linker" "number" "I"),
  (Cond.lays "ChainHouse$Linker" "ChainHouse$Linker" "fixed" "I"),
  (Cond.lays "ChainHouse$Linker" "ChainHouse$Linker" "saved" "I"),
  (Cond.laysFinal "ChainHouse$Linker" "ChainHouse$Linker" "objects" "[LChainHouse$Contents;"),
  (Cond.laysFinal "ChainHouse$Linker" "ChainHouse$Linker" "units" "[I"),
  (Cond.lays "ChainHouse$Linker" "ChainHouse$Linker" "unitCount" "I"),
  (Cond.lays "ChainHouse$Linker" "ChainHouse$Linker" "shrinks" "Z"),
  (Cond.lays "ChainHouse$Linker" "ChainHouse$Linker" "globals" "LChainHouse$Globals;"),
  (Cond.lays "ChainHouse$Linker" "ChainHouse$Linker" "known" "LChainHouse$Globals;"),
  (Cond.laysFinal "ChainHouse$Linker" "ChainHouse$Linker" "layout" "LChainHouse$Layout;"),
  (Cond.laysFinal "ChainHouse$Linker" "ChainHouse$Linker" "image" "LChainHouse$Image;"),
  (Cond.laysFinal "ChainHouse$Linker" "ChainHouse$Linker" "word" "LChainHouse$Word;"),
  (Cond.laysFinal "ChainHouse$Linker" "ChainHouse$Linker" "own" "[[I"),
  (Cond.laysFinal "ChainHouse$Linker" "ChainHouse$Linker" "eased" "[[I"),
  (Cond.laysFinal "ChainHouse$Linker" "ChainHouse$Linker" "labels" "[[I"),
  (Cond.laysFinal "ChainHouse$Linker" "ChainHouse$Linker" "spots" "[[I"),
  (Cond.laysFinal "ChainHouse$Linker" "ChainHouse$Linker" "order" "[I"),
  (Cond.laysFinal "ChainHouse$Machine" "ChainHouse$Machine" "memory" "[I")]
def zu_w14 : List Cond := [
  (Cond.laysFinal "ChainHouse$Machine" "ChainHouse$Machine" "registers" "[I"),
  (Cond.laysFinal "ChainHouse$Machine" "ChainHouse$Machine" "output" "LChainHouse$Bytes;"),
  (Cond.lays "ChainHouse$Machine" "ChainHouse$Machine" "state" "I"),
  (Cond.lays "ChainHouse$Machine" "ChainHouse$Machine" "culprit" "I"),
  (Cond.lays "ChainHouse$Machine" "ChainHouse$Machine" "value" "I"),
  (Cond.lays "ChainHouse$Machine" "ChainHouse$Machine" "steps" "I"),
  (Cond.lays "ChainHouse$Machine" "ChainHouse$Machine" "units" "I"),
  (Cond.laysFinal "ChainHouse$Machine" "ChainHouse$Machine" "begins" "[I"),
  (Cond.laysFinal "ChainHouse$Machine" "ChainHouse$Machine" "extents" "[I"),
  (Cond.lays "ChainHouse$Machine" "ChainHouse$Machine" "marking" "Z"),
  (Cond.laysFinal "ChainHouse$Machine" "ChainHouse$Machine" "marks" "[Z"),
  (Cond.laysFinal "ChainHouse$Machine" "ChainHouse$Machine" "halts" "[I"),
  (Cond.lays "ChainHouse$Machine" "ChainHouse$Machine" "haltCount" "I"),
  (Cond.laysFinal "ChainHouse$Machine" "ChainHouse$Machine" "input" "LChainHouse$Bytes;"),
  (Cond.lays "ChainHouse$Machine" "ChainHouse$Machine" "taken" "I"),
  (Cond.laysFinal "ChainHouse$Machine" "ChainHouse$Machine" "kept" "[[I"),
  (Cond.lays "ChainHouse$Machine" "ChainHouse$Machine" "keptCount" "I"),
  (Cond.laysFinal "ChainHouse$Machine" "ChainHouse$Machine" "word" "LChainHouse$Word;"),
  (Cond.lays "ChainHouse$ObjectFile" "ChainHouse$ObjectFile" "fault" "I"),
  (Cond.lays "ChainHouse$ObjectFile" "ChainHouse$ObjectFile" "place" "I"),
  (Cond.lays "ChainHouse$ObjectFile" "ChainHouse$ObjectFile" "contents" "LChainHouse$Contents;"),
  (Cond.lays "ChainHouse$ObjectFile" "ChainHouse$ObjectFile" "file" "LChainHouse$Bytes;"),
  (Cond.laysFinal "ChainHouse$ObjectFile" "ChainHouse$ObjectFile" "strings" "LChainHouse$Bytes;"),
  (Cond.laysFinal "ChainHouse$ObjectFile" "ChainHouse$ObjectFile" "entryOf" "[I"),
  (Cond.laysFinal "ChainHouse$ObjectFile" "ChainHouse$ObjectFile" "begins" "[I"),
  (Cond.laysFinal "ChainHouse$ObjectFile" "ChainHouse$ObjectFile" "lengths" "[I"),
  (Cond.laysFinal "ChainHouse$ObjectFile" "ChainHouse$ObjectFile" "nameAt" "[I"),
  (Cond.laysFinal "ChainHouse$ObjectFile" "ChainHouse$ObjectFile" "partOf" "[I"),
  (Cond.lays "ChainHouse$ObjectFile" "ChainHouse$ObjectFile" "entries" "I"),
  (Cond.lays "ChainHouse$ObjectFile" "ChainHouse$ObjectFile" "table" "I"),
  (Cond.lays "ChainHouse$ObjectFile" "ChainHouse$ObjectFile" "symbolCount" "I"),
  (Cond.laysFinal "ChainHouse$ObjectFile" "ChainHouse$ObjectFile" "order" "[I"),
  (Cond.laysFinal "ChainHouse$ObjectFile" "ChainHouse$ObjectFile" "numberOf" "[I"),
  (Cond.laysFinal "ChainHouse$Scope" "ChainHouse$Scope" "source" "LChainHouse$Source;"),
  (Cond.laysFinal "ChainHouse$Scope" "ChainHouse$Scope" "contents" "LChainHouse$Contents;"),
  (Cond.lays "ChainHouse$Scope" "ChainHouse$Scope" "fault" "I"),
  (Cond.lays "ChainHouse$Scope" "ChainHouse$Scope" "place" "I"),
  (Cond.lays "ChainHouse$Scope" "ChainHouse$Scope" "statementPlace" "I"),
  (Cond.lays "ChainHouse$Scope" "ChainHouse$Scope" "section" "I"),
  (Cond.lays "ChainHouse$Scope" "ChainHouse$Scope" "begin" "I"),
  (Cond.lays "ChainHouse$Scope" "ChainHouse$Scope" "here" "I"),
  (Cond.laysFinal "ChainHouse$Scope" "ChainHouse$Scope" "symbolOf" "[I"),
  (Cond.laysFinal "ChainHouse$Scope" "ChainHouse$Scope" "latest" "[I"),
  (Cond.laysFinal "ChainHouse$Scope" "ChainHouse$Scope" "next" "[I"),
  (Cond.laysFinal "ChainHouse$Scope" "ChainHouse$Scope" "nextPlace" "[I"),
  (Cond.lays "ChainHouse$Scope" "ChainHouse$Scope" "hidden" "I"),
  (Cond.laysFinal "ChainHouse$Scope" "ChainHouse$Scope" "stack" "[[I"),
  (Cond.lays "ChainHouse$Scope" "ChainHouse$Scope" "top" "I"),
  (Cond.laysFinal "ChainHouse$Scope" "ChainHouse$Scope" "values" "[[I"),
  (Cond.laysFinal "ChainHouse$Source" "ChainHouse$Source" "names" "[[J"),
  (Cond.laysFinal "ChainHouse$Source" "ChainHouse$Source" "statements" "[[I"),
  (Cond.laysFinal "ChainHouse$Source" "ChainHouse$Source" "operands" "[[I"),
  (Cond.laysFinal "ChainHouse$Source" "ChainHouse$Source" "items" "[[I"),
  (Cond.lays "ChainHouse$Source" "ChainHouse$Source" "nameCount" "I"),
  (Cond.lays "ChainHouse$Source" "ChainHouse$Source" "statementCount" "I"),
  (Cond.lays "ChainHouse$Source" "ChainHouse$Source" "operandCount" "I"),
  (Cond.lays "ChainHouse$Source" "ChainHouse$Source" "fault" "I"),
  (Cond.lays "ChainHouse$Source" "ChainHouse$Source" "place" "I"),
  (Cond.lays "ChainHouse$Source" "ChainHouse$Source" "text" "LChainHouse$Bytes;"),
  (Cond.lays "ChainHouse$Source" "ChainHouse$Source" "itemCount" "I"),
  (Cond.laysFinal "ChainHouse$Source" "ChainHouse$Source" "words" "[[I"),
  (Cond.lays "ChainHouse$Source" "ChainHouse$Source" "wordCount" "I"),
  (Cond.lays "ChainHouse$Source" "ChainHouse$Source" "at" "I"),
  (Cond.laysFinal "ChainHouse$Source" "ChainHouse$Source" "pending" "[I"),
  (Cond.lays "ChainHouse$Source" "ChainHouse$Source" "pendingCount" "I"),
  (Cond.lays "ChainHouse$Source" "ChainHouse$Source" "depth" "I"),
  (Cond.lays "ChainHouse$Source" "ChainHouse$Source" "counted" "I"),
  (Cond.lays "ChainHouse$Word" "ChainHouse$Word" "kind" "I"),
  (Cond.lays "ChainHouse$Word" "ChainHouse$Word" "d" "I"),
  (Cond.lays "ChainHouse$Word" "ChainHouse$Word" "a" "I"),
  (Cond.lays "ChainHouse$Word" "ChainHouse$Word" "b" "I"),
  (Cond.lays "ChainHouse$Word" "ChainHouse$Word" "i" "I"),
  (Cond.laysFinal "ChainHouse" "ChainHouse" "waiting" "[B"),
  (Cond.laysFinal "ChainHouse" "ChainHouse" "text" "LChainHouse$Bytes;"),
  (Cond.laysFinal "ChainHouse" "ChainHouse" "files" "[LChainHouse$Bytes;"),
  (Cond.laysFinal "ChainHouse" "ChainHouse" "image" "LChainHouse$Bytes;"),
  (Cond.laysFinal "ChainHouse" "ChainHouse" "scratch" "LChainHouse$Bytes;"),
  (Cond.laysFinal "ChainHouse" "ChainHouse" "out" "LChainHouse$Bytes;"),
  (Cond.laysFinal "ChainHouse" "ChainHouse" "assembler" "LChainHouse$Assembler;"),
  (Cond.laysFinal "ChainHouse" "ChainHouse" "objectFile" "LChainHouse$ObjectFile;"),
  (Cond.laysFinal "ChainHouse" "ChainHouse" "linker" "LChainHouse$Linker;"),
  (Cond.laysFinal "ChainHouse" "ChainHouse" "loaded" "LChainHouse$Image;"),
  (Cond.laysFinal "ChainHouse" "ChainHouse" "machine" "LChainHouse$Machine;"),
  (Cond.lays "ChainHouse" "ChainHouse" "checked" "LChainHouse$Contents;"),
  (Cond.lays "ChainHouse" "ChainHouse" "spare" "LChainHouse$Contents;"),
  (Cond.lays "ChainHouse" "ChainHouse" "checkPlace" "I"),
  (Cond.lays "ChainHouse" "ChainHouse" "loadPlace" "I"),
  (Cond.lays "ChainHouseModel$CodeWordsModel" "ChainHouseModel$CodeWordsModel" "thrown" "I"),
  (Cond.laysFinal "ChainHouseModel$CodeWordsModel" "ChainHouseModel$CodeWordsModel" "row" "[I"),
  (Cond.laysFinal "ChainHouseModel$CodeWordsModel" "ChainHouseModel$CodeWordsModel" "part" "[I"),
  (Cond.laysFinal "ChainHouseModel$CodeWordsModel" "ChainHouseModel$CodeWordsModel" "out" "[I"),
  (Cond.lays "ChainHouseModel$CodeWordsModel" "ChainHouseModel$CodeWordsModel" "size" "I"),
  (Cond.lays "ChainHouseModel$CodeWordsModel" "ChainHouseModel$CodeWordsModel" "begun" "Z"),
  (Cond.laysFinal "ChainHouseModel$ImageFileModel" "ChainHouseModel$ImageFileModel" "there" "[Z"),
  (Cond.laysFinal "ChainHouseModel$ImageFileModel" "ChainHouseModel$ImageFileModel" "address" "[I"),
  (Cond.laysFinal "ChainHouseModel$ImageFileModel" "ChainHouseModel$ImageFileModel" "more" "[I"),
  (Cond.laysFinal "ChainHouseModel$ImageFileModel" "ChainHouseModel$ImageFileModel" "many" "[I"),
  (Cond.laysFinal "ChainHouseModel$ImageFileModel" "ChainHouseModel$ImageFileModel" "bytes" "[I"),
  (Cond.laysFinal "ChainHouseModel$ImageFileModel" "ChainHouseModel$ImageFileModel" "marks" "[Z"),
  (Cond.laysFinal "ChainHouseModel$ImageFileModel" "ChainHouseModel$ImageFileModel" "entry" "[I")]
def zu_w15 : List Cond := [
  (Cond.laysFinal "ChainHouseModel$ImageFileModel" "ChainHouseModel$ImageFileModel" "page" "[I"),
  (Cond.laysFinal "ChainHouseModel$ImageFileModel" "ChainHouseModel$ImageFileModel" "file" "[I"),
  (Cond.lays "ChainHouseModel$ImageFileModel" "ChainHouseModel$ImageFileModel" "filed" "I"),
  (Cond.lays "ChainHouseModel$ImageFileModel" "ChainHouseModel$ImageFileModel" "place" "I"),
  (Cond.lays "ChainHouseModel$ImageFileModel" "ChainHouseModel$ImageFileModel" "table" "I"),
  (Cond.lays "ChainHouseModel$ImageFileModel" "ChainHouseModel$ImageFileModel" "rows" "I"),
  (Cond.laysFinal "ChainHouseModel$ImageFileModel" "ChainHouseModel$ImageFileModel" "rowOf" "[I"),
  (Cond.laysFinal "ChainHouseModel$ImageFileModel" "ChainHouseModel$ImageFileModel" "begins" "[I"),
  (Cond.lays "ChainHouseModel$ImageFileModel" "ChainHouseModel$ImageFileModel" "sum" "I"),
  (Cond.laysFinal "ChainHouseModel$ObjectFileModel" "ChainHouseModel$ObjectFileModel" "bytes" "[I"),
  (Cond.laysFinal "ChainHouseModel$ObjectFileModel" "ChainHouseModel$ObjectFileModel" "sizes" "[I"),
  (Cond.laysFinal "ChainHouseModel$ObjectFileModel" "ChainHouseModel$ObjectFileModel" "aligns" "[I"),
  (Cond.laysFinal "ChainHouseModel$ObjectFileModel" "ChainHouseModel$ObjectFileModel" "starts" "[I"),
  (Cond.laysFinal "ChainHouseModel$ObjectFileModel" "ChainHouseModel$ObjectFileModel" "startMany" "[I"),
  (Cond.laysFinal "ChainHouseModel$ObjectFileModel" "ChainHouseModel$ObjectFileModel" "where" "[I"),
  (Cond.laysFinal "ChainHouseModel$ObjectFileModel" "ChainHouseModel$ObjectFileModel" "value" "[I"),
  (Cond.laysFinal "ChainHouseModel$ObjectFileModel" "ChainHouseModel$ObjectFileModel" "length" "[I"),
  (Cond.laysFinal "ChainHouseModel$ObjectFileModel" "ChainHouseModel$ObjectFileModel" "bind" "[I"),
  (Cond.laysFinal "ChainHouseModel$ObjectFileModel" "ChainHouseModel$ObjectFileModel" "sort" "[I"),
  (Cond.laysFinal "ChainHouseModel$ObjectFileModel" "ChainHouseModel$ObjectFileModel" "named" "[I"),
  (Cond.laysFinal "ChainHouseModel$ObjectFileModel" "ChainHouseModel$ObjectFileModel" "names" "[I"),
  (Cond.laysFinal "ChainHouseModel$ObjectFileModel" "ChainHouseModel$ObjectFileModel" "symbolMany" "[I"),
  (Cond.laysFinal "ChainHouseModel$ObjectFileModel" "ChainHouseModel$ObjectFileModel" "part" "[I"),
  (Cond.laysFinal "ChainHouseModel$ObjectFileModel" "ChainHouseModel$ObjectFileModel" "spot" "[I"),
  (Cond.laysFinal "ChainHouseModel$ObjectFileModel" "ChainHouseModel$ObjectFileModel" "kind" "[I"),
  (Cond.laysFinal "ChainHouseModel$ObjectFileModel" "ChainHouseModel$ObjectFileModel" "target" "[I"),
  (Cond.laysFinal "ChainHouseModel$ObjectFileModel" "ChainHouseModel$ObjectFileModel" "addend" "[I"),
  (Cond.laysFinal "ChainHouseModel$ObjectFileModel" "ChainHouseModel$ObjectFileModel" "relocationMany" "[I"),
  (Cond.laysFinal "ChainHouseModel$ObjectFileModel" "ChainHouseModel$ObjectFileModel" "draft" "[I"),
  (Cond.lays "ChainHouseModel$ObjectFileModel" "ChainHouseModel$ObjectFileModel" "drafted" "I"),
  (Cond.laysFinal "ChainHouseModel$ObjectFileModel" "ChainHouseModel$ObjectFileModel" "file" "[I"),
  (Cond.lays "ChainHouseModel$ObjectFileModel" "ChainHouseModel$ObjectFileModel" "filed" "I"),
  (Cond.lays "ChainHouseModel$ObjectFileModel" "ChainHouseModel$ObjectFileModel" "place" "I"),
  (Cond.laysFinal "ChainHouseModel$ObjectFileModel" "ChainHouseModel$ObjectFileModel" "titles" "[I"),
  (Cond.laysFinal "ChainHouseModel$ObjectFileModel" "ChainHouseModel$ObjectFileModel" "titleAt" "[I"),
  (Cond.laysFinal "ChainHouseModel$ObjectFileModel" "ChainHouseModel$ObjectFileModel" "begins" "[I"),
  (Cond.laysFinal "ChainHouseModel$ObjectFileModel" "ChainHouseModel$ObjectFileModel" "many" "[I"),
  (Cond.laysFinal "ChainHouseModel$ObjectFileModel" "ChainHouseModel$ObjectFileModel" "entry" "[I"),
  (Cond.laysFinal "ChainHouseModel$ObjectFileModel" "ChainHouseModel$ObjectFileModel" "strings" "[I"),
  (Cond.lays "ChainHouseModel$ObjectFileModel" "ChainHouseModel$ObjectFileModel" "stringMany" "I"),
  (Cond.laysFinal "ChainHouseModel$ObjectFileModel" "ChainHouseModel$ObjectFileModel" "word" "[I"),
  (Cond.lays "ChainHouseModel$ObjectFileModel" "ChainHouseModel$ObjectFileModel" "wordMany" "I"),
  (Cond.laysFinal "ChainHouseModel$ObjectFileModel" "ChainHouseModel$ObjectFileModel" "stringAt" "[I"),
  (Cond.laysFinal "ChainHouseModel$ObjectFileModel" "ChainHouseModel$ObjectFileModel" "turn" "[I"),
  (Cond.laysFinal "ChainHouseModel$ObjectFileModel" "ChainHouseModel$ObjectFileModel" "titlePlace" "[I"),
  (Cond.lays "ChainHouseModel$ObjectFileModel" "ChainHouseModel$ObjectFileModel" "headMany" "I"),
  (Cond.laysFinal "ChainHouseModel$ObjectFileModel" "ChainHouseModel$ObjectFileModel" "entryOf" "[I"),
  (Cond.laysFinal "ChainHouseModel$ObjectFileModel" "ChainHouseModel$ObjectFileModel" "nameOf" "[I"),
  (Cond.lays "ChainHouseModel$ObjectFileModel" "ChainHouseModel$ObjectFileModel" "table" "I"),
  (Cond.lays "ChainHouseModel$ObjectFileModel" "ChainHouseModel$ObjectFileModel" "entries" "I"),
  (Cond.lays "ChainHouseModel$ShrinkLayoutModel" "ChainHouseModel$ShrinkLayoutModel" "base" "I"),
  (Cond.laysFinal "ChainHouseModel$ShrinkLayoutModel" "ChainHouseModel$ShrinkLayoutModel" "outputAlign" "[I"),
  (Cond.laysFinal "ChainHouseModel$ShrinkLayoutModel" "ChainHouseModel$ShrinkLayoutModel" "outputBegin" "[I"),
  (Cond.laysFinal "ChainHouseModel$ShrinkLayoutModel" "ChainHouseModel$ShrinkLayoutModel" "outputEnd" "[I"),
  (Cond.lays "ChainHouseModel$ShrinkLayoutModel" "ChainHouseModel$ShrinkLayoutModel" "parts" "I"),
  (Cond.laysFinal "ChainHouseModel$ShrinkLayoutModel" "ChainHouseModel$ShrinkLayoutModel" "output" "[I"),
  (Cond.laysFinal "ChainHouseModel$ShrinkLayoutModel" "ChainHouseModel$ShrinkLayoutModel" "align" "[I"),
  (Cond.laysFinal "ChainHouseModel$ShrinkLayoutModel" "ChainHouseModel$ShrinkLayoutModel" "isRoot" "[Z"),
  (Cond.laysFinal "ChainHouseModel$ShrinkLayoutModel" "ChainHouseModel$ShrinkLayoutModel" "gone" "[Z"),
  (Cond.laysFinal "ChainHouseModel$ShrinkLayoutModel" "ChainHouseModel$ShrinkLayoutModel" "met" "[Z"),
  (Cond.laysFinal "ChainHouseModel$ShrinkLayoutModel" "ChainHouseModel$ShrinkLayoutModel" "partBegin" "[I"),
  (Cond.laysFinal "ChainHouseModel$ShrinkLayoutModel" "ChainHouseModel$ShrinkLayoutModel" "partEnd" "[I"),
  (Cond.lays "ChainHouseModel$ShrinkLayoutModel" "ChainHouseModel$ShrinkLayoutModel" "pieces" "I"),
  (Cond.laysFinal "ChainHouseModel$ShrinkLayoutModel" "ChainHouseModel$ShrinkLayoutModel" "sort" "[I"),
  (Cond.laysFinal "ChainHouseModel$ShrinkLayoutModel" "ChainHouseModel$ShrinkLayoutModel" "partOf" "[I"),
  (Cond.laysFinal "ChainHouseModel$ShrinkLayoutModel" "ChainHouseModel$ShrinkLayoutModel" "size" "[I"),
  (Cond.laysFinal "ChainHouseModel$ShrinkLayoutModel" "ChainHouseModel$ShrinkLayoutModel" "most" "[I"),
  (Cond.laysFinal "ChainHouseModel$ShrinkLayoutModel" "ChainHouseModel$ShrinkLayoutModel" "power" "[I"),
  (Cond.laysFinal "ChainHouseModel$ShrinkLayoutModel" "ChainHouseModel$ShrinkLayoutModel" "labelOf" "[I"),
  (Cond.laysFinal "ChainHouseModel$ShrinkLayoutModel" "ChainHouseModel$ShrinkLayoutModel" "constant" "[I"),
  (Cond.laysFinal "ChainHouseModel$ShrinkLayoutModel" "ChainHouseModel$ShrinkLayoutModel" "two" "[Z"),
  (Cond.laysFinal "ChainHouseModel$ShrinkLayoutModel" "ChainHouseModel$ShrinkLayoutModel" "fixed" "[Z"),
  (Cond.laysFinal "ChainHouseModel$ShrinkLayoutModel" "ChainHouseModel$ShrinkLayoutModel" "place" "[I"),
  (Cond.laysFinal "ChainHouseModel$ShrinkLayoutModel" "ChainHouseModel$ShrinkLayoutModel" "lack" "[I"),
  (Cond.laysFinal "ChainHouseModel$ShrinkLayoutModel" "ChainHouseModel$ShrinkLayoutModel" "least" "[I"),
  (Cond.lays "ChainHouseModel$ShrinkLayoutModel" "ChainHouseModel$ShrinkLayoutModel" "labels" "I"),
  (Cond.laysFinal "ChainHouseModel$ShrinkLayoutModel" "ChainHouseModel$ShrinkLayoutModel" "pieceOf" "[I"),
  (Cond.laysFinal "ChainHouseModel$ShrinkLayoutModel" "ChainHouseModel$ShrinkLayoutModel" "spot" "[I"),
  (Cond.laysFinal "ChainHouseModel$StepMachineModel" "ChainHouseModel$StepMachineModel" "row" "[I"),
  (Cond.laysFinal "ChainHouseModel$StepMachineModel" "ChainHouseModel$StepMachineModel" "part" "[I"),
  (Cond.laysFinal "ChainHouseModel$StepMachineModel" "ChainHouseModel$StepMachineModel" "memory" "[I"),
  (Cond.laysFinal "ChainHouseModel$StepMachineModel" "ChainHouseModel$StepMachineModel" "marked" "[Z"),
  (Cond.laysFinal "ChainHouseModel$StepMachineModel" "ChainHouseModel$StepMachineModel" "segmentFrom" "[I"),
  (Cond.laysFinal "ChainHouseModel$StepMachineModel" "ChainHouseModel$StepMachineModel" "segmentSize" "[I"),
  (Cond.laysFinal "ChainHouseModel$StepMachineModel" "ChainHouseModel$StepMachineModel" "segmentRights" "[I"),
  (Cond.lays "ChainHouseModel$StepMachineModel" "ChainHouseModel$StepMachineModel" "marking" "Z"),
  (Cond.laysFinal "ChainHouseModel$StepMachineModel" "ChainHouseModel$StepMachineModel" "halts" "[I"),
  (Cond.lays "ChainHouseModel$StepMachineModel" "ChainHouseModel$StepMachineModel" "haltCount" "I"),
  (Cond.laysFinal "ChainHouseModel$StepMachineModel" "ChainHouseModel$StepMachineModel" "register" "[I"),
  (Cond.lays "ChainHouseModel$StepMachineModel" "ChainHouseModel$StepMachineModel" "pc" "I"),
  (Cond.laysFinal "ChainHouseModel$StepMachineModel" "ChainHouseModel$StepMachineModel" "input" "[I"),
  (Cond.lays "ChainHouseModel$StepMachineModel" "ChainHouseModel$StepMachineModel" "inputSize" "I"),
  (Cond.lays "ChainHouseModel$StepMachineModel" "ChainHouseModel$StepMachineModel" "taken" "I"),
  (Cond.laysFinal "ChainHouseModel$StepMachineModel" "ChainHouseModel$StepMachineModel" "output" "[I"),
  (Cond.lays "ChainHouseModel$StepMachineModel" "ChainHouseModel$StepMachineModel" "outputSize" "I"),
  (Cond.lays "ChainHouseModel$StepMachineModel" "ChainHouseModel$StepMachineModel" "state" "I"),
  (Cond.lays "ChainHouseModel$StepMachineModel" "ChainHouseModel$StepMachineModel" "culprit" "I"),
  (Cond.lays "ChainHouseModel$StepMachineModel" "ChainHouseModel$StepMachineModel" "value" "I"),
  (Cond.lays "ChainHouseModel$StepMachineModel" "ChainHouseModel$StepMachineModel" "steps" "I"),
  (Cond.lays "ChainHouseModel$StepMachineModel" "ChainHouseModel$StepMachineModel" "units" "I")]
def zu_w16 : List Cond := [
  (Cond.laysFinal "ChainHouseModel$StepMachineModel" "ChainHouseModel$StepMachineModel" "kept" "[I"),
  (Cond.lays "ChainHouseModel$StepMachineModel" "ChainHouseModel$StepMachineModel" "keptCount" "I"),
  (Cond.lays "ChainHouseModel$StepMachineModel" "ChainHouseModel$StepMachineModel" "keptNext" "I"),
  (Cond.lays "ChainHouseModel$StepMachineModel" "ChainHouseModel$StepMachineModel" "bytes" "I"),
  (Cond.lays "ChainHouseModel$StepMachineModel" "ChainHouseModel$StepMachineModel" "kind" "I"),
  (Cond.lays "ChainHouseModel$StepMachineModel" "ChainHouseModel$StepMachineModel" "target" "I"),
  (Cond.lays "ChainHouseModel$StepMachineModel" "ChainHouseModel$StepMachineModel" "jumps" "Z"),
  (Cond.lays "ChainHouseModel$UnitTextModel" "ChainHouseModel$UnitTextModel" "thrown" "I"),
  (Cond.laysFinal "ChainHouseModel$UnitTextModel" "ChainHouseModel$UnitTextModel" "waiting" "[I"),
  (Cond.laysFinal "ChainHouseModel$UnitTextModel" "ChainHouseModel$UnitTextModel" "text" "[I"),
  (Cond.lays "ChainHouseModel$UnitTextModel" "ChainHouseModel$UnitTextModel" "size" "I"),
  (Cond.laysFinal "ChainHouseModel$UnitTextModel" "ChainHouseModel$UnitTextModel" "many" "[I"),
  (Cond.laysFinal "ChainHouseModel$UnitTextModel" "ChainHouseModel$UnitTextModel" "statement" "[I"),
  (Cond.laysFinal "ChainHouseModel$UnitTextModel" "ChainHouseModel$UnitTextModel" "operand" "[I"),
  (Cond.laysFinal "ChainHouseModel$UnitTextModel" "ChainHouseModel$UnitTextModel" "item" "[I"),
  (Cond.laysFinal "ChainHouseModel$UnitTextModel" "ChainHouseModel$UnitTextModel" "name" "[I"),
  (Cond.laysFinal "ChainHouseModel$UnitTextModel" "ChainHouseModel$UnitTextModel" "nameSize" "[I"),
  (Cond.laysFinal "ChainHouseModel$UnitTextModel" "ChainHouseModel$UnitTextModel" "letters" "[I"),
  (Cond.lays "ChainHouseModel$UnitTextModel" "ChainHouseModel$UnitTextModel" "lettersNow" "I"),
  (Cond.lays "ChainHouseModel$UnitTextModel" "ChainHouseModel$UnitTextModel" "lettersSize" "I"),
  (Cond.lays "ChainHouseModel$UnitTextModel" "ChainHouseModel$UnitTextModel" "faultNumber" "I"),
  (Cond.lays "ChainHouseModel$UnitTextModel" "ChainHouseModel$UnitTextModel" "faultPlace" "I"),
  (Cond.lays "ChainHouseModel$UnitTextModel" "ChainHouseModel$UnitTextModel" "sort" "I"),
  (Cond.lays "ChainHouseModel$UnitTextModel" "ChainHouseModel$UnitTextModel" "value" "I"),
  (Cond.lays "ChainHouseModel$UnitTextModel" "ChainHouseModel$UnitTextModel" "from" "I"),
  (Cond.lays "ChainHouseModel$UnitTextModel" "ChainHouseModel$UnitTextModel" "to" "I"),
  (Cond.lays "ChainHouseModel$UnitTextModel" "ChainHouseModel$UnitTextModel" "line" "I"),
  (Cond.lays "ChainHouseModel$UnitTextModel" "ChainHouseModel$UnitTextModel" "fault" "I"),
  (Cond.lays "ChainHouseModel$UnitTextModel" "ChainHouseModel$UnitTextModel" "place" "I"),
  (Cond.laysFinal "ChainHouseModel$UnitTextModel" "ChainHouseModel$UnitTextModel" "sign" "[I"),
  (Cond.lays "ChainHouseModel$UnitTextModel" "ChainHouseModel$UnitTextModel" "signs" "I"),
  (Cond.lays "ChainHouseModel$UnitTextModel" "ChainHouseModel$UnitTextModel" "counted" "I"),
  (Cond.lays "ChainHouseModel$UnitTextModel" "ChainHouseModel$UnitTextModel" "countedHere" "I"),
  (Cond.lays "ChainHouseModel$UnitTextModel" "ChainHouseModel$UnitTextModel" "deep" "I"),
  (Cond.lays "ChainHouseModel$UnitTextModel" "ChainHouseModel$UnitTextModel" "open" "I"),
  (Cond.laysFinal "ChainHouseModel$UnitTextModel" "ChainHouseModel$UnitTextModel" "out" "[I"),
  (Cond.lays "ChainHouseModel$UnitTextModel" "ChainHouseModel$UnitTextModel" "outSize" "I"),
  (Cond.laysFinal "ChainHouseModel$UnitTextModel" "ChainHouseModel$UnitTextModel" "begin" "[I"),
  (Cond.laysFinal "ChainHouseModel$UnitTextModel" "ChainHouseModel$UnitTextModel" "task" "[I"),
  (Cond.laysFinal "ChainHouseModel$UnitTextModel" "ChainHouseModel$UnitTextModel" "stack" "[I"),
  (Cond.laysFinal "ChainHouseModel$UnitTextModel" "ChainHouseModel$UnitTextModel" "spare" "[I"),
  (Cond.laysFinal "ChainHouseModel$UnitTextModel" "ChainHouseModel$UnitTextModel" "operandText" "[I"),
  (Cond.lays "ChainHouseModel$UnitTextModel" "ChainHouseModel$UnitTextModel" "tasks" "I"),
  (Cond.laysFinal "ChainHouseModel" "ChainHouseModel" "files" "[I"),
  (Cond.laysFinal "ChainHouseModel" "ChainHouseModel" "fileSize" "[I"),
  (Cond.laysFinal "ChainHouseModel" "ChainHouseModel" "imageFile" "[I"),
  (Cond.lays "ChainHouseModel" "ChainHouseModel" "imageSize" "I"),
  (Cond.lays "ChainHouseModel" "ChainHouseModel" "thrown" "I"),
  (Cond.laysFinal "ChainHouseModel" "ChainHouseModel" "words" "LChainHouseModel$CodeWordsModel;"),
  (Cond.laysFinal "ChainHouseModel" "ChainHouseModel" "texts" "LChainHouseModel$UnitTextModel;"),
  (Cond.laysFinal "ChainHouseModel" "ChainHouseModel" "objects" "LChainHouseModel$ObjectFileModel;"),
  (Cond.laysFinal "ChainHouseModel" "ChainHouseModel" "checked" "LChainHouseModel$ObjectFileModel;"),
  (Cond.laysFinal "ChainHouseModel" "ChainHouseModel" "layout" "LChainHouseModel$ShrinkLayoutModel;"),
  (Cond.laysFinal "ChainHouseModel" "ChainHouseModel" "images" "LChainHouseModel$ImageFileModel;"),
  (Cond.laysFinal "ChainHouseModel" "ChainHouseModel" "machine" "LChainHouseModel$StepMachineModel;"),
  (Cond.lays "ChainHouseModel" "ChainHouseModel" "symbols" "I"),
  (Cond.laysFinal "ChainHouseModel" "ChainHouseModel" "symbolName" "[I"),
  (Cond.laysFinal "ChainHouseModel" "ChainHouseModel" "symbolWhere" "[I"),
  (Cond.laysFinal "ChainHouseModel" "ChainHouseModel" "symbolValue" "[I"),
  (Cond.laysFinal "ChainHouseModel" "ChainHouseModel" "symbolSize" "[I"),
  (Cond.laysFinal "ChainHouseModel" "ChainHouseModel" "symbolBind" "[I"),
  (Cond.laysFinal "ChainHouseModel" "ChainHouseModel" "symbolOf" "[I"),
  (Cond.lays "ChainHouseModel" "ChainHouseModel" "hidden" "I"),
  (Cond.laysFinal "ChainHouseModel" "ChainHouseModel" "behindDigit" "[I"),
  (Cond.laysFinal "ChainHouseModel" "ChainHouseModel" "aheadDigit" "[I"),
  (Cond.laysFinal "ChainHouseModel" "ChainHouseModel" "aheadPlace" "[I"),
  (Cond.laysFinal "ChainHouseModel" "ChainHouseModel" "bytes" "[I"),
  (Cond.laysFinal "ChainHouseModel" "ChainHouseModel" "sizes" "[I"),
  (Cond.laysFinal "ChainHouseModel" "ChainHouseModel" "aligns" "[I"),
  (Cond.lays "ChainHouseModel" "ChainHouseModel" "starts" "I"),
  (Cond.laysFinal "ChainHouseModel" "ChainHouseModel" "start" "[I"),
  (Cond.lays "ChainHouseModel" "ChainHouseModel" "moves" "I"),
  (Cond.laysFinal "ChainHouseModel" "ChainHouseModel" "moveSection" "[I"),
  (Cond.laysFinal "ChainHouseModel" "ChainHouseModel" "movePlace" "[I"),
  (Cond.laysFinal "ChainHouseModel" "ChainHouseModel" "moveKind" "[I"),
  (Cond.laysFinal "ChainHouseModel" "ChainHouseModel" "moveSymbol" "[I"),
  (Cond.laysFinal "ChainHouseModel" "ChainHouseModel" "moveAddend" "[I"),
  (Cond.lays "ChainHouseModel" "ChainHouseModel" "current" "I"),
  (Cond.lays "ChainHouseModel" "ChainHouseModel" "shorts" "Z"),
  (Cond.lays "ChainHouseModel" "ChainHouseModel" "shrinks" "Z"),
  (Cond.lays "ChainHouseModel" "ChainHouseModel" "pushed" "I"),
  (Cond.laysFinal "ChainHouseModel" "ChainHouseModel" "keptShorts" "[Z"),
  (Cond.laysFinal "ChainHouseModel" "ChainHouseModel" "keptShrinks" "[Z"),
  (Cond.lays "ChainHouseModel" "ChainHouseModel" "faultNumber" "I"),
  (Cond.lays "ChainHouseModel" "ChainHouseModel" "faultPlace" "I"),
  (Cond.lays "ChainHouseModel" "ChainHouseModel" "fault" "I"),
  (Cond.lays "ChainHouseModel" "ChainHouseModel" "place" "I"),
  (Cond.lays "ChainHouseModel" "ChainHouseModel" "here" "I"),
  (Cond.lays "ChainHouseModel" "ChainHouseModel" "first" "I"),
  (Cond.lays "ChainHouseModel" "ChainHouseModel" "many" "I"),
  (Cond.lays "ChainHouseModel" "ChainHouseModel" "beginning" "I"),
  (Cond.lays "ChainHouseModel" "ChainHouseModel" "hereSymbol" "I"),
  (Cond.laysFinal "ChainHouseModel" "ChainHouseModel" "number" "[I"),
  (Cond.laysFinal "ChainHouseModel" "ChainHouseModel" "added" "[I"),
  (Cond.laysFinal "ChainHouseModel" "ChainHouseModel" "takenOff" "[I"),
  (Cond.lays "ChainHouseModel" "ChainHouseModel" "number0" "I"),
  (Cond.lays "ChainHouseModel" "ChainHouseModel" "added0" "I"),
  (Cond.lays "ChainHouseModel" "ChainHouseModel" "takenOff0" "I"),
  (Cond.laysFinal "ChainHouseModel" "ChainHouseModel" "rowNumber" "[I"),
  (Cond.laysFinal "ChainHouseModel" "ChainHouseModel" "rowAdded" "[I")]
def zu_w17 : List Cond := [
  (Cond.laysFinal "ChainHouseModel" "ChainHouseModel" "rowOff" "[I"),
  (Cond.laysFinal "ChainHouseModel" "ChainHouseModel" "has" "[I"),
  (Cond.lays "ChainHouseModel" "ChainHouseModel" "moved" "I"),
  (Cond.lays "ChainHouseModel" "ChainHouseModel" "movedSymbol" "I"),
  (Cond.lays "ChainHouseModel" "ChainHouseModel" "movedAddend" "I"),
  (Cond.laysFinal "ChainHouseModel" "ChainHouseModel" "unitBytes" "[I"),
  (Cond.laysFinal "ChainHouseModel" "ChainHouseModel" "unitSize" "[I"),
  (Cond.laysFinal "ChainHouseModel" "ChainHouseModel" "unitAlign" "[I"),
  (Cond.laysFinal "ChainHouseModel" "ChainHouseModel" "unitStart" "[I"),
  (Cond.laysFinal "ChainHouseModel" "ChainHouseModel" "unitStarts" "[I"),
  (Cond.laysFinal "ChainHouseModel" "ChainHouseModel" "unitShort" "[Z"),
  (Cond.laysFinal "ChainHouseModel" "ChainHouseModel" "unitSymbols" "[I"),
  (Cond.laysFinal "ChainHouseModel" "ChainHouseModel" "where" "[I"),
  (Cond.laysFinal "ChainHouseModel" "ChainHouseModel" "value" "[I"),
  (Cond.laysFinal "ChainHouseModel" "ChainHouseModel" "length" "[I"),
  (Cond.laysFinal "ChainHouseModel" "ChainHouseModel" "bind" "[I"),
  (Cond.laysFinal "ChainHouseModel" "ChainHouseModel" "nameSize" "[I"),
  (Cond.laysFinal "ChainHouseModel" "ChainHouseModel" "name" "[I"),
  (Cond.laysFinal "ChainHouseModel" "ChainHouseModel" "unitMoves" "[I"),
  (Cond.laysFinal "ChainHouseModel" "ChainHouseModel" "section" "[I"),
  (Cond.laysFinal "ChainHouseModel" "ChainHouseModel" "spot" "[I"),
  (Cond.laysFinal "ChainHouseModel" "ChainHouseModel" "kind" "[I"),
  (Cond.laysFinal "ChainHouseModel" "ChainHouseModel" "target" "[I"),
  (Cond.laysFinal "ChainHouseModel" "ChainHouseModel" "addend" "[I"),
  (Cond.lays "ChainHouseModel" "ChainHouseModel" "globals" "I"),
  (Cond.laysFinal "ChainHouseModel" "ChainHouseModel" "globalOf" "[I"),
  (Cond.laysFinal "ChainHouseModel" "ChainHouseModel" "globalFirst" "[I"),
  (Cond.laysFinal "ChainHouseModel" "ChainHouseModel" "globalHow" "[I"),
  (Cond.laysFinal "ChainHouseModel" "ChainHouseModel" "globalSymbol" "[I"),
  (Cond.laysFinal "ChainHouseModel" "ChainHouseModel" "globalSize" "[I"),
  (Cond.laysFinal "ChainHouseModel" "ChainHouseModel" "globalAlign" "[I"),
  (Cond.laysFinal "ChainHouseModel" "ChainHouseModel" "globalPart" "[I"),
  (Cond.laysFinal "ChainHouseModel" "ChainHouseModel" "globalRule" "[I"),
  (Cond.laysFinal "ChainHouseModel" "ChainHouseModel" "pieceFrom" "[I"),
  (Cond.laysFinal "ChainHouseModel" "ChainHouseModel" "pieceBytes" "[I"),
  (Cond.laysFinal "ChainHouseModel" "ChainHouseModel" "pieceMove" "[I"),
  (Cond.laysFinal "ChainHouseModel" "ChainHouseModel" "partFirst" "[I"),
  (Cond.laysFinal "ChainHouseModel" "ChainHouseModel" "partMany" "[I"),
  (Cond.laysFinal "ChainHouseModel" "ChainHouseModel" "partOf" "[I"),
  (Cond.laysFinal "ChainHouseModel" "ChainHouseModel" "ownPiece" "[I"),
  (Cond.laysFinal "ChainHouseModel" "ChainHouseModel" "labelOf" "[I"),
  (Cond.laysFinal "ChainHouseModel" "ChainHouseModel" "outBytes" "[I"),
  (Cond.lays "ChainHouseModel" "ChainHouseModel" "linkFault" "I"),
  (Cond.lays "ChainHouseModel" "ChainHouseModel" "linkUnit" "I"),
  (Cond.lays "ChainHouseModel" "ChainHouseModel" "linkNumber" "I"),
  (Cond.lays "ChainHouseModel" "ChainHouseModel" "fixedPieces" "I"),
  (Cond.lays "ChainHouseModel" "ChainHouseModel" "savedBytes" "I"),
  (Cond.lays "ChainHouseModel" "ChainHouseModel" "fixedNow" "I"),
  (Cond.lays "ChainHouseModel" "ChainHouseModel" "savedNow" "I"),
  (Cond.lays "ChainHouseModel" "ChainHouseModel" "shrinking" "Z"),
  (Cond.lays "ChainHouseModel" "ChainHouseModel" "set" "I"),
  (Cond.lays "ChainHouseModel" "ChainHouseModel" "pointer" "I"),
  (Cond.lays "ChainHouseModel" "ChainHouseModel" "told" "I"),
  (Cond.laysFinal "ChainHouseModel" "ChainHouseModel" "toldSize" "[I"),
  (Cond.laysFinal "ChainHouseModel" "ChainHouseModel" "toldName" "[I"),
  (Cond.laysFinal "ChainHouseModel" "ChainHouseModel" "toldValue" "[I"),
  (Cond.lays "ChainHouseModel" "ChainHouseModel" "unit" "I"),
  (Cond.lays "ChainHouseModel" "ChainHouseModel" "own" "I"),
  (Cond.lays "ChainHouseModel" "ChainHouseModel" "at" "I"),
  (Cond.lays "ChainHouseModel" "ChainHouseModel" "from" "J"),
  (Cond.laysFinal "ChainHouseModel" "ChainHouseModel" "asked" "[I"),
  (Cond.lays "ChainHouseModel" "ChainHouseModel" "loadPlace" "I")]
def zu_ws : List Cond := zu_w0 ++ (zu_w1 ++ (zu_w2 ++ (zu_w3 ++ (zu_w4 ++ (zu_w5 ++ (zu_w6 ++ (zu_w7 ++ (zu_w8 ++ (zu_w9 ++ (zu_w10 ++ (zu_w11 ++ (zu_w12 ++ (zu_w13 ++ (zu_w14 ++ (zu_w15 ++ (zu_w16 ++ (zu_w17)))))))))))))))))
def zu_ns : List Cond := [
  (Cond.methodLinkNest "ChainHouse$Scope" (11 : Nat) ({ cls := "ChainHouse$Source", name := "<init>", desc := "()V" } : MethodName) "ChainHouse"),
  (Cond.methodLinkNest "ChainHouse$Assembler" (17 : Nat) ({ cls := "ChainHouse$Scope", name := "<init>", desc := "()V" } : MethodName) "ChainHouse"),
  (Cond.methodLinkNest "ChainHouse$Linker" (30 : Nat) ({ cls := "ChainHouse$Globals", name := "<init>", desc := "()V" } : MethodName) "ChainHouse"),
  (Cond.methodLinkNest "ChainHouse$Linker" (40 : Nat) ({ cls := "ChainHouse$Layout", name := "<init>", desc := "()V" } : MethodName) "ChainHouse"),
  (Cond.methodLinkNest "ChainHouse$Linker" (54 : Nat) ({ cls := "ChainHouse$Word", name := "<init>", desc := "()V" } : MethodName) "ChainHouse"),
  (Cond.methodLinkNest "ChainHouse$Machine" (53 : Nat) ({ cls := "ChainHouse$Word", name := "<init>", desc := "()V" } : MethodName) "ChainHouse"),
  (Cond.methodLinkNest "ChainHouse" (37 : Nat) ({ cls := "ChainHouse$Assembler", name := "<init>", desc := "()V" } : MethodName) "ChainHouse"),
  (Cond.methodLinkNest "ChainHouse" (44 : Nat) ({ cls := "ChainHouse$ObjectFile", name := "<init>", desc := "()V" } : MethodName) "ChainHouse"),
  (Cond.methodLinkNest "ChainHouse" (65 : Nat) ({ cls := "ChainHouse$Machine", name := "<init>", desc := "()V" } : MethodName) "ChainHouse"),
  (Cond.fieldLinkNest "ChainHouseModel" (761 : Nat) "ChainHouseModel$ObjectFileModel" "sizes" "[I" "ChainHouseModel"),
  (Cond.fieldLinkNest "ChainHouseModel" (762 : Nat) "ChainHouseModel$ObjectFileModel" "aligns" "[I" "ChainHouseModel"),
  (Cond.fieldLinkNest "ChainHouseModel" (296 : Nat) "ChainHouseModel$UnitTextModel" "size" "I" "ChainHouseModel"),
  (Cond.fieldLinkNest "ChainHouseModel" (314 : Nat) "ChainHouseModel$ObjectFileModel" "file" "[I" "ChainHouseModel"),
  (Cond.fieldLinkNest "ChainHouseModel" (311 : Nat) "ChainHouseModel$ObjectFileModel" "filed" "I" "ChainHouseModel"),
  (Cond.fieldLinkNest "ChainHouseModel" (1147 : Nat) "ChainHouseModel$ImageFileModel" "filed" "I" "ChainHouseModel"),
  (Cond.fieldLinkNest "ChainHouseModel" (1159 : Nat) "ChainHouseModel$StepMachineModel" "memory" "[I" "ChainHouseModel")]
noncomputable def zu_T : List zx_X := [(300000, 14, ".half .word", [("ChainHouse$Word", 140)]), (300001, 15, ".text .rodata .data .bss .starts .rela.text .rela.rodata .rela.data .symtab .strtab .shstrtab", [("ChainHouse$ObjectFile", 175)])]
noncomputable def ze0 {α : Type} : zx_T0 α := ()
noncomputable def ze1 {α : Type} : zx_T1 α := none
noncomputable def zb1 {α : Type} (a : Option α) (t0 t1 t2 t3 : zx_T0 α) : zx_T1 α := some (a, (t0, t1), (t2, t3))
noncomputable def zbl1 {α : Type} (a : α) : zx_T1 α := some (some a, (ze0, ze0), (ze0, ze0))
noncomputable def ze2 {α : Type} : zx_T2 α := none
noncomputable def zb2 {α : Type} (a : Option α) (t0 t1 t2 t3 : zx_T1 α) : zx_T2 α := some (a, (t0, t1), (t2, t3))
noncomputable def zbl2 {α : Type} (a : α) : zx_T2 α := some (some a, (ze1, ze1), (ze1, ze1))
noncomputable def ze3 {α : Type} : zx_T3 α := none
noncomputable def zb3 {α : Type} (a : Option α) (t0 t1 t2 t3 : zx_T2 α) : zx_T3 α := some (a, (t0, t1), (t2, t3))
noncomputable def zbl3 {α : Type} (a : α) : zx_T3 α := some (some a, (ze2, ze2), (ze2, ze2))
noncomputable def ze4 {α : Type} : zx_T4 α := none
noncomputable def zb4 {α : Type} (a : Option α) (t0 t1 t2 t3 : zx_T3 α) : zx_T4 α := some (a, (t0, t1), (t2, t3))
noncomputable def zbl4 {α : Type} (a : α) : zx_T4 α := some (some a, (ze3, ze3), (ze3, ze3))
noncomputable def ze5 {α : Type} : zx_T5 α := none
noncomputable def zb5 {α : Type} (a : Option α) (t0 t1 t2 t3 : zx_T4 α) : zx_T5 α := some (a, (t0, t1), (t2, t3))
noncomputable def zbl5 {α : Type} (a : α) : zx_T5 α := some (some a, (ze4, ze4), (ze4, ze4))
noncomputable def ze6 {α : Type} : zx_T6 α := none
noncomputable def zb6 {α : Type} (a : Option α) (t0 t1 t2 t3 : zx_T5 α) : zx_T6 α := some (a, (t0, t1), (t2, t3))
noncomputable def zbl6 {α : Type} (a : α) : zx_T6 α := some (some a, (ze5, ze5), (ze5, ze5))
noncomputable def ze7 {α : Type} : zx_T7 α := none
noncomputable def zb7 {α : Type} (a : Option α) (t0 t1 t2 t3 : zx_T6 α) : zx_T7 α := some (a, (t0, t1), (t2, t3))
noncomputable def zbl7 {α : Type} (a : α) : zx_T7 α := some (some a, (ze6, ze6), (ze6, ze6))
noncomputable def ze8 {α : Type} : zx_T8 α := none
noncomputable def zb8 {α : Type} (a : Option α) (t0 t1 t2 t3 : zx_T7 α) : zx_T8 α := some (a, (t0, t1), (t2, t3))
noncomputable def zbl8 {α : Type} (a : α) : zx_T8 α := some (some a, (ze7, ze7), (ze7, ze7))
noncomputable def ze9 {α : Type} : zx_T9 α := none
noncomputable def zb9 {α : Type} (a : Option α) (t0 t1 t2 t3 : zx_T8 α) : zx_T9 α := some (a, (t0, t1), (t2, t3))
noncomputable def zbl9 {α : Type} (a : α) : zx_T9 α := some (some a, (ze8, ze8), (ze8, ze8))
noncomputable def ze10 {α : Type} : zx_T10 α := none
noncomputable def zb10 {α : Type} (a : Option α) (t0 t1 t2 t3 : zx_T9 α) : zx_T10 α := some (a, (t0, t1), (t2, t3))
noncomputable def zbl10 {α : Type} (a : α) : zx_T10 α := some (some a, (ze9, ze9), (ze9, ze9))
noncomputable def zu_o0 : zx_W := (0, 16, .int 0, (zb10 (some (.int (nI 127))) (zb9 (some (.int (nI 69))) (zbl8 (.int (nI 1))) (zbl8 (.int (nI 0))) (zbl8 (.int (nI 0))) ze8) (zb9 (some (.int (nI 76))) (zbl8 (.int (nI 1))) (zbl8 (.int (nI 0))) (zbl8 (.int (nI 0))) ze8) (zb9 (some (.int (nI 70))) (zbl8 (.int (nI 0))) (zbl8 (.int (nI 0))) (zbl8 (.int (nI 0))) ze8) (zb9 (some (.int (nI 1))) (zbl8 (.int (nI 0))) (zbl8 (.int (nI 0))) ze8 ze8)))
noncomputable def zu_o1 : zx_W := (0, 11, .int 0, (zb10 (some (.int (nI 1))) (zb9 (some (.int (nI 1))) (zbl8 (.int (nI 4))) (zbl8 (.int (nI 1))) ze8 ze8) (zb9 (some (.int (nI 1))) (zbl8 (.int (nI 4))) (zbl8 (.int (nI 1))) ze8 ze8) (zb9 (some (.int (nI 1))) (zbl8 (.int (nI 4))) ze8 ze8 ze8) (zb9 (some (.int (nI 2))) (zbl8 (.int (nI 4))) ze8 ze8 ze8)))
noncomputable def zu_o2 : zx_W := (0, 11, .int 0, (zb10 (some (.int (nI 0))) (zb9 (some (.int (nI 0))) (zbl8 (.int (nI 12))) (zbl8 (.int (nI 0))) ze8 ze8) (zb9 (some (.int (nI 0))) (zbl8 (.int (nI 12))) (zbl8 (.int (nI 0))) ze8 ze8) (zb9 (some (.int (nI 0))) (zbl8 (.int (nI 12))) ze8 ze8 ze8) (zb9 (some (.int (nI 2))) (zbl8 (.int (nI 16))) ze8 ze8 ze8)))
noncomputable def zu_o3 : zx_W := (0, 11, .int 0, (zb10 (some (.int (nI 6))) (zb9 (some (.int (nI 2))) (zbl8 (.int (nI 64))) (zbl8 (.int (nI 0))) ze8 ze8) (zb9 (some (.int (nI 3))) (zbl8 (.int (nI 64))) (zbl8 (.int (nI 0))) ze8 ze8) (zb9 (some (.int (nI 3))) (zbl8 (.int (nI 64))) ze8 ze8 ze8) (zb9 (some (.int (nI 0))) (zbl8 (.int (nI 0))) ze8 ze8 ze8)))
noncomputable def zu_o4 : zx_W := (0, 11, .int 0, (zb10 (some (.int (nI 1))) (zb9 (some (.int (nI 1))) (zbl8 (.int (nI 4))) (zbl8 (.int (nI 3))) ze8 ze8) (zb9 (some (.int (nI 1))) (zbl8 (.int (nI 4))) (zbl8 (.int (nI 3))) ze8 ze8) (zb9 (some (.int (nI 8))) (zbl8 (.int (nI 4))) ze8 ze8 ze8) (zb9 (some (.int (nI 1))) (zbl8 (.int (nI 2))) ze8 ze8 ze8)))
noncomputable def zu_o5 : zx_W := (0, 26, .int 0, (zb10 (some (.int (nI 4294967295))) (zb9 (some (.int (nI 4294967295))) (zb8 (some (.int (nI 15))) (zbl7 (.int (nI 4294967295))) ze7 ze7 ze7) (zb8 (some (.int (nI 71))) (zbl7 (.int (nI 4294967295))) ze7 ze7 ze7) (zbl8 (.int (nI 4294967295))) (zbl8 (.int (nI 4294967295)))) (zb9 (some (.int (nI 15))) (zb8 (some (.int (nI 15))) (zbl7 (.int (nI 4294967295))) ze7 ze7 ze7) (zbl8 (.int (nI 71))) (zbl8 (.int (nI 4294967295))) (zbl8 (.int (nI 4294967295)))) (zb9 (some (.int (nI 15))) (zb8 (some (.int (nI 4294967295))) (zbl7 (.int (nI 39))) ze7 ze7 ze7) (zbl8 (.int (nI 4294967295))) (zbl8 (.int (nI 4294967295))) (zbl8 (.int (nI 4294967295)))) (zb9 (some (.int (nI 15))) (zb8 (some (.int (nI 4294967295))) (zbl7 (.int (nI 4294967295))) ze7 ze7 ze7) (zbl8 (.int (nI 4294967295))) (zbl8 (.int (nI 4294967295))) (zbl8 (.int (nI 71))))))
noncomputable def zu_o6 : zx_W := (0, 26, .int 0, (zb10 (some (.int (nI 4294967295))) (zb9 (some (.int (nI 4294967295))) (zb8 (some (.int (nI 4294967295))) (zbl7 (.int (nI 4294967295))) ze7 ze7 ze7) (zb8 (some (.int (nI 4294967295))) (zbl7 (.int (nI 2))) ze7 ze7 ze7) (zbl8 (.int (nI 4294967295))) (zbl8 (.int (nI 4294967295)))) (zb9 (some (.int (nI 4294967295))) (zb8 (some (.int (nI 20))) (zbl7 (.int (nI 4294967295))) ze7 ze7 ze7) (zbl8 (.int (nI 66))) (zbl8 (.int (nI 4294967295))) (zbl8 (.int (nI 4294967295)))) (zb9 (some (.int (nI 20))) (zb8 (some (.int (nI 4294967295))) (zbl7 (.int (nI 4294967295))) ze7 ze7 ze7) (zbl8 (.int (nI 4294967295))) (zbl8 (.int (nI 4294967295))) (zbl8 (.int (nI 66)))) (zb9 (some (.int (nI 20))) (zb8 (some (.int (nI 4294967295))) (zbl7 (.int (nI 34))) ze7 ze7 ze7) (zbl8 (.int (nI 4294967295))) (zbl8 (.int (nI 4294967295))) (zbl8 (.int (nI 4294967295))))))
noncomputable def zu_o7 : zx_W := (0, 26, .int 0, (zb10 (some (.int (nI 7))) (zb9 (some (.int (nI 7))) (zb8 (some (.int (nI 7))) (zbl7 (.int (nI 39))) ze7 ze7 ze7) (zb8 (some (.int (nI 66))) (zbl7 (.int (nI 4294967295))) ze7 ze7 ze7) (zbl8 (.int (nI 4294967295))) (zbl8 (.int (nI 71)))) (zb9 (some (.int (nI 7))) (zb8 (some (.int (nI 7))) (zbl7 (.int (nI 39))) ze7 ze7 ze7) (zbl8 (.int (nI 4294967295))) (zbl8 (.int (nI 39))) (zbl8 (.int (nI 71)))) (zb9 (some (.int (nI 4294967295))) (zb8 (some (.int (nI 4294967295))) (zbl7 (.int (nI 4294967295))) ze7 ze7 ze7) (zbl8 (.int (nI 4294967295))) (zbl8 (.int (nI 4294967295))) (zbl8 (.int (nI 71)))) (zb9 (some (.int (nI 4294967295))) (zb8 (some (.int (nI 66))) (zbl7 (.int (nI 39))) ze7 ze7 ze7) (zbl8 (.int (nI 39))) (zbl8 (.int (nI 39))) (zbl8 (.int (nI 4294967295))))))
noncomputable def zu_o8 : zx_W := (0, 75, .int 0, (zb10 (some (.int (nI 0))) (zb9 (some (.int (nI 0))) (zb8 (some (.int (nI 3))) (zbl7 (.int (nI 2))) (zbl7 (.int (nI 6))) (zbl7 (.int (nI 13))) (zbl7 (.int (nI 23)))) (zb8 (some (.int (nI 3))) (zbl7 (.int (nI 5))) (zbl7 (.int (nI 6))) (zbl7 (.int (nI 17))) (zbl7 (.int (nI 24)))) (zb8 (some (.int (nI 2))) (zbl7 (.int (nI 6))) (zbl7 (.int (nI 7))) (zbl7 (.int (nI 19))) ze7) (zb8 (some (.int (nI 4))) (zbl7 (.int (nI 6))) (zbl7 (.int (nI 9))) (zbl7 (.int (nI 20))) ze7)) (zb9 (some (.int (nI 1))) (zb8 (some (.int (nI 3))) (zbl7 (.int (nI 2))) (zbl7 (.int (nI 6))) (zbl7 (.int (nI 14))) (zbl7 (.int (nI 24)))) (zb8 (some (.int (nI 2))) (zbl7 (.int (nI 5))) (zbl7 (.int (nI 6))) (zbl7 (.int (nI 17))) (zbl7 (.int (nI 25)))) (zb8 (some (.int (nI 2))) (zbl7 (.int (nI 6))) (zbl7 (.int (nI 7))) (zbl7 (.int (nI 19))) ze7) (zb8 (some (.int (nI 2))) (zbl7 (.int (nI 6))) (zbl7 (.int (nI 10))) (zbl7 (.int (nI 20))) ze7)) (zb9 (some (.int (nI 2))) (zb8 (some (.int (nI 3))) (zbl7 (.int (nI 2))) (zbl7 (.int (nI 6))) (zbl7 (.int (nI 15))) (zbl7 (.int (nI 11)))) (zb8 (some (.int (nI 2))) (zbl7 (.int (nI 6))) (zbl7 (.int (nI 6))) (zbl7 (.int (nI 18))) ze7) (zb8 (some (.int (nI 4))) (zbl7 (.int (nI 6))) (zbl7 (.int (nI 7))) (zbl7 (.int (nI 19))) ze7) (zb8 (some (.int (nI 2))) (zbl7 (.int (nI 6))) (zbl7 (.int (nI 11))) (zbl7 (.int (nI 21))) ze7)) (zb9 (some (.int (nI 3))) (zb8 (some (.int (nI 3))) (zbl7 (.int (nI 5))) (zbl7 (.int (nI 6))) (zbl7 (.int (nI 16))) (zbl7 (.int (nI 23)))) (zb8 (some (.int (nI 2))) (zbl7 (.int (nI 6))) (zbl7 (.int (nI 6))) (zbl7 (.int (nI 19))) ze7) (zb8 (some (.int (nI 4))) (zbl7 (.int (nI 6))) (zbl7 (.int (nI 8))) (zbl7 (.int (nI 13))) ze7) (zb8 (some (.int (nI 2))) (zbl7 (.int (nI 6))) (zbl7 (.int (nI 12))) (zbl7 (.int (nI 22))) ze7))))
noncomputable def zu_o9 : zx_W := (0, 26, .int 0, (zb10 (some (.int (nI 0))) (zb9 (some (.int (nI 4293918720))) (zb8 (some (.int (nI 0))) (zbl7 (.int (nI 1))) ze7 ze7 ze7) (zb8 (some (.int (nI 0))) (zbl7 (.int (nI 0))) ze7 ze7 ze7) (zbl8 (.int (nI 4294965248))) (zbl8 (.int (nI 1)))) (zb9 (some (.int (nI 4294965248))) (zb8 (some (.int (nI 0))) (zbl7 (.int (nI 0))) ze7 ze7 ze7) (zbl8 (.int (nI 0))) (zbl8 (.int (nI 4294967264))) (zbl8 (.int (nI 4294967264)))) (zb9 (some (.int (nI 4294963200))) (zb8 (some (.int (nI 0))) (zbl7 (.int (nI 0))) ze7 ze7 ze7) (zbl8 (.int (nI 0))) (zbl8 (.int (nI 4294966784))) (zbl8 (.int (nI 0)))) (zb9 (some (.int (nI 4294965248))) (zb8 (some (.int (nI 4))) (zbl7 (.int (nI 0))) ze7 ze7 ze7) (zbl8 (.int (nI 4294967264))) (zbl8 (.int (nI 4294967264))) (zbl8 (.int (nI 4294967040))))))
noncomputable def zu_o10 : zx_W := (0, 26, .int 0, (zb10 (some (.int (nI 127))) (zb9 (some (.int (nI 127))) (zb8 (some (.int (nI 4261441663))) (zbl7 (.int (nI 61443))) ze7 ze7 ze7) (zb8 (some (.int (nI 57347))) (zbl7 (.int (nI 57347))) ze7 ze7 ze7) (zbl8 (.int (nI 57347))) (zbl8 (.int (nI 64515)))) (zb9 (some (.int (nI 28799))) (zb8 (some (.int (nI 4261441663))) (zbl7 (.int (nI 57347))) ze7 ze7 ze7) (zbl8 (.int (nI 57347))) (zbl8 (.int (nI 57347))) (zbl8 (.int (nI 60419)))) (zb9 (some (.int (nI 28799))) (zb8 (some (.int (nI 4294967295))) (zbl7 (.int (nI 61567))) ze7 ze7 ze7) (zbl8 (.int (nI 65535))) (zbl8 (.int (nI 61315))) (zbl8 (.int (nI 64611)))) (zb9 (some (.int (nI 28799))) (zb8 (some (.int (nI 57347))) (zbl7 (.int (nI 61443))) ze7 ze7 ze7) (zbl8 (.int (nI 57347))) (zbl8 (.int (nI 57347))) (zbl8 (.int (nI 57347))))))
noncomputable def zu_o11 : zx_W := (0, 75, .int 0, (zb10 (some (.int (nI 55))) (zb9 (some (.int (nI 23))) (zb8 (some (.int (nI 4195))) (zbl7 (.int (nI 16403))) (zbl7 (.int (nI 33554483))) (zbl7 (.int (nI 8193))) (zbl7 (.int (nI 32770)))) (zb8 (some (.int (nI 28771))) (zbl7 (.int (nI 20499))) (zbl7 (.int (nI 33570867))) (zbl7 (.int (nI 32769))) (zbl7 (.int (nI 36866)))) (zb8 (some (.int (nI 16387))) (zbl7 (.int (nI 4147))) (zbl7 (.int (nI 267386895))) (zbl7 (.int (nI 35873))) ze7) (zb8 (some (.int (nI 8227))) (zbl7 (.int (nI 20531))) (zbl7 (.int (nI 16384))) (zbl7 (.int (nI 49153))) ze7)) (zb9 (some (.int (nI 111))) (zb8 (some (.int (nI 16483))) (zbl7 (.int (nI 24595))) (zbl7 (.int (nI 33558579))) (zbl7 (.int (nI 16385))) (zbl7 (.int (nI 32770)))) (zb8 (some (.int (nI 3))) (zbl7 (.int (nI 1073762323))) (zbl7 (.int (nI 33574963))) (zbl7 (.int (nI 33793))) (zbl7 (.int (nI 49154)))) (zb8 (some (.int (nI 20483))) (zbl7 (.int (nI 8243))) (zbl7 (.int (nI 115))) (zbl7 (.int (nI 35905))) ze7) (zb8 (some (.int (nI 19))) (zbl7 (.int (nI 1073762355))) (zbl7 (.int (nI 49152))) (zbl7 (.int (nI 57345))) ze7)) (zb9 (some (.int (nI 103))) (zb8 (some (.int (nI 20579))) (zbl7 (.int (nI 28691))) (zbl7 (.int (nI 33562675))) (zbl7 (.int (nI 24833))) (zbl7 (.int (nI 36866)))) (zb8 (some (.int (nI 4099))) (zbl7 (.int (nI 51))) (zbl7 (.int (nI 33579059))) (zbl7 (.int (nI 34817))) ze7) (zb8 (some (.int (nI 35))) (zbl7 (.int (nI 12339))) (zbl7 (.int (nI 1048691))) (zbl7 (.int (nI 35937))) ze7) (zb8 (some (.int (nI 8211))) (zbl7 (.int (nI 24627))) (zbl7 (.int (nI 1))) (zbl7 (.int (nI 2))) ze7)) (zb9 (some (.int (nI 99))) (zb8 (some (.int (nI 24675))) (zbl7 (.int (nI 4115))) (zbl7 (.int (nI 33566771))) (zbl7 (.int (nI 24577))) (zbl7 (.int (nI 36866)))) (zb8 (some (.int (nI 8195))) (zbl7 (.int (nI 1073741875))) (zbl7 (.int (nI 33583155))) (zbl7 (.int (nI 35841))) ze7) (zb8 (some (.int (nI 4131))) (zbl7 (.int (nI 16435))) (zbl7 (.int (nI 0))) (zbl7 (.int (nI 40961))) ze7) (zb8 (some (.int (nI 12307))) (zbl7 (.int (nI 28723))) (zbl7 (.int (nI 1))) (zbl7 (.int (nI 16386))) ze7))))
noncomputable def zu_o12 : zx_W := (0, 168, .int 0, (zb10 (some (.int (nI 0))) (zb9 (some (.int (nI 12))) (zb8 (some (.int (nI 1))) (zb7 (some (.int (nI 5))) (zbl6 (.int (nI 8))) (zbl6 (.int (nI 1))) ze6 ze6) (zb7 (some (.int (nI 20))) (zbl6 (.int (nI 1))) (zbl6 (.int (nI 6))) ze6 ze6) (zb7 (some (.int (nI 3))) (zbl6 (.int (nI 5))) ze6 ze6 ze6) (zb7 (some (.int (nI 5))) (zbl6 (.int (nI 2))) ze6 ze6 ze6)) (zb8 (some (.int (nI 11))) (zb7 (some (.int (nI 8))) (zbl6 (.int (nI 1))) (zbl6 (.int (nI 5))) ze6 ze6) (zb7 (some (.int (nI 2))) (zbl6 (.int (nI 9))) ze6 ze6 ze6) (zb7 (some (.int (nI 6))) (zbl6 (.int (nI 12))) ze6 ze6 ze6) (zb7 (some (.int (nI 2))) (zbl6 (.int (nI 1))) ze6 ze6 ze6)) (zb8 (some (.int (nI 12))) (zb7 (some (.int (nI 1))) (zbl6 (.int (nI 1))) (zbl6 (.int (nI 4))) ze6 ze6) (zb7 (some (.int (nI 2))) (zbl6 (.int (nI 6))) ze6 ze6 ze6) (zb7 (some (.int (nI 10))) (zbl6 (.int (nI 5))) ze6 ze6 ze6) (zb7 (some (.int (nI 1))) (zbl6 (.int (nI 6))) ze6 ze6 ze6)) (zb8 (some (.int (nI 12))) (zb7 (some (.int (nI 0))) (zbl6 (.int (nI 2))) (zbl6 (.int (nI 2))) ze6 ze6) (zb7 (some (.int (nI 5))) (zbl6 (.int (nI 1))) ze6 ze6 ze6) (zb7 (some (.int (nI 1))) (zbl6 (.int (nI 5))) ze6 ze6 ze6) (zb7 (some (.int (nI 8))) (zbl6 (.int (nI 3))) ze6 ze6 ze6))) (zb9 (some (.int (nI 20))) (zb8 (some (.int (nI 1))) (zb7 (some (.int (nI 25))) (zbl6 (.int (nI 1))) (zbl6 (.int (nI 0))) ze6 ze6) (zb7 (some (.int (nI 5))) (zbl6 (.int (nI 0))) (zbl6 (.int (nI 7))) ze6 ze6) (zb7 (some (.int (nI 2))) (zbl6 (.int (nI 2))) ze6 ze6 ze6) (zb7 (some (.int (nI 12))) (zbl6 (.int (nI 5))) ze6 ze6 ze6)) (zb8 (some (.int (nI 20))) (zb7 (some (.int (nI 4))) (zbl6 (.int (nI 7))) (zbl6 (.int (nI 12))) ze6 ze6) (zb7 (some (.int (nI 6))) (zbl6 (.int (nI 12))) ze6 ze6 ze6) (zb7 (some (.int (nI 5))) (zbl6 (.int (nI 1))) ze6 ze6 ze6) (zb7 (some (.int (nI 5))) (zbl6 (.int (nI 3))) ze6 ze6 ze6)) (zb8 (some (.int (nI 8))) (zb7 (some (.int (nI 5))) (zbl6 (.int (nI 3))) (zbl6 (.int (nI 3))) ze6 ze6) (zb7 (some (.int (nI 6))) (zbl6 (.int (nI 1))) ze6 ze6 ze6) (zb7 (some (.int (nI 3))) (zbl6 (.int (nI 0))) ze6 ze6 ze6) (zb7 (some (.int (nI 4))) (zbl6 (.int (nI 5))) ze6 ze6 ze6)) (zb8 (some (.int (nI 12))) (zb7 (some (.int (nI 7))) (zbl6 (.int (nI 1))) (zbl6 (.int (nI 2))) ze6 ze6) (zb7 (some (.int (nI 1))) (zbl6 (.int (nI 7))) ze6 ze6 ze6) (zb7 (some (.int (nI 6))) (zbl6 (.int (nI 12))) ze6 ze6 ze6) (zb7 (some (.int (nI 9))) (zbl6 (.int (nI 2))) ze6 ze6 ze6))) (zb9 (some (.int (nI 20))) (zb8 (some (.int (nI 21))) (zb7 (some (.int (nI 6))) (zbl6 (.int (nI 6))) (zbl6 (.int (nI 2))) ze6 ze6) (zb7 (some (.int (nI 4))) (zbl6 (.int (nI 2))) (zbl6 (.int (nI 2))) ze6 ze6) (zb7 (some (.int (nI 6))) (zbl6 (.int (nI 1))) ze6 ze6 ze6) (zb7 (some (.int (nI 1))) (zbl6 (.int (nI 8))) ze6 ze6 ze6)) (zb8 (some (.int (nI 1))) (zb7 (some (.int (nI 11))) (zbl6 (.int (nI 6))) (zbl6 (.int (nI 1))) ze6 ze6) (zb7 (some (.int (nI 7))) (zbl6 (.int (nI 1))) ze6 ze6 ze6) (zb7 (some (.int (nI 1))) (zbl6 (.int (nI 0))) ze6 ze6 ze6) (zb7 (some (.int (nI 11))) (zbl6 (.int (nI 10))) ze6 ze6 ze6)) (zb8 (some (.int (nI 0))) (zb7 (some (.int (nI 25))) (zbl6 (.int (nI 3))) (zbl6 (.int (nI 6))) ze6 ze6) (zb7 (some (.int (nI 1))) (zbl6 (.int (nI 6))) ze6 ze6 ze6) (zb7 (some (.int (nI 2))) (zbl6 (.int (nI 2))) ze6 ze6 ze6) (zb7 (some (.int (nI 11))) (zbl6 (.int (nI 2))) ze6 ze6 ze6)) (zb8 (some (.int (nI 31))) (zb7 (some (.int (nI 5))) (zbl6 (.int (nI 5))) (zbl6 (.int (nI 9))) ze6 ze6) (zb7 (some (.int (nI 3))) (zbl6 (.int (nI 3))) ze6 ze6 ze6) (zb7 (some (.int (nI 5))) (zbl6 (.int (nI 1))) ze6 ze6 ze6) (zb7 (some (.int (nI 2))) (zbl6 (.int (nI 5))) ze6 ze6 ze6))) (zb9 (some (.int (nI 31))) (zb8 (some (.int (nI 10))) (zb7 (some (.int (nI 1))) (zbl6 (.int (nI 7))) (zbl6 (.int (nI 5))) ze6 ze6) (zb7 (some (.int (nI 11))) (zbl6 (.int (nI 5))) ze6 ze6 ze6) (zb7 (some (.int (nI 1))) (zbl6 (.int (nI 5))) ze6 ze6 ze6) (zb7 (some (.int (nI 0))) (zbl6 (.int (nI 12))) ze6 ze6 ze6)) (zb8 (some (.int (nI 12))) (zb7 (some (.int (nI 7))) (zbl6 (.int (nI 1))) (zbl6 (.int (nI 2))) ze6 ze6) (zb7 (some (.int (nI 4))) (zbl6 (.int (nI 4))) ze6 ze6 ze6) (zb7 (some (.int (nI 3))) (zbl6 (.int (nI 2))) ze6 ze6 ze6) (zb7 (some (.int (nI 12))) (zbl6 (.int (nI 2))) ze6 ze6 ze6)) (zb8 (some (.int (nI 20))) (zb7 (some (.int (nI 7))) (zbl6 (.int (nI 5))) (zbl6 (.int (nI 2))) ze6 ze6) (zb7 (some (.int (nI 3))) (zbl6 (.int (nI 5))) ze6 ze6 ze6) (zb7 (some (.int (nI 6))) (zbl6 (.int (nI 5))) ze6 ze6 ze6) (zb7 (some (.int (nI 1))) (zbl6 (.int (nI 1))) ze6 ze6 ze6)) (zb8 (some (.int (nI 1))) (zb7 (some (.int (nI 0))) (zbl6 (.int (nI 12))) (zbl6 (.int (nI 4))) ze6 ze6) (zb7 (some (.int (nI 10))) (zbl6 (.int (nI 2))) ze6 ze6 ze6) (zb7 (some (.int (nI 1))) (zbl6 (.int (nI 0))) ze6 ze6 ze6) (zb7 (some (.int (nI 10))) (zbl6 (.int (nI 2))) ze6 ze6 ze6)))))
noncomputable def zu_o13 : zx_W := (0, 27, .int 0, (zb10 (some (.int (nI 0))) (zb9 (some (.int (nI 1))) (zb8 (some (.int (nI 12))) (zbl7 (.int (nI 50))) ze7 ze7 ze7) (zb8 (some (.int (nI 17))) (zbl7 (.int (nI 54))) ze7 ze7 ze7) (zbl8 (.int (nI 25))) (zbl8 (.int (nI 42)))) (zb9 (some (.int (nI 5))) (zb8 (some (.int (nI 13))) (zbl7 (.int (nI 51))) ze7 ze7 ze7) (zb8 (some (.int (nI 20))) (zbl7 (.int (nI 56))) ze7 ze7 ze7) (zbl8 (.int (nI 33))) (zbl8 (.int (nI 43)))) (zb9 (some (.int (nI 6))) (zb8 (some (.int (nI 13))) (zbl7 (.int (nI 54))) ze7 ze7 ze7) (zbl8 (.int (nI 23))) (zbl8 (.int (nI 35))) (zbl8 (.int (nI 45)))) (zb9 (some (.int (nI 10))) (zb8 (some (.int (nI 13))) (zbl7 (.int (nI 54))) ze7 ze7 ze7) (zbl8 (.int (nI 23))) (zbl8 (.int (nI 40))) (zbl8 (.int (nI 45))))))
noncomputable def zu_o14 : zx_W := (2, 11, .int 0, (zb10 (some (.int (nI 46))) (zb9 (some (.int (nI 104))) (zbl8 (.int (nI 32))) (zbl8 (.int (nI 114))) ze8 ze8) (zb9 (some (.int (nI 97))) (zbl8 (.int (nI 46))) (zbl8 (.int (nI 100))) ze8 ze8) (zb9 (some (.int (nI 108))) (zbl8 (.int (nI 119))) ze8 ze8 ze8) (zb9 (some (.int (nI 102))) (zbl8 (.int (nI 111))) ze8 ze8 ze8)))
noncomputable def zu_o15 : zx_W := (2, 93, .int 0, (zb10 (some (.int (nI 46))) (zb9 (some (.int (nI 116))) (zb8 (some (.int (nI 32))) (zb7 (some (.int (nI 98))) (zbl6 (.int (nI 115))) ze6 ze6 ze6) (zbl7 (.int (nI 97))) (zbl7 (.int (nI 97))) (zbl7 (.int (nI 115)))) (zb8 (some (.int (nI 100))) (zb7 (some (.int (nI 46))) (zbl6 (.int (nI 114))) ze6 ze6 ze6) (zbl7 (.int (nI 120))) (zbl7 (.int (nI 46))) (zbl7 (.int (nI 97)))) (zb8 (some (.int (nI 32))) (zbl7 (.int (nI 114))) (zbl7 (.int (nI 114))) (zbl7 (.int (nI 97))) (zbl7 (.int (nI 115)))) (zb8 (some (.int (nI 116))) (zbl7 (.int (nI 46))) (zbl7 (.int (nI 46))) (zbl7 (.int (nI 116))) (zbl7 (.int (nI 97))))) (zb9 (some (.int (nI 101))) (zb8 (some (.int (nI 46))) (zb7 (some (.int (nI 115))) (zbl6 (.int (nI 104))) ze6 ze6 ze6) (zbl7 (.int (nI 46))) (zbl7 (.int (nI 116))) (zbl7 (.int (nI 121)))) (zb8 (some (.int (nI 97))) (zb7 (some (.int (nI 115))) (zbl6 (.int (nI 116))) ze6 ze6 ze6) (zbl7 (.int (nI 116))) (zbl7 (.int (nI 114))) (zbl7 (.int (nI 98)))) (zb8 (some (.int (nI 46))) (zbl7 (.int (nI 116))) (zbl7 (.int (nI 101))) (zbl7 (.int (nI 46))) (zbl7 (.int (nI 116)))) (zb8 (some (.int (nI 97))) (zbl7 (.int (nI 114))) (zbl7 (.int (nI 114))) (zbl7 (.int (nI 97))) (zbl7 (.int (nI 98))))) (zb9 (some (.int (nI 120))) (zb8 (some (.int (nI 114))) (zb7 (some (.int (nI 115))) (zbl6 (.int (nI 115))) ze6 ze6 ze6) (zbl7 (.int (nI 116))) (zbl7 (.int (nI 97))) (zbl7 (.int (nI 109)))) (zb8 (some (.int (nI 116))) (zb7 (some (.int (nI 116))) (zbl6 (.int (nI 97))) ze6 ze6 ze6) (zbl7 (.int (nI 32))) (zbl7 (.int (nI 101))) (zbl7 (.int (nI 32)))) (zb8 (some (.int (nI 100))) (zbl7 (.int (nI 115))) (zbl7 (.int (nI 108))) (zbl7 (.int (nI 100))) (zbl7 (.int (nI 114)))) (zb8 (some (.int (nI 32))) (zbl7 (.int (nI 101))) (zbl7 (.int (nI 111))) (zbl7 (.int (nI 32))) (zbl7 (.int (nI 32))))) (zb9 (some (.int (nI 116))) (zb8 (some (.int (nI 111))) (zb7 (some (.int (nI 32))) (zbl6 (.int (nI 116))) ze6 ze6 ze6) (zbl7 (.int (nI 101))) (zbl7 (.int (nI 32))) (zbl7 (.int (nI 116)))) (zb8 (some (.int (nI 97))) (zb7 (some (.int (nI 97))) (zbl6 (.int (nI 98))) ze6 ze6 ze6) (zbl7 (.int (nI 46))) (zbl7 (.int (nI 108))) (zbl7 (.int (nI 46)))) (zb8 (some (.int (nI 97))) (zbl7 (.int (nI 32))) (zbl7 (.int (nI 97))) (zbl7 (.int (nI 97))) (zbl7 (.int (nI 116)))) (zb8 (some (.int (nI 46))) (zbl7 (.int (nI 108))) (zbl7 (.int (nI 100))) (zbl7 (.int (nI 46))) (zbl7 (.int (nI 46)))))))
noncomputable def zu_O : List zx_W := [zu_o0, zu_o1, zu_o2, zu_o3, zu_o4, zu_o5, zu_o6, zu_o7, zu_o8, zu_o9, zu_o10, zu_o11, zu_o12, zu_o13, zu_o14, zu_o15]
noncomputable def zu_OL (L : zx_W) : List zx_W := zu_O ++ [L]
