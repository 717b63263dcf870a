/-! Names: written by program. -/
def rn_M : String := "CircuitCyclesModel"
def fn_M : u_T := fun k => match k with
  | 0 => ("CircuitCyclesModel", "thrown", "I", false)
  | 1 => ("CircuitCyclesModel", "tape", "[B", true)
  | 2 => ("CircuitCyclesModel", "size", "I", false)
  | 3 => ("CircuitCyclesModel", "fault", "I", false)
  | 4 => ("CircuitCyclesModel", "kinds", "[I", true)
  | 5 => ("CircuitCyclesModel", "begins", "[I", true)
  | 6 => ("CircuitCyclesModel", "ends", "[I", true)
  | 7 => ("CircuitCyclesModel", "tokens", "I", false)
  | 8 => ("CircuitCyclesModel", "t", "I", false)
  | 9 => ("CircuitCyclesModel", "wrong", "I", false)
  | 10 => ("CircuitCyclesModel", "wrongAt", "I", false)
  | 11 => ("CircuitCyclesModel", "deep", "I", false)
  | 12 => ("CircuitCyclesModel", "modules", "I", false)
  | 13 => ("CircuitCyclesModel", "moduleName", "[I", true)
  | 14 => ("CircuitCyclesModel", "firstSignal", "[I", true)
  | 15 => ("CircuitCyclesModel", "firstInstance", "[I", true)
  | 16 => ("CircuitCyclesModel", "firstAssert", "[I", true)
  | 17 => ("CircuitCyclesModel", "firstAlways", "[I", true)
  | 18 => ("CircuitCyclesModel", "locals", "I", false)
  | 19 => ("CircuitCyclesModel", "localName", "[I", true)
  | 20 => ("CircuitCyclesModel", "localWidth", "[I", true)
  | 21 => ("CircuitCyclesModel", "localKind", "[I", true)
  | 22 => ("CircuitCyclesModel", "localFirst", "[J", true)
  | 23 => ("CircuitCyclesModel", "driverKind", "[I", true)
  | 24 => ("CircuitCyclesModel", "driverFrom", "[I", true)
  | 25 => ("CircuitCyclesModel", "driverTo", "[I", true)
  | 26 => ("CircuitCyclesModel", "setIn", "[I", true)
  | 27 => ("CircuitCyclesModel", "items", "I", false)
  | 28 => ("CircuitCyclesModel", "itemModule", "[I", true)
  | 29 => ("CircuitCyclesModel", "itemName", "[I", true)
  | 30 => ("CircuitCyclesModel", "firstLink", "[I", true)
  | 31 => ("CircuitCyclesModel", "links", "I", false)
  | 32 => ("CircuitCyclesModel", "linkPort", "[I", true)
  | 33 => ("CircuitCyclesModel", "linkFrom", "[I", true)
  | 34 => ("CircuitCyclesModel", "linkTo", "[I", true)
  | 35 => ("CircuitCyclesModel", "asserts", "I", false)
  | 36 => ("CircuitCyclesModel", "assertFrom", "[I", true)
  | 37 => ("CircuitCyclesModel", "assertTo", "[I", true)
  | 38 => ("CircuitCyclesModel", "always", "I", false)
  | 39 => ("CircuitCyclesModel", "alwaysFrom", "[I", true)
  | 40 => ("CircuitCyclesModel", "alwaysTo", "[I", true)
  | 41 => ("CircuitCyclesModel", "code", "[I", false)
  | 42 => ("CircuitCyclesModel", "laid", "I", false)
  | 43 => ("CircuitCyclesModel", "numbers", "[J", false)
  | 44 => ("CircuitCyclesModel", "numberCount", "I", false)
  | 45 => ("CircuitCyclesModel", "moduleCost", "[J", true)
  | 46 => ("CircuitCyclesModel", "moduleInstances", "[J", true)
  | 47 => ("CircuitCyclesModel", "moduleSignals", "[J", true)
  | 48 => ("CircuitCyclesModel", "moduleBits", "[J", true)
  | 49 => ("CircuitCyclesModel", "waitOp", "[I", true)
  | 50 => ("CircuitCyclesModel", "waitAt", "[I", true)
  | 51 => ("CircuitCyclesModel", "waits", "I", false)
  | 52 => ("CircuitCyclesModel", "widths", "[I", true)
  | 53 => ("CircuitCyclesModel", "widthCount", "I", false)
  | 54 => ("CircuitCyclesModel", "there", "Z", false)
  | 55 => ("CircuitCyclesModel", "text", "[B", true)
  | 56 => ("CircuitCyclesModel", "instances", "I", false)
  | 57 => ("CircuitCyclesModel", "instanceModule", "[I", true)
  | 58 => ("CircuitCyclesModel", "instanceBase", "[I", true)
  | 59 => ("CircuitCyclesModel", "instanceUp", "[I", true)
  | 60 => ("CircuitCyclesModel", "instanceItem", "[I", true)
  | 61 => ("CircuitCyclesModel", "stack", "[I", true)
  | 62 => ("CircuitCyclesModel", "stackNext", "[I", true)
  | 63 => ("CircuitCyclesModel", "signals", "I", false)
  | 64 => ("CircuitCyclesModel", "signalLocal", "[I", true)
  | 65 => ("CircuitCyclesModel", "signalInstance", "[I", true)
  | 66 => ("CircuitCyclesModel", "ruleKind", "[I", true)
  | 67 => ("CircuitCyclesModel", "ruleFrom", "[I", true)
  | 68 => ("CircuitCyclesModel", "ruleTo", "[I", true)
  | 69 => ("CircuitCyclesModel", "ruleFor", "[I", true)
  | 70 => ("CircuitCyclesModel", "order", "[I", true)
  | 71 => ("CircuitCyclesModel", "ordered", "I", false)
  | 72 => ("CircuitCyclesModel", "ready", "[Z", true)
  | 73 => ("CircuitCyclesModel", "met", "[Z", true)
  | 74 => ("CircuitCyclesModel", "queue", "[I", true)
  | 75 => ("CircuitCyclesModel", "modulesThere", "I", false)
  | 76 => ("CircuitCyclesModel", "registerBits", "I", false)
  | 77 => ("CircuitCyclesModel", "inputBits", "I", false)
  | 78 => ("CircuitCyclesModel", "assertsThere", "I", false)
  | 79 => ("CircuitCyclesModel", "costThere", "J", false)
  | 80 => ("CircuitCyclesModel", "values", "[J", true)
  | 81 => ("CircuitCyclesModel", "nexts", "[J", true)
  | 82 => ("CircuitCyclesModel", "registers", "[J", true)
  | 83 => ("CircuitCyclesModel", "inputs", "[J", true)
  | 84 => ("CircuitCyclesModel", "pile", "[J", true)
  | 85 => ("CircuitCyclesModel", "high", "I", false)
  | 86 => ("CircuitCyclesModel", "cycle", "I", false)
  | 87 => ("CircuitCyclesModel", "valueFits", "Z", false)
  | 88 => ("CircuitCyclesModel", "tapeSize", "I", false)
  | 89 => ("CircuitCyclesModel", "textSize", "I", false)
  | _ => ("CircuitCyclesModel", "src", "[B", true)
def tn_M : Nat → FieldType := fun k => match k with
  | 0 => .int
  | 1 => (.array .byte)
  | 2 => .int
  | 3 => .int
  | 4 => (.array .int)
  | 5 => (.array .int)
  | 6 => (.array .int)
  | 7 => .int
  | 8 => .int
  | 9 => .int
  | 10 => .int
  | 11 => .int
  | 12 => .int
  | 13 => (.array .int)
  | 14 => (.array .int)
  | 15 => (.array .int)
  | 16 => (.array .int)
  | 17 => (.array .int)
  | 18 => .int
  | 19 => (.array .int)
  | 20 => (.array .int)
  | 21 => (.array .int)
  | 22 => (.array .long)
  | 23 => (.array .int)
  | 24 => (.array .int)
  | 25 => (.array .int)
  | 26 => (.array .int)
  | 27 => .int
  | 28 => (.array .int)
  | 29 => (.array .int)
  | 30 => (.array .int)
  | 31 => .int
  | 32 => (.array .int)
  | 33 => (.array .int)
  | 34 => (.array .int)
  | 35 => .int
  | 36 => (.array .int)
  | 37 => (.array .int)
  | 38 => .int
  | 39 => (.array .int)
  | 40 => (.array .int)
  | 41 => (.array .int)
  | 42 => .int
  | 43 => (.array .long)
  | 44 => .int
  | 45 => (.array .long)
  | 46 => (.array .long)
  | 47 => (.array .long)
  | 48 => (.array .long)
  | 49 => (.array .int)
  | 50 => (.array .int)
  | 51 => .int
  | 52 => (.array .int)
  | 53 => .int
  | 54 => .boolean
  | 55 => (.array .byte)
  | 56 => .int
  | 57 => (.array .int)
  | 58 => (.array .int)
  | 59 => (.array .int)
  | 60 => (.array .int)
  | 61 => (.array .int)
  | 62 => (.array .int)
  | 63 => .int
  | 64 => (.array .int)
  | 65 => (.array .int)
  | 66 => (.array .int)
  | 67 => (.array .int)
  | 68 => (.array .int)
  | 69 => (.array .int)
  | 70 => (.array .int)
  | 71 => .int
  | 72 => (.array .boolean)
  | 73 => (.array .boolean)
  | 74 => (.array .int)
  | 75 => .int
  | 76 => .int
  | 77 => .int
  | 78 => .int
  | 79 => .long
  | 80 => (.array .long)
  | 81 => (.array .long)
  | 82 => (.array .long)
  | 83 => (.array .long)
  | 84 => (.array .long)
  | 85 => .int
  | 86 => .int
  | 87 => .boolean
  | 88 => .int
  | 89 => .int
  | _ => (.array .byte)
theorem nn_M : ∀ a, a < 91 → ∀ b, b < 91 → a ≠ b → (fn_M a).2.1 ≠ (fn_M b).2.1 := by decide +kernel
theorem tk_M : ∀ k, k < 91 → parseFieldDescriptor (fn_M k).2.2.1 = some (tn_M k) := by decide +kernel
def xo_M (f : Nat → Value) : List Value := [f 0, f 1, f 2, f 3, f 4, f 5, f 6, f 7, f 8, f 9, f 10, f 11, f 12, f 13, f 14, f 15, f 16, f 17, f 18, f 19, f 20, f 21, f 22, f 23, f 24, f 25, f 26, f 27, f 28, f 29, f 30, f 31, f 32, f 33, f 34, f 35, f 36, f 37, f 38, f 39, f 40, f 41, f 42, f 43, f 44, f 45, f 46, f 47, f 48, f 49, f 50, f 51, f 52, f 53, f 54, f 55, f 56, f 57, f 58, f 59, f 60, f 61, f 62, f 63, f 64, f 65, f 66, f 67, f 68, f 69, f 70, f 71, f 72, f 73, f 74, f 75, f 76, f 77, f 78, f 79, f 80, f 81, f 82, f 83, f 84, f 85, f 86, f 87, f 88, f 89, f 90]
def rn_C : String := "CircuitCycles"
def fn_C : u_T := fun k => match k with
  | 0 => ("CircuitCycles", "length", "I", false)
  | 1 => ("CircuitCycles", "faultCode", "I", false)
  | 2 => ("CircuitCycles", "tokens", "LCircuitCycles$Tokens;", true)
  | 3 => ("CircuitCycles", "scanner", "LCircuitCycles$Scanner;", true)
  | 4 => ("CircuitCycles", "checker", "LCircuitCycles$Checker;", true)
  | 5 => ("CircuitCycles", "grammar", "LCircuitCycles$Grammar;", true)
  | 6 => ("CircuitCycles", "order", "LCircuitCycles$Order;", true)
  | 7 => ("CircuitCycles", "machine", "LCircuitCycles$Machine;", true)
  | 8 => ("CircuitCycles", "stands", "Z", false)
  | 9 => ("CircuitCycles", "circuit", "LCircuitCycles$Circuit;", false)
  | _ => ("CircuitCycles", "spare", "LCircuitCycles$Circuit;", false)
def tn_C : Nat → FieldType := fun k => match k with
  | 0 => .int
  | 1 => .int
  | 2 => (.object "CircuitCycles$Tokens")
  | 3 => (.object "CircuitCycles$Scanner")
  | 4 => (.object "CircuitCycles$Checker")
  | 5 => (.object "CircuitCycles$Grammar")
  | 6 => (.object "CircuitCycles$Order")
  | 7 => (.object "CircuitCycles$Machine")
  | 8 => .boolean
  | 9 => (.object "CircuitCycles$Circuit")
  | _ => (.object "CircuitCycles$Circuit")
theorem nn_C : ∀ a, a < 11 → ∀ b, b < 11 → a ≠ b → (fn_C a).2.1 ≠ (fn_C b).2.1 := by decide +kernel
theorem tk_C : ∀ k, k < 11 → parseFieldDescriptor (fn_C k).2.2.1 = some (tn_C k) := by decide +kernel
def xo_C (f : Nat → Value) : List Value := [f 0, f 1, f 2, f 3, f 4, f 5, f 6, f 7, f 8, f 9, f 10]
def rn_Tokens : String := "CircuitCycles$Tokens"
def fn_Tokens : u_T := fun k => match k with
  | 0 => ("CircuitCycles$Tokens", "row", "[J", true)
  | 1 => ("CircuitCycles$Tokens", "size", "I", false)
  | 2 => ("CircuitCycles$Tokens", "index", "I", false)
  | 3 => ("CircuitCycles$Tokens", "kind", "I", false)
  | 4 => ("CircuitCycles$Tokens", "place", "I", false)
  | 5 => ("CircuitCycles$Tokens", "extra", "I", false)
  | 6 => ("CircuitCycles$Tokens", "faultCode", "I", false)
  | 7 => ("CircuitCycles$Tokens", "faultPlace", "I", false)
  | _ => ("CircuitCycles$Tokens", "opens", "I", false)
def tn_Tokens : Nat → FieldType := fun k => match k with
  | 0 => (.array .long)
  | 1 => .int
  | 2 => .int
  | 3 => .int
  | 4 => .int
  | 5 => .int
  | 6 => .int
  | 7 => .int
  | _ => .int
theorem nn_Tokens : ∀ a, a < 9 → ∀ b, b < 9 → a ≠ b → (fn_Tokens a).2.1 ≠ (fn_Tokens b).2.1 := by decide +kernel
theorem tk_Tokens : ∀ k, k < 9 → parseFieldDescriptor (fn_Tokens k).2.2.1 = some (tn_Tokens k) := by decide +kernel
def xo_Tokens (f : Nat → Value) : List Value := [f 0, f 1, f 2, f 3, f 4, f 5, f 6, f 7, f 8]
def rn_Scanner : String := "CircuitCycles$Scanner"
def fn_Scanner : u_T := fun k => match k with
  | 0 => ("CircuitCycles$Scanner", "tokens", "LCircuitCycles$Tokens;", true)
  | 1 => ("CircuitCycles$Scanner", "text", "[B", false)
  | 2 => ("CircuitCycles$Scanner", "length", "I", false)
  | 3 => ("CircuitCycles$Scanner", "code", "LCircuitCycles$Code;", false)
  | 4 => ("CircuitCycles$Scanner", "heads", "[I", true)
  | 5 => ("CircuitCycles$Scanner", "nexts", "[I", true)
  | 6 => ("CircuitCycles$Scanner", "wordStarts", "[I", true)
  | 7 => ("CircuitCycles$Scanner", "wordKinds", "[I", true)
  | _ => ("CircuitCycles$Scanner", "words", "I", false)
def tn_Scanner : Nat → FieldType := fun k => match k with
  | 0 => (.object "CircuitCycles$Tokens")
  | 1 => (.array .byte)
  | 2 => .int
  | 3 => (.object "CircuitCycles$Code")
  | 4 => (.array .int)
  | 5 => (.array .int)
  | 6 => (.array .int)
  | 7 => (.array .int)
  | _ => .int
theorem nn_Scanner : ∀ a, a < 9 → ∀ b, b < 9 → a ≠ b → (fn_Scanner a).2.1 ≠ (fn_Scanner b).2.1 := by decide +kernel
theorem tk_Scanner : ∀ k, k < 9 → parseFieldDescriptor (fn_Scanner k).2.2.1 = some (tn_Scanner k) := by decide +kernel
def xo_Scanner (f : Nat → Value) : List Value := [f 0, f 1, f 2, f 3, f 4, f 5, f 6, f 7, f 8]
def rn_Checker : String := "CircuitCycles$Checker"
def fn_Checker : u_T := fun k => match k with
  | 0 => ("CircuitCycles$Checker", "tokens", "LCircuitCycles$Tokens;", true)
  | 1 => ("CircuitCycles$Checker", "parts", "LCircuitCycles$Parts;", false)
  | 2 => ("CircuitCycles$Checker", "code", "LCircuitCycles$Code;", false)
  | 3 => ("CircuitCycles$Checker", "module", "I", false)
  | 4 => ("CircuitCycles$Checker", "firstDecl", "I", false)
  | 5 => ("CircuitCycles$Checker", "modules", "[I", true)
  | 6 => ("CircuitCycles$Checker", "decls", "[I", true)
  | 7 => ("CircuitCycles$Checker", "stamps", "[I", true)
  | 8 => ("CircuitCycles$Checker", "names", "[I", true)
  | 9 => ("CircuitCycles$Checker", "widths", "[I", true)
  | 10 => ("CircuitCycles$Checker", "top", "I", false)
  | 11 => ("CircuitCycles$Checker", "expStart", "I", false)
  | 12 => ("CircuitCycles$Checker", "cost", "I", false)
  | 13 => ("CircuitCycles$Checker", "faultCode", "I", false)
  | _ => ("CircuitCycles$Checker", "faultPlace", "I", false)
def tn_Checker : Nat → FieldType := fun k => match k with
  | 0 => (.object "CircuitCycles$Tokens")
  | 1 => (.object "CircuitCycles$Parts")
  | 2 => (.object "CircuitCycles$Code")
  | 3 => .int
  | 4 => .int
  | 5 => (.array .int)
  | 6 => (.array .int)
  | 7 => (.array .int)
  | 8 => (.array .int)
  | 9 => (.array .int)
  | 10 => .int
  | 11 => .int
  | 12 => .int
  | 13 => .int
  | _ => .int
theorem nn_Checker : ∀ a, a < 15 → ∀ b, b < 15 → a ≠ b → (fn_Checker a).2.1 ≠ (fn_Checker b).2.1 := by decide +kernel
theorem tk_Checker : ∀ k, k < 15 → parseFieldDescriptor (fn_Checker k).2.2.1 = some (tn_Checker k) := by decide +kernel
def xo_Checker (f : Nat → Value) : List Value := [f 0, f 1, f 2, f 3, f 4, f 5, f 6, f 7, f 8, f 9, f 10, f 11, f 12, f 13, f 14]
def rn_Meaning : String := "CircuitCycles$Meaning"
def fn_Meaning : u_T := fun k => match k with
  | 0 => ("CircuitCycles$Meaning", "checker", "LCircuitCycles$Checker;", true)
  | 1 => ("CircuitCycles$Meaning", "design", "LCircuitCycles$Design;", false)
  | 2 => ("CircuitCycles$Meaning", "parts", "LCircuitCycles$Parts;", false)
  | 3 => ("CircuitCycles$Meaning", "code", "LCircuitCycles$Code;", false)
  | 4 => ("CircuitCycles$Meaning", "rangeWidth", "I", false)
  | 5 => ("CircuitCycles$Meaning", "target", "I", false)
  | 6 => ("CircuitCycles$Meaning", "targetLow", "I", false)
  | 7 => ("CircuitCycles$Meaning", "targetWidth", "I", false)
  | 8 => ("CircuitCycles$Meaning", "port", "I", false)
  | 9 => ("CircuitCycles$Meaning", "alwaysNumber", "I", false)
  | 10 => ("CircuitCycles$Meaning", "alwaysStart", "I", false)
  | 11 => ("CircuitCycles$Meaning", "stores", "Z", false)
  | 12 => ("CircuitCycles$Meaning", "jumps", "[I", true)
  | 13 => ("CircuitCycles$Meaning", "exits", "[I", true)
  | 14 => ("CircuitCycles$Meaning", "matches", "[I", true)
  | 15 => ("CircuitCycles$Meaning", "widths", "[I", true)
  | _ => ("CircuitCycles$Meaning", "depth", "I", false)
def tn_Meaning : Nat → FieldType := fun k => match k with
  | 0 => (.object "CircuitCycles$Checker")
  | 1 => (.object "CircuitCycles$Design")
  | 2 => (.object "CircuitCycles$Parts")
  | 3 => (.object "CircuitCycles$Code")
  | 4 => .int
  | 5 => .int
  | 6 => .int
  | 7 => .int
  | 8 => .int
  | 9 => .int
  | 10 => .int
  | 11 => .boolean
  | 12 => (.array .int)
  | 13 => (.array .int)
  | 14 => (.array .int)
  | 15 => (.array .int)
  | _ => .int
theorem nn_Meaning : ∀ a, a < 17 → ∀ b, b < 17 → a ≠ b → (fn_Meaning a).2.1 ≠ (fn_Meaning b).2.1 := by decide +kernel
theorem tk_Meaning : ∀ k, k < 17 → parseFieldDescriptor (fn_Meaning k).2.2.1 = some (tn_Meaning k) := by decide +kernel
def xo_Meaning (f : Nat → Value) : List Value := [f 0, f 1, f 2, f 3, f 4, f 5, f 6, f 7, f 8, f 9, f 10, f 11, f 12, f 13, f 14, f 15, f 16]
def rn_Grammar : String := "CircuitCycles$Grammar"
def fn_Grammar : u_T := fun k => match k with
  | 0 => ("CircuitCycles$Grammar", "tokens", "LCircuitCycles$Tokens;", true)
  | 1 => ("CircuitCycles$Grammar", "checker", "LCircuitCycles$Checker;", true)
  | 2 => ("CircuitCycles$Grammar", "meaning", "LCircuitCycles$Meaning;", true)
  | 3 => ("CircuitCycles$Grammar", "state", "I", false)
  | 4 => ("CircuitCycles$Grammar", "purpose", "I", false)
  | 5 => ("CircuitCycles$Grammar", "signPlace", "I", false)
  | 6 => ("CircuitCycles$Grammar", "linkPlace", "I", false)
  | 7 => ("CircuitCycles$Grammar", "expPlace", "I", false)
  | 8 => ("CircuitCycles$Grammar", "expIndex", "I", false)
  | 9 => ("CircuitCycles$Grammar", "contexts", "[I", true)
  | 10 => ("CircuitCycles$Grammar", "depth", "I", false)
  | 11 => ("CircuitCycles$Grammar", "heldKinds", "[I", true)
  | 12 => ("CircuitCycles$Grammar", "heldPlaces", "[I", true)
  | 13 => ("CircuitCycles$Grammar", "heldTimes", "[I", true)
  | _ => ("CircuitCycles$Grammar", "held", "I", false)
def tn_Grammar : Nat → FieldType := fun k => match k with
  | 0 => (.object "CircuitCycles$Tokens")
  | 1 => (.object "CircuitCycles$Checker")
  | 2 => (.object "CircuitCycles$Meaning")
  | 3 => .int
  | 4 => .int
  | 5 => .int
  | 6 => .int
  | 7 => .int
  | 8 => .int
  | 9 => (.array .int)
  | 10 => .int
  | 11 => (.array .int)
  | 12 => (.array .int)
  | 13 => (.array .int)
  | _ => .int
theorem nn_Grammar : ∀ a, a < 15 → ∀ b, b < 15 → a ≠ b → (fn_Grammar a).2.1 ≠ (fn_Grammar b).2.1 := by decide +kernel
theorem tk_Grammar : ∀ k, k < 15 → parseFieldDescriptor (fn_Grammar k).2.2.1 = some (tn_Grammar k) := by decide +kernel
def xo_Grammar (f : Nat → Value) : List Value := [f 0, f 1, f 2, f 3, f 4, f 5, f 6, f 7, f 8, f 9, f 10, f 11, f 12, f 13, f 14]
def rn_Order : String := "CircuitCycles$Order"
def fn_Order : u_T := fun k => match k with
  | 0 => ("CircuitCycles$Order", "circuit", "LCircuitCycles$Circuit;", false)
  | 1 => ("CircuitCycles$Order", "numbers", "[I", true)
  | 2 => ("CircuitCycles$Order", "lowest", "[I", true)
  | 3 => ("CircuitCycles$Order", "cursors", "[I", true)
  | 4 => ("CircuitCycles$Order", "path", "[I", true)
  | 5 => ("CircuitCycles$Order", "open", "[I", true)
  | 6 => ("CircuitCycles$Order", "pathSize", "I", false)
  | 7 => ("CircuitCycles$Order", "openSize", "I", false)
  | 8 => ("CircuitCycles$Order", "seen", "I", false)
  | _ => ("CircuitCycles$Order", "looped", "I", false)
def tn_Order : Nat → FieldType := fun k => match k with
  | 0 => (.object "CircuitCycles$Circuit")
  | 1 => (.array .int)
  | 2 => (.array .int)
  | 3 => (.array .int)
  | 4 => (.array .int)
  | 5 => (.array .int)
  | 6 => .int
  | 7 => .int
  | 8 => .int
  | _ => .int
theorem nn_Order : ∀ a, a < 10 → ∀ b, b < 10 → a ≠ b → (fn_Order a).2.1 ≠ (fn_Order b).2.1 := by decide +kernel
theorem tk_Order : ∀ k, k < 10 → parseFieldDescriptor (fn_Order k).2.2.1 = some (tn_Order k) := by decide +kernel
def xo_Order (f : Nat → Value) : List Value := [f 0, f 1, f 2, f 3, f 4, f 5, f 6, f 7, f 8, f 9]
def rn_Machine : String := "CircuitCycles$Machine"
def fn_Machine : u_T := fun k => match k with
  | 0 => ("CircuitCycles$Machine", "values", "[J", true)
  | 1 => ("CircuitCycles$Machine", "nexts", "[J", true)
  | 2 => ("CircuitCycles$Machine", "stack", "[J", true)
  | 3 => ("CircuitCycles$Machine", "cycle", "I", false)
  | _ => ("CircuitCycles$Machine", "settled", "Z", false)
def tn_Machine : Nat → FieldType := fun k => match k with
  | 0 => (.array .long)
  | 1 => (.array .long)
  | 2 => (.array .long)
  | 3 => .int
  | _ => .boolean
theorem nn_Machine : ∀ a, a < 5 → ∀ b, b < 5 → a ≠ b → (fn_Machine a).2.1 ≠ (fn_Machine b).2.1 := by decide +kernel
theorem tk_Machine : ∀ k, k < 5 → parseFieldDescriptor (fn_Machine k).2.2.1 = some (tn_Machine k) := by decide +kernel
def xo_Machine (f : Nat → Value) : List Value := [f 0, f 1, f 2, f 3, f 4]
def rn_Circuit : String := "CircuitCycles$Circuit"
def fn_Circuit : u_T := fun k => match k with
  | 0 => ("CircuitCycles$Circuit", "design", "LCircuitCycles$Design;", true)
  | 1 => ("CircuitCycles$Circuit", "instances", "I", false)
  | 2 => ("CircuitCycles$Circuit", "signals", "I", false)
  | 3 => ("CircuitCycles$Circuit", "bases", "[I", false)
  | 4 => ("CircuitCycles$Circuit", "modules", "[I", false)
  | 5 => ("CircuitCycles$Circuit", "parents", "[I", true)
  | 6 => ("CircuitCycles$Circuit", "children", "[I", true)
  | 7 => ("CircuitCycles$Circuit", "decls", "[I", true)
  | 8 => ("CircuitCycles$Circuit", "starts", "[I", true)
  | 9 => ("CircuitCycles$Circuit", "stops", "[I", true)
  | 10 => ("CircuitCycles$Circuit", "frames", "[I", true)
  | 11 => ("CircuitCycles$Circuit", "sources", "[I", true)
  | 12 => ("CircuitCycles$Circuit", "order", "[I", true)
  | _ => ("CircuitCycles$Circuit", "ordered", "I", false)
def tn_Circuit : Nat → FieldType := fun k => match k with
  | 0 => (.object "CircuitCycles$Design")
  | 1 => .int
  | 2 => .int
  | 3 => (.array .int)
  | 4 => (.array .int)
  | 5 => (.array .int)
  | 6 => (.array .int)
  | 7 => (.array .int)
  | 8 => (.array .int)
  | 9 => (.array .int)
  | 10 => (.array .int)
  | 11 => (.array .int)
  | 12 => (.array .int)
  | _ => .int
theorem nn_Circuit : ∀ a, a < 14 → ∀ b, b < 14 → a ≠ b → (fn_Circuit a).2.1 ≠ (fn_Circuit b).2.1 := by decide +kernel
theorem tk_Circuit : ∀ k, k < 14 → parseFieldDescriptor (fn_Circuit k).2.2.1 = some (tn_Circuit k) := by decide +kernel
def xo_Circuit (f : Nat → Value) : List Value := [f 0, f 1, f 2, f 3, f 4, f 5, f 6, f 7, f 8, f 9, f 10, f 11, f 12, f 13]
def rn_Design : String := "CircuitCycles$Design"
def fn_Design : u_T := fun k => match k with
  | 0 => ("CircuitCycles$Design", "parts", "LCircuitCycles$Parts;", true)
  | 1 => ("CircuitCycles$Design", "code", "LCircuitCycles$Code;", true)
  | 2 => ("CircuitCycles$Design", "text", "[B", true)
  | 3 => ("CircuitCycles$Design", "length", "I", false)
  | 4 => ("CircuitCycles$Design", "moduleCount", "I", false)
  | 5 => ("CircuitCycles$Design", "inputBits", "I", false)
  | 6 => ("CircuitCycles$Design", "places", "[I", true)
  | 7 => ("CircuitCycles$Design", "firstDecls", "[I", true)
  | 8 => ("CircuitCycles$Design", "portCounts", "[I", true)
  | 9 => ("CircuitCycles$Design", "firstChildren", "[I", true)
  | 10 => ("CircuitCycles$Design", "firstPieces", "[I", true)
  | 11 => ("CircuitCycles$Design", "sums", "[[I", true)
  | 12 => ("CircuitCycles$Design", "pieceCount", "I", false)
  | 13 => ("CircuitCycles$Design", "pieceStarts", "[I", true)
  | 14 => ("CircuitCycles$Design", "pieceStops", "[I", true)
  | _ => ("CircuitCycles$Design", "pieceAsserts", "[I", true)
def tn_Design : Nat → FieldType := fun k => match k with
  | 0 => (.object "CircuitCycles$Parts")
  | 1 => (.object "CircuitCycles$Code")
  | 2 => (.array .byte)
  | 3 => .int
  | 4 => .int
  | 5 => .int
  | 6 => (.array .int)
  | 7 => (.array .int)
  | 8 => (.array .int)
  | 9 => (.array .int)
  | 10 => (.array .int)
  | 11 => (.array (.array .int))
  | 12 => .int
  | 13 => (.array .int)
  | 14 => (.array .int)
  | _ => (.array .int)
theorem nn_Design : ∀ a, a < 16 → ∀ b, b < 16 → a ≠ b → (fn_Design a).2.1 ≠ (fn_Design b).2.1 := by decide +kernel
theorem tk_Design : ∀ k, k < 16 → parseFieldDescriptor (fn_Design k).2.2.1 = some (tn_Design k) := by decide +kernel
def xo_Design (f : Nat → Value) : List Value := [f 0, f 1, f 2, f 3, f 4, f 5, f 6, f 7, f 8, f 9, f 10, f 11, f 12, f 13, f 14, f 15]
def rn_Parts : String := "CircuitCycles$Parts"
def fn_Parts : u_T := fun k => match k with
  | 0 => ("CircuitCycles$Parts", "declCount", "I", false)
  | 1 => ("CircuitCycles$Parts", "places", "[I", true)
  | 2 => ("CircuitCycles$Parts", "widths", "[I", true)
  | 3 => ("CircuitCycles$Parts", "sorts", "[I", true)
  | 4 => ("CircuitCycles$Parts", "firsts", "[J", true)
  | 5 => ("CircuitCycles$Parts", "starts", "[I", true)
  | 6 => ("CircuitCycles$Parts", "stops", "[I", true)
  | 7 => ("CircuitCycles$Parts", "childCount", "I", false)
  | 8 => ("CircuitCycles$Parts", "childModules", "[I", true)
  | 9 => ("CircuitCycles$Parts", "childPlaces", "[I", true)
  | 10 => ("CircuitCycles$Parts", "firstLinks", "[I", true)
  | 11 => ("CircuitCycles$Parts", "linkCount", "I", false)
  | 12 => ("CircuitCycles$Parts", "linkPorts", "[I", true)
  | 13 => ("CircuitCycles$Parts", "linkStarts", "[I", true)
  | _ => ("CircuitCycles$Parts", "linkStops", "[I", true)
def tn_Parts : Nat → FieldType := fun k => match k with
  | 0 => .int
  | 1 => (.array .int)
  | 2 => (.array .int)
  | 3 => (.array .int)
  | 4 => (.array .long)
  | 5 => (.array .int)
  | 6 => (.array .int)
  | 7 => .int
  | 8 => (.array .int)
  | 9 => (.array .int)
  | 10 => (.array .int)
  | 11 => .int
  | 12 => (.array .int)
  | 13 => (.array .int)
  | _ => (.array .int)
theorem nn_Parts : ∀ a, a < 15 → ∀ b, b < 15 → a ≠ b → (fn_Parts a).2.1 ≠ (fn_Parts b).2.1 := by decide +kernel
theorem tk_Parts : ∀ k, k < 15 → parseFieldDescriptor (fn_Parts k).2.2.1 = some (tn_Parts k) := by decide +kernel
def xo_Parts (f : Nat → Value) : List Value := [f 0, f 1, f 2, f 3, f 4, f 5, f 6, f 7, f 8, f 9, f 10, f 11, f 12, f 13, f 14]
def rn_Code : String := "CircuitCycles$Code"
def fn_Code : u_T := fun k => match k with
  | 0 => ("CircuitCycles$Code", "row", "[J", true)
  | 1 => ("CircuitCycles$Code", "size", "I", false)
  | 2 => ("CircuitCycles$Code", "literalWidths", "[I", true)
  | 3 => ("CircuitCycles$Code", "literals", "[J", true)
  | _ => ("CircuitCycles$Code", "literalCount", "I", false)
def tn_Code : Nat → FieldType := fun k => match k with
  | 0 => (.array .long)
  | 1 => .int
  | 2 => (.array .int)
  | 3 => (.array .long)
  | _ => .int
theorem nn_Code : ∀ a, a < 5 → ∀ b, b < 5 → a ≠ b → (fn_Code a).2.1 ≠ (fn_Code b).2.1 := by decide +kernel
theorem tk_Code : ∀ k, k < 5 → parseFieldDescriptor (fn_Code k).2.2.1 = some (tn_Code k) := by decide +kernel
def xo_Code (f : Nat → Value) : List Value := [f 0, f 1, f 2, f 3, f 4]
abbrev xcl : List vw_C := [(rn_M, fn_M, 91), (rn_C, fn_C, 11), (rn_Tokens, fn_Tokens, 9), (rn_Scanner, fn_Scanner, 9), (rn_Checker, fn_Checker, 15), (rn_Meaning, fn_Meaning, 17), (rn_Grammar, fn_Grammar, 15), (rn_Order, fn_Order, 10), (rn_Machine, fn_Machine, 5), (rn_Circuit, fn_Circuit, 14), (rn_Design, fn_Design, 16), (rn_Parts, fn_Parts, 15), (rn_Code, fn_Code, 5)]
abbrev xt (cI cB cJ cZ cQ : ClassId) : List (ClassId × FieldType) := [(cI, .int), (cB, .byte), (cJ, .long), (cZ, .boolean), (cQ, .array .int)]
theorem wn_1_63 : (Jvm.Cond.laysFinal "CircuitCycles$Tokens" "CircuitCycles$Tokens" "row" "[J") ∈ xw_G := xw_c1 (List.mem_of_getElem? (i := 63) rfl) rfl
theorem wn_1_65 : (Jvm.Cond.lays "CircuitCycles$Tokens" "CircuitCycles$Tokens" "size" "I") ∈ xw_G := xw_c1 (List.mem_of_getElem? (i := 65) rfl) rfl
theorem wn_1_67 : (Jvm.Cond.lays "CircuitCycles$Tokens" "CircuitCycles$Tokens" "index" "I") ∈ xw_G := xw_c1 (List.mem_of_getElem? (i := 67) rfl) rfl
theorem wn_1_69 : (Jvm.Cond.lays "CircuitCycles$Tokens" "CircuitCycles$Tokens" "kind" "I") ∈ xw_G := xw_c1 (List.mem_of_getElem? (i := 69) rfl) rfl
theorem wn_1_71 : (Jvm.Cond.lays "CircuitCycles$Tokens" "CircuitCycles$Tokens" "place" "I") ∈ xw_G := xw_c1 (List.mem_of_getElem? (i := 71) rfl) rfl
theorem wn_1_73 : (Jvm.Cond.lays "CircuitCycles$Tokens" "CircuitCycles$Tokens" "extra" "I") ∈ xw_G := xw_c1 (List.mem_of_getElem? (i := 73) rfl) rfl
theorem wn_1_75 : (Jvm.Cond.lays "CircuitCycles$Tokens" "CircuitCycles$Tokens" "faultCode" "I") ∈ xw_G := xw_c1 (List.mem_of_getElem? (i := 75) rfl) rfl
theorem wn_1_77 : (Jvm.Cond.lays "CircuitCycles$Tokens" "CircuitCycles$Tokens" "faultPlace" "I") ∈ xw_G := xw_c1 (List.mem_of_getElem? (i := 77) rfl) rfl
theorem wn_1_79 : (Jvm.Cond.lays "CircuitCycles$Tokens" "CircuitCycles$Tokens" "opens" "I") ∈ xw_G := xw_c1 (List.mem_of_getElem? (i := 79) rfl) rfl
theorem wn_1_99 : (Jvm.Cond.laysFinal "CircuitCycles$Scanner" "CircuitCycles$Scanner" "tokens" "LCircuitCycles$Tokens;") ∈ xw_G := xw_c1 (List.mem_of_getElem? (i := 99) rfl) rfl
theorem wn_1_101 : (Jvm.Cond.lays "CircuitCycles$Scanner" "CircuitCycles$Scanner" "text" "[B") ∈ xw_G := xw_c1 (List.mem_of_getElem? (i := 101) rfl) rfl
theorem wn_1_103 : (Jvm.Cond.lays "CircuitCycles$Scanner" "CircuitCycles$Scanner" "length" "I") ∈ xw_G := xw_c1 (List.mem_of_getElem? (i := 103) rfl) rfl
theorem wn_1_105 : (Jvm.Cond.lays "CircuitCycles$Scanner" "CircuitCycles$Scanner" "code" "LCircuitCycles$Code;") ∈ xw_G := xw_c1 (List.mem_of_getElem? (i := 105) rfl) rfl
theorem wn_1_107 : (Jvm.Cond.laysFinal "CircuitCycles$Scanner" "CircuitCycles$Scanner" "heads" "[I") ∈ xw_G := xw_c1 (List.mem_of_getElem? (i := 107) rfl) rfl
theorem wn_1_109 : (Jvm.Cond.laysFinal "CircuitCycles$Scanner" "CircuitCycles$Scanner" "nexts" "[I") ∈ xw_G := xw_c1 (List.mem_of_getElem? (i := 109) rfl) rfl
theorem wn_1_111 : (Jvm.Cond.laysFinal "CircuitCycles$Scanner" "CircuitCycles$Scanner" "wordStarts" "[I") ∈ xw_G := xw_c1 (List.mem_of_getElem? (i := 111) rfl) rfl
theorem wn_1_113 : (Jvm.Cond.laysFinal "CircuitCycles$Scanner" "CircuitCycles$Scanner" "wordKinds" "[I") ∈ xw_G := xw_c1 (List.mem_of_getElem? (i := 113) rfl) rfl
theorem wn_1_115 : (Jvm.Cond.lays "CircuitCycles$Scanner" "CircuitCycles$Scanner" "words" "I") ∈ xw_G := xw_c1 (List.mem_of_getElem? (i := 115) rfl) rfl
theorem wn_1_145 : (Jvm.Cond.laysFinal "CircuitCycles$Checker" "CircuitCycles$Checker" "tokens" "LCircuitCycles$Tokens;") ∈ xw_G := xw_c1 (List.mem_of_getElem? (i := 145) rfl) rfl
theorem wn_1_147 : (Jvm.Cond.lays "CircuitCycles$Checker" "CircuitCycles$Checker" "parts" "LCircuitCycles$Parts;") ∈ xw_G := xw_c1 (List.mem_of_getElem? (i := 147) rfl) rfl
theorem wn_1_149 : (Jvm.Cond.lays "CircuitCycles$Checker" "CircuitCycles$Checker" "code" "LCircuitCycles$Code;") ∈ xw_G := xw_c1 (List.mem_of_getElem? (i := 149) rfl) rfl
theorem wn_1_151 : (Jvm.Cond.lays "CircuitCycles$Checker" "CircuitCycles$Checker" "module" "I") ∈ xw_G := xw_c1 (List.mem_of_getElem? (i := 151) rfl) rfl
theorem wn_1_153 : (Jvm.Cond.lays "CircuitCycles$Checker" "CircuitCycles$Checker" "firstDecl" "I") ∈ xw_G := xw_c1 (List.mem_of_getElem? (i := 153) rfl) rfl
theorem wn_1_155 : (Jvm.Cond.laysFinal "CircuitCycles$Checker" "CircuitCycles$Checker" "modules" "[I") ∈ xw_G := xw_c1 (List.mem_of_getElem? (i := 155) rfl) rfl
theorem wn_1_157 : (Jvm.Cond.laysFinal "CircuitCycles$Checker" "CircuitCycles$Checker" "decls" "[I") ∈ xw_G := xw_c1 (List.mem_of_getElem? (i := 157) rfl) rfl
theorem wn_1_159 : (Jvm.Cond.laysFinal "CircuitCycles$Checker" "CircuitCycles$Checker" "stamps" "[I") ∈ xw_G := xw_c1 (List.mem_of_getElem? (i := 159) rfl) rfl
theorem wn_1_161 : (Jvm.Cond.laysFinal "CircuitCycles$Checker" "CircuitCycles$Checker" "names" "[I") ∈ xw_G := xw_c1 (List.mem_of_getElem? (i := 161) rfl) rfl
theorem wn_1_163 : (Jvm.Cond.laysFinal "CircuitCycles$Checker" "CircuitCycles$Checker" "widths" "[I") ∈ xw_G := xw_c1 (List.mem_of_getElem? (i := 163) rfl) rfl
theorem wn_1_165 : (Jvm.Cond.lays "CircuitCycles$Checker" "CircuitCycles$Checker" "top" "I") ∈ xw_G := xw_c1 (List.mem_of_getElem? (i := 165) rfl) rfl
theorem wn_1_167 : (Jvm.Cond.lays "CircuitCycles$Checker" "CircuitCycles$Checker" "expStart" "I") ∈ xw_G := xw_c1 (List.mem_of_getElem? (i := 167) rfl) rfl
theorem wn_1_169 : (Jvm.Cond.lays "CircuitCycles$Checker" "CircuitCycles$Checker" "cost" "I") ∈ xw_G := xw_c1 (List.mem_of_getElem? (i := 169) rfl) rfl
theorem wn_1_171 : (Jvm.Cond.lays "CircuitCycles$Checker" "CircuitCycles$Checker" "faultCode" "I") ∈ xw_G := xw_c1 (List.mem_of_getElem? (i := 171) rfl) rfl
theorem wn_1_173 : (Jvm.Cond.lays "CircuitCycles$Checker" "CircuitCycles$Checker" "faultPlace" "I") ∈ xw_G := xw_c1 (List.mem_of_getElem? (i := 173) rfl) rfl
theorem wn_1_201 : (Jvm.Cond.laysFinal "CircuitCycles$Meaning" "CircuitCycles$Meaning" "checker" "LCircuitCycles$Checker;") ∈ xw_G := xw_c1 (List.mem_of_getElem? (i := 201) rfl) rfl
theorem wn_1_203 : (Jvm.Cond.lays "CircuitCycles$Meaning" "CircuitCycles$Meaning" "design" "LCircuitCycles$Design;") ∈ xw_G := xw_c1 (List.mem_of_getElem? (i := 203) rfl) rfl
theorem wn_1_205 : (Jvm.Cond.lays "CircuitCycles$Meaning" "CircuitCycles$Meaning" "parts" "LCircuitCycles$Parts;") ∈ xw_G := xw_c1 (List.mem_of_getElem? (i := 205) rfl) rfl
theorem wn_1_207 : (Jvm.Cond.lays "CircuitCycles$Meaning" "CircuitCycles$Meaning" "code" "LCircuitCycles$Code;") ∈ xw_G := xw_c1 (List.mem_of_getElem? (i := 207) rfl) rfl
theorem wn_1_209 : (Jvm.Cond.lays "CircuitCycles$Meaning" "CircuitCycles$Meaning" "rangeWidth" "I") ∈ xw_G := xw_c1 (List.mem_of_getElem? (i := 209) rfl) rfl
theorem wn_1_211 : (Jvm.Cond.lays "CircuitCycles$Meaning" "CircuitCycles$Meaning" "target" "I") ∈ xw_G := xw_c1 (List.mem_of_getElem? (i := 211) rfl) rfl
theorem wn_1_213 : (Jvm.Cond.lays "CircuitCycles$Meaning" "CircuitCycles$Meaning" "targetLow" "I") ∈ xw_G := xw_c1 (List.mem_of_getElem? (i := 213) rfl) rfl
theorem wn_1_215 : (Jvm.Cond.lays "CircuitCycles$Meaning" "CircuitCycles$Meaning" "targetWidth" "I") ∈ xw_G := xw_c1 (List.mem_of_getElem? (i := 215) rfl) rfl
theorem wn_1_217 : (Jvm.Cond.lays "CircuitCycles$Meaning" "CircuitCycles$Meaning" "port" "I") ∈ xw_G := xw_c1 (List.mem_of_getElem? (i := 217) rfl) rfl
theorem wn_1_219 : (Jvm.Cond.lays "CircuitCycles$Meaning" "CircuitCycles$Meaning" "alwaysNumber" "I") ∈ xw_G := xw_c1 (List.mem_of_getElem? (i := 219) rfl) rfl
theorem wn_1_221 : (Jvm.Cond.lays "CircuitCycles$Meaning" "CircuitCycles$Meaning" "alwaysStart" "I") ∈ xw_G := xw_c1 (List.mem_of_getElem? (i := 221) rfl) rfl
theorem wn_1_223 : (Jvm.Cond.lays "CircuitCycles$Meaning" "CircuitCycles$Meaning" "stores" "Z") ∈ xw_G := xw_c1 (List.mem_of_getElem? (i := 223) rfl) rfl
theorem wn_1_225 : (Jvm.Cond.laysFinal "CircuitCycles$Meaning" "CircuitCycles$Meaning" "jumps" "[I") ∈ xw_G := xw_c1 (List.mem_of_getElem? (i := 225) rfl) rfl
theorem wn_1_227 : (Jvm.Cond.laysFinal "CircuitCycles$Meaning" "CircuitCycles$Meaning" "exits" "[I") ∈ xw_G := xw_c1 (List.mem_of_getElem? (i := 227) rfl) rfl
theorem wn_1_229 : (Jvm.Cond.laysFinal "CircuitCycles$Meaning" "CircuitCycles$Meaning" "matches" "[I") ∈ xw_G := xw_c1 (List.mem_of_getElem? (i := 229) rfl) rfl
theorem wn_1_231 : (Jvm.Cond.laysFinal "CircuitCycles$Meaning" "CircuitCycles$Meaning" "widths" "[I") ∈ xw_G := xw_c1 (List.mem_of_getElem? (i := 231) rfl) rfl
theorem wn_1_233 : (Jvm.Cond.lays "CircuitCycles$Meaning" "CircuitCycles$Meaning" "depth" "I") ∈ xw_G := xw_c1 (List.mem_of_getElem? (i := 233) rfl) rfl
theorem wn_2_15 : (Jvm.Cond.laysFinal "CircuitCycles$Grammar" "CircuitCycles$Grammar" "tokens" "LCircuitCycles$Tokens;") ∈ xw_G := xw_c2 (List.mem_of_getElem? (i := 15) rfl) rfl
theorem wn_2_17 : (Jvm.Cond.laysFinal "CircuitCycles$Grammar" "CircuitCycles$Grammar" "checker" "LCircuitCycles$Checker;") ∈ xw_G := xw_c2 (List.mem_of_getElem? (i := 17) rfl) rfl
theorem wn_2_19 : (Jvm.Cond.laysFinal "CircuitCycles$Grammar" "CircuitCycles$Grammar" "meaning" "LCircuitCycles$Meaning;") ∈ xw_G := xw_c2 (List.mem_of_getElem? (i := 19) rfl) rfl
theorem wn_2_21 : (Jvm.Cond.lays "CircuitCycles$Grammar" "CircuitCycles$Grammar" "state" "I") ∈ xw_G := xw_c2 (List.mem_of_getElem? (i := 21) rfl) rfl
theorem wn_2_23 : (Jvm.Cond.lays "CircuitCycles$Grammar" "CircuitCycles$Grammar" "purpose" "I") ∈ xw_G := xw_c2 (List.mem_of_getElem? (i := 23) rfl) rfl
theorem wn_2_25 : (Jvm.Cond.lays "CircuitCycles$Grammar" "CircuitCycles$Grammar" "signPlace" "I") ∈ xw_G := xw_c2 (List.mem_of_getElem? (i := 25) rfl) rfl
theorem wn_2_27 : (Jvm.Cond.lays "CircuitCycles$Grammar" "CircuitCycles$Grammar" "linkPlace" "I") ∈ xw_G := xw_c2 (List.mem_of_getElem? (i := 27) rfl) rfl
theorem wn_2_29 : (Jvm.Cond.lays "CircuitCycles$Grammar" "CircuitCycles$Grammar" "expPlace" "I") ∈ xw_G := xw_c2 (List.mem_of_getElem? (i := 29) rfl) rfl
theorem wn_2_31 : (Jvm.Cond.lays "CircuitCycles$Grammar" "CircuitCycles$Grammar" "expIndex" "I") ∈ xw_G := xw_c2 (List.mem_of_getElem? (i := 31) rfl) rfl
theorem wn_2_33 : (Jvm.Cond.laysFinal "CircuitCycles$Grammar" "CircuitCycles$Grammar" "contexts" "[I") ∈ xw_G := xw_c2 (List.mem_of_getElem? (i := 33) rfl) rfl
theorem wn_2_35 : (Jvm.Cond.lays "CircuitCycles$Grammar" "CircuitCycles$Grammar" "depth" "I") ∈ xw_G := xw_c2 (List.mem_of_getElem? (i := 35) rfl) rfl
theorem wn_2_37 : (Jvm.Cond.laysFinal "CircuitCycles$Grammar" "CircuitCycles$Grammar" "heldKinds" "[I") ∈ xw_G := xw_c2 (List.mem_of_getElem? (i := 37) rfl) rfl
theorem wn_2_39 : (Jvm.Cond.laysFinal "CircuitCycles$Grammar" "CircuitCycles$Grammar" "heldPlaces" "[I") ∈ xw_G := xw_c2 (List.mem_of_getElem? (i := 39) rfl) rfl
theorem wn_2_41 : (Jvm.Cond.laysFinal "CircuitCycles$Grammar" "CircuitCycles$Grammar" "heldTimes" "[I") ∈ xw_G := xw_c2 (List.mem_of_getElem? (i := 41) rfl) rfl
theorem wn_2_43 : (Jvm.Cond.lays "CircuitCycles$Grammar" "CircuitCycles$Grammar" "held" "I") ∈ xw_G := xw_c2 (List.mem_of_getElem? (i := 43) rfl) rfl
theorem wn_2_62 : (Jvm.Cond.lays "CircuitCycles$Order" "CircuitCycles$Order" "circuit" "LCircuitCycles$Circuit;") ∈ xw_G := xw_c2 (List.mem_of_getElem? (i := 62) rfl) rfl
theorem wn_2_64 : (Jvm.Cond.laysFinal "CircuitCycles$Order" "CircuitCycles$Order" "numbers" "[I") ∈ xw_G := xw_c2 (List.mem_of_getElem? (i := 64) rfl) rfl
theorem wn_2_66 : (Jvm.Cond.laysFinal "CircuitCycles$Order" "CircuitCycles$Order" "lowest" "[I") ∈ xw_G := xw_c2 (List.mem_of_getElem? (i := 66) rfl) rfl
theorem wn_2_68 : (Jvm.Cond.laysFinal "CircuitCycles$Order" "CircuitCycles$Order" "cursors" "[I") ∈ xw_G := xw_c2 (List.mem_of_getElem? (i := 68) rfl) rfl
theorem wn_2_70 : (Jvm.Cond.laysFinal "CircuitCycles$Order" "CircuitCycles$Order" "path" "[I") ∈ xw_G := xw_c2 (List.mem_of_getElem? (i := 70) rfl) rfl
theorem wn_2_72 : (Jvm.Cond.laysFinal "CircuitCycles$Order" "CircuitCycles$Order" "open" "[I") ∈ xw_G := xw_c2 (List.mem_of_getElem? (i := 72) rfl) rfl
theorem wn_2_74 : (Jvm.Cond.lays "CircuitCycles$Order" "CircuitCycles$Order" "pathSize" "I") ∈ xw_G := xw_c2 (List.mem_of_getElem? (i := 74) rfl) rfl
theorem wn_2_76 : (Jvm.Cond.lays "CircuitCycles$Order" "CircuitCycles$Order" "openSize" "I") ∈ xw_G := xw_c2 (List.mem_of_getElem? (i := 76) rfl) rfl
theorem wn_2_78 : (Jvm.Cond.lays "CircuitCycles$Order" "CircuitCycles$Order" "seen" "I") ∈ xw_G := xw_c2 (List.mem_of_getElem? (i := 78) rfl) rfl
theorem wn_2_80 : (Jvm.Cond.lays "CircuitCycles$Order" "CircuitCycles$Order" "looped" "I") ∈ xw_G := xw_c2 (List.mem_of_getElem? (i := 80) rfl) rfl
theorem wn_2_94 : (Jvm.Cond.laysFinal "CircuitCycles$Machine" "CircuitCycles$Machine" "values" "[J") ∈ xw_G := xw_c2 (List.mem_of_getElem? (i := 94) rfl) rfl
theorem wn_2_96 : (Jvm.Cond.laysFinal "CircuitCycles$Machine" "CircuitCycles$Machine" "nexts" "[J") ∈ xw_G := xw_c2 (List.mem_of_getElem? (i := 96) rfl) rfl
theorem wn_2_98 : (Jvm.Cond.laysFinal "CircuitCycles$Machine" "CircuitCycles$Machine" "stack" "[J") ∈ xw_G := xw_c2 (List.mem_of_getElem? (i := 98) rfl) rfl
theorem wn_2_100 : (Jvm.Cond.lays "CircuitCycles$Machine" "CircuitCycles$Machine" "cycle" "I") ∈ xw_G := xw_c2 (List.mem_of_getElem? (i := 100) rfl) rfl
theorem wn_2_102 : (Jvm.Cond.lays "CircuitCycles$Machine" "CircuitCycles$Machine" "settled" "Z") ∈ xw_G := xw_c2 (List.mem_of_getElem? (i := 102) rfl) rfl
theorem wn_2_172 : (Jvm.Cond.lays "CircuitCycles$Parts" "CircuitCycles$Parts" "declCount" "I") ∈ xw_G := xw_c2 (List.mem_of_getElem? (i := 172) rfl) rfl
theorem wn_2_174 : (Jvm.Cond.laysFinal "CircuitCycles$Parts" "CircuitCycles$Parts" "places" "[I") ∈ xw_G := xw_c2 (List.mem_of_getElem? (i := 174) rfl) rfl
theorem wn_2_176 : (Jvm.Cond.laysFinal "CircuitCycles$Parts" "CircuitCycles$Parts" "widths" "[I") ∈ xw_G := xw_c2 (List.mem_of_getElem? (i := 176) rfl) rfl
theorem wn_2_178 : (Jvm.Cond.laysFinal "CircuitCycles$Parts" "CircuitCycles$Parts" "sorts" "[I") ∈ xw_G := xw_c2 (List.mem_of_getElem? (i := 178) rfl) rfl
theorem wn_2_180 : (Jvm.Cond.laysFinal "CircuitCycles$Parts" "CircuitCycles$Parts" "firsts" "[J") ∈ xw_G := xw_c2 (List.mem_of_getElem? (i := 180) rfl) rfl
theorem wn_2_182 : (Jvm.Cond.laysFinal "CircuitCycles$Parts" "CircuitCycles$Parts" "starts" "[I") ∈ xw_G := xw_c2 (List.mem_of_getElem? (i := 182) rfl) rfl
theorem wn_2_184 : (Jvm.Cond.laysFinal "CircuitCycles$Parts" "CircuitCycles$Parts" "stops" "[I") ∈ xw_G := xw_c2 (List.mem_of_getElem? (i := 184) rfl) rfl
theorem wn_2_186 : (Jvm.Cond.lays "CircuitCycles$Parts" "CircuitCycles$Parts" "childCount" "I") ∈ xw_G := xw_c2 (List.mem_of_getElem? (i := 186) rfl) rfl
theorem wn_2_188 : (Jvm.Cond.laysFinal "CircuitCycles$Parts" "CircuitCycles$Parts" "childModules" "[I") ∈ xw_G := xw_c2 (List.mem_of_getElem? (i := 188) rfl) rfl
theorem wn_2_190 : (Jvm.Cond.laysFinal "CircuitCycles$Parts" "CircuitCycles$Parts" "childPlaces" "[I") ∈ xw_G := xw_c2 (List.mem_of_getElem? (i := 190) rfl) rfl
theorem wn_2_192 : (Jvm.Cond.laysFinal "CircuitCycles$Parts" "CircuitCycles$Parts" "firstLinks" "[I") ∈ xw_G := xw_c2 (List.mem_of_getElem? (i := 192) rfl) rfl
theorem wn_2_194 : (Jvm.Cond.lays "CircuitCycles$Parts" "CircuitCycles$Parts" "linkCount" "I") ∈ xw_G := xw_c2 (List.mem_of_getElem? (i := 194) rfl) rfl
theorem wn_2_196 : (Jvm.Cond.laysFinal "CircuitCycles$Parts" "CircuitCycles$Parts" "linkPorts" "[I") ∈ xw_G := xw_c2 (List.mem_of_getElem? (i := 196) rfl) rfl
theorem wn_2_198 : (Jvm.Cond.laysFinal "CircuitCycles$Parts" "CircuitCycles$Parts" "linkStarts" "[I") ∈ xw_G := xw_c2 (List.mem_of_getElem? (i := 198) rfl) rfl
theorem wn_2_200 : (Jvm.Cond.laysFinal "CircuitCycles$Parts" "CircuitCycles$Parts" "linkStops" "[I") ∈ xw_G := xw_c2 (List.mem_of_getElem? (i := 200) rfl) rfl
theorem wn_2_220 : (Jvm.Cond.laysFinal "CircuitCycles$Code" "CircuitCycles$Code" "row" "[J") ∈ xw_G := xw_c2 (List.mem_of_getElem? (i := 220) rfl) rfl
theorem wn_2_222 : (Jvm.Cond.lays "CircuitCycles$Code" "CircuitCycles$Code" "size" "I") ∈ xw_G := xw_c2 (List.mem_of_getElem? (i := 222) rfl) rfl
theorem wn_2_224 : (Jvm.Cond.laysFinal "CircuitCycles$Code" "CircuitCycles$Code" "literalWidths" "[I") ∈ xw_G := xw_c2 (List.mem_of_getElem? (i := 224) rfl) rfl
theorem wn_2_226 : (Jvm.Cond.laysFinal "CircuitCycles$Code" "CircuitCycles$Code" "literals" "[J") ∈ xw_G := xw_c2 (List.mem_of_getElem? (i := 226) rfl) rfl
theorem wn_2_228 : (Jvm.Cond.lays "CircuitCycles$Code" "CircuitCycles$Code" "literalCount" "I") ∈ xw_G := xw_c2 (List.mem_of_getElem? (i := 228) rfl) rfl
theorem wn_3_28 : (Jvm.Cond.laysFinal "CircuitCycles$Design" "CircuitCycles$Design" "parts" "LCircuitCycles$Parts;") ∈ xw_G := xw_c3 (List.mem_of_getElem? (i := 28) rfl) rfl
theorem wn_3_30 : (Jvm.Cond.laysFinal "CircuitCycles$Design" "CircuitCycles$Design" "code" "LCircuitCycles$Code;") ∈ xw_G := xw_c3 (List.mem_of_getElem? (i := 30) rfl) rfl
theorem wn_3_32 : (Jvm.Cond.laysFinal "CircuitCycles$Design" "CircuitCycles$Design" "text" "[B") ∈ xw_G := xw_c3 (List.mem_of_getElem? (i := 32) rfl) rfl
theorem wn_3_34 : (Jvm.Cond.lays "CircuitCycles$Design" "CircuitCycles$Design" "length" "I") ∈ xw_G := xw_c3 (List.mem_of_getElem? (i := 34) rfl) rfl
theorem wn_3_36 : (Jvm.Cond.lays "CircuitCycles$Design" "CircuitCycles$Design" "moduleCount" "I") ∈ xw_G := xw_c3 (List.mem_of_getElem? (i := 36) rfl) rfl
theorem wn_3_38 : (Jvm.Cond.lays "CircuitCycles$Design" "CircuitCycles$Design" "inputBits" "I") ∈ xw_G := xw_c3 (List.mem_of_getElem? (i := 38) rfl) rfl
theorem wn_3_40 : (Jvm.Cond.laysFinal "CircuitCycles$Design" "CircuitCycles$Design" "places" "[I") ∈ xw_G := xw_c3 (List.mem_of_getElem? (i := 40) rfl) rfl
theorem wn_3_42 : (Jvm.Cond.laysFinal "CircuitCycles$Design" "CircuitCycles$Design" "firstDecls" "[I") ∈ xw_G := xw_c3 (List.mem_of_getElem? (i := 42) rfl) rfl
theorem wn_3_44 : (Jvm.Cond.laysFinal "CircuitCycles$Design" "CircuitCycles$Design" "portCounts" "[I") ∈ xw_G := xw_c3 (List.mem_of_getElem? (i := 44) rfl) rfl
theorem wn_3_46 : (Jvm.Cond.laysFinal "CircuitCycles$Design" "CircuitCycles$Design" "firstChildren" "[I") ∈ xw_G := xw_c3 (List.mem_of_getElem? (i := 46) rfl) rfl
theorem wn_3_48 : (Jvm.Cond.laysFinal "CircuitCycles$Design" "CircuitCycles$Design" "firstPieces" "[I") ∈ xw_G := xw_c3 (List.mem_of_getElem? (i := 48) rfl) rfl
theorem wn_3_50 : (Jvm.Cond.laysFinal "CircuitCycles$Design" "CircuitCycles$Design" "sums" "[[I") ∈ xw_G := xw_c3 (List.mem_of_getElem? (i := 50) rfl) rfl
theorem wn_3_52 : (Jvm.Cond.lays "CircuitCycles$Design" "CircuitCycles$Design" "pieceCount" "I") ∈ xw_G := xw_c3 (List.mem_of_getElem? (i := 52) rfl) rfl
theorem wn_3_54 : (Jvm.Cond.laysFinal "CircuitCycles$Design" "CircuitCycles$Design" "pieceStarts" "[I") ∈ xw_G := xw_c3 (List.mem_of_getElem? (i := 54) rfl) rfl
theorem wn_3_56 : (Jvm.Cond.laysFinal "CircuitCycles$Design" "CircuitCycles$Design" "pieceStops" "[I") ∈ xw_G := xw_c3 (List.mem_of_getElem? (i := 56) rfl) rfl
theorem wn_3_58 : (Jvm.Cond.laysFinal "CircuitCycles$Design" "CircuitCycles$Design" "pieceAsserts" "[I") ∈ xw_G := xw_c3 (List.mem_of_getElem? (i := 58) rfl) rfl
theorem wn_3_96 : (Jvm.Cond.laysFinal "CircuitCycles$Circuit" "CircuitCycles$Circuit" "design" "LCircuitCycles$Design;") ∈ xw_G := xw_c3 (List.mem_of_getElem? (i := 96) rfl) rfl
theorem wn_3_98 : (Jvm.Cond.lays "CircuitCycles$Circuit" "CircuitCycles$Circuit" "instances" "I") ∈ xw_G := xw_c3 (List.mem_of_getElem? (i := 98) rfl) rfl
theorem wn_3_100 : (Jvm.Cond.lays "CircuitCycles$Circuit" "CircuitCycles$Circuit" "signals" "I") ∈ xw_G := xw_c3 (List.mem_of_getElem? (i := 100) rfl) rfl
theorem wn_3_102 : (Jvm.Cond.lays "CircuitCycles$Circuit" "CircuitCycles$Circuit" "bases" "[I") ∈ xw_G := xw_c3 (List.mem_of_getElem? (i := 102) rfl) rfl
theorem wn_3_104 : (Jvm.Cond.lays "CircuitCycles$Circuit" "CircuitCycles$Circuit" "modules" "[I") ∈ xw_G := xw_c3 (List.mem_of_getElem? (i := 104) rfl) rfl
theorem wn_3_106 : (Jvm.Cond.laysFinal "CircuitCycles$Circuit" "CircuitCycles$Circuit" "parents" "[I") ∈ xw_G := xw_c3 (List.mem_of_getElem? (i := 106) rfl) rfl
theorem wn_3_108 : (Jvm.Cond.laysFinal "CircuitCycles$Circuit" "CircuitCycles$Circuit" "children" "[I") ∈ xw_G := xw_c3 (List.mem_of_getElem? (i := 108) rfl) rfl
theorem wn_3_110 : (Jvm.Cond.laysFinal "CircuitCycles$Circuit" "CircuitCycles$Circuit" "decls" "[I") ∈ xw_G := xw_c3 (List.mem_of_getElem? (i := 110) rfl) rfl
theorem wn_3_112 : (Jvm.Cond.laysFinal "CircuitCycles$Circuit" "CircuitCycles$Circuit" "starts" "[I") ∈ xw_G := xw_c3 (List.mem_of_getElem? (i := 112) rfl) rfl
theorem wn_3_114 : (Jvm.Cond.laysFinal "CircuitCycles$Circuit" "CircuitCycles$Circuit" "stops" "[I") ∈ xw_G := xw_c3 (List.mem_of_getElem? (i := 114) rfl) rfl
theorem wn_3_116 : (Jvm.Cond.laysFinal "CircuitCycles$Circuit" "CircuitCycles$Circuit" "frames" "[I") ∈ xw_G := xw_c3 (List.mem_of_getElem? (i := 116) rfl) rfl
theorem wn_3_118 : (Jvm.Cond.laysFinal "CircuitCycles$Circuit" "CircuitCycles$Circuit" "sources" "[I") ∈ xw_G := xw_c3 (List.mem_of_getElem? (i := 118) rfl) rfl
theorem wn_3_120 : (Jvm.Cond.laysFinal "CircuitCycles$Circuit" "CircuitCycles$Circuit" "order" "[I") ∈ xw_G := xw_c3 (List.mem_of_getElem? (i := 120) rfl) rfl
theorem wn_3_122 : (Jvm.Cond.lays "CircuitCycles$Circuit" "CircuitCycles$Circuit" "ordered" "I") ∈ xw_G := xw_c3 (List.mem_of_getElem? (i := 122) rfl) rfl
theorem wn_3_136 : (Jvm.Cond.lays "CircuitCycles" "CircuitCycles" "length" "I") ∈ xw_G := xw_c3 (List.mem_of_getElem? (i := 136) rfl) rfl
theorem wn_3_138 : (Jvm.Cond.lays "CircuitCycles" "CircuitCycles" "faultCode" "I") ∈ xw_G := xw_c3 (List.mem_of_getElem? (i := 138) rfl) rfl
theorem wn_3_140 : (Jvm.Cond.laysFinal "CircuitCycles" "CircuitCycles" "tokens" "LCircuitCycles$Tokens;") ∈ xw_G := xw_c3 (List.mem_of_getElem? (i := 140) rfl) rfl
theorem wn_3_142 : (Jvm.Cond.laysFinal "CircuitCycles" "CircuitCycles" "scanner" "LCircuitCycles$Scanner;") ∈ xw_G := xw_c3 (List.mem_of_getElem? (i := 142) rfl) rfl
theorem wn_3_144 : (Jvm.Cond.laysFinal "CircuitCycles" "CircuitCycles" "checker" "LCircuitCycles$Checker;") ∈ xw_G := xw_c3 (List.mem_of_getElem? (i := 144) rfl) rfl
theorem wn_3_146 : (Jvm.Cond.laysFinal "CircuitCycles" "CircuitCycles" "grammar" "LCircuitCycles$Grammar;") ∈ xw_G := xw_c3 (List.mem_of_getElem? (i := 146) rfl) rfl
theorem wn_3_148 : (Jvm.Cond.laysFinal "CircuitCycles" "CircuitCycles" "order" "LCircuitCycles$Order;") ∈ xw_G := xw_c3 (List.mem_of_getElem? (i := 148) rfl) rfl
theorem wn_3_150 : (Jvm.Cond.laysFinal "CircuitCycles" "CircuitCycles" "machine" "LCircuitCycles$Machine;") ∈ xw_G := xw_c3 (List.mem_of_getElem? (i := 150) rfl) rfl
theorem wn_3_152 : (Jvm.Cond.lays "CircuitCycles" "CircuitCycles" "stands" "Z") ∈ xw_G := xw_c3 (List.mem_of_getElem? (i := 152) rfl) rfl
theorem wn_3_154 : (Jvm.Cond.lays "CircuitCycles" "CircuitCycles" "circuit" "LCircuitCycles$Circuit;") ∈ xw_G := xw_c3 (List.mem_of_getElem? (i := 154) rfl) rfl
theorem wn_3_156 : (Jvm.Cond.lays "CircuitCycles" "CircuitCycles" "spare" "LCircuitCycles$Circuit;") ∈ xw_G := xw_c3 (List.mem_of_getElem? (i := 156) rfl) rfl
theorem wn_8_164 : (Jvm.Cond.lays "CircuitCyclesModel" "CircuitCyclesModel" "thrown" "I") ∈ xw_G := xw_c8 (List.mem_of_getElem? (i := 164) rfl) rfl
theorem wn_8_166 : (Jvm.Cond.laysFinal "CircuitCyclesModel" "CircuitCyclesModel" "tape" "[B") ∈ xw_G := xw_c8 (List.mem_of_getElem? (i := 166) rfl) rfl
theorem wn_8_168 : (Jvm.Cond.lays "CircuitCyclesModel" "CircuitCyclesModel" "size" "I") ∈ xw_G := xw_c8 (List.mem_of_getElem? (i := 168) rfl) rfl
theorem wn_8_170 : (Jvm.Cond.lays "CircuitCyclesModel" "CircuitCyclesModel" "fault" "I") ∈ xw_G := xw_c8 (List.mem_of_getElem? (i := 170) rfl) rfl
theorem wn_8_172 : (Jvm.Cond.laysFinal "CircuitCyclesModel" "CircuitCyclesModel" "kinds" "[I") ∈ xw_G := xw_c8 (List.mem_of_getElem? (i := 172) rfl) rfl
theorem wn_8_174 : (Jvm.Cond.laysFinal "CircuitCyclesModel" "CircuitCyclesModel" "begins" "[I") ∈ xw_G := xw_c8 (List.mem_of_getElem? (i := 174) rfl) rfl
theorem wn_8_176 : (Jvm.Cond.laysFinal "CircuitCyclesModel" "CircuitCyclesModel" "ends" "[I") ∈ xw_G := xw_c8 (List.mem_of_getElem? (i := 176) rfl) rfl
theorem wn_8_178 : (Jvm.Cond.lays "CircuitCyclesModel" "CircuitCyclesModel" "tokens" "I") ∈ xw_G := xw_c8 (List.mem_of_getElem? (i := 178) rfl) rfl
theorem wn_8_180 : (Jvm.Cond.lays "CircuitCyclesModel" "CircuitCyclesModel" "t" "I") ∈ xw_G := xw_c8 (List.mem_of_getElem? (i := 180) rfl) rfl
theorem wn_8_182 : (Jvm.Cond.lays "CircuitCyclesModel" "CircuitCyclesModel" "wrong" "I") ∈ xw_G := xw_c8 (List.mem_of_getElem? (i := 182) rfl) rfl
theorem wn_8_184 : (Jvm.Cond.lays "CircuitCyclesModel" "CircuitCyclesModel" "wrongAt" "I") ∈ xw_G := xw_c8 (List.mem_of_getElem? (i := 184) rfl) rfl
theorem wn_8_186 : (Jvm.Cond.lays "CircuitCyclesModel" "CircuitCyclesModel" "deep" "I") ∈ xw_G := xw_c8 (List.mem_of_getElem? (i := 186) rfl) rfl
theorem wn_8_188 : (Jvm.Cond.lays "CircuitCyclesModel" "CircuitCyclesModel" "modules" "I") ∈ xw_G := xw_c8 (List.mem_of_getElem? (i := 188) rfl) rfl
theorem wn_8_190 : (Jvm.Cond.laysFinal "CircuitCyclesModel" "CircuitCyclesModel" "moduleName" "[I") ∈ xw_G := xw_c8 (List.mem_of_getElem? (i := 190) rfl) rfl
theorem wn_8_192 : (Jvm.Cond.laysFinal "CircuitCyclesModel" "CircuitCyclesModel" "firstSignal" "[I") ∈ xw_G := xw_c8 (List.mem_of_getElem? (i := 192) rfl) rfl
theorem wn_8_194 : (Jvm.Cond.laysFinal "CircuitCyclesModel" "CircuitCyclesModel" "firstInstance" "[I") ∈ xw_G := xw_c8 (List.mem_of_getElem? (i := 194) rfl) rfl
theorem wn_8_196 : (Jvm.Cond.laysFinal "CircuitCyclesModel" "CircuitCyclesModel" "firstAssert" "[I") ∈ xw_G := xw_c8 (List.mem_of_getElem? (i := 196) rfl) rfl
theorem wn_8_198 : (Jvm.Cond.laysFinal "CircuitCyclesModel" "CircuitCyclesModel" "firstAlways" "[I") ∈ xw_G := xw_c8 (List.mem_of_getElem? (i := 198) rfl) rfl
theorem wn_8_200 : (Jvm.Cond.lays "CircuitCyclesModel" "CircuitCyclesModel" "locals" "I") ∈ xw_G := xw_c8 (List.mem_of_getElem? (i := 200) rfl) rfl
theorem wn_8_202 : (Jvm.Cond.laysFinal "CircuitCyclesModel" "CircuitCyclesModel" "localName" "[I") ∈ xw_G := xw_c8 (List.mem_of_getElem? (i := 202) rfl) rfl
theorem wn_8_204 : (Jvm.Cond.laysFinal "CircuitCyclesModel" "CircuitCyclesModel" "localWidth" "[I") ∈ xw_G := xw_c8 (List.mem_of_getElem? (i := 204) rfl) rfl
theorem wn_8_206 : (Jvm.Cond.laysFinal "CircuitCyclesModel" "CircuitCyclesModel" "localKind" "[I") ∈ xw_G := xw_c8 (List.mem_of_getElem? (i := 206) rfl) rfl
theorem wn_8_208 : (Jvm.Cond.laysFinal "CircuitCyclesModel" "CircuitCyclesModel" "localFirst" "[J") ∈ xw_G := xw_c8 (List.mem_of_getElem? (i := 208) rfl) rfl
theorem wn_8_210 : (Jvm.Cond.laysFinal "CircuitCyclesModel" "CircuitCyclesModel" "driverKind" "[I") ∈ xw_G := xw_c8 (List.mem_of_getElem? (i := 210) rfl) rfl
theorem wn_8_212 : (Jvm.Cond.laysFinal "CircuitCyclesModel" "CircuitCyclesModel" "driverFrom" "[I") ∈ xw_G := xw_c8 (List.mem_of_getElem? (i := 212) rfl) rfl
theorem wn_8_214 : (Jvm.Cond.laysFinal "CircuitCyclesModel" "CircuitCyclesModel" "driverTo" "[I") ∈ xw_G := xw_c8 (List.mem_of_getElem? (i := 214) rfl) rfl
theorem wn_8_216 : (Jvm.Cond.laysFinal "CircuitCyclesModel" "CircuitCyclesModel" "setIn" "[I") ∈ xw_G := xw_c8 (List.mem_of_getElem? (i := 216) rfl) rfl
theorem wn_8_218 : (Jvm.Cond.lays "CircuitCyclesModel" "CircuitCyclesModel" "items" "I") ∈ xw_G := xw_c8 (List.mem_of_getElem? (i := 218) rfl) rfl
theorem wn_8_220 : (Jvm.Cond.laysFinal "CircuitCyclesModel" "CircuitCyclesModel" "itemModule" "[I") ∈ xw_G := xw_c8 (List.mem_of_getElem? (i := 220) rfl) rfl
theorem wn_8_222 : (Jvm.Cond.laysFinal "CircuitCyclesModel" "CircuitCyclesModel" "itemName" "[I") ∈ xw_G := xw_c8 (List.mem_of_getElem? (i := 222) rfl) rfl
theorem wn_8_224 : (Jvm.Cond.laysFinal "CircuitCyclesModel" "CircuitCyclesModel" "firstLink" "[I") ∈ xw_G := xw_c8 (List.mem_of_getElem? (i := 224) rfl) rfl
theorem wn_8_226 : (Jvm.Cond.lays "CircuitCyclesModel" "CircuitCyclesModel" "links" "I") ∈ xw_G := xw_c8 (List.mem_of_getElem? (i := 226) rfl) rfl
theorem wn_8_228 : (Jvm.Cond.laysFinal "CircuitCyclesModel" "CircuitCyclesModel" "linkPort" "[I") ∈ xw_G := xw_c8 (List.mem_of_getElem? (i := 228) rfl) rfl
theorem wn_8_230 : (Jvm.Cond.laysFinal "CircuitCyclesModel" "CircuitCyclesModel" "linkFrom" "[I") ∈ xw_G := xw_c8 (List.mem_of_getElem? (i := 230) rfl) rfl
theorem wn_8_232 : (Jvm.Cond.laysFinal "CircuitCyclesModel" "CircuitCyclesModel" "linkTo" "[I") ∈ xw_G := xw_c8 (List.mem_of_getElem? (i := 232) rfl) rfl
theorem wn_8_234 : (Jvm.Cond.lays "CircuitCyclesModel" "CircuitCyclesModel" "asserts" "I") ∈ xw_G := xw_c8 (List.mem_of_getElem? (i := 234) rfl) rfl
theorem wn_8_236 : (Jvm.Cond.laysFinal "CircuitCyclesModel" "CircuitCyclesModel" "assertFrom" "[I") ∈ xw_G := xw_c8 (List.mem_of_getElem? (i := 236) rfl) rfl
theorem wn_8_238 : (Jvm.Cond.laysFinal "CircuitCyclesModel" "CircuitCyclesModel" "assertTo" "[I") ∈ xw_G := xw_c8 (List.mem_of_getElem? (i := 238) rfl) rfl
theorem wn_9_0 : (Jvm.Cond.lays "CircuitCyclesModel" "CircuitCyclesModel" "always" "I") ∈ xw_G := xw_c9 (List.mem_of_getElem? (i := 0) rfl) rfl
theorem wn_9_2 : (Jvm.Cond.laysFinal "CircuitCyclesModel" "CircuitCyclesModel" "alwaysFrom" "[I") ∈ xw_G := xw_c9 (List.mem_of_getElem? (i := 2) rfl) rfl
theorem wn_9_4 : (Jvm.Cond.laysFinal "CircuitCyclesModel" "CircuitCyclesModel" "alwaysTo" "[I") ∈ xw_G := xw_c9 (List.mem_of_getElem? (i := 4) rfl) rfl
theorem wn_9_6 : (Jvm.Cond.lays "CircuitCyclesModel" "CircuitCyclesModel" "code" "[I") ∈ xw_G := xw_c9 (List.mem_of_getElem? (i := 6) rfl) rfl
theorem wn_9_8 : (Jvm.Cond.lays "CircuitCyclesModel" "CircuitCyclesModel" "laid" "I") ∈ xw_G := xw_c9 (List.mem_of_getElem? (i := 8) rfl) rfl
theorem wn_9_10 : (Jvm.Cond.lays "CircuitCyclesModel" "CircuitCyclesModel" "numbers" "[J") ∈ xw_G := xw_c9 (List.mem_of_getElem? (i := 10) rfl) rfl
theorem wn_9_12 : (Jvm.Cond.lays "CircuitCyclesModel" "CircuitCyclesModel" "numberCount" "I") ∈ xw_G := xw_c9 (List.mem_of_getElem? (i := 12) rfl) rfl
theorem wn_9_14 : (Jvm.Cond.laysFinal "CircuitCyclesModel" "CircuitCyclesModel" "moduleCost" "[J") ∈ xw_G := xw_c9 (List.mem_of_getElem? (i := 14) rfl) rfl
theorem wn_9_16 : (Jvm.Cond.laysFinal "CircuitCyclesModel" "CircuitCyclesModel" "moduleInstances" "[J") ∈ xw_G := xw_c9 (List.mem_of_getElem? (i := 16) rfl) rfl
theorem wn_9_18 : (Jvm.Cond.laysFinal "CircuitCyclesModel" "CircuitCyclesModel" "moduleSignals" "[J") ∈ xw_G := xw_c9 (List.mem_of_getElem? (i := 18) rfl) rfl
theorem wn_9_20 : (Jvm.Cond.laysFinal "CircuitCyclesModel" "CircuitCyclesModel" "moduleBits" "[J") ∈ xw_G := xw_c9 (List.mem_of_getElem? (i := 20) rfl) rfl
theorem wn_9_22 : (Jvm.Cond.laysFinal "CircuitCyclesModel" "CircuitCyclesModel" "waitOp" "[I") ∈ xw_G := xw_c9 (List.mem_of_getElem? (i := 22) rfl) rfl
theorem wn_9_24 : (Jvm.Cond.laysFinal "CircuitCyclesModel" "CircuitCyclesModel" "waitAt" "[I") ∈ xw_G := xw_c9 (List.mem_of_getElem? (i := 24) rfl) rfl
theorem wn_9_26 : (Jvm.Cond.lays "CircuitCyclesModel" "CircuitCyclesModel" "waits" "I") ∈ xw_G := xw_c9 (List.mem_of_getElem? (i := 26) rfl) rfl
theorem wn_9_28 : (Jvm.Cond.laysFinal "CircuitCyclesModel" "CircuitCyclesModel" "widths" "[I") ∈ xw_G := xw_c9 (List.mem_of_getElem? (i := 28) rfl) rfl
theorem wn_9_30 : (Jvm.Cond.lays "CircuitCyclesModel" "CircuitCyclesModel" "widthCount" "I") ∈ xw_G := xw_c9 (List.mem_of_getElem? (i := 30) rfl) rfl
theorem wn_9_32 : (Jvm.Cond.lays "CircuitCyclesModel" "CircuitCyclesModel" "there" "Z") ∈ xw_G := xw_c9 (List.mem_of_getElem? (i := 32) rfl) rfl
theorem wn_9_34 : (Jvm.Cond.laysFinal "CircuitCyclesModel" "CircuitCyclesModel" "text" "[B") ∈ xw_G := xw_c9 (List.mem_of_getElem? (i := 34) rfl) rfl
theorem wn_9_36 : (Jvm.Cond.lays "CircuitCyclesModel" "CircuitCyclesModel" "instances" "I") ∈ xw_G := xw_c9 (List.mem_of_getElem? (i := 36) rfl) rfl
theorem wn_9_38 : (Jvm.Cond.laysFinal "CircuitCyclesModel" "CircuitCyclesModel" "instanceModule" "[I") ∈ xw_G := xw_c9 (List.mem_of_getElem? (i := 38) rfl) rfl
theorem wn_9_40 : (Jvm.Cond.laysFinal "CircuitCyclesModel" "CircuitCyclesModel" "instanceBase" "[I") ∈ xw_G := xw_c9 (List.mem_of_getElem? (i := 40) rfl) rfl
theorem wn_9_42 : (Jvm.Cond.laysFinal "CircuitCyclesModel" "CircuitCyclesModel" "instanceUp" "[I") ∈ xw_G := xw_c9 (List.mem_of_getElem? (i := 42) rfl) rfl
theorem wn_9_44 : (Jvm.Cond.laysFinal "CircuitCyclesModel" "CircuitCyclesModel" "instanceItem" "[I") ∈ xw_G := xw_c9 (List.mem_of_getElem? (i := 44) rfl) rfl
theorem wn_9_46 : (Jvm.Cond.laysFinal "CircuitCyclesModel" "CircuitCyclesModel" "stack" "[I") ∈ xw_G := xw_c9 (List.mem_of_getElem? (i := 46) rfl) rfl
theorem wn_9_48 : (Jvm.Cond.laysFinal "CircuitCyclesModel" "CircuitCyclesModel" "stackNext" "[I") ∈ xw_G := xw_c9 (List.mem_of_getElem? (i := 48) rfl) rfl
theorem wn_9_50 : (Jvm.Cond.lays "CircuitCyclesModel" "CircuitCyclesModel" "signals" "I") ∈ xw_G := xw_c9 (List.mem_of_getElem? (i := 50) rfl) rfl
theorem wn_9_52 : (Jvm.Cond.laysFinal "CircuitCyclesModel" "CircuitCyclesModel" "signalLocal" "[I") ∈ xw_G := xw_c9 (List.mem_of_getElem? (i := 52) rfl) rfl
theorem wn_9_54 : (Jvm.Cond.laysFinal "CircuitCyclesModel" "CircuitCyclesModel" "signalInstance" "[I") ∈ xw_G := xw_c9 (List.mem_of_getElem? (i := 54) rfl) rfl
theorem wn_9_56 : (Jvm.Cond.laysFinal "CircuitCyclesModel" "CircuitCyclesModel" "ruleKind" "[I") ∈ xw_G := xw_c9 (List.mem_of_getElem? (i := 56) rfl) rfl
theorem wn_9_58 : (Jvm.Cond.laysFinal "CircuitCyclesModel" "CircuitCyclesModel" "ruleFrom" "[I") ∈ xw_G := xw_c9 (List.mem_of_getElem? (i := 58) rfl) rfl
theorem wn_9_60 : (Jvm.Cond.laysFinal "CircuitCyclesModel" "CircuitCyclesModel" "ruleTo" "[I") ∈ xw_G := xw_c9 (List.mem_of_getElem? (i := 60) rfl) rfl
theorem wn_9_62 : (Jvm.Cond.laysFinal "CircuitCyclesModel" "CircuitCyclesModel" "ruleFor" "[I") ∈ xw_G := xw_c9 (List.mem_of_getElem? (i := 62) rfl) rfl
theorem wn_9_64 : (Jvm.Cond.laysFinal "CircuitCyclesModel" "CircuitCyclesModel" "order" "[I") ∈ xw_G := xw_c9 (List.mem_of_getElem? (i := 64) rfl) rfl
theorem wn_9_66 : (Jvm.Cond.lays "CircuitCyclesModel" "CircuitCyclesModel" "ordered" "I") ∈ xw_G := xw_c9 (List.mem_of_getElem? (i := 66) rfl) rfl
theorem wn_9_68 : (Jvm.Cond.laysFinal "CircuitCyclesModel" "CircuitCyclesModel" "ready" "[Z") ∈ xw_G := xw_c9 (List.mem_of_getElem? (i := 68) rfl) rfl
theorem wn_9_70 : (Jvm.Cond.laysFinal "CircuitCyclesModel" "CircuitCyclesModel" "met" "[Z") ∈ xw_G := xw_c9 (List.mem_of_getElem? (i := 70) rfl) rfl
theorem wn_9_72 : (Jvm.Cond.laysFinal "CircuitCyclesModel" "CircuitCyclesModel" "queue" "[I") ∈ xw_G := xw_c9 (List.mem_of_getElem? (i := 72) rfl) rfl
theorem wn_9_74 : (Jvm.Cond.lays "CircuitCyclesModel" "CircuitCyclesModel" "modulesThere" "I") ∈ xw_G := xw_c9 (List.mem_of_getElem? (i := 74) rfl) rfl
theorem wn_9_76 : (Jvm.Cond.lays "CircuitCyclesModel" "CircuitCyclesModel" "registerBits" "I") ∈ xw_G := xw_c9 (List.mem_of_getElem? (i := 76) rfl) rfl
theorem wn_9_78 : (Jvm.Cond.lays "CircuitCyclesModel" "CircuitCyclesModel" "inputBits" "I") ∈ xw_G := xw_c9 (List.mem_of_getElem? (i := 78) rfl) rfl
theorem wn_9_80 : (Jvm.Cond.lays "CircuitCyclesModel" "CircuitCyclesModel" "assertsThere" "I") ∈ xw_G := xw_c9 (List.mem_of_getElem? (i := 80) rfl) rfl
theorem wn_9_82 : (Jvm.Cond.lays "CircuitCyclesModel" "CircuitCyclesModel" "costThere" "J") ∈ xw_G := xw_c9 (List.mem_of_getElem? (i := 82) rfl) rfl
theorem wn_9_84 : (Jvm.Cond.laysFinal "CircuitCyclesModel" "CircuitCyclesModel" "values" "[J") ∈ xw_G := xw_c9 (List.mem_of_getElem? (i := 84) rfl) rfl
theorem wn_9_86 : (Jvm.Cond.laysFinal "CircuitCyclesModel" "CircuitCyclesModel" "nexts" "[J") ∈ xw_G := xw_c9 (List.mem_of_getElem? (i := 86) rfl) rfl
theorem wn_9_88 : (Jvm.Cond.laysFinal "CircuitCyclesModel" "CircuitCyclesModel" "registers" "[J") ∈ xw_G := xw_c9 (List.mem_of_getElem? (i := 88) rfl) rfl
theorem wn_9_90 : (Jvm.Cond.laysFinal "CircuitCyclesModel" "CircuitCyclesModel" "inputs" "[J") ∈ xw_G := xw_c9 (List.mem_of_getElem? (i := 90) rfl) rfl
theorem wn_9_92 : (Jvm.Cond.laysFinal "CircuitCyclesModel" "CircuitCyclesModel" "pile" "[J") ∈ xw_G := xw_c9 (List.mem_of_getElem? (i := 92) rfl) rfl
theorem wn_9_94 : (Jvm.Cond.lays "CircuitCyclesModel" "CircuitCyclesModel" "high" "I") ∈ xw_G := xw_c9 (List.mem_of_getElem? (i := 94) rfl) rfl
theorem wn_9_96 : (Jvm.Cond.lays "CircuitCyclesModel" "CircuitCyclesModel" "cycle" "I") ∈ xw_G := xw_c9 (List.mem_of_getElem? (i := 96) rfl) rfl
theorem wn_9_98 : (Jvm.Cond.lays "CircuitCyclesModel" "CircuitCyclesModel" "valueFits" "Z") ∈ xw_G := xw_c9 (List.mem_of_getElem? (i := 98) rfl) rfl
theorem wn_9_100 : (Jvm.Cond.lays "CircuitCyclesModel" "CircuitCyclesModel" "tapeSize" "I") ∈ xw_G := xw_c9 (List.mem_of_getElem? (i := 100) rfl) rfl
theorem wn_9_102 : (Jvm.Cond.lays "CircuitCyclesModel" "CircuitCyclesModel" "textSize" "I") ∈ xw_G := xw_c9 (List.mem_of_getElem? (i := 102) rfl) rfl
theorem wn_9_104 : (Jvm.Cond.laysFinal "CircuitCyclesModel" "CircuitCyclesModel" "src" "[B") ∈ xw_G := xw_c9 (List.mem_of_getElem? (i := 104) rfl) rfl
theorem in_M : ∀ w ∈ u_ws rn_M fn_M 91, w ∈ xw_G := by
  show ∀ w ∈ ([(Jvm.Cond.lays "CircuitCyclesModel" "CircuitCyclesModel" "thrown" "I"), (Jvm.Cond.laysFinal "CircuitCyclesModel" "CircuitCyclesModel" "tape" "[B"), (Jvm.Cond.lays "CircuitCyclesModel" "CircuitCyclesModel" "size" "I"), (Jvm.Cond.lays "CircuitCyclesModel" "CircuitCyclesModel" "fault" "I"), (Jvm.Cond.laysFinal "CircuitCyclesModel" "CircuitCyclesModel" "kinds" "[I"), (Jvm.Cond.laysFinal "CircuitCyclesModel" "CircuitCyclesModel" "begins" "[I"), (Jvm.Cond.laysFinal "CircuitCyclesModel" "CircuitCyclesModel" "ends" "[I"), (Jvm.Cond.lays "CircuitCyclesModel" "CircuitCyclesModel" "tokens" "I"), (Jvm.Cond.lays "CircuitCyclesModel" "CircuitCyclesModel" "t" "I"), (Jvm.Cond.lays "CircuitCyclesModel" "CircuitCyclesModel" "wrong" "I"), (Jvm.Cond.lays "CircuitCyclesModel" "CircuitCyclesModel" "wrongAt" "I"), (Jvm.Cond.lays "CircuitCyclesModel" "CircuitCyclesModel" "deep" "I"), (Jvm.Cond.lays "CircuitCyclesModel" "CircuitCyclesModel" "modules" "I"), (Jvm.Cond.laysFinal "CircuitCyclesModel" "CircuitCyclesModel" "moduleName" "[I"), (Jvm.Cond.laysFinal "CircuitCyclesModel" "CircuitCyclesModel" "firstSignal" "[I"), (Jvm.Cond.laysFinal "CircuitCyclesModel" "CircuitCyclesModel" "firstInstance" "[I"), (Jvm.Cond.laysFinal "CircuitCyclesModel" "CircuitCyclesModel" "firstAssert" "[I"), (Jvm.Cond.laysFinal "CircuitCyclesModel" "CircuitCyclesModel" "firstAlways" "[I"), (Jvm.Cond.lays "CircuitCyclesModel" "CircuitCyclesModel" "locals" "I"), (Jvm.Cond.laysFinal "CircuitCyclesModel" "CircuitCyclesModel" "localName" "[I"), (Jvm.Cond.laysFinal "CircuitCyclesModel" "CircuitCyclesModel" "localWidth" "[I"), (Jvm.Cond.laysFinal "CircuitCyclesModel" "CircuitCyclesModel" "localKind" "[I"), (Jvm.Cond.laysFinal "CircuitCyclesModel" "CircuitCyclesModel" "localFirst" "[J"), (Jvm.Cond.laysFinal "CircuitCyclesModel" "CircuitCyclesModel" "driverKind" "[I"), (Jvm.Cond.laysFinal "CircuitCyclesModel" "CircuitCyclesModel" "driverFrom" "[I"), (Jvm.Cond.laysFinal "CircuitCyclesModel" "CircuitCyclesModel" "driverTo" "[I"), (Jvm.Cond.laysFinal "CircuitCyclesModel" "CircuitCyclesModel" "setIn" "[I"), (Jvm.Cond.lays "CircuitCyclesModel" "CircuitCyclesModel" "items" "I"), (Jvm.Cond.laysFinal "CircuitCyclesModel" "CircuitCyclesModel" "itemModule" "[I"), (Jvm.Cond.laysFinal "CircuitCyclesModel" "CircuitCyclesModel" "itemName" "[I"), (Jvm.Cond.laysFinal "CircuitCyclesModel" "CircuitCyclesModel" "firstLink" "[I"), (Jvm.Cond.lays "CircuitCyclesModel" "CircuitCyclesModel" "links" "I"), (Jvm.Cond.laysFinal "CircuitCyclesModel" "CircuitCyclesModel" "linkPort" "[I"), (Jvm.Cond.laysFinal "CircuitCyclesModel" "CircuitCyclesModel" "linkFrom" "[I"), (Jvm.Cond.laysFinal "CircuitCyclesModel" "CircuitCyclesModel" "linkTo" "[I"), (Jvm.Cond.lays "CircuitCyclesModel" "CircuitCyclesModel" "asserts" "I"), (Jvm.Cond.laysFinal "CircuitCyclesModel" "CircuitCyclesModel" "assertFrom" "[I"), (Jvm.Cond.laysFinal "CircuitCyclesModel" "CircuitCyclesModel" "assertTo" "[I"), (Jvm.Cond.lays "CircuitCyclesModel" "CircuitCyclesModel" "always" "I"), (Jvm.Cond.laysFinal "CircuitCyclesModel" "CircuitCyclesModel" "alwaysFrom" "[I"), (Jvm.Cond.laysFinal "CircuitCyclesModel" "CircuitCyclesModel" "alwaysTo" "[I"), (Jvm.Cond.lays "CircuitCyclesModel" "CircuitCyclesModel" "code" "[I"), (Jvm.Cond.lays "CircuitCyclesModel" "CircuitCyclesModel" "laid" "I"), (Jvm.Cond.lays "CircuitCyclesModel" "CircuitCyclesModel" "numbers" "[J"), (Jvm.Cond.lays "CircuitCyclesModel" "CircuitCyclesModel" "numberCount" "I"), (Jvm.Cond.laysFinal "CircuitCyclesModel" "CircuitCyclesModel" "moduleCost" "[J"), (Jvm.Cond.laysFinal "CircuitCyclesModel" "CircuitCyclesModel" "moduleInstances" "[J"), (Jvm.Cond.laysFinal "CircuitCyclesModel" "CircuitCyclesModel" "moduleSignals" "[J"), (Jvm.Cond.laysFinal "CircuitCyclesModel" "CircuitCyclesModel" "moduleBits" "[J"), (Jvm.Cond.laysFinal "CircuitCyclesModel" "CircuitCyclesModel" "waitOp" "[I"), (Jvm.Cond.laysFinal "CircuitCyclesModel" "CircuitCyclesModel" "waitAt" "[I"), (Jvm.Cond.lays "CircuitCyclesModel" "CircuitCyclesModel" "waits" "I"), (Jvm.Cond.laysFinal "CircuitCyclesModel" "CircuitCyclesModel" "widths" "[I"), (Jvm.Cond.lays "CircuitCyclesModel" "CircuitCyclesModel" "widthCount" "I"), (Jvm.Cond.lays "CircuitCyclesModel" "CircuitCyclesModel" "there" "Z"), (Jvm.Cond.laysFinal "CircuitCyclesModel" "CircuitCyclesModel" "text" "[B"), (Jvm.Cond.lays "CircuitCyclesModel" "CircuitCyclesModel" "instances" "I"), (Jvm.Cond.laysFinal "CircuitCyclesModel" "CircuitCyclesModel" "instanceModule" "[I"), (Jvm.Cond.laysFinal "CircuitCyclesModel" "CircuitCyclesModel" "instanceBase" "[I"), (Jvm.Cond.laysFinal "CircuitCyclesModel" "CircuitCyclesModel" "instanceUp" "[I"), (Jvm.Cond.laysFinal "CircuitCyclesModel" "CircuitCyclesModel" "instanceItem" "[I"), (Jvm.Cond.laysFinal "CircuitCyclesModel" "CircuitCyclesModel" "stack" "[I"), (Jvm.Cond.laysFinal "CircuitCyclesModel" "CircuitCyclesModel" "stackNext" "[I"), (Jvm.Cond.lays "CircuitCyclesModel" "CircuitCyclesModel" "signals" "I"), (Jvm.Cond.laysFinal "CircuitCyclesModel" "CircuitCyclesModel" "signalLocal" "[I"), (Jvm.Cond.laysFinal "CircuitCyclesModel" "CircuitCyclesModel" "signalInstance" "[I"), (Jvm.Cond.laysFinal "CircuitCyclesModel" "CircuitCyclesModel" "ruleKind" "[I"), (Jvm.Cond.laysFinal "CircuitCyclesModel" "CircuitCyclesModel" "ruleFrom" "[I"), (Jvm.Cond.laysFinal "CircuitCyclesModel" "CircuitCyclesModel" "ruleTo" "[I"), (Jvm.Cond.laysFinal "CircuitCyclesModel" "CircuitCyclesModel" "ruleFor" "[I"), (Jvm.Cond.laysFinal "CircuitCyclesModel" "CircuitCyclesModel" "order" "[I"), (Jvm.Cond.lays "CircuitCyclesModel" "CircuitCyclesModel" "ordered" "I"), (Jvm.Cond.laysFinal "CircuitCyclesModel" "CircuitCyclesModel" "ready" "[Z"), (Jvm.Cond.laysFinal "CircuitCyclesModel" "CircuitCyclesModel" "met" "[Z"), (Jvm.Cond.laysFinal "CircuitCyclesModel" "CircuitCyclesModel" "queue" "[I"), (Jvm.Cond.lays "CircuitCyclesModel" "CircuitCyclesModel" "modulesThere" "I"), (Jvm.Cond.lays "CircuitCyclesModel" "CircuitCyclesModel" "registerBits" "I"), (Jvm.Cond.lays "CircuitCyclesModel" "CircuitCyclesModel" "inputBits" "I"), (Jvm.Cond.lays "CircuitCyclesModel" "CircuitCyclesModel" "assertsThere" "I"), (Jvm.Cond.lays "CircuitCyclesModel" "CircuitCyclesModel" "costThere" "J"), (Jvm.Cond.laysFinal "CircuitCyclesModel" "CircuitCyclesModel" "values" "[J"), (Jvm.Cond.laysFinal "CircuitCyclesModel" "CircuitCyclesModel" "nexts" "[J"), (Jvm.Cond.laysFinal "CircuitCyclesModel" "CircuitCyclesModel" "registers" "[J"), (Jvm.Cond.laysFinal "CircuitCyclesModel" "CircuitCyclesModel" "inputs" "[J"), (Jvm.Cond.laysFinal "CircuitCyclesModel" "CircuitCyclesModel" "pile" "[J"), (Jvm.Cond.lays "CircuitCyclesModel" "CircuitCyclesModel" "high" "I"), (Jvm.Cond.lays "CircuitCyclesModel" "CircuitCyclesModel" "cycle" "I"), (Jvm.Cond.lays "CircuitCyclesModel" "CircuitCyclesModel" "valueFits" "Z"), (Jvm.Cond.lays "CircuitCyclesModel" "CircuitCyclesModel" "tapeSize" "I"), (Jvm.Cond.lays "CircuitCyclesModel" "CircuitCyclesModel" "textSize" "I"), (Jvm.Cond.laysFinal "CircuitCyclesModel" "CircuitCyclesModel" "src" "[B")] : List Cond), w ∈ xw_G
  exact List.forall_mem_cons.mpr ⟨wn_8_164, List.forall_mem_cons.mpr ⟨wn_8_166, List.forall_mem_cons.mpr ⟨wn_8_168, List.forall_mem_cons.mpr ⟨wn_8_170, List.forall_mem_cons.mpr ⟨wn_8_172, List.forall_mem_cons.mpr ⟨wn_8_174, List.forall_mem_cons.mpr ⟨wn_8_176, List.forall_mem_cons.mpr ⟨wn_8_178, List.forall_mem_cons.mpr ⟨wn_8_180, List.forall_mem_cons.mpr ⟨wn_8_182, List.forall_mem_cons.mpr ⟨wn_8_184, List.forall_mem_cons.mpr ⟨wn_8_186, List.forall_mem_cons.mpr ⟨wn_8_188, List.forall_mem_cons.mpr ⟨wn_8_190, List.forall_mem_cons.mpr ⟨wn_8_192, List.forall_mem_cons.mpr ⟨wn_8_194, List.forall_mem_cons.mpr ⟨wn_8_196, List.forall_mem_cons.mpr ⟨wn_8_198, List.forall_mem_cons.mpr ⟨wn_8_200, List.forall_mem_cons.mpr ⟨wn_8_202, List.forall_mem_cons.mpr ⟨wn_8_204, List.forall_mem_cons.mpr ⟨wn_8_206, List.forall_mem_cons.mpr ⟨wn_8_208, List.forall_mem_cons.mpr ⟨wn_8_210, List.forall_mem_cons.mpr ⟨wn_8_212, List.forall_mem_cons.mpr ⟨wn_8_214, List.forall_mem_cons.mpr ⟨wn_8_216, List.forall_mem_cons.mpr ⟨wn_8_218, List.forall_mem_cons.mpr ⟨wn_8_220, List.forall_mem_cons.mpr ⟨wn_8_222, List.forall_mem_cons.mpr ⟨wn_8_224, List.forall_mem_cons.mpr ⟨wn_8_226, List.forall_mem_cons.mpr ⟨wn_8_228, List.forall_mem_cons.mpr ⟨wn_8_230, List.forall_mem_cons.mpr ⟨wn_8_232, List.forall_mem_cons.mpr ⟨wn_8_234, List.forall_mem_cons.mpr ⟨wn_8_236, List.forall_mem_cons.mpr ⟨wn_8_238, List.forall_mem_cons.mpr ⟨wn_9_0, List.forall_mem_cons.mpr ⟨wn_9_2, List.forall_mem_cons.mpr ⟨wn_9_4, List.forall_mem_cons.mpr ⟨wn_9_6, List.forall_mem_cons.mpr ⟨wn_9_8, List.forall_mem_cons.mpr ⟨wn_9_10, List.forall_mem_cons.mpr ⟨wn_9_12, List.forall_mem_cons.mpr ⟨wn_9_14, List.forall_mem_cons.mpr ⟨wn_9_16, List.forall_mem_cons.mpr ⟨wn_9_18, List.forall_mem_cons.mpr ⟨wn_9_20, List.forall_mem_cons.mpr ⟨wn_9_22, List.forall_mem_cons.mpr ⟨wn_9_24, List.forall_mem_cons.mpr ⟨wn_9_26, List.forall_mem_cons.mpr ⟨wn_9_28, List.forall_mem_cons.mpr ⟨wn_9_30, List.forall_mem_cons.mpr ⟨wn_9_32, List.forall_mem_cons.mpr ⟨wn_9_34, List.forall_mem_cons.mpr ⟨wn_9_36, List.forall_mem_cons.mpr ⟨wn_9_38, List.forall_mem_cons.mpr ⟨wn_9_40, List.forall_mem_cons.mpr ⟨wn_9_42, List.forall_mem_cons.mpr ⟨wn_9_44, List.forall_mem_cons.mpr ⟨wn_9_46, List.forall_mem_cons.mpr ⟨wn_9_48, List.forall_mem_cons.mpr ⟨wn_9_50, List.forall_mem_cons.mpr ⟨wn_9_52, List.forall_mem_cons.mpr ⟨wn_9_54, List.forall_mem_cons.mpr ⟨wn_9_56, List.forall_mem_cons.mpr ⟨wn_9_58, List.forall_mem_cons.mpr ⟨wn_9_60, List.forall_mem_cons.mpr ⟨wn_9_62, List.forall_mem_cons.mpr ⟨wn_9_64, List.forall_mem_cons.mpr ⟨wn_9_66, List.forall_mem_cons.mpr ⟨wn_9_68, List.forall_mem_cons.mpr ⟨wn_9_70, List.forall_mem_cons.mpr ⟨wn_9_72, List.forall_mem_cons.mpr ⟨wn_9_74, List.forall_mem_cons.mpr ⟨wn_9_76, List.forall_mem_cons.mpr ⟨wn_9_78, List.forall_mem_cons.mpr ⟨wn_9_80, List.forall_mem_cons.mpr ⟨wn_9_82, List.forall_mem_cons.mpr ⟨wn_9_84, List.forall_mem_cons.mpr ⟨wn_9_86, List.forall_mem_cons.mpr ⟨wn_9_88, List.forall_mem_cons.mpr ⟨wn_9_90, List.forall_mem_cons.mpr ⟨wn_9_92, List.forall_mem_cons.mpr ⟨wn_9_94, List.forall_mem_cons.mpr ⟨wn_9_96, List.forall_mem_cons.mpr ⟨wn_9_98, List.forall_mem_cons.mpr ⟨wn_9_100, List.forall_mem_cons.mpr ⟨wn_9_102, List.forall_mem_cons.mpr ⟨wn_9_104, (List.forall_mem_nil _)⟩⟩⟩⟩⟩⟩⟩⟩⟩⟩⟩⟩⟩⟩⟩⟩⟩⟩⟩⟩⟩⟩⟩⟩⟩⟩⟩⟩⟩⟩⟩⟩⟩⟩⟩⟩⟩⟩⟩⟩⟩⟩⟩⟩⟩⟩⟩⟩⟩⟩⟩⟩⟩⟩⟩⟩⟩⟩⟩⟩⟩⟩⟩⟩⟩⟩⟩⟩⟩⟩⟩⟩⟩⟩⟩⟩⟩⟩⟩⟩⟩⟩⟩⟩⟩⟩⟩⟩⟩⟩⟩
theorem in_C : ∀ w ∈ u_ws rn_C fn_C 11, w ∈ xw_G := by
  show ∀ w ∈ ([(Jvm.Cond.lays "CircuitCycles" "CircuitCycles" "length" "I"), (Jvm.Cond.lays "CircuitCycles" "CircuitCycles" "faultCode" "I"), (Jvm.Cond.laysFinal "CircuitCycles" "CircuitCycles" "tokens" "LCircuitCycles$Tokens;"), (Jvm.Cond.laysFinal "CircuitCycles" "CircuitCycles" "scanner" "LCircuitCycles$Scanner;"), (Jvm.Cond.laysFinal "CircuitCycles" "CircuitCycles" "checker" "LCircuitCycles$Checker;"), (Jvm.Cond.laysFinal "CircuitCycles" "CircuitCycles" "grammar" "LCircuitCycles$Grammar;"), (Jvm.Cond.laysFinal "CircuitCycles" "CircuitCycles" "order" "LCircuitCycles$Order;"), (Jvm.Cond.laysFinal "CircuitCycles" "CircuitCycles" "machine" "LCircuitCycles$Machine;"), (Jvm.Cond.lays "CircuitCycles" "CircuitCycles" "stands" "Z"), (Jvm.Cond.lays "CircuitCycles" "CircuitCycles" "circuit" "LCircuitCycles$Circuit;"), (Jvm.Cond.lays "CircuitCycles" "CircuitCycles" "spare" "LCircuitCycles$Circuit;")] : List Cond), w ∈ xw_G
  exact List.forall_mem_cons.mpr ⟨wn_3_136, List.forall_mem_cons.mpr ⟨wn_3_138, List.forall_mem_cons.mpr ⟨wn_3_140, List.forall_mem_cons.mpr ⟨wn_3_142, List.forall_mem_cons.mpr ⟨wn_3_144, List.forall_mem_cons.mpr ⟨wn_3_146, List.forall_mem_cons.mpr ⟨wn_3_148, List.forall_mem_cons.mpr ⟨wn_3_150, List.forall_mem_cons.mpr ⟨wn_3_152, List.forall_mem_cons.mpr ⟨wn_3_154, List.forall_mem_cons.mpr ⟨wn_3_156, (List.forall_mem_nil _)⟩⟩⟩⟩⟩⟩⟩⟩⟩⟩⟩
theorem in_Tokens : ∀ w ∈ u_ws rn_Tokens fn_Tokens 9, w ∈ xw_G := by
  show ∀ w ∈ ([(Jvm.Cond.laysFinal "CircuitCycles$Tokens" "CircuitCycles$Tokens" "row" "[J"), (Jvm.Cond.lays "CircuitCycles$Tokens" "CircuitCycles$Tokens" "size" "I"), (Jvm.Cond.lays "CircuitCycles$Tokens" "CircuitCycles$Tokens" "index" "I"), (Jvm.Cond.lays "CircuitCycles$Tokens" "CircuitCycles$Tokens" "kind" "I"), (Jvm.Cond.lays "CircuitCycles$Tokens" "CircuitCycles$Tokens" "place" "I"), (Jvm.Cond.lays "CircuitCycles$Tokens" "CircuitCycles$Tokens" "extra" "I"), (Jvm.Cond.lays "CircuitCycles$Tokens" "CircuitCycles$Tokens" "faultCode" "I"), (Jvm.Cond.lays "CircuitCycles$Tokens" "CircuitCycles$Tokens" "faultPlace" "I"), (Jvm.Cond.lays "CircuitCycles$Tokens" "CircuitCycles$Tokens" "opens" "I")] : List Cond), w ∈ xw_G
  exact List.forall_mem_cons.mpr ⟨wn_1_63, List.forall_mem_cons.mpr ⟨wn_1_65, List.forall_mem_cons.mpr ⟨wn_1_67, List.forall_mem_cons.mpr ⟨wn_1_69, List.forall_mem_cons.mpr ⟨wn_1_71, List.forall_mem_cons.mpr ⟨wn_1_73, List.forall_mem_cons.mpr ⟨wn_1_75, List.forall_mem_cons.mpr ⟨wn_1_77, List.forall_mem_cons.mpr ⟨wn_1_79, (List.forall_mem_nil _)⟩⟩⟩⟩⟩⟩⟩⟩⟩
theorem in_Scanner : ∀ w ∈ u_ws rn_Scanner fn_Scanner 9, w ∈ xw_G := by
  show ∀ w ∈ ([(Jvm.Cond.laysFinal "CircuitCycles$Scanner" "CircuitCycles$Scanner" "tokens" "LCircuitCycles$Tokens;"), (Jvm.Cond.lays "CircuitCycles$Scanner" "CircuitCycles$Scanner" "text" "[B"), (Jvm.Cond.lays "CircuitCycles$Scanner" "CircuitCycles$Scanner" "length" "I"), (Jvm.Cond.lays "CircuitCycles$Scanner" "CircuitCycles$Scanner" "code" "LCircuitCycles$Code;"), (Jvm.Cond.laysFinal "CircuitCycles$Scanner" "CircuitCycles$Scanner" "heads" "[I"), (Jvm.Cond.laysFinal "CircuitCycles$Scanner" "CircuitCycles$Scanner" "nexts" "[I"), (Jvm.Cond.laysFinal "CircuitCycles$Scanner" "CircuitCycles$Scanner" "wordStarts" "[I"), (Jvm.Cond.laysFinal "CircuitCycles$Scanner" "CircuitCycles$Scanner" "wordKinds" "[I"), (Jvm.Cond.lays "CircuitCycles$Scanner" "CircuitCycles$Scanner" "words" "I")] : List Cond), w ∈ xw_G
  exact List.forall_mem_cons.mpr ⟨wn_1_99, List.forall_mem_cons.mpr ⟨wn_1_101, List.forall_mem_cons.mpr ⟨wn_1_103, List.forall_mem_cons.mpr ⟨wn_1_105, List.forall_mem_cons.mpr ⟨wn_1_107, List.forall_mem_cons.mpr ⟨wn_1_109, List.forall_mem_cons.mpr ⟨wn_1_111, List.forall_mem_cons.mpr ⟨wn_1_113, List.forall_mem_cons.mpr ⟨wn_1_115, (List.forall_mem_nil _)⟩⟩⟩⟩⟩⟩⟩⟩⟩
theorem in_Checker : ∀ w ∈ u_ws rn_Checker fn_Checker 15, w ∈ xw_G := by
  show ∀ w ∈ ([(Jvm.Cond.laysFinal "CircuitCycles$Checker" "CircuitCycles$Checker" "tokens" "LCircuitCycles$Tokens;"), (Jvm.Cond.lays "CircuitCycles$Checker" "CircuitCycles$Checker" "parts" "LCircuitCycles$Parts;"), (Jvm.Cond.lays "CircuitCycles$Checker" "CircuitCycles$Checker" "code" "LCircuitCycles$Code;"), (Jvm.Cond.lays "CircuitCycles$Checker" "CircuitCycles$Checker" "module" "I"), (Jvm.Cond.lays "CircuitCycles$Checker" "CircuitCycles$Checker" "firstDecl" "I"), (Jvm.Cond.laysFinal "CircuitCycles$Checker" "CircuitCycles$Checker" "modules" "[I"), (Jvm.Cond.laysFinal "CircuitCycles$Checker" "CircuitCycles$Checker" "decls" "[I"), (Jvm.Cond.laysFinal "CircuitCycles$Checker" "CircuitCycles$Checker" "stamps" "[I"), (Jvm.Cond.laysFinal "CircuitCycles$Checker" "CircuitCycles$Checker" "names" "[I"), (Jvm.Cond.laysFinal "CircuitCycles$Checker" "CircuitCycles$Checker" "widths" "[I"), (Jvm.Cond.lays "CircuitCycles$Checker" "CircuitCycles$Checker" "top" "I"), (Jvm.Cond.lays "CircuitCycles$Checker" "CircuitCycles$Checker" "expStart" "I"), (Jvm.Cond.lays "CircuitCycles$Checker" "CircuitCycles$Checker" "cost" "I"), (Jvm.Cond.lays "CircuitCycles$Checker" "CircuitCycles$Checker" "faultCode" "I"), (Jvm.Cond.lays "CircuitCycles$Checker" "CircuitCycles$Checker" "faultPlace" "I")] : List Cond), w ∈ xw_G
  exact List.forall_mem_cons.mpr ⟨wn_1_145, List.forall_mem_cons.mpr ⟨wn_1_147, List.forall_mem_cons.mpr ⟨wn_1_149, List.forall_mem_cons.mpr ⟨wn_1_151, List.forall_mem_cons.mpr ⟨wn_1_153, List.forall_mem_cons.mpr ⟨wn_1_155, List.forall_mem_cons.mpr ⟨wn_1_157, List.forall_mem_cons.mpr ⟨wn_1_159, List.forall_mem_cons.mpr ⟨wn_1_161, List.forall_mem_cons.mpr ⟨wn_1_163, List.forall_mem_cons.mpr ⟨wn_1_165, List.forall_mem_cons.mpr ⟨wn_1_167, List.forall_mem_cons.mpr ⟨wn_1_169, List.forall_mem_cons.mpr ⟨wn_1_171, List.forall_mem_cons.mpr ⟨wn_1_173, (List.forall_mem_nil _)⟩⟩⟩⟩⟩⟩⟩⟩⟩⟩⟩⟩⟩⟩⟩
theorem in_Meaning : ∀ w ∈ u_ws rn_Meaning fn_Meaning 17, w ∈ xw_G := by
  show ∀ w ∈ ([(Jvm.Cond.laysFinal "CircuitCycles$Meaning" "CircuitCycles$Meaning" "checker" "LCircuitCycles$Checker;"), (Jvm.Cond.lays "CircuitCycles$Meaning" "CircuitCycles$Meaning" "design" "LCircuitCycles$Design;"), (Jvm.Cond.lays "CircuitCycles$Meaning" "CircuitCycles$Meaning" "parts" "LCircuitCycles$Parts;"), (Jvm.Cond.lays "CircuitCycles$Meaning" "CircuitCycles$Meaning" "code" "LCircuitCycles$Code;"), (Jvm.Cond.lays "CircuitCycles$Meaning" "CircuitCycles$Meaning" "rangeWidth" "I"), (Jvm.Cond.lays "CircuitCycles$Meaning" "CircuitCycles$Meaning" "target" "I"), (Jvm.Cond.lays "CircuitCycles$Meaning" "CircuitCycles$Meaning" "targetLow" "I"), (Jvm.Cond.lays "CircuitCycles$Meaning" "CircuitCycles$Meaning" "targetWidth" "I"), (Jvm.Cond.lays "CircuitCycles$Meaning" "CircuitCycles$Meaning" "port" "I"), (Jvm.Cond.lays "CircuitCycles$Meaning" "CircuitCycles$Meaning" "alwaysNumber" "I"), (Jvm.Cond.lays "CircuitCycles$Meaning" "CircuitCycles$Meaning" "alwaysStart" "I"), (Jvm.Cond.lays "CircuitCycles$Meaning" "CircuitCycles$Meaning" "stores" "Z"), (Jvm.Cond.laysFinal "CircuitCycles$Meaning" "CircuitCycles$Meaning" "jumps" "[I"), (Jvm.Cond.laysFinal "CircuitCycles$Meaning" "CircuitCycles$Meaning" "exits" "[I"), (Jvm.Cond.laysFinal "CircuitCycles$Meaning" "CircuitCycles$Meaning" "matches" "[I"), (Jvm.Cond.laysFinal "CircuitCycles$Meaning" "CircuitCycles$Meaning" "widths" "[I"), (Jvm.Cond.lays "CircuitCycles$Meaning" "CircuitCycles$Meaning" "depth" "I")] : List Cond), w ∈ xw_G
  exact List.forall_mem_cons.mpr ⟨wn_1_201, List.forall_mem_cons.mpr ⟨wn_1_203, List.forall_mem_cons.mpr ⟨wn_1_205, List.forall_mem_cons.mpr ⟨wn_1_207, List.forall_mem_cons.mpr ⟨wn_1_209, List.forall_mem_cons.mpr ⟨wn_1_211, List.forall_mem_cons.mpr ⟨wn_1_213, List.forall_mem_cons.mpr ⟨wn_1_215, List.forall_mem_cons.mpr ⟨wn_1_217, List.forall_mem_cons.mpr ⟨wn_1_219, List.forall_mem_cons.mpr ⟨wn_1_221, List.forall_mem_cons.mpr ⟨wn_1_223, List.forall_mem_cons.mpr ⟨wn_1_225, List.forall_mem_cons.mpr ⟨wn_1_227, List.forall_mem_cons.mpr ⟨wn_1_229, List.forall_mem_cons.mpr ⟨wn_1_231, List.forall_mem_cons.mpr ⟨wn_1_233, (List.forall_mem_nil _)⟩⟩⟩⟩⟩⟩⟩⟩⟩⟩⟩⟩⟩⟩⟩⟩⟩
theorem in_Grammar : ∀ w ∈ u_ws rn_Grammar fn_Grammar 15, w ∈ xw_G := by
  show ∀ w ∈ ([(Jvm.Cond.laysFinal "CircuitCycles$Grammar" "CircuitCycles$Grammar" "tokens" "LCircuitCycles$Tokens;"), (Jvm.Cond.laysFinal "CircuitCycles$Grammar" "CircuitCycles$Grammar" "checker" "LCircuitCycles$Checker;"), (Jvm.Cond.laysFinal "CircuitCycles$Grammar" "CircuitCycles$Grammar" "meaning" "LCircuitCycles$Meaning;"), (Jvm.Cond.lays "CircuitCycles$Grammar" "CircuitCycles$Grammar" "state" "I"), (Jvm.Cond.lays "CircuitCycles$Grammar" "CircuitCycles$Grammar" "purpose" "I"), (Jvm.Cond.lays "CircuitCycles$Grammar" "CircuitCycles$Grammar" "signPlace" "I"), (Jvm.Cond.lays "CircuitCycles$Grammar" "CircuitCycles$Grammar" "linkPlace" "I"), (Jvm.Cond.lays "CircuitCycles$Grammar" "CircuitCycles$Grammar" "expPlace" "I"), (Jvm.Cond.lays "CircuitCycles$Grammar" "CircuitCycles$Grammar" "expIndex" "I"), (Jvm.Cond.laysFinal "CircuitCycles$Grammar" "CircuitCycles$Grammar" "contexts" "[I"), (Jvm.Cond.lays "CircuitCycles$Grammar" "CircuitCycles$Grammar" "depth" "I"), (Jvm.Cond.laysFinal "CircuitCycles$Grammar" "CircuitCycles$Grammar" "heldKinds" "[I"), (Jvm.Cond.laysFinal "CircuitCycles$Grammar" "CircuitCycles$Grammar" "heldPlaces" "[I"), (Jvm.Cond.laysFinal "CircuitCycles$Grammar" "CircuitCycles$Grammar" "heldTimes" "[I"), (Jvm.Cond.lays "CircuitCycles$Grammar" "CircuitCycles$Grammar" "held" "I")] : List Cond), w ∈ xw_G
  exact List.forall_mem_cons.mpr ⟨wn_2_15, List.forall_mem_cons.mpr ⟨wn_2_17, List.forall_mem_cons.mpr ⟨wn_2_19, List.forall_mem_cons.mpr ⟨wn_2_21, List.forall_mem_cons.mpr ⟨wn_2_23, List.forall_mem_cons.mpr ⟨wn_2_25, List.forall_mem_cons.mpr ⟨wn_2_27, List.forall_mem_cons.mpr ⟨wn_2_29, List.forall_mem_cons.mpr ⟨wn_2_31, List.forall_mem_cons.mpr ⟨wn_2_33, List.forall_mem_cons.mpr ⟨wn_2_35, List.forall_mem_cons.mpr ⟨wn_2_37, List.forall_mem_cons.mpr ⟨wn_2_39, List.forall_mem_cons.mpr ⟨wn_2_41, List.forall_mem_cons.mpr ⟨wn_2_43, (List.forall_mem_nil _)⟩⟩⟩⟩⟩⟩⟩⟩⟩⟩⟩⟩⟩⟩⟩
theorem in_Order : ∀ w ∈ u_ws rn_Order fn_Order 10, w ∈ xw_G := by
  show ∀ w ∈ ([(Jvm.Cond.lays "CircuitCycles$Order" "CircuitCycles$Order" "circuit" "LCircuitCycles$Circuit;"), (Jvm.Cond.laysFinal "CircuitCycles$Order" "CircuitCycles$Order" "numbers" "[I"), (Jvm.Cond.laysFinal "CircuitCycles$Order" "CircuitCycles$Order" "lowest" "[I"), (Jvm.Cond.laysFinal "CircuitCycles$Order" "CircuitCycles$Order" "cursors" "[I"), (Jvm.Cond.laysFinal "CircuitCycles$Order" "CircuitCycles$Order" "path" "[I"), (Jvm.Cond.laysFinal "CircuitCycles$Order" "CircuitCycles$Order" "open" "[I"), (Jvm.Cond.lays "CircuitCycles$Order" "CircuitCycles$Order" "pathSize" "I"), (Jvm.Cond.lays "CircuitCycles$Order" "CircuitCycles$Order" "openSize" "I"), (Jvm.Cond.lays "CircuitCycles$Order" "CircuitCycles$Order" "seen" "I"), (Jvm.Cond.lays "CircuitCycles$Order" "CircuitCycles$Order" "looped" "I")] : List Cond), w ∈ xw_G
  exact List.forall_mem_cons.mpr ⟨wn_2_62, List.forall_mem_cons.mpr ⟨wn_2_64, List.forall_mem_cons.mpr ⟨wn_2_66, List.forall_mem_cons.mpr ⟨wn_2_68, List.forall_mem_cons.mpr ⟨wn_2_70, List.forall_mem_cons.mpr ⟨wn_2_72, List.forall_mem_cons.mpr ⟨wn_2_74, List.forall_mem_cons.mpr ⟨wn_2_76, List.forall_mem_cons.mpr ⟨wn_2_78, List.forall_mem_cons.mpr ⟨wn_2_80, (List.forall_mem_nil _)⟩⟩⟩⟩⟩⟩⟩⟩⟩⟩
theorem in_Machine : ∀ w ∈ u_ws rn_Machine fn_Machine 5, w ∈ xw_G := by
  show ∀ w ∈ ([(Jvm.Cond.laysFinal "CircuitCycles$Machine" "CircuitCycles$Machine" "values" "[J"), (Jvm.Cond.laysFinal "CircuitCycles$Machine" "CircuitCycles$Machine" "nexts" "[J"), (Jvm.Cond.laysFinal "CircuitCycles$Machine" "CircuitCycles$Machine" "stack" "[J"), (Jvm.Cond.lays "CircuitCycles$Machine" "CircuitCycles$Machine" "cycle" "I"), (Jvm.Cond.lays "CircuitCycles$Machine" "CircuitCycles$Machine" "settled" "Z")] : List Cond), w ∈ xw_G
  exact List.forall_mem_cons.mpr ⟨wn_2_94, List.forall_mem_cons.mpr ⟨wn_2_96, List.forall_mem_cons.mpr ⟨wn_2_98, List.forall_mem_cons.mpr ⟨wn_2_100, List.forall_mem_cons.mpr ⟨wn_2_102, (List.forall_mem_nil _)⟩⟩⟩⟩⟩
theorem in_Circuit : ∀ w ∈ u_ws rn_Circuit fn_Circuit 14, w ∈ xw_G := by
  show ∀ w ∈ ([(Jvm.Cond.laysFinal "CircuitCycles$Circuit" "CircuitCycles$Circuit" "design" "LCircuitCycles$Design;"), (Jvm.Cond.lays "CircuitCycles$Circuit" "CircuitCycles$Circuit" "instances" "I"), (Jvm.Cond.lays "CircuitCycles$Circuit" "CircuitCycles$Circuit" "signals" "I"), (Jvm.Cond.lays "CircuitCycles$Circuit" "CircuitCycles$Circuit" "bases" "[I"), (Jvm.Cond.lays "CircuitCycles$Circuit" "CircuitCycles$Circuit" "modules" "[I"), (Jvm.Cond.laysFinal "CircuitCycles$Circuit" "CircuitCycles$Circuit" "parents" "[I"), (Jvm.Cond.laysFinal "CircuitCycles$Circuit" "CircuitCycles$Circuit" "children" "[I"), (Jvm.Cond.laysFinal "CircuitCycles$Circuit" "CircuitCycles$Circuit" "decls" "[I"), (Jvm.Cond.laysFinal "CircuitCycles$Circuit" "CircuitCycles$Circuit" "starts" "[I"), (Jvm.Cond.laysFinal "CircuitCycles$Circuit" "CircuitCycles$Circuit" "stops" "[I"), (Jvm.Cond.laysFinal "CircuitCycles$Circuit" "CircuitCycles$Circuit" "frames" "[I"), (Jvm.Cond.laysFinal "CircuitCycles$Circuit" "CircuitCycles$Circuit" "sources" "[I"), (Jvm.Cond.laysFinal "CircuitCycles$Circuit" "CircuitCycles$Circuit" "order" "[I"), (Jvm.Cond.lays "CircuitCycles$Circuit" "CircuitCycles$Circuit" "ordered" "I")] : List Cond), w ∈ xw_G
  exact List.forall_mem_cons.mpr ⟨wn_3_96, List.forall_mem_cons.mpr ⟨wn_3_98, List.forall_mem_cons.mpr ⟨wn_3_100, List.forall_mem_cons.mpr ⟨wn_3_102, List.forall_mem_cons.mpr ⟨wn_3_104, List.forall_mem_cons.mpr ⟨wn_3_106, List.forall_mem_cons.mpr ⟨wn_3_108, List.forall_mem_cons.mpr ⟨wn_3_110, List.forall_mem_cons.mpr ⟨wn_3_112, List.forall_mem_cons.mpr ⟨wn_3_114, List.forall_mem_cons.mpr ⟨wn_3_116, List.forall_mem_cons.mpr ⟨wn_3_118, List.forall_mem_cons.mpr ⟨wn_3_120, List.forall_mem_cons.mpr ⟨wn_3_122, (List.forall_mem_nil _)⟩⟩⟩⟩⟩⟩⟩⟩⟩⟩⟩⟩⟩⟩
theorem in_Design : ∀ w ∈ u_ws rn_Design fn_Design 16, w ∈ xw_G := by
  show ∀ w ∈ ([(Jvm.Cond.laysFinal "CircuitCycles$Design" "CircuitCycles$Design" "parts" "LCircuitCycles$Parts;"), (Jvm.Cond.laysFinal "CircuitCycles$Design" "CircuitCycles$Design" "code" "LCircuitCycles$Code;"), (Jvm.Cond.laysFinal "CircuitCycles$Design" "CircuitCycles$Design" "text" "[B"), (Jvm.Cond.lays "CircuitCycles$Design" "CircuitCycles$Design" "length" "I"), (Jvm.Cond.lays "CircuitCycles$Design" "CircuitCycles$Design" "moduleCount" "I"), (Jvm.Cond.lays "CircuitCycles$Design" "CircuitCycles$Design" "inputBits" "I"), (Jvm.Cond.laysFinal "CircuitCycles$Design" "CircuitCycles$Design" "places" "[I"), (Jvm.Cond.laysFinal "CircuitCycles$Design" "CircuitCycles$Design" "firstDecls" "[I"), (Jvm.Cond.laysFinal "CircuitCycles$Design" "CircuitCycles$Design" "portCounts" "[I"), (Jvm.Cond.laysFinal "CircuitCycles$Design" "CircuitCycles$Design" "firstChildren" "[I"), (Jvm.Cond.laysFinal "CircuitCycles$Design" "CircuitCycles$Design" "firstPieces" "[I"), (Jvm.Cond.laysFinal "CircuitCycles$Design" "CircuitCycles$Design" "sums" "[[I"), (Jvm.Cond.lays "CircuitCycles$Design" "CircuitCycles$Design" "pieceCount" "I"), (Jvm.Cond.laysFinal "CircuitCycles$Design" "CircuitCycles$Design" "pieceStarts" "[I"), (Jvm.Cond.laysFinal "CircuitCycles$Design" "CircuitCycles$Design" "pieceStops" "[I"), (Jvm.Cond.laysFinal "CircuitCycles$Design" "CircuitCycles$Design" "pieceAsserts" "[I")] : List Cond), w ∈ xw_G
  exact List.forall_mem_cons.mpr ⟨wn_3_28, List.forall_mem_cons.mpr ⟨wn_3_30, List.forall_mem_cons.mpr ⟨wn_3_32, List.forall_mem_cons.mpr ⟨wn_3_34, List.forall_mem_cons.mpr ⟨wn_3_36, List.forall_mem_cons.mpr ⟨wn_3_38, List.forall_mem_cons.mpr ⟨wn_3_40, List.forall_mem_cons.mpr ⟨wn_3_42, List.forall_mem_cons.mpr ⟨wn_3_44, List.forall_mem_cons.mpr ⟨wn_3_46, List.forall_mem_cons.mpr ⟨wn_3_48, List.forall_mem_cons.mpr ⟨wn_3_50, List.forall_mem_cons.mpr ⟨wn_3_52, List.forall_mem_cons.mpr ⟨wn_3_54, List.forall_mem_cons.mpr ⟨wn_3_56, List.forall_mem_cons.mpr ⟨wn_3_58, (List.forall_mem_nil _)⟩⟩⟩⟩⟩⟩⟩⟩⟩⟩⟩⟩⟩⟩⟩⟩
theorem in_Parts : ∀ w ∈ u_ws rn_Parts fn_Parts 15, w ∈ xw_G := by
  show ∀ w ∈ ([(Jvm.Cond.lays "CircuitCycles$Parts" "CircuitCycles$Parts" "declCount" "I"), (Jvm.Cond.laysFinal "CircuitCycles$Parts" "CircuitCycles$Parts" "places" "[I"), (Jvm.Cond.laysFinal "CircuitCycles$Parts" "CircuitCycles$Parts" "widths" "[I"), (Jvm.Cond.laysFinal "CircuitCycles$Parts" "CircuitCycles$Parts" "sorts" "[I"), (Jvm.Cond.laysFinal "CircuitCycles$Parts" "CircuitCycles$Parts" "firsts" "[J"), (Jvm.Cond.laysFinal "CircuitCycles$Parts" "CircuitCycles$Parts" "starts" "[I"), (Jvm.Cond.laysFinal "CircuitCycles$Parts" "CircuitCycles$Parts" "stops" "[I"), (Jvm.Cond.lays "CircuitCycles$Parts" "CircuitCycles$Parts" "childCount" "I"), (Jvm.Cond.laysFinal "CircuitCycles$Parts" "CircuitCycles$Parts" "childModules" "[I"), (Jvm.Cond.laysFinal "CircuitCycles$Parts" "CircuitCycles$Parts" "childPlaces" "[I"), (Jvm.Cond.laysFinal "CircuitCycles$Parts" "CircuitCycles$Parts" "firstLinks" "[I"), (Jvm.Cond.lays "CircuitCycles$Parts" "CircuitCycles$Parts" "linkCount" "I"), (Jvm.Cond.laysFinal "CircuitCycles$Parts" "CircuitCycles$Parts" "linkPorts" "[I"), (Jvm.Cond.laysFinal "CircuitCycles$Parts" "CircuitCycles$Parts" "linkStarts" "[I"), (Jvm.Cond.laysFinal "CircuitCycles$Parts" "CircuitCycles$Parts" "linkStops" "[I")] : List Cond), w ∈ xw_G
  exact List.forall_mem_cons.mpr ⟨wn_2_172, List.forall_mem_cons.mpr ⟨wn_2_174, List.forall_mem_cons.mpr ⟨wn_2_176, List.forall_mem_cons.mpr ⟨wn_2_178, List.forall_mem_cons.mpr ⟨wn_2_180, List.forall_mem_cons.mpr ⟨wn_2_182, List.forall_mem_cons.mpr ⟨wn_2_184, List.forall_mem_cons.mpr ⟨wn_2_186, List.forall_mem_cons.mpr ⟨wn_2_188, List.forall_mem_cons.mpr ⟨wn_2_190, List.forall_mem_cons.mpr ⟨wn_2_192, List.forall_mem_cons.mpr ⟨wn_2_194, List.forall_mem_cons.mpr ⟨wn_2_196, List.forall_mem_cons.mpr ⟨wn_2_198, List.forall_mem_cons.mpr ⟨wn_2_200, (List.forall_mem_nil _)⟩⟩⟩⟩⟩⟩⟩⟩⟩⟩⟩⟩⟩⟩⟩
theorem in_Code : ∀ w ∈ u_ws rn_Code fn_Code 5, w ∈ xw_G := by
  show ∀ w ∈ ([(Jvm.Cond.laysFinal "CircuitCycles$Code" "CircuitCycles$Code" "row" "[J"), (Jvm.Cond.lays "CircuitCycles$Code" "CircuitCycles$Code" "size" "I"), (Jvm.Cond.laysFinal "CircuitCycles$Code" "CircuitCycles$Code" "literalWidths" "[I"), (Jvm.Cond.laysFinal "CircuitCycles$Code" "CircuitCycles$Code" "literals" "[J"), (Jvm.Cond.lays "CircuitCycles$Code" "CircuitCycles$Code" "literalCount" "I")] : List Cond), w ∈ xw_G
  exact List.forall_mem_cons.mpr ⟨wn_2_220, List.forall_mem_cons.mpr ⟨wn_2_222, List.forall_mem_cons.mpr ⟨wn_2_224, List.forall_mem_cons.mpr ⟨wn_2_226, List.forall_mem_cons.mpr ⟨wn_2_228, (List.forall_mem_nil _)⟩⟩⟩⟩⟩
