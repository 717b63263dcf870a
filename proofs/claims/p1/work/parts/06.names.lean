/-! Names: written by program (wip/p1/names.py). -/
def rn_M : String := "CircuitCyclesModel"
def fn_M : u_T := fun k => match k with
  | 0 => ("CircuitCyclesModel", "thrown", "I", false)
  | 1 => ("CircuitCyclesModel", "tape", "[B", true)
  | 2 => ("CircuitCyclesModel", "size", "I", false)
  | 3 => ("CircuitCyclesModel", "fault", "I", false)
  | 4 => ("CircuitCyclesModel", "kinds", "[I", true)
  | 5 => ("CircuitCyclesModel", "begins", "[I", true)
  | 6 => ("CircuitCyclesModel", "ends", "[I", true)
  | 7 => ("CircuitCyclesModel", "tokens", "I", false)
  | 8 => ("CircuitCyclesModel", "t", "I", false)
  | 9 => ("CircuitCyclesModel", "wrong", "I", false)
  | 10 => ("CircuitCyclesModel", "wrongAt", "I", false)
  | 11 => ("CircuitCyclesModel", "deep", "I", false)
  | 12 => ("CircuitCyclesModel", "modules", "I", false)
  | 13 => ("CircuitCyclesModel", "moduleName", "[I", true)
  | 14 => ("CircuitCyclesModel", "firstSignal", "[I", true)
  | 15 => ("CircuitCyclesModel", "firstInstance", "[I", true)
  | 16 => ("CircuitCyclesModel", "firstAssert", "[I", true)
  | 17 => ("CircuitCyclesModel", "firstAlways", "[I", true)
  | 18 => ("CircuitCyclesModel", "locals", "I", false)
  | 19 => ("CircuitCyclesModel", "localName", "[I", true)
  | 20 => ("CircuitCyclesModel", "localWidth", "[I", true)
  | 21 => ("CircuitCyclesModel", "localKind", "[I", true)
  | 22 => ("CircuitCyclesModel", "localFirst", "[J", true)
  | 23 => ("CircuitCyclesModel", "driverKind", "[I", true)
  | 24 => ("CircuitCyclesModel", "driverFrom", "[I", true)
  | 25 => ("CircuitCyclesModel", "driverTo", "[I", true)
  | 26 => ("CircuitCyclesModel", "setIn", "[I", true)
  | 27 => ("CircuitCyclesModel", "items", "I", false)
  | 28 => ("CircuitCyclesModel", "itemModule", "[I", true)
  | 29 => ("CircuitCyclesModel", "itemName", "[I", true)
  | 30 => ("CircuitCyclesModel", "firstLink", "[I", true)
  | 31 => ("CircuitCyclesModel", "links", "I", false)
  | 32 => ("CircuitCyclesModel", "linkPort", "[I", true)
  | 33 => ("CircuitCyclesModel", "linkFrom", "[I", true)
  | 34 => ("CircuitCyclesModel", "linkTo", "[I", true)
  | 35 => ("CircuitCyclesModel", "asserts", "I", false)
  | 36 => ("CircuitCyclesModel", "assertFrom", "[I", true)
  | 37 => ("CircuitCyclesModel", "assertTo", "[I", true)
  | 38 => ("CircuitCyclesModel", "always", "I", false)
  | 39 => ("CircuitCyclesModel", "alwaysFrom", "[I", true)
  | 40 => ("CircuitCyclesModel", "alwaysTo", "[I", true)
  | 41 => ("CircuitCyclesModel", "code", "[I", false)
  | 42 => ("CircuitCyclesModel", "laid", "I", false)
  | 43 => ("CircuitCyclesModel", "numbers", "[J", false)
  | 44 => ("CircuitCyclesModel", "numberCount", "I", false)
  | 45 => ("CircuitCyclesModel", "moduleCost", "[J", true)
  | 46 => ("CircuitCyclesModel", "moduleInstances", "[J", true)
  | 47 => ("CircuitCyclesModel", "moduleSignals", "[J", true)
  | 48 => ("CircuitCyclesModel", "moduleBits", "[J", true)
  | 49 => ("CircuitCyclesModel", "waitOp", "[I", true)
  | 50 => ("CircuitCyclesModel", "waitAt", "[I", true)
  | 51 => ("CircuitCyclesModel", "waits", "I", false)
  | 52 => ("CircuitCyclesModel", "widths", "[I", true)
  | 53 => ("CircuitCyclesModel", "widthCount", "I", false)
  | 54 => ("CircuitCyclesModel", "there", "Z", false)
  | 55 => ("CircuitCyclesModel", "text", "[B", true)
  | 56 => ("CircuitCyclesModel", "instances", "I", false)
  | 57 => ("CircuitCyclesModel", "instanceModule", "[I", true)
  | 58 => ("CircuitCyclesModel", "instanceBase", "[I", true)
  | 59 => ("CircuitCyclesModel", "instanceUp", "[I", true)
  | 60 => ("CircuitCyclesModel", "instanceItem", "[I", true)
  | 61 => ("CircuitCyclesModel", "stack", "[I", true)
  | 62 => ("CircuitCyclesModel", "stackNext", "[I", true)
  | 63 => ("CircuitCyclesModel", "signals", "I", false)
  | 64 => ("CircuitCyclesModel", "signalLocal", "[I", true)
  | 65 => ("CircuitCyclesModel", "signalInstance", "[I", true)
  | 66 => ("CircuitCyclesModel", "ruleKind", "[I", true)
  | 67 => ("CircuitCyclesModel", "ruleFrom", "[I", true)
  | 68 => ("CircuitCyclesModel", "ruleTo", "[I", true)
  | 69 => ("CircuitCyclesModel", "ruleFor", "[I", true)
  | 70 => ("CircuitCyclesModel", "order", "[I", true)
  | 71 => ("CircuitCyclesModel", "ordered", "I", false)
  | 72 => ("CircuitCyclesModel", "ready", "[Z", true)
  | 73 => ("CircuitCyclesModel", "met", "[Z", true)
  | 74 => ("CircuitCyclesModel", "queue", "[I", true)
  | 75 => ("CircuitCyclesModel", "modulesThere", "I", false)
  | 76 => ("CircuitCyclesModel", "registerBits", "I", false)
  | 77 => ("CircuitCyclesModel", "inputBits", "I", false)
  | 78 => ("CircuitCyclesModel", "assertsThere", "I", false)
  | 79 => ("CircuitCyclesModel", "costThere", "J", false)
  | 80 => ("CircuitCyclesModel", "values", "[J", true)
  | 81 => ("CircuitCyclesModel", "nexts", "[J", true)
  | 82 => ("CircuitCyclesModel", "registers", "[J", true)
  | 83 => ("CircuitCyclesModel", "inputs", "[J", true)
  | 84 => ("CircuitCyclesModel", "pile", "[J", true)
  | 85 => ("CircuitCyclesModel", "high", "I", false)
  | 86 => ("CircuitCyclesModel", "cycle", "I", false)
  | 87 => ("CircuitCyclesModel", "valueFits", "Z", false)
  | 88 => ("CircuitCyclesModel", "tapeSize", "I", false)
  | 89 => ("CircuitCyclesModel", "textSize", "I", false)
  | _ => ("CircuitCyclesModel", "src", "[B", true)
def tn_M : Nat → FieldType := fun k => match k with
  | 0 => .int
  | 1 => (.array .byte)
  | 2 => .int
  | 3 => .int
  | 4 => (.array .int)
  | 5 => (.array .int)
  | 6 => (.array .int)
  | 7 => .int
  | 8 => .int
  | 9 => .int
  | 10 => .int
  | 11 => .int
  | 12 => .int
  | 13 => (.array .int)
  | 14 => (.array .int)
  | 15 => (.array .int)
  | 16 => (.array .int)
  | 17 => (.array .int)
  | 18 => .int
  | 19 => (.array .int)
  | 20 => (.array .int)
  | 21 => (.array .int)
  | 22 => (.array .long)
  | 23 => (.array .int)
  | 24 => (.array .int)
  | 25 => (.array .int)
  | 26 => (.array .int)
  | 27 => .int
  | 28 => (.array .int)
  | 29 => (.array .int)
  | 30 => (.array .int)
  | 31 => .int
  | 32 => (.array .int)
  | 33 => (.array .int)
  | 34 => (.array .int)
  | 35 => .int
  | 36 => (.array .int)
  | 37 => (.array .int)
  | 38 => .int
  | 39 => (.array .int)
  | 40 => (.array .int)
  | 41 => (.array .int)
  | 42 => .int
  | 43 => (.array .long)
  | 44 => .int
  | 45 => (.array .long)
  | 46 => (.array .long)
  | 47 => (.array .long)
  | 48 => (.array .long)
  | 49 => (.array .int)
  | 50 => (.array .int)
  | 51 => .int
  | 52 => (.array .int)
  | 53 => .int
  | 54 => .boolean
  | 55 => (.array .byte)
  | 56 => .int
  | 57 => (.array .int)
  | 58 => (.array .int)
  | 59 => (.array .int)
  | 60 => (.array .int)
  | 61 => (.array .int)
  | 62 => (.array .int)
  | 63 => .int
  | 64 => (.array .int)
  | 65 => (.array .int)
  | 66 => (.array .int)
  | 67 => (.array .int)
  | 68 => (.array .int)
  | 69 => (.array .int)
  | 70 => (.array .int)
  | 71 => .int
  | 72 => (.array .boolean)
  | 73 => (.array .boolean)
  | 74 => (.array .int)
  | 75 => .int
  | 76 => .int
  | 77 => .int
  | 78 => .int
  | 79 => .long
  | 80 => (.array .long)
  | 81 => (.array .long)
  | 82 => (.array .long)
  | 83 => (.array .long)
  | 84 => (.array .long)
  | 85 => .int
  | 86 => .int
  | 87 => .boolean
  | 88 => .int
  | 89 => .int
  | _ => (.array .byte)
theorem nn_M : ∀ a, a < 91 → ∀ b, b < 91 → a ≠ b → (fn_M a).2.1 ≠ (fn_M b).2.1 := by decide +kernel
theorem tk_M : ∀ k, k < 91 → parseFieldDescriptor (fn_M k).2.2.1 = some (tn_M k) := by decide +kernel
def xo_M (f : Nat → Value) : List Value := [f 0, f 1, f 2, f 3, f 4, f 5, f 6, f 7, f 8, f 9, f 10, f 11, f 12, f 13, f 14, f 15, f 16, f 17, f 18, f 19, f 20, f 21, f 22, f 23, f 24, f 25, f 26, f 27, f 28, f 29, f 30, f 31, f 32, f 33, f 34, f 35, f 36, f 37, f 38, f 39, f 40, f 41, f 42, f 43, f 44, f 45, f 46, f 47, f 48, f 49, f 50, f 51, f 52, f 53, f 54, f 55, f 56, f 57, f 58, f 59, f 60, f 61, f 62, f 63, f 64, f 65, f 66, f 67, f 68, f 69, f 70, f 71, f 72, f 73, f 74, f 75, f 76, f 77, f 78, f 79, f 80, f 81, f 82, f 83, f 84, f 85, f 86, f 87, f 88, f 89, f 90]
def rn_C : String := "CircuitCycles"
def fn_C : u_T := fun k => match k with
  | 0 => ("CircuitCycles", "length", "I", false)
  | 1 => ("CircuitCycles", "faultCode", "I", false)
  | 2 => ("CircuitCycles", "tokens", "LCircuitCycles$Tokens;", true)
  | 3 => ("CircuitCycles", "scanner", "LCircuitCycles$Scanner;", true)
  | 4 => ("CircuitCycles", "checker", "LCircuitCycles$Checker;", true)
  | 5 => ("CircuitCycles", "grammar", "LCircuitCycles$Grammar;", true)
  | 6 => ("CircuitCycles", "order", "LCircuitCycles$Order;", true)
  | 7 => ("CircuitCycles", "machine", "LCircuitCycles$Machine;", true)
  | 8 => ("CircuitCycles", "stands", "Z", false)
  | 9 => ("CircuitCycles", "circuit", "LCircuitCycles$Circuit;", false)
  | _ => ("CircuitCycles", "spare", "LCircuitCycles$Circuit;", false)
def tn_C : Nat → FieldType := fun k => match k with
  | 0 => .int
  | 1 => .int
  | 2 => (.object "CircuitCycles$Tokens")
  | 3 => (.object "CircuitCycles$Scanner")
  | 4 => (.object "CircuitCycles$Checker")
  | 5 => (.object "CircuitCycles$Grammar")
  | 6 => (.object "CircuitCycles$Order")
  | 7 => (.object "CircuitCycles$Machine")
  | 8 => .boolean
  | 9 => (.object "CircuitCycles$Circuit")
  | _ => (.object "CircuitCycles$Circuit")
theorem nn_C : ∀ a, a < 11 → ∀ b, b < 11 → a ≠ b → (fn_C a).2.1 ≠ (fn_C b).2.1 := by decide +kernel
theorem tk_C : ∀ k, k < 11 → parseFieldDescriptor (fn_C k).2.2.1 = some (tn_C k) := by decide +kernel
def xo_C (f : Nat → Value) : List Value := [f 0, f 1, f 2, f 3, f 4, f 5, f 6, f 7, f 8, f 9, f 10]
def rn_Tokens : String := "CircuitCycles$Tokens"
def fn_Tokens : u_T := fun k => match k with
  | 0 => ("CircuitCycles$Tokens", "row", "[J", true)
  | 1 => ("CircuitCycles$Tokens", "size", "I", false)
  | 2 => ("CircuitCycles$Tokens", "index", "I", false)
  | 3 => ("CircuitCycles$Tokens", "kind", "I", false)
  | 4 => ("CircuitCycles$Tokens", "place", "I", false)
  | 5 => ("CircuitCycles$Tokens", "extra", "I", false)
  | 6 => ("CircuitCycles$Tokens", "faultCode", "I", false)
  | 7 => ("CircuitCycles$Tokens", "faultPlace", "I", false)
  | _ => ("CircuitCycles$Tokens", "opens", "I", false)
def tn_Tokens : Nat → FieldType := fun k => match k with
  | 0 => (.array .long)
  | 1 => .int
  | 2 => .int
  | 3 => .int
  | 4 => .int
  | 5 => .int
  | 6 => .int
  | 7 => .int
  | _ => .int
theorem nn_Tokens : ∀ a, a < 9 → ∀ b, b < 9 → a ≠ b → (fn_Tokens a).2.1 ≠ (fn_Tokens b).2.1 := by decide +kernel
theorem tk_Tokens : ∀ k, k < 9 → parseFieldDescriptor (fn_Tokens k).2.2.1 = some (tn_Tokens k) := by decide +kernel
def xo_Tokens (f : Nat → Value) : List Value := [f 0, f 1, f 2, f 3, f 4, f 5, f 6, f 7, f 8]
def rn_Scanner : String := "CircuitCycles$Scanner"
def fn_Scanner : u_T := fun k => match k with
  | 0 => ("CircuitCycles$Scanner", "tokens", "LCircuitCycles$Tokens;", true)
  | 1 => ("CircuitCycles$Scanner", "text", "[B", false)
  | 2 => ("CircuitCycles$Scanner", "length", "I", false)
  | 3 => ("CircuitCycles$Scanner", "code", "LCircuitCycles$Code;", false)
  | 4 => ("CircuitCycles$Scanner", "heads", "[I", true)
  | 5 => ("CircuitCycles$Scanner", "nexts", "[I", true)
  | 6 => ("CircuitCycles$Scanner", "wordStarts", "[I", true)
  | 7 => ("CircuitCycles$Scanner", "wordKinds", "[I", true)
  | _ => ("CircuitCycles$Scanner", "words", "I", false)
def tn_Scanner : Nat → FieldType := fun k => match k with
  | 0 => (.object "CircuitCycles$Tokens")
  | 1 => (.array .byte)
  | 2 => .int
  | 3 => (.object "CircuitCycles$Code")
  | 4 => (.array .int)
  | 5 => (.array .int)
  | 6 => (.array .int)
  | 7 => (.array .int)
  | _ => .int
theorem nn_Scanner : ∀ a, a < 9 → ∀ b, b < 9 → a ≠ b → (fn_Scanner a).2.1 ≠ (fn_Scanner b).2.1 := by decide +kernel
theorem tk_Scanner : ∀ k, k < 9 → parseFieldDescriptor (fn_Scanner k).2.2.1 = some (tn_Scanner k) := by decide +kernel
def xo_Scanner (f : Nat → Value) : List Value := [f 0, f 1, f 2, f 3, f 4, f 5, f 6, f 7, f 8]
def rn_Checker : String := "CircuitCycles$Checker"
def fn_Checker : u_T := fun k => match k with
  | 0 => ("CircuitCycles$Checker", "tokens", "LCircuitCycles$Tokens;", true)
  | 1 => ("CircuitCycles$Checker", "parts", "LCircuitCycles$Parts;", false)
  | 2 => ("CircuitCycles$Checker", "code", "LCircuitCycles$Code;", false)
  | 3 => ("CircuitCycles$Checker", "module", "I", false)
  | 4 => ("CircuitCycles$Checker", "firstDecl", "I", false)
  | 5 => ("CircuitCycles$Checker", "modules", "[I", true)
  | 6 => ("CircuitCycles$Checker", "decls", "[I", true)
  | 7 => ("CircuitCycles$Checker", "stamps", "[I", true)
  | 8 => ("CircuitCycles$Checker", "names", "[I", true)
  | 9 => ("CircuitCycles$Checker", "widths", "[I", true)
  | 10 => ("CircuitCycles$Checker", "top", "I", false)
  | 11 => ("CircuitCycles$Checker", "expStart", "I", false)
  | 12 => ("CircuitCycles$Checker", "cost", "I", false)
  | 13 => ("CircuitCycles$Checker", "faultCode", "I", false)
  | _ => ("CircuitCycles$Checker", "faultPlace", "I", false)
def tn_Checker : Nat → FieldType := fun k => match k with
  | 0 => (.object "CircuitCycles$Tokens")
  | 1 => (.object "CircuitCycles$Parts")
  | 2 => (.object "CircuitCycles$Code")
  | 3 => .int
  | 4 => .int
  | 5 => (.array .int)
  | 6 => (.array .int)
  | 7 => (.array .int)
  | 8 => (.array .int)
  | 9 => (.array .int)
  | 10 => .int
  | 11 => .int
  | 12 => .int
  | 13 => .int
  | _ => .int
theorem nn_Checker : ∀ a, a < 15 → ∀ b, b < 15 → a ≠ b → (fn_Checker a).2.1 ≠ (fn_Checker b).2.1 := by decide +kernel
theorem tk_Checker : ∀ k, k < 15 → parseFieldDescriptor (fn_Checker k).2.2.1 = some (tn_Checker k) := by decide +kernel
def xo_Checker (f : Nat → Value) : List Value := [f 0, f 1, f 2, f 3, f 4, f 5, f 6, f 7, f 8, f 9, f 10, f 11, f 12, f 13, f 14]
def rn_Meaning : String := "CircuitCycles$Meaning"
def fn_Meaning : u_T := fun k => match k with
  | 0 => ("CircuitCycles$Meaning", "checker", "LCircuitCycles$Checker;", true)
  | 1 => ("CircuitCycles$Meaning", "design", "LCircuitCycles$Design;", false)
  | 2 => ("CircuitCycles$Meaning", "parts", "LCircuitCycles$Parts;", false)
  | 3 => ("CircuitCycles$Meaning", "code", "LCircuitCycles$Code;", false)
  | 4 => ("CircuitCycles$Meaning", "rangeWidth", "I", false)
  | 5 => ("CircuitCycles$Meaning", "target", "I", false)
  | 6 => ("CircuitCycles$Meaning", "targetLow", "I", false)
  | 7 => ("CircuitCycles$Meaning", "targetWidth", "I", false)
  | 8 => ("CircuitCycles$Meaning", "port", "I", false)
  | 9 => ("CircuitCycles$Meaning", "alwaysNumber", "I", false)
  | 10 => ("CircuitCycles$Meaning", "alwaysStart", "I", false)
  | 11 => ("CircuitCycles$Meaning", "stores", "Z", false)
  | 12 => ("CircuitCycles$Meaning", "jumps", "[I", true)
  | 13 => ("CircuitCycles$Meaning", "exits", "[I", true)
  | 14 => ("CircuitCycles$Meaning", "matches", "[I", true)
  | 15 => ("CircuitCycles$Meaning", "widths", "[I", true)
  | _ => ("CircuitCycles$Meaning", "depth", "I", false)
def tn_Meaning : Nat → FieldType := fun k => match k with
  | 0 => (.object "CircuitCycles$Checker")
  | 1 => (.object "CircuitCycles$Design")
  | 2 => (.object "CircuitCycles$Parts")
  | 3 => (.object "CircuitCycles$Code")
  | 4 => .int
  | 5 => .int
  | 6 => .int
  | 7 => .int
  | 8 => .int
  | 9 => .int
  | 10 => .int
  | 11 => .boolean
  | 12 => (.array .int)
  | 13 => (.array .int)
  | 14 => (.array .int)
  | 15 => (.array .int)
  | _ => .int
theorem nn_Meaning : ∀ a, a < 17 → ∀ b, b < 17 → a ≠ b → (fn_Meaning a).2.1 ≠ (fn_Meaning b).2.1 := by decide +kernel
theorem tk_Meaning : ∀ k, k < 17 → parseFieldDescriptor (fn_Meaning k).2.2.1 = some (tn_Meaning k) := by decide +kernel
def xo_Meaning (f : Nat → Value) : List Value := [f 0, f 1, f 2, f 3, f 4, f 5, f 6, f 7, f 8, f 9, f 10, f 11, f 12, f 13, f 14, f 15, f 16]
def rn_Grammar : String := "CircuitCycles$Grammar"
def fn_Grammar : u_T := fun k => match k with
  | 0 => ("CircuitCycles$Grammar", "tokens", "LCircuitCycles$Tokens;", true)
  | 1 => ("CircuitCycles$Grammar", "checker", "LCircuitCycles$Checker;", true)
  | 2 => ("CircuitCycles$Grammar", "meaning", "LCircuitCycles$Meaning;", true)
  | 3 => ("CircuitCycles$Grammar", "state", "I", false)
  | 4 => ("CircuitCycles$Grammar", "purpose", "I", false)
  | 5 => ("CircuitCycles$Grammar", "signPlace", "I", false)
  | 6 => ("CircuitCycles$Grammar", "linkPlace", "I", false)
  | 7 => ("CircuitCycles$Grammar", "expPlace", "I", false)
  | 8 => ("CircuitCycles$Grammar", "expIndex", "I", false)
  | 9 => ("CircuitCycles$Grammar", "contexts", "[I", true)
  | 10 => ("CircuitCycles$Grammar", "depth", "I", false)
  | 11 => ("CircuitCycles$Grammar", "heldKinds", "[I", true)
  | 12 => ("CircuitCycles$Grammar", "heldPlaces", "[I", true)
  | 13 => ("CircuitCycles$Grammar", "heldTimes", "[I", true)
  | _ => ("CircuitCycles$Grammar", "held", "I", false)
def tn_Grammar : Nat → FieldType := fun k => match k with
  | 0 => (.object "CircuitCycles$Tokens")
  | 1 => (.object "CircuitCycles$Checker")
  | 2 => (.object "CircuitCycles$Meaning")
  | 3 => .int
  | 4 => .int
  | 5 => .int
  | 6 => .int
  | 7 => .int
  | 8 => .int
  | 9 => (.array .int)
  | 10 => .int
  | 11 => (.array .int)
  | 12 => (.array .int)
  | 13 => (.array .int)
  | _ => .int
theorem nn_Grammar : ∀ a, a < 15 → ∀ b, b < 15 → a ≠ b → (fn_Grammar a).2.1 ≠ (fn_Grammar b).2.1 := by decide +kernel
theorem tk_Grammar : ∀ k, k < 15 → parseFieldDescriptor (fn_Grammar k).2.2.1 = some (tn_Grammar k) := by decide +kernel
def xo_Grammar (f : Nat → Value) : List Value := [f 0, f 1, f 2, f 3, f 4, f 5, f 6, f 7, f 8, f 9, f 10, f 11, f 12, f 13, f 14]
def rn_Order : String := "CircuitCycles$Order"
def fn_Order : u_T := fun k => match k with
  | 0 => ("CircuitCycles$Order", "circuit", "LCircuitCycles$Circuit;", false)
  | 1 => ("CircuitCycles$Order", "numbers", "[I", true)
  | 2 => ("CircuitCycles$Order", "lowest", "[I", true)
  | 3 => ("CircuitCycles$Order", "cursors", "[I", true)
  | 4 => ("CircuitCycles$Order", "path", "[I", true)
  | 5 => ("CircuitCycles$Order", "open", "[I", true)
  | 6 => ("CircuitCycles$Order", "pathSize", "I", false)
  | 7 => ("CircuitCycles$Order", "openSize", "I", false)
  | 8 => ("CircuitCycles$Order", "seen", "I", false)
  | _ => ("CircuitCycles$Order", "looped", "I", false)
def tn_Order : Nat → FieldType := fun k => match k with
  | 0 => (.object "CircuitCycles$Circuit")
  | 1 => (.array .int)
  | 2 => (.array .int)
  | 3 => (.array .int)
  | 4 => (.array .int)
  | 5 => (.array .int)
  | 6 => .int
  | 7 => .int
  | 8 => .int
  | _ => .int
theorem nn_Order : ∀ a, a < 10 → ∀ b, b < 10 → a ≠ b → (fn_Order a).2.1 ≠ (fn_Order b).2.1 := by decide +kernel
theorem tk_Order : ∀ k, k < 10 → parseFieldDescriptor (fn_Order k).2.2.1 = some (tn_Order k) := by decide +kernel
def xo_Order (f : Nat → Value) : List Value := [f 0, f 1, f 2, f 3, f 4, f 5, f 6, f 7, f 8, f 9]
def rn_Machine : String := "CircuitCycles$Machine"
def fn_Machine : u_T := fun k => match k with
  | 0 => ("CircuitCycles$Machine", "values", "[J", true)
  | 1 => ("CircuitCycles$Machine", "nexts", "[J", true)
  | 2 => ("CircuitCycles$Machine", "stack", "[J", true)
  | 3 => ("CircuitCycles$Machine", "cycle", "I", false)
  | _ => ("CircuitCycles$Machine", "settled", "Z", false)
def tn_Machine : Nat → FieldType := fun k => match k with
  | 0 => (.array .long)
  | 1 => (.array .long)
  | 2 => (.array .long)
  | 3 => .int
  | _ => .boolean
theorem nn_Machine : ∀ a, a < 5 → ∀ b, b < 5 → a ≠ b → (fn_Machine a).2.1 ≠ (fn_Machine b).2.1 := by decide +kernel
theorem tk_Machine : ∀ k, k < 5 → parseFieldDescriptor (fn_Machine k).2.2.1 = some (tn_Machine k) := by decide +kernel
def xo_Machine (f : Nat → Value) : List Value := [f 0, f 1, f 2, f 3, f 4]
def rn_Circuit : String := "CircuitCycles$Circuit"
def fn_Circuit : u_T := fun k => match k with
  | 0 => ("CircuitCycles$Circuit", "design", "LCircuitCycles$Design;", true)
  | 1 => ("CircuitCycles$Circuit", "instances", "I", false)
  | 2 => ("CircuitCycles$Circuit", "signals", "I", false)
  | 3 => ("CircuitCycles$Circuit", "bases", "[I", false)
  | 4 => ("CircuitCycles$Circuit", "modules", "[I", false)
  | 5 => ("CircuitCycles$Circuit", "parents", "[I", true)
  | 6 => ("CircuitCycles$Circuit", "children", "[I", true)
  | 7 => ("CircuitCycles$Circuit", "decls", "[I", true)
  | 8 => ("CircuitCycles$Circuit", "starts", "[I", true)
  | 9 => ("CircuitCycles$Circuit", "stops", "[I", true)
  | 10 => ("CircuitCycles$Circuit", "frames", "[I", true)
  | 11 => ("CircuitCycles$Circuit", "sources", "[I", true)
  | 12 => ("CircuitCycles$Circuit", "order", "[I", true)
  | _ => ("CircuitCycles$Circuit", "ordered", "I", false)
def tn_Circuit : Nat → FieldType := fun k => match k with
  | 0 => (.object "CircuitCycles$Design")
  | 1 => .int
  | 2 => .int
  | 3 => (.array .int)
  | 4 => (.array .int)
  | 5 => (.array .int)
  | 6 => (.array .int)
  | 7 => (.array .int)
  | 8 => (.array .int)
  | 9 => (.array .int)
  | 10 => (.array .int)
  | 11 => (.array .int)
  | 12 => (.array .int)
  | _ => .int
theorem nn_Circuit : ∀ a, a < 14 → ∀ b, b < 14 → a ≠ b → (fn_Circuit a).2.1 ≠ (fn_Circuit b).2.1 := by decide +kernel
theorem tk_Circuit : ∀ k, k < 14 → parseFieldDescriptor (fn_Circuit k).2.2.1 = some (tn_Circuit k) := by decide +kernel
def xo_Circuit (f : Nat → Value) : List Value := [f 0, f 1, f 2, f 3, f 4, f 5, f 6, f 7, f 8, f 9, f 10, f 11, f 12, f 13]
def rn_Design : String := "CircuitCycles$Design"
def fn_Design : u_T := fun k => match k with
  | 0 => ("CircuitCycles$Design", "parts", "LCircuitCycles$Parts;", true)
  | 1 => ("CircuitCycles$Design", "code", "LCircuitCycles$Code;", true)
  | 2 => ("CircuitCycles$Design", "text", "[B", true)
  | 3 => ("CircuitCycles$Design", "length", "I", false)
  | 4 => ("CircuitCycles$Design", "moduleCount", "I", false)
  | 5 => ("CircuitCycles$Design", "inputBits", "I", false)
  | 6 => ("CircuitCycles$Design", "places", "[I", true)
  | 7 => ("CircuitCycles$Design", "firstDecls", "[I", true)
  | 8 => ("CircuitCycles$Design", "portCounts", "[I", true)
  | 9 => ("CircuitCycles$Design", "firstChildren", "[I", true)
  | 10 => ("CircuitCycles$Design", "firstPieces", "[I", true)
  | 11 => ("CircuitCycles$Design", "sums", "[[I", true)
  | 12 => ("CircuitCycles$Design", "pieceCount", "I", false)
  | 13 => ("CircuitCycles$Design", "pieceStarts", "[I", true)
  | 14 => ("CircuitCycles$Design", "pieceStops", "[I", true)
  | _ => ("CircuitCycles$Design", "pieceAsserts", "[I", true)
def tn_Design : Nat → FieldType := fun k => match k with
  | 0 => (.object "CircuitCycles$Parts")
  | 1 => (.object "CircuitCycles$Code")
  | 2 => (.array .byte)
  | 3 => .int
  | 4 => .int
  | 5 => .int
  | 6 => (.array .int)
  | 7 => (.array .int)
  | 8 => (.array .int)
  | 9 => (.array .int)
  | 10 => (.array .int)
  | 11 => (.array (.array .int))
  | 12 => .int
  | 13 => (.array .int)
  | 14 => (.array .int)
  | _ => (.array .int)
theorem nn_Design : ∀ a, a < 16 → ∀ b, b < 16 → a ≠ b → (fn_Design a).2.1 ≠ (fn_Design b).2.1 := by decide +kernel
theorem tk_Design : ∀ k, k < 16 → parseFieldDescriptor (fn_Design k).2.2.1 = some (tn_Design k) := by decide +kernel
def xo_Design (f : Nat → Value) : List Value := [f 0, f 1, f 2, f 3, f 4, f 5, f 6, f 7, f 8, f 9, f 10, f 11, f 12, f 13, f 14, f 15]
def rn_Parts : String := "CircuitCycles$Parts"
def fn_Parts : u_T := fun k => match k with
  | 0 => ("CircuitCycles$Parts", "declCount", "I", false)
  | 1 => ("CircuitCycles$Parts", "places", "[I", true)
  | 2 => ("CircuitCycles$Parts", "widths", "[I", true)
  | 3 => ("CircuitCycles$Parts", "sorts", "[I", true)
  | 4 => ("CircuitCycles$Parts", "firsts", "[J", true)
  | 5 => ("CircuitCycles$Parts", "starts", "[I", true)
  | 6 => ("CircuitCycles$Parts", "stops", "[I", true)
  | 7 => ("CircuitCycles$Parts", "childCount", "I", false)
  | 8 => ("CircuitCycles$Parts", "childModules", "[I", true)
  | 9 => ("CircuitCycles$Parts", "childPlaces", "[I", true)
  | 10 => ("CircuitCycles$Parts", "firstLinks", "[I", true)
  | 11 => ("CircuitCycles$Parts", "linkCount", "I", false)
  | 12 => ("CircuitCycles$Parts", "linkPorts", "[I", true)
  | 13 => ("CircuitCycles$Parts", "linkStarts", "[I", true)
  | _ => ("CircuitCycles$Parts", "linkStops", "[I", true)
def tn_Parts : Nat → FieldType := fun k => match k with
  | 0 => .int
  | 1 => (.array .int)
  | 2 => (.array .int)
  | 3 => (.array .int)
  | 4 => (.array .long)
  | 5 => (.array .int)
  | 6 => (.array .int)
  | 7 => .int
  | 8 => (.array .int)
  | 9 => (.array .int)
  | 10 => (.array .int)
  | 11 => .int
  | 12 => (.array .int)
  | 13 => (.array .int)
  | _ => (.array .int)
theorem nn_Parts : ∀ a, a < 15 → ∀ b, b < 15 → a ≠ b → (fn_Parts a).2.1 ≠ (fn_Parts b).2.1 := by decide +kernel
theorem tk_Parts : ∀ k, k < 15 → parseFieldDescriptor (fn_Parts k).2.2.1 = some (tn_Parts k) := by decide +kernel
def xo_Parts (f : Nat → Value) : List Value := [f 0, f 1, f 2, f 3, f 4, f 5, f 6, f 7, f 8, f 9, f 10, f 11, f 12, f 13, f 14]
def rn_Code : String := "CircuitCycles$Code"
def fn_Code : u_T := fun k => match k with
  | 0 => ("CircuitCycles$Code", "row", "[J", true)
  | 1 => ("CircuitCycles$Code", "size", "I", false)
  | 2 => ("CircuitCycles$Code", "literalWidths", "[I", true)
  | 3 => ("CircuitCycles$Code", "literals", "[J", true)
  | _ => ("CircuitCycles$Code", "literalCount", "I", false)
def tn_Code : Nat → FieldType := fun k => match k with
  | 0 => (.array .long)
  | 1 => .int
  | 2 => (.array .int)
  | 3 => (.array .long)
  | _ => .int
theorem nn_Code : ∀ a, a < 5 → ∀ b, b < 5 → a ≠ b → (fn_Code a).2.1 ≠ (fn_Code b).2.1 := by decide +kernel
theorem tk_Code : ∀ k, k < 5 → parseFieldDescriptor (fn_Code k).2.2.1 = some (tn_Code k) := by decide +kernel
def xo_Code (f : Nat → Value) : List Value := [f 0, f 1, f 2, f 3, f 4]
def rn_L : String := "CircuitCyclesLaw"
def rn_Arrays : String := "java/util/Arrays"
abbrev xcl : List vw_C := [(rn_M, fn_M, 91), (rn_C, fn_C, 11), (rn_Tokens, fn_Tokens, 9), (rn_Scanner, fn_Scanner, 9), (rn_Checker, fn_Checker, 15), (rn_Meaning, fn_Meaning, 17), (rn_Grammar, fn_Grammar, 15), (rn_Order, fn_Order, 10), (rn_Machine, fn_Machine, 5), (rn_Circuit, fn_Circuit, 14), (rn_Design, fn_Design, 16), (rn_Parts, fn_Parts, 15), (rn_Code, fn_Code, 5)]
abbrev xt (cI cB cJ cZ cQ : ClassId) : List (ClassId × FieldType) := [(cI, .int), (cB, .byte), (cJ, .long), (cZ, .boolean), (cQ, .array .int)]
theorem wn_1_0 : (Jvm.Cond.initialized "CircuitCyclesLaw") ∈ xw_G := xw_c1 (List.mem_of_getElem? (i := 0) rfl) rfl
theorem wn_1_1 : (Jvm.Cond.initialized "CircuitCycles") ∈ xw_G := xw_c1 (List.mem_of_getElem? (i := 1) rfl) rfl
theorem wn_1_2 : (Jvm.Cond.initialized "CircuitCycles$Tokens") ∈ xw_G := xw_c1 (List.mem_of_getElem? (i := 2) rfl) rfl
theorem wn_1_3 : (Jvm.Cond.initialized "CircuitCycles$Scanner") ∈ xw_G := xw_c1 (List.mem_of_getElem? (i := 3) rfl) rfl
theorem wn_1_4 : (Jvm.Cond.initialized "CircuitCycles$Checker") ∈ xw_G := xw_c1 (List.mem_of_getElem? (i := 4) rfl) rfl
theorem wn_1_5 : (Jvm.Cond.initialized "CircuitCycles$Grammar") ∈ xw_G := xw_c1 (List.mem_of_getElem? (i := 5) rfl) rfl
theorem wn_1_6 : (Jvm.Cond.initialized "CircuitCycles$Meaning") ∈ xw_G := xw_c1 (List.mem_of_getElem? (i := 6) rfl) rfl
theorem wn_1_7 : (Jvm.Cond.initialized "CircuitCycles$Order") ∈ xw_G := xw_c1 (List.mem_of_getElem? (i := 7) rfl) rfl
theorem wn_1_8 : (Jvm.Cond.initialized "CircuitCycles$Machine") ∈ xw_G := xw_c1 (List.mem_of_getElem? (i := 8) rfl) rfl
theorem wn_1_9 : (Jvm.Cond.initialized "CircuitCycles$Circuit") ∈ xw_G := xw_c1 (List.mem_of_getElem? (i := 9) rfl) rfl
theorem wn_1_10 : (Jvm.Cond.initialized "CircuitCycles$Design") ∈ xw_G := xw_c1 (List.mem_of_getElem? (i := 10) rfl) rfl
theorem wn_1_11 : (Jvm.Cond.initialized "CircuitCycles$Parts") ∈ xw_G := xw_c1 (List.mem_of_getElem? (i := 11) rfl) rfl
theorem wn_1_12 : (Jvm.Cond.initialized "CircuitCycles$Code") ∈ xw_G := xw_c1 (List.mem_of_getElem? (i := 12) rfl) rfl
theorem wn_1_13 : (Jvm.Cond.initialized "CircuitCyclesModel") ∈ xw_G := xw_c1 (List.mem_of_getElem? (i := 13) rfl) rfl
theorem wn_1_18 : (Jvm.Cond.initialized "java/lang/IllegalArgumentException") ∈ xw_G := xw_c1 (List.mem_of_getElem? (i := 18) rfl) rfl
theorem wn_1_19 : (Jvm.Cond.initialized "java/lang/Math") ∈ xw_G := xw_c1 (List.mem_of_getElem? (i := 19) rfl) rfl
theorem wn_1_20 : (Jvm.Cond.initialized "java/util/Arrays") ∈ xw_G := xw_c1 (List.mem_of_getElem? (i := 20) rfl) rfl
theorem wn_1_26 : (Jvm.Cond.initialized "java/lang/IllegalStateException") ∈ xw_G := xw_c1 (List.mem_of_getElem? (i := 26) rfl) rfl
theorem wn_1_30 : (Jvm.Cond.classLink "CircuitCyclesLaw" (8 : Nat) "CircuitCycles") ∈ xw_G := xw_c1 (List.mem_of_getElem? (i := 30) rfl) rfl
theorem wn_1_31 : (Jvm.Cond.instantiable "CircuitCycles" (11 : Nat)) ∈ xw_G := xw_c1 (List.mem_of_getElem? (i := 31) rfl) rfl
theorem wn_1_32 : (Jvm.Cond.methodLink "CircuitCyclesLaw" (54 : Nat) ({ cls := "CircuitCycles", name := "<init>", desc := "()V" } : Jvm.MethodName)) ∈ xw_G := xw_c1 (List.mem_of_getElem? (i := 32) rfl) rfl
theorem wn_1_33 : (Jvm.Cond.instanceMethod ({ cls := "CircuitCycles", name := "<init>", desc := "()V" } : Jvm.MethodName)) ∈ xw_G := xw_c1 (List.mem_of_getElem? (i := 33) rfl) rfl
theorem wn_1_34 : (Jvm.Cond.code ({ cls := "CircuitCycles", name := "<init>", desc := "()V" } : Jvm.MethodName) prog_1_method_1_code (1 : Nat) (Option.none : Option Jvm.ClassFile.FieldType)) ∈ xw_G := xw_c1 (List.mem_of_getElem? (i := 34) rfl) rfl
theorem wn_1_35 : (Jvm.Cond.methodLink "CircuitCycles" (3 : Nat) ({ cls := "java/lang/Object", name := "<init>", desc := "()V" } : Jvm.MethodName)) ∈ xw_G := xw_c1 (List.mem_of_getElem? (i := 35) rfl) rfl
theorem wn_1_36 : (Jvm.Cond.instanceMethod ({ cls := "java/lang/Object", name := "<init>", desc := "()V" } : Jvm.MethodName)) ∈ xw_G := xw_c1 (List.mem_of_getElem? (i := 36) rfl) rfl
theorem wn_1_37 : (Jvm.Cond.code ({ cls := "java/lang/Object", name := "<init>", desc := "()V" } : Jvm.MethodName) object_method_1_code (1 : Nat) (Option.none : Option Jvm.ClassFile.FieldType)) ∈ xw_G := xw_c1 (List.mem_of_getElem? (i := 37) rfl) rfl
theorem wn_1_38 : (Jvm.Cond.classLink "CircuitCycles" (9 : Nat) "CircuitCycles$Tokens") ∈ xw_G := xw_c1 (List.mem_of_getElem? (i := 38) rfl) rfl
theorem wn_1_39 : (Jvm.Cond.instantiable "CircuitCycles$Tokens" (9 : Nat)) ∈ xw_G := xw_c1 (List.mem_of_getElem? (i := 39) rfl) rfl
theorem wn_1_41 : (Jvm.Cond.instanceMethod ({ cls := "CircuitCycles$Tokens", name := "<init>", desc := "()V" } : Jvm.MethodName)) ∈ xw_G := xw_c1 (List.mem_of_getElem? (i := 41) rfl) rfl
theorem wn_1_42 : (Jvm.Cond.code ({ cls := "CircuitCycles$Tokens", name := "<init>", desc := "()V" } : Jvm.MethodName) prog_12_method_1_code (1 : Nat) (Option.none : Option Jvm.ClassFile.FieldType)) ∈ xw_G := xw_c1 (List.mem_of_getElem? (i := 42) rfl) rfl
theorem wn_1_43 : (Jvm.Cond.methodLink "CircuitCycles$Tokens" (3 : Nat) ({ cls := "java/lang/Object", name := "<init>", desc := "()V" } : Jvm.MethodName)) ∈ xw_G := xw_c1 (List.mem_of_getElem? (i := 43) rfl) rfl
theorem wn_1_44 : (Jvm.Cond.constant "CircuitCycles$Tokens" (9 : Nat) (65537 : Int32)) ∈ xw_G := xw_c1 (List.mem_of_getElem? (i := 44) rfl) rfl
theorem wn_1_45 : (Jvm.Cond.fieldLink "CircuitCycles$Tokens" (10 : Nat) "CircuitCycles$Tokens" "row" "[J") ∈ xw_G := xw_c1 (List.mem_of_getElem? (i := 45) rfl) rfl
theorem wn_1_46 : (Jvm.Cond.fieldLink "CircuitCycles$Tokens" (16 : Nat) "CircuitCycles$Tokens" "size" "I") ∈ xw_G := xw_c1 (List.mem_of_getElem? (i := 46) rfl) rfl
theorem wn_1_47 : (Jvm.Cond.fieldLink "CircuitCycles$Grammar" (61 : Nat) "CircuitCycles$Tokens" "size" "I") ∈ xw_G := xw_c1 (List.mem_of_getElem? (i := 47) rfl) rfl
theorem wn_1_48 : (Jvm.Cond.fieldLink "CircuitCycles$Tokens" (20 : Nat) "CircuitCycles$Tokens" "index" "I") ∈ xw_G := xw_c1 (List.mem_of_getElem? (i := 48) rfl) rfl
theorem wn_1_50 : (Jvm.Cond.fieldLink "CircuitCycles$Grammar" (70 : Nat) "CircuitCycles$Tokens" "kind" "I") ∈ xw_G := xw_c1 (List.mem_of_getElem? (i := 50) rfl) rfl
theorem wn_1_51 : (Jvm.Cond.fieldLink "CircuitCycles$Tokens" (39 : Nat) "CircuitCycles$Tokens" "kind" "I") ∈ xw_G := xw_c1 (List.mem_of_getElem? (i := 51) rfl) rfl
theorem wn_1_53 : (Jvm.Cond.fieldLink "CircuitCycles$Tokens" (43 : Nat) "CircuitCycles$Tokens" "place" "I") ∈ xw_G := xw_c1 (List.mem_of_getElem? (i := 53) rfl) rfl
theorem wn_1_55 : (Jvm.Cond.fieldLink "CircuitCycles$Tokens" (49 : Nat) "CircuitCycles$Tokens" "extra" "I") ∈ xw_G := xw_c1 (List.mem_of_getElem? (i := 55) rfl) rfl
theorem wn_1_56 : (Jvm.Cond.fieldLink "CircuitCycles$Grammar" (64 : Nat) "CircuitCycles$Tokens" "faultCode" "I") ∈ xw_G := xw_c1 (List.mem_of_getElem? (i := 56) rfl) rfl
theorem wn_1_57 : (Jvm.Cond.fieldLink "CircuitCycles$Checker" (67 : Nat) "CircuitCycles$Tokens" "faultCode" "I") ∈ xw_G := xw_c1 (List.mem_of_getElem? (i := 57) rfl) rfl
theorem wn_1_58 : (Jvm.Cond.fieldLink "CircuitCycles$Tokens" (26 : Nat) "CircuitCycles$Tokens" "faultCode" "I") ∈ xw_G := xw_c1 (List.mem_of_getElem? (i := 58) rfl) rfl
theorem wn_1_59 : (Jvm.Cond.fieldLink "CircuitCycles" (108 : Nat) "CircuitCycles$Tokens" "faultCode" "I") ∈ xw_G := xw_c1 (List.mem_of_getElem? (i := 59) rfl) rfl
theorem wn_1_60 : (Jvm.Cond.fieldLink "CircuitCycles$Tokens" (29 : Nat) "CircuitCycles$Tokens" "faultPlace" "I") ∈ xw_G := xw_c1 (List.mem_of_getElem? (i := 60) rfl) rfl
theorem wn_1_61 : (Jvm.Cond.fieldLink "CircuitCycles" (105 : Nat) "CircuitCycles$Tokens" "faultPlace" "I") ∈ xw_G := xw_c1 (List.mem_of_getElem? (i := 61) rfl) rfl
theorem wn_1_62 : (Jvm.Cond.fieldLink "CircuitCycles$Tokens" (23 : Nat) "CircuitCycles$Tokens" "opens" "I") ∈ xw_G := xw_c1 (List.mem_of_getElem? (i := 62) rfl) rfl
theorem wn_1_63 : (Jvm.Cond.laysFinal "CircuitCycles$Tokens" "CircuitCycles$Tokens" "row" "[J") ∈ xw_G := xw_c1 (List.mem_of_getElem? (i := 63) rfl) rfl
theorem wn_1_65 : (Jvm.Cond.lays "CircuitCycles$Tokens" "CircuitCycles$Tokens" "size" "I") ∈ xw_G := xw_c1 (List.mem_of_getElem? (i := 65) rfl) rfl
theorem wn_1_67 : (Jvm.Cond.lays "CircuitCycles$Tokens" "CircuitCycles$Tokens" "index" "I") ∈ xw_G := xw_c1 (List.mem_of_getElem? (i := 67) rfl) rfl
theorem wn_1_69 : (Jvm.Cond.lays "CircuitCycles$Tokens" "CircuitCycles$Tokens" "kind" "I") ∈ xw_G := xw_c1 (List.mem_of_getElem? (i := 69) rfl) rfl
theorem wn_1_71 : (Jvm.Cond.lays "CircuitCycles$Tokens" "CircuitCycles$Tokens" "place" "I") ∈ xw_G := xw_c1 (List.mem_of_getElem? (i := 71) rfl) rfl
theorem wn_1_73 : (Jvm.Cond.lays "CircuitCycles$Tokens" "CircuitCycles$Tokens" "extra" "I") ∈ xw_G := xw_c1 (List.mem_of_getElem? (i := 73) rfl) rfl
theorem wn_1_75 : (Jvm.Cond.lays "CircuitCycles$Tokens" "CircuitCycles$Tokens" "faultCode" "I") ∈ xw_G := xw_c1 (List.mem_of_getElem? (i := 75) rfl) rfl
theorem wn_1_77 : (Jvm.Cond.lays "CircuitCycles$Tokens" "CircuitCycles$Tokens" "faultPlace" "I") ∈ xw_G := xw_c1 (List.mem_of_getElem? (i := 77) rfl) rfl
theorem wn_1_79 : (Jvm.Cond.lays "CircuitCycles$Tokens" "CircuitCycles$Tokens" "opens" "I") ∈ xw_G := xw_c1 (List.mem_of_getElem? (i := 79) rfl) rfl
theorem wn_1_82 : (Jvm.Cond.arrayClass Jvm.ClassFile.FieldType.long) ∈ xw_G := xw_c1 (List.mem_of_getElem? (i := 82) rfl) rfl
theorem wn_1_83 : (Jvm.Cond.classLink "CircuitCycles" (16 : Nat) "CircuitCycles$Scanner") ∈ xw_G := xw_c1 (List.mem_of_getElem? (i := 83) rfl) rfl
theorem wn_1_84 : (Jvm.Cond.instantiable "CircuitCycles$Scanner" (9 : Nat)) ∈ xw_G := xw_c1 (List.mem_of_getElem? (i := 84) rfl) rfl
theorem wn_1_85 : (Jvm.Cond.methodLink "CircuitCycles" (18 : Nat) ({ cls := "CircuitCycles$Scanner", name := "<init>", desc := "(LCircuitCycles$Tokens;)V" } : Jvm.MethodName)) ∈ xw_G := xw_c1 (List.mem_of_getElem? (i := 85) rfl) rfl
theorem wn_1_86 : (Jvm.Cond.instanceMethod ({ cls := "CircuitCycles$Scanner", name := "<init>", desc := "(LCircuitCycles$Tokens;)V" } : Jvm.MethodName)) ∈ xw_G := xw_c1 (List.mem_of_getElem? (i := 86) rfl) rfl
theorem wn_1_87 : (Jvm.Cond.code ({ cls := "CircuitCycles$Scanner", name := "<init>", desc := "(LCircuitCycles$Tokens;)V" } : Jvm.MethodName) prog_11_method_1_code (2 : Nat) (Option.none : Option Jvm.ClassFile.FieldType)) ∈ xw_G := xw_c1 (List.mem_of_getElem? (i := 87) rfl) rfl
theorem wn_1_88 : (Jvm.Cond.methodLink "CircuitCycles$Scanner" (3 : Nat) ({ cls := "java/lang/Object", name := "<init>", desc := "()V" } : Jvm.MethodName)) ∈ xw_G := xw_c1 (List.mem_of_getElem? (i := 88) rfl) rfl
theorem wn_1_89 : (Jvm.Cond.fieldLink "CircuitCycles$Scanner" (28 : Nat) "CircuitCycles$Scanner" "tokens" "LCircuitCycles$Tokens;") ∈ xw_G := xw_c1 (List.mem_of_getElem? (i := 89) rfl) rfl
theorem wn_1_90 : (Jvm.Cond.fieldLink "CircuitCycles$Scanner" (9 : Nat) "CircuitCycles$Scanner" "text" "[B") ∈ xw_G := xw_c1 (List.mem_of_getElem? (i := 90) rfl) rfl
theorem wn_1_91 : (Jvm.Cond.fieldLink "CircuitCycles$Scanner" (45 : Nat) "CircuitCycles$Scanner" "length" "I") ∈ xw_G := xw_c1 (List.mem_of_getElem? (i := 91) rfl) rfl
theorem wn_1_92 : (Jvm.Cond.fieldLink "CircuitCycles$Scanner" (50 : Nat) "CircuitCycles$Scanner" "code" "LCircuitCycles$Code;") ∈ xw_G := xw_c1 (List.mem_of_getElem? (i := 92) rfl) rfl
theorem wn_1_93 : (Jvm.Cond.fieldLink "CircuitCycles$Scanner" (15 : Nat) "CircuitCycles$Scanner" "heads" "[I") ∈ xw_G := xw_c1 (List.mem_of_getElem? (i := 93) rfl) rfl
theorem wn_1_94 : (Jvm.Cond.fieldLink "CircuitCycles$Scanner" (19 : Nat) "CircuitCycles$Scanner" "nexts" "[I") ∈ xw_G := xw_c1 (List.mem_of_getElem? (i := 94) rfl) rfl
theorem wn_1_95 : (Jvm.Cond.fieldLink "CircuitCycles$Scanner" (22 : Nat) "CircuitCycles$Scanner" "wordStarts" "[I") ∈ xw_G := xw_c1 (List.mem_of_getElem? (i := 95) rfl) rfl
theorem wn_1_96 : (Jvm.Cond.fieldLink "CircuitCycles$Scanner" (25 : Nat) "CircuitCycles$Scanner" "wordKinds" "[I") ∈ xw_G := xw_c1 (List.mem_of_getElem? (i := 96) rfl) rfl
theorem wn_1_97 : (Jvm.Cond.fieldLink "CircuitCycles$Scanner" (62 : Nat) "CircuitCycles$Scanner" "words" "I") ∈ xw_G := xw_c1 (List.mem_of_getElem? (i := 97) rfl) rfl
theorem wn_1_98 : (Jvm.Cond.fieldLink "CircuitCycles" (98 : Nat) "CircuitCycles$Scanner" "words" "I") ∈ xw_G := xw_c1 (List.mem_of_getElem? (i := 98) rfl) rfl
theorem wn_1_99 : (Jvm.Cond.laysFinal "CircuitCycles$Scanner" "CircuitCycles$Scanner" "tokens" "LCircuitCycles$Tokens;") ∈ xw_G := xw_c1 (List.mem_of_getElem? (i := 99) rfl) rfl
theorem wn_1_101 : (Jvm.Cond.lays "CircuitCycles$Scanner" "CircuitCycles$Scanner" "text" "[B") ∈ xw_G := xw_c1 (List.mem_of_getElem? (i := 101) rfl) rfl
theorem wn_1_103 : (Jvm.Cond.lays "CircuitCycles$Scanner" "CircuitCycles$Scanner" "length" "I") ∈ xw_G := xw_c1 (List.mem_of_getElem? (i := 103) rfl) rfl
theorem wn_1_105 : (Jvm.Cond.lays "CircuitCycles$Scanner" "CircuitCycles$Scanner" "code" "LCircuitCycles$Code;") ∈ xw_G := xw_c1 (List.mem_of_getElem? (i := 105) rfl) rfl
theorem wn_1_107 : (Jvm.Cond.laysFinal "CircuitCycles$Scanner" "CircuitCycles$Scanner" "heads" "[I") ∈ xw_G := xw_c1 (List.mem_of_getElem? (i := 107) rfl) rfl
theorem wn_1_109 : (Jvm.Cond.laysFinal "CircuitCycles$Scanner" "CircuitCycles$Scanner" "nexts" "[I") ∈ xw_G := xw_c1 (List.mem_of_getElem? (i := 109) rfl) rfl
theorem wn_1_111 : (Jvm.Cond.laysFinal "CircuitCycles$Scanner" "CircuitCycles$Scanner" "wordStarts" "[I") ∈ xw_G := xw_c1 (List.mem_of_getElem? (i := 111) rfl) rfl
theorem wn_1_113 : (Jvm.Cond.laysFinal "CircuitCycles$Scanner" "CircuitCycles$Scanner" "wordKinds" "[I") ∈ xw_G := xw_c1 (List.mem_of_getElem? (i := 113) rfl) rfl
theorem wn_1_115 : (Jvm.Cond.lays "CircuitCycles$Scanner" "CircuitCycles$Scanner" "words" "I") ∈ xw_G := xw_c1 (List.mem_of_getElem? (i := 115) rfl) rfl
theorem wn_1_118 : (Jvm.Cond.arrayClass Jvm.ClassFile.FieldType.byte) ∈ xw_G := xw_c1 (List.mem_of_getElem? (i := 118) rfl) rfl
theorem wn_1_119 : (Jvm.Cond.arrayClass Jvm.ClassFile.FieldType.int) ∈ xw_G := xw_c1 (List.mem_of_getElem? (i := 119) rfl) rfl
theorem wn_1_120 : (Jvm.Cond.classLink "CircuitCycles" (25 : Nat) "CircuitCycles$Checker") ∈ xw_G := xw_c1 (List.mem_of_getElem? (i := 120) rfl) rfl
theorem wn_1_121 : (Jvm.Cond.instantiable "CircuitCycles$Checker" (15 : Nat)) ∈ xw_G := xw_c1 (List.mem_of_getElem? (i := 121) rfl) rfl
theorem wn_1_122 : (Jvm.Cond.methodLink "CircuitCycles" (27 : Nat) ({ cls := "CircuitCycles$Checker", name := "<init>", desc := "(LCircuitCycles$Tokens;)V" } : Jvm.MethodName)) ∈ xw_G := xw_c1 (List.mem_of_getElem? (i := 122) rfl) rfl
theorem wn_1_123 : (Jvm.Cond.instanceMethod ({ cls := "CircuitCycles$Checker", name := "<init>", desc := "(LCircuitCycles$Tokens;)V" } : Jvm.MethodName)) ∈ xw_G := xw_c1 (List.mem_of_getElem? (i := 123) rfl) rfl
theorem wn_1_124 : (Jvm.Cond.code ({ cls := "CircuitCycles$Checker", name := "<init>", desc := "(LCircuitCycles$Tokens;)V" } : Jvm.MethodName) prog_2_method_1_code (2 : Nat) (Option.none : Option Jvm.ClassFile.FieldType)) ∈ xw_G := xw_c1 (List.mem_of_getElem? (i := 124) rfl) rfl
theorem wn_1_125 : (Jvm.Cond.methodLink "CircuitCycles$Checker" (3 : Nat) ({ cls := "java/lang/Object", name := "<init>", desc := "()V" } : Jvm.MethodName)) ∈ xw_G := xw_c1 (List.mem_of_getElem? (i := 125) rfl) rfl
theorem wn_1_126 : (Jvm.Cond.fieldLink "CircuitCycles$Checker" (27 : Nat) "CircuitCycles$Checker" "tokens" "LCircuitCycles$Tokens;") ∈ xw_G := xw_c1 (List.mem_of_getElem? (i := 126) rfl) rfl
theorem wn_1_127 : (Jvm.Cond.fieldLink "CircuitCycles$Checker" (37 : Nat) "CircuitCycles$Checker" "parts" "LCircuitCycles$Parts;") ∈ xw_G := xw_c1 (List.mem_of_getElem? (i := 127) rfl) rfl
theorem wn_1_128 : (Jvm.Cond.fieldLink "CircuitCycles$Checker" (42 : Nat) "CircuitCycles$Checker" "code" "LCircuitCycles$Code;") ∈ xw_G := xw_c1 (List.mem_of_getElem? (i := 128) rfl) rfl
theorem wn_1_129 : (Jvm.Cond.fieldLink "CircuitCycles$Checker" (43 : Nat) "CircuitCycles$Checker" "module" "I") ∈ xw_G := xw_c1 (List.mem_of_getElem? (i := 129) rfl) rfl
theorem wn_1_131 : (Jvm.Cond.fieldLink "CircuitCycles$Checker" (9 : Nat) "CircuitCycles$Checker" "modules" "[I") ∈ xw_G := xw_c1 (List.mem_of_getElem? (i := 131) rfl) rfl
theorem wn_1_132 : (Jvm.Cond.fieldLink "CircuitCycles$Checker" (15 : Nat) "CircuitCycles$Checker" "decls" "[I") ∈ xw_G := xw_c1 (List.mem_of_getElem? (i := 132) rfl) rfl
theorem wn_1_133 : (Jvm.Cond.fieldLink "CircuitCycles$Checker" (18 : Nat) "CircuitCycles$Checker" "stamps" "[I") ∈ xw_G := xw_c1 (List.mem_of_getElem? (i := 133) rfl) rfl
theorem wn_1_134 : (Jvm.Cond.fieldLink "CircuitCycles$Checker" (21 : Nat) "CircuitCycles$Checker" "names" "[I") ∈ xw_G := xw_c1 (List.mem_of_getElem? (i := 134) rfl) rfl
theorem wn_1_135 : (Jvm.Cond.fieldLink "CircuitCycles$Checker" (24 : Nat) "CircuitCycles$Checker" "widths" "[I") ∈ xw_G := xw_c1 (List.mem_of_getElem? (i := 135) rfl) rfl
theorem wn_1_136 : (Jvm.Cond.fieldLink "CircuitCycles$Checker" (53 : Nat) "CircuitCycles$Checker" "top" "I") ∈ xw_G := xw_c1 (List.mem_of_getElem? (i := 136) rfl) rfl
theorem wn_1_141 : (Jvm.Cond.fieldLink "CircuitCycles$Checker" (47 : Nat) "CircuitCycles$Checker" "faultCode" "I") ∈ xw_G := xw_c1 (List.mem_of_getElem? (i := 141) rfl) rfl
theorem wn_1_143 : (Jvm.Cond.fieldLink "CircuitCycles$Checker" (50 : Nat) "CircuitCycles$Checker" "faultPlace" "I") ∈ xw_G := xw_c1 (List.mem_of_getElem? (i := 143) rfl) rfl
theorem wn_1_145 : (Jvm.Cond.laysFinal "CircuitCycles$Checker" "CircuitCycles$Checker" "tokens" "LCircuitCycles$Tokens;") ∈ xw_G := xw_c1 (List.mem_of_getElem? (i := 145) rfl) rfl
theorem wn_1_147 : (Jvm.Cond.lays "CircuitCycles$Checker" "CircuitCycles$Checker" "parts" "LCircuitCycles$Parts;") ∈ xw_G := xw_c1 (List.mem_of_getElem? (i := 147) rfl) rfl
theorem wn_1_149 : (Jvm.Cond.lays "CircuitCycles$Checker" "CircuitCycles$Checker" "code" "LCircuitCycles$Code;") ∈ xw_G := xw_c1 (List.mem_of_getElem? (i := 149) rfl) rfl
theorem wn_1_151 : (Jvm.Cond.lays "CircuitCycles$Checker" "CircuitCycles$Checker" "module" "I") ∈ xw_G := xw_c1 (List.mem_of_getElem? (i := 151) rfl) rfl
theorem wn_1_153 : (Jvm.Cond.lays "CircuitCycles$Checker" "CircuitCycles$Checker" "firstDecl" "I") ∈ xw_G := xw_c1 (List.mem_of_getElem? (i := 153) rfl) rfl
theorem wn_1_155 : (Jvm.Cond.laysFinal "CircuitCycles$Checker" "CircuitCycles$Checker" "modules" "[I") ∈ xw_G := xw_c1 (List.mem_of_getElem? (i := 155) rfl) rfl
theorem wn_1_157 : (Jvm.Cond.laysFinal "CircuitCycles$Checker" "CircuitCycles$Checker" "decls" "[I") ∈ xw_G := xw_c1 (List.mem_of_getElem? (i := 157) rfl) rfl
theorem wn_1_159 : (Jvm.Cond.laysFinal "CircuitCycles$Checker" "CircuitCycles$Checker" "stamps" "[I") ∈ xw_G := xw_c1 (List.mem_of_getElem? (i := 159) rfl) rfl
theorem wn_1_161 : (Jvm.Cond.laysFinal "CircuitCycles$Checker" "CircuitCycles$Checker" "names" "[I") ∈ xw_G := xw_c1 (List.mem_of_getElem? (i := 161) rfl) rfl
theorem wn_1_163 : (Jvm.Cond.laysFinal "CircuitCycles$Checker" "CircuitCycles$Checker" "widths" "[I") ∈ xw_G := xw_c1 (List.mem_of_getElem? (i := 163) rfl) rfl
theorem wn_1_165 : (Jvm.Cond.lays "CircuitCycles$Checker" "CircuitCycles$Checker" "top" "I") ∈ xw_G := xw_c1 (List.mem_of_getElem? (i := 165) rfl) rfl
theorem wn_1_167 : (Jvm.Cond.lays "CircuitCycles$Checker" "CircuitCycles$Checker" "expStart" "I") ∈ xw_G := xw_c1 (List.mem_of_getElem? (i := 167) rfl) rfl
theorem wn_1_169 : (Jvm.Cond.lays "CircuitCycles$Checker" "CircuitCycles$Checker" "cost" "I") ∈ xw_G := xw_c1 (List.mem_of_getElem? (i := 169) rfl) rfl
theorem wn_1_171 : (Jvm.Cond.lays "CircuitCycles$Checker" "CircuitCycles$Checker" "faultCode" "I") ∈ xw_G := xw_c1 (List.mem_of_getElem? (i := 171) rfl) rfl
theorem wn_1_173 : (Jvm.Cond.lays "CircuitCycles$Checker" "CircuitCycles$Checker" "faultPlace" "I") ∈ xw_G := xw_c1 (List.mem_of_getElem? (i := 173) rfl) rfl
theorem wn_1_176 : (Jvm.Cond.classLink "CircuitCycles" (32 : Nat) "CircuitCycles$Grammar") ∈ xw_G := xw_c1 (List.mem_of_getElem? (i := 176) rfl) rfl
theorem wn_1_177 : (Jvm.Cond.instantiable "CircuitCycles$Grammar" (15 : Nat)) ∈ xw_G := xw_c1 (List.mem_of_getElem? (i := 177) rfl) rfl
theorem wn_1_178 : (Jvm.Cond.classLink "CircuitCycles" (34 : Nat) "CircuitCycles$Meaning") ∈ xw_G := xw_c1 (List.mem_of_getElem? (i := 178) rfl) rfl
theorem wn_1_179 : (Jvm.Cond.instantiable "CircuitCycles$Meaning" (17 : Nat)) ∈ xw_G := xw_c1 (List.mem_of_getElem? (i := 179) rfl) rfl
theorem wn_1_180 : (Jvm.Cond.methodLink "CircuitCycles" (36 : Nat) ({ cls := "CircuitCycles$Meaning", name := "<init>", desc := "(LCircuitCycles$Checker;)V" } : Jvm.MethodName)) ∈ xw_G := xw_c1 (List.mem_of_getElem? (i := 180) rfl) rfl
theorem wn_1_181 : (Jvm.Cond.instanceMethod ({ cls := "CircuitCycles$Meaning", name := "<init>", desc := "(LCircuitCycles$Checker;)V" } : Jvm.MethodName)) ∈ xw_G := xw_c1 (List.mem_of_getElem? (i := 181) rfl) rfl
theorem wn_1_182 : (Jvm.Cond.code ({ cls := "CircuitCycles$Meaning", name := "<init>", desc := "(LCircuitCycles$Checker;)V" } : Jvm.MethodName) prog_8_method_1_code (2 : Nat) (Option.none : Option Jvm.ClassFile.FieldType)) ∈ xw_G := xw_c1 (List.mem_of_getElem? (i := 182) rfl) rfl
theorem wn_1_183 : (Jvm.Cond.methodLink "CircuitCycles$Meaning" (3 : Nat) ({ cls := "java/lang/Object", name := "<init>", desc := "()V" } : Jvm.MethodName)) ∈ xw_G := xw_c1 (List.mem_of_getElem? (i := 183) rfl) rfl
theorem wn_1_184 : (Jvm.Cond.fieldLink "CircuitCycles$Meaning" (24 : Nat) "CircuitCycles$Meaning" "checker" "LCircuitCycles$Checker;") ∈ xw_G := xw_c1 (List.mem_of_getElem? (i := 184) rfl) rfl
theorem wn_1_185 : (Jvm.Cond.fieldLink "CircuitCycles$Meaning" (28 : Nat) "CircuitCycles$Meaning" "design" "LCircuitCycles$Design;") ∈ xw_G := xw_c1 (List.mem_of_getElem? (i := 185) rfl) rfl
theorem wn_1_186 : (Jvm.Cond.fieldLink "CircuitCycles$Meaning" (38 : Nat) "CircuitCycles$Meaning" "parts" "LCircuitCycles$Parts;") ∈ xw_G := xw_c1 (List.mem_of_getElem? (i := 186) rfl) rfl
theorem wn_1_187 : (Jvm.Cond.fieldLink "CircuitCycles$Meaning" (43 : Nat) "CircuitCycles$Meaning" "code" "LCircuitCycles$Code;") ∈ xw_G := xw_c1 (List.mem_of_getElem? (i := 187) rfl) rfl
theorem wn_1_188 : (Jvm.Cond.fieldLink "CircuitCycles$Meaning" (44 : Nat) "CircuitCycles$Meaning" "rangeWidth" "I") ∈ xw_G := xw_c1 (List.mem_of_getElem? (i := 188) rfl) rfl
theorem wn_1_193 : (Jvm.Cond.fieldLink "CircuitCycles$Meaning" (48 : Nat) "CircuitCycles$Meaning" "alwaysNumber" "I") ∈ xw_G := xw_c1 (List.mem_of_getElem? (i := 193) rfl) rfl
theorem wn_1_196 : (Jvm.Cond.fieldLink "CircuitCycles$Meaning" (9 : Nat) "CircuitCycles$Meaning" "jumps" "[I") ∈ xw_G := xw_c1 (List.mem_of_getElem? (i := 196) rfl) rfl
theorem wn_1_197 : (Jvm.Cond.fieldLink "CircuitCycles$Meaning" (15 : Nat) "CircuitCycles$Meaning" "exits" "[I") ∈ xw_G := xw_c1 (List.mem_of_getElem? (i := 197) rfl) rfl
theorem wn_1_198 : (Jvm.Cond.fieldLink "CircuitCycles$Meaning" (18 : Nat) "CircuitCycles$Meaning" "matches" "[I") ∈ xw_G := xw_c1 (List.mem_of_getElem? (i := 198) rfl) rfl
theorem wn_1_199 : (Jvm.Cond.fieldLink "CircuitCycles$Meaning" (21 : Nat) "CircuitCycles$Meaning" "widths" "[I") ∈ xw_G := xw_c1 (List.mem_of_getElem? (i := 199) rfl) rfl
theorem wn_1_200 : (Jvm.Cond.fieldLink "CircuitCycles$Meaning" (51 : Nat) "CircuitCycles$Meaning" "depth" "I") ∈ xw_G := xw_c1 (List.mem_of_getElem? (i := 200) rfl) rfl
theorem wn_1_201 : (Jvm.Cond.laysFinal "CircuitCycles$Meaning" "CircuitCycles$Meaning" "checker" "LCircuitCycles$Checker;") ∈ xw_G := xw_c1 (List.mem_of_getElem? (i := 201) rfl) rfl
theorem wn_1_203 : (Jvm.Cond.lays "CircuitCycles$Meaning" "CircuitCycles$Meaning" "design" "LCircuitCycles$Design;") ∈ xw_G := xw_c1 (List.mem_of_getElem? (i := 203) rfl) rfl
theorem wn_1_205 : (Jvm.Cond.lays "CircuitCycles$Meaning" "CircuitCycles$Meaning" "parts" "LCircuitCycles$Parts;") ∈ xw_G := xw_c1 (List.mem_of_getElem? (i := 205) rfl) rfl
theorem wn_1_207 : (Jvm.Cond.lays "CircuitCycles$Meaning" "CircuitCycles$Meaning" "code" "LCircuitCycles$Code;") ∈ xw_G := xw_c1 (List.mem_of_getElem? (i := 207) rfl) rfl
theorem wn_1_209 : (Jvm.Cond.lays "CircuitCycles$Meaning" "CircuitCycles$Meaning" "rangeWidth" "I") ∈ xw_G := xw_c1 (List.mem_of_getElem? (i := 209) rfl) rfl
theorem wn_1_211 : (Jvm.Cond.lays "CircuitCycles$Meaning" "CircuitCycles$Meaning" "target" "I") ∈ xw_G := xw_c1 (List.mem_of_getElem? (i := 211) rfl) rfl
theorem wn_1_213 : (Jvm.Cond.lays "CircuitCycles$Meaning" "CircuitCycles$Meaning" "targetLow" "I") ∈ xw_G := xw_c1 (List.mem_of_getElem? (i := 213) rfl) rfl
theorem wn_1_215 : (Jvm.Cond.lays "CircuitCycles$Meaning" "CircuitCycles$Meaning" "targetWidth" "I") ∈ xw_G := xw_c1 (List.mem_of_getElem? (i := 215) rfl) rfl
theorem wn_1_217 : (Jvm.Cond.lays "CircuitCycles$Meaning" "CircuitCycles$Meaning" "port" "I") ∈ xw_G := xw_c1 (List.mem_of_getElem? (i := 217) rfl) rfl
theorem wn_1_219 : (Jvm.Cond.lays "CircuitCycles$Meaning" "CircuitCycles$Meaning" "alwaysNumber" "I") ∈ xw_G := xw_c1 (List.mem_of_getElem? (i := 219) rfl) rfl
theorem wn_1_221 : (Jvm.Cond.lays "CircuitCycles$Meaning" "CircuitCycles$Meaning" "alwaysStart" "I") ∈ xw_G := xw_c1 (List.mem_of_getElem? (i := 221) rfl) rfl
theorem wn_1_223 : (Jvm.Cond.lays "CircuitCycles$Meaning" "CircuitCycles$Meaning" "stores" "Z") ∈ xw_G := xw_c1 (List.mem_of_getElem? (i := 223) rfl) rfl
theorem wn_1_225 : (Jvm.Cond.laysFinal "CircuitCycles$Meaning" "CircuitCycles$Meaning" "jumps" "[I") ∈ xw_G := xw_c1 (List.mem_of_getElem? (i := 225) rfl) rfl
theorem wn_1_227 : (Jvm.Cond.laysFinal "CircuitCycles$Meaning" "CircuitCycles$Meaning" "exits" "[I") ∈ xw_G := xw_c1 (List.mem_of_getElem? (i := 227) rfl) rfl
theorem wn_1_229 : (Jvm.Cond.laysFinal "CircuitCycles$Meaning" "CircuitCycles$Meaning" "matches" "[I") ∈ xw_G := xw_c1 (List.mem_of_getElem? (i := 229) rfl) rfl
theorem wn_1_231 : (Jvm.Cond.laysFinal "CircuitCycles$Meaning" "CircuitCycles$Meaning" "widths" "[I") ∈ xw_G := xw_c1 (List.mem_of_getElem? (i := 231) rfl) rfl
theorem wn_1_233 : (Jvm.Cond.lays "CircuitCycles$Meaning" "CircuitCycles$Meaning" "depth" "I") ∈ xw_G := xw_c1 (List.mem_of_getElem? (i := 233) rfl) rfl
theorem wn_1_236 : (Jvm.Cond.methodLink "CircuitCycles" (39 : Nat) ({ cls := "CircuitCycles$Grammar", name := "<init>", desc := "(LCircuitCycles$Tokens;LCircuitCycles$Checker;LCircuitCycles$Meaning;)V" } : Jvm.MethodName)) ∈ xw_G := xw_c1 (List.mem_of_getElem? (i := 236) rfl) rfl
theorem wn_1_237 : (Jvm.Cond.instanceMethod ({ cls := "CircuitCycles$Grammar", name := "<init>", desc := "(LCircuitCycles$Tokens;LCircuitCycles$Checker;LCircuitCycles$Meaning;)V" } : Jvm.MethodName)) ∈ xw_G := xw_c1 (List.mem_of_getElem? (i := 237) rfl) rfl
theorem wn_1_238 : (Jvm.Cond.code ({ cls := "CircuitCycles$Grammar", name := "<init>", desc := "(LCircuitCycles$Tokens;LCircuitCycles$Checker;LCircuitCycles$Meaning;)V" } : Jvm.MethodName) prog_6_method_1_code (4 : Nat) (Option.none : Option Jvm.ClassFile.FieldType)) ∈ xw_G := xw_c1 (List.mem_of_getElem? (i := 238) rfl) rfl
theorem wn_1_239 : (Jvm.Cond.methodLink "CircuitCycles$Grammar" (3 : Nat) ({ cls := "java/lang/Object", name := "<init>", desc := "()V" } : Jvm.MethodName)) ∈ xw_G := xw_c1 (List.mem_of_getElem? (i := 239) rfl) rfl
theorem wn_2_0 : (Jvm.Cond.fieldLink "CircuitCycles$Grammar" (24 : Nat) "CircuitCycles$Grammar" "tokens" "LCircuitCycles$Tokens;") ∈ xw_G := xw_c2 (List.mem_of_getElem? (i := 0) rfl) rfl
theorem wn_2_1 : (Jvm.Cond.fieldLink "CircuitCycles$Grammar" (28 : Nat) "CircuitCycles$Grammar" "checker" "LCircuitCycles$Checker;") ∈ xw_G := xw_c2 (List.mem_of_getElem? (i := 1) rfl) rfl
theorem wn_2_2 : (Jvm.Cond.fieldLink "CircuitCycles$Grammar" (32 : Nat) "CircuitCycles$Grammar" "meaning" "LCircuitCycles$Meaning;") ∈ xw_G := xw_c2 (List.mem_of_getElem? (i := 2) rfl) rfl
theorem wn_2_3 : (Jvm.Cond.fieldLink "CircuitCycles$Grammar" (58 : Nat) "CircuitCycles$Grammar" "state" "I") ∈ xw_G := xw_c2 (List.mem_of_getElem? (i := 3) rfl) rfl
theorem wn_2_9 : (Jvm.Cond.fieldLink "CircuitCycles$Grammar" (9 : Nat) "CircuitCycles$Grammar" "contexts" "[I") ∈ xw_G := xw_c2 (List.mem_of_getElem? (i := 9) rfl) rfl
theorem wn_2_10 : (Jvm.Cond.fieldLink "CircuitCycles$Grammar" (55 : Nat) "CircuitCycles$Grammar" "depth" "I") ∈ xw_G := xw_c2 (List.mem_of_getElem? (i := 10) rfl) rfl
theorem wn_2_11 : (Jvm.Cond.fieldLink "CircuitCycles$Grammar" (15 : Nat) "CircuitCycles$Grammar" "heldKinds" "[I") ∈ xw_G := xw_c2 (List.mem_of_getElem? (i := 11) rfl) rfl
theorem wn_2_12 : (Jvm.Cond.fieldLink "CircuitCycles$Grammar" (18 : Nat) "CircuitCycles$Grammar" "heldPlaces" "[I") ∈ xw_G := xw_c2 (List.mem_of_getElem? (i := 12) rfl) rfl
theorem wn_2_13 : (Jvm.Cond.fieldLink "CircuitCycles$Grammar" (21 : Nat) "CircuitCycles$Grammar" "heldTimes" "[I") ∈ xw_G := xw_c2 (List.mem_of_getElem? (i := 13) rfl) rfl
theorem wn_2_14 : (Jvm.Cond.fieldLink "CircuitCycles$Grammar" (51 : Nat) "CircuitCycles$Grammar" "held" "I") ∈ xw_G := xw_c2 (List.mem_of_getElem? (i := 14) rfl) rfl
theorem wn_2_15 : (Jvm.Cond.laysFinal "CircuitCycles$Grammar" "CircuitCycles$Grammar" "tokens" "LCircuitCycles$Tokens;") ∈ xw_G := xw_c2 (List.mem_of_getElem? (i := 15) rfl) rfl
theorem wn_2_17 : (Jvm.Cond.laysFinal "CircuitCycles$Grammar" "CircuitCycles$Grammar" "checker" "LCircuitCycles$Checker;") ∈ xw_G := xw_c2 (List.mem_of_getElem? (i := 17) rfl) rfl
theorem wn_2_19 : (Jvm.Cond.laysFinal "CircuitCycles$Grammar" "CircuitCycles$Grammar" "meaning" "LCircuitCycles$Meaning;") ∈ xw_G := xw_c2 (List.mem_of_getElem? (i := 19) rfl) rfl
theorem wn_2_21 : (Jvm.Cond.lays "CircuitCycles$Grammar" "CircuitCycles$Grammar" "state" "I") ∈ xw_G := xw_c2 (List.mem_of_getElem? (i := 21) rfl) rfl
theorem wn_2_23 : (Jvm.Cond.lays "CircuitCycles$Grammar" "CircuitCycles$Grammar" "purpose" "I") ∈ xw_G := xw_c2 (List.mem_of_getElem? (i := 23) rfl) rfl
theorem wn_2_25 : (Jvm.Cond.lays "CircuitCycles$Grammar" "CircuitCycles$Grammar" "signPlace" "I") ∈ xw_G := xw_c2 (List.mem_of_getElem? (i := 25) rfl) rfl
theorem wn_2_27 : (Jvm.Cond.lays "CircuitCycles$Grammar" "CircuitCycles$Grammar" "linkPlace" "I") ∈ xw_G := xw_c2 (List.mem_of_getElem? (i := 27) rfl) rfl
theorem wn_2_29 : (Jvm.Cond.lays "CircuitCycles$Grammar" "CircuitCycles$Grammar" "expPlace" "I") ∈ xw_G := xw_c2 (List.mem_of_getElem? (i := 29) rfl) rfl
theorem wn_2_31 : (Jvm.Cond.lays "CircuitCycles$Grammar" "CircuitCycles$Grammar" "expIndex" "I") ∈ xw_G := xw_c2 (List.mem_of_getElem? (i := 31) rfl) rfl
theorem wn_2_33 : (Jvm.Cond.laysFinal "CircuitCycles$Grammar" "CircuitCycles$Grammar" "contexts" "[I") ∈ xw_G := xw_c2 (List.mem_of_getElem? (i := 33) rfl) rfl
theorem wn_2_35 : (Jvm.Cond.lays "CircuitCycles$Grammar" "CircuitCycles$Grammar" "depth" "I") ∈ xw_G := xw_c2 (List.mem_of_getElem? (i := 35) rfl) rfl
theorem wn_2_37 : (Jvm.Cond.laysFinal "CircuitCycles$Grammar" "CircuitCycles$Grammar" "heldKinds" "[I") ∈ xw_G := xw_c2 (List.mem_of_getElem? (i := 37) rfl) rfl
theorem wn_2_39 : (Jvm.Cond.laysFinal "CircuitCycles$Grammar" "CircuitCycles$Grammar" "heldPlaces" "[I") ∈ xw_G := xw_c2 (List.mem_of_getElem? (i := 39) rfl) rfl
theorem wn_2_41 : (Jvm.Cond.laysFinal "CircuitCycles$Grammar" "CircuitCycles$Grammar" "heldTimes" "[I") ∈ xw_G := xw_c2 (List.mem_of_getElem? (i := 41) rfl) rfl
theorem wn_2_43 : (Jvm.Cond.lays "CircuitCycles$Grammar" "CircuitCycles$Grammar" "held" "I") ∈ xw_G := xw_c2 (List.mem_of_getElem? (i := 43) rfl) rfl
theorem wn_2_46 : (Jvm.Cond.classLink "CircuitCycles" (46 : Nat) "CircuitCycles$Order") ∈ xw_G := xw_c2 (List.mem_of_getElem? (i := 46) rfl) rfl
theorem wn_2_47 : (Jvm.Cond.instantiable "CircuitCycles$Order" (10 : Nat)) ∈ xw_G := xw_c2 (List.mem_of_getElem? (i := 47) rfl) rfl
theorem wn_2_49 : (Jvm.Cond.instanceMethod ({ cls := "CircuitCycles$Order", name := "<init>", desc := "()V" } : Jvm.MethodName)) ∈ xw_G := xw_c2 (List.mem_of_getElem? (i := 49) rfl) rfl
theorem wn_2_50 : (Jvm.Cond.code ({ cls := "CircuitCycles$Order", name := "<init>", desc := "()V" } : Jvm.MethodName) prog_9_method_1_code (1 : Nat) (Option.none : Option Jvm.ClassFile.FieldType)) ∈ xw_G := xw_c2 (List.mem_of_getElem? (i := 50) rfl) rfl
theorem wn_2_51 : (Jvm.Cond.methodLink "CircuitCycles$Order" (3 : Nat) ({ cls := "java/lang/Object", name := "<init>", desc := "()V" } : Jvm.MethodName)) ∈ xw_G := xw_c2 (List.mem_of_getElem? (i := 51) rfl) rfl
theorem wn_2_53 : (Jvm.Cond.fieldLink "CircuitCycles$Order" (9 : Nat) "CircuitCycles$Order" "numbers" "[I") ∈ xw_G := xw_c2 (List.mem_of_getElem? (i := 53) rfl) rfl
theorem wn_2_54 : (Jvm.Cond.fieldLink "CircuitCycles$Order" (15 : Nat) "CircuitCycles$Order" "lowest" "[I") ∈ xw_G := xw_c2 (List.mem_of_getElem? (i := 54) rfl) rfl
theorem wn_2_55 : (Jvm.Cond.fieldLink "CircuitCycles$Order" (18 : Nat) "CircuitCycles$Order" "cursors" "[I") ∈ xw_G := xw_c2 (List.mem_of_getElem? (i := 55) rfl) rfl
theorem wn_2_56 : (Jvm.Cond.fieldLink "CircuitCycles$Order" (21 : Nat) "CircuitCycles$Order" "path" "[I") ∈ xw_G := xw_c2 (List.mem_of_getElem? (i := 56) rfl) rfl
theorem wn_2_57 : (Jvm.Cond.fieldLink "CircuitCycles$Order" (24 : Nat) "CircuitCycles$Order" "open" "[I") ∈ xw_G := xw_c2 (List.mem_of_getElem? (i := 57) rfl) rfl
theorem wn_2_62 : (Jvm.Cond.lays "CircuitCycles$Order" "CircuitCycles$Order" "circuit" "LCircuitCycles$Circuit;") ∈ xw_G := xw_c2 (List.mem_of_getElem? (i := 62) rfl) rfl
theorem wn_2_64 : (Jvm.Cond.laysFinal "CircuitCycles$Order" "CircuitCycles$Order" "numbers" "[I") ∈ xw_G := xw_c2 (List.mem_of_getElem? (i := 64) rfl) rfl
theorem wn_2_66 : (Jvm.Cond.laysFinal "CircuitCycles$Order" "CircuitCycles$Order" "lowest" "[I") ∈ xw_G := xw_c2 (List.mem_of_getElem? (i := 66) rfl) rfl
theorem wn_2_68 : (Jvm.Cond.laysFinal "CircuitCycles$Order" "CircuitCycles$Order" "cursors" "[I") ∈ xw_G := xw_c2 (List.mem_of_getElem? (i := 68) rfl) rfl
theorem wn_2_70 : (Jvm.Cond.laysFinal "CircuitCycles$Order" "CircuitCycles$Order" "path" "[I") ∈ xw_G := xw_c2 (List.mem_of_getElem? (i := 70) rfl) rfl
theorem wn_2_72 : (Jvm.Cond.laysFinal "CircuitCycles$Order" "CircuitCycles$Order" "open" "[I") ∈ xw_G := xw_c2 (List.mem_of_getElem? (i := 72) rfl) rfl
theorem wn_2_74 : (Jvm.Cond.lays "CircuitCycles$Order" "CircuitCycles$Order" "pathSize" "I") ∈ xw_G := xw_c2 (List.mem_of_getElem? (i := 74) rfl) rfl
theorem wn_2_76 : (Jvm.Cond.lays "CircuitCycles$Order" "CircuitCycles$Order" "openSize" "I") ∈ xw_G := xw_c2 (List.mem_of_getElem? (i := 76) rfl) rfl
theorem wn_2_78 : (Jvm.Cond.lays "CircuitCycles$Order" "CircuitCycles$Order" "seen" "I") ∈ xw_G := xw_c2 (List.mem_of_getElem? (i := 78) rfl) rfl
theorem wn_2_80 : (Jvm.Cond.lays "CircuitCycles$Order" "CircuitCycles$Order" "looped" "I") ∈ xw_G := xw_c2 (List.mem_of_getElem? (i := 80) rfl) rfl
theorem wn_2_83 : (Jvm.Cond.classLink "CircuitCycles" (53 : Nat) "CircuitCycles$Machine") ∈ xw_G := xw_c2 (List.mem_of_getElem? (i := 83) rfl) rfl
theorem wn_2_84 : (Jvm.Cond.instantiable "CircuitCycles$Machine" (5 : Nat)) ∈ xw_G := xw_c2 (List.mem_of_getElem? (i := 84) rfl) rfl
theorem wn_2_86 : (Jvm.Cond.instanceMethod ({ cls := "CircuitCycles$Machine", name := "<init>", desc := "()V" } : Jvm.MethodName)) ∈ xw_G := xw_c2 (List.mem_of_getElem? (i := 86) rfl) rfl
theorem wn_2_87 : (Jvm.Cond.code ({ cls := "CircuitCycles$Machine", name := "<init>", desc := "()V" } : Jvm.MethodName) prog_7_method_1_code (1 : Nat) (Option.none : Option Jvm.ClassFile.FieldType)) ∈ xw_G := xw_c2 (List.mem_of_getElem? (i := 87) rfl) rfl
theorem wn_2_88 : (Jvm.Cond.methodLink "CircuitCycles$Machine" (3 : Nat) ({ cls := "java/lang/Object", name := "<init>", desc := "()V" } : Jvm.MethodName)) ∈ xw_G := xw_c2 (List.mem_of_getElem? (i := 88) rfl) rfl
theorem wn_2_89 : (Jvm.Cond.fieldLink "CircuitCycles$Machine" (9 : Nat) "CircuitCycles$Machine" "values" "[J") ∈ xw_G := xw_c2 (List.mem_of_getElem? (i := 89) rfl) rfl
theorem wn_2_90 : (Jvm.Cond.fieldLink "CircuitCycles$Machine" (15 : Nat) "CircuitCycles$Machine" "nexts" "[J") ∈ xw_G := xw_c2 (List.mem_of_getElem? (i := 90) rfl) rfl
theorem wn_2_91 : (Jvm.Cond.fieldLink "CircuitCycles$Machine" (18 : Nat) "CircuitCycles$Machine" "stack" "[J") ∈ xw_G := xw_c2 (List.mem_of_getElem? (i := 91) rfl) rfl
theorem wn_2_94 : (Jvm.Cond.laysFinal "CircuitCycles$Machine" "CircuitCycles$Machine" "values" "[J") ∈ xw_G := xw_c2 (List.mem_of_getElem? (i := 94) rfl) rfl
theorem wn_2_96 : (Jvm.Cond.laysFinal "CircuitCycles$Machine" "CircuitCycles$Machine" "nexts" "[J") ∈ xw_G := xw_c2 (List.mem_of_getElem? (i := 96) rfl) rfl
theorem wn_2_98 : (Jvm.Cond.laysFinal "CircuitCycles$Machine" "CircuitCycles$Machine" "stack" "[J") ∈ xw_G := xw_c2 (List.mem_of_getElem? (i := 98) rfl) rfl
theorem wn_2_100 : (Jvm.Cond.lays "CircuitCycles$Machine" "CircuitCycles$Machine" "cycle" "I") ∈ xw_G := xw_c2 (List.mem_of_getElem? (i := 100) rfl) rfl
theorem wn_2_102 : (Jvm.Cond.lays "CircuitCycles$Machine" "CircuitCycles$Machine" "settled" "Z") ∈ xw_G := xw_c2 (List.mem_of_getElem? (i := 102) rfl) rfl
theorem wn_2_105 : (Jvm.Cond.classLink "CircuitCycles" (60 : Nat) "CircuitCycles$Circuit") ∈ xw_G := xw_c2 (List.mem_of_getElem? (i := 105) rfl) rfl
theorem wn_2_106 : (Jvm.Cond.instantiable "CircuitCycles$Circuit" (14 : Nat)) ∈ xw_G := xw_c2 (List.mem_of_getElem? (i := 106) rfl) rfl
theorem wn_2_108 : (Jvm.Cond.instanceMethod ({ cls := "CircuitCycles$Circuit", name := "<init>", desc := "()V" } : Jvm.MethodName)) ∈ xw_G := xw_c2 (List.mem_of_getElem? (i := 108) rfl) rfl
theorem wn_2_109 : (Jvm.Cond.code ({ cls := "CircuitCycles$Circuit", name := "<init>", desc := "()V" } : Jvm.MethodName) prog_3_method_1_code (1 : Nat) (Option.none : Option Jvm.ClassFile.FieldType)) ∈ xw_G := xw_c2 (List.mem_of_getElem? (i := 109) rfl) rfl
theorem wn_2_110 : (Jvm.Cond.methodLink "CircuitCycles$Circuit" (3 : Nat) ({ cls := "java/lang/Object", name := "<init>", desc := "()V" } : Jvm.MethodName)) ∈ xw_G := xw_c2 (List.mem_of_getElem? (i := 110) rfl) rfl
theorem wn_2_111 : (Jvm.Cond.classLink "CircuitCycles$Circuit" (9 : Nat) "CircuitCycles$Design") ∈ xw_G := xw_c2 (List.mem_of_getElem? (i := 111) rfl) rfl
theorem wn_2_112 : (Jvm.Cond.instantiable "CircuitCycles$Design" (16 : Nat)) ∈ xw_G := xw_c2 (List.mem_of_getElem? (i := 112) rfl) rfl
theorem wn_2_114 : (Jvm.Cond.instanceMethod ({ cls := "CircuitCycles$Design", name := "<init>", desc := "()V" } : Jvm.MethodName)) ∈ xw_G := xw_c2 (List.mem_of_getElem? (i := 114) rfl) rfl
theorem wn_2_115 : (Jvm.Cond.code ({ cls := "CircuitCycles$Design", name := "<init>", desc := "()V" } : Jvm.MethodName) prog_5_method_1_code (1 : Nat) (Option.none : Option Jvm.ClassFile.FieldType)) ∈ xw_G := xw_c2 (List.mem_of_getElem? (i := 115) rfl) rfl
theorem wn_2_116 : (Jvm.Cond.methodLink "CircuitCycles$Design" (3 : Nat) ({ cls := "java/lang/Object", name := "<init>", desc := "()V" } : Jvm.MethodName)) ∈ xw_G := xw_c2 (List.mem_of_getElem? (i := 116) rfl) rfl
theorem wn_2_117 : (Jvm.Cond.classLink "CircuitCycles$Design" (9 : Nat) "CircuitCycles$Parts") ∈ xw_G := xw_c2 (List.mem_of_getElem? (i := 117) rfl) rfl
theorem wn_2_118 : (Jvm.Cond.instantiable "CircuitCycles$Parts" (15 : Nat)) ∈ xw_G := xw_c2 (List.mem_of_getElem? (i := 118) rfl) rfl
theorem wn_2_120 : (Jvm.Cond.instanceMethod ({ cls := "CircuitCycles$Parts", name := "<init>", desc := "()V" } : Jvm.MethodName)) ∈ xw_G := xw_c2 (List.mem_of_getElem? (i := 120) rfl) rfl
theorem wn_2_121 : (Jvm.Cond.code ({ cls := "CircuitCycles$Parts", name := "<init>", desc := "()V" } : Jvm.MethodName) prog_10_method_1_code (1 : Nat) (Option.none : Option Jvm.ClassFile.FieldType)) ∈ xw_G := xw_c2 (List.mem_of_getElem? (i := 121) rfl) rfl
theorem wn_2_122 : (Jvm.Cond.methodLink "CircuitCycles$Parts" (3 : Nat) ({ cls := "java/lang/Object", name := "<init>", desc := "()V" } : Jvm.MethodName)) ∈ xw_G := xw_c2 (List.mem_of_getElem? (i := 122) rfl) rfl
theorem wn_2_123 : (Jvm.Cond.fieldLink "CircuitCycles$Parts" (49 : Nat) "CircuitCycles$Parts" "declCount" "I") ∈ xw_G := xw_c2 (List.mem_of_getElem? (i := 123) rfl) rfl
theorem wn_2_127 : (Jvm.Cond.fieldLink "CircuitCycles$Parts" (9 : Nat) "CircuitCycles$Parts" "places" "[I") ∈ xw_G := xw_c2 (List.mem_of_getElem? (i := 127) rfl) rfl
theorem wn_2_130 : (Jvm.Cond.fieldLink "CircuitCycles$Parts" (15 : Nat) "CircuitCycles$Parts" "widths" "[I") ∈ xw_G := xw_c2 (List.mem_of_getElem? (i := 130) rfl) rfl
theorem wn_2_135 : (Jvm.Cond.fieldLink "CircuitCycles$Parts" (18 : Nat) "CircuitCycles$Parts" "sorts" "[I") ∈ xw_G := xw_c2 (List.mem_of_getElem? (i := 135) rfl) rfl
theorem wn_2_140 : (Jvm.Cond.fieldLink "CircuitCycles$Parts" (21 : Nat) "CircuitCycles$Parts" "firsts" "[J") ∈ xw_G := xw_c2 (List.mem_of_getElem? (i := 140) rfl) rfl
theorem wn_2_143 : (Jvm.Cond.fieldLink "CircuitCycles$Parts" (25 : Nat) "CircuitCycles$Parts" "starts" "[I") ∈ xw_G := xw_c2 (List.mem_of_getElem? (i := 143) rfl) rfl
theorem wn_2_146 : (Jvm.Cond.fieldLink "CircuitCycles$Parts" (28 : Nat) "CircuitCycles$Parts" "stops" "[I") ∈ xw_G := xw_c2 (List.mem_of_getElem? (i := 146) rfl) rfl
theorem wn_2_149 : (Jvm.Cond.fieldLink "CircuitCycles$Parts" (53 : Nat) "CircuitCycles$Parts" "childCount" "I") ∈ xw_G := xw_c2 (List.mem_of_getElem? (i := 149) rfl) rfl
theorem wn_2_152 : (Jvm.Cond.fieldLink "CircuitCycles$Parts" (31 : Nat) "CircuitCycles$Parts" "childModules" "[I") ∈ xw_G := xw_c2 (List.mem_of_getElem? (i := 152) rfl) rfl
theorem wn_2_156 : (Jvm.Cond.fieldLink "CircuitCycles$Parts" (34 : Nat) "CircuitCycles$Parts" "childPlaces" "[I") ∈ xw_G := xw_c2 (List.mem_of_getElem? (i := 156) rfl) rfl
theorem wn_2_159 : (Jvm.Cond.fieldLink "CircuitCycles$Parts" (37 : Nat) "CircuitCycles$Parts" "firstLinks" "[I") ∈ xw_G := xw_c2 (List.mem_of_getElem? (i := 159) rfl) rfl
theorem wn_2_162 : (Jvm.Cond.fieldLink "CircuitCycles$Parts" (56 : Nat) "CircuitCycles$Parts" "linkCount" "I") ∈ xw_G := xw_c2 (List.mem_of_getElem? (i := 162) rfl) rfl
theorem wn_2_164 : (Jvm.Cond.fieldLink "CircuitCycles$Parts" (40 : Nat) "CircuitCycles$Parts" "linkPorts" "[I") ∈ xw_G := xw_c2 (List.mem_of_getElem? (i := 164) rfl) rfl
theorem wn_2_166 : (Jvm.Cond.fieldLink "CircuitCycles$Parts" (43 : Nat) "CircuitCycles$Parts" "linkStarts" "[I") ∈ xw_G := xw_c2 (List.mem_of_getElem? (i := 166) rfl) rfl
theorem wn_2_169 : (Jvm.Cond.fieldLink "CircuitCycles$Parts" (46 : Nat) "CircuitCycles$Parts" "linkStops" "[I") ∈ xw_G := xw_c2 (List.mem_of_getElem? (i := 169) rfl) rfl
theorem wn_2_172 : (Jvm.Cond.lays "CircuitCycles$Parts" "CircuitCycles$Parts" "declCount" "I") ∈ xw_G := xw_c2 (List.mem_of_getElem? (i := 172) rfl) rfl
theorem wn_2_174 : (Jvm.Cond.laysFinal "CircuitCycles$Parts" "CircuitCycles$Parts" "places" "[I") ∈ xw_G := xw_c2 (List.mem_of_getElem? (i := 174) rfl) rfl
theorem wn_2_176 : (Jvm.Cond.laysFinal "CircuitCycles$Parts" "CircuitCycles$Parts" "widths" "[I") ∈ xw_G := xw_c2 (List.mem_of_getElem? (i := 176) rfl) rfl
theorem wn_2_178 : (Jvm.Cond.laysFinal "CircuitCycles$Parts" "CircuitCycles$Parts" "sorts" "[I") ∈ xw_G := xw_c2 (List.mem_of_getElem? (i := 178) rfl) rfl
theorem wn_2_180 : (Jvm.Cond.laysFinal "CircuitCycles$Parts" "CircuitCycles$Parts" "firsts" "[J") ∈ xw_G := xw_c2 (List.mem_of_getElem? (i := 180) rfl) rfl
theorem wn_2_182 : (Jvm.Cond.laysFinal "CircuitCycles$Parts" "CircuitCycles$Parts" "starts" "[I") ∈ xw_G := xw_c2 (List.mem_of_getElem? (i := 182) rfl) rfl
theorem wn_2_184 : (Jvm.Cond.laysFinal "CircuitCycles$Parts" "CircuitCycles$Parts" "stops" "[I") ∈ xw_G := xw_c2 (List.mem_of_getElem? (i := 184) rfl) rfl
theorem wn_2_186 : (Jvm.Cond.lays "CircuitCycles$Parts" "CircuitCycles$Parts" "childCount" "I") ∈ xw_G := xw_c2 (List.mem_of_getElem? (i := 186) rfl) rfl
theorem wn_2_188 : (Jvm.Cond.laysFinal "CircuitCycles$Parts" "CircuitCycles$Parts" "childModules" "[I") ∈ xw_G := xw_c2 (List.mem_of_getElem? (i := 188) rfl) rfl
theorem wn_2_190 : (Jvm.Cond.laysFinal "CircuitCycles$Parts" "CircuitCycles$Parts" "childPlaces" "[I") ∈ xw_G := xw_c2 (List.mem_of_getElem? (i := 190) rfl) rfl
theorem wn_2_192 : (Jvm.Cond.laysFinal "CircuitCycles$Parts" "CircuitCycles$Parts" "firstLinks" "[I") ∈ xw_G := xw_c2 (List.mem_of_getElem? (i := 192) rfl) rfl
theorem wn_2_194 : (Jvm.Cond.lays "CircuitCycles$Parts" "CircuitCycles$Parts" "linkCount" "I") ∈ xw_G := xw_c2 (List.mem_of_getElem? (i := 194) rfl) rfl
theorem wn_2_196 : (Jvm.Cond.laysFinal "CircuitCycles$Parts" "CircuitCycles$Parts" "linkPorts" "[I") ∈ xw_G := xw_c2 (List.mem_of_getElem? (i := 196) rfl) rfl
theorem wn_2_198 : (Jvm.Cond.laysFinal "CircuitCycles$Parts" "CircuitCycles$Parts" "linkStarts" "[I") ∈ xw_G := xw_c2 (List.mem_of_getElem? (i := 198) rfl) rfl
theorem wn_2_200 : (Jvm.Cond.laysFinal "CircuitCycles$Parts" "CircuitCycles$Parts" "linkStops" "[I") ∈ xw_G := xw_c2 (List.mem_of_getElem? (i := 200) rfl) rfl
theorem wn_2_203 : (Jvm.Cond.classLink "CircuitCycles$Design" (18 : Nat) "CircuitCycles$Code") ∈ xw_G := xw_c2 (List.mem_of_getElem? (i := 203) rfl) rfl
theorem wn_2_204 : (Jvm.Cond.instantiable "CircuitCycles$Code" (5 : Nat)) ∈ xw_G := xw_c2 (List.mem_of_getElem? (i := 204) rfl) rfl
theorem wn_2_206 : (Jvm.Cond.instanceMethod ({ cls := "CircuitCycles$Code", name := "<init>", desc := "()V" } : Jvm.MethodName)) ∈ xw_G := xw_c2 (List.mem_of_getElem? (i := 206) rfl) rfl
theorem wn_2_207 : (Jvm.Cond.code ({ cls := "CircuitCycles$Code", name := "<init>", desc := "()V" } : Jvm.MethodName) prog_4_method_1_code (1 : Nat) (Option.none : Option Jvm.ClassFile.FieldType)) ∈ xw_G := xw_c2 (List.mem_of_getElem? (i := 207) rfl) rfl
theorem wn_2_208 : (Jvm.Cond.methodLink "CircuitCycles$Code" (3 : Nat) ({ cls := "java/lang/Object", name := "<init>", desc := "()V" } : Jvm.MethodName)) ∈ xw_G := xw_c2 (List.mem_of_getElem? (i := 208) rfl) rfl
theorem wn_2_209 : (Jvm.Cond.constant "CircuitCycles$Code" (9 : Nat) (65537 : Int32)) ∈ xw_G := xw_c2 (List.mem_of_getElem? (i := 209) rfl) rfl
theorem wn_2_210 : (Jvm.Cond.fieldLink "CircuitCycles$Code" (10 : Nat) "CircuitCycles$Code" "row" "[J") ∈ xw_G := xw_c2 (List.mem_of_getElem? (i := 210) rfl) rfl
theorem wn_2_211 : (Jvm.Cond.fieldLink "CircuitCycles$Code" (23 : Nat) "CircuitCycles$Code" "size" "I") ∈ xw_G := xw_c2 (List.mem_of_getElem? (i := 211) rfl) rfl
theorem wn_2_217 : (Jvm.Cond.fieldLink "CircuitCycles$Code" (16 : Nat) "CircuitCycles$Code" "literalWidths" "[I") ∈ xw_G := xw_c2 (List.mem_of_getElem? (i := 217) rfl) rfl
theorem wn_2_218 : (Jvm.Cond.fieldLink "CircuitCycles$Code" (20 : Nat) "CircuitCycles$Code" "literals" "[J") ∈ xw_G := xw_c2 (List.mem_of_getElem? (i := 218) rfl) rfl
theorem wn_2_219 : (Jvm.Cond.fieldLink "CircuitCycles$Code" (27 : Nat) "CircuitCycles$Code" "literalCount" "I") ∈ xw_G := xw_c2 (List.mem_of_getElem? (i := 219) rfl) rfl
theorem wn_2_220 : (Jvm.Cond.laysFinal "CircuitCycles$Code" "CircuitCycles$Code" "row" "[J") ∈ xw_G := xw_c2 (List.mem_of_getElem? (i := 220) rfl) rfl
theorem wn_2_222 : (Jvm.Cond.lays "CircuitCycles$Code" "CircuitCycles$Code" "size" "I") ∈ xw_G := xw_c2 (List.mem_of_getElem? (i := 222) rfl) rfl
theorem wn_2_224 : (Jvm.Cond.laysFinal "CircuitCycles$Code" "CircuitCycles$Code" "literalWidths" "[I") ∈ xw_G := xw_c2 (List.mem_of_getElem? (i := 224) rfl) rfl
theorem wn_2_226 : (Jvm.Cond.laysFinal "CircuitCycles$Code" "CircuitCycles$Code" "literals" "[J") ∈ xw_G := xw_c2 (List.mem_of_getElem? (i := 226) rfl) rfl
theorem wn_2_228 : (Jvm.Cond.lays "CircuitCycles$Code" "CircuitCycles$Code" "literalCount" "I") ∈ xw_G := xw_c2 (List.mem_of_getElem? (i := 228) rfl) rfl
theorem wn_2_231 : (Jvm.Cond.constant "CircuitCycles$Design" (25 : Nat) (65536 : Int32)) ∈ xw_G := xw_c2 (List.mem_of_getElem? (i := 231) rfl) rfl
theorem wn_2_232 : (Jvm.Cond.classLink "CircuitCycles$Design" (46 : Nat) "[[I") ∈ xw_G := xw_c2 (List.mem_of_getElem? (i := 232) rfl) rfl
theorem wn_2_234 : (Jvm.Cond.fieldLink "CircuitCycles$Design" (12 : Nat) "CircuitCycles$Design" "parts" "LCircuitCycles$Parts;") ∈ xw_G := xw_c2 (List.mem_of_getElem? (i := 234) rfl) rfl
theorem wn_2_235 : (Jvm.Cond.fieldLink "CircuitCycles$Checker" (31 : Nat) "CircuitCycles$Design" "parts" "LCircuitCycles$Parts;") ∈ xw_G := xw_c2 (List.mem_of_getElem? (i := 235) rfl) rfl
theorem wn_2_236 : (Jvm.Cond.fieldLink "CircuitCycles$Meaning" (32 : Nat) "CircuitCycles$Design" "parts" "LCircuitCycles$Parts;") ∈ xw_G := xw_c2 (List.mem_of_getElem? (i := 236) rfl) rfl
theorem wn_2_238 : (Jvm.Cond.fieldLink "CircuitCycles$Design" (21 : Nat) "CircuitCycles$Design" "code" "LCircuitCycles$Code;") ∈ xw_G := xw_c2 (List.mem_of_getElem? (i := 238) rfl) rfl
theorem wn_2_239 : (Jvm.Cond.fieldLink "CircuitCycles$Checker" (38 : Nat) "CircuitCycles$Design" "code" "LCircuitCycles$Code;") ∈ xw_G := xw_c2 (List.mem_of_getElem? (i := 239) rfl) rfl
theorem wn_3_0 : (Jvm.Cond.fieldLink "CircuitCycles$Meaning" (39 : Nat) "CircuitCycles$Design" "code" "LCircuitCycles$Code;") ∈ xw_G := xw_c3 (List.mem_of_getElem? (i := 0) rfl) rfl
theorem wn_3_1 : (Jvm.Cond.fieldLink "CircuitCycles$Scanner" (46 : Nat) "CircuitCycles$Design" "code" "LCircuitCycles$Code;") ∈ xw_G := xw_c3 (List.mem_of_getElem? (i := 1) rfl) rfl
theorem wn_3_4 : (Jvm.Cond.fieldLink "CircuitCycles$Design" (26 : Nat) "CircuitCycles$Design" "text" "[B") ∈ xw_G := xw_c3 (List.mem_of_getElem? (i := 4) rfl) rfl
theorem wn_3_5 : (Jvm.Cond.fieldLink "CircuitCycles$Scanner" (32 : Nat) "CircuitCycles$Design" "text" "[B") ∈ xw_G := xw_c3 (List.mem_of_getElem? (i := 5) rfl) rfl
theorem wn_3_6 : (Jvm.Cond.fieldLink "CircuitCycles" (158 : Nat) "CircuitCycles$Design" "text" "[B") ∈ xw_G := xw_c3 (List.mem_of_getElem? (i := 6) rfl) rfl
theorem wn_3_7 : (Jvm.Cond.fieldLink "CircuitCycles$Design" (66 : Nat) "CircuitCycles$Design" "length" "I") ∈ xw_G := xw_c3 (List.mem_of_getElem? (i := 7) rfl) rfl
theorem wn_3_8 : (Jvm.Cond.fieldLink "CircuitCycles$Scanner" (35 : Nat) "CircuitCycles$Design" "length" "I") ∈ xw_G := xw_c3 (List.mem_of_getElem? (i := 8) rfl) rfl
theorem wn_3_10 : (Jvm.Cond.fieldLink "CircuitCycles$Design" (70 : Nat) "CircuitCycles$Design" "moduleCount" "I") ∈ xw_G := xw_c3 (List.mem_of_getElem? (i := 10) rfl) rfl
theorem wn_3_13 : (Jvm.Cond.fieldLink "CircuitCycles$Design" (76 : Nat) "CircuitCycles$Design" "inputBits" "I") ∈ xw_G := xw_c3 (List.mem_of_getElem? (i := 13) rfl) rfl
theorem wn_3_15 : (Jvm.Cond.fieldLink "CircuitCycles$Design" (30 : Nat) "CircuitCycles$Design" "places" "[I") ∈ xw_G := xw_c3 (List.mem_of_getElem? (i := 15) rfl) rfl
theorem wn_3_16 : (Jvm.Cond.fieldLink "CircuitCycles$Design" (34 : Nat) "CircuitCycles$Design" "firstDecls" "[I") ∈ xw_G := xw_c3 (List.mem_of_getElem? (i := 16) rfl) rfl
theorem wn_3_17 : (Jvm.Cond.fieldLink "CircuitCycles$Design" (37 : Nat) "CircuitCycles$Design" "portCounts" "[I") ∈ xw_G := xw_c3 (List.mem_of_getElem? (i := 17) rfl) rfl
theorem wn_3_18 : (Jvm.Cond.fieldLink "CircuitCycles$Design" (40 : Nat) "CircuitCycles$Design" "firstChildren" "[I") ∈ xw_G := xw_c3 (List.mem_of_getElem? (i := 18) rfl) rfl
theorem wn_3_19 : (Jvm.Cond.fieldLink "CircuitCycles$Design" (43 : Nat) "CircuitCycles$Design" "firstPieces" "[I") ∈ xw_G := xw_c3 (List.mem_of_getElem? (i := 19) rfl) rfl
theorem wn_3_20 : (Jvm.Cond.fieldLink "CircuitCycles$Design" (48 : Nat) "CircuitCycles$Design" "sums" "[[I") ∈ xw_G := xw_c3 (List.mem_of_getElem? (i := 20) rfl) rfl
theorem wn_3_21 : (Jvm.Cond.fieldLink "CircuitCycles$Design" (73 : Nat) "CircuitCycles$Design" "pieceCount" "I") ∈ xw_G := xw_c3 (List.mem_of_getElem? (i := 21) rfl) rfl
theorem wn_3_22 : (Jvm.Cond.fieldLink "CircuitCycles$Design" (51 : Nat) "CircuitCycles$Design" "pieceStarts" "[I") ∈ xw_G := xw_c3 (List.mem_of_getElem? (i := 22) rfl) rfl
theorem wn_3_24 : (Jvm.Cond.fieldLink "CircuitCycles$Design" (54 : Nat) "CircuitCycles$Design" "pieceStops" "[I") ∈ xw_G := xw_c3 (List.mem_of_getElem? (i := 24) rfl) rfl
theorem wn_3_26 : (Jvm.Cond.fieldLink "CircuitCycles$Design" (57 : Nat) "CircuitCycles$Design" "pieceAsserts" "[I") ∈ xw_G := xw_c3 (List.mem_of_getElem? (i := 26) rfl) rfl
theorem wn_3_28 : (Jvm.Cond.laysFinal "CircuitCycles$Design" "CircuitCycles$Design" "parts" "LCircuitCycles$Parts;") ∈ xw_G := xw_c3 (List.mem_of_getElem? (i := 28) rfl) rfl
theorem wn_3_30 : (Jvm.Cond.laysFinal "CircuitCycles$Design" "CircuitCycles$Design" "code" "LCircuitCycles$Code;") ∈ xw_G := xw_c3 (List.mem_of_getElem? (i := 30) rfl) rfl
theorem wn_3_32 : (Jvm.Cond.laysFinal "CircuitCycles$Design" "CircuitCycles$Design" "text" "[B") ∈ xw_G := xw_c3 (List.mem_of_getElem? (i := 32) rfl) rfl
theorem wn_3_34 : (Jvm.Cond.lays "CircuitCycles$Design" "CircuitCycles$Design" "length" "I") ∈ xw_G := xw_c3 (List.mem_of_getElem? (i := 34) rfl) rfl
theorem wn_3_36 : (Jvm.Cond.lays "CircuitCycles$Design" "CircuitCycles$Design" "moduleCount" "I") ∈ xw_G := xw_c3 (List.mem_of_getElem? (i := 36) rfl) rfl
theorem wn_3_38 : (Jvm.Cond.lays "CircuitCycles$Design" "CircuitCycles$Design" "inputBits" "I") ∈ xw_G := xw_c3 (List.mem_of_getElem? (i := 38) rfl) rfl
theorem wn_3_40 : (Jvm.Cond.laysFinal "CircuitCycles$Design" "CircuitCycles$Design" "places" "[I") ∈ xw_G := xw_c3 (List.mem_of_getElem? (i := 40) rfl) rfl
theorem wn_3_42 : (Jvm.Cond.laysFinal "CircuitCycles$Design" "CircuitCycles$Design" "firstDecls" "[I") ∈ xw_G := xw_c3 (List.mem_of_getElem? (i := 42) rfl) rfl
theorem wn_3_44 : (Jvm.Cond.laysFinal "CircuitCycles$Design" "CircuitCycles$Design" "portCounts" "[I") ∈ xw_G := xw_c3 (List.mem_of_getElem? (i := 44) rfl) rfl
theorem wn_3_46 : (Jvm.Cond.laysFinal "CircuitCycles$Design" "CircuitCycles$Design" "firstChildren" "[I") ∈ xw_G := xw_c3 (List.mem_of_getElem? (i := 46) rfl) rfl
theorem wn_3_48 : (Jvm.Cond.laysFinal "CircuitCycles$Design" "CircuitCycles$Design" "firstPieces" "[I") ∈ xw_G := xw_c3 (List.mem_of_getElem? (i := 48) rfl) rfl
theorem wn_3_50 : (Jvm.Cond.laysFinal "CircuitCycles$Design" "CircuitCycles$Design" "sums" "[[I") ∈ xw_G := xw_c3 (List.mem_of_getElem? (i := 50) rfl) rfl
theorem wn_3_52 : (Jvm.Cond.lays "CircuitCycles$Design" "CircuitCycles$Design" "pieceCount" "I") ∈ xw_G := xw_c3 (List.mem_of_getElem? (i := 52) rfl) rfl
theorem wn_3_54 : (Jvm.Cond.laysFinal "CircuitCycles$Design" "CircuitCycles$Design" "pieceStarts" "[I") ∈ xw_G := xw_c3 (List.mem_of_getElem? (i := 54) rfl) rfl
theorem wn_3_56 : (Jvm.Cond.laysFinal "CircuitCycles$Design" "CircuitCycles$Design" "pieceStops" "[I") ∈ xw_G := xw_c3 (List.mem_of_getElem? (i := 56) rfl) rfl
theorem wn_3_58 : (Jvm.Cond.laysFinal "CircuitCycles$Design" "CircuitCycles$Design" "pieceAsserts" "[I") ∈ xw_G := xw_c3 (List.mem_of_getElem? (i := 58) rfl) rfl
theorem wn_3_61 : (Jvm.Cond.fieldLink "CircuitCycles$Circuit" (12 : Nat) "CircuitCycles$Circuit" "design" "LCircuitCycles$Design;") ∈ xw_G := xw_c3 (List.mem_of_getElem? (i := 61) rfl) rfl
theorem wn_3_62 : (Jvm.Cond.fieldLink "CircuitCycles" (85 : Nat) "CircuitCycles$Circuit" "design" "LCircuitCycles$Design;") ∈ xw_G := xw_c3 (List.mem_of_getElem? (i := 62) rfl) rfl
theorem wn_3_72 : (Jvm.Cond.fieldLink "CircuitCycles$Circuit" (18 : Nat) "CircuitCycles$Circuit" "bases" "[I") ∈ xw_G := xw_c3 (List.mem_of_getElem? (i := 72) rfl) rfl
theorem wn_3_74 : (Jvm.Cond.fieldLink "CircuitCycles$Circuit" (22 : Nat) "CircuitCycles$Circuit" "modules" "[I") ∈ xw_G := xw_c3 (List.mem_of_getElem? (i := 74) rfl) rfl
theorem wn_3_76 : (Jvm.Cond.fieldLink "CircuitCycles$Circuit" (25 : Nat) "CircuitCycles$Circuit" "parents" "[I") ∈ xw_G := xw_c3 (List.mem_of_getElem? (i := 76) rfl) rfl
theorem wn_3_77 : (Jvm.Cond.fieldLink "CircuitCycles$Circuit" (28 : Nat) "CircuitCycles$Circuit" "children" "[I") ∈ xw_G := xw_c3 (List.mem_of_getElem? (i := 77) rfl) rfl
theorem wn_3_78 : (Jvm.Cond.fieldLink "CircuitCycles$Circuit" (31 : Nat) "CircuitCycles$Circuit" "decls" "[I") ∈ xw_G := xw_c3 (List.mem_of_getElem? (i := 78) rfl) rfl
theorem wn_3_79 : (Jvm.Cond.fieldLink "CircuitCycles$Circuit" (34 : Nat) "CircuitCycles$Circuit" "starts" "[I") ∈ xw_G := xw_c3 (List.mem_of_getElem? (i := 79) rfl) rfl
theorem wn_3_82 : (Jvm.Cond.fieldLink "CircuitCycles$Circuit" (37 : Nat) "CircuitCycles$Circuit" "stops" "[I") ∈ xw_G := xw_c3 (List.mem_of_getElem? (i := 82) rfl) rfl
theorem wn_3_85 : (Jvm.Cond.fieldLink "CircuitCycles$Circuit" (40 : Nat) "CircuitCycles$Circuit" "frames" "[I") ∈ xw_G := xw_c3 (List.mem_of_getElem? (i := 85) rfl) rfl
theorem wn_3_88 : (Jvm.Cond.fieldLink "CircuitCycles$Circuit" (43 : Nat) "CircuitCycles$Circuit" "sources" "[I") ∈ xw_G := xw_c3 (List.mem_of_getElem? (i := 88) rfl) rfl
theorem wn_3_91 : (Jvm.Cond.fieldLink "CircuitCycles$Circuit" (46 : Nat) "CircuitCycles$Circuit" "order" "[I") ∈ xw_G := xw_c3 (List.mem_of_getElem? (i := 91) rfl) rfl
theorem wn_3_96 : (Jvm.Cond.laysFinal "CircuitCycles$Circuit" "CircuitCycles$Circuit" "design" "LCircuitCycles$Design;") ∈ xw_G := xw_c3 (List.mem_of_getElem? (i := 96) rfl) rfl
theorem wn_3_98 : (Jvm.Cond.lays "CircuitCycles$Circuit" "CircuitCycles$Circuit" "instances" "I") ∈ xw_G := xw_c3 (List.mem_of_getElem? (i := 98) rfl) rfl
theorem wn_3_100 : (Jvm.Cond.lays "CircuitCycles$Circuit" "CircuitCycles$Circuit" "signals" "I") ∈ xw_G := xw_c3 (List.mem_of_getElem? (i := 100) rfl) rfl
theorem wn_3_102 : (Jvm.Cond.lays "CircuitCycles$Circuit" "CircuitCycles$Circuit" "bases" "[I") ∈ xw_G := xw_c3 (List.mem_of_getElem? (i := 102) rfl) rfl
theorem wn_3_104 : (Jvm.Cond.lays "CircuitCycles$Circuit" "CircuitCycles$Circuit" "modules" "[I") ∈ xw_G := xw_c3 (List.mem_of_getElem? (i := 104) rfl) rfl
theorem wn_3_106 : (Jvm.Cond.laysFinal "CircuitCycles$Circuit" "CircuitCycles$Circuit" "parents" "[I") ∈ xw_G := xw_c3 (List.mem_of_getElem? (i := 106) rfl) rfl
theorem wn_3_108 : (Jvm.Cond.laysFinal "CircuitCycles$Circuit" "CircuitCycles$Circuit" "children" "[I") ∈ xw_G := xw_c3 (List.mem_of_getElem? (i := 108) rfl) rfl
theorem wn_3_110 : (Jvm.Cond.laysFinal "CircuitCycles$Circuit" "CircuitCycles$Circuit" "decls" "[I") ∈ xw_G := xw_c3 (List.mem_of_getElem? (i := 110) rfl) rfl
theorem wn_3_112 : (Jvm.Cond.laysFinal "CircuitCycles$Circuit" "CircuitCycles$Circuit" "starts" "[I") ∈ xw_G := xw_c3 (List.mem_of_getElem? (i := 112) rfl) rfl
theorem wn_3_114 : (Jvm.Cond.laysFinal "CircuitCycles$Circuit" "CircuitCycles$Circuit" "stops" "[I") ∈ xw_G := xw_c3 (List.mem_of_getElem? (i := 114) rfl) rfl
theorem wn_3_116 : (Jvm.Cond.laysFinal "CircuitCycles$Circuit" "CircuitCycles$Circuit" "frames" "[I") ∈ xw_G := xw_c3 (List.mem_of_getElem? (i := 116) rfl) rfl
theorem wn_3_118 : (Jvm.Cond.laysFinal "CircuitCycles$Circuit" "CircuitCycles$Circuit" "sources" "[I") ∈ xw_G := xw_c3 (List.mem_of_getElem? (i := 118) rfl) rfl
theorem wn_3_120 : (Jvm.Cond.laysFinal "CircuitCycles$Circuit" "CircuitCycles$Circuit" "order" "[I") ∈ xw_G := xw_c3 (List.mem_of_getElem? (i := 120) rfl) rfl
theorem wn_3_122 : (Jvm.Cond.lays "CircuitCycles$Circuit" "CircuitCycles$Circuit" "ordered" "I") ∈ xw_G := xw_c3 (List.mem_of_getElem? (i := 122) rfl) rfl
theorem wn_3_125 : (Jvm.Cond.fieldLink "CircuitCycles" (70 : Nat) "CircuitCycles" "length" "I") ∈ xw_G := xw_c3 (List.mem_of_getElem? (i := 125) rfl) rfl
theorem wn_3_126 : (Jvm.Cond.fieldLink "CircuitCycles" (111 : Nat) "CircuitCycles" "faultCode" "I") ∈ xw_G := xw_c3 (List.mem_of_getElem? (i := 126) rfl) rfl
theorem wn_3_127 : (Jvm.Cond.fieldLink "CircuitCycles" (12 : Nat) "CircuitCycles" "tokens" "LCircuitCycles$Tokens;") ∈ xw_G := xw_c3 (List.mem_of_getElem? (i := 127) rfl) rfl
theorem wn_3_128 : (Jvm.Cond.fieldLink "CircuitCycles" (21 : Nat) "CircuitCycles" "scanner" "LCircuitCycles$Scanner;") ∈ xw_G := xw_c3 (List.mem_of_getElem? (i := 128) rfl) rfl
theorem wn_3_129 : (Jvm.Cond.fieldLink "CircuitCycles" (28 : Nat) "CircuitCycles" "checker" "LCircuitCycles$Checker;") ∈ xw_G := xw_c3 (List.mem_of_getElem? (i := 129) rfl) rfl
theorem wn_3_130 : (Jvm.Cond.fieldLink "CircuitCycles" (42 : Nat) "CircuitCycles" "grammar" "LCircuitCycles$Grammar;") ∈ xw_G := xw_c3 (List.mem_of_getElem? (i := 130) rfl) rfl
theorem wn_3_131 : (Jvm.Cond.fieldLink "CircuitCycles" (49 : Nat) "CircuitCycles" "order" "LCircuitCycles$Order;") ∈ xw_G := xw_c3 (List.mem_of_getElem? (i := 131) rfl) rfl
theorem wn_3_132 : (Jvm.Cond.fieldLink "CircuitCycles" (56 : Nat) "CircuitCycles" "machine" "LCircuitCycles$Machine;") ∈ xw_G := xw_c3 (List.mem_of_getElem? (i := 132) rfl) rfl
theorem wn_3_133 : (Jvm.Cond.fieldLink "CircuitCycles" (132 : Nat) "CircuitCycles" "stands" "Z") ∈ xw_G := xw_c3 (List.mem_of_getElem? (i := 133) rfl) rfl
theorem wn_3_134 : (Jvm.Cond.fieldLink "CircuitCycles" (63 : Nat) "CircuitCycles" "circuit" "LCircuitCycles$Circuit;") ∈ xw_G := xw_c3 (List.mem_of_getElem? (i := 134) rfl) rfl
theorem wn_3_135 : (Jvm.Cond.fieldLink "CircuitCycles" (67 : Nat) "CircuitCycles" "spare" "LCircuitCycles$Circuit;") ∈ xw_G := xw_c3 (List.mem_of_getElem? (i := 135) rfl) rfl
theorem wn_3_136 : (Jvm.Cond.lays "CircuitCycles" "CircuitCycles" "length" "I") ∈ xw_G := xw_c3 (List.mem_of_getElem? (i := 136) rfl) rfl
theorem wn_3_138 : (Jvm.Cond.lays "CircuitCycles" "CircuitCycles" "faultCode" "I") ∈ xw_G := xw_c3 (List.mem_of_getElem? (i := 138) rfl) rfl
theorem wn_3_140 : (Jvm.Cond.laysFinal "CircuitCycles" "CircuitCycles" "tokens" "LCircuitCycles$Tokens;") ∈ xw_G := xw_c3 (List.mem_of_getElem? (i := 140) rfl) rfl
theorem wn_3_142 : (Jvm.Cond.laysFinal "CircuitCycles" "CircuitCycles" "scanner" "LCircuitCycles$Scanner;") ∈ xw_G := xw_c3 (List.mem_of_getElem? (i := 142) rfl) rfl
theorem wn_3_144 : (Jvm.Cond.laysFinal "CircuitCycles" "CircuitCycles" "checker" "LCircuitCycles$Checker;") ∈ xw_G := xw_c3 (List.mem_of_getElem? (i := 144) rfl) rfl
theorem wn_3_146 : (Jvm.Cond.laysFinal "CircuitCycles" "CircuitCycles" "grammar" "LCircuitCycles$Grammar;") ∈ xw_G := xw_c3 (List.mem_of_getElem? (i := 146) rfl) rfl
theorem wn_3_148 : (Jvm.Cond.laysFinal "CircuitCycles" "CircuitCycles" "order" "LCircuitCycles$Order;") ∈ xw_G := xw_c3 (List.mem_of_getElem? (i := 148) rfl) rfl
theorem wn_3_150 : (Jvm.Cond.laysFinal "CircuitCycles" "CircuitCycles" "machine" "LCircuitCycles$Machine;") ∈ xw_G := xw_c3 (List.mem_of_getElem? (i := 150) rfl) rfl
theorem wn_3_152 : (Jvm.Cond.lays "CircuitCycles" "CircuitCycles" "stands" "Z") ∈ xw_G := xw_c3 (List.mem_of_getElem? (i := 152) rfl) rfl
theorem wn_3_154 : (Jvm.Cond.lays "CircuitCycles" "CircuitCycles" "circuit" "LCircuitCycles$Circuit;") ∈ xw_G := xw_c3 (List.mem_of_getElem? (i := 154) rfl) rfl
theorem wn_3_156 : (Jvm.Cond.lays "CircuitCycles" "CircuitCycles" "spare" "LCircuitCycles$Circuit;") ∈ xw_G := xw_c3 (List.mem_of_getElem? (i := 156) rfl) rfl
theorem wn_3_159 : (Jvm.Cond.methodLink "CircuitCyclesLaw" (71 : Nat) ({ cls := "CircuitCycles", name := "read", desc := "()I" } : Jvm.MethodName)) ∈ xw_G := xw_c3 (List.mem_of_getElem? (i := 159) rfl) rfl
theorem wn_3_160 : (Jvm.Cond.instanceMethod ({ cls := "CircuitCycles", name := "read", desc := "()I" } : Jvm.MethodName)) ∈ xw_G := xw_c3 (List.mem_of_getElem? (i := 160) rfl) rfl
theorem wn_3_161 : (Jvm.Cond.selects "CircuitCycles" ({ cls := "CircuitCycles", name := "read", desc := "()I" } : Jvm.MethodName) ({ cls := "CircuitCycles", name := "read", desc := "()I" } : Jvm.MethodName)) ∈ xw_G := xw_c3 (List.mem_of_getElem? (i := 161) rfl) rfl
theorem wn_3_162 : (Jvm.Cond.code ({ cls := "CircuitCycles", name := "read", desc := "()I" } : Jvm.MethodName) prog_1_method_4_code (4 : Nat) (Option.some Jvm.ClassFile.FieldType.int)) ∈ xw_G := xw_c3 (List.mem_of_getElem? (i := 162) rfl) rfl
theorem wn_3_163 : (Jvm.Cond.methodLink "CircuitCycles" (89 : Nat) ({ cls := "CircuitCycles$Design", name := "clear", desc := "(I)V" } : Jvm.MethodName)) ∈ xw_G := xw_c3 (List.mem_of_getElem? (i := 163) rfl) rfl
theorem wn_3_164 : (Jvm.Cond.instanceMethod ({ cls := "CircuitCycles$Design", name := "clear", desc := "(I)V" } : Jvm.MethodName)) ∈ xw_G := xw_c3 (List.mem_of_getElem? (i := 164) rfl) rfl
theorem wn_3_165 : (Jvm.Cond.selects "CircuitCycles$Design" ({ cls := "CircuitCycles$Design", name := "clear", desc := "(I)V" } : Jvm.MethodName) ({ cls := "CircuitCycles$Design", name := "clear", desc := "(I)V" } : Jvm.MethodName)) ∈ xw_G := xw_c3 (List.mem_of_getElem? (i := 165) rfl) rfl
theorem wn_3_166 : (Jvm.Cond.code ({ cls := "CircuitCycles$Design", name := "clear", desc := "(I)V" } : Jvm.MethodName) prog_5_method_2_code (2 : Nat) (Option.none : Option Jvm.ClassFile.FieldType)) ∈ xw_G := xw_c3 (List.mem_of_getElem? (i := 166) rfl) rfl
theorem wn_3_167 : (Jvm.Cond.methodLink "CircuitCycles$Design" (60 : Nat) ({ cls := "java/lang/Math", name := "min", desc := "(II)I" } : Jvm.MethodName)) ∈ xw_G := xw_c3 (List.mem_of_getElem? (i := 167) rfl) rfl
theorem wn_3_168 : (Jvm.Cond.static ({ cls := "java/lang/Math", name := "min", desc := "(II)I" } : Jvm.MethodName)) ∈ xw_G := xw_c3 (List.mem_of_getElem? (i := 168) rfl) rfl
theorem wn_3_169 : (Jvm.Cond.code ({ cls := "java/lang/Math", name := "min", desc := "(II)I" } : Jvm.MethodName) prog_21_method_69_code (2 : Nat) (Option.some Jvm.ClassFile.FieldType.int)) ∈ xw_G := xw_c3 (List.mem_of_getElem? (i := 169) rfl) rfl
theorem wn_3_170 : (Jvm.Cond.methodLink "CircuitCycles$Design" (79 : Nat) ({ cls := "CircuitCycles$Parts", name := "clear", desc := "()V" } : Jvm.MethodName)) ∈ xw_G := xw_c3 (List.mem_of_getElem? (i := 170) rfl) rfl
theorem wn_3_171 : (Jvm.Cond.instanceMethod ({ cls := "CircuitCycles$Parts", name := "clear", desc := "()V" } : Jvm.MethodName)) ∈ xw_G := xw_c3 (List.mem_of_getElem? (i := 171) rfl) rfl
theorem wn_3_172 : (Jvm.Cond.selects "CircuitCycles$Parts" ({ cls := "CircuitCycles$Parts", name := "clear", desc := "()V" } : Jvm.MethodName) ({ cls := "CircuitCycles$Parts", name := "clear", desc := "()V" } : Jvm.MethodName)) ∈ xw_G := xw_c3 (List.mem_of_getElem? (i := 172) rfl) rfl
theorem wn_3_173 : (Jvm.Cond.code ({ cls := "CircuitCycles$Parts", name := "clear", desc := "()V" } : Jvm.MethodName) prog_10_method_2_code (1 : Nat) (Option.none : Option Jvm.ClassFile.FieldType)) ∈ xw_G := xw_c3 (List.mem_of_getElem? (i := 173) rfl) rfl
theorem wn_3_174 : (Jvm.Cond.methodLink "CircuitCycles$Design" (82 : Nat) ({ cls := "CircuitCycles$Code", name := "clear", desc := "()V" } : Jvm.MethodName)) ∈ xw_G := xw_c3 (List.mem_of_getElem? (i := 174) rfl) rfl
theorem wn_3_175 : (Jvm.Cond.instanceMethod ({ cls := "CircuitCycles$Code", name := "clear", desc := "()V" } : Jvm.MethodName)) ∈ xw_G := xw_c3 (List.mem_of_getElem? (i := 175) rfl) rfl
theorem wn_3_176 : (Jvm.Cond.selects "CircuitCycles$Code" ({ cls := "CircuitCycles$Code", name := "clear", desc := "()V" } : Jvm.MethodName) ({ cls := "CircuitCycles$Code", name := "clear", desc := "()V" } : Jvm.MethodName)) ∈ xw_G := xw_c3 (List.mem_of_getElem? (i := 176) rfl) rfl
theorem wn_3_177 : (Jvm.Cond.code ({ cls := "CircuitCycles$Code", name := "clear", desc := "()V" } : Jvm.MethodName) prog_4_method_2_code (1 : Nat) (Option.none : Option Jvm.ClassFile.FieldType)) ∈ xw_G := xw_c3 (List.mem_of_getElem? (i := 177) rfl) rfl
theorem wn_3_178 : (Jvm.Cond.methodLink "CircuitCycles" (94 : Nat) ({ cls := "CircuitCycles$Scanner", name := "scan", desc := "(LCircuitCycles$Design;)V" } : Jvm.MethodName)) ∈ xw_G := xw_c3 (List.mem_of_getElem? (i := 178) rfl) rfl
theorem wn_3_179 : (Jvm.Cond.instanceMethod ({ cls := "CircuitCycles$Scanner", name := "scan", desc := "(LCircuitCycles$Design;)V" } : Jvm.MethodName)) ∈ xw_G := xw_c3 (List.mem_of_getElem? (i := 179) rfl) rfl
theorem wn_3_180 : (Jvm.Cond.selects "CircuitCycles$Scanner" ({ cls := "CircuitCycles$Scanner", name := "scan", desc := "(LCircuitCycles$Design;)V" } : Jvm.MethodName) ({ cls := "CircuitCycles$Scanner", name := "scan", desc := "(LCircuitCycles$Design;)V" } : Jvm.MethodName)) ∈ xw_G := xw_c3 (List.mem_of_getElem? (i := 180) rfl) rfl
theorem wn_3_181 : (Jvm.Cond.code ({ cls := "CircuitCycles$Scanner", name := "scan", desc := "(LCircuitCycles$Design;)V" } : Jvm.MethodName) prog_11_method_2_code (5 : Nat) (Option.none : Option Jvm.ClassFile.FieldType)) ∈ xw_G := xw_c3 (List.mem_of_getElem? (i := 181) rfl) rfl
theorem wn_3_182 : (Jvm.Cond.methodLink "CircuitCycles$Scanner" (39 : Nat) ({ cls := "java/lang/Math", name := "min", desc := "(II)I" } : Jvm.MethodName)) ∈ xw_G := xw_c3 (List.mem_of_getElem? (i := 182) rfl) rfl
theorem wn_3_183 : (Jvm.Cond.methodLink "CircuitCycles$Scanner" (51 : Nat) ({ cls := "CircuitCycles$Tokens", name := "clear", desc := "()V" } : Jvm.MethodName)) ∈ xw_G := xw_c3 (List.mem_of_getElem? (i := 183) rfl) rfl
theorem wn_3_184 : (Jvm.Cond.instanceMethod ({ cls := "CircuitCycles$Tokens", name := "clear", desc := "()V" } : Jvm.MethodName)) ∈ xw_G := xw_c3 (List.mem_of_getElem? (i := 184) rfl) rfl
theorem wn_3_185 : (Jvm.Cond.selects "CircuitCycles$Tokens" ({ cls := "CircuitCycles$Tokens", name := "clear", desc := "()V" } : Jvm.MethodName) ({ cls := "CircuitCycles$Tokens", name := "clear", desc := "()V" } : Jvm.MethodName)) ∈ xw_G := xw_c3 (List.mem_of_getElem? (i := 185) rfl) rfl
theorem wn_3_186 : (Jvm.Cond.code ({ cls := "CircuitCycles$Tokens", name := "clear", desc := "()V" } : Jvm.MethodName) prog_12_method_2_code (1 : Nat) (Option.none : Option Jvm.ClassFile.FieldType)) ∈ xw_G := xw_c3 (List.mem_of_getElem? (i := 186) rfl) rfl
theorem wn_3_187 : (Jvm.Cond.methodLink "CircuitCycles$Scanner" (56 : Nat) ({ cls := "java/util/Arrays", name := "fill", desc := "([II)V" } : Jvm.MethodName)) ∈ xw_G := xw_c3 (List.mem_of_getElem? (i := 187) rfl) rfl
theorem wn_3_188 : (Jvm.Cond.static ({ cls := "java/util/Arrays", name := "fill", desc := "([II)V" } : Jvm.MethodName)) ∈ xw_G := xw_c3 (List.mem_of_getElem? (i := 188) rfl) rfl
theorem wn_3_189 : (Jvm.Cond.code ({ cls := "java/util/Arrays", name := "fill", desc := "([II)V" } : Jvm.MethodName) prog_29_method_103_code (4 : Nat) (Option.none : Option Jvm.ClassFile.FieldType)) ∈ xw_G := xw_c3 (List.mem_of_getElem? (i := 189) rfl) rfl
theorem wn_4_45 : (Jvm.Cond.methodLink "CircuitCycles$Scanner" (72 : Nat) ({ cls := "CircuitCycles$Tokens", name := "add", desc := "(III)V" } : Jvm.MethodName)) ∈ xw_G := xw_c4 (List.mem_of_getElem? (i := 45) rfl) rfl
theorem wn_4_46 : (Jvm.Cond.instanceMethod ({ cls := "CircuitCycles$Tokens", name := "add", desc := "(III)V" } : Jvm.MethodName)) ∈ xw_G := xw_c4 (List.mem_of_getElem? (i := 46) rfl) rfl
theorem wn_4_47 : (Jvm.Cond.selects "CircuitCycles$Tokens" ({ cls := "CircuitCycles$Tokens", name := "add", desc := "(III)V" } : Jvm.MethodName) ({ cls := "CircuitCycles$Tokens", name := "add", desc := "(III)V" } : Jvm.MethodName)) ∈ xw_G := xw_c4 (List.mem_of_getElem? (i := 47) rfl) rfl
theorem wn_4_48 : (Jvm.Cond.code ({ cls := "CircuitCycles$Tokens", name := "add", desc := "(III)V" } : Jvm.MethodName) prog_12_method_3_code (4 : Nat) (Option.none : Option Jvm.ClassFile.FieldType)) ∈ xw_G := xw_c4 (List.mem_of_getElem? (i := 48) rfl) rfl
theorem wn_4_140 : (Jvm.Cond.methodLink "CircuitCycles" (101 : Nat) ({ cls := "CircuitCycles$Grammar", name := "parse", desc := "(LCircuitCycles$Design;I)V" } : Jvm.MethodName)) ∈ xw_G := xw_c4 (List.mem_of_getElem? (i := 140) rfl) rfl
theorem wn_4_141 : (Jvm.Cond.instanceMethod ({ cls := "CircuitCycles$Grammar", name := "parse", desc := "(LCircuitCycles$Design;I)V" } : Jvm.MethodName)) ∈ xw_G := xw_c4 (List.mem_of_getElem? (i := 141) rfl) rfl
theorem wn_4_142 : (Jvm.Cond.selects "CircuitCycles$Grammar" ({ cls := "CircuitCycles$Grammar", name := "parse", desc := "(LCircuitCycles$Design;I)V" } : Jvm.MethodName) ({ cls := "CircuitCycles$Grammar", name := "parse", desc := "(LCircuitCycles$Design;I)V" } : Jvm.MethodName)) ∈ xw_G := xw_c4 (List.mem_of_getElem? (i := 142) rfl) rfl
theorem wn_4_143 : (Jvm.Cond.code ({ cls := "CircuitCycles$Grammar", name := "parse", desc := "(LCircuitCycles$Design;I)V" } : Jvm.MethodName) prog_6_method_2_code (5 : Nat) (Option.none : Option Jvm.ClassFile.FieldType)) ∈ xw_G := xw_c4 (List.mem_of_getElem? (i := 143) rfl) rfl
theorem wn_4_144 : (Jvm.Cond.methodLink "CircuitCycles$Grammar" (36 : Nat) ({ cls := "CircuitCycles$Tokens", name := "start", desc := "()V" } : Jvm.MethodName)) ∈ xw_G := xw_c4 (List.mem_of_getElem? (i := 144) rfl) rfl
theorem wn_4_145 : (Jvm.Cond.instanceMethod ({ cls := "CircuitCycles$Tokens", name := "start", desc := "()V" } : Jvm.MethodName)) ∈ xw_G := xw_c4 (List.mem_of_getElem? (i := 145) rfl) rfl
theorem wn_4_146 : (Jvm.Cond.selects "CircuitCycles$Tokens" ({ cls := "CircuitCycles$Tokens", name := "start", desc := "()V" } : Jvm.MethodName) ({ cls := "CircuitCycles$Tokens", name := "start", desc := "()V" } : Jvm.MethodName)) ∈ xw_G := xw_c4 (List.mem_of_getElem? (i := 146) rfl) rfl
theorem wn_4_147 : (Jvm.Cond.code ({ cls := "CircuitCycles$Tokens", name := "start", desc := "()V" } : Jvm.MethodName) prog_12_method_4_code (1 : Nat) (Option.none : Option Jvm.ClassFile.FieldType)) ∈ xw_G := xw_c4 (List.mem_of_getElem? (i := 147) rfl) rfl
theorem wn_4_148 : (Jvm.Cond.methodLink "CircuitCycles$Tokens" (32 : Nat) ({ cls := "CircuitCycles$Tokens", name := "take", desc := "()V" } : Jvm.MethodName)) ∈ xw_G := xw_c4 (List.mem_of_getElem? (i := 148) rfl) rfl
theorem wn_4_149 : (Jvm.Cond.instanceMethod ({ cls := "CircuitCycles$Tokens", name := "take", desc := "()V" } : Jvm.MethodName)) ∈ xw_G := xw_c4 (List.mem_of_getElem? (i := 149) rfl) rfl
theorem wn_4_150 : (Jvm.Cond.selects "CircuitCycles$Tokens" ({ cls := "CircuitCycles$Tokens", name := "take", desc := "()V" } : Jvm.MethodName) ({ cls := "CircuitCycles$Tokens", name := "take", desc := "()V" } : Jvm.MethodName)) ∈ xw_G := xw_c4 (List.mem_of_getElem? (i := 150) rfl) rfl
theorem wn_4_151 : (Jvm.Cond.code ({ cls := "CircuitCycles$Tokens", name := "take", desc := "()V" } : Jvm.MethodName) prog_12_method_5_code (1 : Nat) (Option.none : Option Jvm.ClassFile.FieldType)) ∈ xw_G := xw_c4 (List.mem_of_getElem? (i := 151) rfl) rfl
theorem wn_4_152 : (Jvm.Cond.methodLink "CircuitCycles$Tokens" (35 : Nat) ({ cls := "CircuitCycles$Tokens", name := "kindAt", desc := "(I)I" } : Jvm.MethodName)) ∈ xw_G := xw_c4 (List.mem_of_getElem? (i := 152) rfl) rfl
theorem wn_4_153 : (Jvm.Cond.instanceMethod ({ cls := "CircuitCycles$Tokens", name := "kindAt", desc := "(I)I" } : Jvm.MethodName)) ∈ xw_G := xw_c4 (List.mem_of_getElem? (i := 153) rfl) rfl
theorem wn_4_154 : (Jvm.Cond.selects "CircuitCycles$Tokens" ({ cls := "CircuitCycles$Tokens", name := "kindAt", desc := "(I)I" } : Jvm.MethodName) ({ cls := "CircuitCycles$Tokens", name := "kindAt", desc := "(I)I" } : Jvm.MethodName)) ∈ xw_G := xw_c4 (List.mem_of_getElem? (i := 154) rfl) rfl
theorem wn_4_155 : (Jvm.Cond.code ({ cls := "CircuitCycles$Tokens", name := "kindAt", desc := "(I)I" } : Jvm.MethodName) prog_12_method_14_code (2 : Nat) (Option.some Jvm.ClassFile.FieldType.int)) ∈ xw_G := xw_c4 (List.mem_of_getElem? (i := 155) rfl) rfl
theorem wn_4_156 : (Jvm.Cond.constant "CircuitCycles$Tokens" (42 : Nat) (1048575 : Int32)) ∈ xw_G := xw_c4 (List.mem_of_getElem? (i := 156) rfl) rfl
theorem wn_4_157 : (Jvm.Cond.methodLink "CircuitCycles$Tokens" (46 : Nat) ({ cls := "CircuitCycles$Tokens", name := "extraAt", desc := "(I)I" } : Jvm.MethodName)) ∈ xw_G := xw_c4 (List.mem_of_getElem? (i := 157) rfl) rfl
theorem wn_4_158 : (Jvm.Cond.instanceMethod ({ cls := "CircuitCycles$Tokens", name := "extraAt", desc := "(I)I" } : Jvm.MethodName)) ∈ xw_G := xw_c4 (List.mem_of_getElem? (i := 158) rfl) rfl
theorem wn_4_159 : (Jvm.Cond.selects "CircuitCycles$Tokens" ({ cls := "CircuitCycles$Tokens", name := "extraAt", desc := "(I)I" } : Jvm.MethodName) ({ cls := "CircuitCycles$Tokens", name := "extraAt", desc := "(I)I" } : Jvm.MethodName)) ∈ xw_G := xw_c4 (List.mem_of_getElem? (i := 159) rfl) rfl
theorem wn_4_160 : (Jvm.Cond.code ({ cls := "CircuitCycles$Tokens", name := "extraAt", desc := "(I)I" } : Jvm.MethodName) prog_12_method_15_code (2 : Nat) (Option.some Jvm.ClassFile.FieldType.int)) ∈ xw_G := xw_c4 (List.mem_of_getElem? (i := 160) rfl) rfl
theorem wn_4_161 : (Jvm.Cond.methodLink "CircuitCycles$Grammar" (41 : Nat) ({ cls := "CircuitCycles$Checker", name := "start", desc := "(LCircuitCycles$Design;I)V" } : Jvm.MethodName)) ∈ xw_G := xw_c4 (List.mem_of_getElem? (i := 161) rfl) rfl
theorem wn_4_162 : (Jvm.Cond.instanceMethod ({ cls := "CircuitCycles$Checker", name := "start", desc := "(LCircuitCycles$Design;I)V" } : Jvm.MethodName)) ∈ xw_G := xw_c4 (List.mem_of_getElem? (i := 162) rfl) rfl
theorem wn_4_163 : (Jvm.Cond.selects "CircuitCycles$Checker" ({ cls := "CircuitCycles$Checker", name := "start", desc := "(LCircuitCycles$Design;I)V" } : Jvm.MethodName) ({ cls := "CircuitCycles$Checker", name := "start", desc := "(LCircuitCycles$Design;I)V" } : Jvm.MethodName)) ∈ xw_G := xw_c4 (List.mem_of_getElem? (i := 163) rfl) rfl
theorem wn_4_164 : (Jvm.Cond.code ({ cls := "CircuitCycles$Checker", name := "start", desc := "(LCircuitCycles$Design;I)V" } : Jvm.MethodName) prog_2_method_2_code (4 : Nat) (Option.none : Option Jvm.ClassFile.FieldType)) ∈ xw_G := xw_c4 (List.mem_of_getElem? (i := 164) rfl) rfl
theorem wn_4_165 : (Jvm.Cond.methodLink "CircuitCycles$Grammar" (46 : Nat) ({ cls := "CircuitCycles$Meaning", name := "start", desc := "(LCircuitCycles$Design;)V" } : Jvm.MethodName)) ∈ xw_G := xw_c4 (List.mem_of_getElem? (i := 165) rfl) rfl
theorem wn_4_166 : (Jvm.Cond.instanceMethod ({ cls := "CircuitCycles$Meaning", name := "start", desc := "(LCircuitCycles$Design;)V" } : Jvm.MethodName)) ∈ xw_G := xw_c4 (List.mem_of_getElem? (i := 166) rfl) rfl
theorem wn_4_167 : (Jvm.Cond.selects "CircuitCycles$Meaning" ({ cls := "CircuitCycles$Meaning", name := "start", desc := "(LCircuitCycles$Design;)V" } : Jvm.MethodName) ({ cls := "CircuitCycles$Meaning", name := "start", desc := "(LCircuitCycles$Design;)V" } : Jvm.MethodName)) ∈ xw_G := xw_c4 (List.mem_of_getElem? (i := 167) rfl) rfl
theorem wn_4_168 : (Jvm.Cond.code ({ cls := "CircuitCycles$Meaning", name := "start", desc := "(LCircuitCycles$Design;)V" } : Jvm.MethodName) prog_8_method_2_code (2 : Nat) (Option.none : Option Jvm.ClassFile.FieldType)) ∈ xw_G := xw_c4 (List.mem_of_getElem? (i := 168) rfl) rfl
theorem wn_4_169 : (Jvm.Cond.methodLink "CircuitCycles$Grammar" (67 : Nat) ({ cls := "CircuitCycles$Grammar", name := "moduleHead", desc := "()V" } : Jvm.MethodName)) ∈ xw_G := xw_c4 (List.mem_of_getElem? (i := 169) rfl) rfl
theorem wn_4_171 : (Jvm.Cond.instanceMethod ({ cls := "CircuitCycles$Grammar", name := "moduleHead", desc := "()V" } : Jvm.MethodName)) ∈ xw_G := xw_c4 (List.mem_of_getElem? (i := 171) rfl) rfl
theorem wn_4_172 : (Jvm.Cond.code ({ cls := "CircuitCycles$Grammar", name := "moduleHead", desc := "()V" } : Jvm.MethodName) prog_6_method_3_code (2 : Nat) (Option.none : Option Jvm.ClassFile.FieldType)) ∈ xw_G := xw_c4 (List.mem_of_getElem? (i := 172) rfl) rfl
theorem wn_4_173 : (Jvm.Cond.methodLink "CircuitCycles$Grammar" (94 : Nat) ({ cls := "CircuitCycles$Tokens", name := "need", desc := "(I)V" } : Jvm.MethodName)) ∈ xw_G := xw_c4 (List.mem_of_getElem? (i := 173) rfl) rfl
theorem wn_4_174 : (Jvm.Cond.instanceMethod ({ cls := "CircuitCycles$Tokens", name := "need", desc := "(I)V" } : Jvm.MethodName)) ∈ xw_G := xw_c4 (List.mem_of_getElem? (i := 174) rfl) rfl
theorem wn_4_175 : (Jvm.Cond.selects "CircuitCycles$Tokens" ({ cls := "CircuitCycles$Tokens", name := "need", desc := "(I)V" } : Jvm.MethodName) ({ cls := "CircuitCycles$Tokens", name := "need", desc := "(I)V" } : Jvm.MethodName)) ∈ xw_G := xw_c4 (List.mem_of_getElem? (i := 175) rfl) rfl
theorem wn_4_176 : (Jvm.Cond.code ({ cls := "CircuitCycles$Tokens", name := "need", desc := "(I)V" } : Jvm.MethodName) prog_12_method_10_code (2 : Nat) (Option.none : Option Jvm.ClassFile.FieldType)) ∈ xw_G := xw_c4 (List.mem_of_getElem? (i := 176) rfl) rfl
theorem wn_4_177 : (Jvm.Cond.methodLink "CircuitCycles$Tokens" (52 : Nat) ({ cls := "CircuitCycles$Tokens", name := "misfit", desc := "()I" } : Jvm.MethodName)) ∈ xw_G := xw_c4 (List.mem_of_getElem? (i := 177) rfl) rfl
theorem wn_4_179 : (Jvm.Cond.instanceMethod ({ cls := "CircuitCycles$Tokens", name := "misfit", desc := "()I" } : Jvm.MethodName)) ∈ xw_G := xw_c4 (List.mem_of_getElem? (i := 179) rfl) rfl
theorem wn_4_180 : (Jvm.Cond.code ({ cls := "CircuitCycles$Tokens", name := "misfit", desc := "()I" } : Jvm.MethodName) prog_12_method_7_code (1 : Nat) (Option.some Jvm.ClassFile.FieldType.int)) ∈ xw_G := xw_c4 (List.mem_of_getElem? (i := 180) rfl) rfl
theorem wn_4_181 : (Jvm.Cond.methodLink "CircuitCycles$Tokens" (56 : Nat) ({ cls := "CircuitCycles$Tokens", name := "stop", desc := "(I)V" } : Jvm.MethodName)) ∈ xw_G := xw_c4 (List.mem_of_getElem? (i := 181) rfl) rfl
theorem wn_4_183 : (Jvm.Cond.instanceMethod ({ cls := "CircuitCycles$Tokens", name := "stop", desc := "(I)V" } : Jvm.MethodName)) ∈ xw_G := xw_c4 (List.mem_of_getElem? (i := 183) rfl) rfl
theorem wn_4_184 : (Jvm.Cond.code ({ cls := "CircuitCycles$Tokens", name := "stop", desc := "(I)V" } : Jvm.MethodName) prog_12_method_6_code (2 : Nat) (Option.none : Option Jvm.ClassFile.FieldType)) ∈ xw_G := xw_c4 (List.mem_of_getElem? (i := 184) rfl) rfl
theorem wn_4_185 : (Jvm.Cond.methodLink "CircuitCycles$Grammar" (98 : Nat) ({ cls := "CircuitCycles$Tokens", name := "due", desc := "(I)Z" } : Jvm.MethodName)) ∈ xw_G := xw_c4 (List.mem_of_getElem? (i := 185) rfl) rfl
theorem wn_4_186 : (Jvm.Cond.instanceMethod ({ cls := "CircuitCycles$Tokens", name := "due", desc := "(I)Z" } : Jvm.MethodName)) ∈ xw_G := xw_c4 (List.mem_of_getElem? (i := 186) rfl) rfl
theorem wn_4_187 : (Jvm.Cond.selects "CircuitCycles$Tokens" ({ cls := "CircuitCycles$Tokens", name := "due", desc := "(I)Z" } : Jvm.MethodName) ({ cls := "CircuitCycles$Tokens", name := "due", desc := "(I)Z" } : Jvm.MethodName)) ∈ xw_G := xw_c4 (List.mem_of_getElem? (i := 187) rfl) rfl
theorem wn_4_188 : (Jvm.Cond.code ({ cls := "CircuitCycles$Tokens", name := "due", desc := "(I)Z" } : Jvm.MethodName) prog_12_method_9_code (2 : Nat) (Option.some Jvm.ClassFile.FieldType.boolean)) ∈ xw_G := xw_c4 (List.mem_of_getElem? (i := 188) rfl) rfl
theorem wn_4_193 : (Jvm.Cond.methodLink "CircuitCycles$Meaning" (54 : Nat) ({ cls := "CircuitCycles$Checker", name := "isOff", desc := "()Z" } : Jvm.MethodName)) ∈ xw_G := xw_c4 (List.mem_of_getElem? (i := 193) rfl) rfl
theorem wn_4_194 : (Jvm.Cond.instanceMethod ({ cls := "CircuitCycles$Checker", name := "isOff", desc := "()Z" } : Jvm.MethodName)) ∈ xw_G := xw_c4 (List.mem_of_getElem? (i := 194) rfl) rfl
theorem wn_4_195 : (Jvm.Cond.selects "CircuitCycles$Checker" ({ cls := "CircuitCycles$Checker", name := "isOff", desc := "()Z" } : Jvm.MethodName) ({ cls := "CircuitCycles$Checker", name := "isOff", desc := "()Z" } : Jvm.MethodName)) ∈ xw_G := xw_c4 (List.mem_of_getElem? (i := 195) rfl) rfl
theorem wn_4_196 : (Jvm.Cond.code ({ cls := "CircuitCycles$Checker", name := "isOff", desc := "()Z" } : Jvm.MethodName) prog_2_method_4_code (1 : Nat) (Option.some Jvm.ClassFile.FieldType.boolean)) ∈ xw_G := xw_c4 (List.mem_of_getElem? (i := 196) rfl) rfl
theorem wn_4_213 : (Jvm.Cond.methodLink "CircuitCycles$Grammar" (112 : Nat) ({ cls := "CircuitCycles$Tokens", name := "take", desc := "()V" } : Jvm.MethodName)) ∈ xw_G := xw_c4 (List.mem_of_getElem? (i := 213) rfl) rfl
theorem wn_4_214 : (Jvm.Cond.methodLink "CircuitCycles$Grammar" (115 : Nat) ({ cls := "CircuitCycles$Tokens", name := "open", desc := "(I)V" } : Jvm.MethodName)) ∈ xw_G := xw_c4 (List.mem_of_getElem? (i := 214) rfl) rfl
theorem wn_4_215 : (Jvm.Cond.instanceMethod ({ cls := "CircuitCycles$Tokens", name := "open", desc := "(I)V" } : Jvm.MethodName)) ∈ xw_G := xw_c4 (List.mem_of_getElem? (i := 215) rfl) rfl
theorem wn_4_216 : (Jvm.Cond.selects "CircuitCycles$Tokens" ({ cls := "CircuitCycles$Tokens", name := "open", desc := "(I)V" } : Jvm.MethodName) ({ cls := "CircuitCycles$Tokens", name := "open", desc := "(I)V" } : Jvm.MethodName)) ∈ xw_G := xw_c4 (List.mem_of_getElem? (i := 216) rfl) rfl
theorem wn_4_217 : (Jvm.Cond.code ({ cls := "CircuitCycles$Tokens", name := "open", desc := "(I)V" } : Jvm.MethodName) prog_12_method_11_code (2 : Nat) (Option.none : Option Jvm.ClassFile.FieldType)) ∈ xw_G := xw_c4 (List.mem_of_getElem? (i := 217) rfl) rfl
theorem wn_4_218 : (Jvm.Cond.methodLink "CircuitCycles$Grammar" (118 : Nat) ({ cls := "CircuitCycles$Grammar", name := "port", desc := "()V" } : Jvm.MethodName)) ∈ xw_G := xw_c4 (List.mem_of_getElem? (i := 218) rfl) rfl
theorem wn_4_220 : (Jvm.Cond.instanceMethod ({ cls := "CircuitCycles$Grammar", name := "port", desc := "()V" } : Jvm.MethodName)) ∈ xw_G := xw_c4 (List.mem_of_getElem? (i := 220) rfl) rfl
theorem wn_4_221 : (Jvm.Cond.code ({ cls := "CircuitCycles$Grammar", name := "port", desc := "()V" } : Jvm.MethodName) prog_6_method_4_code (1 : Nat) (Option.none : Option Jvm.ClassFile.FieldType)) ∈ xw_G := xw_c4 (List.mem_of_getElem? (i := 221) rfl) rfl
theorem wn_4_222 : (Jvm.Cond.methodLink "CircuitCycles$Grammar" (127 : Nat) ({ cls := "CircuitCycles$Grammar", name := "declaration", desc := "(I)V" } : Jvm.MethodName)) ∈ xw_G := xw_c4 (List.mem_of_getElem? (i := 222) rfl) rfl
theorem wn_4_224 : (Jvm.Cond.instanceMethod ({ cls := "CircuitCycles$Grammar", name := "declaration", desc := "(I)V" } : Jvm.MethodName)) ∈ xw_G := xw_c4 (List.mem_of_getElem? (i := 224) rfl) rfl
theorem wn_4_225 : (Jvm.Cond.code ({ cls := "CircuitCycles$Grammar", name := "declaration", desc := "(I)V" } : Jvm.MethodName) prog_6_method_5_code (5 : Nat) (Option.none : Option Jvm.ClassFile.FieldType)) ∈ xw_G := xw_c4 (List.mem_of_getElem? (i := 225) rfl) rfl
theorem wn_4_226 : (Jvm.Cond.methodLink "CircuitCycles$Grammar" (121 : Nat) ({ cls := "CircuitCycles$Tokens", name := "shut", desc := "(I)V" } : Jvm.MethodName)) ∈ xw_G := xw_c4 (List.mem_of_getElem? (i := 226) rfl) rfl
theorem wn_4_227 : (Jvm.Cond.instanceMethod ({ cls := "CircuitCycles$Tokens", name := "shut", desc := "(I)V" } : Jvm.MethodName)) ∈ xw_G := xw_c4 (List.mem_of_getElem? (i := 227) rfl) rfl
theorem wn_4_228 : (Jvm.Cond.selects "CircuitCycles$Tokens" ({ cls := "CircuitCycles$Tokens", name := "shut", desc := "(I)V" } : Jvm.MethodName) ({ cls := "CircuitCycles$Tokens", name := "shut", desc := "(I)V" } : Jvm.MethodName)) ∈ xw_G := xw_c4 (List.mem_of_getElem? (i := 228) rfl) rfl
theorem wn_4_229 : (Jvm.Cond.code ({ cls := "CircuitCycles$Tokens", name := "shut", desc := "(I)V" } : Jvm.MethodName) prog_12_method_12_code (2 : Nat) (Option.none : Option Jvm.ClassFile.FieldType)) ∈ xw_G := xw_c4 (List.mem_of_getElem? (i := 229) rfl) rfl
theorem wn_5_22 : (Jvm.Cond.methodLink "CircuitCycles$Grammar" (124 : Nat) ({ cls := "CircuitCycles$Meaning", name := "portsEnd", desc := "()V" } : Jvm.MethodName)) ∈ xw_G := xw_c5 (List.mem_of_getElem? (i := 22) rfl) rfl
theorem wn_5_23 : (Jvm.Cond.instanceMethod ({ cls := "CircuitCycles$Meaning", name := "portsEnd", desc := "()V" } : Jvm.MethodName)) ∈ xw_G := xw_c5 (List.mem_of_getElem? (i := 23) rfl) rfl
theorem wn_5_24 : (Jvm.Cond.selects "CircuitCycles$Meaning" ({ cls := "CircuitCycles$Meaning", name := "portsEnd", desc := "()V" } : Jvm.MethodName) ({ cls := "CircuitCycles$Meaning", name := "portsEnd", desc := "()V" } : Jvm.MethodName)) ∈ xw_G := xw_c5 (List.mem_of_getElem? (i := 24) rfl) rfl
theorem wn_5_25 : (Jvm.Cond.code ({ cls := "CircuitCycles$Meaning", name := "portsEnd", desc := "()V" } : Jvm.MethodName) prog_8_method_4_code (1 : Nat) (Option.none : Option Jvm.ClassFile.FieldType)) ∈ xw_G := xw_c5 (List.mem_of_getElem? (i := 25) rfl) rfl
theorem wn_7_11 : (Jvm.Cond.methodLink "CircuitCyclesLaw" (75 : Nat) ({ cls := "CircuitCycles", name := "fault", desc := "()I" } : Jvm.MethodName)) ∈ xw_G := xw_c7 (List.mem_of_getElem? (i := 11) rfl) rfl
theorem wn_7_12 : (Jvm.Cond.instanceMethod ({ cls := "CircuitCycles", name := "fault", desc := "()I" } : Jvm.MethodName)) ∈ xw_G := xw_c7 (List.mem_of_getElem? (i := 12) rfl) rfl
theorem wn_7_13 : (Jvm.Cond.selects "CircuitCycles" ({ cls := "CircuitCycles", name := "fault", desc := "()I" } : Jvm.MethodName) ({ cls := "CircuitCycles", name := "fault", desc := "()I" } : Jvm.MethodName)) ∈ xw_G := xw_c7 (List.mem_of_getElem? (i := 13) rfl) rfl
theorem wn_7_14 : (Jvm.Cond.code ({ cls := "CircuitCycles", name := "fault", desc := "()I" } : Jvm.MethodName) prog_1_method_5_code (1 : Nat) (Option.some Jvm.ClassFile.FieldType.int)) ∈ xw_G := xw_c7 (List.mem_of_getElem? (i := 14) rfl) rfl
theorem wn_7_15 : (Jvm.Cond.methodLink "CircuitCyclesLaw" (58 : Nat) ({ cls := "CircuitCyclesLaw", name := "feed", desc := "(LCircuitCycles;IIIII[J)I" } : Jvm.MethodName)) ∈ xw_G := xw_c7 (List.mem_of_getElem? (i := 15) rfl) rfl
theorem wn_7_16 : (Jvm.Cond.static ({ cls := "CircuitCyclesLaw", name := "feed", desc := "(LCircuitCycles;IIIII[J)I" } : Jvm.MethodName)) ∈ xw_G := xw_c7 (List.mem_of_getElem? (i := 16) rfl) rfl
theorem wn_7_17 : (Jvm.Cond.codeWith ({ cls := "CircuitCyclesLaw", name := "feed", desc := "(LCircuitCycles;IIIII[J)I" } : Jvm.MethodName) method_3_code (8 : Nat) (Option.some Jvm.ClassFile.FieldType.int) [((0 : Nat), (16 : Nat), (19 : Nat), (13 : Nat))]) ∈ xw_G := xw_c7 (List.mem_of_getElem? (i := 17) rfl) rfl
theorem wn_7_19 : (Jvm.Cond.methodLink "CircuitCyclesLaw" (7 : Nat) ({ cls := "CircuitCycles", name := "feed", desc := "(IIIII)I" } : Jvm.MethodName)) ∈ xw_G := xw_c7 (List.mem_of_getElem? (i := 19) rfl) rfl
theorem wn_7_20 : (Jvm.Cond.instanceMethod ({ cls := "CircuitCycles", name := "feed", desc := "(IIIII)I" } : Jvm.MethodName)) ∈ xw_G := xw_c7 (List.mem_of_getElem? (i := 20) rfl) rfl
theorem wn_7_21 : (Jvm.Cond.selects "CircuitCycles" ({ cls := "CircuitCycles", name := "feed", desc := "(IIIII)I" } : Jvm.MethodName) ({ cls := "CircuitCycles", name := "feed", desc := "(IIIII)I" } : Jvm.MethodName)) ∈ xw_G := xw_c7 (List.mem_of_getElem? (i := 21) rfl) rfl
theorem wn_7_22 : (Jvm.Cond.code ({ cls := "CircuitCycles", name := "feed", desc := "(IIIII)I" } : Jvm.MethodName) prog_1_method_2_code (6 : Nat) (Option.some Jvm.ClassFile.FieldType.int)) ∈ xw_G := xw_c7 (List.mem_of_getElem? (i := 22) rfl) rfl
theorem wn_7_23 : (Jvm.Cond.constant "CircuitCycles" (74 : Nat) (65536 : Int32)) ∈ xw_G := xw_c7 (List.mem_of_getElem? (i := 23) rfl) rfl
theorem wn_7_88 : (Jvm.Cond.methodLink "CircuitCycles" (78 : Nat) ({ cls := "CircuitCycles", name := "append", desc := "(I)V" } : Jvm.MethodName)) ∈ xw_G := xw_c7 (List.mem_of_getElem? (i := 88) rfl) rfl
theorem wn_7_90 : (Jvm.Cond.instanceMethod ({ cls := "CircuitCycles", name := "append", desc := "(I)V" } : Jvm.MethodName)) ∈ xw_G := xw_c7 (List.mem_of_getElem? (i := 90) rfl) rfl
theorem wn_7_91 : (Jvm.Cond.code ({ cls := "CircuitCycles", name := "append", desc := "(I)V" } : Jvm.MethodName) prog_1_method_14_code (4 : Nat) (Option.none : Option Jvm.ClassFile.FieldType)) ∈ xw_G := xw_c7 (List.mem_of_getElem? (i := 91) rfl) rfl
theorem wn_7_92 : (Jvm.Cond.methodLink "CircuitCyclesLaw" (67 : Nat) ({ cls := "CircuitCyclesLaw", name := "end", desc := "(LCircuitCycles;I)I" } : Jvm.MethodName)) ∈ xw_G := xw_c7 (List.mem_of_getElem? (i := 92) rfl) rfl
theorem wn_7_93 : (Jvm.Cond.static ({ cls := "CircuitCyclesLaw", name := "end", desc := "(LCircuitCycles;I)I" } : Jvm.MethodName)) ∈ xw_G := xw_c7 (List.mem_of_getElem? (i := 93) rfl) rfl
theorem wn_7_94 : (Jvm.Cond.codeWith ({ cls := "CircuitCyclesLaw", name := "end", desc := "(LCircuitCycles;I)I" } : Jvm.MethodName) method_4_code (3 : Nat) (Option.some Jvm.ClassFile.FieldType.int) [((0 : Nat), (5 : Nat), (8 : Nat), (19 : Nat))]) ∈ xw_G := xw_c7 (List.mem_of_getElem? (i := 94) rfl) rfl
theorem wn_7_95 : (Jvm.Cond.classLink "CircuitCyclesLaw" (19 : Nat) "java/lang/IllegalArgumentException") ∈ xw_G := xw_c7 (List.mem_of_getElem? (i := 95) rfl) rfl
theorem wn_7_96 : (Jvm.Cond.methodLink "CircuitCyclesLaw" (15 : Nat) ({ cls := "CircuitCycles", name := "end", desc := "(I)V" } : Jvm.MethodName)) ∈ xw_G := xw_c7 (List.mem_of_getElem? (i := 96) rfl) rfl
theorem wn_7_97 : (Jvm.Cond.instanceMethod ({ cls := "CircuitCycles", name := "end", desc := "(I)V" } : Jvm.MethodName)) ∈ xw_G := xw_c7 (List.mem_of_getElem? (i := 97) rfl) rfl
theorem wn_7_98 : (Jvm.Cond.selects "CircuitCycles" ({ cls := "CircuitCycles", name := "end", desc := "(I)V" } : Jvm.MethodName) ({ cls := "CircuitCycles", name := "end", desc := "(I)V" } : Jvm.MethodName)) ∈ xw_G := xw_c7 (List.mem_of_getElem? (i := 98) rfl) rfl
theorem wn_7_99 : (Jvm.Cond.code ({ cls := "CircuitCycles", name := "end", desc := "(I)V" } : Jvm.MethodName) prog_1_method_3_code (2 : Nat) (Option.none : Option Jvm.ClassFile.FieldType)) ∈ xw_G := xw_c7 (List.mem_of_getElem? (i := 99) rfl) rfl
theorem wn_7_100 : (Jvm.Cond.classLink "CircuitCycles" (82 : Nat) "java/lang/IllegalArgumentException") ∈ xw_G := xw_c7 (List.mem_of_getElem? (i := 100) rfl) rfl
theorem wn_7_115 : (Jvm.Cond.methodLink "CircuitCyclesLaw" (79 : Nat) ({ cls := "CircuitCyclesLaw", name := "count", desc := "(LCircuitCycles;I[J)I" } : Jvm.MethodName)) ∈ xw_G := xw_c7 (List.mem_of_getElem? (i := 115) rfl) rfl
theorem wn_7_116 : (Jvm.Cond.static ({ cls := "CircuitCyclesLaw", name := "count", desc := "(LCircuitCycles;I[J)I" } : Jvm.MethodName)) ∈ xw_G := xw_c7 (List.mem_of_getElem? (i := 116) rfl) rfl
theorem wn_7_117 : (Jvm.Cond.codeWith ({ cls := "CircuitCyclesLaw", name := "count", desc := "(LCircuitCycles;I[J)I" } : Jvm.MethodName) method_5_code (4 : Nat) (Option.some Jvm.ClassFile.FieldType.int) [((0 : Nat), (9 : Nat), (12 : Nat), (25 : Nat)), ((0 : Nat), (9 : Nat), (15 : Nat), (19 : Nat))]) ∈ xw_G := xw_c7 (List.mem_of_getElem? (i := 117) rfl) rfl
theorem wn_7_118 : (Jvm.Cond.classLink "CircuitCyclesLaw" (25 : Nat) "java/lang/IllegalStateException") ∈ xw_G := xw_c7 (List.mem_of_getElem? (i := 118) rfl) rfl
theorem wn_7_119 : (Jvm.Cond.methodLink "CircuitCyclesLaw" (21 : Nat) ({ cls := "CircuitCycles", name := "count", desc := "(I)I" } : Jvm.MethodName)) ∈ xw_G := xw_c7 (List.mem_of_getElem? (i := 119) rfl) rfl
theorem wn_7_120 : (Jvm.Cond.instanceMethod ({ cls := "CircuitCycles", name := "count", desc := "(I)I" } : Jvm.MethodName)) ∈ xw_G := xw_c7 (List.mem_of_getElem? (i := 120) rfl) rfl
theorem wn_7_121 : (Jvm.Cond.selects "CircuitCycles" ({ cls := "CircuitCycles", name := "count", desc := "(I)I" } : Jvm.MethodName) ({ cls := "CircuitCycles", name := "count", desc := "(I)I" } : Jvm.MethodName)) ∈ xw_G := xw_c7 (List.mem_of_getElem? (i := 121) rfl) rfl
theorem wn_7_122 : (Jvm.Cond.code ({ cls := "CircuitCycles", name := "count", desc := "(I)I" } : Jvm.MethodName) prog_1_method_6_code (3 : Nat) (Option.some Jvm.ClassFile.FieldType.int)) ∈ xw_G := xw_c7 (List.mem_of_getElem? (i := 122) rfl) rfl
theorem wn_7_123 : (Jvm.Cond.classLink "CircuitCycles" (140 : Nat) "java/lang/IllegalStateException") ∈ xw_G := xw_c7 (List.mem_of_getElem? (i := 123) rfl) rfl
theorem wn_7_139 : (Jvm.Cond.methodLink "CircuitCyclesLaw" (83 : Nat) ({ cls := "CircuitCyclesLaw", name := "find", desc := "(LCircuitCycles;[J)I" } : Jvm.MethodName)) ∈ xw_G := xw_c7 (List.mem_of_getElem? (i := 139) rfl) rfl
theorem wn_7_140 : (Jvm.Cond.static ({ cls := "CircuitCyclesLaw", name := "find", desc := "(LCircuitCycles;[J)I" } : Jvm.MethodName)) ∈ xw_G := xw_c7 (List.mem_of_getElem? (i := 140) rfl) rfl
theorem wn_7_141 : (Jvm.Cond.codeWith ({ cls := "CircuitCyclesLaw", name := "find", desc := "(LCircuitCycles;[J)I" } : Jvm.MethodName) method_6_code (3 : Nat) (Option.some Jvm.ClassFile.FieldType.int) [((0 : Nat), (8 : Nat), (11 : Nat), (25 : Nat))]) ∈ xw_G := xw_c7 (List.mem_of_getElem? (i := 141) rfl) rfl
theorem wn_7_142 : (Jvm.Cond.methodLink "CircuitCyclesLaw" (27 : Nat) ({ cls := "CircuitCycles", name := "find", desc := "()I" } : Jvm.MethodName)) ∈ xw_G := xw_c7 (List.mem_of_getElem? (i := 142) rfl) rfl
theorem wn_7_143 : (Jvm.Cond.instanceMethod ({ cls := "CircuitCycles", name := "find", desc := "()I" } : Jvm.MethodName)) ∈ xw_G := xw_c7 (List.mem_of_getElem? (i := 143) rfl) rfl
theorem wn_7_144 : (Jvm.Cond.selects "CircuitCycles" ({ cls := "CircuitCycles", name := "find", desc := "()I" } : Jvm.MethodName) ({ cls := "CircuitCycles", name := "find", desc := "()I" } : Jvm.MethodName)) ∈ xw_G := xw_c7 (List.mem_of_getElem? (i := 144) rfl) rfl
theorem wn_7_145 : (Jvm.Cond.code ({ cls := "CircuitCycles", name := "find", desc := "()I" } : Jvm.MethodName) prog_1_method_7_code (2 : Nat) (Option.some Jvm.ClassFile.FieldType.int)) ∈ xw_G := xw_c7 (List.mem_of_getElem? (i := 145) rfl) rfl
theorem wn_7_164 : (Jvm.Cond.methodLink "CircuitCyclesLaw" (87 : Nat) ({ cls := "CircuitCyclesLaw", name := "signal", desc := "(LCircuitCycles;II[J)I" } : Jvm.MethodName)) ∈ xw_G := xw_c7 (List.mem_of_getElem? (i := 164) rfl) rfl
theorem wn_7_165 : (Jvm.Cond.static ({ cls := "CircuitCyclesLaw", name := "signal", desc := "(LCircuitCycles;II[J)I" } : Jvm.MethodName)) ∈ xw_G := xw_c7 (List.mem_of_getElem? (i := 165) rfl) rfl
theorem wn_7_166 : (Jvm.Cond.codeWith ({ cls := "CircuitCyclesLaw", name := "signal", desc := "(LCircuitCycles;II[J)I" } : Jvm.MethodName) method_7_code (5 : Nat) (Option.some Jvm.ClassFile.FieldType.int) [((0 : Nat), (10 : Nat), (13 : Nat), (25 : Nat)), ((0 : Nat), (10 : Nat), (17 : Nat), (35 : Nat)), ((0 : Nat), (10 : Nat), (21 : Nat), (19 : Nat))]) ∈ xw_G := xw_c7 (List.mem_of_getElem? (i := 166) rfl) rfl
theorem wn_7_168 : (Jvm.Cond.methodLink "CircuitCyclesLaw" (31 : Nat) ({ cls := "CircuitCycles", name := "signal", desc := "(II)I" } : Jvm.MethodName)) ∈ xw_G := xw_c7 (List.mem_of_getElem? (i := 168) rfl) rfl
theorem wn_7_169 : (Jvm.Cond.instanceMethod ({ cls := "CircuitCycles", name := "signal", desc := "(II)I" } : Jvm.MethodName)) ∈ xw_G := xw_c7 (List.mem_of_getElem? (i := 169) rfl) rfl
theorem wn_7_170 : (Jvm.Cond.selects "CircuitCycles" ({ cls := "CircuitCycles", name := "signal", desc := "(II)I" } : Jvm.MethodName) ({ cls := "CircuitCycles", name := "signal", desc := "(II)I" } : Jvm.MethodName)) ∈ xw_G := xw_c7 (List.mem_of_getElem? (i := 170) rfl) rfl
theorem wn_7_171 : (Jvm.Cond.code ({ cls := "CircuitCycles", name := "signal", desc := "(II)I" } : Jvm.MethodName) prog_1_method_8_code (3 : Nat) (Option.some Jvm.ClassFile.FieldType.int)) ∈ xw_G := xw_c7 (List.mem_of_getElem? (i := 171) rfl) rfl
theorem wn_7_195 : (Jvm.Cond.methodLink "CircuitCyclesLaw" (91 : Nat) ({ cls := "CircuitCyclesLaw", name := "reset", desc := "(LCircuitCycles;)I" } : Jvm.MethodName)) ∈ xw_G := xw_c7 (List.mem_of_getElem? (i := 195) rfl) rfl
theorem wn_7_196 : (Jvm.Cond.static ({ cls := "CircuitCyclesLaw", name := "reset", desc := "(LCircuitCycles;)I" } : Jvm.MethodName)) ∈ xw_G := xw_c7 (List.mem_of_getElem? (i := 196) rfl) rfl
theorem wn_7_197 : (Jvm.Cond.codeWith ({ cls := "CircuitCyclesLaw", name := "reset", desc := "(LCircuitCycles;)I" } : Jvm.MethodName) method_8_code (2 : Nat) (Option.some Jvm.ClassFile.FieldType.int) [((0 : Nat), (4 : Nat), (7 : Nat), (25 : Nat))]) ∈ xw_G := xw_c7 (List.mem_of_getElem? (i := 197) rfl) rfl
theorem wn_7_198 : (Jvm.Cond.methodLink "CircuitCyclesLaw" (37 : Nat) ({ cls := "CircuitCycles", name := "reset", desc := "()V" } : Jvm.MethodName)) ∈ xw_G := xw_c7 (List.mem_of_getElem? (i := 198) rfl) rfl
theorem wn_7_199 : (Jvm.Cond.instanceMethod ({ cls := "CircuitCycles", name := "reset", desc := "()V" } : Jvm.MethodName)) ∈ xw_G := xw_c7 (List.mem_of_getElem? (i := 199) rfl) rfl
theorem wn_7_200 : (Jvm.Cond.selects "CircuitCycles" ({ cls := "CircuitCycles", name := "reset", desc := "()V" } : Jvm.MethodName) ({ cls := "CircuitCycles", name := "reset", desc := "()V" } : Jvm.MethodName)) ∈ xw_G := xw_c7 (List.mem_of_getElem? (i := 200) rfl) rfl
theorem wn_7_201 : (Jvm.Cond.code ({ cls := "CircuitCycles", name := "reset", desc := "()V" } : Jvm.MethodName) prog_1_method_9_code (1 : Nat) (Option.none : Option Jvm.ClassFile.FieldType)) ∈ xw_G := xw_c7 (List.mem_of_getElem? (i := 201) rfl) rfl
theorem wn_7_202 : (Jvm.Cond.methodLink "CircuitCyclesLaw" (95 : Nat) ({ cls := "CircuitCyclesLaw", name := "set", desc := "(LCircuitCycles;II)I" } : Jvm.MethodName)) ∈ xw_G := xw_c7 (List.mem_of_getElem? (i := 202) rfl) rfl
theorem wn_7_203 : (Jvm.Cond.static ({ cls := "CircuitCyclesLaw", name := "set", desc := "(LCircuitCycles;II)I" } : Jvm.MethodName)) ∈ xw_G := xw_c7 (List.mem_of_getElem? (i := 203) rfl) rfl
theorem wn_7_204 : (Jvm.Cond.codeWith ({ cls := "CircuitCyclesLaw", name := "set", desc := "(LCircuitCycles;II)I" } : Jvm.MethodName) method_9_code (4 : Nat) (Option.some Jvm.ClassFile.FieldType.int) [((0 : Nat), (6 : Nat), (9 : Nat), (25 : Nat)), ((0 : Nat), (6 : Nat), (12 : Nat), (35 : Nat)), ((0 : Nat), (6 : Nat), (15 : Nat), (19 : Nat))]) ∈ xw_G := xw_c7 (List.mem_of_getElem? (i := 204) rfl) rfl
theorem wn_7_205 : (Jvm.Cond.methodLink "CircuitCyclesLaw" (40 : Nat) ({ cls := "CircuitCycles", name := "set", desc := "(II)V" } : Jvm.MethodName)) ∈ xw_G := xw_c7 (List.mem_of_getElem? (i := 205) rfl) rfl
theorem wn_7_206 : (Jvm.Cond.instanceMethod ({ cls := "CircuitCycles", name := "set", desc := "(II)V" } : Jvm.MethodName)) ∈ xw_G := xw_c7 (List.mem_of_getElem? (i := 206) rfl) rfl
theorem wn_7_207 : (Jvm.Cond.selects "CircuitCycles" ({ cls := "CircuitCycles", name := "set", desc := "(II)V" } : Jvm.MethodName) ({ cls := "CircuitCycles", name := "set", desc := "(II)V" } : Jvm.MethodName)) ∈ xw_G := xw_c7 (List.mem_of_getElem? (i := 207) rfl) rfl
theorem wn_7_208 : (Jvm.Cond.code ({ cls := "CircuitCycles", name := "set", desc := "(II)V" } : Jvm.MethodName) prog_1_method_10_code (3 : Nat) (Option.none : Option Jvm.ClassFile.FieldType)) ∈ xw_G := xw_c7 (List.mem_of_getElem? (i := 208) rfl) rfl
theorem wn_7_214 : (Jvm.Cond.methodLink "CircuitCyclesLaw" (99 : Nat) ({ cls := "CircuitCyclesLaw", name := "step", desc := "(LCircuitCycles;[J)I" } : Jvm.MethodName)) ∈ xw_G := xw_c7 (List.mem_of_getElem? (i := 214) rfl) rfl
theorem wn_7_215 : (Jvm.Cond.static ({ cls := "CircuitCyclesLaw", name := "step", desc := "(LCircuitCycles;[J)I" } : Jvm.MethodName)) ∈ xw_G := xw_c7 (List.mem_of_getElem? (i := 215) rfl) rfl
theorem wn_7_216 : (Jvm.Cond.codeWith ({ cls := "CircuitCyclesLaw", name := "step", desc := "(LCircuitCycles;[J)I" } : Jvm.MethodName) method_10_code (3 : Nat) (Option.some Jvm.ClassFile.FieldType.int) [((0 : Nat), (8 : Nat), (11 : Nat), (25 : Nat))]) ∈ xw_G := xw_c7 (List.mem_of_getElem? (i := 216) rfl) rfl
theorem wn_7_217 : (Jvm.Cond.methodLink "CircuitCyclesLaw" (44 : Nat) ({ cls := "CircuitCycles", name := "step", desc := "()I" } : Jvm.MethodName)) ∈ xw_G := xw_c7 (List.mem_of_getElem? (i := 217) rfl) rfl
theorem wn_7_218 : (Jvm.Cond.instanceMethod ({ cls := "CircuitCycles", name := "step", desc := "()I" } : Jvm.MethodName)) ∈ xw_G := xw_c7 (List.mem_of_getElem? (i := 218) rfl) rfl
theorem wn_7_219 : (Jvm.Cond.selects "CircuitCycles" ({ cls := "CircuitCycles", name := "step", desc := "()I" } : Jvm.MethodName) ({ cls := "CircuitCycles", name := "step", desc := "()I" } : Jvm.MethodName)) ∈ xw_G := xw_c7 (List.mem_of_getElem? (i := 219) rfl) rfl
theorem wn_7_220 : (Jvm.Cond.code ({ cls := "CircuitCycles", name := "step", desc := "()I" } : Jvm.MethodName) prog_1_method_11_code (1 : Nat) (Option.some Jvm.ClassFile.FieldType.int)) ∈ xw_G := xw_c7 (List.mem_of_getElem? (i := 220) rfl) rfl
theorem wn_8_38 : (Jvm.Cond.methodLink "CircuitCyclesLaw" (102 : Nat) ({ cls := "CircuitCyclesLaw", name := "value", desc := "(LCircuitCycles;I[J)I" } : Jvm.MethodName)) ∈ xw_G := xw_c8 (List.mem_of_getElem? (i := 38) rfl) rfl
theorem wn_8_39 : (Jvm.Cond.static ({ cls := "CircuitCyclesLaw", name := "value", desc := "(LCircuitCycles;I[J)I" } : Jvm.MethodName)) ∈ xw_G := xw_c8 (List.mem_of_getElem? (i := 39) rfl) rfl
theorem wn_8_40 : (Jvm.Cond.codeWith ({ cls := "CircuitCyclesLaw", name := "value", desc := "(LCircuitCycles;I[J)I" } : Jvm.MethodName) method_11_code (4 : Nat) (Option.some Jvm.ClassFile.FieldType.int) [((0 : Nat), (8 : Nat), (11 : Nat), (25 : Nat)), ((0 : Nat), (8 : Nat), (14 : Nat), (35 : Nat))]) ∈ xw_G := xw_c8 (List.mem_of_getElem? (i := 40) rfl) rfl
theorem wn_8_41 : (Jvm.Cond.methodLink "CircuitCyclesLaw" (47 : Nat) ({ cls := "CircuitCycles", name := "value", desc := "(I)J" } : Jvm.MethodName)) ∈ xw_G := xw_c8 (List.mem_of_getElem? (i := 41) rfl) rfl
theorem wn_8_42 : (Jvm.Cond.instanceMethod ({ cls := "CircuitCycles", name := "value", desc := "(I)J" } : Jvm.MethodName)) ∈ xw_G := xw_c8 (List.mem_of_getElem? (i := 42) rfl) rfl
theorem wn_8_43 : (Jvm.Cond.selects "CircuitCycles" ({ cls := "CircuitCycles", name := "value", desc := "(I)J" } : Jvm.MethodName) ({ cls := "CircuitCycles", name := "value", desc := "(I)J" } : Jvm.MethodName)) ∈ xw_G := xw_c8 (List.mem_of_getElem? (i := 43) rfl) rfl
theorem wn_8_44 : (Jvm.Cond.code ({ cls := "CircuitCycles", name := "value", desc := "(I)J" } : Jvm.MethodName) prog_1_method_12_code (2 : Nat) (Option.some Jvm.ClassFile.FieldType.long)) ∈ xw_G := xw_c8 (List.mem_of_getElem? (i := 44) rfl) rfl
theorem wn_8_49 : (Jvm.Cond.methodLink "CircuitCyclesLaw" (105 : Nat) ({ cls := "CircuitCyclesLaw", name := "failing", desc := "(LCircuitCycles;[J)I" } : Jvm.MethodName)) ∈ xw_G := xw_c8 (List.mem_of_getElem? (i := 49) rfl) rfl
theorem wn_8_50 : (Jvm.Cond.static ({ cls := "CircuitCyclesLaw", name := "failing", desc := "(LCircuitCycles;[J)I" } : Jvm.MethodName)) ∈ xw_G := xw_c8 (List.mem_of_getElem? (i := 50) rfl) rfl
theorem wn_8_51 : (Jvm.Cond.codeWith ({ cls := "CircuitCyclesLaw", name := "failing", desc := "(LCircuitCycles;[J)I" } : Jvm.MethodName) method_12_code (3 : Nat) (Option.some Jvm.ClassFile.FieldType.int) [((0 : Nat), (8 : Nat), (11 : Nat), (25 : Nat))]) ∈ xw_G := xw_c8 (List.mem_of_getElem? (i := 51) rfl) rfl
theorem wn_8_52 : (Jvm.Cond.methodLink "CircuitCyclesLaw" (51 : Nat) ({ cls := "CircuitCycles", name := "failing", desc := "()I" } : Jvm.MethodName)) ∈ xw_G := xw_c8 (List.mem_of_getElem? (i := 52) rfl) rfl
theorem wn_8_53 : (Jvm.Cond.instanceMethod ({ cls := "CircuitCycles", name := "failing", desc := "()I" } : Jvm.MethodName)) ∈ xw_G := xw_c8 (List.mem_of_getElem? (i := 53) rfl) rfl
theorem wn_8_54 : (Jvm.Cond.selects "CircuitCycles" ({ cls := "CircuitCycles", name := "failing", desc := "()I" } : Jvm.MethodName) ({ cls := "CircuitCycles", name := "failing", desc := "()I" } : Jvm.MethodName)) ∈ xw_G := xw_c8 (List.mem_of_getElem? (i := 54) rfl) rfl
theorem wn_8_55 : (Jvm.Cond.code ({ cls := "CircuitCycles", name := "failing", desc := "()I" } : Jvm.MethodName) prog_1_method_13_code (1 : Nat) (Option.some Jvm.ClassFile.FieldType.int)) ∈ xw_G := xw_c8 (List.mem_of_getElem? (i := 55) rfl) rfl
theorem wn_8_60 : (Jvm.Cond.classLink "CircuitCyclesLaw" (55 : Nat) "CircuitCyclesModel") ∈ xw_G := xw_c8 (List.mem_of_getElem? (i := 60) rfl) rfl
theorem wn_8_61 : (Jvm.Cond.instantiable "CircuitCyclesModel" (91 : Nat)) ∈ xw_G := xw_c8 (List.mem_of_getElem? (i := 61) rfl) rfl
theorem wn_8_62 : (Jvm.Cond.methodLink "CircuitCyclesLaw" (57 : Nat) ({ cls := "CircuitCyclesModel", name := "<init>", desc := "()V" } : Jvm.MethodName)) ∈ xw_G := xw_c8 (List.mem_of_getElem? (i := 62) rfl) rfl
theorem wn_8_63 : (Jvm.Cond.instanceMethod ({ cls := "CircuitCyclesModel", name := "<init>", desc := "()V" } : Jvm.MethodName)) ∈ xw_G := xw_c8 (List.mem_of_getElem? (i := 63) rfl) rfl
theorem wn_8_64 : (Jvm.Cond.code ({ cls := "CircuitCyclesModel", name := "<init>", desc := "()V" } : Jvm.MethodName) prog_14_method_1_code (1 : Nat) (Option.none : Option Jvm.ClassFile.FieldType)) ∈ xw_G := xw_c8 (List.mem_of_getElem? (i := 64) rfl) rfl
theorem wn_8_65 : (Jvm.Cond.methodLink "CircuitCyclesModel" (1 : Nat) ({ cls := "java/lang/Object", name := "<init>", desc := "()V" } : Jvm.MethodName)) ∈ xw_G := xw_c8 (List.mem_of_getElem? (i := 65) rfl) rfl
theorem wn_8_66 : (Jvm.Cond.constant "CircuitCyclesModel" (7 : Nat) (65536 : Int32)) ∈ xw_G := xw_c8 (List.mem_of_getElem? (i := 66) rfl) rfl
theorem wn_8_67 : (Jvm.Cond.constant "CircuitCyclesModel" (14 : Nat) (65540 : Int32)) ∈ xw_G := xw_c8 (List.mem_of_getElem? (i := 67) rfl) rfl
theorem wn_8_68 : (Jvm.Cond.fieldLink "CircuitCyclesModel" (192 : Nat) "CircuitCyclesModel" "thrown" "I") ∈ xw_G := xw_c8 (List.mem_of_getElem? (i := 68) rfl) rfl
theorem wn_8_69 : (Jvm.Cond.fieldLink "CircuitCyclesModel" (8 : Nat) "CircuitCyclesModel" "tape" "[B") ∈ xw_G := xw_c8 (List.mem_of_getElem? (i := 69) rfl) rfl
theorem wn_8_70 : (Jvm.Cond.fieldLink "CircuitCyclesModel" (196 : Nat) "CircuitCyclesModel" "size" "I") ∈ xw_G := xw_c8 (List.mem_of_getElem? (i := 70) rfl) rfl
theorem wn_8_71 : (Jvm.Cond.fieldLink "CircuitCyclesModel" (542 : Nat) "CircuitCyclesModel" "fault" "I") ∈ xw_G := xw_c8 (List.mem_of_getElem? (i := 71) rfl) rfl
theorem wn_8_72 : (Jvm.Cond.fieldLink "CircuitCyclesModel" (15 : Nat) "CircuitCyclesModel" "kinds" "[I") ∈ xw_G := xw_c8 (List.mem_of_getElem? (i := 72) rfl) rfl
theorem wn_8_73 : (Jvm.Cond.fieldLink "CircuitCyclesModel" (19 : Nat) "CircuitCyclesModel" "begins" "[I") ∈ xw_G := xw_c8 (List.mem_of_getElem? (i := 73) rfl) rfl
theorem wn_8_74 : (Jvm.Cond.fieldLink "CircuitCyclesModel" (22 : Nat) "CircuitCyclesModel" "ends" "[I") ∈ xw_G := xw_c8 (List.mem_of_getElem? (i := 74) rfl) rfl
theorem wn_8_75 : (Jvm.Cond.fieldLink "CircuitCyclesModel" (231 : Nat) "CircuitCyclesModel" "tokens" "I") ∈ xw_G := xw_c8 (List.mem_of_getElem? (i := 75) rfl) rfl
theorem wn_8_76 : (Jvm.Cond.fieldLink "CircuitCyclesModel" (263 : Nat) "CircuitCyclesModel" "t" "I") ∈ xw_G := xw_c8 (List.mem_of_getElem? (i := 76) rfl) rfl
theorem wn_8_77 : (Jvm.Cond.fieldLink "CircuitCyclesModel" (257 : Nat) "CircuitCyclesModel" "wrong" "I") ∈ xw_G := xw_c8 (List.mem_of_getElem? (i := 77) rfl) rfl
theorem wn_8_78 : (Jvm.Cond.fieldLink "CircuitCyclesModel" (260 : Nat) "CircuitCyclesModel" "wrongAt" "I") ∈ xw_G := xw_c8 (List.mem_of_getElem? (i := 78) rfl) rfl
theorem wn_8_79 : (Jvm.Cond.fieldLink "CircuitCyclesModel" (276 : Nat) "CircuitCyclesModel" "deep" "I") ∈ xw_G := xw_c8 (List.mem_of_getElem? (i := 79) rfl) rfl
theorem wn_8_81 : (Jvm.Cond.fieldLink "CircuitCyclesModel" (25 : Nat) "CircuitCyclesModel" "moduleName" "[I") ∈ xw_G := xw_c8 (List.mem_of_getElem? (i := 81) rfl) rfl
theorem wn_8_82 : (Jvm.Cond.fieldLink "CircuitCyclesModel" (28 : Nat) "CircuitCyclesModel" "firstSignal" "[I") ∈ xw_G := xw_c8 (List.mem_of_getElem? (i := 82) rfl) rfl
theorem wn_8_83 : (Jvm.Cond.fieldLink "CircuitCyclesModel" (31 : Nat) "CircuitCyclesModel" "firstInstance" "[I") ∈ xw_G := xw_c8 (List.mem_of_getElem? (i := 83) rfl) rfl
theorem wn_8_84 : (Jvm.Cond.fieldLink "CircuitCyclesModel" (34 : Nat) "CircuitCyclesModel" "firstAssert" "[I") ∈ xw_G := xw_c8 (List.mem_of_getElem? (i := 84) rfl) rfl
theorem wn_8_85 : (Jvm.Cond.fieldLink "CircuitCyclesModel" (37 : Nat) "CircuitCyclesModel" "firstAlways" "[I") ∈ xw_G := xw_c8 (List.mem_of_getElem? (i := 85) rfl) rfl
theorem wn_8_87 : (Jvm.Cond.fieldLink "CircuitCyclesModel" (40 : Nat) "CircuitCyclesModel" "localName" "[I") ∈ xw_G := xw_c8 (List.mem_of_getElem? (i := 87) rfl) rfl
theorem wn_8_88 : (Jvm.Cond.fieldLink "CircuitCyclesModel" (43 : Nat) "CircuitCyclesModel" "localWidth" "[I") ∈ xw_G := xw_c8 (List.mem_of_getElem? (i := 88) rfl) rfl
theorem wn_8_89 : (Jvm.Cond.fieldLink "CircuitCyclesModel" (46 : Nat) "CircuitCyclesModel" "localKind" "[I") ∈ xw_G := xw_c8 (List.mem_of_getElem? (i := 89) rfl) rfl
theorem wn_8_90 : (Jvm.Cond.fieldLink "CircuitCyclesModel" (49 : Nat) "CircuitCyclesModel" "localFirst" "[J") ∈ xw_G := xw_c8 (List.mem_of_getElem? (i := 90) rfl) rfl
theorem wn_8_91 : (Jvm.Cond.fieldLink "CircuitCyclesModel" (53 : Nat) "CircuitCyclesModel" "driverKind" "[I") ∈ xw_G := xw_c8 (List.mem_of_getElem? (i := 91) rfl) rfl
theorem wn_8_92 : (Jvm.Cond.fieldLink "CircuitCyclesModel" (56 : Nat) "CircuitCyclesModel" "driverFrom" "[I") ∈ xw_G := xw_c8 (List.mem_of_getElem? (i := 92) rfl) rfl
theorem wn_8_93 : (Jvm.Cond.fieldLink "CircuitCyclesModel" (59 : Nat) "CircuitCyclesModel" "driverTo" "[I") ∈ xw_G := xw_c8 (List.mem_of_getElem? (i := 93) rfl) rfl
theorem wn_8_94 : (Jvm.Cond.fieldLink "CircuitCyclesModel" (62 : Nat) "CircuitCyclesModel" "setIn" "[I") ∈ xw_G := xw_c8 (List.mem_of_getElem? (i := 94) rfl) rfl
theorem wn_8_96 : (Jvm.Cond.fieldLink "CircuitCyclesModel" (65 : Nat) "CircuitCyclesModel" "itemModule" "[I") ∈ xw_G := xw_c8 (List.mem_of_getElem? (i := 96) rfl) rfl
theorem wn_8_97 : (Jvm.Cond.fieldLink "CircuitCyclesModel" (68 : Nat) "CircuitCyclesModel" "itemName" "[I") ∈ xw_G := xw_c8 (List.mem_of_getElem? (i := 97) rfl) rfl
theorem wn_8_98 : (Jvm.Cond.fieldLink "CircuitCyclesModel" (71 : Nat) "CircuitCyclesModel" "firstLink" "[I") ∈ xw_G := xw_c8 (List.mem_of_getElem? (i := 98) rfl) rfl
theorem wn_8_100 : (Jvm.Cond.fieldLink "CircuitCyclesModel" (74 : Nat) "CircuitCyclesModel" "linkPort" "[I") ∈ xw_G := xw_c8 (List.mem_of_getElem? (i := 100) rfl) rfl
theorem wn_8_101 : (Jvm.Cond.fieldLink "CircuitCyclesModel" (77 : Nat) "CircuitCyclesModel" "linkFrom" "[I") ∈ xw_G := xw_c8 (List.mem_of_getElem? (i := 101) rfl) rfl
theorem wn_8_102 : (Jvm.Cond.fieldLink "CircuitCyclesModel" (80 : Nat) "CircuitCyclesModel" "linkTo" "[I") ∈ xw_G := xw_c8 (List.mem_of_getElem? (i := 102) rfl) rfl
theorem wn_8_104 : (Jvm.Cond.fieldLink "CircuitCyclesModel" (83 : Nat) "CircuitCyclesModel" "assertFrom" "[I") ∈ xw_G := xw_c8 (List.mem_of_getElem? (i := 104) rfl) rfl
theorem wn_8_105 : (Jvm.Cond.fieldLink "CircuitCyclesModel" (86 : Nat) "CircuitCyclesModel" "assertTo" "[I") ∈ xw_G := xw_c8 (List.mem_of_getElem? (i := 105) rfl) rfl
theorem wn_8_107 : (Jvm.Cond.fieldLink "CircuitCyclesModel" (89 : Nat) "CircuitCyclesModel" "alwaysFrom" "[I") ∈ xw_G := xw_c8 (List.mem_of_getElem? (i := 107) rfl) rfl
theorem wn_8_108 : (Jvm.Cond.fieldLink "CircuitCyclesModel" (92 : Nat) "CircuitCyclesModel" "alwaysTo" "[I") ∈ xw_G := xw_c8 (List.mem_of_getElem? (i := 108) rfl) rfl
theorem wn_8_109 : (Jvm.Cond.fieldLink "CircuitCyclesModel" (95 : Nat) "CircuitCyclesModel" "code" "[I") ∈ xw_G := xw_c8 (List.mem_of_getElem? (i := 109) rfl) rfl
theorem wn_8_111 : (Jvm.Cond.fieldLink "CircuitCyclesModel" (98 : Nat) "CircuitCyclesModel" "numbers" "[J") ∈ xw_G := xw_c8 (List.mem_of_getElem? (i := 111) rfl) rfl
theorem wn_8_113 : (Jvm.Cond.fieldLink "CircuitCyclesModel" (101 : Nat) "CircuitCyclesModel" "moduleCost" "[J") ∈ xw_G := xw_c8 (List.mem_of_getElem? (i := 113) rfl) rfl
theorem wn_8_114 : (Jvm.Cond.fieldLink "CircuitCyclesModel" (104 : Nat) "CircuitCyclesModel" "moduleInstances" "[J") ∈ xw_G := xw_c8 (List.mem_of_getElem? (i := 114) rfl) rfl
theorem wn_8_115 : (Jvm.Cond.fieldLink "CircuitCyclesModel" (107 : Nat) "CircuitCyclesModel" "moduleSignals" "[J") ∈ xw_G := xw_c8 (List.mem_of_getElem? (i := 115) rfl) rfl
theorem wn_8_116 : (Jvm.Cond.fieldLink "CircuitCyclesModel" (110 : Nat) "CircuitCyclesModel" "moduleBits" "[J") ∈ xw_G := xw_c8 (List.mem_of_getElem? (i := 116) rfl) rfl
theorem wn_8_117 : (Jvm.Cond.fieldLink "CircuitCyclesModel" (113 : Nat) "CircuitCyclesModel" "waitOp" "[I") ∈ xw_G := xw_c8 (List.mem_of_getElem? (i := 117) rfl) rfl
theorem wn_8_118 : (Jvm.Cond.fieldLink "CircuitCyclesModel" (116 : Nat) "CircuitCyclesModel" "waitAt" "[I") ∈ xw_G := xw_c8 (List.mem_of_getElem? (i := 118) rfl) rfl
theorem wn_8_120 : (Jvm.Cond.fieldLink "CircuitCyclesModel" (119 : Nat) "CircuitCyclesModel" "widths" "[I") ∈ xw_G := xw_c8 (List.mem_of_getElem? (i := 120) rfl) rfl
theorem wn_8_122 : (Jvm.Cond.fieldLink "CircuitCyclesModel" (545 : Nat) "CircuitCyclesModel" "there" "Z") ∈ xw_G := xw_c8 (List.mem_of_getElem? (i := 122) rfl) rfl
theorem wn_8_123 : (Jvm.Cond.fieldLink "CircuitCyclesModel" (122 : Nat) "CircuitCyclesModel" "text" "[B") ∈ xw_G := xw_c8 (List.mem_of_getElem? (i := 123) rfl) rfl
theorem wn_8_125 : (Jvm.Cond.fieldLink "CircuitCyclesModel" (125 : Nat) "CircuitCyclesModel" "instanceModule" "[I") ∈ xw_G := xw_c8 (List.mem_of_getElem? (i := 125) rfl) rfl
theorem wn_8_126 : (Jvm.Cond.fieldLink "CircuitCyclesModel" (128 : Nat) "CircuitCyclesModel" "instanceBase" "[I") ∈ xw_G := xw_c8 (List.mem_of_getElem? (i := 126) rfl) rfl
theorem wn_8_127 : (Jvm.Cond.fieldLink "CircuitCyclesModel" (131 : Nat) "CircuitCyclesModel" "instanceUp" "[I") ∈ xw_G := xw_c8 (List.mem_of_getElem? (i := 127) rfl) rfl
theorem wn_8_128 : (Jvm.Cond.fieldLink "CircuitCyclesModel" (134 : Nat) "CircuitCyclesModel" "instanceItem" "[I") ∈ xw_G := xw_c8 (List.mem_of_getElem? (i := 128) rfl) rfl
theorem wn_8_129 : (Jvm.Cond.fieldLink "CircuitCyclesModel" (137 : Nat) "CircuitCyclesModel" "stack" "[I") ∈ xw_G := xw_c8 (List.mem_of_getElem? (i := 129) rfl) rfl
theorem wn_8_130 : (Jvm.Cond.fieldLink "CircuitCyclesModel" (140 : Nat) "CircuitCyclesModel" "stackNext" "[I") ∈ xw_G := xw_c8 (List.mem_of_getElem? (i := 130) rfl) rfl
theorem wn_8_132 : (Jvm.Cond.fieldLink "CircuitCyclesModel" (143 : Nat) "CircuitCyclesModel" "signalLocal" "[I") ∈ xw_G := xw_c8 (List.mem_of_getElem? (i := 132) rfl) rfl
theorem wn_8_133 : (Jvm.Cond.fieldLink "CircuitCyclesModel" (146 : Nat) "CircuitCyclesModel" "signalInstance" "[I") ∈ xw_G := xw_c8 (List.mem_of_getElem? (i := 133) rfl) rfl
theorem wn_8_134 : (Jvm.Cond.fieldLink "CircuitCyclesModel" (149 : Nat) "CircuitCyclesModel" "ruleKind" "[I") ∈ xw_G := xw_c8 (List.mem_of_getElem? (i := 134) rfl) rfl
theorem wn_8_135 : (Jvm.Cond.fieldLink "CircuitCyclesModel" (152 : Nat) "CircuitCyclesModel" "ruleFrom" "[I") ∈ xw_G := xw_c8 (List.mem_of_getElem? (i := 135) rfl) rfl
theorem wn_8_136 : (Jvm.Cond.fieldLink "CircuitCyclesModel" (155 : Nat) "CircuitCyclesModel" "ruleTo" "[I") ∈ xw_G := xw_c8 (List.mem_of_getElem? (i := 136) rfl) rfl
theorem wn_8_137 : (Jvm.Cond.fieldLink "CircuitCyclesModel" (158 : Nat) "CircuitCyclesModel" "ruleFor" "[I") ∈ xw_G := xw_c8 (List.mem_of_getElem? (i := 137) rfl) rfl
theorem wn_8_138 : (Jvm.Cond.fieldLink "CircuitCyclesModel" (161 : Nat) "CircuitCyclesModel" "order" "[I") ∈ xw_G := xw_c8 (List.mem_of_getElem? (i := 138) rfl) rfl
theorem wn_8_140 : (Jvm.Cond.fieldLink "CircuitCyclesModel" (164 : Nat) "CircuitCyclesModel" "ready" "[Z") ∈ xw_G := xw_c8 (List.mem_of_getElem? (i := 140) rfl) rfl
theorem wn_8_141 : (Jvm.Cond.fieldLink "CircuitCyclesModel" (168 : Nat) "CircuitCyclesModel" "met" "[Z") ∈ xw_G := xw_c8 (List.mem_of_getElem? (i := 141) rfl) rfl
theorem wn_8_142 : (Jvm.Cond.fieldLink "CircuitCyclesModel" (171 : Nat) "CircuitCyclesModel" "queue" "[I") ∈ xw_G := xw_c8 (List.mem_of_getElem? (i := 142) rfl) rfl
theorem wn_8_148 : (Jvm.Cond.fieldLink "CircuitCyclesModel" (174 : Nat) "CircuitCyclesModel" "values" "[J") ∈ xw_G := xw_c8 (List.mem_of_getElem? (i := 148) rfl) rfl
theorem wn_8_149 : (Jvm.Cond.fieldLink "CircuitCyclesModel" (177 : Nat) "CircuitCyclesModel" "nexts" "[J") ∈ xw_G := xw_c8 (List.mem_of_getElem? (i := 149) rfl) rfl
theorem wn_8_150 : (Jvm.Cond.fieldLink "CircuitCyclesModel" (180 : Nat) "CircuitCyclesModel" "registers" "[J") ∈ xw_G := xw_c8 (List.mem_of_getElem? (i := 150) rfl) rfl
theorem wn_8_151 : (Jvm.Cond.fieldLink "CircuitCyclesModel" (183 : Nat) "CircuitCyclesModel" "inputs" "[J") ∈ xw_G := xw_c8 (List.mem_of_getElem? (i := 151) rfl) rfl
theorem wn_8_152 : (Jvm.Cond.fieldLink "CircuitCyclesModel" (186 : Nat) "CircuitCyclesModel" "pile" "[J") ∈ xw_G := xw_c8 (List.mem_of_getElem? (i := 152) rfl) rfl
theorem wn_8_156 : (Jvm.Cond.fieldLink "CircuitCyclesModel" (536 : Nat) "CircuitCyclesModel" "tapeSize" "I") ∈ xw_G := xw_c8 (List.mem_of_getElem? (i := 156) rfl) rfl
theorem wn_8_158 : (Jvm.Cond.fieldLink "CircuitCyclesModel" (189 : Nat) "CircuitCyclesModel" "src" "[B") ∈ xw_G := xw_c8 (List.mem_of_getElem? (i := 158) rfl) rfl
theorem wn_8_159 : (Jvm.Cond.lays "CircuitCyclesModel" "CircuitCyclesModel" "thrown" "I") ∈ xw_G := xw_c8 (List.mem_of_getElem? (i := 159) rfl) rfl
theorem wn_8_161 : (Jvm.Cond.laysFinal "CircuitCyclesModel" "CircuitCyclesModel" "tape" "[B") ∈ xw_G := xw_c8 (List.mem_of_getElem? (i := 161) rfl) rfl
theorem wn_8_163 : (Jvm.Cond.lays "CircuitCyclesModel" "CircuitCyclesModel" "size" "I") ∈ xw_G := xw_c8 (List.mem_of_getElem? (i := 163) rfl) rfl
theorem wn_8_165 : (Jvm.Cond.lays "CircuitCyclesModel" "CircuitCyclesModel" "fault" "I") ∈ xw_G := xw_c8 (List.mem_of_getElem? (i := 165) rfl) rfl
theorem wn_8_167 : (Jvm.Cond.laysFinal "CircuitCyclesModel" "CircuitCyclesModel" "kinds" "[I") ∈ xw_G := xw_c8 (List.mem_of_getElem? (i := 167) rfl) rfl
theorem wn_8_169 : (Jvm.Cond.laysFinal "CircuitCyclesModel" "CircuitCyclesModel" "begins" "[I") ∈ xw_G := xw_c8 (List.mem_of_getElem? (i := 169) rfl) rfl
theorem wn_8_171 : (Jvm.Cond.laysFinal "CircuitCyclesModel" "CircuitCyclesModel" "ends" "[I") ∈ xw_G := xw_c8 (List.mem_of_getElem? (i := 171) rfl) rfl
theorem wn_8_173 : (Jvm.Cond.lays "CircuitCyclesModel" "CircuitCyclesModel" "tokens" "I") ∈ xw_G := xw_c8 (List.mem_of_getElem? (i := 173) rfl) rfl
theorem wn_8_175 : (Jvm.Cond.lays "CircuitCyclesModel" "CircuitCyclesModel" "t" "I") ∈ xw_G := xw_c8 (List.mem_of_getElem? (i := 175) rfl) rfl
theorem wn_8_177 : (Jvm.Cond.lays "CircuitCyclesModel" "CircuitCyclesModel" "wrong" "I") ∈ xw_G := xw_c8 (List.mem_of_getElem? (i := 177) rfl) rfl
theorem wn_8_179 : (Jvm.Cond.lays "CircuitCyclesModel" "CircuitCyclesModel" "wrongAt" "I") ∈ xw_G := xw_c8 (List.mem_of_getElem? (i := 179) rfl) rfl
theorem wn_8_181 : (Jvm.Cond.lays "CircuitCyclesModel" "CircuitCyclesModel" "deep" "I") ∈ xw_G := xw_c8 (List.mem_of_getElem? (i := 181) rfl) rfl
theorem wn_8_183 : (Jvm.Cond.lays "CircuitCyclesModel" "CircuitCyclesModel" "modules" "I") ∈ xw_G := xw_c8 (List.mem_of_getElem? (i := 183) rfl) rfl
theorem wn_8_185 : (Jvm.Cond.laysFinal "CircuitCyclesModel" "CircuitCyclesModel" "moduleName" "[I") ∈ xw_G := xw_c8 (List.mem_of_getElem? (i := 185) rfl) rfl
theorem wn_8_187 : (Jvm.Cond.laysFinal "CircuitCyclesModel" "CircuitCyclesModel" "firstSignal" "[I") ∈ xw_G := xw_c8 (List.mem_of_getElem? (i := 187) rfl) rfl
theorem wn_8_189 : (Jvm.Cond.laysFinal "CircuitCyclesModel" "CircuitCyclesModel" "firstInstance" "[I") ∈ xw_G := xw_c8 (List.mem_of_getElem? (i := 189) rfl) rfl
theorem wn_8_191 : (Jvm.Cond.laysFinal "CircuitCyclesModel" "CircuitCyclesModel" "firstAssert" "[I") ∈ xw_G := xw_c8 (List.mem_of_getElem? (i := 191) rfl) rfl
theorem wn_8_193 : (Jvm.Cond.laysFinal "CircuitCyclesModel" "CircuitCyclesModel" "firstAlways" "[I") ∈ xw_G := xw_c8 (List.mem_of_getElem? (i := 193) rfl) rfl
theorem wn_8_195 : (Jvm.Cond.lays "CircuitCyclesModel" "CircuitCyclesModel" "locals" "I") ∈ xw_G := xw_c8 (List.mem_of_getElem? (i := 195) rfl) rfl
theorem wn_8_197 : (Jvm.Cond.laysFinal "CircuitCyclesModel" "CircuitCyclesModel" "localName" "[I") ∈ xw_G := xw_c8 (List.mem_of_getElem? (i := 197) rfl) rfl
theorem wn_8_199 : (Jvm.Cond.laysFinal "CircuitCyclesModel" "CircuitCyclesModel" "localWidth" "[I") ∈ xw_G := xw_c8 (List.mem_of_getElem? (i := 199) rfl) rfl
theorem wn_8_201 : (Jvm.Cond.laysFinal "CircuitCyclesModel" "CircuitCyclesModel" "localKind" "[I") ∈ xw_G := xw_c8 (List.mem_of_getElem? (i := 201) rfl) rfl
theorem wn_8_203 : (Jvm.Cond.laysFinal "CircuitCyclesModel" "CircuitCyclesModel" "localFirst" "[J") ∈ xw_G := xw_c8 (List.mem_of_getElem? (i := 203) rfl) rfl
theorem wn_8_205 : (Jvm.Cond.laysFinal "CircuitCyclesModel" "CircuitCyclesModel" "driverKind" "[I") ∈ xw_G := xw_c8 (List.mem_of_getElem? (i := 205) rfl) rfl
theorem wn_8_207 : (Jvm.Cond.laysFinal "CircuitCyclesModel" "CircuitCyclesModel" "driverFrom" "[I") ∈ xw_G := xw_c8 (List.mem_of_getElem? (i := 207) rfl) rfl
theorem wn_8_209 : (Jvm.Cond.laysFinal "CircuitCyclesModel" "CircuitCyclesModel" "driverTo" "[I") ∈ xw_G := xw_c8 (List.mem_of_getElem? (i := 209) rfl) rfl
theorem wn_8_211 : (Jvm.Cond.laysFinal "CircuitCyclesModel" "CircuitCyclesModel" "setIn" "[I") ∈ xw_G := xw_c8 (List.mem_of_getElem? (i := 211) rfl) rfl
theorem wn_8_213 : (Jvm.Cond.lays "CircuitCyclesModel" "CircuitCyclesModel" "items" "I") ∈ xw_G := xw_c8 (List.mem_of_getElem? (i := 213) rfl) rfl
theorem wn_8_215 : (Jvm.Cond.laysFinal "CircuitCyclesModel" "CircuitCyclesModel" "itemModule" "[I") ∈ xw_G := xw_c8 (List.mem_of_getElem? (i := 215) rfl) rfl
theorem wn_8_217 : (Jvm.Cond.laysFinal "CircuitCyclesModel" "CircuitCyclesModel" "itemName" "[I") ∈ xw_G := xw_c8 (List.mem_of_getElem? (i := 217) rfl) rfl
theorem wn_8_219 : (Jvm.Cond.laysFinal "CircuitCyclesModel" "CircuitCyclesModel" "firstLink" "[I") ∈ xw_G := xw_c8 (List.mem_of_getElem? (i := 219) rfl) rfl
theorem wn_8_221 : (Jvm.Cond.lays "CircuitCyclesModel" "CircuitCyclesModel" "links" "I") ∈ xw_G := xw_c8 (List.mem_of_getElem? (i := 221) rfl) rfl
theorem wn_8_223 : (Jvm.Cond.laysFinal "CircuitCyclesModel" "CircuitCyclesModel" "linkPort" "[I") ∈ xw_G := xw_c8 (List.mem_of_getElem? (i := 223) rfl) rfl
theorem wn_8_225 : (Jvm.Cond.laysFinal "CircuitCyclesModel" "CircuitCyclesModel" "linkFrom" "[I") ∈ xw_G := xw_c8 (List.mem_of_getElem? (i := 225) rfl) rfl
theorem wn_8_227 : (Jvm.Cond.laysFinal "CircuitCyclesModel" "CircuitCyclesModel" "linkTo" "[I") ∈ xw_G := xw_c8 (List.mem_of_getElem? (i := 227) rfl) rfl
theorem wn_8_229 : (Jvm.Cond.lays "CircuitCyclesModel" "CircuitCyclesModel" "asserts" "I") ∈ xw_G := xw_c8 (List.mem_of_getElem? (i := 229) rfl) rfl
theorem wn_8_231 : (Jvm.Cond.laysFinal "CircuitCyclesModel" "CircuitCyclesModel" "assertFrom" "[I") ∈ xw_G := xw_c8 (List.mem_of_getElem? (i := 231) rfl) rfl
theorem wn_8_233 : (Jvm.Cond.laysFinal "CircuitCyclesModel" "CircuitCyclesModel" "assertTo" "[I") ∈ xw_G := xw_c8 (List.mem_of_getElem? (i := 233) rfl) rfl
theorem wn_8_235 : (Jvm.Cond.lays "CircuitCyclesModel" "CircuitCyclesModel" "always" "I") ∈ xw_G := xw_c8 (List.mem_of_getElem? (i := 235) rfl) rfl
theorem wn_8_237 : (Jvm.Cond.laysFinal "CircuitCyclesModel" "CircuitCyclesModel" "alwaysFrom" "[I") ∈ xw_G := xw_c8 (List.mem_of_getElem? (i := 237) rfl) rfl
theorem wn_8_239 : (Jvm.Cond.laysFinal "CircuitCyclesModel" "CircuitCyclesModel" "alwaysTo" "[I") ∈ xw_G := xw_c8 (List.mem_of_getElem? (i := 239) rfl) rfl
theorem wn_9_1 : (Jvm.Cond.lays "CircuitCyclesModel" "CircuitCyclesModel" "code" "[I") ∈ xw_G := xw_c9 (List.mem_of_getElem? (i := 1) rfl) rfl
theorem wn_9_3 : (Jvm.Cond.lays "CircuitCyclesModel" "CircuitCyclesModel" "laid" "I") ∈ xw_G := xw_c9 (List.mem_of_getElem? (i := 3) rfl) rfl
theorem wn_9_5 : (Jvm.Cond.lays "CircuitCyclesModel" "CircuitCyclesModel" "numbers" "[J") ∈ xw_G := xw_c9 (List.mem_of_getElem? (i := 5) rfl) rfl
theorem wn_9_7 : (Jvm.Cond.lays "CircuitCyclesModel" "CircuitCyclesModel" "numberCount" "I") ∈ xw_G := xw_c9 (List.mem_of_getElem? (i := 7) rfl) rfl
theorem wn_9_9 : (Jvm.Cond.laysFinal "CircuitCyclesModel" "CircuitCyclesModel" "moduleCost" "[J") ∈ xw_G := xw_c9 (List.mem_of_getElem? (i := 9) rfl) rfl
theorem wn_9_11 : (Jvm.Cond.laysFinal "CircuitCyclesModel" "CircuitCyclesModel" "moduleInstances" "[J") ∈ xw_G := xw_c9 (List.mem_of_getElem? (i := 11) rfl) rfl
theorem wn_9_13 : (Jvm.Cond.laysFinal "CircuitCyclesModel" "CircuitCyclesModel" "moduleSignals" "[J") ∈ xw_G := xw_c9 (List.mem_of_getElem? (i := 13) rfl) rfl
theorem wn_9_15 : (Jvm.Cond.laysFinal "CircuitCyclesModel" "CircuitCyclesModel" "moduleBits" "[J") ∈ xw_G := xw_c9 (List.mem_of_getElem? (i := 15) rfl) rfl
theorem wn_9_17 : (Jvm.Cond.laysFinal "CircuitCyclesModel" "CircuitCyclesModel" "waitOp" "[I") ∈ xw_G := xw_c9 (List.mem_of_getElem? (i := 17) rfl) rfl
theorem wn_9_19 : (Jvm.Cond.laysFinal "CircuitCyclesModel" "CircuitCyclesModel" "waitAt" "[I") ∈ xw_G := xw_c9 (List.mem_of_getElem? (i := 19) rfl) rfl
theorem wn_9_21 : (Jvm.Cond.lays "CircuitCyclesModel" "CircuitCyclesModel" "waits" "I") ∈ xw_G := xw_c9 (List.mem_of_getElem? (i := 21) rfl) rfl
theorem wn_9_23 : (Jvm.Cond.laysFinal "CircuitCyclesModel" "CircuitCyclesModel" "widths" "[I") ∈ xw_G := xw_c9 (List.mem_of_getElem? (i := 23) rfl) rfl
theorem wn_9_25 : (Jvm.Cond.lays "CircuitCyclesModel" "CircuitCyclesModel" "widthCount" "I") ∈ xw_G := xw_c9 (List.mem_of_getElem? (i := 25) rfl) rfl
theorem wn_9_27 : (Jvm.Cond.lays "CircuitCyclesModel" "CircuitCyclesModel" "there" "Z") ∈ xw_G := xw_c9 (List.mem_of_getElem? (i := 27) rfl) rfl
theorem wn_9_29 : (Jvm.Cond.laysFinal "CircuitCyclesModel" "CircuitCyclesModel" "text" "[B") ∈ xw_G := xw_c9 (List.mem_of_getElem? (i := 29) rfl) rfl
theorem wn_9_31 : (Jvm.Cond.lays "CircuitCyclesModel" "CircuitCyclesModel" "instances" "I") ∈ xw_G := xw_c9 (List.mem_of_getElem? (i := 31) rfl) rfl
theorem wn_9_33 : (Jvm.Cond.laysFinal "CircuitCyclesModel" "CircuitCyclesModel" "instanceModule" "[I") ∈ xw_G := xw_c9 (List.mem_of_getElem? (i := 33) rfl) rfl
theorem wn_9_35 : (Jvm.Cond.laysFinal "CircuitCyclesModel" "CircuitCyclesModel" "instanceBase" "[I") ∈ xw_G := xw_c9 (List.mem_of_getElem? (i := 35) rfl) rfl
theorem wn_9_37 : (Jvm.Cond.laysFinal "CircuitCyclesModel" "CircuitCyclesModel" "instanceUp" "[I") ∈ xw_G := xw_c9 (List.mem_of_getElem? (i := 37) rfl) rfl
theorem wn_9_39 : (Jvm.Cond.laysFinal "CircuitCyclesModel" "CircuitCyclesModel" "instanceItem" "[I") ∈ xw_G := xw_c9 (List.mem_of_getElem? (i := 39) rfl) rfl
theorem wn_9_41 : (Jvm.Cond.laysFinal "CircuitCyclesModel" "CircuitCyclesModel" "stack" "[I") ∈ xw_G := xw_c9 (List.mem_of_getElem? (i := 41) rfl) rfl
theorem wn_9_43 : (Jvm.Cond.laysFinal "CircuitCyclesModel" "CircuitCyclesModel" "stackNext" "[I") ∈ xw_G := xw_c9 (List.mem_of_getElem? (i := 43) rfl) rfl
theorem wn_9_45 : (Jvm.Cond.lays "CircuitCyclesModel" "CircuitCyclesModel" "signals" "I") ∈ xw_G := xw_c9 (List.mem_of_getElem? (i := 45) rfl) rfl
theorem wn_9_47 : (Jvm.Cond.laysFinal "CircuitCyclesModel" "CircuitCyclesModel" "signalLocal" "[I") ∈ xw_G := xw_c9 (List.mem_of_getElem? (i := 47) rfl) rfl
theorem wn_9_49 : (Jvm.Cond.laysFinal "CircuitCyclesModel" "CircuitCyclesModel" "signalInstance" "[I") ∈ xw_G := xw_c9 (List.mem_of_getElem? (i := 49) rfl) rfl
theorem wn_9_51 : (Jvm.Cond.laysFinal "CircuitCyclesModel" "CircuitCyclesModel" "ruleKind" "[I") ∈ xw_G := xw_c9 (List.mem_of_getElem? (i := 51) rfl) rfl
theorem wn_9_53 : (Jvm.Cond.laysFinal "CircuitCyclesModel" "CircuitCyclesModel" "ruleFrom" "[I") ∈ xw_G := xw_c9 (List.mem_of_getElem? (i := 53) rfl) rfl
theorem wn_9_55 : (Jvm.Cond.laysFinal "CircuitCyclesModel" "CircuitCyclesModel" "ruleTo" "[I") ∈ xw_G := xw_c9 (List.mem_of_getElem? (i := 55) rfl) rfl
theorem wn_9_57 : (Jvm.Cond.laysFinal "CircuitCyclesModel" "CircuitCyclesModel" "ruleFor" "[I") ∈ xw_G := xw_c9 (List.mem_of_getElem? (i := 57) rfl) rfl
theorem wn_9_59 : (Jvm.Cond.laysFinal "CircuitCyclesModel" "CircuitCyclesModel" "order" "[I") ∈ xw_G := xw_c9 (List.mem_of_getElem? (i := 59) rfl) rfl
theorem wn_9_61 : (Jvm.Cond.lays "CircuitCyclesModel" "CircuitCyclesModel" "ordered" "I") ∈ xw_G := xw_c9 (List.mem_of_getElem? (i := 61) rfl) rfl
theorem wn_9_63 : (Jvm.Cond.laysFinal "CircuitCyclesModel" "CircuitCyclesModel" "ready" "[Z") ∈ xw_G := xw_c9 (List.mem_of_getElem? (i := 63) rfl) rfl
theorem wn_9_65 : (Jvm.Cond.laysFinal "CircuitCyclesModel" "CircuitCyclesModel" "met" "[Z") ∈ xw_G := xw_c9 (List.mem_of_getElem? (i := 65) rfl) rfl
theorem wn_9_67 : (Jvm.Cond.laysFinal "CircuitCyclesModel" "CircuitCyclesModel" "queue" "[I") ∈ xw_G := xw_c9 (List.mem_of_getElem? (i := 67) rfl) rfl
theorem wn_9_69 : (Jvm.Cond.lays "CircuitCyclesModel" "CircuitCyclesModel" "modulesThere" "I") ∈ xw_G := xw_c9 (List.mem_of_getElem? (i := 69) rfl) rfl
theorem wn_9_71 : (Jvm.Cond.lays "CircuitCyclesModel" "CircuitCyclesModel" "registerBits" "I") ∈ xw_G := xw_c9 (List.mem_of_getElem? (i := 71) rfl) rfl
theorem wn_9_73 : (Jvm.Cond.lays "CircuitCyclesModel" "CircuitCyclesModel" "inputBits" "I") ∈ xw_G := xw_c9 (List.mem_of_getElem? (i := 73) rfl) rfl
theorem wn_9_75 : (Jvm.Cond.lays "CircuitCyclesModel" "CircuitCyclesModel" "assertsThere" "I") ∈ xw_G := xw_c9 (List.mem_of_getElem? (i := 75) rfl) rfl
theorem wn_9_77 : (Jvm.Cond.lays "CircuitCyclesModel" "CircuitCyclesModel" "costThere" "J") ∈ xw_G := xw_c9 (List.mem_of_getElem? (i := 77) rfl) rfl
theorem wn_9_79 : (Jvm.Cond.laysFinal "CircuitCyclesModel" "CircuitCyclesModel" "values" "[J") ∈ xw_G := xw_c9 (List.mem_of_getElem? (i := 79) rfl) rfl
theorem wn_9_81 : (Jvm.Cond.laysFinal "CircuitCyclesModel" "CircuitCyclesModel" "nexts" "[J") ∈ xw_G := xw_c9 (List.mem_of_getElem? (i := 81) rfl) rfl
theorem wn_9_83 : (Jvm.Cond.laysFinal "CircuitCyclesModel" "CircuitCyclesModel" "registers" "[J") ∈ xw_G := xw_c9 (List.mem_of_getElem? (i := 83) rfl) rfl
theorem wn_9_85 : (Jvm.Cond.laysFinal "CircuitCyclesModel" "CircuitCyclesModel" "inputs" "[J") ∈ xw_G := xw_c9 (List.mem_of_getElem? (i := 85) rfl) rfl
theorem wn_9_87 : (Jvm.Cond.laysFinal "CircuitCyclesModel" "CircuitCyclesModel" "pile" "[J") ∈ xw_G := xw_c9 (List.mem_of_getElem? (i := 87) rfl) rfl
theorem wn_9_89 : (Jvm.Cond.lays "CircuitCyclesModel" "CircuitCyclesModel" "high" "I") ∈ xw_G := xw_c9 (List.mem_of_getElem? (i := 89) rfl) rfl
theorem wn_9_91 : (Jvm.Cond.lays "CircuitCyclesModel" "CircuitCyclesModel" "cycle" "I") ∈ xw_G := xw_c9 (List.mem_of_getElem? (i := 91) rfl) rfl
theorem wn_9_93 : (Jvm.Cond.lays "CircuitCyclesModel" "CircuitCyclesModel" "valueFits" "Z") ∈ xw_G := xw_c9 (List.mem_of_getElem? (i := 93) rfl) rfl
theorem wn_9_95 : (Jvm.Cond.lays "CircuitCyclesModel" "CircuitCyclesModel" "tapeSize" "I") ∈ xw_G := xw_c9 (List.mem_of_getElem? (i := 95) rfl) rfl
theorem wn_9_97 : (Jvm.Cond.lays "CircuitCyclesModel" "CircuitCyclesModel" "textSize" "I") ∈ xw_G := xw_c9 (List.mem_of_getElem? (i := 97) rfl) rfl
theorem wn_9_99 : (Jvm.Cond.laysFinal "CircuitCyclesModel" "CircuitCyclesModel" "src" "[B") ∈ xw_G := xw_c9 (List.mem_of_getElem? (i := 99) rfl) rfl
theorem wn_9_102 : (Jvm.Cond.arrayClass Jvm.ClassFile.FieldType.boolean) ∈ xw_G := xw_c9 (List.mem_of_getElem? (i := 102) rfl) rfl
theorem wn_9_103 : (Jvm.Cond.methodLink "CircuitCyclesLaw" (64 : Nat) ({ cls := "CircuitCyclesModel", name := "thrown", desc := "()I" } : Jvm.MethodName)) ∈ xw_G := xw_c9 (List.mem_of_getElem? (i := 103) rfl) rfl
theorem wn_9_104 : (Jvm.Cond.instanceMethod ({ cls := "CircuitCyclesModel", name := "thrown", desc := "()I" } : Jvm.MethodName)) ∈ xw_G := xw_c9 (List.mem_of_getElem? (i := 104) rfl) rfl
theorem wn_9_105 : (Jvm.Cond.selects "CircuitCyclesModel" ({ cls := "CircuitCyclesModel", name := "thrown", desc := "()I" } : Jvm.MethodName) ({ cls := "CircuitCyclesModel", name := "thrown", desc := "()I" } : Jvm.MethodName)) ∈ xw_G := xw_c9 (List.mem_of_getElem? (i := 105) rfl) rfl
theorem wn_9_106 : (Jvm.Cond.code ({ cls := "CircuitCyclesModel", name := "thrown", desc := "()I" } : Jvm.MethodName) prog_14_method_2_code (1 : Nat) (Option.some Jvm.ClassFile.FieldType.int)) ∈ xw_G := xw_c9 (List.mem_of_getElem? (i := 106) rfl) rfl
theorem wn_9_107 : (Jvm.Cond.methodLink "CircuitCyclesLaw" (74 : Nat) ({ cls := "CircuitCyclesModel", name := "read", desc := "()I" } : Jvm.MethodName)) ∈ xw_G := xw_c9 (List.mem_of_getElem? (i := 107) rfl) rfl
theorem wn_9_108 : (Jvm.Cond.instanceMethod ({ cls := "CircuitCyclesModel", name := "read", desc := "()I" } : Jvm.MethodName)) ∈ xw_G := xw_c9 (List.mem_of_getElem? (i := 108) rfl) rfl
theorem wn_9_109 : (Jvm.Cond.selects "CircuitCyclesModel" ({ cls := "CircuitCyclesModel", name := "read", desc := "()I" } : Jvm.MethodName) ({ cls := "CircuitCyclesModel", name := "read", desc := "()I" } : Jvm.MethodName)) ∈ xw_G := xw_c9 (List.mem_of_getElem? (i := 109) rfl) rfl
theorem wn_9_110 : (Jvm.Cond.code ({ cls := "CircuitCyclesModel", name := "read", desc := "()I" } : Jvm.MethodName) prog_14_method_83_code (3 : Nat) (Option.some Jvm.ClassFile.FieldType.int)) ∈ xw_G := xw_c9 (List.mem_of_getElem? (i := 110) rfl) rfl
theorem wn_9_111 : (Jvm.Cond.methodLink "CircuitCyclesModel" (539 : Nat) ({ cls := "CircuitCyclesModel", name := "readSource", desc := "()V" } : Jvm.MethodName)) ∈ xw_G := xw_c9 (List.mem_of_getElem? (i := 111) rfl) rfl
theorem wn_9_113 : (Jvm.Cond.instanceMethod ({ cls := "CircuitCyclesModel", name := "readSource", desc := "()V" } : Jvm.MethodName)) ∈ xw_G := xw_c9 (List.mem_of_getElem? (i := 113) rfl) rfl
theorem wn_9_114 : (Jvm.Cond.code ({ cls := "CircuitCyclesModel", name := "readSource", desc := "()V" } : Jvm.MethodName) prog_14_method_82_code (1 : Nat) (Option.none : Option Jvm.ClassFile.FieldType)) ∈ xw_G := xw_c9 (List.mem_of_getElem? (i := 114) rfl) rfl
theorem wn_9_115 : (Jvm.Cond.methodLink "CircuitCyclesModel" (518 : Nat) ({ cls := "CircuitCyclesModel", name := "cutTokens", desc := "()V" } : Jvm.MethodName)) ∈ xw_G := xw_c9 (List.mem_of_getElem? (i := 115) rfl) rfl
theorem wn_9_117 : (Jvm.Cond.instanceMethod ({ cls := "CircuitCyclesModel", name := "cutTokens", desc := "()V" } : Jvm.MethodName)) ∈ xw_G := xw_c9 (List.mem_of_getElem? (i := 117) rfl) rfl
theorem wn_9_118 : (Jvm.Cond.code ({ cls := "CircuitCyclesModel", name := "cutTokens", desc := "()V" } : Jvm.MethodName) prog_14_method_16_code (4 : Nat) (Option.none : Option Jvm.ClassFile.FieldType)) ∈ xw_G := xw_c9 (List.mem_of_getElem? (i := 118) rfl) rfl
theorem wn_9_119 : (Jvm.Cond.methodLink "CircuitCyclesModel" (234 : Nat) ({ cls := "CircuitCyclesModel", name := "skip", desc := "(I)I" } : Jvm.MethodName)) ∈ xw_G := xw_c9 (List.mem_of_getElem? (i := 119) rfl) rfl
theorem wn_9_121 : (Jvm.Cond.instanceMethod ({ cls := "CircuitCyclesModel", name := "skip", desc := "(I)I" } : Jvm.MethodName)) ∈ xw_G := xw_c9 (List.mem_of_getElem? (i := 121) rfl) rfl
theorem wn_9_122 : (Jvm.Cond.code ({ cls := "CircuitCyclesModel", name := "skip", desc := "(I)I" } : Jvm.MethodName) prog_14_method_7_code (5 : Nat) (Option.some Jvm.ClassFile.FieldType.int)) ∈ xw_G := xw_c9 (List.mem_of_getElem? (i := 122) rfl) rfl
theorem wn_9_123 : (Jvm.Cond.methodLink "CircuitCyclesModel" (206 : Nat) ({ cls := "CircuitCyclesModel", name := "at", desc := "(I)I" } : Jvm.MethodName)) ∈ xw_G := xw_c9 (List.mem_of_getElem? (i := 123) rfl) rfl
theorem wn_9_125 : (Jvm.Cond.instanceMethod ({ cls := "CircuitCyclesModel", name := "at", desc := "(I)I" } : Jvm.MethodName)) ∈ xw_G := xw_c9 (List.mem_of_getElem? (i := 125) rfl) rfl
theorem wn_9_126 : (Jvm.Cond.code ({ cls := "CircuitCyclesModel", name := "at", desc := "(I)I" } : Jvm.MethodName) prog_14_method_3_code (2 : Nat) (Option.some Jvm.ClassFile.FieldType.int)) ∈ xw_G := xw_c9 (List.mem_of_getElem? (i := 126) rfl) rfl
theorem wn_9_127 : (Jvm.Cond.methodLink "CircuitCyclesModel" (237 : Nat) ({ cls := "CircuitCyclesModel", name := "token", desc := "(III)V" } : Jvm.MethodName)) ∈ xw_G := xw_c9 (List.mem_of_getElem? (i := 127) rfl) rfl
theorem wn_9_129 : (Jvm.Cond.instanceMethod ({ cls := "CircuitCyclesModel", name := "token", desc := "(III)V" } : Jvm.MethodName)) ∈ xw_G := xw_c9 (List.mem_of_getElem? (i := 129) rfl) rfl
theorem wn_9_130 : (Jvm.Cond.code ({ cls := "CircuitCyclesModel", name := "token", desc := "(III)V" } : Jvm.MethodName) prog_14_method_15_code (4 : Nat) (Option.none : Option Jvm.ClassFile.FieldType)) ∈ xw_G := xw_c9 (List.mem_of_getElem? (i := 130) rfl) rfl
theorem wn_9_169 : (Jvm.Cond.methodLink "CircuitCyclesModel" (521 : Nat) ({ cls := "CircuitCyclesModel", name := "designGrammar", desc := "()V" } : Jvm.MethodName)) ∈ xw_G := xw_c9 (List.mem_of_getElem? (i := 169) rfl) rfl
theorem wn_9_171 : (Jvm.Cond.instanceMethod ({ cls := "CircuitCyclesModel", name := "designGrammar", desc := "()V" } : Jvm.MethodName)) ∈ xw_G := xw_c9 (List.mem_of_getElem? (i := 171) rfl) rfl
theorem wn_9_172 : (Jvm.Cond.code ({ cls := "CircuitCyclesModel", name := "designGrammar", desc := "()V" } : Jvm.MethodName) prog_14_method_39_code (2 : Nat) (Option.none : Option Jvm.ClassFile.FieldType)) ∈ xw_G := xw_c9 (List.mem_of_getElem? (i := 172) rfl) rfl
theorem wn_9_173 : (Jvm.Cond.methodLink "CircuitCyclesModel" (279 : Nat) ({ cls := "CircuitCyclesModel", name := "take", desc := "(I)V" } : Jvm.MethodName)) ∈ xw_G := xw_c9 (List.mem_of_getElem? (i := 173) rfl) rfl
theorem wn_9_175 : (Jvm.Cond.instanceMethod ({ cls := "CircuitCyclesModel", name := "take", desc := "(I)V" } : Jvm.MethodName)) ∈ xw_G := xw_c9 (List.mem_of_getElem? (i := 175) rfl) rfl
theorem wn_9_176 : (Jvm.Cond.code ({ cls := "CircuitCyclesModel", name := "take", desc := "(I)V" } : Jvm.MethodName) prog_14_method_23_code (2 : Nat) (Option.none : Option Jvm.ClassFile.FieldType)) ∈ xw_G := xw_c9 (List.mem_of_getElem? (i := 176) rfl) rfl
theorem wn_9_177 : (Jvm.Cond.methodLink "CircuitCyclesModel" (270 : Nat) ({ cls := "CircuitCyclesModel", name := "no", desc := "()V" } : Jvm.MethodName)) ∈ xw_G := xw_c9 (List.mem_of_getElem? (i := 177) rfl) rfl
theorem wn_9_179 : (Jvm.Cond.instanceMethod ({ cls := "CircuitCyclesModel", name := "no", desc := "()V" } : Jvm.MethodName)) ∈ xw_G := xw_c9 (List.mem_of_getElem? (i := 179) rfl) rfl
theorem wn_9_180 : (Jvm.Cond.code ({ cls := "CircuitCyclesModel", name := "no", desc := "()V" } : Jvm.MethodName) prog_14_method_22_code (1 : Nat) (Option.none : Option Jvm.ClassFile.FieldType)) ∈ xw_G := xw_c9 (List.mem_of_getElem? (i := 180) rfl) rfl
theorem wn_9_181 : (Jvm.Cond.methodLink "CircuitCyclesModel" (266 : Nat) ({ cls := "CircuitCyclesModel", name := "fail", desc := "(II)V" } : Jvm.MethodName)) ∈ xw_G := xw_c9 (List.mem_of_getElem? (i := 181) rfl) rfl
theorem wn_9_183 : (Jvm.Cond.instanceMethod ({ cls := "CircuitCyclesModel", name := "fail", desc := "(II)V" } : Jvm.MethodName)) ∈ xw_G := xw_c9 (List.mem_of_getElem? (i := 183) rfl) rfl
theorem wn_9_184 : (Jvm.Cond.code ({ cls := "CircuitCyclesModel", name := "fail", desc := "(II)V" } : Jvm.MethodName) prog_14_method_19_code (3 : Nat) (Option.none : Option Jvm.ClassFile.FieldType)) ∈ xw_G := xw_c9 (List.mem_of_getElem? (i := 184) rfl) rfl
theorem wn_9_185 : (Jvm.Cond.methodLink "CircuitCyclesModel" (293 : Nat) ({ cls := "CircuitCyclesModel", name := "open", desc := "(I)V" } : Jvm.MethodName)) ∈ xw_G := xw_c9 (List.mem_of_getElem? (i := 185) rfl) rfl
theorem wn_9_187 : (Jvm.Cond.instanceMethod ({ cls := "CircuitCyclesModel", name := "open", desc := "(I)V" } : Jvm.MethodName)) ∈ xw_G := xw_c9 (List.mem_of_getElem? (i := 187) rfl) rfl
theorem wn_9_188 : (Jvm.Cond.code ({ cls := "CircuitCyclesModel", name := "open", desc := "(I)V" } : Jvm.MethodName) prog_14_method_24_code (2 : Nat) (Option.none : Option Jvm.ClassFile.FieldType)) ∈ xw_G := xw_c9 (List.mem_of_getElem? (i := 188) rfl) rfl
theorem wn_9_189 : (Jvm.Cond.methodLink "CircuitCyclesModel" (273 : Nat) ({ cls := "CircuitCyclesModel", name := "is", desc := "(I)Z" } : Jvm.MethodName)) ∈ xw_G := xw_c9 (List.mem_of_getElem? (i := 189) rfl) rfl
theorem wn_9_191 : (Jvm.Cond.instanceMethod ({ cls := "CircuitCyclesModel", name := "is", desc := "(I)Z" } : Jvm.MethodName)) ∈ xw_G := xw_c9 (List.mem_of_getElem? (i := 191) rfl) rfl
theorem wn_9_192 : (Jvm.Cond.code ({ cls := "CircuitCyclesModel", name := "is", desc := "(I)Z" } : Jvm.MethodName) prog_14_method_21_code (2 : Nat) (Option.some Jvm.ClassFile.FieldType.boolean)) ∈ xw_G := xw_c9 (List.mem_of_getElem? (i := 192) rfl) rfl
theorem wn_9_201 : (Jvm.Cond.methodLink "CircuitCyclesModel" (305 : Nat) ({ cls := "CircuitCyclesModel", name := "shut", desc := "(I)V" } : Jvm.MethodName)) ∈ xw_G := xw_c9 (List.mem_of_getElem? (i := 201) rfl) rfl
theorem wn_9_203 : (Jvm.Cond.instanceMethod ({ cls := "CircuitCyclesModel", name := "shut", desc := "(I)V" } : Jvm.MethodName)) ∈ xw_G := xw_c9 (List.mem_of_getElem? (i := 203) rfl) rfl
theorem wn_9_204 : (Jvm.Cond.code ({ cls := "CircuitCyclesModel", name := "shut", desc := "(I)V" } : Jvm.MethodName) prog_14_method_25_code (2 : Nat) (Option.none : Option Jvm.ClassFile.FieldType)) ∈ xw_G := xw_c9 (List.mem_of_getElem? (i := 204) rfl) rfl
theorem wn_10_234 : (Jvm.Cond.methodLink "CircuitCyclesLaw" (63 : Nat) ({ cls := "CircuitCyclesModel", name := "feed", desc := "(IIIII)I" } : Jvm.MethodName)) ∈ xw_G := xw_c10 (List.mem_of_getElem? (i := 234) rfl) rfl
theorem wn_10_235 : (Jvm.Cond.instanceMethod ({ cls := "CircuitCyclesModel", name := "feed", desc := "(IIIII)I" } : Jvm.MethodName)) ∈ xw_G := xw_c10 (List.mem_of_getElem? (i := 235) rfl) rfl
theorem wn_10_236 : (Jvm.Cond.selects "CircuitCyclesModel" ({ cls := "CircuitCyclesModel", name := "feed", desc := "(IIIII)I" } : Jvm.MethodName) ({ cls := "CircuitCyclesModel", name := "feed", desc := "(IIIII)I" } : Jvm.MethodName)) ∈ xw_G := xw_c10 (List.mem_of_getElem? (i := 236) rfl) rfl
theorem wn_10_237 : (Jvm.Cond.code ({ cls := "CircuitCyclesModel", name := "feed", desc := "(IIIII)I" } : Jvm.MethodName) prog_14_method_97_code (8 : Nat) (Option.some Jvm.ClassFile.FieldType.int)) ∈ xw_G := xw_c10 (List.mem_of_getElem? (i := 237) rfl) rfl
theorem wn_10_238 : (Jvm.Cond.methodLink "CircuitCyclesLaw" (70 : Nat) ({ cls := "CircuitCyclesModel", name := "end", desc := "(I)V" } : Jvm.MethodName)) ∈ xw_G := xw_c10 (List.mem_of_getElem? (i := 238) rfl) rfl
theorem wn_10_239 : (Jvm.Cond.instanceMethod ({ cls := "CircuitCyclesModel", name := "end", desc := "(I)V" } : Jvm.MethodName)) ∈ xw_G := xw_c10 (List.mem_of_getElem? (i := 239) rfl) rfl
theorem wn_11_0 : (Jvm.Cond.selects "CircuitCyclesModel" ({ cls := "CircuitCyclesModel", name := "end", desc := "(I)V" } : Jvm.MethodName) ({ cls := "CircuitCyclesModel", name := "end", desc := "(I)V" } : Jvm.MethodName)) ∈ xw_G := xw_c11 (List.mem_of_getElem? (i := 0) rfl) rfl
theorem wn_11_1 : (Jvm.Cond.code ({ cls := "CircuitCyclesModel", name := "end", desc := "(I)V" } : Jvm.MethodName) prog_14_method_98_code (2 : Nat) (Option.none : Option Jvm.ClassFile.FieldType)) ∈ xw_G := xw_c11 (List.mem_of_getElem? (i := 1) rfl) rfl
theorem wn_11_2 : (Jvm.Cond.methodLink "CircuitCyclesLaw" (78 : Nat) ({ cls := "CircuitCyclesModel", name := "fault", desc := "()I" } : Jvm.MethodName)) ∈ xw_G := xw_c11 (List.mem_of_getElem? (i := 2) rfl) rfl
theorem wn_11_3 : (Jvm.Cond.instanceMethod ({ cls := "CircuitCyclesModel", name := "fault", desc := "()I" } : Jvm.MethodName)) ∈ xw_G := xw_c11 (List.mem_of_getElem? (i := 3) rfl) rfl
theorem wn_11_4 : (Jvm.Cond.selects "CircuitCyclesModel" ({ cls := "CircuitCyclesModel", name := "fault", desc := "()I" } : Jvm.MethodName) ({ cls := "CircuitCyclesModel", name := "fault", desc := "()I" } : Jvm.MethodName)) ∈ xw_G := xw_c11 (List.mem_of_getElem? (i := 4) rfl) rfl
theorem wn_11_5 : (Jvm.Cond.code ({ cls := "CircuitCyclesModel", name := "fault", desc := "()I" } : Jvm.MethodName) prog_14_method_99_code (1 : Nat) (Option.some Jvm.ClassFile.FieldType.int)) ∈ xw_G := xw_c11 (List.mem_of_getElem? (i := 5) rfl) rfl
theorem wn_11_6 : (Jvm.Cond.methodLink "CircuitCyclesLaw" (82 : Nat) ({ cls := "CircuitCyclesModel", name := "count", desc := "(I)I" } : Jvm.MethodName)) ∈ xw_G := xw_c11 (List.mem_of_getElem? (i := 6) rfl) rfl
theorem wn_11_7 : (Jvm.Cond.instanceMethod ({ cls := "CircuitCyclesModel", name := "count", desc := "(I)I" } : Jvm.MethodName)) ∈ xw_G := xw_c11 (List.mem_of_getElem? (i := 7) rfl) rfl
theorem wn_11_8 : (Jvm.Cond.selects "CircuitCyclesModel" ({ cls := "CircuitCyclesModel", name := "count", desc := "(I)I" } : Jvm.MethodName) ({ cls := "CircuitCyclesModel", name := "count", desc := "(I)I" } : Jvm.MethodName)) ∈ xw_G := xw_c11 (List.mem_of_getElem? (i := 8) rfl) rfl
theorem wn_11_9 : (Jvm.Cond.code ({ cls := "CircuitCyclesModel", name := "count", desc := "(I)I" } : Jvm.MethodName) prog_14_method_100_code (2 : Nat) (Option.some Jvm.ClassFile.FieldType.int)) ∈ xw_G := xw_c11 (List.mem_of_getElem? (i := 9) rfl) rfl
theorem wn_11_10 : (Jvm.Cond.methodLink "CircuitCyclesLaw" (86 : Nat) ({ cls := "CircuitCyclesModel", name := "find", desc := "()I" } : Jvm.MethodName)) ∈ xw_G := xw_c11 (List.mem_of_getElem? (i := 10) rfl) rfl
theorem wn_11_11 : (Jvm.Cond.instanceMethod ({ cls := "CircuitCyclesModel", name := "find", desc := "()I" } : Jvm.MethodName)) ∈ xw_G := xw_c11 (List.mem_of_getElem? (i := 11) rfl) rfl
theorem wn_11_12 : (Jvm.Cond.selects "CircuitCyclesModel" ({ cls := "CircuitCyclesModel", name := "find", desc := "()I" } : Jvm.MethodName) ({ cls := "CircuitCyclesModel", name := "find", desc := "()I" } : Jvm.MethodName)) ∈ xw_G := xw_c11 (List.mem_of_getElem? (i := 12) rfl) rfl
theorem wn_11_13 : (Jvm.Cond.code ({ cls := "CircuitCyclesModel", name := "find", desc := "()I" } : Jvm.MethodName) prog_14_method_103_code (3 : Nat) (Option.some Jvm.ClassFile.FieldType.int)) ∈ xw_G := xw_c11 (List.mem_of_getElem? (i := 13) rfl) rfl
theorem wn_11_22 : (Jvm.Cond.methodLink "CircuitCyclesLaw" (90 : Nat) ({ cls := "CircuitCyclesModel", name := "signal", desc := "(II)I" } : Jvm.MethodName)) ∈ xw_G := xw_c11 (List.mem_of_getElem? (i := 22) rfl) rfl
theorem wn_11_23 : (Jvm.Cond.instanceMethod ({ cls := "CircuitCyclesModel", name := "signal", desc := "(II)I" } : Jvm.MethodName)) ∈ xw_G := xw_c11 (List.mem_of_getElem? (i := 23) rfl) rfl
theorem wn_11_24 : (Jvm.Cond.selects "CircuitCyclesModel" ({ cls := "CircuitCyclesModel", name := "signal", desc := "(II)I" } : Jvm.MethodName) ({ cls := "CircuitCyclesModel", name := "signal", desc := "(II)I" } : Jvm.MethodName)) ∈ xw_G := xw_c11 (List.mem_of_getElem? (i := 24) rfl) rfl
theorem wn_11_25 : (Jvm.Cond.code ({ cls := "CircuitCyclesModel", name := "signal", desc := "(II)I" } : Jvm.MethodName) prog_14_method_105_code (3 : Nat) (Option.some Jvm.ClassFile.FieldType.int)) ∈ xw_G := xw_c11 (List.mem_of_getElem? (i := 25) rfl) rfl
theorem wn_11_34 : (Jvm.Cond.methodLink "CircuitCyclesLaw" (94 : Nat) ({ cls := "CircuitCyclesModel", name := "reset", desc := "()V" } : Jvm.MethodName)) ∈ xw_G := xw_c11 (List.mem_of_getElem? (i := 34) rfl) rfl
theorem wn_11_35 : (Jvm.Cond.instanceMethod ({ cls := "CircuitCyclesModel", name := "reset", desc := "()V" } : Jvm.MethodName)) ∈ xw_G := xw_c11 (List.mem_of_getElem? (i := 35) rfl) rfl
theorem wn_11_36 : (Jvm.Cond.selects "CircuitCyclesModel" ({ cls := "CircuitCyclesModel", name := "reset", desc := "()V" } : Jvm.MethodName) ({ cls := "CircuitCyclesModel", name := "reset", desc := "()V" } : Jvm.MethodName)) ∈ xw_G := xw_c11 (List.mem_of_getElem? (i := 36) rfl) rfl
theorem wn_11_37 : (Jvm.Cond.code ({ cls := "CircuitCyclesModel", name := "reset", desc := "()V" } : Jvm.MethodName) prog_14_method_106_code (1 : Nat) (Option.none : Option Jvm.ClassFile.FieldType)) ∈ xw_G := xw_c11 (List.mem_of_getElem? (i := 37) rfl) rfl
theorem wn_11_38 : (Jvm.Cond.methodLink "CircuitCyclesLaw" (98 : Nat) ({ cls := "CircuitCyclesModel", name := "set", desc := "(II)V" } : Jvm.MethodName)) ∈ xw_G := xw_c11 (List.mem_of_getElem? (i := 38) rfl) rfl
theorem wn_11_39 : (Jvm.Cond.instanceMethod ({ cls := "CircuitCyclesModel", name := "set", desc := "(II)V" } : Jvm.MethodName)) ∈ xw_G := xw_c11 (List.mem_of_getElem? (i := 39) rfl) rfl
theorem wn_11_40 : (Jvm.Cond.selects "CircuitCyclesModel" ({ cls := "CircuitCyclesModel", name := "set", desc := "(II)V" } : Jvm.MethodName) ({ cls := "CircuitCyclesModel", name := "set", desc := "(II)V" } : Jvm.MethodName)) ∈ xw_G := xw_c11 (List.mem_of_getElem? (i := 40) rfl) rfl
theorem wn_11_41 : (Jvm.Cond.code ({ cls := "CircuitCyclesModel", name := "set", desc := "(II)V" } : Jvm.MethodName) prog_14_method_107_code (3 : Nat) (Option.none : Option Jvm.ClassFile.FieldType)) ∈ xw_G := xw_c11 (List.mem_of_getElem? (i := 41) rfl) rfl
theorem wn_11_42 : (Jvm.Cond.methodLink "CircuitCyclesLaw" (101 : Nat) ({ cls := "CircuitCyclesModel", name := "step", desc := "()I" } : Jvm.MethodName)) ∈ xw_G := xw_c11 (List.mem_of_getElem? (i := 42) rfl) rfl
theorem wn_11_43 : (Jvm.Cond.instanceMethod ({ cls := "CircuitCyclesModel", name := "step", desc := "()I" } : Jvm.MethodName)) ∈ xw_G := xw_c11 (List.mem_of_getElem? (i := 43) rfl) rfl
theorem wn_11_44 : (Jvm.Cond.selects "CircuitCyclesModel" ({ cls := "CircuitCyclesModel", name := "step", desc := "()I" } : Jvm.MethodName) ({ cls := "CircuitCyclesModel", name := "step", desc := "()I" } : Jvm.MethodName)) ∈ xw_G := xw_c11 (List.mem_of_getElem? (i := 44) rfl) rfl
theorem wn_11_45 : (Jvm.Cond.code ({ cls := "CircuitCyclesModel", name := "step", desc := "()I" } : Jvm.MethodName) prog_14_method_108_code (2 : Nat) (Option.some Jvm.ClassFile.FieldType.int)) ∈ xw_G := xw_c11 (List.mem_of_getElem? (i := 45) rfl) rfl
theorem wn_11_50 : (Jvm.Cond.methodLink "CircuitCyclesLaw" (104 : Nat) ({ cls := "CircuitCyclesModel", name := "value", desc := "(I)J" } : Jvm.MethodName)) ∈ xw_G := xw_c11 (List.mem_of_getElem? (i := 50) rfl) rfl
theorem wn_11_51 : (Jvm.Cond.instanceMethod ({ cls := "CircuitCyclesModel", name := "value", desc := "(I)J" } : Jvm.MethodName)) ∈ xw_G := xw_c11 (List.mem_of_getElem? (i := 51) rfl) rfl
theorem wn_11_52 : (Jvm.Cond.selects "CircuitCyclesModel" ({ cls := "CircuitCyclesModel", name := "value", desc := "(I)J" } : Jvm.MethodName) ({ cls := "CircuitCyclesModel", name := "value", desc := "(I)J" } : Jvm.MethodName)) ∈ xw_G := xw_c11 (List.mem_of_getElem? (i := 52) rfl) rfl
theorem wn_11_53 : (Jvm.Cond.code ({ cls := "CircuitCyclesModel", name := "value", desc := "(I)J" } : Jvm.MethodName) prog_14_method_109_code (2 : Nat) (Option.some Jvm.ClassFile.FieldType.long)) ∈ xw_G := xw_c11 (List.mem_of_getElem? (i := 53) rfl) rfl
theorem wn_11_54 : (Jvm.Cond.methodLink "CircuitCyclesLaw" (107 : Nat) ({ cls := "CircuitCyclesModel", name := "failing", desc := "()I" } : Jvm.MethodName)) ∈ xw_G := xw_c11 (List.mem_of_getElem? (i := 54) rfl) rfl
theorem wn_11_55 : (Jvm.Cond.instanceMethod ({ cls := "CircuitCyclesModel", name := "failing", desc := "()I" } : Jvm.MethodName)) ∈ xw_G := xw_c11 (List.mem_of_getElem? (i := 55) rfl) rfl
theorem wn_11_56 : (Jvm.Cond.selects "CircuitCyclesModel" ({ cls := "CircuitCyclesModel", name := "failing", desc := "()I" } : Jvm.MethodName) ({ cls := "CircuitCyclesModel", name := "failing", desc := "()I" } : Jvm.MethodName)) ∈ xw_G := xw_c11 (List.mem_of_getElem? (i := 56) rfl) rfl
theorem wn_11_57 : (Jvm.Cond.code ({ cls := "CircuitCyclesModel", name := "failing", desc := "()I" } : Jvm.MethodName) prog_14_method_110_code (1 : Nat) (Option.some Jvm.ClassFile.FieldType.int)) ∈ xw_G := xw_c11 (List.mem_of_getElem? (i := 57) rfl) rfl
theorem in_M : ∀ w ∈ u_ws rn_M fn_M 91, w ∈ xw_G := by
  show ∀ w ∈ ([(Jvm.Cond.lays "CircuitCyclesModel" "CircuitCyclesModel" "thrown" "I"), (Jvm.Cond.laysFinal "CircuitCyclesModel" "CircuitCyclesModel" "tape" "[B"), (Jvm.Cond.lays "CircuitCyclesModel" "CircuitCyclesModel" "size" "I"), (Jvm.Cond.lays "CircuitCyclesModel" "CircuitCyclesModel" "fault" "I"), (Jvm.Cond.laysFinal "CircuitCyclesModel" "CircuitCyclesModel" "kinds" "[I"), (Jvm.Cond.laysFinal "CircuitCyclesModel" "CircuitCyclesModel" "begins" "[I"), (Jvm.Cond.laysFinal "CircuitCyclesModel" "CircuitCyclesModel" "ends" "[I"), (Jvm.Cond.lays "CircuitCyclesModel" "CircuitCyclesModel" "tokens" "I"), (Jvm.Cond.lays "CircuitCyclesModel" "CircuitCyclesModel" "t" "I"), (Jvm.Cond.lays "CircuitCyclesModel" "CircuitCyclesModel" "wrong" "I"), (Jvm.Cond.lays "CircuitCyclesModel" "CircuitCyclesModel" "wrongAt" "I"), (Jvm.Cond.lays "CircuitCyclesModel" "CircuitCyclesModel" "deep" "I"), (Jvm.Cond.lays "CircuitCyclesModel" "CircuitCyclesModel" "modules" "I"), (Jvm.Cond.laysFinal "CircuitCyclesModel" "CircuitCyclesModel" "moduleName" "[I"), (Jvm.Cond.laysFinal "CircuitCyclesModel" "CircuitCyclesModel" "firstSignal" "[I"), (Jvm.Cond.laysFinal "CircuitCyclesModel" "CircuitCyclesModel" "firstInstance" "[I"), (Jvm.Cond.laysFinal "CircuitCyclesModel" "CircuitCyclesModel" "firstAssert" "[I"), (Jvm.Cond.laysFinal "CircuitCyclesModel" "CircuitCyclesModel" "firstAlways" "[I"), (Jvm.Cond.lays "CircuitCyclesModel" "CircuitCyclesModel" "locals" "I"), (Jvm.Cond.laysFinal "CircuitCyclesModel" "CircuitCyclesModel" "localName" "[I"), (Jvm.Cond.laysFinal "CircuitCyclesModel" "CircuitCyclesModel" "localWidth" "[I"), (Jvm.Cond.laysFinal "CircuitCyclesModel" "CircuitCyclesModel" "localKind" "[I"), (Jvm.Cond.laysFinal "CircuitCyclesModel" "CircuitCyclesModel" "localFirst" "[J"), (Jvm.Cond.laysFinal "CircuitCyclesModel" "CircuitCyclesModel" "driverKind" "[I"), (Jvm.Cond.laysFinal "CircuitCyclesModel" "CircuitCyclesModel" "driverFrom" "[I"), (Jvm.Cond.laysFinal "CircuitCyclesModel" "CircuitCyclesModel" "driverTo" "[I"), (Jvm.Cond.laysFinal "CircuitCyclesModel" "CircuitCyclesModel" "setIn" "[I"), (Jvm.Cond.lays "CircuitCyclesModel" "CircuitCyclesModel" "items" "I"), (Jvm.Cond.laysFinal "CircuitCyclesModel" "CircuitCyclesModel" "itemModule" "[I"), (Jvm.Cond.laysFinal "CircuitCyclesModel" "CircuitCyclesModel" "itemName" "[I"), (Jvm.Cond.laysFinal "CircuitCyclesModel" "CircuitCyclesModel" "firstLink" "[I"), (Jvm.Cond.lays "CircuitCyclesModel" "CircuitCyclesModel" "links" "I"), (Jvm.Cond.laysFinal "CircuitCyclesModel" "CircuitCyclesModel" "linkPort" "[I"), (Jvm.Cond.laysFinal "CircuitCyclesModel" "CircuitCyclesModel" "linkFrom" "[I"), (Jvm.Cond.laysFinal "CircuitCyclesModel" "CircuitCyclesModel" "linkTo" "[I"), (Jvm.Cond.lays "CircuitCyclesModel" "CircuitCyclesModel" "asserts" "I"), (Jvm.Cond.laysFinal "CircuitCyclesModel" "CircuitCyclesModel" "assertFrom" "[I"), (Jvm.Cond.laysFinal "CircuitCyclesModel" "CircuitCyclesModel" "assertTo" "[I"), (Jvm.Cond.lays "CircuitCyclesModel" "CircuitCyclesModel" "always" "I"), (Jvm.Cond.laysFinal "CircuitCyclesModel" "CircuitCyclesModel" "alwaysFrom" "[I"), (Jvm.Cond.laysFinal "CircuitCyclesModel" "CircuitCyclesModel" "alwaysTo" "[I"), (Jvm.Cond.lays "CircuitCyclesModel" "CircuitCyclesModel" "code" "[I"), (Jvm.Cond.lays "CircuitCyclesModel" "CircuitCyclesModel" "laid" "I"), (Jvm.Cond.lays "CircuitCyclesModel" "CircuitCyclesModel" "numbers" "[J"), (Jvm.Cond.lays "CircuitCyclesModel" "CircuitCyclesModel" "numberCount" "I"), (Jvm.Cond.laysFinal "CircuitCyclesModel" "CircuitCyclesModel" "moduleCost" "[J"), (Jvm.Cond.laysFinal "CircuitCyclesModel" "CircuitCyclesModel" "moduleInstances" "[J"), (Jvm.Cond.laysFinal "CircuitCyclesModel" "CircuitCyclesModel" "moduleSignals" "[J"), (Jvm.Cond.laysFinal "CircuitCyclesModel" "CircuitCyclesModel" "moduleBits" "[J"), (Jvm.Cond.laysFinal "CircuitCyclesModel" "CircuitCyclesModel" "waitOp" "[I"), (Jvm.Cond.laysFinal "CircuitCyclesModel" "CircuitCyclesModel" "waitAt" "[I"), (Jvm.Cond.lays "CircuitCyclesModel" "CircuitCyclesModel" "waits" "I"), (Jvm.Cond.laysFinal "CircuitCyclesModel" "CircuitCyclesModel" "widths" "[I"), (Jvm.Cond.lays "CircuitCyclesModel" "CircuitCyclesModel" "widthCount" "I"), (Jvm.Cond.lays "CircuitCyclesModel" "CircuitCyclesModel" "there" "Z"), (Jvm.Cond.laysFinal "CircuitCyclesModel" "CircuitCyclesModel" "text" "[B"), (Jvm.Cond.lays "CircuitCyclesModel" "CircuitCyclesModel" "instances" "I"), (Jvm.Cond.laysFinal "CircuitCyclesModel" "CircuitCyclesModel" "instanceModule" "[I"), (Jvm.Cond.laysFinal "CircuitCyclesModel" "CircuitCyclesModel" "instanceBase" "[I"), (Jvm.Cond.laysFinal "CircuitCyclesModel" "CircuitCyclesModel" "instanceUp" "[I"), (Jvm.Cond.laysFinal "CircuitCyclesModel" "CircuitCyclesModel" "instanceItem" "[I"), (Jvm.Cond.laysFinal "CircuitCyclesModel" "CircuitCyclesModel" "stack" "[I"), (Jvm.Cond.laysFinal "CircuitCyclesModel" "CircuitCyclesModel" "stackNext" "[I"), (Jvm.Cond.lays "CircuitCyclesModel" "CircuitCyclesModel" "signals" "I"), (Jvm.Cond.laysFinal "CircuitCyclesModel" "CircuitCyclesModel" "signalLocal" "[I"), (Jvm.Cond.laysFinal "CircuitCyclesModel" "CircuitCyclesModel" "signalInstance" "[I"), (Jvm.Cond.laysFinal "CircuitCyclesModel" "CircuitCyclesModel" "ruleKind" "[I"), (Jvm.Cond.laysFinal "CircuitCyclesModel" "CircuitCyclesModel" "ruleFrom" "[I"), (Jvm.Cond.laysFinal "CircuitCyclesModel" "CircuitCyclesModel" "ruleTo" "[I"), (Jvm.Cond.laysFinal "CircuitCyclesModel" "CircuitCyclesModel" "ruleFor" "[I"), (Jvm.Cond.laysFinal "CircuitCyclesModel" "CircuitCyclesModel" "order" "[I"), (Jvm.Cond.lays "CircuitCyclesModel" "CircuitCyclesModel" "ordered" "I"), (Jvm.Cond.laysFinal "CircuitCyclesModel" "CircuitCyclesModel" "ready" "[Z"), (Jvm.Cond.laysFinal "CircuitCyclesModel" "CircuitCyclesModel" "met" "[Z"), (Jvm.Cond.laysFinal "CircuitCyclesModel" "CircuitCyclesModel" "queue" "[I"), (Jvm.Cond.lays "CircuitCyclesModel" "CircuitCyclesModel" "modulesThere" "I"), (Jvm.Cond.lays "CircuitCyclesModel" "CircuitCyclesModel" "registerBits" "I"), (Jvm.Cond.lays "CircuitCyclesModel" "CircuitCyclesModel" "inputBits" "I"), (Jvm.Cond.lays "CircuitCyclesModel" "CircuitCyclesModel" "assertsThere" "I"), (Jvm.Cond.lays "CircuitCyclesModel" "CircuitCyclesModel" "costThere" "J"), (Jvm.Cond.laysFinal "CircuitCyclesModel" "CircuitCyclesModel" "values" "[J"), (Jvm.Cond.laysFinal "CircuitCyclesModel" "CircuitCyclesModel" "nexts" "[J"), (Jvm.Cond.laysFinal "CircuitCyclesModel" "CircuitCyclesModel" "registers" "[J"), (Jvm.Cond.laysFinal "CircuitCyclesModel" "CircuitCyclesModel" "inputs" "[J"), (Jvm.Cond.laysFinal "CircuitCyclesModel" "CircuitCyclesModel" "pile" "[J"), (Jvm.Cond.lays "CircuitCyclesModel" "CircuitCyclesModel" "high" "I"), (Jvm.Cond.lays "CircuitCyclesModel" "CircuitCyclesModel" "cycle" "I"), (Jvm.Cond.lays "CircuitCyclesModel" "CircuitCyclesModel" "valueFits" "Z"), (Jvm.Cond.lays "CircuitCyclesModel" "CircuitCyclesModel" "tapeSize" "I"), (Jvm.Cond.lays "CircuitCyclesModel" "CircuitCyclesModel" "textSize" "I"), (Jvm.Cond.laysFinal "CircuitCyclesModel" "CircuitCyclesModel" "src" "[B")] : List Cond), w ∈ xw_G
  exact List.forall_mem_cons.mpr ⟨wn_8_159, List.forall_mem_cons.mpr ⟨wn_8_161, List.forall_mem_cons.mpr ⟨wn_8_163, List.forall_mem_cons.mpr ⟨wn_8_165, List.forall_mem_cons.mpr ⟨wn_8_167, List.forall_mem_cons.mpr ⟨wn_8_169, List.forall_mem_cons.mpr ⟨wn_8_171, List.forall_mem_cons.mpr ⟨wn_8_173, List.forall_mem_cons.mpr ⟨wn_8_175, List.forall_mem_cons.mpr ⟨wn_8_177, List.forall_mem_cons.mpr ⟨wn_8_179, List.forall_mem_cons.mpr ⟨wn_8_181, List.forall_mem_cons.mpr ⟨wn_8_183, List.forall_mem_cons.mpr ⟨wn_8_185, List.forall_mem_cons.mpr ⟨wn_8_187, List.forall_mem_cons.mpr ⟨wn_8_189, List.forall_mem_cons.mpr ⟨wn_8_191, List.forall_mem_cons.mpr ⟨wn_8_193, List.forall_mem_cons.mpr ⟨wn_8_195, List.forall_mem_cons.mpr ⟨wn_8_197, List.forall_mem_cons.mpr ⟨wn_8_199, List.forall_mem_cons.mpr ⟨wn_8_201, List.forall_mem_cons.mpr ⟨wn_8_203, List.forall_mem_cons.mpr ⟨wn_8_205, List.forall_mem_cons.mpr ⟨wn_8_207, List.forall_mem_cons.mpr ⟨wn_8_209, List.forall_mem_cons.mpr ⟨wn_8_211, List.forall_mem_cons.mpr ⟨wn_8_213, List.forall_mem_cons.mpr ⟨wn_8_215, List.forall_mem_cons.mpr ⟨wn_8_217, List.forall_mem_cons.mpr ⟨wn_8_219, List.forall_mem_cons.mpr ⟨wn_8_221, List.forall_mem_cons.mpr ⟨wn_8_223, List.forall_mem_cons.mpr ⟨wn_8_225, List.forall_mem_cons.mpr ⟨wn_8_227, List.forall_mem_cons.mpr ⟨wn_8_229, List.forall_mem_cons.mpr ⟨wn_8_231, List.forall_mem_cons.mpr ⟨wn_8_233, List.forall_mem_cons.mpr ⟨wn_8_235, List.forall_mem_cons.mpr ⟨wn_8_237, List.forall_mem_cons.mpr ⟨wn_8_239, List.forall_mem_cons.mpr ⟨wn_9_1, List.forall_mem_cons.mpr ⟨wn_9_3, List.forall_mem_cons.mpr ⟨wn_9_5, List.forall_mem_cons.mpr ⟨wn_9_7, List.forall_mem_cons.mpr ⟨wn_9_9, List.forall_mem_cons.mpr ⟨wn_9_11, List.forall_mem_cons.mpr ⟨wn_9_13, List.forall_mem_cons.mpr ⟨wn_9_15, List.forall_mem_cons.mpr ⟨wn_9_17, List.forall_mem_cons.mpr ⟨wn_9_19, List.forall_mem_cons.mpr ⟨wn_9_21, List.forall_mem_cons.mpr ⟨wn_9_23, List.forall_mem_cons.mpr ⟨wn_9_25, List.forall_mem_cons.mpr ⟨wn_9_27, List.forall_mem_cons.mpr ⟨wn_9_29, List.forall_mem_cons.mpr ⟨wn_9_31, List.forall_mem_cons.mpr ⟨wn_9_33, List.forall_mem_cons.mpr ⟨wn_9_35, List.forall_mem_cons.mpr ⟨wn_9_37, List.forall_mem_cons.mpr ⟨wn_9_39, List.forall_mem_cons.mpr ⟨wn_9_41, List.forall_mem_cons.mpr ⟨wn_9_43, List.forall_mem_cons.mpr ⟨wn_9_45, List.forall_mem_cons.mpr ⟨wn_9_47, List.forall_mem_cons.mpr ⟨wn_9_49, List.forall_mem_cons.mpr ⟨wn_9_51, List.forall_mem_cons.mpr ⟨wn_9_53, List.forall_mem_cons.mpr ⟨wn_9_55, List.forall_mem_cons.mpr ⟨wn_9_57, List.forall_mem_cons.mpr ⟨wn_9_59, List.forall_mem_cons.mpr ⟨wn_9_61, List.forall_mem_cons.mpr ⟨wn_9_63, List.forall_mem_cons.mpr ⟨wn_9_65, List.forall_mem_cons.mpr ⟨wn_9_67, List.forall_mem_cons.mpr ⟨wn_9_69, List.forall_mem_cons.mpr ⟨wn_9_71, List.forall_mem_cons.mpr ⟨wn_9_73, List.forall_mem_cons.mpr ⟨wn_9_75, List.forall_mem_cons.mpr ⟨wn_9_77, List.forall_mem_cons.mpr ⟨wn_9_79, List.forall_mem_cons.mpr ⟨wn_9_81, List.forall_mem_cons.mpr ⟨wn_9_83, List.forall_mem_cons.mpr ⟨wn_9_85, List.forall_mem_cons.mpr ⟨wn_9_87, List.forall_mem_cons.mpr ⟨wn_9_89, List.forall_mem_cons.mpr ⟨wn_9_91, List.forall_mem_cons.mpr ⟨wn_9_93, List.forall_mem_cons.mpr ⟨wn_9_95, List.forall_mem_cons.mpr ⟨wn_9_97, List.forall_mem_cons.mpr ⟨wn_9_99, (List.forall_mem_nil _)⟩⟩⟩⟩⟩⟩⟩⟩⟩⟩⟩⟩⟩⟩⟩⟩⟩⟩⟩⟩⟩⟩⟩⟩⟩⟩⟩⟩⟩⟩⟩⟩⟩⟩⟩⟩⟩⟩⟩⟩⟩⟩⟩⟩⟩⟩⟩⟩⟩⟩⟩⟩⟩⟩⟩⟩⟩⟩⟩⟩⟩⟩⟩⟩⟩⟩⟩⟩⟩⟩⟩⟩⟩⟩⟩⟩⟩⟩⟩⟩⟩⟩⟩⟩⟩⟩⟩⟩⟩⟩⟩
theorem in_C : ∀ w ∈ u_ws rn_C fn_C 11, w ∈ xw_G := by
  show ∀ w ∈ ([(Jvm.Cond.lays "CircuitCycles" "CircuitCycles" "length" "I"), (Jvm.Cond.lays "CircuitCycles" "CircuitCycles" "faultCode" "I"), (Jvm.Cond.laysFinal "CircuitCycles" "CircuitCycles" "tokens" "LCircuitCycles$Tokens;"), (Jvm.Cond.laysFinal "CircuitCycles" "CircuitCycles" "scanner" "LCircuitCycles$Scanner;"), (Jvm.Cond.laysFinal "CircuitCycles" "CircuitCycles" "checker" "LCircuitCycles$Checker;"), (Jvm.Cond.laysFinal "CircuitCycles" "CircuitCycles" "grammar" "LCircuitCycles$Grammar;"), (Jvm.Cond.laysFinal "CircuitCycles" "CircuitCycles" "order" "LCircuitCycles$Order;"), (Jvm.Cond.laysFinal "CircuitCycles" "CircuitCycles" "machine" "LCircuitCycles$Machine;"), (Jvm.Cond.lays "CircuitCycles" "CircuitCycles" "stands" "Z"), (Jvm.Cond.lays "CircuitCycles" "CircuitCycles" "circuit" "LCircuitCycles$Circuit;"), (Jvm.Cond.lays "CircuitCycles" "CircuitCycles" "spare" "LCircuitCycles$Circuit;")] : List Cond), w ∈ xw_G
  exact List.forall_mem_cons.mpr ⟨wn_3_136, List.forall_mem_cons.mpr ⟨wn_3_138, List.forall_mem_cons.mpr ⟨wn_3_140, List.forall_mem_cons.mpr ⟨wn_3_142, List.forall_mem_cons.mpr ⟨wn_3_144, List.forall_mem_cons.mpr ⟨wn_3_146, List.forall_mem_cons.mpr ⟨wn_3_148, List.forall_mem_cons.mpr ⟨wn_3_150, List.forall_mem_cons.mpr ⟨wn_3_152, List.forall_mem_cons.mpr ⟨wn_3_154, List.forall_mem_cons.mpr ⟨wn_3_156, (List.forall_mem_nil _)⟩⟩⟩⟩⟩⟩⟩⟩⟩⟩⟩
theorem in_Tokens : ∀ w ∈ u_ws rn_Tokens fn_Tokens 9, w ∈ xw_G := by
  show ∀ w ∈ ([(Jvm.Cond.laysFinal "CircuitCycles$Tokens" "CircuitCycles$Tokens" "row" "[J"), (Jvm.Cond.lays "CircuitCycles$Tokens" "CircuitCycles$Tokens" "size" "I"), (Jvm.Cond.lays "CircuitCycles$Tokens" "CircuitCycles$Tokens" "index" "I"), (Jvm.Cond.lays "CircuitCycles$Tokens" "CircuitCycles$Tokens" "kind" "I"), (Jvm.Cond.lays "CircuitCycles$Tokens" "CircuitCycles$Tokens" "place" "I"), (Jvm.Cond.lays "CircuitCycles$Tokens" "CircuitCycles$Tokens" "extra" "I"), (Jvm.Cond.lays "CircuitCycles$Tokens" "CircuitCycles$Tokens" "faultCode" "I"), (Jvm.Cond.lays "CircuitCycles$Tokens" "CircuitCycles$Tokens" "faultPlace" "I"), (Jvm.Cond.lays "CircuitCycles$Tokens" "CircuitCycles$Tokens" "opens" "I")] : List Cond), w ∈ xw_G
  exact List.forall_mem_cons.mpr ⟨wn_1_63, List.forall_mem_cons.mpr ⟨wn_1_65, List.forall_mem_cons.mpr ⟨wn_1_67, List.forall_mem_cons.mpr ⟨wn_1_69, List.forall_mem_cons.mpr ⟨wn_1_71, List.forall_mem_cons.mpr ⟨wn_1_73, List.forall_mem_cons.mpr ⟨wn_1_75, List.forall_mem_cons.mpr ⟨wn_1_77, List.forall_mem_cons.mpr ⟨wn_1_79, (List.forall_mem_nil _)⟩⟩⟩⟩⟩⟩⟩⟩⟩
theorem in_Scanner : ∀ w ∈ u_ws rn_Scanner fn_Scanner 9, w ∈ xw_G := by
  show ∀ w ∈ ([(Jvm.Cond.laysFinal "CircuitCycles$Scanner" "CircuitCycles$Scanner" "tokens" "LCircuitCycles$Tokens;"), (Jvm.Cond.lays "CircuitCycles$Scanner" "CircuitCycles$Scanner" "text" "[B"), (Jvm.Cond.lays "CircuitCycles$Scanner" "CircuitCycles$Scanner" "length" "I"), (Jvm.Cond.lays "CircuitCycles$Scanner" "CircuitCycles$Scanner" "code" "LCircuitCycles$Code;"), (Jvm.Cond.laysFinal "CircuitCycles$Scanner" "CircuitCycles$Scanner" "heads" "[I"), (Jvm.Cond.laysFinal "CircuitCycles$Scanner" "CircuitCycles$Scanner" "nexts" "[I"), (Jvm.Cond.laysFinal "CircuitCycles$Scanner" "CircuitCycles$Scanner" "wordStarts" "[I"), (Jvm.Cond.laysFinal "CircuitCycles$Scanner" "CircuitCycles$Scanner" "wordKinds" "[I"), (Jvm.Cond.lays "CircuitCycles$Scanner" "CircuitCycles$Scanner" "words" "I")] : List Cond), w ∈ xw_G
  exact List.forall_mem_cons.mpr ⟨wn_1_99, List.forall_mem_cons.mpr ⟨wn_1_101, List.forall_mem_cons.mpr ⟨wn_1_103, List.forall_mem_cons.mpr ⟨wn_1_105, List.forall_mem_cons.mpr ⟨wn_1_107, List.forall_mem_cons.mpr ⟨wn_1_109, List.forall_mem_cons.mpr ⟨wn_1_111, List.forall_mem_cons.mpr ⟨wn_1_113, List.forall_mem_cons.mpr ⟨wn_1_115, (List.forall_mem_nil _)⟩⟩⟩⟩⟩⟩⟩⟩⟩
theorem in_Checker : ∀ w ∈ u_ws rn_Checker fn_Checker 15, w ∈ xw_G := by
  show ∀ w ∈ ([(Jvm.Cond.laysFinal "CircuitCycles$Checker" "CircuitCycles$Checker" "tokens" "LCircuitCycles$Tokens;"), (Jvm.Cond.lays "CircuitCycles$Checker" "CircuitCycles$Checker" "parts" "LCircuitCycles$Parts;"), (Jvm.Cond.lays "CircuitCycles$Checker" "CircuitCycles$Checker" "code" "LCircuitCycles$Code;"), (Jvm.Cond.lays "CircuitCycles$Checker" "CircuitCycles$Checker" "module" "I"), (Jvm.Cond.lays "CircuitCycles$Checker" "CircuitCycles$Checker" "firstDecl" "I"), (Jvm.Cond.laysFinal "CircuitCycles$Checker" "CircuitCycles$Checker" "modules" "[I"), (Jvm.Cond.laysFinal "CircuitCycles$Checker" "CircuitCycles$Checker" "decls" "[I"), (Jvm.Cond.laysFinal "CircuitCycles$Checker" "CircuitCycles$Checker" "stamps" "[I"), (Jvm.Cond.laysFinal "CircuitCycles$Checker" "CircuitCycles$Checker" "names" "[I"), (Jvm.Cond.laysFinal "CircuitCycles$Checker" "CircuitCycles$Checker" "widths" "[I"), (Jvm.Cond.lays "CircuitCycles$Checker" "CircuitCycles$Checker" "top" "I"), (Jvm.Cond.lays "CircuitCycles$Checker" "CircuitCycles$Checker" "expStart" "I"), (Jvm.Cond.lays "CircuitCycles$Checker" "CircuitCycles$Checker" "cost" "I"), (Jvm.Cond.lays "CircuitCycles$Checker" "CircuitCycles$Checker" "faultCode" "I"), (Jvm.Cond.lays "CircuitCycles$Checker" "CircuitCycles$Checker" "faultPlace" "I")] : List Cond), w ∈ xw_G
  exact List.forall_mem_cons.mpr ⟨wn_1_145, List.forall_mem_cons.mpr ⟨wn_1_147, List.forall_mem_cons.mpr ⟨wn_1_149, List.forall_mem_cons.mpr ⟨wn_1_151, List.forall_mem_cons.mpr ⟨wn_1_153, List.forall_mem_cons.mpr ⟨wn_1_155, List.forall_mem_cons.mpr ⟨wn_1_157, List.forall_mem_cons.mpr ⟨wn_1_159, List.forall_mem_cons.mpr ⟨wn_1_161, List.forall_mem_cons.mpr ⟨wn_1_163, List.forall_mem_cons.mpr ⟨wn_1_165, List.forall_mem_cons.mpr ⟨wn_1_167, List.forall_mem_cons.mpr ⟨wn_1_169, List.forall_mem_cons.mpr ⟨wn_1_171, List.forall_mem_cons.mpr ⟨wn_1_173, (List.forall_mem_nil _)⟩⟩⟩⟩⟩⟩⟩⟩⟩⟩⟩⟩⟩⟩⟩
theorem in_Meaning : ∀ w ∈ u_ws rn_Meaning fn_Meaning 17, w ∈ xw_G := by
  show ∀ w ∈ ([(Jvm.Cond.laysFinal "CircuitCycles$Meaning" "CircuitCycles$Meaning" "checker" "LCircuitCycles$Checker;"), (Jvm.Cond.lays "CircuitCycles$Meaning" "CircuitCycles$Meaning" "design" "LCircuitCycles$Design;"), (Jvm.Cond.lays "CircuitCycles$Meaning" "CircuitCycles$Meaning" "parts" "LCircuitCycles$Parts;"), (Jvm.Cond.lays "CircuitCycles$Meaning" "CircuitCycles$Meaning" "code" "LCircuitCycles$Code;"), (Jvm.Cond.lays "CircuitCycles$Meaning" "CircuitCycles$Meaning" "rangeWidth" "I"), (Jvm.Cond.lays "CircuitCycles$Meaning" "CircuitCycles$Meaning" "target" "I"), (Jvm.Cond.lays "CircuitCycles$Meaning" "CircuitCycles$Meaning" "targetLow" "I"), (Jvm.Cond.lays "CircuitCycles$Meaning" "CircuitCycles$Meaning" "targetWidth" "I"), (Jvm.Cond.lays "CircuitCycles$Meaning" "CircuitCycles$Meaning" "port" "I"), (Jvm.Cond.lays "CircuitCycles$Meaning" "CircuitCycles$Meaning" "alwaysNumber" "I"), (Jvm.Cond.lays "CircuitCycles$Meaning" "CircuitCycles$Meaning" "alwaysStart" "I"), (Jvm.Cond.lays "CircuitCycles$Meaning" "CircuitCycles$Meaning" "stores" "Z"), (Jvm.Cond.laysFinal "CircuitCycles$Meaning" "CircuitCycles$Meaning" "jumps" "[I"), (Jvm.Cond.laysFinal "CircuitCycles$Meaning" "CircuitCycles$Meaning" "exits" "[I"), (Jvm.Cond.laysFinal "CircuitCycles$Meaning" "CircuitCycles$Meaning" "matches" "[I"), (Jvm.Cond.laysFinal "CircuitCycles$Meaning" "CircuitCycles$Meaning" "widths" "[I"), (Jvm.Cond.lays "CircuitCycles$Meaning" "CircuitCycles$Meaning" "depth" "I")] : List Cond), w ∈ xw_G
  exact List.forall_mem_cons.mpr ⟨wn_1_201, List.forall_mem_cons.mpr ⟨wn_1_203, List.forall_mem_cons.mpr ⟨wn_1_205, List.forall_mem_cons.mpr ⟨wn_1_207, List.forall_mem_cons.mpr ⟨wn_1_209, List.forall_mem_cons.mpr ⟨wn_1_211, List.forall_mem_cons.mpr ⟨wn_1_213, List.forall_mem_cons.mpr ⟨wn_1_215, List.forall_mem_cons.mpr ⟨wn_1_217, List.forall_mem_cons.mpr ⟨wn_1_219, List.forall_mem_cons.mpr ⟨wn_1_221, List.forall_mem_cons.mpr ⟨wn_1_223, List.forall_mem_cons.mpr ⟨wn_1_225, List.forall_mem_cons.mpr ⟨wn_1_227, List.forall_mem_cons.mpr ⟨wn_1_229, List.forall_mem_cons.mpr ⟨wn_1_231, List.forall_mem_cons.mpr ⟨wn_1_233, (List.forall_mem_nil _)⟩⟩⟩⟩⟩⟩⟩⟩⟩⟩⟩⟩⟩⟩⟩⟩⟩
theorem in_Grammar : ∀ w ∈ u_ws rn_Grammar fn_Grammar 15, w ∈ xw_G := by
  show ∀ w ∈ ([(Jvm.Cond.laysFinal "CircuitCycles$Grammar" "CircuitCycles$Grammar" "tokens" "LCircuitCycles$Tokens;"), (Jvm.Cond.laysFinal "CircuitCycles$Grammar" "CircuitCycles$Grammar" "checker" "LCircuitCycles$Checker;"), (Jvm.Cond.laysFinal "CircuitCycles$Grammar" "CircuitCycles$Grammar" "meaning" "LCircuitCycles$Meaning;"), (Jvm.Cond.lays "CircuitCycles$Grammar" "CircuitCycles$Grammar" "state" "I"), (Jvm.Cond.lays "CircuitCycles$Grammar" "CircuitCycles$Grammar" "purpose" "I"), (Jvm.Cond.lays "CircuitCycles$Grammar" "CircuitCycles$Grammar" "signPlace" "I"), (Jvm.Cond.lays "CircuitCycles$Grammar" "CircuitCycles$Grammar" "linkPlace" "I"), (Jvm.Cond.lays "CircuitCycles$Grammar" "CircuitCycles$Grammar" "expPlace" "I"), (Jvm.Cond.lays "CircuitCycles$Grammar" "CircuitCycles$Grammar" "expIndex" "I"), (Jvm.Cond.laysFinal "CircuitCycles$Grammar" "CircuitCycles$Grammar" "contexts" "[I"), (Jvm.Cond.lays "CircuitCycles$Grammar" "CircuitCycles$Grammar" "depth" "I"), (Jvm.Cond.laysFinal "CircuitCycles$Grammar" "CircuitCycles$Grammar" "heldKinds" "[I"), (Jvm.Cond.laysFinal "CircuitCycles$Grammar" "CircuitCycles$Grammar" "heldPlaces" "[I"), (Jvm.Cond.laysFinal "CircuitCycles$Grammar" "CircuitCycles$Grammar" "heldTimes" "[I"), (Jvm.Cond.lays "CircuitCycles$Grammar" "CircuitCycles$Grammar" "held" "I")] : List Cond), w ∈ xw_G
  exact List.forall_mem_cons.mpr ⟨wn_2_15, List.forall_mem_cons.mpr ⟨wn_2_17, List.forall_mem_cons.mpr ⟨wn_2_19, List.forall_mem_cons.mpr ⟨wn_2_21, List.forall_mem_cons.mpr ⟨wn_2_23, List.forall_mem_cons.mpr ⟨wn_2_25, List.forall_mem_cons.mpr ⟨wn_2_27, List.forall_mem_cons.mpr ⟨wn_2_29, List.forall_mem_cons.mpr ⟨wn_2_31, List.forall_mem_cons.mpr ⟨wn_2_33, List.forall_mem_cons.mpr ⟨wn_2_35, List.forall_mem_cons.mpr ⟨wn_2_37, List.forall_mem_cons.mpr ⟨wn_2_39, List.forall_mem_cons.mpr ⟨wn_2_41, List.forall_mem_cons.mpr ⟨wn_2_43, (List.forall_mem_nil _)⟩⟩⟩⟩⟩⟩⟩⟩⟩⟩⟩⟩⟩⟩⟩
theorem in_Order : ∀ w ∈ u_ws rn_Order fn_Order 10, w ∈ xw_G := by
  show ∀ w ∈ ([(Jvm.Cond.lays "CircuitCycles$Order" "CircuitCycles$Order" "circuit" "LCircuitCycles$Circuit;"), (Jvm.Cond.laysFinal "CircuitCycles$Order" "CircuitCycles$Order" "numbers" "[I"), (Jvm.Cond.laysFinal "CircuitCycles$Order" "CircuitCycles$Order" "lowest" "[I"), (Jvm.Cond.laysFinal "CircuitCycles$Order" "CircuitCycles$Order" "cursors" "[I"), (Jvm.Cond.laysFinal "CircuitCycles$Order" "CircuitCycles$Order" "path" "[I"), (Jvm.Cond.laysFinal "CircuitCycles$Order" "CircuitCycles$Order" "open" "[I"), (Jvm.Cond.lays "CircuitCycles$Order" "CircuitCycles$Order" "pathSize" "I"), (Jvm.Cond.lays "CircuitCycles$Order" "CircuitCycles$Order" "openSize" "I"), (Jvm.Cond.lays "CircuitCycles$Order" "CircuitCycles$Order" "seen" "I"), (Jvm.Cond.lays "CircuitCycles$Order" "CircuitCycles$Order" "looped" "I")] : List Cond), w ∈ xw_G
  exact List.forall_mem_cons.mpr ⟨wn_2_62, List.forall_mem_cons.mpr ⟨wn_2_64, List.forall_mem_cons.mpr ⟨wn_2_66, List.forall_mem_cons.mpr ⟨wn_2_68, List.forall_mem_cons.mpr ⟨wn_2_70, List.forall_mem_cons.mpr ⟨wn_2_72, List.forall_mem_cons.mpr ⟨wn_2_74, List.forall_mem_cons.mpr ⟨wn_2_76, List.forall_mem_cons.mpr ⟨wn_2_78, List.forall_mem_cons.mpr ⟨wn_2_80, (List.forall_mem_nil _)⟩⟩⟩⟩⟩⟩⟩⟩⟩⟩
theorem in_Machine : ∀ w ∈ u_ws rn_Machine fn_Machine 5, w ∈ xw_G := by
  show ∀ w ∈ ([(Jvm.Cond.laysFinal "CircuitCycles$Machine" "CircuitCycles$Machine" "values" "[J"), (Jvm.Cond.laysFinal "CircuitCycles$Machine" "CircuitCycles$Machine" "nexts" "[J"), (Jvm.Cond.laysFinal "CircuitCycles$Machine" "CircuitCycles$Machine" "stack" "[J"), (Jvm.Cond.lays "CircuitCycles$Machine" "CircuitCycles$Machine" "cycle" "I"), (Jvm.Cond.lays "CircuitCycles$Machine" "CircuitCycles$Machine" "settled" "Z")] : List Cond), w ∈ xw_G
  exact List.forall_mem_cons.mpr ⟨wn_2_94, List.forall_mem_cons.mpr ⟨wn_2_96, List.forall_mem_cons.mpr ⟨wn_2_98, List.forall_mem_cons.mpr ⟨wn_2_100, List.forall_mem_cons.mpr ⟨wn_2_102, (List.forall_mem_nil _)⟩⟩⟩⟩⟩
theorem in_Circuit : ∀ w ∈ u_ws rn_Circuit fn_Circuit 14, w ∈ xw_G := by
  show ∀ w ∈ ([(Jvm.Cond.laysFinal "CircuitCycles$Circuit" "CircuitCycles$Circuit" "design" "LCircuitCycles$Design;"), (Jvm.Cond.lays "CircuitCycles$Circuit" "CircuitCycles$Circuit" "instances" "I"), (Jvm.Cond.lays "CircuitCycles$Circuit" "CircuitCycles$Circuit" "signals" "I"), (Jvm.Cond.lays "CircuitCycles$Circuit" "CircuitCycles$Circuit" "bases" "[I"), (Jvm.Cond.lays "CircuitCycles$Circuit" "CircuitCycles$Circuit" "modules" "[I"), (Jvm.Cond.laysFinal "CircuitCycles$Circuit" "CircuitCycles$Circuit" "parents" "[I"), (Jvm.Cond.laysFinal "CircuitCycles$Circuit" "CircuitCycles$Circuit" "children" "[I"), (Jvm.Cond.laysFinal "CircuitCycles$Circuit" "CircuitCycles$Circuit" "decls" "[I"), (Jvm.Cond.laysFinal "CircuitCycles$Circuit" "CircuitCycles$Circuit" "starts" "[I"), (Jvm.Cond.laysFinal "CircuitCycles$Circuit" "CircuitCycles$Circuit" "stops" "[I"), (Jvm.Cond.laysFinal "CircuitCycles$Circuit" "CircuitCycles$Circuit" "frames" "[I"), (Jvm.Cond.laysFinal "CircuitCycles$Circuit" "CircuitCycles$Circuit" "sources" "[I"), (Jvm.Cond.laysFinal "CircuitCycles$Circuit" "CircuitCycles$Circuit" "order" "[I"), (Jvm.Cond.lays "CircuitCycles$Circuit" "CircuitCycles$Circuit" "ordered" "I")] : List Cond), w ∈ xw_G
  exact List.forall_mem_cons.mpr ⟨wn_3_96, List.forall_mem_cons.mpr ⟨wn_3_98, List.forall_mem_cons.mpr ⟨wn_3_100, List.forall_mem_cons.mpr ⟨wn_3_102, List.forall_mem_cons.mpr ⟨wn_3_104, List.forall_mem_cons.mpr ⟨wn_3_106, List.forall_mem_cons.mpr ⟨wn_3_108, List.forall_mem_cons.mpr ⟨wn_3_110, List.forall_mem_cons.mpr ⟨wn_3_112, List.forall_mem_cons.mpr ⟨wn_3_114, List.forall_mem_cons.mpr ⟨wn_3_116, List.forall_mem_cons.mpr ⟨wn_3_118, List.forall_mem_cons.mpr ⟨wn_3_120, List.forall_mem_cons.mpr ⟨wn_3_122, (List.forall_mem_nil _)⟩⟩⟩⟩⟩⟩⟩⟩⟩⟩⟩⟩⟩⟩
theorem in_Design : ∀ w ∈ u_ws rn_Design fn_Design 16, w ∈ xw_G := by
  show ∀ w ∈ ([(Jvm.Cond.laysFinal "CircuitCycles$Design" "CircuitCycles$Design" "parts" "LCircuitCycles$Parts;"), (Jvm.Cond.laysFinal "CircuitCycles$Design" "CircuitCycles$Design" "code" "LCircuitCycles$Code;"), (Jvm.Cond.laysFinal "CircuitCycles$Design" "CircuitCycles$Design" "text" "[B"), (Jvm.Cond.lays "CircuitCycles$Design" "CircuitCycles$Design" "length" "I"), (Jvm.Cond.lays "CircuitCycles$Design" "CircuitCycles$Design" "moduleCount" "I"), (Jvm.Cond.lays "CircuitCycles$Design" "CircuitCycles$Design" "inputBits" "I"), (Jvm.Cond.laysFinal "CircuitCycles$Design" "CircuitCycles$Design" "places" "[I"), (Jvm.Cond.laysFinal "CircuitCycles$Design" "CircuitCycles$Design" "firstDecls" "[I"), (Jvm.Cond.laysFinal "CircuitCycles$Design" "CircuitCycles$Design" "portCounts" "[I"), (Jvm.Cond.laysFinal "CircuitCycles$Design" "CircuitCycles$Design" "firstChildren" "[I"), (Jvm.Cond.laysFinal "CircuitCycles$Design" "CircuitCycles$Design" "firstPieces" "[I"), (Jvm.Cond.laysFinal "CircuitCycles$Design" "CircuitCycles$Design" "sums" "[[I"), (Jvm.Cond.lays "CircuitCycles$Design" "CircuitCycles$Design" "pieceCount" "I"), (Jvm.Cond.laysFinal "CircuitCycles$Design" "CircuitCycles$Design" "pieceStarts" "[I"), (Jvm.Cond.laysFinal "CircuitCycles$Design" "CircuitCycles$Design" "pieceStops" "[I"), (Jvm.Cond.laysFinal "CircuitCycles$Design" "CircuitCycles$Design" "pieceAsserts" "[I")] : List Cond), w ∈ xw_G
  exact List.forall_mem_cons.mpr ⟨wn_3_28, List.forall_mem_cons.mpr ⟨wn_3_30, List.forall_mem_cons.mpr ⟨wn_3_32, List.forall_mem_cons.mpr ⟨wn_3_34, List.forall_mem_cons.mpr ⟨wn_3_36, List.forall_mem_cons.mpr ⟨wn_3_38, List.forall_mem_cons.mpr ⟨wn_3_40, List.forall_mem_cons.mpr ⟨wn_3_42, List.forall_mem_cons.mpr ⟨wn_3_44, List.forall_mem_cons.mpr ⟨wn_3_46, List.forall_mem_cons.mpr ⟨wn_3_48, List.forall_mem_cons.mpr ⟨wn_3_50, List.forall_mem_cons.mpr ⟨wn_3_52, List.forall_mem_cons.mpr ⟨wn_3_54, List.forall_mem_cons.mpr ⟨wn_3_56, List.forall_mem_cons.mpr ⟨wn_3_58, (List.forall_mem_nil _)⟩⟩⟩⟩⟩⟩⟩⟩⟩⟩⟩⟩⟩⟩⟩⟩
theorem in_Parts : ∀ w ∈ u_ws rn_Parts fn_Parts 15, w ∈ xw_G := by
  show ∀ w ∈ ([(Jvm.Cond.lays "CircuitCycles$Parts" "CircuitCycles$Parts" "declCount" "I"), (Jvm.Cond.laysFinal "CircuitCycles$Parts" "CircuitCycles$Parts" "places" "[I"), (Jvm.Cond.laysFinal "CircuitCycles$Parts" "CircuitCycles$Parts" "widths" "[I"), (Jvm.Cond.laysFinal "CircuitCycles$Parts" "CircuitCycles$Parts" "sorts" "[I"), (Jvm.Cond.laysFinal "CircuitCycles$Parts" "CircuitCycles$Parts" "firsts" "[J"), (Jvm.Cond.laysFinal "CircuitCycles$Parts" "CircuitCycles$Parts" "starts" "[I"), (Jvm.Cond.laysFinal "CircuitCycles$Parts" "CircuitCycles$Parts" "stops" "[I"), (Jvm.Cond.lays "CircuitCycles$Parts" "CircuitCycles$Parts" "childCount" "I"), (Jvm.Cond.laysFinal "CircuitCycles$Parts" "CircuitCycles$Parts" "childModules" "[I"), (Jvm.Cond.laysFinal "CircuitCycles$Parts" "CircuitCycles$Parts" "childPlaces" "[I"), (Jvm.Cond.laysFinal "CircuitCycles$Parts" "CircuitCycles$Parts" "firstLinks" "[I"), (Jvm.Cond.lays "CircuitCycles$Parts" "CircuitCycles$Parts" "linkCount" "I"), (Jvm.Cond.laysFinal "CircuitCycles$Parts" "CircuitCycles$Parts" "linkPorts" "[I"), (Jvm.Cond.laysFinal "CircuitCycles$Parts" "CircuitCycles$Parts" "linkStarts" "[I"), (Jvm.Cond.laysFinal "CircuitCycles$Parts" "CircuitCycles$Parts" "linkStops" "[I")] : List Cond), w ∈ xw_G
  exact List.forall_mem_cons.mpr ⟨wn_2_172, List.forall_mem_cons.mpr ⟨wn_2_174, List.forall_mem_cons.mpr ⟨wn_2_176, List.forall_mem_cons.mpr ⟨wn_2_178, List.forall_mem_cons.mpr ⟨wn_2_180, List.forall_mem_cons.mpr ⟨wn_2_182, List.forall_mem_cons.mpr ⟨wn_2_184, List.forall_mem_cons.mpr ⟨wn_2_186, List.forall_mem_cons.mpr ⟨wn_2_188, List.forall_mem_cons.mpr ⟨wn_2_190, List.forall_mem_cons.mpr ⟨wn_2_192, List.forall_mem_cons.mpr ⟨wn_2_194, List.forall_mem_cons.mpr ⟨wn_2_196, List.forall_mem_cons.mpr ⟨wn_2_198, List.forall_mem_cons.mpr ⟨wn_2_200, (List.forall_mem_nil _)⟩⟩⟩⟩⟩⟩⟩⟩⟩⟩⟩⟩⟩⟩⟩
theorem in_Code : ∀ w ∈ u_ws rn_Code fn_Code 5, w ∈ xw_G := by
  show ∀ w ∈ ([(Jvm.Cond.laysFinal "CircuitCycles$Code" "CircuitCycles$Code" "row" "[J"), (Jvm.Cond.lays "CircuitCycles$Code" "CircuitCycles$Code" "size" "I"), (Jvm.Cond.laysFinal "CircuitCycles$Code" "CircuitCycles$Code" "literalWidths" "[I"), (Jvm.Cond.laysFinal "CircuitCycles$Code" "CircuitCycles$Code" "literals" "[J"), (Jvm.Cond.lays "CircuitCycles$Code" "CircuitCycles$Code" "literalCount" "I")] : List Cond), w ∈ xw_G
  exact List.forall_mem_cons.mpr ⟨wn_2_220, List.forall_mem_cons.mpr ⟨wn_2_222, List.forall_mem_cons.mpr ⟨wn_2_224, List.forall_mem_cons.mpr ⟨wn_2_226, List.forall_mem_cons.mpr ⟨wn_2_228, (List.forall_mem_nil _)⟩⟩⟩⟩⟩
def dv_M : Nat → Value := fun k => match k with
  | 0 => .int 0
  | 1 => .null
  | 2 => .int 0
  | 3 => .int 0
  | 4 => .null
  | 5 => .null
  | 6 => .null
  | 7 => .int 0
  | 8 => .int 0
  | 9 => .int 0
  | 10 => .int 0
  | 11 => .int 0
  | 12 => .int 0
  | 13 => .null
  | 14 => .null
  | 15 => .null
  | 16 => .null
  | 17 => .null
  | 18 => .int 0
  | 19 => .null
  | 20 => .null
  | 21 => .null
  | 22 => .null
  | 23 => .null
  | 24 => .null
  | 25 => .null
  | 26 => .null
  | 27 => .int 0
  | 28 => .null
  | 29 => .null
  | 30 => .null
  | 31 => .int 0
  | 32 => .null
  | 33 => .null
  | 34 => .null
  | 35 => .int 0
  | 36 => .null
  | 37 => .null
  | 38 => .int 0
  | 39 => .null
  | 40 => .null
  | 41 => .null
  | 42 => .int 0
  | 43 => .null
  | 44 => .int 0
  | 45 => .null
  | 46 => .null
  | 47 => .null
  | 48 => .null
  | 49 => .null
  | 50 => .null
  | 51 => .int 0
  | 52 => .null
  | 53 => .int 0
  | 54 => .int 0
  | 55 => .null
  | 56 => .int 0
  | 57 => .null
  | 58 => .null
  | 59 => .null
  | 60 => .null
  | 61 => .null
  | 62 => .null
  | 63 => .int 0
  | 64 => .null
  | 65 => .null
  | 66 => .null
  | 67 => .null
  | 68 => .null
  | 69 => .null
  | 70 => .null
  | 71 => .int 0
  | 72 => .null
  | 73 => .null
  | 74 => .null
  | 75 => .int 0
  | 76 => .int 0
  | 77 => .int 0
  | 78 => .int 0
  | 79 => .long 0
  | 80 => .null
  | 81 => .null
  | 82 => .null
  | 83 => .null
  | 84 => .null
  | 85 => .int 0
  | 86 => .int 0
  | 87 => .int 0
  | 88 => .int 0
  | 89 => .int 0
  | _ => .null
theorem dk_M : ∀ j, j < 91 → defaultValue (tn_M j) = vp_V (xo_M dv_M) j := by decide +kernel
def dv_C : Nat → Value := fun k => match k with
  | 0 => .int 0
  | 1 => .int 0
  | 2 => .null
  | 3 => .null
  | 4 => .null
  | 5 => .null
  | 6 => .null
  | 7 => .null
  | 8 => .int 0
  | 9 => .null
  | _ => .null
theorem dk_C : ∀ j, j < 11 → defaultValue (tn_C j) = vp_V (xo_C dv_C) j := by decide +kernel
def dv_Tokens : Nat → Value := fun k => match k with
  | 0 => .null
  | 1 => .int 0
  | 2 => .int 0
  | 3 => .int 0
  | 4 => .int 0
  | 5 => .int 0
  | 6 => .int 0
  | 7 => .int 0
  | _ => .int 0
theorem dk_Tokens : ∀ j, j < 9 → defaultValue (tn_Tokens j) = vp_V (xo_Tokens dv_Tokens) j := by decide +kernel
def dv_Scanner : Nat → Value := fun k => match k with
  | 0 => .null
  | 1 => .null
  | 2 => .int 0
  | 3 => .null
  | 4 => .null
  | 5 => .null
  | 6 => .null
  | 7 => .null
  | _ => .int 0
theorem dk_Scanner : ∀ j, j < 9 → defaultValue (tn_Scanner j) = vp_V (xo_Scanner dv_Scanner) j := by decide +kernel
def dv_Checker : Nat → Value := fun k => match k with
  | 0 => .null
  | 1 => .null
  | 2 => .null
  | 3 => .int 0
  | 4 => .int 0
  | 5 => .null
  | 6 => .null
  | 7 => .null
  | 8 => .null
  | 9 => .null
  | 10 => .int 0
  | 11 => .int 0
  | 12 => .int 0
  | 13 => .int 0
  | _ => .int 0
theorem dk_Checker : ∀ j, j < 15 → defaultValue (tn_Checker j) = vp_V (xo_Checker dv_Checker) j := by decide +kernel
def dv_Meaning : Nat → Value := fun k => match k with
  | 0 => .null
  | 1 => .null
  | 2 => .null
  | 3 => .null
  | 4 => .int 0
  | 5 => .int 0
  | 6 => .int 0
  | 7 => .int 0
  | 8 => .int 0
  | 9 => .int 0
  | 10 => .int 0
  | 11 => .int 0
  | 12 => .null
  | 13 => .null
  | 14 => .null
  | 15 => .null
  | _ => .int 0
theorem dk_Meaning : ∀ j, j < 17 → defaultValue (tn_Meaning j) = vp_V (xo_Meaning dv_Meaning) j := by decide +kernel
def dv_Grammar : Nat → Value := fun k => match k with
  | 0 => .null
  | 1 => .null
  | 2 => .null
  | 3 => .int 0
  | 4 => .int 0
  | 5 => .int 0
  | 6 => .int 0
  | 7 => .int 0
  | 8 => .int 0
  | 9 => .null
  | 10 => .int 0
  | 11 => .null
  | 12 => .null
  | 13 => .null
  | _ => .int 0
theorem dk_Grammar : ∀ j, j < 15 → defaultValue (tn_Grammar j) = vp_V (xo_Grammar dv_Grammar) j := by decide +kernel
def dv_Order : Nat → Value := fun k => match k with
  | 0 => .null
  | 1 => .null
  | 2 => .null
  | 3 => .null
  | 4 => .null
  | 5 => .null
  | 6 => .int 0
  | 7 => .int 0
  | 8 => .int 0
  | _ => .int 0
theorem dk_Order : ∀ j, j < 10 → defaultValue (tn_Order j) = vp_V (xo_Order dv_Order) j := by decide +kernel
def dv_Machine : Nat → Value := fun k => match k with
  | 0 => .null
  | 1 => .null
  | 2 => .null
  | 3 => .int 0
  | _ => .int 0
theorem dk_Machine : ∀ j, j < 5 → defaultValue (tn_Machine j) = vp_V (xo_Machine dv_Machine) j := by decide +kernel
def dv_Circuit : Nat → Value := fun k => match k with
  | 0 => .null
  | 1 => .int 0
  | 2 => .int 0
  | 3 => .null
  | 4 => .null
  | 5 => .null
  | 6 => .null
  | 7 => .null
  | 8 => .null
  | 9 => .null
  | 10 => .null
  | 11 => .null
  | 12 => .null
  | _ => .int 0
theorem dk_Circuit : ∀ j, j < 14 → defaultValue (tn_Circuit j) = vp_V (xo_Circuit dv_Circuit) j := by decide +kernel
def dv_Design : Nat → Value := fun k => match k with
  | 0 => .null
  | 1 => .null
  | 2 => .null
  | 3 => .int 0
  | 4 => .int 0
  | 5 => .int 0
  | 6 => .null
  | 7 => .null
  | 8 => .null
  | 9 => .null
  | 10 => .null
  | 11 => .null
  | 12 => .int 0
  | 13 => .null
  | 14 => .null
  | _ => .null
theorem dk_Design : ∀ j, j < 16 → defaultValue (tn_Design j) = vp_V (xo_Design dv_Design) j := by decide +kernel
def dv_Parts : Nat → Value := fun k => match k with
  | 0 => .int 0
  | 1 => .null
  | 2 => .null
  | 3 => .null
  | 4 => .null
  | 5 => .null
  | 6 => .null
  | 7 => .int 0
  | 8 => .null
  | 9 => .null
  | 10 => .null
  | 11 => .int 0
  | 12 => .null
  | 13 => .null
  | _ => .null
theorem dk_Parts : ∀ j, j < 15 → defaultValue (tn_Parts j) = vp_V (xo_Parts dv_Parts) j := by decide +kernel
def dv_Code : Nat → Value := fun k => match k with
  | 0 => .null
  | 1 => .int 0
  | 2 => .null
  | 3 => .null
  | _ => .int 0
theorem dk_Code : ∀ j, j < 5 → defaultValue (tn_Code j) = vp_V (xo_Code dv_Code) j := by decide +kernel
def yn_Arrays_fill : MethodName := ⟨rn_Arrays, "fill", "([II)V"⟩
abbrev bn_Arrays_fill : ByteArray := prog_29_method_103_code
def yn_C_append : MethodName := ⟨rn_C, "append", "(I)V"⟩
abbrev bn_C_append : ByteArray := prog_1_method_14_code
def yn_C_count : MethodName := ⟨rn_C, "count", "(I)I"⟩
abbrev bn_C_count : ByteArray := prog_1_method_6_code
def yn_C_end : MethodName := ⟨rn_C, "end", "(I)V"⟩
abbrev bn_C_end : ByteArray := prog_1_method_3_code
def yn_C_failing : MethodName := ⟨rn_C, "failing", "()I"⟩
abbrev bn_C_failing : ByteArray := prog_1_method_13_code
def yn_C_fault : MethodName := ⟨rn_C, "fault", "()I"⟩
abbrev bn_C_fault : ByteArray := prog_1_method_5_code
def yn_C_feed : MethodName := ⟨rn_C, "feed", "(IIIII)I"⟩
abbrev bn_C_feed : ByteArray := prog_1_method_2_code
def yn_C_find : MethodName := ⟨rn_C, "find", "()I"⟩
abbrev bn_C_find : ByteArray := prog_1_method_7_code
def yn_C_init : MethodName := ⟨rn_C, "<init>", "()V"⟩
abbrev bn_C_init : ByteArray := prog_1_method_1_code
def yn_C_read : MethodName := ⟨rn_C, "read", "()I"⟩
abbrev bn_C_read : ByteArray := prog_1_method_4_code
def yn_C_reset : MethodName := ⟨rn_C, "reset", "()V"⟩
abbrev bn_C_reset : ByteArray := prog_1_method_9_code
def yn_C_set : MethodName := ⟨rn_C, "set", "(II)V"⟩
abbrev bn_C_set : ByteArray := prog_1_method_10_code
def yn_C_signal : MethodName := ⟨rn_C, "signal", "(II)I"⟩
abbrev bn_C_signal : ByteArray := prog_1_method_8_code
def yn_C_step : MethodName := ⟨rn_C, "step", "()I"⟩
abbrev bn_C_step : ByteArray := prog_1_method_11_code
def yn_C_value : MethodName := ⟨rn_C, "value", "(I)J"⟩
abbrev bn_C_value : ByteArray := prog_1_method_12_code
def yn_Checker_init : MethodName := ⟨rn_Checker, "<init>", "(LCircuitCycles$Tokens;)V"⟩
abbrev bn_Checker_init : ByteArray := prog_2_method_1_code
def yn_Checker_isOff : MethodName := ⟨rn_Checker, "isOff", "()Z"⟩
abbrev bn_Checker_isOff : ByteArray := prog_2_method_4_code
def yn_Checker_start : MethodName := ⟨rn_Checker, "start", "(LCircuitCycles$Design;I)V"⟩
abbrev bn_Checker_start : ByteArray := prog_2_method_2_code
def yn_Circuit_init : MethodName := ⟨rn_Circuit, "<init>", "()V"⟩
abbrev bn_Circuit_init : ByteArray := prog_3_method_1_code
def yn_Code_clear : MethodName := ⟨rn_Code, "clear", "()V"⟩
abbrev bn_Code_clear : ByteArray := prog_4_method_2_code
def yn_Code_init : MethodName := ⟨rn_Code, "<init>", "()V"⟩
abbrev bn_Code_init : ByteArray := prog_4_method_1_code
def yn_Design_clear : MethodName := ⟨rn_Design, "clear", "(I)V"⟩
abbrev bn_Design_clear : ByteArray := prog_5_method_2_code
def yn_Design_init : MethodName := ⟨rn_Design, "<init>", "()V"⟩
abbrev bn_Design_init : ByteArray := prog_5_method_1_code
def yn_Grammar_declaration : MethodName := ⟨rn_Grammar, "declaration", "(I)V"⟩
abbrev bn_Grammar_declaration : ByteArray := prog_6_method_5_code
def yn_Grammar_init : MethodName := ⟨rn_Grammar, "<init>", "(LCircuitCycles$Tokens;LCircuitCycles$Checker;LCircuitCycles$Meaning;)V"⟩
abbrev bn_Grammar_init : ByteArray := prog_6_method_1_code
def yn_Grammar_moduleHead : MethodName := ⟨rn_Grammar, "moduleHead", "()V"⟩
abbrev bn_Grammar_moduleHead : ByteArray := prog_6_method_3_code
def yn_Grammar_parse : MethodName := ⟨rn_Grammar, "parse", "(LCircuitCycles$Design;I)V"⟩
abbrev bn_Grammar_parse : ByteArray := prog_6_method_2_code
def yn_Grammar_port : MethodName := ⟨rn_Grammar, "port", "()V"⟩
abbrev bn_Grammar_port : ByteArray := prog_6_method_4_code
def yn_L_count : MethodName := ⟨rn_L, "count", "(LCircuitCycles;I[J)I"⟩
abbrev bn_L_count : ByteArray := method_5_code
def yn_L_end : MethodName := ⟨rn_L, "end", "(LCircuitCycles;I)I"⟩
abbrev bn_L_end : ByteArray := method_4_code
def yn_L_failing : MethodName := ⟨rn_L, "failing", "(LCircuitCycles;[J)I"⟩
abbrev bn_L_failing : ByteArray := method_12_code
def yn_L_feed : MethodName := ⟨rn_L, "feed", "(LCircuitCycles;IIIII[J)I"⟩
abbrev bn_L_feed : ByteArray := method_3_code
def yn_L_find : MethodName := ⟨rn_L, "find", "(LCircuitCycles;[J)I"⟩
abbrev bn_L_find : ByteArray := method_6_code
def yn_L_law : MethodName := ⟨rn_L, "law", "([I)Z"⟩
abbrev bn_L_law : ByteArray := code
def yn_L_reset : MethodName := ⟨rn_L, "reset", "(LCircuitCycles;)I"⟩
abbrev bn_L_reset : ByteArray := method_8_code
def yn_L_set : MethodName := ⟨rn_L, "set", "(LCircuitCycles;II)I"⟩
abbrev bn_L_set : ByteArray := method_9_code
def yn_L_signal : MethodName := ⟨rn_L, "signal", "(LCircuitCycles;II[J)I"⟩
abbrev bn_L_signal : ByteArray := method_7_code
def yn_L_step : MethodName := ⟨rn_L, "step", "(LCircuitCycles;[J)I"⟩
abbrev bn_L_step : ByteArray := method_10_code
def yn_L_value : MethodName := ⟨rn_L, "value", "(LCircuitCycles;I[J)I"⟩
abbrev bn_L_value : ByteArray := method_11_code
def yn_M_at : MethodName := ⟨rn_M, "at", "(I)I"⟩
abbrev bn_M_at : ByteArray := prog_14_method_3_code
def yn_M_count : MethodName := ⟨rn_M, "count", "(I)I"⟩
abbrev bn_M_count : ByteArray := prog_14_method_100_code
def yn_M_cutTokens : MethodName := ⟨rn_M, "cutTokens", "()V"⟩
abbrev bn_M_cutTokens : ByteArray := prog_14_method_16_code
def yn_M_designGrammar : MethodName := ⟨rn_M, "designGrammar", "()V"⟩
abbrev bn_M_designGrammar : ByteArray := prog_14_method_39_code
def yn_M_end : MethodName := ⟨rn_M, "end", "(I)V"⟩
abbrev bn_M_end : ByteArray := prog_14_method_98_code
def yn_M_fail : MethodName := ⟨rn_M, "fail", "(II)V"⟩
abbrev bn_M_fail : ByteArray := prog_14_method_19_code
def yn_M_failing : MethodName := ⟨rn_M, "failing", "()I"⟩
abbrev bn_M_failing : ByteArray := prog_14_method_110_code
def yn_M_fault : MethodName := ⟨rn_M, "fault", "()I"⟩
abbrev bn_M_fault : ByteArray := prog_14_method_99_code
def yn_M_feed : MethodName := ⟨rn_M, "feed", "(IIIII)I"⟩
abbrev bn_M_feed : ByteArray := prog_14_method_97_code
def yn_M_find : MethodName := ⟨rn_M, "find", "()I"⟩
abbrev bn_M_find : ByteArray := prog_14_method_103_code
def yn_M_init : MethodName := ⟨rn_M, "<init>", "()V"⟩
abbrev bn_M_init : ByteArray := prog_14_method_1_code
def yn_M_is : MethodName := ⟨rn_M, "is", "(I)Z"⟩
abbrev bn_M_is : ByteArray := prog_14_method_21_code
def yn_M_no : MethodName := ⟨rn_M, "no", "()V"⟩
abbrev bn_M_no : ByteArray := prog_14_method_22_code
def yn_M_open : MethodName := ⟨rn_M, "open", "(I)V"⟩
abbrev bn_M_open : ByteArray := prog_14_method_24_code
def yn_M_readSource : MethodName := ⟨rn_M, "readSource", "()V"⟩
abbrev bn_M_readSource : ByteArray := prog_14_method_82_code
def yn_M_read_I : MethodName := ⟨rn_M, "read", "()I"⟩
abbrev bn_M_read_I : ByteArray := prog_14_method_83_code
def yn_M_reset : MethodName := ⟨rn_M, "reset", "()V"⟩
abbrev bn_M_reset : ByteArray := prog_14_method_106_code
def yn_M_set : MethodName := ⟨rn_M, "set", "(II)V"⟩
abbrev bn_M_set : ByteArray := prog_14_method_107_code
def yn_M_shut : MethodName := ⟨rn_M, "shut", "(I)V"⟩
abbrev bn_M_shut : ByteArray := prog_14_method_25_code
def yn_M_signal : MethodName := ⟨rn_M, "signal", "(II)I"⟩
abbrev bn_M_signal : ByteArray := prog_14_method_105_code
def yn_M_skip : MethodName := ⟨rn_M, "skip", "(I)I"⟩
abbrev bn_M_skip : ByteArray := prog_14_method_7_code
def yn_M_step : MethodName := ⟨rn_M, "step", "()I"⟩
abbrev bn_M_step : ByteArray := prog_14_method_108_code
def yn_M_take : MethodName := ⟨rn_M, "take", "(I)V"⟩
abbrev bn_M_take : ByteArray := prog_14_method_23_code
def yn_M_thrown : MethodName := ⟨rn_M, "thrown", "()I"⟩
abbrev bn_M_thrown : ByteArray := prog_14_method_2_code
def yn_M_token : MethodName := ⟨rn_M, "token", "(III)V"⟩
abbrev bn_M_token : ByteArray := prog_14_method_15_code
def yn_M_value : MethodName := ⟨rn_M, "value", "(I)J"⟩
abbrev bn_M_value : ByteArray := prog_14_method_109_code
def yn_Machine_init : MethodName := ⟨rn_Machine, "<init>", "()V"⟩
abbrev bn_Machine_init : ByteArray := prog_7_method_1_code
def yn_Meaning_init : MethodName := ⟨rn_Meaning, "<init>", "(LCircuitCycles$Checker;)V"⟩
abbrev bn_Meaning_init : ByteArray := prog_8_method_1_code
def yn_Meaning_portsEnd : MethodName := ⟨rn_Meaning, "portsEnd", "()V"⟩
abbrev bn_Meaning_portsEnd : ByteArray := prog_8_method_4_code
def yn_Meaning_start : MethodName := ⟨rn_Meaning, "start", "(LCircuitCycles$Design;)V"⟩
abbrev bn_Meaning_start : ByteArray := prog_8_method_2_code
def yn_Order_init : MethodName := ⟨rn_Order, "<init>", "()V"⟩
abbrev bn_Order_init : ByteArray := prog_9_method_1_code
def yn_Parts_clear : MethodName := ⟨rn_Parts, "clear", "()V"⟩
abbrev bn_Parts_clear : ByteArray := prog_10_method_2_code
def yn_Parts_init : MethodName := ⟨rn_Parts, "<init>", "()V"⟩
abbrev bn_Parts_init : ByteArray := prog_10_method_1_code
def yn_Scanner_init : MethodName := ⟨rn_Scanner, "<init>", "(LCircuitCycles$Tokens;)V"⟩
abbrev bn_Scanner_init : ByteArray := prog_11_method_1_code
def yn_Scanner_scan : MethodName := ⟨rn_Scanner, "scan", "(LCircuitCycles$Design;)V"⟩
abbrev bn_Scanner_scan : ByteArray := prog_11_method_2_code
def yn_Tokens_add : MethodName := ⟨rn_Tokens, "add", "(III)V"⟩
abbrev bn_Tokens_add : ByteArray := prog_12_method_3_code
def yn_Tokens_clear : MethodName := ⟨rn_Tokens, "clear", "()V"⟩
abbrev bn_Tokens_clear : ByteArray := prog_12_method_2_code
def yn_Tokens_due : MethodName := ⟨rn_Tokens, "due", "(I)Z"⟩
abbrev bn_Tokens_due : ByteArray := prog_12_method_9_code
def yn_Tokens_extraAt : MethodName := ⟨rn_Tokens, "extraAt", "(I)I"⟩
abbrev bn_Tokens_extraAt : ByteArray := prog_12_method_15_code
def yn_Tokens_init : MethodName := ⟨rn_Tokens, "<init>", "()V"⟩
abbrev bn_Tokens_init : ByteArray := prog_12_method_1_code
def yn_Tokens_kindAt : MethodName := ⟨rn_Tokens, "kindAt", "(I)I"⟩
abbrev bn_Tokens_kindAt : ByteArray := prog_12_method_14_code
def yn_Tokens_misfit : MethodName := ⟨rn_Tokens, "misfit", "()I"⟩
abbrev bn_Tokens_misfit : ByteArray := prog_12_method_7_code
def yn_Tokens_need : MethodName := ⟨rn_Tokens, "need", "(I)V"⟩
abbrev bn_Tokens_need : ByteArray := prog_12_method_10_code
def yn_Tokens_open : MethodName := ⟨rn_Tokens, "open", "(I)V"⟩
abbrev bn_Tokens_open : ByteArray := prog_12_method_11_code
def yn_Tokens_shut : MethodName := ⟨rn_Tokens, "shut", "(I)V"⟩
abbrev bn_Tokens_shut : ByteArray := prog_12_method_12_code
def yn_Tokens_start : MethodName := ⟨rn_Tokens, "start", "()V"⟩
abbrev bn_Tokens_start : ByteArray := prog_12_method_4_code
def yn_Tokens_stop : MethodName := ⟨rn_Tokens, "stop", "(I)V"⟩
abbrev bn_Tokens_stop : ByteArray := prog_12_method_6_code
def yn_Tokens_take : MethodName := ⟨rn_Tokens, "take", "()V"⟩
abbrev bn_Tokens_take : ByteArray := prog_12_method_5_code
theorem nl_C_11 : Cond.methodLinkNest rn_C 11 yn_Tokens_init "CircuitCycles" ∈ xn_L := List.mem_filter.mpr ⟨List.mem_append_left _ (List.mem_of_getElem? (i := 40) rfl), rfl⟩
theorem nl_C_48 : Cond.methodLinkNest rn_C 48 yn_Order_init "CircuitCycles" ∈ xn_L := List.mem_filter.mpr ⟨List.mem_append_right _ (List.mem_append_left _ (List.mem_of_getElem? (i := 48) rfl)), rfl⟩
theorem nl_C_55 : Cond.methodLinkNest rn_C 55 yn_Machine_init "CircuitCycles" ∈ xn_L := List.mem_filter.mpr ⟨List.mem_append_right _ (List.mem_append_left _ (List.mem_of_getElem? (i := 85) rfl)), rfl⟩
theorem nl_C_62 : Cond.methodLinkNest rn_C 62 yn_Circuit_init "CircuitCycles" ∈ xn_L := List.mem_filter.mpr ⟨List.mem_append_right _ (List.mem_append_left _ (List.mem_of_getElem? (i := 107) rfl)), rfl⟩
theorem nl_Circuit_11 : Cond.methodLinkNest rn_Circuit 11 yn_Design_init "CircuitCycles" ∈ xn_L := List.mem_filter.mpr ⟨List.mem_append_right _ (List.mem_append_left _ (List.mem_of_getElem? (i := 113) rfl)), rfl⟩
theorem nl_Design_11 : Cond.methodLinkNest rn_Design 11 yn_Parts_init "CircuitCycles" ∈ xn_L := List.mem_filter.mpr ⟨List.mem_append_right _ (List.mem_append_left _ (List.mem_of_getElem? (i := 119) rfl)), rfl⟩
theorem nl_Design_20 : Cond.methodLinkNest rn_Design 20 yn_Code_init "CircuitCycles" ∈ xn_L := List.mem_filter.mpr ⟨List.mem_append_right _ (List.mem_append_left _ (List.mem_of_getElem? (i := 205) rfl)), rfl⟩
theorem sn_C_append : Cond.selects rn_C yn_C_append yn_C_append ∈ xw_G := xw_s4 (q := (yn_C_append, 11)) (List.mem_of_getElem? (i := 10) rfl)
theorem sn_Grammar_declaration : Cond.selects rn_Grammar yn_Grammar_declaration yn_Grammar_declaration ∈ xw_G := xw_s2 (q := (yn_Grammar_declaration, 15)) (List.mem_of_getElem? (i := 0) rfl)
theorem sn_Grammar_moduleHead : Cond.selects rn_Grammar yn_Grammar_moduleHead yn_Grammar_moduleHead ∈ xw_G := xw_s1 (q := (yn_Grammar_moduleHead, 15)) (List.mem_of_getElem? (i := 12) rfl)
theorem sn_Grammar_port : Cond.selects rn_Grammar yn_Grammar_port yn_Grammar_port ∈ xw_G := xw_s1 (q := (yn_Grammar_port, 15)) (List.mem_of_getElem? (i := 15) rfl)
theorem sn_Tokens_misfit : Cond.selects rn_Tokens yn_Tokens_misfit yn_Tokens_misfit ∈ xw_G := xw_s1 (q := (yn_Tokens_misfit, 9)) (List.mem_of_getElem? (i := 13) rfl)
theorem sn_Tokens_stop : Cond.selects rn_Tokens yn_Tokens_stop yn_Tokens_stop ∈ xw_G := xw_s1 (q := (yn_Tokens_stop, 9)) (List.mem_of_getElem? (i := 14) rfl)
theorem sn_M_at : Cond.selects rn_M yn_M_at yn_M_at ∈ xw_G := xw_s5 (q := (yn_M_at, 91)) (List.mem_of_getElem? (i := 4) rfl)
theorem sn_M_cutTokens : Cond.selects rn_M yn_M_cutTokens yn_M_cutTokens ∈ xw_G := xw_s5 (q := (yn_M_cutTokens, 91)) (List.mem_of_getElem? (i := 2) rfl)
theorem sn_M_designGrammar : Cond.selects rn_M yn_M_designGrammar yn_M_designGrammar ∈ xw_G := xw_s5 (q := (yn_M_designGrammar, 91)) (List.mem_of_getElem? (i := 10) rfl)
theorem sn_M_fail : Cond.selects rn_M yn_M_fail yn_M_fail ∈ xw_G := xw_s5 (q := (yn_M_fail, 91)) (List.mem_of_getElem? (i := 13) rfl)
theorem sn_M_is : Cond.selects rn_M yn_M_is yn_M_is ∈ xw_G := xw_s5 (q := (yn_M_is, 91)) (List.mem_of_getElem? (i := 15) rfl)
theorem sn_M_no : Cond.selects rn_M yn_M_no yn_M_no ∈ xw_G := xw_s5 (q := (yn_M_no, 91)) (List.mem_of_getElem? (i := 12) rfl)
theorem sn_M_open : Cond.selects rn_M yn_M_open yn_M_open ∈ xw_G := xw_s5 (q := (yn_M_open, 91)) (List.mem_of_getElem? (i := 14) rfl)
theorem sn_M_readSource : Cond.selects rn_M yn_M_readSource yn_M_readSource ∈ xw_G := xw_s5 (q := (yn_M_readSource, 91)) (List.mem_of_getElem? (i := 1) rfl)
theorem sn_M_shut : Cond.selects rn_M yn_M_shut yn_M_shut ∈ xw_G := xw_s6 (q := (yn_M_shut, 91)) (List.mem_of_getElem? (i := 2) rfl)
theorem sn_M_skip : Cond.selects rn_M yn_M_skip yn_M_skip ∈ xw_G := xw_s5 (q := (yn_M_skip, 91)) (List.mem_of_getElem? (i := 3) rfl)
theorem sn_M_take : Cond.selects rn_M yn_M_take yn_M_take ∈ xw_G := xw_s5 (q := (yn_M_take, 91)) (List.mem_of_getElem? (i := 11) rfl)
theorem sn_M_token : Cond.selects rn_M yn_M_token yn_M_token ∈ xw_G := xw_s5 (q := (yn_M_token, 91)) (List.mem_of_getElem? (i := 5) rfl)
def fk_M (f : Nat → Value) : Prop := f 0 = .int 0 ∧ f 2 = .int 0 ∧ f 3 = .int 0 ∧ f 7 = .int 0 ∧ f 8 = .int 0 ∧ f 9 = .int 0 ∧ f 10 = .int 0 ∧ f 11 = .int 0 ∧ f 12 = .int 0 ∧ f 18 = .int 0 ∧ f 27 = .int 0 ∧ f 31 = .int 0 ∧ f 35 = .int 0 ∧ f 38 = .int 0 ∧ f 42 = .int 0 ∧ f 44 = .int 0 ∧ f 51 = .int 0 ∧ f 53 = .int 0 ∧ f 54 = .int 0 ∧ f 56 = .int 0 ∧ f 63 = .int 0 ∧ f 71 = .int 0 ∧ f 75 = .int 0 ∧ f 76 = .int 0 ∧ f 77 = .int 0 ∧ f 78 = .int 0 ∧ f 79 = .long 0 ∧ f 85 = .int 0 ∧ f 86 = .int 0 ∧ f 87 = .int 0 ∧ f 88 = .int 0 ∧ f 89 = .int 0
theorem dn_C_append_0 : decode bn_C_append 0 = .ok (.aload_n 0, 1) := by decide +kernel
theorem dn_C_append_1 : decode bn_C_append 1 = .ok (.getfield 67, 3) := by decide +kernel
theorem dn_C_append_4 : decode bn_C_append 4 = .ok (.getfield 85, 3) := by decide +kernel
theorem dn_C_append_7 : decode bn_C_append 7 = .ok (.getfield 158, 3) := by decide +kernel
theorem dn_C_append_10 : decode bn_C_append 10 = .ok (.astore_n 2, 1) := by decide +kernel
theorem dn_C_append_11 : decode bn_C_append 11 = .ok (.bipush 24, 2) := by decide +kernel
theorem dn_C_append_13 : decode bn_C_append 13 = .ok (.istore_n 3, 1) := by decide +kernel
theorem dn_C_append_14 : decode bn_C_append 14 = .ok (.iload_n 3, 1) := by decide +kernel
theorem dn_C_append_15 : decode bn_C_append 15 = .ok (.ifCond .lt 38, 3) := by decide +kernel
theorem dn_C_append_18 : decode bn_C_append 18 = .ok (.aload_n 0, 1) := by decide +kernel
theorem dn_C_append_19 : decode bn_C_append 19 = .ok (.getfield 70, 3) := by decide +kernel
theorem dn_C_append_22 : decode bn_C_append 22 = .ok (.aload_n 2, 1) := by decide +kernel
theorem dn_C_append_23 : decode bn_C_append 23 = .ok (.arraylength, 1) := by decide +kernel
theorem dn_C_append_24 : decode bn_C_append 24 = .ok (.if_icmp .ge 29, 3) := by decide +kernel
theorem dn_C_append_27 : decode bn_C_append 27 = .ok (.aload_n 2, 1) := by decide +kernel
theorem dn_C_append_28 : decode bn_C_append 28 = .ok (.aload_n 0, 1) := by decide +kernel
theorem dn_C_append_29 : decode bn_C_append 29 = .ok (.getfield 70, 3) := by decide +kernel
theorem dn_C_append_32 : decode bn_C_append 32 = .ok (.iload_n 1, 1) := by decide +kernel
theorem dn_C_append_33 : decode bn_C_append 33 = .ok (.iload_n 3, 1) := by decide +kernel
theorem dn_C_append_34 : decode bn_C_append 34 = .ok (.iushr, 1) := by decide +kernel
theorem dn_C_append_35 : decode bn_C_append 35 = .ok (.i2b, 1) := by decide +kernel
theorem dn_C_append_36 : decode bn_C_append 36 = .ok (.bastore, 1) := by decide +kernel
theorem dn_C_append_37 : decode bn_C_append 37 = .ok (.aload_n 0, 1) := by decide +kernel
theorem dn_C_append_38 : decode bn_C_append 38 = .ok (.dup, 1) := by decide +kernel
theorem dn_C_append_39 : decode bn_C_append 39 = .ok (.getfield 70, 3) := by decide +kernel
theorem dn_C_append_42 : decode bn_C_append 42 = .ok (.iconst 1, 1) := by decide +kernel
theorem dn_C_append_43 : decode bn_C_append 43 = .ok (.iadd, 1) := by decide +kernel
theorem dn_C_append_44 : decode bn_C_append 44 = .ok (.putfield 70, 3) := by decide +kernel
theorem dn_C_append_47 : decode bn_C_append 47 = .ok (.iinc 3 (-8), 3) := by decide +kernel
theorem dn_C_append_50 : decode bn_C_append 50 = .ok (.goto (-36), 3) := by decide +kernel
theorem dn_C_append_53 : decode bn_C_append 53 = .ok (.return_, 1) := by decide +kernel
theorem dn_C_count_0 : decode bn_C_count 0 = .ok (.aload_n 0, 1) := by decide +kernel
theorem dn_C_count_1 : decode bn_C_count 1 = .ok (.getfield 132, 3) := by decide +kernel
theorem dn_C_count_4 : decode bn_C_count 4 = .ok (.ifCond .ne 11, 3) := by decide +kernel
theorem dn_C_count_7 : decode bn_C_count 7 = .ok (.new 140, 3) := by decide +kernel
theorem dn_C_count_10 : decode bn_C_count 10 = .ok (.dup, 1) := by decide +kernel
theorem dn_C_count_11 : decode bn_C_count 11 = .ok (.invokespecial 142, 3) := by decide +kernel
theorem dn_C_count_14 : decode bn_C_count 14 = .ok (.athrow, 1) := by decide +kernel
theorem dn_C_end_0 : decode bn_C_end 0 = .ok (.iload_n 1, 1) := by decide +kernel
theorem dn_C_end_1 : decode bn_C_end 1 = .ok (.ifCond .lt 11, 3) := by decide +kernel
theorem dn_C_end_4 : decode bn_C_end 4 = .ok (.iload_n 1, 1) := by decide +kernel
theorem dn_C_end_5 : decode bn_C_end 5 = .ok (.aload_n 0, 1) := by decide +kernel
theorem dn_C_end_6 : decode bn_C_end 6 = .ok (.getfield 70, 3) := by decide +kernel
theorem dn_C_end_9 : decode bn_C_end 9 = .ok (.if_icmp .le 11, 3) := by decide +kernel
theorem dn_C_end_12 : decode bn_C_end 12 = .ok (.new 82, 3) := by decide +kernel
theorem dn_C_end_15 : decode bn_C_end 15 = .ok (.dup, 1) := by decide +kernel
theorem dn_C_end_16 : decode bn_C_end 16 = .ok (.invokespecial 84, 3) := by decide +kernel
theorem dn_C_end_19 : decode bn_C_end 19 = .ok (.athrow, 1) := by decide +kernel
theorem dn_C_end_20 : decode bn_C_end 20 = .ok (.aload_n 0, 1) := by decide +kernel
theorem dn_C_end_21 : decode bn_C_end 21 = .ok (.iload_n 1, 1) := by decide +kernel
theorem dn_C_end_22 : decode bn_C_end 22 = .ok (.putfield 70, 3) := by decide +kernel
theorem dn_C_end_25 : decode bn_C_end 25 = .ok (.return_, 1) := by decide +kernel
theorem dn_C_failing_0 : decode bn_C_failing 0 = .ok (.aload_n 0, 1) := by decide +kernel
theorem dn_C_failing_1 : decode bn_C_failing 1 = .ok (.getfield 132, 3) := by decide +kernel
theorem dn_C_failing_4 : decode bn_C_failing 4 = .ok (.ifCond .ne 11, 3) := by decide +kernel
theorem dn_C_failing_7 : decode bn_C_failing 7 = .ok (.new 140, 3) := by decide +kernel
theorem dn_C_failing_10 : decode bn_C_failing 10 = .ok (.dup, 1) := by decide +kernel
theorem dn_C_failing_11 : decode bn_C_failing 11 = .ok (.invokespecial 142, 3) := by decide +kernel
theorem dn_C_failing_14 : decode bn_C_failing 14 = .ok (.athrow, 1) := by decide +kernel
theorem dn_C_fault_0 : decode bn_C_fault 0 = .ok (.aload_n 0, 1) := by decide +kernel
theorem dn_C_fault_1 : decode bn_C_fault 1 = .ok (.getfield 111, 3) := by decide +kernel
theorem dn_C_fault_4 : decode bn_C_fault 4 = .ok (.ireturn, 1) := by decide +kernel
theorem dn_C_feed_0 : decode bn_C_feed 0 = .ok (.aload_n 0, 1) := by decide +kernel
theorem dn_C_feed_1 : decode bn_C_feed 1 = .ok (.getfield 70, 3) := by decide +kernel
theorem dn_C_feed_4 : decode bn_C_feed 4 = .ok (.bipush 20, 2) := by decide +kernel
theorem dn_C_feed_6 : decode bn_C_feed 6 = .ok (.iadd, 1) := by decide +kernel
theorem dn_C_feed_7 : decode bn_C_feed 7 = .ok (.ldc 74, 2) := by decide +kernel
theorem dn_C_feed_9 : decode bn_C_feed 9 = .ok (.if_icmp .le 11, 3) := by decide +kernel
theorem dn_C_feed_20 : decode bn_C_feed 20 = .ok (.aload_n 0, 1) := by decide +kernel
theorem dn_C_feed_21 : decode bn_C_feed 21 = .ok (.iload_n 1, 1) := by decide +kernel
theorem dn_C_feed_22 : decode bn_C_feed 22 = .ok (.invokevirtual 78, 3) := by decide +kernel
theorem dn_C_feed_25 : decode bn_C_feed 25 = .ok (.aload_n 0, 1) := by decide +kernel
theorem dn_C_feed_26 : decode bn_C_feed 26 = .ok (.iload_n 2, 1) := by decide +kernel
theorem dn_C_feed_27 : decode bn_C_feed 27 = .ok (.invokevirtual 78, 3) := by decide +kernel
theorem dn_C_feed_30 : decode bn_C_feed 30 = .ok (.aload_n 0, 1) := by decide +kernel
theorem dn_C_feed_31 : decode bn_C_feed 31 = .ok (.iload_n 3, 1) := by decide +kernel
theorem dn_C_feed_32 : decode bn_C_feed 32 = .ok (.invokevirtual 78, 3) := by decide +kernel
theorem dn_C_feed_35 : decode bn_C_feed 35 = .ok (.aload_n 0, 1) := by decide +kernel
theorem dn_C_feed_36 : decode bn_C_feed 36 = .ok (.iload 4, 2) := by decide +kernel
theorem dn_C_feed_38 : decode bn_C_feed 38 = .ok (.invokevirtual 78, 3) := by decide +kernel
theorem dn_C_feed_41 : decode bn_C_feed 41 = .ok (.aload_n 0, 1) := by decide +kernel
theorem dn_C_feed_42 : decode bn_C_feed 42 = .ok (.iload 5, 2) := by decide +kernel
theorem dn_C_feed_44 : decode bn_C_feed 44 = .ok (.invokevirtual 78, 3) := by decide +kernel
theorem dn_C_feed_47 : decode bn_C_feed 47 = .ok (.aload_n 0, 1) := by decide +kernel
theorem dn_C_feed_48 : decode bn_C_feed 48 = .ok (.getfield 70, 3) := by decide +kernel
theorem dn_C_feed_51 : decode bn_C_feed 51 = .ok (.ireturn, 1) := by decide +kernel
theorem dn_C_find_0 : decode bn_C_find 0 = .ok (.aload_n 0, 1) := by decide +kernel
theorem dn_C_find_1 : decode bn_C_find 1 = .ok (.getfield 132, 3) := by decide +kernel
theorem dn_C_find_4 : decode bn_C_find 4 = .ok (.ifCond .ne 11, 3) := by decide +kernel
theorem dn_C_find_7 : decode bn_C_find 7 = .ok (.new 140, 3) := by decide +kernel
theorem dn_C_find_10 : decode bn_C_find 10 = .ok (.dup, 1) := by decide +kernel
theorem dn_C_find_11 : decode bn_C_find 11 = .ok (.invokespecial 142, 3) := by decide +kernel
theorem dn_C_find_14 : decode bn_C_find 14 = .ok (.athrow, 1) := by decide +kernel
theorem dn_C_init_0 : decode bn_C_init 0 = .ok (.aload_n 0, 1) := by decide +kernel
theorem dn_C_init_1 : decode bn_C_init 1 = .ok (.invokespecial 3, 3) := by decide +kernel
theorem dn_C_init_4 : decode bn_C_init 4 = .ok (.aload_n 0, 1) := by decide +kernel
theorem dn_C_init_5 : decode bn_C_init 5 = .ok (.new 9, 3) := by decide +kernel
theorem dn_C_init_8 : decode bn_C_init 8 = .ok (.dup, 1) := by decide +kernel
theorem dn_C_init_9 : decode bn_C_init 9 = .ok (.invokespecial 11, 3) := by decide +kernel
theorem dn_C_init_12 : decode bn_C_init 12 = .ok (.putfield 12, 3) := by decide +kernel
theorem dn_C_init_15 : decode bn_C_init 15 = .ok (.aload_n 0, 1) := by decide +kernel
theorem dn_C_init_16 : decode bn_C_init 16 = .ok (.new 16, 3) := by decide +kernel
theorem dn_C_init_19 : decode bn_C_init 19 = .ok (.dup, 1) := by decide +kernel
theorem dn_C_init_20 : decode bn_C_init 20 = .ok (.aload_n 0, 1) := by decide +kernel
theorem dn_C_init_21 : decode bn_C_init 21 = .ok (.getfield 12, 3) := by decide +kernel
theorem dn_C_init_24 : decode bn_C_init 24 = .ok (.invokespecial 18, 3) := by decide +kernel
theorem dn_C_init_27 : decode bn_C_init 27 = .ok (.putfield 21, 3) := by decide +kernel
theorem dn_C_init_30 : decode bn_C_init 30 = .ok (.aload_n 0, 1) := by decide +kernel
theorem dn_C_init_31 : decode bn_C_init 31 = .ok (.new 25, 3) := by decide +kernel
theorem dn_C_init_34 : decode bn_C_init 34 = .ok (.dup, 1) := by decide +kernel
theorem dn_C_init_35 : decode bn_C_init 35 = .ok (.aload_n 0, 1) := by decide +kernel
theorem dn_C_init_36 : decode bn_C_init 36 = .ok (.getfield 12, 3) := by decide +kernel
theorem dn_C_init_39 : decode bn_C_init 39 = .ok (.invokespecial 27, 3) := by decide +kernel
theorem dn_C_init_42 : decode bn_C_init 42 = .ok (.putfield 28, 3) := by decide +kernel
theorem dn_C_init_45 : decode bn_C_init 45 = .ok (.aload_n 0, 1) := by decide +kernel
theorem dn_C_init_46 : decode bn_C_init 46 = .ok (.new 32, 3) := by decide +kernel
theorem dn_C_init_49 : decode bn_C_init 49 = .ok (.dup, 1) := by decide +kernel
theorem dn_C_init_50 : decode bn_C_init 50 = .ok (.aload_n 0, 1) := by decide +kernel
theorem dn_C_init_51 : decode bn_C_init 51 = .ok (.getfield 12, 3) := by decide +kernel
theorem dn_C_init_54 : decode bn_C_init 54 = .ok (.aload_n 0, 1) := by decide +kernel
theorem dn_C_init_55 : decode bn_C_init 55 = .ok (.getfield 28, 3) := by decide +kernel
theorem dn_C_init_58 : decode bn_C_init 58 = .ok (.new 34, 3) := by decide +kernel
theorem dn_C_init_61 : decode bn_C_init 61 = .ok (.dup, 1) := by decide +kernel
theorem dn_C_init_62 : decode bn_C_init 62 = .ok (.aload_n 0, 1) := by decide +kernel
theorem dn_C_init_63 : decode bn_C_init 63 = .ok (.getfield 28, 3) := by decide +kernel
theorem dn_C_init_66 : decode bn_C_init 66 = .ok (.invokespecial 36, 3) := by decide +kernel
theorem dn_C_init_69 : decode bn_C_init 69 = .ok (.invokespecial 39, 3) := by decide +kernel
theorem dn_C_init_72 : decode bn_C_init 72 = .ok (.putfield 42, 3) := by decide +kernel
theorem dn_C_init_75 : decode bn_C_init 75 = .ok (.aload_n 0, 1) := by decide +kernel
theorem dn_C_init_76 : decode bn_C_init 76 = .ok (.new 46, 3) := by decide +kernel
theorem dn_C_init_79 : decode bn_C_init 79 = .ok (.dup, 1) := by decide +kernel
theorem dn_C_init_80 : decode bn_C_init 80 = .ok (.invokespecial 48, 3) := by decide +kernel
theorem dn_C_init_83 : decode bn_C_init 83 = .ok (.putfield 49, 3) := by decide +kernel
theorem dn_C_init_86 : decode bn_C_init 86 = .ok (.aload_n 0, 1) := by decide +kernel
theorem dn_C_init_87 : decode bn_C_init 87 = .ok (.new 53, 3) := by decide +kernel
theorem dn_C_init_90 : decode bn_C_init 90 = .ok (.dup, 1) := by decide +kernel
theorem dn_C_init_91 : decode bn_C_init 91 = .ok (.invokespecial 55, 3) := by decide +kernel
theorem dn_C_init_94 : decode bn_C_init 94 = .ok (.putfield 56, 3) := by decide +kernel
theorem dn_C_init_97 : decode bn_C_init 97 = .ok (.aload_n 0, 1) := by decide +kernel
theorem dn_C_init_98 : decode bn_C_init 98 = .ok (.new 60, 3) := by decide +kernel
theorem dn_C_init_101 : decode bn_C_init 101 = .ok (.dup, 1) := by decide +kernel
theorem dn_C_init_102 : decode bn_C_init 102 = .ok (.invokespecial 62, 3) := by decide +kernel
theorem dn_C_init_105 : decode bn_C_init 105 = .ok (.putfield 63, 3) := by decide +kernel
theorem dn_C_init_108 : decode bn_C_init 108 = .ok (.aload_n 0, 1) := by decide +kernel
theorem dn_C_init_109 : decode bn_C_init 109 = .ok (.new 60, 3) := by decide +kernel
theorem dn_C_init_112 : decode bn_C_init 112 = .ok (.dup, 1) := by decide +kernel
theorem dn_C_init_113 : decode bn_C_init 113 = .ok (.invokespecial 62, 3) := by decide +kernel
theorem dn_C_init_116 : decode bn_C_init 116 = .ok (.putfield 67, 3) := by decide +kernel
theorem dn_C_init_119 : decode bn_C_init 119 = .ok (.return_, 1) := by decide +kernel
theorem dn_C_read_0 : decode bn_C_read 0 = .ok (.aload_n 0, 1) := by decide +kernel
theorem dn_C_read_1 : decode bn_C_read 1 = .ok (.getfield 67, 3) := by decide +kernel
theorem dn_C_read_4 : decode bn_C_read 4 = .ok (.getfield 85, 3) := by decide +kernel
theorem dn_C_read_7 : decode bn_C_read 7 = .ok (.astore_n 1, 1) := by decide +kernel
theorem dn_C_read_8 : decode bn_C_read 8 = .ok (.aload_n 1, 1) := by decide +kernel
theorem dn_C_read_9 : decode bn_C_read 9 = .ok (.aload_n 0, 1) := by decide +kernel
theorem dn_C_read_10 : decode bn_C_read 10 = .ok (.getfield 70, 3) := by decide +kernel
theorem dn_C_read_13 : decode bn_C_read 13 = .ok (.invokevirtual 89, 3) := by decide +kernel
theorem dn_C_read_16 : decode bn_C_read 16 = .ok (.aload_n 0, 1) := by decide +kernel
theorem dn_C_read_17 : decode bn_C_read 17 = .ok (.iconst 0, 1) := by decide +kernel
theorem dn_C_read_18 : decode bn_C_read 18 = .ok (.putfield 70, 3) := by decide +kernel
theorem dn_C_read_21 : decode bn_C_read 21 = .ok (.aload_n 0, 1) := by decide +kernel
theorem dn_C_read_22 : decode bn_C_read 22 = .ok (.getfield 21, 3) := by decide +kernel
theorem dn_C_read_25 : decode bn_C_read 25 = .ok (.aload_n 1, 1) := by decide +kernel
theorem dn_C_read_26 : decode bn_C_read 26 = .ok (.invokevirtual 94, 3) := by decide +kernel
theorem dn_C_read_29 : decode bn_C_read 29 = .ok (.aload_n 0, 1) := by decide +kernel
theorem dn_C_read_30 : decode bn_C_read 30 = .ok (.getfield 42, 3) := by decide +kernel
theorem dn_C_read_33 : decode bn_C_read 33 = .ok (.aload_n 1, 1) := by decide +kernel
theorem dn_C_read_34 : decode bn_C_read 34 = .ok (.aload_n 0, 1) := by decide +kernel
theorem dn_C_read_35 : decode bn_C_read 35 = .ok (.getfield 21, 3) := by decide +kernel
theorem dn_C_read_38 : decode bn_C_read 38 = .ok (.getfield 98, 3) := by decide +kernel
theorem dn_C_read_41 : decode bn_C_read 41 = .ok (.invokevirtual 101, 3) := by decide +kernel
theorem dn_C_read_44 : decode bn_C_read 44 = .ok (.aload_n 0, 1) := by decide +kernel
theorem dn_C_read_45 : decode bn_C_read 45 = .ok (.getfield 12, 3) := by decide +kernel
theorem dn_C_read_48 : decode bn_C_read 48 = .ok (.getfield 105, 3) := by decide +kernel
theorem dn_C_read_51 : decode bn_C_read 51 = .ok (.istore_n 2, 1) := by decide +kernel
theorem dn_C_read_52 : decode bn_C_read 52 = .ok (.aload_n 0, 1) := by decide +kernel
theorem dn_C_read_53 : decode bn_C_read 53 = .ok (.aload_n 0, 1) := by decide +kernel
theorem dn_C_read_54 : decode bn_C_read 54 = .ok (.getfield 12, 3) := by decide +kernel
theorem dn_C_read_57 : decode bn_C_read 57 = .ok (.getfield 108, 3) := by decide +kernel
theorem dn_C_read_60 : decode bn_C_read 60 = .ok (.putfield 111, 3) := by decide +kernel
theorem dn_C_read_63 : decode bn_C_read 63 = .ok (.aload_n 0, 1) := by decide +kernel
theorem dn_C_read_64 : decode bn_C_read 64 = .ok (.getfield 111, 3) := by decide +kernel
theorem dn_C_read_67 : decode bn_C_read 67 = .ok (.ifCond .ne 22, 3) := by decide +kernel
theorem dn_C_read_89 : decode bn_C_read 89 = .ok (.aload_n 0, 1) := by decide +kernel
theorem dn_C_read_90 : decode bn_C_read 90 = .ok (.getfield 111, 3) := by decide +kernel
theorem dn_C_read_93 : decode bn_C_read 93 = .ok (.ifCond .ne 16, 3) := by decide +kernel
theorem dn_C_read_109 : decode bn_C_read 109 = .ok (.aload_n 0, 1) := by decide +kernel
theorem dn_C_read_110 : decode bn_C_read 110 = .ok (.getfield 111, 3) := by decide +kernel
theorem dn_C_read_113 : decode bn_C_read 113 = .ok (.ifCond .ne 46, 3) := by decide +kernel
theorem dn_C_read_159 : decode bn_C_read 159 = .ok (.aload_n 0, 1) := by decide +kernel
theorem dn_C_read_160 : decode bn_C_read 160 = .ok (.getfield 111, 3) := by decide +kernel
theorem dn_C_read_163 : decode bn_C_read 163 = .ok (.ifCond .eq 5, 3) := by decide +kernel
theorem dn_C_read_166 : decode bn_C_read 166 = .ok (.iload_n 2, 1) := by decide +kernel
theorem dn_C_read_167 : decode bn_C_read 167 = .ok (.ireturn, 1) := by decide +kernel
theorem dn_C_reset_0 : decode bn_C_reset 0 = .ok (.aload_n 0, 1) := by decide +kernel
theorem dn_C_reset_1 : decode bn_C_reset 1 = .ok (.getfield 132, 3) := by decide +kernel
theorem dn_C_reset_4 : decode bn_C_reset 4 = .ok (.ifCond .ne 11, 3) := by decide +kernel
theorem dn_C_reset_7 : decode bn_C_reset 7 = .ok (.new 140, 3) := by decide +kernel
theorem dn_C_reset_10 : decode bn_C_reset 10 = .ok (.dup, 1) := by decide +kernel
theorem dn_C_reset_11 : decode bn_C_reset 11 = .ok (.invokespecial 142, 3) := by decide +kernel
theorem dn_C_reset_14 : decode bn_C_reset 14 = .ok (.athrow, 1) := by decide +kernel
theorem dn_C_set_0 : decode bn_C_set 0 = .ok (.aload_n 0, 1) := by decide +kernel
theorem dn_C_set_1 : decode bn_C_set 1 = .ok (.getfield 132, 3) := by decide +kernel
theorem dn_C_set_4 : decode bn_C_set 4 = .ok (.ifCond .ne 11, 3) := by decide +kernel
theorem dn_C_set_7 : decode bn_C_set 7 = .ok (.new 140, 3) := by decide +kernel
theorem dn_C_set_10 : decode bn_C_set 10 = .ok (.dup, 1) := by decide +kernel
theorem dn_C_set_11 : decode bn_C_set 11 = .ok (.invokespecial 142, 3) := by decide +kernel
theorem dn_C_set_14 : decode bn_C_set 14 = .ok (.athrow, 1) := by decide +kernel
theorem dn_C_signal_0 : decode bn_C_signal 0 = .ok (.aload_n 0, 1) := by decide +kernel
theorem dn_C_signal_1 : decode bn_C_signal 1 = .ok (.getfield 132, 3) := by decide +kernel
theorem dn_C_signal_4 : decode bn_C_signal 4 = .ok (.ifCond .ne 11, 3) := by decide +kernel
theorem dn_C_signal_7 : decode bn_C_signal 7 = .ok (.new 140, 3) := by decide +kernel
theorem dn_C_signal_10 : decode bn_C_signal 10 = .ok (.dup, 1) := by decide +kernel
theorem dn_C_signal_11 : decode bn_C_signal 11 = .ok (.invokespecial 142, 3) := by decide +kernel
theorem dn_C_signal_14 : decode bn_C_signal 14 = .ok (.athrow, 1) := by decide +kernel
theorem dn_C_step_0 : decode bn_C_step 0 = .ok (.aload_n 0, 1) := by decide +kernel
theorem dn_C_step_1 : decode bn_C_step 1 = .ok (.getfield 132, 3) := by decide +kernel
theorem dn_C_step_4 : decode bn_C_step 4 = .ok (.ifCond .ne 11, 3) := by decide +kernel
theorem dn_C_step_7 : decode bn_C_step 7 = .ok (.new 140, 3) := by decide +kernel
theorem dn_C_step_10 : decode bn_C_step 10 = .ok (.dup, 1) := by decide +kernel
theorem dn_C_step_11 : decode bn_C_step 11 = .ok (.invokespecial 142, 3) := by decide +kernel
theorem dn_C_step_14 : decode bn_C_step 14 = .ok (.athrow, 1) := by decide +kernel
theorem dn_C_value_0 : decode bn_C_value 0 = .ok (.aload_n 0, 1) := by decide +kernel
theorem dn_C_value_1 : decode bn_C_value 1 = .ok (.getfield 132, 3) := by decide +kernel
theorem dn_C_value_4 : decode bn_C_value 4 = .ok (.ifCond .ne 11, 3) := by decide +kernel
theorem dn_C_value_7 : decode bn_C_value 7 = .ok (.new 140, 3) := by decide +kernel
theorem dn_C_value_10 : decode bn_C_value 10 = .ok (.dup, 1) := by decide +kernel
theorem dn_C_value_11 : decode bn_C_value 11 = .ok (.invokespecial 142, 3) := by decide +kernel
theorem dn_C_value_14 : decode bn_C_value 14 = .ok (.athrow, 1) := by decide +kernel
theorem dn_Checker_init_0 : decode bn_Checker_init 0 = .ok (.aload_n 0, 1) := by decide +kernel
theorem dn_Checker_init_1 : decode bn_Checker_init 1 = .ok (.invokespecial 3, 3) := by decide +kernel
theorem dn_Checker_init_4 : decode bn_Checker_init 4 = .ok (.aload_n 0, 1) := by decide +kernel
theorem dn_Checker_init_5 : decode bn_Checker_init 5 = .ok (.sipush 19830, 3) := by decide +kernel
theorem dn_Checker_init_8 : decode bn_Checker_init 8 = .ok (.newarray .int, 2) := by decide +kernel
theorem dn_Checker_init_10 : decode bn_Checker_init 10 = .ok (.putfield 9, 3) := by decide +kernel
theorem dn_Checker_init_13 : decode bn_Checker_init 13 = .ok (.aload_n 0, 1) := by decide +kernel
theorem dn_Checker_init_14 : decode bn_Checker_init 14 = .ok (.sipush 19830, 3) := by decide +kernel
theorem dn_Checker_init_17 : decode bn_Checker_init 17 = .ok (.newarray .int, 2) := by decide +kernel
theorem dn_Checker_init_19 : decode bn_Checker_init 19 = .ok (.putfield 15, 3) := by decide +kernel
theorem dn_Checker_init_22 : decode bn_Checker_init 22 = .ok (.aload_n 0, 1) := by decide +kernel
theorem dn_Checker_init_23 : decode bn_Checker_init 23 = .ok (.sipush 19830, 3) := by decide +kernel
theorem dn_Checker_init_26 : decode bn_Checker_init 26 = .ok (.newarray .int, 2) := by decide +kernel
theorem dn_Checker_init_28 : decode bn_Checker_init 28 = .ok (.putfield 18, 3) := by decide +kernel
theorem dn_Checker_init_31 : decode bn_Checker_init 31 = .ok (.aload_n 0, 1) := by decide +kernel
theorem dn_Checker_init_32 : decode bn_Checker_init 32 = .ok (.sipush 10923, 3) := by decide +kernel
theorem dn_Checker_init_35 : decode bn_Checker_init 35 = .ok (.newarray .int, 2) := by decide +kernel
theorem dn_Checker_init_37 : decode bn_Checker_init 37 = .ok (.putfield 21, 3) := by decide +kernel
theorem dn_Checker_init_40 : decode bn_Checker_init 40 = .ok (.aload_n 0, 1) := by decide +kernel
theorem dn_Checker_init_41 : decode bn_Checker_init 41 = .ok (.sipush 1024, 3) := by decide +kernel
theorem dn_Checker_init_44 : decode bn_Checker_init 44 = .ok (.newarray .int, 2) := by decide +kernel
theorem dn_Checker_init_46 : decode bn_Checker_init 46 = .ok (.putfield 24, 3) := by decide +kernel
theorem dn_Checker_init_49 : decode bn_Checker_init 49 = .ok (.aload_n 0, 1) := by decide +kernel
theorem dn_Checker_init_50 : decode bn_Checker_init 50 = .ok (.aload_n 1, 1) := by decide +kernel
theorem dn_Checker_init_51 : decode bn_Checker_init 51 = .ok (.putfield 27, 3) := by decide +kernel
theorem dn_Checker_init_54 : decode bn_Checker_init 54 = .ok (.return_, 1) := by decide +kernel
theorem dn_Checker_isOff_0 : decode bn_Checker_isOff 0 = .ok (.aload_n 0, 1) := by decide +kernel
theorem dn_Checker_isOff_1 : decode bn_Checker_isOff 1 = .ok (.getfield 47, 3) := by decide +kernel
theorem dn_Checker_isOff_4 : decode bn_Checker_isOff 4 = .ok (.ifCond .ne 13, 3) := by decide +kernel
theorem dn_Checker_isOff_7 : decode bn_Checker_isOff 7 = .ok (.aload_n 0, 1) := by decide +kernel
theorem dn_Checker_isOff_8 : decode bn_Checker_isOff 8 = .ok (.getfield 27, 3) := by decide +kernel
theorem dn_Checker_isOff_11 : decode bn_Checker_isOff 11 = .ok (.getfield 67, 3) := by decide +kernel
theorem dn_Checker_isOff_14 : decode bn_Checker_isOff 14 = .ok (.ifCond .eq 7, 3) := by decide +kernel
theorem dn_Checker_isOff_17 : decode bn_Checker_isOff 17 = .ok (.iconst 1, 1) := by decide +kernel
theorem dn_Checker_isOff_18 : decode bn_Checker_isOff 18 = .ok (.goto 4, 3) := by decide +kernel
theorem dn_Checker_isOff_22 : decode bn_Checker_isOff 22 = .ok (.ireturn, 1) := by decide +kernel
theorem dn_Checker_start_0 : decode bn_Checker_start 0 = .ok (.aload_n 0, 1) := by decide +kernel
theorem dn_Checker_start_1 : decode bn_Checker_start 1 = .ok (.aload_n 1, 1) := by decide +kernel
theorem dn_Checker_start_2 : decode bn_Checker_start 2 = .ok (.getfield 31, 3) := by decide +kernel
theorem dn_Checker_start_5 : decode bn_Checker_start 5 = .ok (.putfield 37, 3) := by decide +kernel
theorem dn_Checker_start_8 : decode bn_Checker_start 8 = .ok (.aload_n 0, 1) := by decide +kernel
theorem dn_Checker_start_9 : decode bn_Checker_start 9 = .ok (.aload_n 1, 1) := by decide +kernel
theorem dn_Checker_start_10 : decode bn_Checker_start 10 = .ok (.getfield 38, 3) := by decide +kernel
theorem dn_Checker_start_13 : decode bn_Checker_start 13 = .ok (.putfield 42, 3) := by decide +kernel
theorem dn_Checker_start_16 : decode bn_Checker_start 16 = .ok (.iconst 0, 1) := by decide +kernel
theorem dn_Checker_start_17 : decode bn_Checker_start 17 = .ok (.istore_n 3, 1) := by decide +kernel
theorem dn_Checker_start_18 : decode bn_Checker_start 18 = .ok (.iload_n 3, 1) := by decide +kernel
theorem dn_Checker_start_19 : decode bn_Checker_start 19 = .ok (.iload_n 2, 1) := by decide +kernel
theorem dn_Checker_start_20 : decode bn_Checker_start 20 = .ok (.if_icmp .ge 30, 3) := by decide +kernel
theorem dn_Checker_start_50 : decode bn_Checker_start 50 = .ok (.aload_n 0, 1) := by decide +kernel
theorem dn_Checker_start_51 : decode bn_Checker_start 51 = .ok (.iconst (-1), 1) := by decide +kernel
theorem dn_Checker_start_52 : decode bn_Checker_start 52 = .ok (.putfield 43, 3) := by decide +kernel
theorem dn_Checker_start_55 : decode bn_Checker_start 55 = .ok (.aload_n 0, 1) := by decide +kernel
theorem dn_Checker_start_56 : decode bn_Checker_start 56 = .ok (.iconst 0, 1) := by decide +kernel
theorem dn_Checker_start_57 : decode bn_Checker_start 57 = .ok (.putfield 47, 3) := by decide +kernel
theorem dn_Checker_start_60 : decode bn_Checker_start 60 = .ok (.aload_n 0, 1) := by decide +kernel
theorem dn_Checker_start_61 : decode bn_Checker_start 61 = .ok (.iconst (-1), 1) := by decide +kernel
theorem dn_Checker_start_62 : decode bn_Checker_start 62 = .ok (.putfield 50, 3) := by decide +kernel
theorem dn_Checker_start_65 : decode bn_Checker_start 65 = .ok (.aload_n 0, 1) := by decide +kernel
theorem dn_Checker_start_66 : decode bn_Checker_start 66 = .ok (.iconst 0, 1) := by decide +kernel
theorem dn_Checker_start_67 : decode bn_Checker_start 67 = .ok (.putfield 53, 3) := by decide +kernel
theorem dn_Checker_start_70 : decode bn_Checker_start 70 = .ok (.return_, 1) := by decide +kernel
theorem dn_Circuit_init_0 : decode bn_Circuit_init 0 = .ok (.aload_n 0, 1) := by decide +kernel
theorem dn_Circuit_init_1 : decode bn_Circuit_init 1 = .ok (.invokespecial 3, 3) := by decide +kernel
theorem dn_Circuit_init_4 : decode bn_Circuit_init 4 = .ok (.aload_n 0, 1) := by decide +kernel
theorem dn_Circuit_init_5 : decode bn_Circuit_init 5 = .ok (.new 9, 3) := by decide +kernel
theorem dn_Circuit_init_8 : decode bn_Circuit_init 8 = .ok (.dup, 1) := by decide +kernel
theorem dn_Circuit_init_9 : decode bn_Circuit_init 9 = .ok (.invokespecial 11, 3) := by decide +kernel
theorem dn_Circuit_init_12 : decode bn_Circuit_init 12 = .ok (.putfield 12, 3) := by decide +kernel
theorem dn_Circuit_init_15 : decode bn_Circuit_init 15 = .ok (.aload_n 0, 1) := by decide +kernel
theorem dn_Circuit_init_16 : decode bn_Circuit_init 16 = .ok (.sipush 257, 3) := by decide +kernel
theorem dn_Circuit_init_19 : decode bn_Circuit_init 19 = .ok (.newarray .int, 2) := by decide +kernel
theorem dn_Circuit_init_21 : decode bn_Circuit_init 21 = .ok (.putfield 18, 3) := by decide +kernel
theorem dn_Circuit_init_24 : decode bn_Circuit_init 24 = .ok (.aload_n 0, 1) := by decide +kernel
theorem dn_Circuit_init_25 : decode bn_Circuit_init 25 = .ok (.sipush 257, 3) := by decide +kernel
theorem dn_Circuit_init_28 : decode bn_Circuit_init 28 = .ok (.newarray .int, 2) := by decide +kernel
theorem dn_Circuit_init_30 : decode bn_Circuit_init 30 = .ok (.putfield 22, 3) := by decide +kernel
theorem dn_Circuit_init_33 : decode bn_Circuit_init 33 = .ok (.aload_n 0, 1) := by decide +kernel
theorem dn_Circuit_init_34 : decode bn_Circuit_init 34 = .ok (.sipush 257, 3) := by decide +kernel
theorem dn_Circuit_init_37 : decode bn_Circuit_init 37 = .ok (.newarray .int, 2) := by decide +kernel
theorem dn_Circuit_init_39 : decode bn_Circuit_init 39 = .ok (.putfield 25, 3) := by decide +kernel
theorem dn_Circuit_init_42 : decode bn_Circuit_init 42 = .ok (.aload_n 0, 1) := by decide +kernel
theorem dn_Circuit_init_43 : decode bn_Circuit_init 43 = .ok (.sipush 257, 3) := by decide +kernel
theorem dn_Circuit_init_46 : decode bn_Circuit_init 46 = .ok (.newarray .int, 2) := by decide +kernel
theorem dn_Circuit_init_48 : decode bn_Circuit_init 48 = .ok (.putfield 28, 3) := by decide +kernel
theorem dn_Circuit_init_51 : decode bn_Circuit_init 51 = .ok (.aload_n 0, 1) := by decide +kernel
theorem dn_Circuit_init_52 : decode bn_Circuit_init 52 = .ok (.sipush 1024, 3) := by decide +kernel
theorem dn_Circuit_init_55 : decode bn_Circuit_init 55 = .ok (.newarray .int, 2) := by decide +kernel
theorem dn_Circuit_init_57 : decode bn_Circuit_init 57 = .ok (.putfield 31, 3) := by decide +kernel
theorem dn_Circuit_init_60 : decode bn_Circuit_init 60 = .ok (.aload_n 0, 1) := by decide +kernel
theorem dn_Circuit_init_61 : decode bn_Circuit_init 61 = .ok (.sipush 1024, 3) := by decide +kernel
theorem dn_Circuit_init_64 : decode bn_Circuit_init 64 = .ok (.newarray .int, 2) := by decide +kernel
theorem dn_Circuit_init_66 : decode bn_Circuit_init 66 = .ok (.putfield 34, 3) := by decide +kernel
theorem dn_Circuit_init_69 : decode bn_Circuit_init 69 = .ok (.aload_n 0, 1) := by decide +kernel
theorem dn_Circuit_init_70 : decode bn_Circuit_init 70 = .ok (.sipush 1024, 3) := by decide +kernel
theorem dn_Circuit_init_73 : decode bn_Circuit_init 73 = .ok (.newarray .int, 2) := by decide +kernel
theorem dn_Circuit_init_75 : decode bn_Circuit_init 75 = .ok (.putfield 37, 3) := by decide +kernel
theorem dn_Circuit_init_78 : decode bn_Circuit_init 78 = .ok (.aload_n 0, 1) := by decide +kernel
theorem dn_Circuit_init_79 : decode bn_Circuit_init 79 = .ok (.sipush 1024, 3) := by decide +kernel
theorem dn_Circuit_init_82 : decode bn_Circuit_init 82 = .ok (.newarray .int, 2) := by decide +kernel
theorem dn_Circuit_init_84 : decode bn_Circuit_init 84 = .ok (.putfield 40, 3) := by decide +kernel
theorem dn_Circuit_init_87 : decode bn_Circuit_init 87 = .ok (.aload_n 0, 1) := by decide +kernel
theorem dn_Circuit_init_88 : decode bn_Circuit_init 88 = .ok (.sipush 1024, 3) := by decide +kernel
theorem dn_Circuit_init_91 : decode bn_Circuit_init 91 = .ok (.newarray .int, 2) := by decide +kernel
theorem dn_Circuit_init_93 : decode bn_Circuit_init 93 = .ok (.putfield 43, 3) := by decide +kernel
theorem dn_Circuit_init_96 : decode bn_Circuit_init 96 = .ok (.aload_n 0, 1) := by decide +kernel
theorem dn_Circuit_init_97 : decode bn_Circuit_init 97 = .ok (.sipush 1024, 3) := by decide +kernel
theorem dn_Circuit_init_100 : decode bn_Circuit_init 100 = .ok (.newarray .int, 2) := by decide +kernel
theorem dn_Circuit_init_102 : decode bn_Circuit_init 102 = .ok (.putfield 46, 3) := by decide +kernel
theorem dn_Circuit_init_105 : decode bn_Circuit_init 105 = .ok (.return_, 1) := by decide +kernel
theorem dn_Code_clear_0 : decode bn_Code_clear 0 = .ok (.aload_n 0, 1) := by decide +kernel
theorem dn_Code_clear_1 : decode bn_Code_clear 1 = .ok (.iconst 0, 1) := by decide +kernel
theorem dn_Code_clear_2 : decode bn_Code_clear 2 = .ok (.putfield 23, 3) := by decide +kernel
theorem dn_Code_clear_5 : decode bn_Code_clear 5 = .ok (.aload_n 0, 1) := by decide +kernel
theorem dn_Code_clear_6 : decode bn_Code_clear 6 = .ok (.iconst 0, 1) := by decide +kernel
theorem dn_Code_clear_7 : decode bn_Code_clear 7 = .ok (.putfield 27, 3) := by decide +kernel
theorem dn_Code_clear_10 : decode bn_Code_clear 10 = .ok (.return_, 1) := by decide +kernel
theorem dn_Code_init_0 : decode bn_Code_init 0 = .ok (.aload_n 0, 1) := by decide +kernel
theorem dn_Code_init_1 : decode bn_Code_init 1 = .ok (.invokespecial 3, 3) := by decide +kernel
theorem dn_Code_init_4 : decode bn_Code_init 4 = .ok (.aload_n 0, 1) := by decide +kernel
theorem dn_Code_init_5 : decode bn_Code_init 5 = .ok (.ldc 9, 2) := by decide +kernel
theorem dn_Code_init_7 : decode bn_Code_init 7 = .ok (.newarray .long, 2) := by decide +kernel
theorem dn_Code_init_9 : decode bn_Code_init 9 = .ok (.putfield 10, 3) := by decide +kernel
theorem dn_Code_init_12 : decode bn_Code_init 12 = .ok (.aload_n 0, 1) := by decide +kernel
theorem dn_Code_init_13 : decode bn_Code_init 13 = .ok (.sipush 13108, 3) := by decide +kernel
theorem dn_Code_init_16 : decode bn_Code_init 16 = .ok (.newarray .int, 2) := by decide +kernel
theorem dn_Code_init_18 : decode bn_Code_init 18 = .ok (.putfield 16, 3) := by decide +kernel
theorem dn_Code_init_21 : decode bn_Code_init 21 = .ok (.aload_n 0, 1) := by decide +kernel
theorem dn_Code_init_22 : decode bn_Code_init 22 = .ok (.sipush 13108, 3) := by decide +kernel
theorem dn_Code_init_25 : decode bn_Code_init 25 = .ok (.newarray .long, 2) := by decide +kernel
theorem dn_Code_init_27 : decode bn_Code_init 27 = .ok (.putfield 20, 3) := by decide +kernel
theorem dn_Code_init_30 : decode bn_Code_init 30 = .ok (.return_, 1) := by decide +kernel
theorem dn_Design_clear_0 : decode bn_Design_clear 0 = .ok (.aload_n 0, 1) := by decide +kernel
theorem dn_Design_clear_1 : decode bn_Design_clear 1 = .ok (.iload_n 1, 1) := by decide +kernel
theorem dn_Design_clear_2 : decode bn_Design_clear 2 = .ok (.aload_n 0, 1) := by decide +kernel
theorem dn_Design_clear_3 : decode bn_Design_clear 3 = .ok (.getfield 26, 3) := by decide +kernel
theorem dn_Design_clear_6 : decode bn_Design_clear 6 = .ok (.arraylength, 1) := by decide +kernel
theorem dn_Design_clear_7 : decode bn_Design_clear 7 = .ok (.invokestatic 60, 3) := by decide +kernel
theorem dn_Design_clear_10 : decode bn_Design_clear 10 = .ok (.putfield 66, 3) := by decide +kernel
theorem dn_Design_clear_13 : decode bn_Design_clear 13 = .ok (.aload_n 0, 1) := by decide +kernel
theorem dn_Design_clear_14 : decode bn_Design_clear 14 = .ok (.iconst 0, 1) := by decide +kernel
theorem dn_Design_clear_15 : decode bn_Design_clear 15 = .ok (.putfield 70, 3) := by decide +kernel
theorem dn_Design_clear_18 : decode bn_Design_clear 18 = .ok (.aload_n 0, 1) := by decide +kernel
theorem dn_Design_clear_19 : decode bn_Design_clear 19 = .ok (.iconst 0, 1) := by decide +kernel
theorem dn_Design_clear_20 : decode bn_Design_clear 20 = .ok (.putfield 73, 3) := by decide +kernel
theorem dn_Design_clear_23 : decode bn_Design_clear 23 = .ok (.aload_n 0, 1) := by decide +kernel
theorem dn_Design_clear_24 : decode bn_Design_clear 24 = .ok (.iconst 0, 1) := by decide +kernel
theorem dn_Design_clear_25 : decode bn_Design_clear 25 = .ok (.putfield 76, 3) := by decide +kernel
theorem dn_Design_clear_28 : decode bn_Design_clear 28 = .ok (.aload_n 0, 1) := by decide +kernel
theorem dn_Design_clear_29 : decode bn_Design_clear 29 = .ok (.getfield 12, 3) := by decide +kernel
theorem dn_Design_clear_32 : decode bn_Design_clear 32 = .ok (.invokevirtual 79, 3) := by decide +kernel
theorem dn_Design_clear_35 : decode bn_Design_clear 35 = .ok (.aload_n 0, 1) := by decide +kernel
theorem dn_Design_clear_36 : decode bn_Design_clear 36 = .ok (.getfield 21, 3) := by decide +kernel
theorem dn_Design_clear_39 : decode bn_Design_clear 39 = .ok (.invokevirtual 82, 3) := by decide +kernel
theorem dn_Design_clear_42 : decode bn_Design_clear 42 = .ok (.return_, 1) := by decide +kernel
theorem dn_Design_init_0 : decode bn_Design_init 0 = .ok (.aload_n 0, 1) := by decide +kernel
theorem dn_Design_init_1 : decode bn_Design_init 1 = .ok (.invokespecial 3, 3) := by decide +kernel
theorem dn_Design_init_4 : decode bn_Design_init 4 = .ok (.aload_n 0, 1) := by decide +kernel
theorem dn_Design_init_5 : decode bn_Design_init 5 = .ok (.new 9, 3) := by decide +kernel
theorem dn_Design_init_8 : decode bn_Design_init 8 = .ok (.dup, 1) := by decide +kernel
theorem dn_Design_init_9 : decode bn_Design_init 9 = .ok (.invokespecial 11, 3) := by decide +kernel
theorem dn_Design_init_12 : decode bn_Design_init 12 = .ok (.putfield 12, 3) := by decide +kernel
theorem dn_Design_init_15 : decode bn_Design_init 15 = .ok (.aload_n 0, 1) := by decide +kernel
theorem dn_Design_init_16 : decode bn_Design_init 16 = .ok (.new 18, 3) := by decide +kernel
theorem dn_Design_init_19 : decode bn_Design_init 19 = .ok (.dup, 1) := by decide +kernel
theorem dn_Design_init_20 : decode bn_Design_init 20 = .ok (.invokespecial 20, 3) := by decide +kernel
theorem dn_Design_init_23 : decode bn_Design_init 23 = .ok (.putfield 21, 3) := by decide +kernel
theorem dn_Design_init_26 : decode bn_Design_init 26 = .ok (.aload_n 0, 1) := by decide +kernel
theorem dn_Design_init_27 : decode bn_Design_init 27 = .ok (.ldc 25, 2) := by decide +kernel
theorem dn_Design_init_29 : decode bn_Design_init 29 = .ok (.newarray .byte, 2) := by decide +kernel
theorem dn_Design_init_31 : decode bn_Design_init 31 = .ok (.putfield 26, 3) := by decide +kernel
theorem dn_Design_init_34 : decode bn_Design_init 34 = .ok (.aload_n 0, 1) := by decide +kernel
theorem dn_Design_init_35 : decode bn_Design_init 35 = .ok (.sipush 3277, 3) := by decide +kernel
theorem dn_Design_init_38 : decode bn_Design_init 38 = .ok (.newarray .int, 2) := by decide +kernel
theorem dn_Design_init_40 : decode bn_Design_init 40 = .ok (.putfield 30, 3) := by decide +kernel
theorem dn_Design_init_43 : decode bn_Design_init 43 = .ok (.aload_n 0, 1) := by decide +kernel
theorem dn_Design_init_44 : decode bn_Design_init 44 = .ok (.sipush 3277, 3) := by decide +kernel
theorem dn_Design_init_47 : decode bn_Design_init 47 = .ok (.newarray .int, 2) := by decide +kernel
theorem dn_Design_init_49 : decode bn_Design_init 49 = .ok (.putfield 34, 3) := by decide +kernel
theorem dn_Design_init_52 : decode bn_Design_init 52 = .ok (.aload_n 0, 1) := by decide +kernel
theorem dn_Design_init_53 : decode bn_Design_init 53 = .ok (.sipush 3277, 3) := by decide +kernel
theorem dn_Design_init_56 : decode bn_Design_init 56 = .ok (.newarray .int, 2) := by decide +kernel
theorem dn_Design_init_58 : decode bn_Design_init 58 = .ok (.putfield 37, 3) := by decide +kernel
theorem dn_Design_init_61 : decode bn_Design_init 61 = .ok (.aload_n 0, 1) := by decide +kernel
theorem dn_Design_init_62 : decode bn_Design_init 62 = .ok (.sipush 3277, 3) := by decide +kernel
theorem dn_Design_init_65 : decode bn_Design_init 65 = .ok (.newarray .int, 2) := by decide +kernel
theorem dn_Design_init_67 : decode bn_Design_init 67 = .ok (.putfield 40, 3) := by decide +kernel
theorem dn_Design_init_70 : decode bn_Design_init 70 = .ok (.aload_n 0, 1) := by decide +kernel
theorem dn_Design_init_71 : decode bn_Design_init 71 = .ok (.sipush 3277, 3) := by decide +kernel
theorem dn_Design_init_74 : decode bn_Design_init 74 = .ok (.newarray .int, 2) := by decide +kernel
theorem dn_Design_init_76 : decode bn_Design_init 76 = .ok (.putfield 43, 3) := by decide +kernel
theorem dn_Design_init_79 : decode bn_Design_init 79 = .ok (.aload_n 0, 1) := by decide +kernel
theorem dn_Design_init_80 : decode bn_Design_init 80 = .ok (.iconst 5, 1) := by decide +kernel
theorem dn_Design_init_81 : decode bn_Design_init 81 = .ok (.sipush 3277, 3) := by decide +kernel
theorem dn_Design_init_84 : decode bn_Design_init 84 = .ok (.multianewarray 46 2, 4) := by decide +kernel
theorem dn_Design_init_88 : decode bn_Design_init 88 = .ok (.putfield 48, 3) := by decide +kernel
theorem dn_Design_init_91 : decode bn_Design_init 91 = .ok (.aload_n 0, 1) := by decide +kernel
theorem dn_Design_init_92 : decode bn_Design_init 92 = .ok (.sipush 6554, 3) := by decide +kernel
theorem dn_Design_init_95 : decode bn_Design_init 95 = .ok (.newarray .int, 2) := by decide +kernel
theorem dn_Design_init_97 : decode bn_Design_init 97 = .ok (.putfield 51, 3) := by decide +kernel
theorem dn_Design_init_100 : decode bn_Design_init 100 = .ok (.aload_n 0, 1) := by decide +kernel
theorem dn_Design_init_101 : decode bn_Design_init 101 = .ok (.sipush 6554, 3) := by decide +kernel
theorem dn_Design_init_104 : decode bn_Design_init 104 = .ok (.newarray .int, 2) := by decide +kernel
theorem dn_Design_init_106 : decode bn_Design_init 106 = .ok (.putfield 54, 3) := by decide +kernel
theorem dn_Design_init_109 : decode bn_Design_init 109 = .ok (.aload_n 0, 1) := by decide +kernel
theorem dn_Design_init_110 : decode bn_Design_init 110 = .ok (.sipush 6554, 3) := by decide +kernel
theorem dn_Design_init_113 : decode bn_Design_init 113 = .ok (.newarray .int, 2) := by decide +kernel
theorem dn_Design_init_115 : decode bn_Design_init 115 = .ok (.putfield 57, 3) := by decide +kernel
theorem dn_Design_init_118 : decode bn_Design_init 118 = .ok (.return_, 1) := by decide +kernel
theorem dn_Grammar_declaration_0 : decode bn_Grammar_declaration 0 = .ok (.aload_n 0, 1) := by decide +kernel
theorem dn_Grammar_declaration_1 : decode bn_Grammar_declaration 1 = .ok (.getfield 24, 3) := by decide +kernel
theorem dn_Grammar_declaration_4 : decode bn_Grammar_declaration 4 = .ok (.getfield 70, 3) := by decide +kernel
theorem dn_Grammar_declaration_7 : decode bn_Grammar_declaration 7 = .ok (.bipush 91, 2) := by decide +kernel
theorem dn_Grammar_declaration_9 : decode bn_Grammar_declaration 9 = .ok (.if_icmp .ne 82, 3) := by decide +kernel
theorem dn_Grammar_declaration_91 : decode bn_Grammar_declaration 91 = .ok (.aload_n 0, 1) := by decide +kernel
theorem dn_Grammar_declaration_92 : decode bn_Grammar_declaration 92 = .ok (.getfield 24, 3) := by decide +kernel
theorem dn_Grammar_declaration_95 : decode bn_Grammar_declaration 95 = .ok (.iconst 2, 1) := by decide +kernel
theorem dn_Grammar_declaration_96 : decode bn_Grammar_declaration 96 = .ok (.invokevirtual 98, 3) := by decide +kernel
theorem dn_Grammar_declaration_99 : decode bn_Grammar_declaration 99 = .ok (.ifCond .eq 25, 3) := by decide +kernel
theorem dn_Grammar_declaration_124 : decode bn_Grammar_declaration 124 = .ok (.aload_n 0, 1) := by decide +kernel
theorem dn_Grammar_declaration_125 : decode bn_Grammar_declaration 125 = .ok (.getfield 24, 3) := by decide +kernel
theorem dn_Grammar_declaration_128 : decode bn_Grammar_declaration 128 = .ok (.invokevirtual 112, 3) := by decide +kernel
theorem dn_Grammar_declaration_131 : decode bn_Grammar_declaration 131 = .ok (.iload_n 1, 1) := by decide +kernel
theorem dn_Grammar_declaration_132 : decode bn_Grammar_declaration 132 = .ok (.iconst 2, 1) := by decide +kernel
theorem dn_Grammar_declaration_133 : decode bn_Grammar_declaration 133 = .ok (.if_icmp .ne 15, 3) := by decide +kernel
theorem dn_Grammar_declaration_148 : decode bn_Grammar_declaration 148 = .ok (.return_, 1) := by decide +kernel
theorem dn_Grammar_init_0 : decode bn_Grammar_init 0 = .ok (.aload_n 0, 1) := by decide +kernel
theorem dn_Grammar_init_1 : decode bn_Grammar_init 1 = .ok (.invokespecial 3, 3) := by decide +kernel
theorem dn_Grammar_init_4 : decode bn_Grammar_init 4 = .ok (.aload_n 0, 1) := by decide +kernel
theorem dn_Grammar_init_5 : decode bn_Grammar_init 5 = .ok (.bipush 60, 2) := by decide +kernel
theorem dn_Grammar_init_7 : decode bn_Grammar_init 7 = .ok (.newarray .int, 2) := by decide +kernel
theorem dn_Grammar_init_9 : decode bn_Grammar_init 9 = .ok (.putfield 9, 3) := by decide +kernel
theorem dn_Grammar_init_12 : decode bn_Grammar_init 12 = .ok (.aload_n 0, 1) := by decide +kernel
theorem dn_Grammar_init_13 : decode bn_Grammar_init 13 = .ok (.sipush 1024, 3) := by decide +kernel
theorem dn_Grammar_init_16 : decode bn_Grammar_init 16 = .ok (.newarray .int, 2) := by decide +kernel
theorem dn_Grammar_init_18 : decode bn_Grammar_init 18 = .ok (.putfield 15, 3) := by decide +kernel
theorem dn_Grammar_init_21 : decode bn_Grammar_init 21 = .ok (.aload_n 0, 1) := by decide +kernel
theorem dn_Grammar_init_22 : decode bn_Grammar_init 22 = .ok (.sipush 1024, 3) := by decide +kernel
theorem dn_Grammar_init_25 : decode bn_Grammar_init 25 = .ok (.newarray .int, 2) := by decide +kernel
theorem dn_Grammar_init_27 : decode bn_Grammar_init 27 = .ok (.putfield 18, 3) := by decide +kernel
theorem dn_Grammar_init_30 : decode bn_Grammar_init 30 = .ok (.aload_n 0, 1) := by decide +kernel
theorem dn_Grammar_init_31 : decode bn_Grammar_init 31 = .ok (.sipush 1024, 3) := by decide +kernel
theorem dn_Grammar_init_34 : decode bn_Grammar_init 34 = .ok (.newarray .int, 2) := by decide +kernel
theorem dn_Grammar_init_36 : decode bn_Grammar_init 36 = .ok (.putfield 21, 3) := by decide +kernel
theorem dn_Grammar_init_39 : decode bn_Grammar_init 39 = .ok (.aload_n 0, 1) := by decide +kernel
theorem dn_Grammar_init_40 : decode bn_Grammar_init 40 = .ok (.aload_n 1, 1) := by decide +kernel
theorem dn_Grammar_init_41 : decode bn_Grammar_init 41 = .ok (.putfield 24, 3) := by decide +kernel
theorem dn_Grammar_init_44 : decode bn_Grammar_init 44 = .ok (.aload_n 0, 1) := by decide +kernel
theorem dn_Grammar_init_45 : decode bn_Grammar_init 45 = .ok (.aload_n 2, 1) := by decide +kernel
theorem dn_Grammar_init_46 : decode bn_Grammar_init 46 = .ok (.putfield 28, 3) := by decide +kernel
theorem dn_Grammar_init_49 : decode bn_Grammar_init 49 = .ok (.aload_n 0, 1) := by decide +kernel
theorem dn_Grammar_init_50 : decode bn_Grammar_init 50 = .ok (.aload_n 3, 1) := by decide +kernel
theorem dn_Grammar_init_51 : decode bn_Grammar_init 51 = .ok (.putfield 32, 3) := by decide +kernel
theorem dn_Grammar_init_54 : decode bn_Grammar_init 54 = .ok (.return_, 1) := by decide +kernel
theorem dn_Grammar_moduleHead_0 : decode bn_Grammar_moduleHead 0 = .ok (.aload_n 0, 1) := by decide +kernel
theorem dn_Grammar_moduleHead_1 : decode bn_Grammar_moduleHead 1 = .ok (.getfield 24, 3) := by decide +kernel
theorem dn_Grammar_moduleHead_4 : decode bn_Grammar_moduleHead 4 = .ok (.sipush 128, 3) := by decide +kernel
theorem dn_Grammar_moduleHead_7 : decode bn_Grammar_moduleHead 7 = .ok (.invokevirtual 94, 3) := by decide +kernel
theorem dn_Grammar_moduleHead_10 : decode bn_Grammar_moduleHead 10 = .ok (.aload_n 0, 1) := by decide +kernel
theorem dn_Grammar_moduleHead_11 : decode bn_Grammar_moduleHead 11 = .ok (.getfield 24, 3) := by decide +kernel
theorem dn_Grammar_moduleHead_14 : decode bn_Grammar_moduleHead 14 = .ok (.iconst 2, 1) := by decide +kernel
theorem dn_Grammar_moduleHead_15 : decode bn_Grammar_moduleHead 15 = .ok (.invokevirtual 98, 3) := by decide +kernel
theorem dn_Grammar_moduleHead_18 : decode bn_Grammar_moduleHead 18 = .ok (.ifCond .eq 24, 3) := by decide +kernel
theorem dn_Grammar_moduleHead_42 : decode bn_Grammar_moduleHead 42 = .ok (.aload_n 0, 1) := by decide +kernel
theorem dn_Grammar_moduleHead_43 : decode bn_Grammar_moduleHead 43 = .ok (.getfield 24, 3) := by decide +kernel
theorem dn_Grammar_moduleHead_46 : decode bn_Grammar_moduleHead 46 = .ok (.invokevirtual 112, 3) := by decide +kernel
theorem dn_Grammar_moduleHead_49 : decode bn_Grammar_moduleHead 49 = .ok (.aload_n 0, 1) := by decide +kernel
theorem dn_Grammar_moduleHead_50 : decode bn_Grammar_moduleHead 50 = .ok (.getfield 24, 3) := by decide +kernel
theorem dn_Grammar_moduleHead_53 : decode bn_Grammar_moduleHead 53 = .ok (.bipush 40, 2) := by decide +kernel
theorem dn_Grammar_moduleHead_55 : decode bn_Grammar_moduleHead 55 = .ok (.invokevirtual 115, 3) := by decide +kernel
theorem dn_Grammar_moduleHead_58 : decode bn_Grammar_moduleHead 58 = .ok (.aload_n 0, 1) := by decide +kernel
theorem dn_Grammar_moduleHead_59 : decode bn_Grammar_moduleHead 59 = .ok (.getfield 24, 3) := by decide +kernel
theorem dn_Grammar_moduleHead_62 : decode bn_Grammar_moduleHead 62 = .ok (.getfield 70, 3) := by decide +kernel
theorem dn_Grammar_moduleHead_65 : decode bn_Grammar_moduleHead 65 = .ok (.bipush 41, 2) := by decide +kernel
theorem dn_Grammar_moduleHead_67 : decode bn_Grammar_moduleHead 67 = .ok (.if_icmp .eq 49, 3) := by decide +kernel
theorem dn_Grammar_moduleHead_70 : decode bn_Grammar_moduleHead 70 = .ok (.aload_n 0, 1) := by decide +kernel
theorem dn_Grammar_moduleHead_71 : decode bn_Grammar_moduleHead 71 = .ok (.invokevirtual 118, 3) := by decide +kernel
theorem dn_Grammar_moduleHead_74 : decode bn_Grammar_moduleHead 74 = .ok (.iconst 0, 1) := by decide +kernel
theorem dn_Grammar_moduleHead_75 : decode bn_Grammar_moduleHead 75 = .ok (.istore_n 1, 1) := by decide +kernel
theorem dn_Grammar_moduleHead_76 : decode bn_Grammar_moduleHead 76 = .ok (.iload_n 1, 1) := by decide +kernel
theorem dn_Grammar_moduleHead_77 : decode bn_Grammar_moduleHead 77 = .ok (.aload_n 0, 1) := by decide +kernel
theorem dn_Grammar_moduleHead_78 : decode bn_Grammar_moduleHead 78 = .ok (.getfield 24, 3) := by decide +kernel
theorem dn_Grammar_moduleHead_81 : decode bn_Grammar_moduleHead 81 = .ok (.getfield 61, 3) := by decide +kernel
theorem dn_Grammar_moduleHead_84 : decode bn_Grammar_moduleHead 84 = .ok (.if_icmp .ge 32, 3) := by decide +kernel
theorem dn_Grammar_moduleHead_87 : decode bn_Grammar_moduleHead 87 = .ok (.aload_n 0, 1) := by decide +kernel
theorem dn_Grammar_moduleHead_88 : decode bn_Grammar_moduleHead 88 = .ok (.getfield 24, 3) := by decide +kernel
theorem dn_Grammar_moduleHead_91 : decode bn_Grammar_moduleHead 91 = .ok (.getfield 70, 3) := by decide +kernel
theorem dn_Grammar_moduleHead_94 : decode bn_Grammar_moduleHead 94 = .ok (.bipush 44, 2) := by decide +kernel
theorem dn_Grammar_moduleHead_96 : decode bn_Grammar_moduleHead 96 = .ok (.if_icmp .ne 20, 3) := by decide +kernel
theorem dn_Grammar_moduleHead_116 : decode bn_Grammar_moduleHead 116 = .ok (.aload_n 0, 1) := by decide +kernel
theorem dn_Grammar_moduleHead_117 : decode bn_Grammar_moduleHead 117 = .ok (.getfield 24, 3) := by decide +kernel
theorem dn_Grammar_moduleHead_120 : decode bn_Grammar_moduleHead 120 = .ok (.bipush 41, 2) := by decide +kernel
theorem dn_Grammar_moduleHead_122 : decode bn_Grammar_moduleHead 122 = .ok (.invokevirtual 121, 3) := by decide +kernel
theorem dn_Grammar_moduleHead_125 : decode bn_Grammar_moduleHead 125 = .ok (.aload_n 0, 1) := by decide +kernel
theorem dn_Grammar_moduleHead_126 : decode bn_Grammar_moduleHead 126 = .ok (.getfield 24, 3) := by decide +kernel
theorem dn_Grammar_moduleHead_129 : decode bn_Grammar_moduleHead 129 = .ok (.bipush 59, 2) := by decide +kernel
theorem dn_Grammar_moduleHead_131 : decode bn_Grammar_moduleHead 131 = .ok (.invokevirtual 94, 3) := by decide +kernel
theorem dn_Grammar_moduleHead_134 : decode bn_Grammar_moduleHead 134 = .ok (.aload_n 0, 1) := by decide +kernel
theorem dn_Grammar_moduleHead_135 : decode bn_Grammar_moduleHead 135 = .ok (.getfield 32, 3) := by decide +kernel
theorem dn_Grammar_moduleHead_138 : decode bn_Grammar_moduleHead 138 = .ok (.invokevirtual 124, 3) := by decide +kernel
theorem dn_Grammar_moduleHead_141 : decode bn_Grammar_moduleHead 141 = .ok (.aload_n 0, 1) := by decide +kernel
theorem dn_Grammar_moduleHead_142 : decode bn_Grammar_moduleHead 142 = .ok (.iconst 2, 1) := by decide +kernel
theorem dn_Grammar_moduleHead_143 : decode bn_Grammar_moduleHead 143 = .ok (.putfield 58, 3) := by decide +kernel
theorem dn_Grammar_moduleHead_146 : decode bn_Grammar_moduleHead 146 = .ok (.return_, 1) := by decide +kernel
theorem dn_Grammar_parse_0 : decode bn_Grammar_parse 0 = .ok (.aload_n 0, 1) := by decide +kernel
theorem dn_Grammar_parse_1 : decode bn_Grammar_parse 1 = .ok (.getfield 24, 3) := by decide +kernel
theorem dn_Grammar_parse_4 : decode bn_Grammar_parse 4 = .ok (.invokevirtual 36, 3) := by decide +kernel
theorem dn_Grammar_parse_7 : decode bn_Grammar_parse 7 = .ok (.aload_n 0, 1) := by decide +kernel
theorem dn_Grammar_parse_8 : decode bn_Grammar_parse 8 = .ok (.getfield 28, 3) := by decide +kernel
theorem dn_Grammar_parse_11 : decode bn_Grammar_parse 11 = .ok (.aload_n 1, 1) := by decide +kernel
theorem dn_Grammar_parse_12 : decode bn_Grammar_parse 12 = .ok (.iload_n 2, 1) := by decide +kernel
theorem dn_Grammar_parse_13 : decode bn_Grammar_parse 13 = .ok (.invokevirtual 41, 3) := by decide +kernel
theorem dn_Grammar_parse_16 : decode bn_Grammar_parse 16 = .ok (.aload_n 0, 1) := by decide +kernel
theorem dn_Grammar_parse_17 : decode bn_Grammar_parse 17 = .ok (.getfield 32, 3) := by decide +kernel
theorem dn_Grammar_parse_20 : decode bn_Grammar_parse 20 = .ok (.aload_n 1, 1) := by decide +kernel
theorem dn_Grammar_parse_21 : decode bn_Grammar_parse 21 = .ok (.invokevirtual 46, 3) := by decide +kernel
theorem dn_Grammar_parse_24 : decode bn_Grammar_parse 24 = .ok (.aload_n 0, 1) := by decide +kernel
theorem dn_Grammar_parse_25 : decode bn_Grammar_parse 25 = .ok (.iconst 0, 1) := by decide +kernel
theorem dn_Grammar_parse_26 : decode bn_Grammar_parse 26 = .ok (.putfield 51, 3) := by decide +kernel
theorem dn_Grammar_parse_29 : decode bn_Grammar_parse 29 = .ok (.aload_n 0, 1) := by decide +kernel
theorem dn_Grammar_parse_30 : decode bn_Grammar_parse 30 = .ok (.iconst 0, 1) := by decide +kernel
theorem dn_Grammar_parse_31 : decode bn_Grammar_parse 31 = .ok (.putfield 55, 3) := by decide +kernel
theorem dn_Grammar_parse_34 : decode bn_Grammar_parse 34 = .ok (.aload_n 0, 1) := by decide +kernel
theorem dn_Grammar_parse_35 : decode bn_Grammar_parse 35 = .ok (.iconst 0, 1) := by decide +kernel
theorem dn_Grammar_parse_36 : decode bn_Grammar_parse 36 = .ok (.putfield 58, 3) := by decide +kernel
theorem dn_Grammar_parse_39 : decode bn_Grammar_parse 39 = .ok (.bipush 8, 2) := by decide +kernel
theorem dn_Grammar_parse_41 : decode bn_Grammar_parse 41 = .ok (.aload_n 0, 1) := by decide +kernel
theorem dn_Grammar_parse_42 : decode bn_Grammar_parse 42 = .ok (.getfield 24, 3) := by decide +kernel
theorem dn_Grammar_parse_45 : decode bn_Grammar_parse 45 = .ok (.getfield 61, 3) := by decide +kernel
theorem dn_Grammar_parse_48 : decode bn_Grammar_parse 48 = .ok (.imul, 1) := by decide +kernel
theorem dn_Grammar_parse_49 : decode bn_Grammar_parse 49 = .ok (.bipush 8, 2) := by decide +kernel
theorem dn_Grammar_parse_51 : decode bn_Grammar_parse 51 = .ok (.iadd, 1) := by decide +kernel
theorem dn_Grammar_parse_52 : decode bn_Grammar_parse 52 = .ok (.istore_n 3, 1) := by decide +kernel
theorem dn_Grammar_parse_53 : decode bn_Grammar_parse 53 = .ok (.iconst 0, 1) := by decide +kernel
theorem dn_Grammar_parse_54 : decode bn_Grammar_parse 54 = .ok (.istore 4, 2) := by decide +kernel
theorem dn_Grammar_parse_56 : decode bn_Grammar_parse 56 = .ok (.iload 4, 2) := by decide +kernel
theorem dn_Grammar_parse_58 : decode bn_Grammar_parse 58 = .ok (.iload_n 3, 1) := by decide +kernel
theorem dn_Grammar_parse_59 : decode bn_Grammar_parse 59 = .ok (.if_icmp .ge 155, 3) := by decide +kernel
theorem dn_Grammar_parse_62 : decode bn_Grammar_parse 62 = .ok (.aload_n 0, 1) := by decide +kernel
theorem dn_Grammar_parse_63 : decode bn_Grammar_parse 63 = .ok (.getfield 58, 3) := by decide +kernel
theorem dn_Grammar_parse_66 : decode bn_Grammar_parse 66 = .ok (.bipush 9, 2) := by decide +kernel
theorem dn_Grammar_parse_68 : decode bn_Grammar_parse 68 = .ok (.if_icmp .eq 146, 3) := by decide +kernel
theorem dn_Grammar_parse_71 : decode bn_Grammar_parse 71 = .ok (.aload_n 0, 1) := by decide +kernel
theorem dn_Grammar_parse_72 : decode bn_Grammar_parse 72 = .ok (.getfield 24, 3) := by decide +kernel
theorem dn_Grammar_parse_75 : decode bn_Grammar_parse 75 = .ok (.getfield 64, 3) := by decide +kernel
theorem dn_Grammar_parse_78 : decode bn_Grammar_parse 78 = .ok (.ifCond .ne 136, 3) := by decide +kernel
theorem dn_Grammar_parse_81 : decode bn_Grammar_parse 81 = .ok (.aload_n 0, 1) := by decide +kernel
theorem dn_Grammar_parse_82 : decode bn_Grammar_parse 82 = .ok (.getfield 58, 3) := by decide +kernel
theorem dn_Grammar_parse_85 : decode bn_Grammar_parse 85 = .ok (.tableswitch 119 0 7 #[47, 54, 77, 84, 91, 98, 105, 112], 47) := by decide +kernel
theorem dn_Grammar_parse_132 : decode bn_Grammar_parse 132 = .ok (.aload_n 0, 1) := by decide +kernel
theorem dn_Grammar_parse_133 : decode bn_Grammar_parse 133 = .ok (.invokevirtual 67, 3) := by decide +kernel
theorem dn_Grammar_parse_136 : decode bn_Grammar_parse 136 = .ok (.goto 72, 3) := by decide +kernel
theorem dn_Grammar_parse_208 : decode bn_Grammar_parse 208 = .ok (.iinc 4 1, 3) := by decide +kernel
theorem dn_Grammar_parse_211 : decode bn_Grammar_parse 211 = .ok (.goto (-155), 3) := by decide +kernel
theorem dn_Grammar_parse_214 : decode bn_Grammar_parse 214 = .ok (.return_, 1) := by decide +kernel
theorem dn_Grammar_port_0 : decode bn_Grammar_port 0 = .ok (.aload_n 0, 1) := by decide +kernel
theorem dn_Grammar_port_1 : decode bn_Grammar_port 1 = .ok (.getfield 24, 3) := by decide +kernel
theorem dn_Grammar_port_4 : decode bn_Grammar_port 4 = .ok (.getfield 70, 3) := by decide +kernel
theorem dn_Grammar_port_7 : decode bn_Grammar_port 7 = .ok (.sipush 130, 3) := by decide +kernel
theorem dn_Grammar_port_10 : decode bn_Grammar_port 10 = .ok (.if_icmp .ne 16, 3) := by decide +kernel
theorem dn_Grammar_port_26 : decode bn_Grammar_port 26 = .ok (.aload_n 0, 1) := by decide +kernel
theorem dn_Grammar_port_27 : decode bn_Grammar_port 27 = .ok (.getfield 24, 3) := by decide +kernel
theorem dn_Grammar_port_30 : decode bn_Grammar_port 30 = .ok (.sipush 131, 3) := by decide +kernel
theorem dn_Grammar_port_33 : decode bn_Grammar_port 33 = .ok (.invokevirtual 94, 3) := by decide +kernel
theorem dn_Grammar_port_36 : decode bn_Grammar_port 36 = .ok (.aload_n 0, 1) := by decide +kernel
theorem dn_Grammar_port_37 : decode bn_Grammar_port 37 = .ok (.getfield 24, 3) := by decide +kernel
theorem dn_Grammar_port_40 : decode bn_Grammar_port 40 = .ok (.getfield 70, 3) := by decide +kernel
theorem dn_Grammar_port_43 : decode bn_Grammar_port 43 = .ok (.sipush 133, 3) := by decide +kernel
theorem dn_Grammar_port_46 : decode bn_Grammar_port 46 = .ok (.if_icmp .ne 18, 3) := by decide +kernel
theorem dn_Grammar_port_64 : decode bn_Grammar_port 64 = .ok (.aload_n 0, 1) := by decide +kernel
theorem dn_Grammar_port_65 : decode bn_Grammar_port 65 = .ok (.iconst 1, 1) := by decide +kernel
theorem dn_Grammar_port_66 : decode bn_Grammar_port 66 = .ok (.invokevirtual 127, 3) := by decide +kernel
theorem dn_Grammar_port_69 : decode bn_Grammar_port 69 = .ok (.return_, 1) := by decide +kernel
theorem dn_L_count_0 : decode bn_L_count 0 = .ok (.aload_n 2, 1) := by decide +kernel
theorem dn_L_count_1 : decode bn_L_count 1 = .ok (.iconst 0, 1) := by decide +kernel
theorem dn_L_count_2 : decode bn_L_count 2 = .ok (.aload_n 0, 1) := by decide +kernel
theorem dn_L_count_3 : decode bn_L_count 3 = .ok (.iload_n 1, 1) := by decide +kernel
theorem dn_L_count_4 : decode bn_L_count 4 = .ok (.invokevirtual 21, 3) := by decide +kernel
theorem dn_L_count_12 : decode bn_L_count 12 = .ok (.astore_n 3, 1) := by decide +kernel
theorem dn_L_count_13 : decode bn_L_count 13 = .ok (.iconst 1, 1) := by decide +kernel
theorem dn_L_count_14 : decode bn_L_count 14 = .ok (.ireturn, 1) := by decide +kernel
theorem dn_L_end_0 : decode bn_L_end 0 = .ok (.aload_n 0, 1) := by decide +kernel
theorem dn_L_end_1 : decode bn_L_end 1 = .ok (.iload_n 1, 1) := by decide +kernel
theorem dn_L_end_2 : decode bn_L_end 2 = .ok (.invokevirtual 15, 3) := by decide +kernel
theorem dn_L_end_5 : decode bn_L_end 5 = .ok (.goto 6, 3) := by decide +kernel
theorem dn_L_end_8 : decode bn_L_end 8 = .ok (.astore_n 2, 1) := by decide +kernel
theorem dn_L_end_9 : decode bn_L_end 9 = .ok (.iconst 1, 1) := by decide +kernel
theorem dn_L_end_10 : decode bn_L_end 10 = .ok (.ireturn, 1) := by decide +kernel
theorem dn_L_end_11 : decode bn_L_end 11 = .ok (.iconst 0, 1) := by decide +kernel
theorem dn_L_end_12 : decode bn_L_end 12 = .ok (.ireturn, 1) := by decide +kernel
theorem dn_L_failing_0 : decode bn_L_failing 0 = .ok (.aload_n 1, 1) := by decide +kernel
theorem dn_L_failing_1 : decode bn_L_failing 1 = .ok (.iconst 0, 1) := by decide +kernel
theorem dn_L_failing_2 : decode bn_L_failing 2 = .ok (.aload_n 0, 1) := by decide +kernel
theorem dn_L_failing_3 : decode bn_L_failing 3 = .ok (.invokevirtual 51, 3) := by decide +kernel
theorem dn_L_failing_11 : decode bn_L_failing 11 = .ok (.astore_n 2, 1) := by decide +kernel
theorem dn_L_failing_12 : decode bn_L_failing 12 = .ok (.iconst 1, 1) := by decide +kernel
theorem dn_L_failing_13 : decode bn_L_failing 13 = .ok (.ireturn, 1) := by decide +kernel
theorem dn_L_feed_0 : decode bn_L_feed 0 = .ok (.aload 6, 2) := by decide +kernel
theorem dn_L_feed_2 : decode bn_L_feed 2 = .ok (.iconst 0, 1) := by decide +kernel
theorem dn_L_feed_3 : decode bn_L_feed 3 = .ok (.aload_n 0, 1) := by decide +kernel
theorem dn_L_feed_4 : decode bn_L_feed 4 = .ok (.iload_n 1, 1) := by decide +kernel
theorem dn_L_feed_5 : decode bn_L_feed 5 = .ok (.iload_n 2, 1) := by decide +kernel
theorem dn_L_feed_6 : decode bn_L_feed 6 = .ok (.iload_n 3, 1) := by decide +kernel
theorem dn_L_feed_7 : decode bn_L_feed 7 = .ok (.iload 4, 2) := by decide +kernel
theorem dn_L_feed_9 : decode bn_L_feed 9 = .ok (.iload 5, 2) := by decide +kernel
theorem dn_L_feed_11 : decode bn_L_feed 11 = .ok (.invokevirtual 7, 3) := by decide +kernel
theorem dn_L_feed_14 : decode bn_L_feed 14 = .ok (.i2l, 1) := by decide +kernel
theorem dn_L_feed_15 : decode bn_L_feed 15 = .ok (.lastore, 1) := by decide +kernel
theorem dn_L_feed_16 : decode bn_L_feed 16 = .ok (.goto 7, 3) := by decide +kernel
theorem dn_L_feed_23 : decode bn_L_feed 23 = .ok (.iconst 0, 1) := by decide +kernel
theorem dn_L_feed_24 : decode bn_L_feed 24 = .ok (.ireturn, 1) := by decide +kernel
theorem dn_L_find_0 : decode bn_L_find 0 = .ok (.aload_n 1, 1) := by decide +kernel
theorem dn_L_find_1 : decode bn_L_find 1 = .ok (.iconst 0, 1) := by decide +kernel
theorem dn_L_find_2 : decode bn_L_find 2 = .ok (.aload_n 0, 1) := by decide +kernel
theorem dn_L_find_3 : decode bn_L_find 3 = .ok (.invokevirtual 27, 3) := by decide +kernel
theorem dn_L_find_11 : decode bn_L_find 11 = .ok (.astore_n 2, 1) := by decide +kernel
theorem dn_L_find_12 : decode bn_L_find 12 = .ok (.iconst 1, 1) := by decide +kernel
theorem dn_L_find_13 : decode bn_L_find 13 = .ok (.ireturn, 1) := by decide +kernel
theorem dn_L_law_0 : decode bn_L_law 0 = .ok (.new 8, 3) := by decide +kernel
theorem dn_L_law_3 : decode bn_L_law 3 = .ok (.dup, 1) := by decide +kernel
theorem dn_L_law_4 : decode bn_L_law 4 = .ok (.invokespecial 54, 3) := by decide +kernel
theorem dn_L_law_7 : decode bn_L_law 7 = .ok (.astore_n 1, 1) := by decide +kernel
theorem dn_L_law_8 : decode bn_L_law 8 = .ok (.new 55, 3) := by decide +kernel
theorem dn_L_law_11 : decode bn_L_law 11 = .ok (.dup, 1) := by decide +kernel
theorem dn_L_law_12 : decode bn_L_law 12 = .ok (.invokespecial 57, 3) := by decide +kernel
theorem dn_L_law_15 : decode bn_L_law 15 = .ok (.astore_n 2, 1) := by decide +kernel
theorem dn_L_law_16 : decode bn_L_law 16 = .ok (.iconst 1, 1) := by decide +kernel
theorem dn_L_law_17 : decode bn_L_law 17 = .ok (.newarray .long, 2) := by decide +kernel
theorem dn_L_law_19 : decode bn_L_law 19 = .ok (.astore_n 3, 1) := by decide +kernel
theorem dn_L_law_20 : decode bn_L_law 20 = .ok (.iconst 0, 1) := by decide +kernel
theorem dn_L_law_21 : decode bn_L_law 21 = .ok (.istore 4, 2) := by decide +kernel
theorem dn_L_law_23 : decode bn_L_law 23 = .ok (.iload 4, 2) := by decide +kernel
theorem dn_L_law_25 : decode bn_L_law 25 = .ok (.aload_n 0, 1) := by decide +kernel
theorem dn_L_law_26 : decode bn_L_law 26 = .ok (.arraylength, 1) := by decide +kernel
theorem dn_L_law_27 : decode bn_L_law 27 = .ok (.bipush 6, 2) := by decide +kernel
theorem dn_L_law_29 : decode bn_L_law 29 = .ok (.isub, 1) := by decide +kernel
theorem dn_L_law_30 : decode bn_L_law 30 = .ok (.if_icmp .gt 629, 3) := by decide +kernel
theorem dn_L_law_33 : decode bn_L_law 33 = .ok (.aload_n 0, 1) := by decide +kernel
theorem dn_L_law_34 : decode bn_L_law 34 = .ok (.iload 4, 2) := by decide +kernel
theorem dn_L_law_36 : decode bn_L_law 36 = .ok (.iaload, 1) := by decide +kernel
theorem dn_L_law_37 : decode bn_L_law 37 = .ok (.bipush 15, 2) := by decide +kernel
theorem dn_L_law_39 : decode bn_L_law 39 = .ok (.iand, 1) := by decide +kernel
theorem dn_L_law_40 : decode bn_L_law 40 = .ok (.tableswitch 613 0 11 #[64, 168, 204, 217, 230, 286, 330, 398, 422, 470, 514, 569], 64) := by decide +kernel
theorem dn_L_law_104 : decode bn_L_law 104 = .ok (.aload_n 1, 1) := by decide +kernel
theorem dn_L_law_105 : decode bn_L_law 105 = .ok (.aload_n 0, 1) := by decide +kernel
theorem dn_L_law_106 : decode bn_L_law 106 = .ok (.iload 4, 2) := by decide +kernel
theorem dn_L_law_108 : decode bn_L_law 108 = .ok (.iconst 1, 1) := by decide +kernel
theorem dn_L_law_109 : decode bn_L_law 109 = .ok (.iadd, 1) := by decide +kernel
theorem dn_L_law_110 : decode bn_L_law 110 = .ok (.iaload, 1) := by decide +kernel
theorem dn_L_law_111 : decode bn_L_law 111 = .ok (.aload_n 0, 1) := by decide +kernel
theorem dn_L_law_112 : decode bn_L_law 112 = .ok (.iload 4, 2) := by decide +kernel
theorem dn_L_law_114 : decode bn_L_law 114 = .ok (.iconst 2, 1) := by decide +kernel
theorem dn_L_law_115 : decode bn_L_law 115 = .ok (.iadd, 1) := by decide +kernel
theorem dn_L_law_116 : decode bn_L_law 116 = .ok (.iaload, 1) := by decide +kernel
theorem dn_L_law_117 : decode bn_L_law 117 = .ok (.aload_n 0, 1) := by decide +kernel
theorem dn_L_law_118 : decode bn_L_law 118 = .ok (.iload 4, 2) := by decide +kernel
theorem dn_L_law_120 : decode bn_L_law 120 = .ok (.iconst 3, 1) := by decide +kernel
theorem dn_L_law_121 : decode bn_L_law 121 = .ok (.iadd, 1) := by decide +kernel
theorem dn_L_law_122 : decode bn_L_law 122 = .ok (.iaload, 1) := by decide +kernel
theorem dn_L_law_123 : decode bn_L_law 123 = .ok (.aload_n 0, 1) := by decide +kernel
theorem dn_L_law_124 : decode bn_L_law 124 = .ok (.iload 4, 2) := by decide +kernel
theorem dn_L_law_126 : decode bn_L_law 126 = .ok (.iconst 4, 1) := by decide +kernel
theorem dn_L_law_127 : decode bn_L_law 127 = .ok (.iadd, 1) := by decide +kernel
theorem dn_L_law_128 : decode bn_L_law 128 = .ok (.iaload, 1) := by decide +kernel
theorem dn_L_law_129 : decode bn_L_law 129 = .ok (.aload_n 0, 1) := by decide +kernel
theorem dn_L_law_130 : decode bn_L_law 130 = .ok (.iload 4, 2) := by decide +kernel
theorem dn_L_law_132 : decode bn_L_law 132 = .ok (.iconst 5, 1) := by decide +kernel
theorem dn_L_law_133 : decode bn_L_law 133 = .ok (.iadd, 1) := by decide +kernel
theorem dn_L_law_134 : decode bn_L_law 134 = .ok (.iaload, 1) := by decide +kernel
theorem dn_L_law_135 : decode bn_L_law 135 = .ok (.aload_n 3, 1) := by decide +kernel
theorem dn_L_law_136 : decode bn_L_law 136 = .ok (.invokestatic 58, 3) := by decide +kernel
theorem dn_L_law_139 : decode bn_L_law 139 = .ok (.istore 5, 2) := by decide +kernel
theorem dn_L_law_141 : decode bn_L_law 141 = .ok (.aload_n 2, 1) := by decide +kernel
theorem dn_L_law_142 : decode bn_L_law 142 = .ok (.aload_n 0, 1) := by decide +kernel
theorem dn_L_law_143 : decode bn_L_law 143 = .ok (.iload 4, 2) := by decide +kernel
theorem dn_L_law_145 : decode bn_L_law 145 = .ok (.iconst 1, 1) := by decide +kernel
theorem dn_L_law_146 : decode bn_L_law 146 = .ok (.iadd, 1) := by decide +kernel
theorem dn_L_law_147 : decode bn_L_law 147 = .ok (.iaload, 1) := by decide +kernel
theorem dn_L_law_148 : decode bn_L_law 148 = .ok (.aload_n 0, 1) := by decide +kernel
theorem dn_L_law_149 : decode bn_L_law 149 = .ok (.iload 4, 2) := by decide +kernel
theorem dn_L_law_151 : decode bn_L_law 151 = .ok (.iconst 2, 1) := by decide +kernel
theorem dn_L_law_152 : decode bn_L_law 152 = .ok (.iadd, 1) := by decide +kernel
theorem dn_L_law_153 : decode bn_L_law 153 = .ok (.iaload, 1) := by decide +kernel
theorem dn_L_law_154 : decode bn_L_law 154 = .ok (.aload_n 0, 1) := by decide +kernel
theorem dn_L_law_155 : decode bn_L_law 155 = .ok (.iload 4, 2) := by decide +kernel
theorem dn_L_law_157 : decode bn_L_law 157 = .ok (.iconst 3, 1) := by decide +kernel
theorem dn_L_law_158 : decode bn_L_law 158 = .ok (.iadd, 1) := by decide +kernel
theorem dn_L_law_159 : decode bn_L_law 159 = .ok (.iaload, 1) := by decide +kernel
theorem dn_L_law_160 : decode bn_L_law 160 = .ok (.aload_n 0, 1) := by decide +kernel
theorem dn_L_law_161 : decode bn_L_law 161 = .ok (.iload 4, 2) := by decide +kernel
theorem dn_L_law_163 : decode bn_L_law 163 = .ok (.iconst 4, 1) := by decide +kernel
theorem dn_L_law_164 : decode bn_L_law 164 = .ok (.iadd, 1) := by decide +kernel
theorem dn_L_law_165 : decode bn_L_law 165 = .ok (.iaload, 1) := by decide +kernel
theorem dn_L_law_166 : decode bn_L_law 166 = .ok (.aload_n 0, 1) := by decide +kernel
theorem dn_L_law_167 : decode bn_L_law 167 = .ok (.iload 4, 2) := by decide +kernel
theorem dn_L_law_169 : decode bn_L_law 169 = .ok (.iconst 5, 1) := by decide +kernel
theorem dn_L_law_170 : decode bn_L_law 170 = .ok (.iadd, 1) := by decide +kernel
theorem dn_L_law_171 : decode bn_L_law 171 = .ok (.iaload, 1) := by decide +kernel
theorem dn_L_law_172 : decode bn_L_law 172 = .ok (.invokevirtual 63, 3) := by decide +kernel
theorem dn_L_law_175 : decode bn_L_law 175 = .ok (.istore 6, 2) := by decide +kernel
theorem dn_L_law_177 : decode bn_L_law 177 = .ok (.aload_n 2, 1) := by decide +kernel
theorem dn_L_law_178 : decode bn_L_law 178 = .ok (.invokevirtual 64, 3) := by decide +kernel
theorem dn_L_law_181 : decode bn_L_law 181 = .ok (.iload 5, 2) := by decide +kernel
theorem dn_L_law_183 : decode bn_L_law 183 = .ok (.if_icmp .eq 5, 3) := by decide +kernel
theorem dn_L_law_188 : decode bn_L_law 188 = .ok (.iload 5, 2) := by decide +kernel
theorem dn_L_law_190 : decode bn_L_law 190 = .ok (.ifCond .ne 15, 3) := by decide +kernel
theorem dn_L_law_193 : decode bn_L_law 193 = .ok (.aload_n 3, 1) := by decide +kernel
theorem dn_L_law_194 : decode bn_L_law 194 = .ok (.iconst 0, 1) := by decide +kernel
theorem dn_L_law_195 : decode bn_L_law 195 = .ok (.laload, 1) := by decide +kernel
theorem dn_L_law_196 : decode bn_L_law 196 = .ok (.iload 6, 2) := by decide +kernel
theorem dn_L_law_198 : decode bn_L_law 198 = .ok (.i2l, 1) := by decide +kernel
theorem dn_L_law_199 : decode bn_L_law 199 = .ok (.lcmp, 1) := by decide +kernel
theorem dn_L_law_200 : decode bn_L_law 200 = .ok (.ifCond .eq 5, 3) := by decide +kernel
theorem dn_L_law_205 : decode bn_L_law 205 = .ok (.goto 448, 3) := by decide +kernel
theorem dn_L_law_208 : decode bn_L_law 208 = .ok (.aload_n 1, 1) := by decide +kernel
theorem dn_L_law_209 : decode bn_L_law 209 = .ok (.aload_n 0, 1) := by decide +kernel
theorem dn_L_law_210 : decode bn_L_law 210 = .ok (.iload 4, 2) := by decide +kernel
theorem dn_L_law_212 : decode bn_L_law 212 = .ok (.iconst 1, 1) := by decide +kernel
theorem dn_L_law_213 : decode bn_L_law 213 = .ok (.iadd, 1) := by decide +kernel
theorem dn_L_law_214 : decode bn_L_law 214 = .ok (.iaload, 1) := by decide +kernel
theorem dn_L_law_215 : decode bn_L_law 215 = .ok (.invokestatic 67, 3) := by decide +kernel
theorem dn_L_law_218 : decode bn_L_law 218 = .ok (.istore 5, 2) := by decide +kernel
theorem dn_L_law_220 : decode bn_L_law 220 = .ok (.aload_n 2, 1) := by decide +kernel
theorem dn_L_law_221 : decode bn_L_law 221 = .ok (.aload_n 0, 1) := by decide +kernel
theorem dn_L_law_222 : decode bn_L_law 222 = .ok (.iload 4, 2) := by decide +kernel
theorem dn_L_law_224 : decode bn_L_law 224 = .ok (.iconst 1, 1) := by decide +kernel
theorem dn_L_law_225 : decode bn_L_law 225 = .ok (.iadd, 1) := by decide +kernel
theorem dn_L_law_226 : decode bn_L_law 226 = .ok (.iaload, 1) := by decide +kernel
theorem dn_L_law_227 : decode bn_L_law 227 = .ok (.invokevirtual 70, 3) := by decide +kernel
theorem dn_L_law_230 : decode bn_L_law 230 = .ok (.aload_n 2, 1) := by decide +kernel
theorem dn_L_law_231 : decode bn_L_law 231 = .ok (.invokevirtual 64, 3) := by decide +kernel
theorem dn_L_law_234 : decode bn_L_law 234 = .ok (.iload 5, 2) := by decide +kernel
theorem dn_L_law_236 : decode bn_L_law 236 = .ok (.if_icmp .eq 5, 3) := by decide +kernel
theorem dn_L_law_241 : decode bn_L_law 241 = .ok (.goto 412, 3) := by decide +kernel
theorem dn_L_law_244 : decode bn_L_law 244 = .ok (.aload_n 1, 1) := by decide +kernel
theorem dn_L_law_245 : decode bn_L_law 245 = .ok (.invokevirtual 71, 3) := by decide +kernel
theorem dn_L_law_248 : decode bn_L_law 248 = .ok (.aload_n 2, 1) := by decide +kernel
theorem dn_L_law_249 : decode bn_L_law 249 = .ok (.invokevirtual 74, 3) := by decide +kernel
theorem dn_L_law_252 : decode bn_L_law 252 = .ok (.if_icmp .eq 401, 3) := by decide +kernel
theorem dn_L_law_257 : decode bn_L_law 257 = .ok (.aload_n 1, 1) := by decide +kernel
theorem dn_L_law_258 : decode bn_L_law 258 = .ok (.invokevirtual 75, 3) := by decide +kernel
theorem dn_L_law_261 : decode bn_L_law 261 = .ok (.aload_n 2, 1) := by decide +kernel
theorem dn_L_law_262 : decode bn_L_law 262 = .ok (.invokevirtual 78, 3) := by decide +kernel
theorem dn_L_law_265 : decode bn_L_law 265 = .ok (.if_icmp .eq 388, 3) := by decide +kernel
theorem dn_L_law_270 : decode bn_L_law 270 = .ok (.aload_n 1, 1) := by decide +kernel
theorem dn_L_law_271 : decode bn_L_law 271 = .ok (.aload_n 0, 1) := by decide +kernel
theorem dn_L_law_272 : decode bn_L_law 272 = .ok (.iload 4, 2) := by decide +kernel
theorem dn_L_law_274 : decode bn_L_law 274 = .ok (.iconst 1, 1) := by decide +kernel
theorem dn_L_law_275 : decode bn_L_law 275 = .ok (.iadd, 1) := by decide +kernel
theorem dn_L_law_276 : decode bn_L_law 276 = .ok (.iaload, 1) := by decide +kernel
theorem dn_L_law_277 : decode bn_L_law 277 = .ok (.aload_n 3, 1) := by decide +kernel
theorem dn_L_law_278 : decode bn_L_law 278 = .ok (.invokestatic 79, 3) := by decide +kernel
theorem dn_L_law_281 : decode bn_L_law 281 = .ok (.istore 5, 2) := by decide +kernel
theorem dn_L_law_283 : decode bn_L_law 283 = .ok (.aload_n 2, 1) := by decide +kernel
theorem dn_L_law_284 : decode bn_L_law 284 = .ok (.aload_n 0, 1) := by decide +kernel
theorem dn_L_law_285 : decode bn_L_law 285 = .ok (.iload 4, 2) := by decide +kernel
theorem dn_L_law_287 : decode bn_L_law 287 = .ok (.iconst 1, 1) := by decide +kernel
theorem dn_L_law_288 : decode bn_L_law 288 = .ok (.iadd, 1) := by decide +kernel
theorem dn_L_law_289 : decode bn_L_law 289 = .ok (.iaload, 1) := by decide +kernel
theorem dn_L_law_290 : decode bn_L_law 290 = .ok (.invokevirtual 82, 3) := by decide +kernel
theorem dn_L_law_293 : decode bn_L_law 293 = .ok (.istore 6, 2) := by decide +kernel
theorem dn_L_law_295 : decode bn_L_law 295 = .ok (.aload_n 2, 1) := by decide +kernel
theorem dn_L_law_296 : decode bn_L_law 296 = .ok (.invokevirtual 64, 3) := by decide +kernel
theorem dn_L_law_299 : decode bn_L_law 299 = .ok (.iload 5, 2) := by decide +kernel
theorem dn_L_law_301 : decode bn_L_law 301 = .ok (.if_icmp .eq 5, 3) := by decide +kernel
theorem dn_L_law_306 : decode bn_L_law 306 = .ok (.iload 5, 2) := by decide +kernel
theorem dn_L_law_308 : decode bn_L_law 308 = .ok (.ifCond .ne 15, 3) := by decide +kernel
theorem dn_L_law_323 : decode bn_L_law 323 = .ok (.goto 330, 3) := by decide +kernel
theorem dn_L_law_326 : decode bn_L_law 326 = .ok (.aload_n 1, 1) := by decide +kernel
theorem dn_L_law_327 : decode bn_L_law 327 = .ok (.aload_n 3, 1) := by decide +kernel
theorem dn_L_law_328 : decode bn_L_law 328 = .ok (.invokestatic 83, 3) := by decide +kernel
theorem dn_L_law_331 : decode bn_L_law 331 = .ok (.istore 5, 2) := by decide +kernel
theorem dn_L_law_333 : decode bn_L_law 333 = .ok (.aload_n 2, 1) := by decide +kernel
theorem dn_L_law_334 : decode bn_L_law 334 = .ok (.invokevirtual 86, 3) := by decide +kernel
theorem dn_L_law_337 : decode bn_L_law 337 = .ok (.istore 6, 2) := by decide +kernel
theorem dn_L_law_339 : decode bn_L_law 339 = .ok (.aload_n 2, 1) := by decide +kernel
theorem dn_L_law_340 : decode bn_L_law 340 = .ok (.invokevirtual 64, 3) := by decide +kernel
theorem dn_L_law_343 : decode bn_L_law 343 = .ok (.iload 5, 2) := by decide +kernel
theorem dn_L_law_345 : decode bn_L_law 345 = .ok (.if_icmp .eq 5, 3) := by decide +kernel
theorem dn_L_law_350 : decode bn_L_law 350 = .ok (.iload 5, 2) := by decide +kernel
theorem dn_L_law_352 : decode bn_L_law 352 = .ok (.ifCond .ne 15, 3) := by decide +kernel
theorem dn_L_law_367 : decode bn_L_law 367 = .ok (.goto 286, 3) := by decide +kernel
theorem dn_L_law_370 : decode bn_L_law 370 = .ok (.aload_n 1, 1) := by decide +kernel
theorem dn_L_law_371 : decode bn_L_law 371 = .ok (.aload_n 0, 1) := by decide +kernel
theorem dn_L_law_372 : decode bn_L_law 372 = .ok (.iload 4, 2) := by decide +kernel
theorem dn_L_law_374 : decode bn_L_law 374 = .ok (.iconst 1, 1) := by decide +kernel
theorem dn_L_law_375 : decode bn_L_law 375 = .ok (.iadd, 1) := by decide +kernel
theorem dn_L_law_376 : decode bn_L_law 376 = .ok (.iaload, 1) := by decide +kernel
theorem dn_L_law_377 : decode bn_L_law 377 = .ok (.aload_n 0, 1) := by decide +kernel
theorem dn_L_law_378 : decode bn_L_law 378 = .ok (.iload 4, 2) := by decide +kernel
theorem dn_L_law_380 : decode bn_L_law 380 = .ok (.iconst 2, 1) := by decide +kernel
theorem dn_L_law_381 : decode bn_L_law 381 = .ok (.iadd, 1) := by decide +kernel
theorem dn_L_law_382 : decode bn_L_law 382 = .ok (.iaload, 1) := by decide +kernel
theorem dn_L_law_383 : decode bn_L_law 383 = .ok (.aload_n 3, 1) := by decide +kernel
theorem dn_L_law_384 : decode bn_L_law 384 = .ok (.invokestatic 87, 3) := by decide +kernel
theorem dn_L_law_387 : decode bn_L_law 387 = .ok (.istore 5, 2) := by decide +kernel
theorem dn_L_law_389 : decode bn_L_law 389 = .ok (.aload_n 2, 1) := by decide +kernel
theorem dn_L_law_390 : decode bn_L_law 390 = .ok (.aload_n 0, 1) := by decide +kernel
theorem dn_L_law_391 : decode bn_L_law 391 = .ok (.iload 4, 2) := by decide +kernel
theorem dn_L_law_393 : decode bn_L_law 393 = .ok (.iconst 1, 1) := by decide +kernel
theorem dn_L_law_394 : decode bn_L_law 394 = .ok (.iadd, 1) := by decide +kernel
theorem dn_L_law_395 : decode bn_L_law 395 = .ok (.iaload, 1) := by decide +kernel
theorem dn_L_law_396 : decode bn_L_law 396 = .ok (.aload_n 0, 1) := by decide +kernel
theorem dn_L_law_397 : decode bn_L_law 397 = .ok (.iload 4, 2) := by decide +kernel
theorem dn_L_law_399 : decode bn_L_law 399 = .ok (.iconst 2, 1) := by decide +kernel
theorem dn_L_law_400 : decode bn_L_law 400 = .ok (.iadd, 1) := by decide +kernel
theorem dn_L_law_401 : decode bn_L_law 401 = .ok (.iaload, 1) := by decide +kernel
theorem dn_L_law_402 : decode bn_L_law 402 = .ok (.invokevirtual 90, 3) := by decide +kernel
theorem dn_L_law_405 : decode bn_L_law 405 = .ok (.istore 6, 2) := by decide +kernel
theorem dn_L_law_407 : decode bn_L_law 407 = .ok (.aload_n 2, 1) := by decide +kernel
theorem dn_L_law_408 : decode bn_L_law 408 = .ok (.invokevirtual 64, 3) := by decide +kernel
theorem dn_L_law_411 : decode bn_L_law 411 = .ok (.iload 5, 2) := by decide +kernel
theorem dn_L_law_413 : decode bn_L_law 413 = .ok (.if_icmp .eq 5, 3) := by decide +kernel
theorem dn_L_law_418 : decode bn_L_law 418 = .ok (.iload 5, 2) := by decide +kernel
theorem dn_L_law_420 : decode bn_L_law 420 = .ok (.ifCond .ne 15, 3) := by decide +kernel
theorem dn_L_law_435 : decode bn_L_law 435 = .ok (.goto 218, 3) := by decide +kernel
theorem dn_L_law_438 : decode bn_L_law 438 = .ok (.aload_n 1, 1) := by decide +kernel
theorem dn_L_law_439 : decode bn_L_law 439 = .ok (.invokestatic 91, 3) := by decide +kernel
theorem dn_L_law_442 : decode bn_L_law 442 = .ok (.istore 5, 2) := by decide +kernel
theorem dn_L_law_444 : decode bn_L_law 444 = .ok (.aload_n 2, 1) := by decide +kernel
theorem dn_L_law_445 : decode bn_L_law 445 = .ok (.invokevirtual 94, 3) := by decide +kernel
theorem dn_L_law_448 : decode bn_L_law 448 = .ok (.aload_n 2, 1) := by decide +kernel
theorem dn_L_law_449 : decode bn_L_law 449 = .ok (.invokevirtual 64, 3) := by decide +kernel
theorem dn_L_law_452 : decode bn_L_law 452 = .ok (.iload 5, 2) := by decide +kernel
theorem dn_L_law_454 : decode bn_L_law 454 = .ok (.if_icmp .eq 5, 3) := by decide +kernel
theorem dn_L_law_459 : decode bn_L_law 459 = .ok (.goto 194, 3) := by decide +kernel
theorem dn_L_law_462 : decode bn_L_law 462 = .ok (.aload_n 1, 1) := by decide +kernel
theorem dn_L_law_463 : decode bn_L_law 463 = .ok (.aload_n 0, 1) := by decide +kernel
theorem dn_L_law_464 : decode bn_L_law 464 = .ok (.iload 4, 2) := by decide +kernel
theorem dn_L_law_466 : decode bn_L_law 466 = .ok (.iconst 1, 1) := by decide +kernel
theorem dn_L_law_467 : decode bn_L_law 467 = .ok (.iadd, 1) := by decide +kernel
theorem dn_L_law_468 : decode bn_L_law 468 = .ok (.iaload, 1) := by decide +kernel
theorem dn_L_law_469 : decode bn_L_law 469 = .ok (.aload_n 0, 1) := by decide +kernel
theorem dn_L_law_470 : decode bn_L_law 470 = .ok (.iload 4, 2) := by decide +kernel
theorem dn_L_law_472 : decode bn_L_law 472 = .ok (.iconst 2, 1) := by decide +kernel
theorem dn_L_law_473 : decode bn_L_law 473 = .ok (.iadd, 1) := by decide +kernel
theorem dn_L_law_474 : decode bn_L_law 474 = .ok (.iaload, 1) := by decide +kernel
theorem dn_L_law_475 : decode bn_L_law 475 = .ok (.invokestatic 95, 3) := by decide +kernel
theorem dn_L_law_478 : decode bn_L_law 478 = .ok (.istore 5, 2) := by decide +kernel
theorem dn_L_law_480 : decode bn_L_law 480 = .ok (.aload_n 2, 1) := by decide +kernel
theorem dn_L_law_481 : decode bn_L_law 481 = .ok (.aload_n 0, 1) := by decide +kernel
theorem dn_L_law_482 : decode bn_L_law 482 = .ok (.iload 4, 2) := by decide +kernel
theorem dn_L_law_484 : decode bn_L_law 484 = .ok (.iconst 1, 1) := by decide +kernel
theorem dn_L_law_485 : decode bn_L_law 485 = .ok (.iadd, 1) := by decide +kernel
theorem dn_L_law_486 : decode bn_L_law 486 = .ok (.iaload, 1) := by decide +kernel
theorem dn_L_law_487 : decode bn_L_law 487 = .ok (.aload_n 0, 1) := by decide +kernel
theorem dn_L_law_488 : decode bn_L_law 488 = .ok (.iload 4, 2) := by decide +kernel
theorem dn_L_law_490 : decode bn_L_law 490 = .ok (.iconst 2, 1) := by decide +kernel
theorem dn_L_law_491 : decode bn_L_law 491 = .ok (.iadd, 1) := by decide +kernel
theorem dn_L_law_492 : decode bn_L_law 492 = .ok (.iaload, 1) := by decide +kernel
theorem dn_L_law_493 : decode bn_L_law 493 = .ok (.invokevirtual 98, 3) := by decide +kernel
theorem dn_L_law_496 : decode bn_L_law 496 = .ok (.aload_n 2, 1) := by decide +kernel
theorem dn_L_law_497 : decode bn_L_law 497 = .ok (.invokevirtual 64, 3) := by decide +kernel
theorem dn_L_law_500 : decode bn_L_law 500 = .ok (.iload 5, 2) := by decide +kernel
theorem dn_L_law_502 : decode bn_L_law 502 = .ok (.if_icmp .eq 5, 3) := by decide +kernel
theorem dn_L_law_507 : decode bn_L_law 507 = .ok (.goto 146, 3) := by decide +kernel
theorem dn_L_law_510 : decode bn_L_law 510 = .ok (.aload_n 1, 1) := by decide +kernel
theorem dn_L_law_511 : decode bn_L_law 511 = .ok (.aload_n 3, 1) := by decide +kernel
theorem dn_L_law_512 : decode bn_L_law 512 = .ok (.invokestatic 99, 3) := by decide +kernel
theorem dn_L_law_515 : decode bn_L_law 515 = .ok (.istore 5, 2) := by decide +kernel
theorem dn_L_law_517 : decode bn_L_law 517 = .ok (.aload_n 2, 1) := by decide +kernel
theorem dn_L_law_518 : decode bn_L_law 518 = .ok (.invokevirtual 101, 3) := by decide +kernel
theorem dn_L_law_521 : decode bn_L_law 521 = .ok (.istore 6, 2) := by decide +kernel
theorem dn_L_law_523 : decode bn_L_law 523 = .ok (.aload_n 2, 1) := by decide +kernel
theorem dn_L_law_524 : decode bn_L_law 524 = .ok (.invokevirtual 64, 3) := by decide +kernel
theorem dn_L_law_527 : decode bn_L_law 527 = .ok (.iload 5, 2) := by decide +kernel
theorem dn_L_law_529 : decode bn_L_law 529 = .ok (.if_icmp .eq 5, 3) := by decide +kernel
theorem dn_L_law_534 : decode bn_L_law 534 = .ok (.iload 5, 2) := by decide +kernel
theorem dn_L_law_536 : decode bn_L_law 536 = .ok (.ifCond .ne 15, 3) := by decide +kernel
theorem dn_L_law_551 : decode bn_L_law 551 = .ok (.goto 102, 3) := by decide +kernel
theorem dn_L_law_554 : decode bn_L_law 554 = .ok (.aload_n 1, 1) := by decide +kernel
theorem dn_L_law_555 : decode bn_L_law 555 = .ok (.aload_n 0, 1) := by decide +kernel
theorem dn_L_law_556 : decode bn_L_law 556 = .ok (.iload 4, 2) := by decide +kernel
theorem dn_L_law_558 : decode bn_L_law 558 = .ok (.iconst 1, 1) := by decide +kernel
theorem dn_L_law_559 : decode bn_L_law 559 = .ok (.iadd, 1) := by decide +kernel
theorem dn_L_law_560 : decode bn_L_law 560 = .ok (.iaload, 1) := by decide +kernel
theorem dn_L_law_561 : decode bn_L_law 561 = .ok (.aload_n 3, 1) := by decide +kernel
theorem dn_L_law_562 : decode bn_L_law 562 = .ok (.invokestatic 102, 3) := by decide +kernel
theorem dn_L_law_565 : decode bn_L_law 565 = .ok (.istore 5, 2) := by decide +kernel
theorem dn_L_law_567 : decode bn_L_law 567 = .ok (.aload_n 2, 1) := by decide +kernel
theorem dn_L_law_568 : decode bn_L_law 568 = .ok (.aload_n 0, 1) := by decide +kernel
theorem dn_L_law_569 : decode bn_L_law 569 = .ok (.iload 4, 2) := by decide +kernel
theorem dn_L_law_571 : decode bn_L_law 571 = .ok (.iconst 1, 1) := by decide +kernel
theorem dn_L_law_572 : decode bn_L_law 572 = .ok (.iadd, 1) := by decide +kernel
theorem dn_L_law_573 : decode bn_L_law 573 = .ok (.iaload, 1) := by decide +kernel
theorem dn_L_law_574 : decode bn_L_law 574 = .ok (.invokevirtual 104, 3) := by decide +kernel
theorem dn_L_law_577 : decode bn_L_law 577 = .ok (.lstore 6, 2) := by decide +kernel
theorem dn_L_law_579 : decode bn_L_law 579 = .ok (.aload_n 2, 1) := by decide +kernel
theorem dn_L_law_580 : decode bn_L_law 580 = .ok (.invokevirtual 64, 3) := by decide +kernel
theorem dn_L_law_583 : decode bn_L_law 583 = .ok (.iload 5, 2) := by decide +kernel
theorem dn_L_law_585 : decode bn_L_law 585 = .ok (.if_icmp .eq 5, 3) := by decide +kernel
theorem dn_L_law_590 : decode bn_L_law 590 = .ok (.iload 5, 2) := by decide +kernel
theorem dn_L_law_592 : decode bn_L_law 592 = .ok (.ifCond .ne 14, 3) := by decide +kernel
theorem dn_L_law_606 : decode bn_L_law 606 = .ok (.goto 47, 3) := by decide +kernel
theorem dn_L_law_609 : decode bn_L_law 609 = .ok (.aload_n 1, 1) := by decide +kernel
theorem dn_L_law_610 : decode bn_L_law 610 = .ok (.aload_n 3, 1) := by decide +kernel
theorem dn_L_law_611 : decode bn_L_law 611 = .ok (.invokestatic 105, 3) := by decide +kernel
theorem dn_L_law_614 : decode bn_L_law 614 = .ok (.istore 5, 2) := by decide +kernel
theorem dn_L_law_616 : decode bn_L_law 616 = .ok (.aload_n 2, 1) := by decide +kernel
theorem dn_L_law_617 : decode bn_L_law 617 = .ok (.invokevirtual 107, 3) := by decide +kernel
theorem dn_L_law_620 : decode bn_L_law 620 = .ok (.istore 6, 2) := by decide +kernel
theorem dn_L_law_622 : decode bn_L_law 622 = .ok (.aload_n 2, 1) := by decide +kernel
theorem dn_L_law_623 : decode bn_L_law 623 = .ok (.invokevirtual 64, 3) := by decide +kernel
theorem dn_L_law_626 : decode bn_L_law 626 = .ok (.iload 5, 2) := by decide +kernel
theorem dn_L_law_628 : decode bn_L_law 628 = .ok (.if_icmp .eq 5, 3) := by decide +kernel
theorem dn_L_law_633 : decode bn_L_law 633 = .ok (.iload 5, 2) := by decide +kernel
theorem dn_L_law_635 : decode bn_L_law 635 = .ok (.ifCond .ne 15, 3) := by decide +kernel
theorem dn_L_law_650 : decode bn_L_law 650 = .ok (.goto 3, 3) := by decide +kernel
theorem dn_L_law_653 : decode bn_L_law 653 = .ok (.iinc 4 6, 3) := by decide +kernel
theorem dn_L_law_656 : decode bn_L_law 656 = .ok (.goto (-633), 3) := by decide +kernel
theorem dn_L_law_659 : decode bn_L_law 659 = .ok (.iconst 1, 1) := by decide +kernel
theorem dn_L_law_660 : decode bn_L_law 660 = .ok (.ireturn, 1) := by decide +kernel
theorem dn_L_reset_0 : decode bn_L_reset 0 = .ok (.aload_n 0, 1) := by decide +kernel
theorem dn_L_reset_1 : decode bn_L_reset 1 = .ok (.invokevirtual 37, 3) := by decide +kernel
theorem dn_L_reset_7 : decode bn_L_reset 7 = .ok (.astore_n 1, 1) := by decide +kernel
theorem dn_L_reset_8 : decode bn_L_reset 8 = .ok (.iconst 1, 1) := by decide +kernel
theorem dn_L_reset_9 : decode bn_L_reset 9 = .ok (.ireturn, 1) := by decide +kernel
theorem dn_L_set_0 : decode bn_L_set 0 = .ok (.aload_n 0, 1) := by decide +kernel
theorem dn_L_set_1 : decode bn_L_set 1 = .ok (.iload_n 1, 1) := by decide +kernel
theorem dn_L_set_2 : decode bn_L_set 2 = .ok (.iload_n 2, 1) := by decide +kernel
theorem dn_L_set_3 : decode bn_L_set 3 = .ok (.invokevirtual 40, 3) := by decide +kernel
theorem dn_L_set_9 : decode bn_L_set 9 = .ok (.astore_n 3, 1) := by decide +kernel
theorem dn_L_set_10 : decode bn_L_set 10 = .ok (.iconst 1, 1) := by decide +kernel
theorem dn_L_set_11 : decode bn_L_set 11 = .ok (.ireturn, 1) := by decide +kernel
theorem dn_L_signal_0 : decode bn_L_signal 0 = .ok (.aload_n 3, 1) := by decide +kernel
theorem dn_L_signal_1 : decode bn_L_signal 1 = .ok (.iconst 0, 1) := by decide +kernel
theorem dn_L_signal_2 : decode bn_L_signal 2 = .ok (.aload_n 0, 1) := by decide +kernel
theorem dn_L_signal_3 : decode bn_L_signal 3 = .ok (.iload_n 1, 1) := by decide +kernel
theorem dn_L_signal_4 : decode bn_L_signal 4 = .ok (.iload_n 2, 1) := by decide +kernel
theorem dn_L_signal_5 : decode bn_L_signal 5 = .ok (.invokevirtual 31, 3) := by decide +kernel
theorem dn_L_signal_13 : decode bn_L_signal 13 = .ok (.astore 4, 2) := by decide +kernel
theorem dn_L_signal_15 : decode bn_L_signal 15 = .ok (.iconst 1, 1) := by decide +kernel
theorem dn_L_signal_16 : decode bn_L_signal 16 = .ok (.ireturn, 1) := by decide +kernel
theorem dn_L_step_0 : decode bn_L_step 0 = .ok (.aload_n 1, 1) := by decide +kernel
theorem dn_L_step_1 : decode bn_L_step 1 = .ok (.iconst 0, 1) := by decide +kernel
theorem dn_L_step_2 : decode bn_L_step 2 = .ok (.aload_n 0, 1) := by decide +kernel
theorem dn_L_step_3 : decode bn_L_step 3 = .ok (.invokevirtual 44, 3) := by decide +kernel
theorem dn_L_step_11 : decode bn_L_step 11 = .ok (.astore_n 2, 1) := by decide +kernel
theorem dn_L_step_12 : decode bn_L_step 12 = .ok (.iconst 1, 1) := by decide +kernel
theorem dn_L_step_13 : decode bn_L_step 13 = .ok (.ireturn, 1) := by decide +kernel
theorem dn_L_value_0 : decode bn_L_value 0 = .ok (.aload_n 2, 1) := by decide +kernel
theorem dn_L_value_1 : decode bn_L_value 1 = .ok (.iconst 0, 1) := by decide +kernel
theorem dn_L_value_2 : decode bn_L_value 2 = .ok (.aload_n 0, 1) := by decide +kernel
theorem dn_L_value_3 : decode bn_L_value 3 = .ok (.iload_n 1, 1) := by decide +kernel
theorem dn_L_value_4 : decode bn_L_value 4 = .ok (.invokevirtual 47, 3) := by decide +kernel
theorem dn_L_value_11 : decode bn_L_value 11 = .ok (.astore_n 3, 1) := by decide +kernel
theorem dn_L_value_12 : decode bn_L_value 12 = .ok (.iconst 1, 1) := by decide +kernel
theorem dn_L_value_13 : decode bn_L_value 13 = .ok (.ireturn, 1) := by decide +kernel
theorem dn_M_at_0 : decode bn_M_at 0 = .ok (.iload_n 1, 1) := by decide +kernel
theorem dn_M_at_1 : decode bn_M_at 1 = .ok (.aload_n 0, 1) := by decide +kernel
theorem dn_M_at_2 : decode bn_M_at 2 = .ok (.getfield 196, 3) := by decide +kernel
theorem dn_M_at_5 : decode bn_M_at 5 = .ok (.if_icmp .ge 16, 3) := by decide +kernel
theorem dn_M_at_21 : decode bn_M_at 21 = .ok (.iconst (-1), 1) := by decide +kernel
theorem dn_M_at_22 : decode bn_M_at 22 = .ok (.ireturn, 1) := by decide +kernel
theorem dn_M_count_0 : decode bn_M_count 0 = .ok (.aload_n 0, 1) := by decide +kernel
theorem dn_M_count_1 : decode bn_M_count 1 = .ok (.aload_n 0, 1) := by decide +kernel
theorem dn_M_count_2 : decode bn_M_count 2 = .ok (.getfield 545, 3) := by decide +kernel
theorem dn_M_count_5 : decode bn_M_count 5 = .ok (.ifCond .ne 7, 3) := by decide +kernel
theorem dn_M_count_8 : decode bn_M_count 8 = .ok (.iconst 1, 1) := by decide +kernel
theorem dn_M_count_9 : decode bn_M_count 9 = .ok (.goto 18, 3) := by decide +kernel
theorem dn_M_count_27 : decode bn_M_count 27 = .ok (.putfield 192, 3) := by decide +kernel
theorem dn_M_count_30 : decode bn_M_count 30 = .ok (.aload_n 0, 1) := by decide +kernel
theorem dn_M_count_31 : decode bn_M_count 31 = .ok (.getfield 192, 3) := by decide +kernel
theorem dn_M_count_34 : decode bn_M_count 34 = .ok (.ifCond .le 5, 3) := by decide +kernel
theorem dn_M_count_37 : decode bn_M_count 37 = .ok (.iconst 0, 1) := by decide +kernel
theorem dn_M_count_38 : decode bn_M_count 38 = .ok (.ireturn, 1) := by decide +kernel
theorem dn_M_cutTokens_0 : decode bn_M_cutTokens 0 = .ok (.aload_n 0, 1) := by decide +kernel
theorem dn_M_cutTokens_1 : decode bn_M_cutTokens 1 = .ok (.iconst 0, 1) := by decide +kernel
theorem dn_M_cutTokens_2 : decode bn_M_cutTokens 2 = .ok (.putfield 231, 3) := by decide +kernel
theorem dn_M_cutTokens_5 : decode bn_M_cutTokens 5 = .ok (.iconst 0, 1) := by decide +kernel
theorem dn_M_cutTokens_6 : decode bn_M_cutTokens 6 = .ok (.istore_n 1, 1) := by decide +kernel
theorem dn_M_cutTokens_7 : decode bn_M_cutTokens 7 = .ok (.aload_n 0, 1) := by decide +kernel
theorem dn_M_cutTokens_8 : decode bn_M_cutTokens 8 = .ok (.iload_n 1, 1) := by decide +kernel
theorem dn_M_cutTokens_9 : decode bn_M_cutTokens 9 = .ok (.invokevirtual 234, 3) := by decide +kernel
theorem dn_M_cutTokens_12 : decode bn_M_cutTokens 12 = .ok (.istore_n 2, 1) := by decide +kernel
theorem dn_M_cutTokens_13 : decode bn_M_cutTokens 13 = .ok (.iload_n 2, 1) := by decide +kernel
theorem dn_M_cutTokens_14 : decode bn_M_cutTokens 14 = .ok (.ifCond .ge 18, 3) := by decide +kernel
theorem dn_M_cutTokens_32 : decode bn_M_cutTokens 32 = .ok (.iload_n 2, 1) := by decide +kernel
theorem dn_M_cutTokens_33 : decode bn_M_cutTokens 33 = .ok (.aload_n 0, 1) := by decide +kernel
theorem dn_M_cutTokens_34 : decode bn_M_cutTokens 34 = .ok (.getfield 196, 3) := by decide +kernel
theorem dn_M_cutTokens_37 : decode bn_M_cutTokens 37 = .ok (.if_icmp .lt 19, 3) := by decide +kernel
theorem dn_M_cutTokens_40 : decode bn_M_cutTokens 40 = .ok (.aload_n 0, 1) := by decide +kernel
theorem dn_M_cutTokens_41 : decode bn_M_cutTokens 41 = .ok (.sipush 403, 3) := by decide +kernel
theorem dn_M_cutTokens_44 : decode bn_M_cutTokens 44 = .ok (.aload_n 0, 1) := by decide +kernel
theorem dn_M_cutTokens_45 : decode bn_M_cutTokens 45 = .ok (.getfield 196, 3) := by decide +kernel
theorem dn_M_cutTokens_48 : decode bn_M_cutTokens 48 = .ok (.aload_n 0, 1) := by decide +kernel
theorem dn_M_cutTokens_49 : decode bn_M_cutTokens 49 = .ok (.getfield 196, 3) := by decide +kernel
theorem dn_M_cutTokens_52 : decode bn_M_cutTokens 52 = .ok (.invokevirtual 237, 3) := by decide +kernel
theorem dn_M_cutTokens_55 : decode bn_M_cutTokens 55 = .ok (.return_, 1) := by decide +kernel
theorem dn_M_designGrammar_0 : decode bn_M_designGrammar 0 = .ok (.aload_n 0, 1) := by decide +kernel
theorem dn_M_designGrammar_1 : decode bn_M_designGrammar 1 = .ok (.iconst 0, 1) := by decide +kernel
theorem dn_M_designGrammar_2 : decode bn_M_designGrammar 2 = .ok (.putfield 263, 3) := by decide +kernel
theorem dn_M_designGrammar_5 : decode bn_M_designGrammar 5 = .ok (.aload_n 0, 1) := by decide +kernel
theorem dn_M_designGrammar_6 : decode bn_M_designGrammar 6 = .ok (.iconst 0, 1) := by decide +kernel
theorem dn_M_designGrammar_7 : decode bn_M_designGrammar 7 = .ok (.putfield 276, 3) := by decide +kernel
theorem dn_M_designGrammar_10 : decode bn_M_designGrammar 10 = .ok (.iconst 1, 1) := by decide +kernel
theorem dn_M_designGrammar_11 : decode bn_M_designGrammar 11 = .ok (.istore_n 1, 1) := by decide +kernel
theorem dn_M_designGrammar_12 : decode bn_M_designGrammar 12 = .ok (.iload_n 1, 1) := by decide +kernel
theorem dn_M_designGrammar_13 : decode bn_M_designGrammar 13 = .ok (.ifCond .eq 149, 3) := by decide +kernel
theorem dn_M_designGrammar_16 : decode bn_M_designGrammar 16 = .ok (.aload_n 0, 1) := by decide +kernel
theorem dn_M_designGrammar_17 : decode bn_M_designGrammar 17 = .ok (.getfield 257, 3) := by decide +kernel
theorem dn_M_designGrammar_20 : decode bn_M_designGrammar 20 = .ok (.ifCond .ne 142, 3) := by decide +kernel
theorem dn_M_designGrammar_23 : decode bn_M_designGrammar 23 = .ok (.aload_n 0, 1) := by decide +kernel
theorem dn_M_designGrammar_24 : decode bn_M_designGrammar 24 = .ok (.sipush 300, 3) := by decide +kernel
theorem dn_M_designGrammar_27 : decode bn_M_designGrammar 27 = .ok (.invokevirtual 279, 3) := by decide +kernel
theorem dn_M_designGrammar_30 : decode bn_M_designGrammar 30 = .ok (.aload_n 0, 1) := by decide +kernel
theorem dn_M_designGrammar_31 : decode bn_M_designGrammar 31 = .ok (.sipush 400, 3) := by decide +kernel
theorem dn_M_designGrammar_34 : decode bn_M_designGrammar 34 = .ok (.invokevirtual 279, 3) := by decide +kernel
theorem dn_M_designGrammar_37 : decode bn_M_designGrammar 37 = .ok (.aload_n 0, 1) := by decide +kernel
theorem dn_M_designGrammar_38 : decode bn_M_designGrammar 38 = .ok (.bipush 40, 2) := by decide +kernel
theorem dn_M_designGrammar_40 : decode bn_M_designGrammar 40 = .ok (.invokevirtual 293, 3) := by decide +kernel
theorem dn_M_designGrammar_43 : decode bn_M_designGrammar 43 = .ok (.aload_n 0, 1) := by decide +kernel
theorem dn_M_designGrammar_44 : decode bn_M_designGrammar 44 = .ok (.sipush 302, 3) := by decide +kernel
theorem dn_M_designGrammar_47 : decode bn_M_designGrammar 47 = .ok (.invokevirtual 273, 3) := by decide +kernel
theorem dn_M_designGrammar_50 : decode bn_M_designGrammar 50 = .ok (.ifCond .ne 13, 3) := by decide +kernel
theorem dn_M_designGrammar_53 : decode bn_M_designGrammar 53 = .ok (.aload_n 0, 1) := by decide +kernel
theorem dn_M_designGrammar_54 : decode bn_M_designGrammar 54 = .ok (.sipush 303, 3) := by decide +kernel
theorem dn_M_designGrammar_57 : decode bn_M_designGrammar 57 = .ok (.invokevirtual 273, 3) := by decide +kernel
theorem dn_M_designGrammar_60 : decode bn_M_designGrammar 60 = .ok (.ifCond .eq 33, 3) := by decide +kernel
theorem dn_M_designGrammar_93 : decode bn_M_designGrammar 93 = .ok (.aload_n 0, 1) := by decide +kernel
theorem dn_M_designGrammar_94 : decode bn_M_designGrammar 94 = .ok (.bipush 41, 2) := by decide +kernel
theorem dn_M_designGrammar_96 : decode bn_M_designGrammar 96 = .ok (.invokevirtual 305, 3) := by decide +kernel
theorem dn_M_designGrammar_99 : decode bn_M_designGrammar 99 = .ok (.aload_n 0, 1) := by decide +kernel
theorem dn_M_designGrammar_100 : decode bn_M_designGrammar 100 = .ok (.bipush 59, 2) := by decide +kernel
theorem dn_M_designGrammar_102 : decode bn_M_designGrammar 102 = .ok (.invokevirtual 279, 3) := by decide +kernel
theorem dn_M_designGrammar_105 : decode bn_M_designGrammar 105 = .ok (.aload_n 0, 1) := by decide +kernel
theorem dn_M_designGrammar_106 : decode bn_M_designGrammar 106 = .ok (.getfield 257, 3) := by decide +kernel
theorem dn_M_designGrammar_109 : decode bn_M_designGrammar 109 = .ok (.ifCond .ne 20, 3) := by decide +kernel
theorem dn_M_designGrammar_129 : decode bn_M_designGrammar 129 = .ok (.aload_n 0, 1) := by decide +kernel
theorem dn_M_designGrammar_130 : decode bn_M_designGrammar 130 = .ok (.sipush 301, 3) := by decide +kernel
theorem dn_M_designGrammar_133 : decode bn_M_designGrammar 133 = .ok (.invokevirtual 279, 3) := by decide +kernel
theorem dn_M_designGrammar_136 : decode bn_M_designGrammar 136 = .ok (.aload_n 0, 1) := by decide +kernel
theorem dn_M_designGrammar_137 : decode bn_M_designGrammar 137 = .ok (.getfield 257, 3) := by decide +kernel
theorem dn_M_designGrammar_140 : decode bn_M_designGrammar 140 = .ok (.ifCond .ne 17, 3) := by decide +kernel
theorem dn_M_designGrammar_157 : decode bn_M_designGrammar 157 = .ok (.iconst 0, 1) := by decide +kernel
theorem dn_M_designGrammar_158 : decode bn_M_designGrammar 158 = .ok (.istore_n 1, 1) := by decide +kernel
theorem dn_M_designGrammar_159 : decode bn_M_designGrammar 159 = .ok (.goto (-147), 3) := by decide +kernel
theorem dn_M_designGrammar_162 : decode bn_M_designGrammar 162 = .ok (.return_, 1) := by decide +kernel
theorem dn_M_end_0 : decode bn_M_end 0 = .ok (.aload_n 0, 1) := by decide +kernel
theorem dn_M_end_1 : decode bn_M_end 1 = .ok (.iload_n 1, 1) := by decide +kernel
theorem dn_M_end_2 : decode bn_M_end 2 = .ok (.ifCond .lt 11, 3) := by decide +kernel
theorem dn_M_end_5 : decode bn_M_end 5 = .ok (.iload_n 1, 1) := by decide +kernel
theorem dn_M_end_6 : decode bn_M_end 6 = .ok (.aload_n 0, 1) := by decide +kernel
theorem dn_M_end_7 : decode bn_M_end 7 = .ok (.getfield 536, 3) := by decide +kernel
theorem dn_M_end_10 : decode bn_M_end 10 = .ok (.if_icmp .le 7, 3) := by decide +kernel
theorem dn_M_end_13 : decode bn_M_end 13 = .ok (.iconst 1, 1) := by decide +kernel
theorem dn_M_end_14 : decode bn_M_end 14 = .ok (.goto 4, 3) := by decide +kernel
theorem dn_M_end_17 : decode bn_M_end 17 = .ok (.iconst 0, 1) := by decide +kernel
theorem dn_M_end_18 : decode bn_M_end 18 = .ok (.putfield 192, 3) := by decide +kernel
theorem dn_M_end_21 : decode bn_M_end 21 = .ok (.aload_n 0, 1) := by decide +kernel
theorem dn_M_end_22 : decode bn_M_end 22 = .ok (.aload_n 0, 1) := by decide +kernel
theorem dn_M_end_23 : decode bn_M_end 23 = .ok (.getfield 192, 3) := by decide +kernel
theorem dn_M_end_26 : decode bn_M_end 26 = .ok (.ifCond .le 10, 3) := by decide +kernel
theorem dn_M_end_29 : decode bn_M_end 29 = .ok (.aload_n 0, 1) := by decide +kernel
theorem dn_M_end_30 : decode bn_M_end 30 = .ok (.getfield 536, 3) := by decide +kernel
theorem dn_M_end_33 : decode bn_M_end 33 = .ok (.goto 4, 3) := by decide +kernel
theorem dn_M_end_36 : decode bn_M_end 36 = .ok (.iload_n 1, 1) := by decide +kernel
theorem dn_M_end_37 : decode bn_M_end 37 = .ok (.putfield 536, 3) := by decide +kernel
theorem dn_M_end_40 : decode bn_M_end 40 = .ok (.return_, 1) := by decide +kernel
theorem dn_M_fail_0 : decode bn_M_fail 0 = .ok (.aload_n 0, 1) := by decide +kernel
theorem dn_M_fail_1 : decode bn_M_fail 1 = .ok (.getfield 257, 3) := by decide +kernel
theorem dn_M_fail_4 : decode bn_M_fail 4 = .ok (.ifCond .ne 13, 3) := by decide +kernel
theorem dn_M_fail_7 : decode bn_M_fail 7 = .ok (.aload_n 0, 1) := by decide +kernel
theorem dn_M_fail_8 : decode bn_M_fail 8 = .ok (.iload_n 1, 1) := by decide +kernel
theorem dn_M_fail_9 : decode bn_M_fail 9 = .ok (.putfield 257, 3) := by decide +kernel
theorem dn_M_fail_12 : decode bn_M_fail 12 = .ok (.aload_n 0, 1) := by decide +kernel
theorem dn_M_fail_13 : decode bn_M_fail 13 = .ok (.iload_n 2, 1) := by decide +kernel
theorem dn_M_fail_14 : decode bn_M_fail 14 = .ok (.putfield 260, 3) := by decide +kernel
theorem dn_M_fail_17 : decode bn_M_fail 17 = .ok (.return_, 1) := by decide +kernel
theorem dn_M_failing_0 : decode bn_M_failing 0 = .ok (.aload_n 0, 1) := by decide +kernel
theorem dn_M_failing_1 : decode bn_M_failing 1 = .ok (.aload_n 0, 1) := by decide +kernel
theorem dn_M_failing_2 : decode bn_M_failing 2 = .ok (.getfield 545, 3) := by decide +kernel
theorem dn_M_failing_5 : decode bn_M_failing 5 = .ok (.ifCond .eq 7, 3) := by decide +kernel
theorem dn_M_failing_12 : decode bn_M_failing 12 = .ok (.iconst 1, 1) := by decide +kernel
theorem dn_M_failing_13 : decode bn_M_failing 13 = .ok (.putfield 192, 3) := by decide +kernel
theorem dn_M_failing_16 : decode bn_M_failing 16 = .ok (.aload_n 0, 1) := by decide +kernel
theorem dn_M_failing_17 : decode bn_M_failing 17 = .ok (.getfield 192, 3) := by decide +kernel
theorem dn_M_failing_20 : decode bn_M_failing 20 = .ok (.ifCond .le 7, 3) := by decide +kernel
theorem dn_M_failing_23 : decode bn_M_failing 23 = .ok (.iconst 0, 1) := by decide +kernel
theorem dn_M_failing_24 : decode bn_M_failing 24 = .ok (.goto 7, 3) := by decide +kernel
theorem dn_M_failing_31 : decode bn_M_failing 31 = .ok (.ireturn, 1) := by decide +kernel
theorem dn_M_fault_0 : decode bn_M_fault 0 = .ok (.aload_n 0, 1) := by decide +kernel
theorem dn_M_fault_1 : decode bn_M_fault 1 = .ok (.iconst 0, 1) := by decide +kernel
theorem dn_M_fault_2 : decode bn_M_fault 2 = .ok (.putfield 192, 3) := by decide +kernel
theorem dn_M_fault_5 : decode bn_M_fault 5 = .ok (.aload_n 0, 1) := by decide +kernel
theorem dn_M_fault_6 : decode bn_M_fault 6 = .ok (.getfield 542, 3) := by decide +kernel
theorem dn_M_fault_9 : decode bn_M_fault 9 = .ok (.ireturn, 1) := by decide +kernel
theorem dn_M_feed_0 : decode bn_M_feed 0 = .ok (.aload_n 0, 1) := by decide +kernel
theorem dn_M_feed_1 : decode bn_M_feed 1 = .ok (.aload_n 0, 1) := by decide +kernel
theorem dn_M_feed_2 : decode bn_M_feed 2 = .ok (.getfield 536, 3) := by decide +kernel
theorem dn_M_feed_5 : decode bn_M_feed 5 = .ok (.bipush 20, 2) := by decide +kernel
theorem dn_M_feed_7 : decode bn_M_feed 7 = .ok (.iadd, 1) := by decide +kernel
theorem dn_M_feed_8 : decode bn_M_feed 8 = .ok (.aload_n 0, 1) := by decide +kernel
theorem dn_M_feed_9 : decode bn_M_feed 9 = .ok (.getfield 8, 3) := by decide +kernel
theorem dn_M_feed_12 : decode bn_M_feed 12 = .ok (.arraylength, 1) := by decide +kernel
theorem dn_M_feed_13 : decode bn_M_feed 13 = .ok (.if_icmp .le 7, 3) := by decide +kernel
theorem dn_M_feed_20 : decode bn_M_feed 20 = .ok (.iconst 0, 1) := by decide +kernel
theorem dn_M_feed_21 : decode bn_M_feed 21 = .ok (.putfield 192, 3) := by decide +kernel
theorem dn_M_feed_24 : decode bn_M_feed 24 = .ok (.aload_n 0, 1) := by decide +kernel
theorem dn_M_feed_25 : decode bn_M_feed 25 = .ok (.getfield 192, 3) := by decide +kernel
theorem dn_M_feed_28 : decode bn_M_feed 28 = .ok (.ifCond .le 5, 3) := by decide +kernel
theorem dn_M_feed_33 : decode bn_M_feed 33 = .ok (.iconst 0, 1) := by decide +kernel
theorem dn_M_feed_34 : decode bn_M_feed 34 = .ok (.istore 6, 2) := by decide +kernel
theorem dn_M_feed_36 : decode bn_M_feed 36 = .ok (.iload 6, 2) := by decide +kernel
theorem dn_M_feed_38 : decode bn_M_feed 38 = .ok (.bipush 20, 2) := by decide +kernel
theorem dn_M_feed_40 : decode bn_M_feed 40 = .ok (.if_icmp .ge 83, 3) := by decide +kernel
theorem dn_M_feed_43 : decode bn_M_feed 43 = .ok (.iload 6, 2) := by decide +kernel
theorem dn_M_feed_45 : decode bn_M_feed 45 = .ok (.iconst 4, 1) := by decide +kernel
theorem dn_M_feed_46 : decode bn_M_feed 46 = .ok (.if_icmp .ge 7, 3) := by decide +kernel
theorem dn_M_feed_49 : decode bn_M_feed 49 = .ok (.iload_n 1, 1) := by decide +kernel
theorem dn_M_feed_50 : decode bn_M_feed 50 = .ok (.goto 39, 3) := by decide +kernel
theorem dn_M_feed_53 : decode bn_M_feed 53 = .ok (.iload 6, 2) := by decide +kernel
theorem dn_M_feed_55 : decode bn_M_feed 55 = .ok (.bipush 8, 2) := by decide +kernel
theorem dn_M_feed_57 : decode bn_M_feed 57 = .ok (.if_icmp .ge 7, 3) := by decide +kernel
theorem dn_M_feed_60 : decode bn_M_feed 60 = .ok (.iload_n 2, 1) := by decide +kernel
theorem dn_M_feed_61 : decode bn_M_feed 61 = .ok (.goto 28, 3) := by decide +kernel
theorem dn_M_feed_64 : decode bn_M_feed 64 = .ok (.iload 6, 2) := by decide +kernel
theorem dn_M_feed_66 : decode bn_M_feed 66 = .ok (.bipush 12, 2) := by decide +kernel
theorem dn_M_feed_68 : decode bn_M_feed 68 = .ok (.if_icmp .ge 7, 3) := by decide +kernel
theorem dn_M_feed_71 : decode bn_M_feed 71 = .ok (.iload_n 3, 1) := by decide +kernel
theorem dn_M_feed_72 : decode bn_M_feed 72 = .ok (.goto 17, 3) := by decide +kernel
theorem dn_M_feed_75 : decode bn_M_feed 75 = .ok (.iload 6, 2) := by decide +kernel
theorem dn_M_feed_77 : decode bn_M_feed 77 = .ok (.bipush 16, 2) := by decide +kernel
theorem dn_M_feed_79 : decode bn_M_feed 79 = .ok (.if_icmp .ge 8, 3) := by decide +kernel
theorem dn_M_feed_82 : decode bn_M_feed 82 = .ok (.iload 4, 2) := by decide +kernel
theorem dn_M_feed_84 : decode bn_M_feed 84 = .ok (.goto 5, 3) := by decide +kernel
theorem dn_M_feed_87 : decode bn_M_feed 87 = .ok (.iload 5, 2) := by decide +kernel
theorem dn_M_feed_89 : decode bn_M_feed 89 = .ok (.istore 7, 2) := by decide +kernel
theorem dn_M_feed_91 : decode bn_M_feed 91 = .ok (.aload_n 0, 1) := by decide +kernel
theorem dn_M_feed_92 : decode bn_M_feed 92 = .ok (.getfield 8, 3) := by decide +kernel
theorem dn_M_feed_95 : decode bn_M_feed 95 = .ok (.aload_n 0, 1) := by decide +kernel
theorem dn_M_feed_96 : decode bn_M_feed 96 = .ok (.getfield 536, 3) := by decide +kernel
theorem dn_M_feed_99 : decode bn_M_feed 99 = .ok (.iload 6, 2) := by decide +kernel
theorem dn_M_feed_101 : decode bn_M_feed 101 = .ok (.iadd, 1) := by decide +kernel
theorem dn_M_feed_102 : decode bn_M_feed 102 = .ok (.iload 7, 2) := by decide +kernel
theorem dn_M_feed_104 : decode bn_M_feed 104 = .ok (.bipush 24, 2) := by decide +kernel
theorem dn_M_feed_106 : decode bn_M_feed 106 = .ok (.bipush 8, 2) := by decide +kernel
theorem dn_M_feed_108 : decode bn_M_feed 108 = .ok (.iload 6, 2) := by decide +kernel
theorem dn_M_feed_110 : decode bn_M_feed 110 = .ok (.iconst 4, 1) := by decide +kernel
theorem dn_M_feed_111 : decode bn_M_feed 111 = .ok (.irem, 1) := by decide +kernel
theorem dn_M_feed_112 : decode bn_M_feed 112 = .ok (.imul, 1) := by decide +kernel
theorem dn_M_feed_113 : decode bn_M_feed 113 = .ok (.isub, 1) := by decide +kernel
theorem dn_M_feed_114 : decode bn_M_feed 114 = .ok (.ishr, 1) := by decide +kernel
theorem dn_M_feed_115 : decode bn_M_feed 115 = .ok (.i2b, 1) := by decide +kernel
theorem dn_M_feed_116 : decode bn_M_feed 116 = .ok (.bastore, 1) := by decide +kernel
theorem dn_M_feed_117 : decode bn_M_feed 117 = .ok (.iinc 6 1, 3) := by decide +kernel
theorem dn_M_feed_120 : decode bn_M_feed 120 = .ok (.goto (-84), 3) := by decide +kernel
theorem dn_M_feed_123 : decode bn_M_feed 123 = .ok (.aload_n 0, 1) := by decide +kernel
theorem dn_M_feed_124 : decode bn_M_feed 124 = .ok (.aload_n 0, 1) := by decide +kernel
theorem dn_M_feed_125 : decode bn_M_feed 125 = .ok (.getfield 536, 3) := by decide +kernel
theorem dn_M_feed_128 : decode bn_M_feed 128 = .ok (.bipush 20, 2) := by decide +kernel
theorem dn_M_feed_130 : decode bn_M_feed 130 = .ok (.iadd, 1) := by decide +kernel
theorem dn_M_feed_131 : decode bn_M_feed 131 = .ok (.putfield 536, 3) := by decide +kernel
theorem dn_M_feed_134 : decode bn_M_feed 134 = .ok (.aload_n 0, 1) := by decide +kernel
theorem dn_M_feed_135 : decode bn_M_feed 135 = .ok (.getfield 536, 3) := by decide +kernel
theorem dn_M_feed_138 : decode bn_M_feed 138 = .ok (.ireturn, 1) := by decide +kernel
theorem dn_M_find_0 : decode bn_M_find 0 = .ok (.aload_n 0, 1) := by decide +kernel
theorem dn_M_find_1 : decode bn_M_find 1 = .ok (.aload_n 0, 1) := by decide +kernel
theorem dn_M_find_2 : decode bn_M_find 2 = .ok (.getfield 545, 3) := by decide +kernel
theorem dn_M_find_5 : decode bn_M_find 5 = .ok (.ifCond .eq 7, 3) := by decide +kernel
theorem dn_M_find_12 : decode bn_M_find 12 = .ok (.iconst 1, 1) := by decide +kernel
theorem dn_M_find_13 : decode bn_M_find 13 = .ok (.putfield 192, 3) := by decide +kernel
theorem dn_M_find_16 : decode bn_M_find 16 = .ok (.aload_n 0, 1) := by decide +kernel
theorem dn_M_find_17 : decode bn_M_find 17 = .ok (.getfield 192, 3) := by decide +kernel
theorem dn_M_find_20 : decode bn_M_find 20 = .ok (.ifCond .le 5, 3) := by decide +kernel
theorem dn_M_find_23 : decode bn_M_find 23 = .ok (.iconst 0, 1) := by decide +kernel
theorem dn_M_find_24 : decode bn_M_find 24 = .ok (.ireturn, 1) := by decide +kernel
theorem dn_M_init_0 : decode bn_M_init 0 = .ok (.aload_n 0, 1) := by decide +kernel
theorem dn_M_init_1 : decode bn_M_init 1 = .ok (.invokespecial 1, 3) := by decide +kernel
theorem dn_M_init_4 : decode bn_M_init 4 = .ok (.aload_n 0, 1) := by decide +kernel
theorem dn_M_init_5 : decode bn_M_init 5 = .ok (.ldc 7, 2) := by decide +kernel
theorem dn_M_init_7 : decode bn_M_init 7 = .ok (.newarray .byte, 2) := by decide +kernel
theorem dn_M_init_9 : decode bn_M_init 9 = .ok (.putfield 8, 3) := by decide +kernel
theorem dn_M_init_12 : decode bn_M_init 12 = .ok (.aload_n 0, 1) := by decide +kernel
theorem dn_M_init_13 : decode bn_M_init 13 = .ok (.ldc 14, 2) := by decide +kernel
theorem dn_M_init_15 : decode bn_M_init 15 = .ok (.newarray .int, 2) := by decide +kernel
theorem dn_M_init_17 : decode bn_M_init 17 = .ok (.putfield 15, 3) := by decide +kernel
theorem dn_M_init_20 : decode bn_M_init 20 = .ok (.aload_n 0, 1) := by decide +kernel
theorem dn_M_init_21 : decode bn_M_init 21 = .ok (.ldc 14, 2) := by decide +kernel
theorem dn_M_init_23 : decode bn_M_init 23 = .ok (.newarray .int, 2) := by decide +kernel
theorem dn_M_init_25 : decode bn_M_init 25 = .ok (.putfield 19, 3) := by decide +kernel
theorem dn_M_init_28 : decode bn_M_init 28 = .ok (.aload_n 0, 1) := by decide +kernel
theorem dn_M_init_29 : decode bn_M_init 29 = .ok (.ldc 14, 2) := by decide +kernel
theorem dn_M_init_31 : decode bn_M_init 31 = .ok (.newarray .int, 2) := by decide +kernel
theorem dn_M_init_33 : decode bn_M_init 33 = .ok (.putfield 22, 3) := by decide +kernel
theorem dn_M_init_36 : decode bn_M_init 36 = .ok (.aload_n 0, 1) := by decide +kernel
theorem dn_M_init_37 : decode bn_M_init 37 = .ok (.sipush 3600, 3) := by decide +kernel
theorem dn_M_init_40 : decode bn_M_init 40 = .ok (.newarray .int, 2) := by decide +kernel
theorem dn_M_init_42 : decode bn_M_init 42 = .ok (.putfield 25, 3) := by decide +kernel
theorem dn_M_init_45 : decode bn_M_init 45 = .ok (.aload_n 0, 1) := by decide +kernel
theorem dn_M_init_46 : decode bn_M_init 46 = .ok (.sipush 3601, 3) := by decide +kernel
theorem dn_M_init_49 : decode bn_M_init 49 = .ok (.newarray .int, 2) := by decide +kernel
theorem dn_M_init_51 : decode bn_M_init 51 = .ok (.putfield 28, 3) := by decide +kernel
theorem dn_M_init_54 : decode bn_M_init 54 = .ok (.aload_n 0, 1) := by decide +kernel
theorem dn_M_init_55 : decode bn_M_init 55 = .ok (.sipush 3601, 3) := by decide +kernel
theorem dn_M_init_58 : decode bn_M_init 58 = .ok (.newarray .int, 2) := by decide +kernel
theorem dn_M_init_60 : decode bn_M_init 60 = .ok (.putfield 31, 3) := by decide +kernel
theorem dn_M_init_63 : decode bn_M_init 63 = .ok (.aload_n 0, 1) := by decide +kernel
theorem dn_M_init_64 : decode bn_M_init 64 = .ok (.sipush 3601, 3) := by decide +kernel
theorem dn_M_init_67 : decode bn_M_init 67 = .ok (.newarray .int, 2) := by decide +kernel
theorem dn_M_init_69 : decode bn_M_init 69 = .ok (.putfield 34, 3) := by decide +kernel
theorem dn_M_init_72 : decode bn_M_init 72 = .ok (.aload_n 0, 1) := by decide +kernel
theorem dn_M_init_73 : decode bn_M_init 73 = .ok (.sipush 3601, 3) := by decide +kernel
theorem dn_M_init_76 : decode bn_M_init 76 = .ok (.newarray .int, 2) := by decide +kernel
theorem dn_M_init_78 : decode bn_M_init 78 = .ok (.putfield 37, 3) := by decide +kernel
theorem dn_M_init_81 : decode bn_M_init 81 = .ok (.aload_n 0, 1) := by decide +kernel
theorem dn_M_init_82 : decode bn_M_init 82 = .ok (.sipush 11000, 3) := by decide +kernel
theorem dn_M_init_85 : decode bn_M_init 85 = .ok (.newarray .int, 2) := by decide +kernel
theorem dn_M_init_87 : decode bn_M_init 87 = .ok (.putfield 40, 3) := by decide +kernel
theorem dn_M_init_90 : decode bn_M_init 90 = .ok (.aload_n 0, 1) := by decide +kernel
theorem dn_M_init_91 : decode bn_M_init 91 = .ok (.sipush 11000, 3) := by decide +kernel
theorem dn_M_init_94 : decode bn_M_init 94 = .ok (.newarray .int, 2) := by decide +kernel
theorem dn_M_init_96 : decode bn_M_init 96 = .ok (.putfield 43, 3) := by decide +kernel
theorem dn_M_init_99 : decode bn_M_init 99 = .ok (.aload_n 0, 1) := by decide +kernel
theorem dn_M_init_100 : decode bn_M_init 100 = .ok (.sipush 11000, 3) := by decide +kernel
theorem dn_M_init_103 : decode bn_M_init 103 = .ok (.newarray .int, 2) := by decide +kernel
theorem dn_M_init_105 : decode bn_M_init 105 = .ok (.putfield 46, 3) := by decide +kernel
theorem dn_M_init_108 : decode bn_M_init 108 = .ok (.aload_n 0, 1) := by decide +kernel
theorem dn_M_init_109 : decode bn_M_init 109 = .ok (.sipush 11000, 3) := by decide +kernel
theorem dn_M_init_112 : decode bn_M_init 112 = .ok (.newarray .long, 2) := by decide +kernel
theorem dn_M_init_114 : decode bn_M_init 114 = .ok (.putfield 49, 3) := by decide +kernel
theorem dn_M_init_117 : decode bn_M_init 117 = .ok (.aload_n 0, 1) := by decide +kernel
theorem dn_M_init_118 : decode bn_M_init 118 = .ok (.sipush 11000, 3) := by decide +kernel
theorem dn_M_init_121 : decode bn_M_init 121 = .ok (.newarray .int, 2) := by decide +kernel
theorem dn_M_init_123 : decode bn_M_init 123 = .ok (.putfield 53, 3) := by decide +kernel
theorem dn_M_init_126 : decode bn_M_init 126 = .ok (.aload_n 0, 1) := by decide +kernel
theorem dn_M_init_127 : decode bn_M_init 127 = .ok (.sipush 11000, 3) := by decide +kernel
theorem dn_M_init_130 : decode bn_M_init 130 = .ok (.newarray .int, 2) := by decide +kernel
theorem dn_M_init_132 : decode bn_M_init 132 = .ok (.putfield 56, 3) := by decide +kernel
theorem dn_M_init_135 : decode bn_M_init 135 = .ok (.aload_n 0, 1) := by decide +kernel
theorem dn_M_init_136 : decode bn_M_init 136 = .ok (.sipush 11000, 3) := by decide +kernel
theorem dn_M_init_139 : decode bn_M_init 139 = .ok (.newarray .int, 2) := by decide +kernel
theorem dn_M_init_141 : decode bn_M_init 141 = .ok (.putfield 59, 3) := by decide +kernel
theorem dn_M_init_144 : decode bn_M_init 144 = .ok (.aload_n 0, 1) := by decide +kernel
theorem dn_M_init_145 : decode bn_M_init 145 = .ok (.sipush 11000, 3) := by decide +kernel
theorem dn_M_init_148 : decode bn_M_init 148 = .ok (.newarray .int, 2) := by decide +kernel
theorem dn_M_init_150 : decode bn_M_init 150 = .ok (.putfield 62, 3) := by decide +kernel
theorem dn_M_init_153 : decode bn_M_init 153 = .ok (.aload_n 0, 1) := by decide +kernel
theorem dn_M_init_154 : decode bn_M_init 154 = .ok (.sipush 11000, 3) := by decide +kernel
theorem dn_M_init_157 : decode bn_M_init 157 = .ok (.newarray .int, 2) := by decide +kernel
theorem dn_M_init_159 : decode bn_M_init 159 = .ok (.putfield 65, 3) := by decide +kernel
theorem dn_M_init_162 : decode bn_M_init 162 = .ok (.aload_n 0, 1) := by decide +kernel
theorem dn_M_init_163 : decode bn_M_init 163 = .ok (.sipush 11000, 3) := by decide +kernel
theorem dn_M_init_166 : decode bn_M_init 166 = .ok (.newarray .int, 2) := by decide +kernel
theorem dn_M_init_168 : decode bn_M_init 168 = .ok (.putfield 68, 3) := by decide +kernel
theorem dn_M_init_171 : decode bn_M_init 171 = .ok (.aload_n 0, 1) := by decide +kernel
theorem dn_M_init_172 : decode bn_M_init 172 = .ok (.sipush 11001, 3) := by decide +kernel
theorem dn_M_init_175 : decode bn_M_init 175 = .ok (.newarray .int, 2) := by decide +kernel
theorem dn_M_init_177 : decode bn_M_init 177 = .ok (.putfield 71, 3) := by decide +kernel
theorem dn_M_init_180 : decode bn_M_init 180 = .ok (.aload_n 0, 1) := by decide +kernel
theorem dn_M_init_181 : decode bn_M_init 181 = .ok (.sipush 11000, 3) := by decide +kernel
theorem dn_M_init_184 : decode bn_M_init 184 = .ok (.newarray .int, 2) := by decide +kernel
theorem dn_M_init_186 : decode bn_M_init 186 = .ok (.putfield 74, 3) := by decide +kernel
theorem dn_M_init_189 : decode bn_M_init 189 = .ok (.aload_n 0, 1) := by decide +kernel
theorem dn_M_init_190 : decode bn_M_init 190 = .ok (.sipush 11000, 3) := by decide +kernel
theorem dn_M_init_193 : decode bn_M_init 193 = .ok (.newarray .int, 2) := by decide +kernel
theorem dn_M_init_195 : decode bn_M_init 195 = .ok (.putfield 77, 3) := by decide +kernel
theorem dn_M_init_198 : decode bn_M_init 198 = .ok (.aload_n 0, 1) := by decide +kernel
theorem dn_M_init_199 : decode bn_M_init 199 = .ok (.sipush 11000, 3) := by decide +kernel
theorem dn_M_init_202 : decode bn_M_init 202 = .ok (.newarray .int, 2) := by decide +kernel
theorem dn_M_init_204 : decode bn_M_init 204 = .ok (.putfield 80, 3) := by decide +kernel
theorem dn_M_init_207 : decode bn_M_init 207 = .ok (.aload_n 0, 1) := by decide +kernel
theorem dn_M_init_208 : decode bn_M_init 208 = .ok (.sipush 6600, 3) := by decide +kernel
theorem dn_M_init_211 : decode bn_M_init 211 = .ok (.newarray .int, 2) := by decide +kernel
theorem dn_M_init_213 : decode bn_M_init 213 = .ok (.putfield 83, 3) := by decide +kernel
theorem dn_M_init_216 : decode bn_M_init 216 = .ok (.aload_n 0, 1) := by decide +kernel
theorem dn_M_init_217 : decode bn_M_init 217 = .ok (.sipush 6600, 3) := by decide +kernel
theorem dn_M_init_220 : decode bn_M_init 220 = .ok (.newarray .int, 2) := by decide +kernel
theorem dn_M_init_222 : decode bn_M_init 222 = .ok (.putfield 86, 3) := by decide +kernel
theorem dn_M_init_225 : decode bn_M_init 225 = .ok (.aload_n 0, 1) := by decide +kernel
theorem dn_M_init_226 : decode bn_M_init 226 = .ok (.sipush 6600, 3) := by decide +kernel
theorem dn_M_init_229 : decode bn_M_init 229 = .ok (.newarray .int, 2) := by decide +kernel
theorem dn_M_init_231 : decode bn_M_init 231 = .ok (.putfield 89, 3) := by decide +kernel
theorem dn_M_init_234 : decode bn_M_init 234 = .ok (.aload_n 0, 1) := by decide +kernel
theorem dn_M_init_235 : decode bn_M_init 235 = .ok (.sipush 6600, 3) := by decide +kernel
theorem dn_M_init_238 : decode bn_M_init 238 = .ok (.newarray .int, 2) := by decide +kernel
theorem dn_M_init_240 : decode bn_M_init 240 = .ok (.putfield 92, 3) := by decide +kernel
theorem dn_M_init_243 : decode bn_M_init 243 = .ok (.aload_n 0, 1) := by decide +kernel
theorem dn_M_init_244 : decode bn_M_init 244 = .ok (.sipush 4096, 3) := by decide +kernel
theorem dn_M_init_247 : decode bn_M_init 247 = .ok (.newarray .int, 2) := by decide +kernel
theorem dn_M_init_249 : decode bn_M_init 249 = .ok (.putfield 95, 3) := by decide +kernel
theorem dn_M_init_252 : decode bn_M_init 252 = .ok (.aload_n 0, 1) := by decide +kernel
theorem dn_M_init_253 : decode bn_M_init 253 = .ok (.sipush 256, 3) := by decide +kernel
theorem dn_M_init_256 : decode bn_M_init 256 = .ok (.newarray .long, 2) := by decide +kernel
theorem dn_M_init_258 : decode bn_M_init 258 = .ok (.putfield 98, 3) := by decide +kernel
theorem dn_M_init_261 : decode bn_M_init 261 = .ok (.aload_n 0, 1) := by decide +kernel
theorem dn_M_init_262 : decode bn_M_init 262 = .ok (.sipush 3600, 3) := by decide +kernel
theorem dn_M_init_265 : decode bn_M_init 265 = .ok (.newarray .long, 2) := by decide +kernel
theorem dn_M_init_267 : decode bn_M_init 267 = .ok (.putfield 101, 3) := by decide +kernel
theorem dn_M_init_270 : decode bn_M_init 270 = .ok (.aload_n 0, 1) := by decide +kernel
theorem dn_M_init_271 : decode bn_M_init 271 = .ok (.sipush 3600, 3) := by decide +kernel
theorem dn_M_init_274 : decode bn_M_init 274 = .ok (.newarray .long, 2) := by decide +kernel
theorem dn_M_init_276 : decode bn_M_init 276 = .ok (.putfield 104, 3) := by decide +kernel
theorem dn_M_init_279 : decode bn_M_init 279 = .ok (.aload_n 0, 1) := by decide +kernel
theorem dn_M_init_280 : decode bn_M_init 280 = .ok (.sipush 3600, 3) := by decide +kernel
theorem dn_M_init_283 : decode bn_M_init 283 = .ok (.newarray .long, 2) := by decide +kernel
theorem dn_M_init_285 : decode bn_M_init 285 = .ok (.putfield 107, 3) := by decide +kernel
theorem dn_M_init_288 : decode bn_M_init 288 = .ok (.aload_n 0, 1) := by decide +kernel
theorem dn_M_init_289 : decode bn_M_init 289 = .ok (.sipush 3600, 3) := by decide +kernel
theorem dn_M_init_292 : decode bn_M_init 292 = .ok (.newarray .long, 2) := by decide +kernel
theorem dn_M_init_294 : decode bn_M_init 294 = .ok (.putfield 110, 3) := by decide +kernel
theorem dn_M_init_297 : decode bn_M_init 297 = .ok (.aload_n 0, 1) := by decide +kernel
theorem dn_M_init_298 : decode bn_M_init 298 = .ok (.sipush 4096, 3) := by decide +kernel
theorem dn_M_init_301 : decode bn_M_init 301 = .ok (.newarray .int, 2) := by decide +kernel
theorem dn_M_init_303 : decode bn_M_init 303 = .ok (.putfield 113, 3) := by decide +kernel
theorem dn_M_init_306 : decode bn_M_init 306 = .ok (.aload_n 0, 1) := by decide +kernel
theorem dn_M_init_307 : decode bn_M_init 307 = .ok (.sipush 4096, 3) := by decide +kernel
theorem dn_M_init_310 : decode bn_M_init 310 = .ok (.newarray .int, 2) := by decide +kernel
theorem dn_M_init_312 : decode bn_M_init 312 = .ok (.putfield 116, 3) := by decide +kernel
theorem dn_M_init_315 : decode bn_M_init 315 = .ok (.aload_n 0, 1) := by decide +kernel
theorem dn_M_init_316 : decode bn_M_init 316 = .ok (.sipush 4096, 3) := by decide +kernel
theorem dn_M_init_319 : decode bn_M_init 319 = .ok (.newarray .int, 2) := by decide +kernel
theorem dn_M_init_321 : decode bn_M_init 321 = .ok (.putfield 119, 3) := by decide +kernel
theorem dn_M_init_324 : decode bn_M_init 324 = .ok (.aload_n 0, 1) := by decide +kernel
theorem dn_M_init_325 : decode bn_M_init 325 = .ok (.ldc 7, 2) := by decide +kernel
theorem dn_M_init_327 : decode bn_M_init 327 = .ok (.newarray .byte, 2) := by decide +kernel
theorem dn_M_init_329 : decode bn_M_init 329 = .ok (.putfield 122, 3) := by decide +kernel
theorem dn_M_init_332 : decode bn_M_init 332 = .ok (.aload_n 0, 1) := by decide +kernel
theorem dn_M_init_333 : decode bn_M_init 333 = .ok (.sipush 260, 3) := by decide +kernel
theorem dn_M_init_336 : decode bn_M_init 336 = .ok (.newarray .int, 2) := by decide +kernel
theorem dn_M_init_338 : decode bn_M_init 338 = .ok (.putfield 125, 3) := by decide +kernel
theorem dn_M_init_341 : decode bn_M_init 341 = .ok (.aload_n 0, 1) := by decide +kernel
theorem dn_M_init_342 : decode bn_M_init 342 = .ok (.sipush 260, 3) := by decide +kernel
theorem dn_M_init_345 : decode bn_M_init 345 = .ok (.newarray .int, 2) := by decide +kernel
theorem dn_M_init_347 : decode bn_M_init 347 = .ok (.putfield 128, 3) := by decide +kernel
theorem dn_M_init_350 : decode bn_M_init 350 = .ok (.aload_n 0, 1) := by decide +kernel
theorem dn_M_init_351 : decode bn_M_init 351 = .ok (.sipush 260, 3) := by decide +kernel
theorem dn_M_init_354 : decode bn_M_init 354 = .ok (.newarray .int, 2) := by decide +kernel
theorem dn_M_init_356 : decode bn_M_init 356 = .ok (.putfield 131, 3) := by decide +kernel
theorem dn_M_init_359 : decode bn_M_init 359 = .ok (.aload_n 0, 1) := by decide +kernel
theorem dn_M_init_360 : decode bn_M_init 360 = .ok (.sipush 260, 3) := by decide +kernel
theorem dn_M_init_363 : decode bn_M_init 363 = .ok (.newarray .int, 2) := by decide +kernel
theorem dn_M_init_365 : decode bn_M_init 365 = .ok (.putfield 134, 3) := by decide +kernel
theorem dn_M_init_368 : decode bn_M_init 368 = .ok (.aload_n 0, 1) := by decide +kernel
theorem dn_M_init_369 : decode bn_M_init 369 = .ok (.sipush 260, 3) := by decide +kernel
theorem dn_M_init_372 : decode bn_M_init 372 = .ok (.newarray .int, 2) := by decide +kernel
theorem dn_M_init_374 : decode bn_M_init 374 = .ok (.putfield 137, 3) := by decide +kernel
theorem dn_M_init_377 : decode bn_M_init 377 = .ok (.aload_n 0, 1) := by decide +kernel
theorem dn_M_init_378 : decode bn_M_init 378 = .ok (.sipush 260, 3) := by decide +kernel
theorem dn_M_init_381 : decode bn_M_init 381 = .ok (.newarray .int, 2) := by decide +kernel
theorem dn_M_init_383 : decode bn_M_init 383 = .ok (.putfield 140, 3) := by decide +kernel
theorem dn_M_init_386 : decode bn_M_init 386 = .ok (.aload_n 0, 1) := by decide +kernel
theorem dn_M_init_387 : decode bn_M_init 387 = .ok (.sipush 1100, 3) := by decide +kernel
theorem dn_M_init_390 : decode bn_M_init 390 = .ok (.newarray .int, 2) := by decide +kernel
theorem dn_M_init_392 : decode bn_M_init 392 = .ok (.putfield 143, 3) := by decide +kernel
theorem dn_M_init_395 : decode bn_M_init 395 = .ok (.aload_n 0, 1) := by decide +kernel
theorem dn_M_init_396 : decode bn_M_init 396 = .ok (.sipush 1100, 3) := by decide +kernel
theorem dn_M_init_399 : decode bn_M_init 399 = .ok (.newarray .int, 2) := by decide +kernel
theorem dn_M_init_401 : decode bn_M_init 401 = .ok (.putfield 146, 3) := by decide +kernel
theorem dn_M_init_404 : decode bn_M_init 404 = .ok (.aload_n 0, 1) := by decide +kernel
theorem dn_M_init_405 : decode bn_M_init 405 = .ok (.sipush 1100, 3) := by decide +kernel
theorem dn_M_init_408 : decode bn_M_init 408 = .ok (.newarray .int, 2) := by decide +kernel
theorem dn_M_init_410 : decode bn_M_init 410 = .ok (.putfield 149, 3) := by decide +kernel
theorem dn_M_init_413 : decode bn_M_init 413 = .ok (.aload_n 0, 1) := by decide +kernel
theorem dn_M_init_414 : decode bn_M_init 414 = .ok (.sipush 1100, 3) := by decide +kernel
theorem dn_M_init_417 : decode bn_M_init 417 = .ok (.newarray .int, 2) := by decide +kernel
theorem dn_M_init_419 : decode bn_M_init 419 = .ok (.putfield 152, 3) := by decide +kernel
theorem dn_M_init_422 : decode bn_M_init 422 = .ok (.aload_n 0, 1) := by decide +kernel
theorem dn_M_init_423 : decode bn_M_init 423 = .ok (.sipush 1100, 3) := by decide +kernel
theorem dn_M_init_426 : decode bn_M_init 426 = .ok (.newarray .int, 2) := by decide +kernel
theorem dn_M_init_428 : decode bn_M_init 428 = .ok (.putfield 155, 3) := by decide +kernel
theorem dn_M_init_431 : decode bn_M_init 431 = .ok (.aload_n 0, 1) := by decide +kernel
theorem dn_M_init_432 : decode bn_M_init 432 = .ok (.sipush 1100, 3) := by decide +kernel
theorem dn_M_init_435 : decode bn_M_init 435 = .ok (.newarray .int, 2) := by decide +kernel
theorem dn_M_init_437 : decode bn_M_init 437 = .ok (.putfield 158, 3) := by decide +kernel
theorem dn_M_init_440 : decode bn_M_init 440 = .ok (.aload_n 0, 1) := by decide +kernel
theorem dn_M_init_441 : decode bn_M_init 441 = .ok (.sipush 1100, 3) := by decide +kernel
theorem dn_M_init_444 : decode bn_M_init 444 = .ok (.newarray .int, 2) := by decide +kernel
theorem dn_M_init_446 : decode bn_M_init 446 = .ok (.putfield 161, 3) := by decide +kernel
theorem dn_M_init_449 : decode bn_M_init 449 = .ok (.aload_n 0, 1) := by decide +kernel
theorem dn_M_init_450 : decode bn_M_init 450 = .ok (.sipush 1100, 3) := by decide +kernel
theorem dn_M_init_453 : decode bn_M_init 453 = .ok (.newarray .boolean, 2) := by decide +kernel
theorem dn_M_init_455 : decode bn_M_init 455 = .ok (.putfield 164, 3) := by decide +kernel
theorem dn_M_init_458 : decode bn_M_init 458 = .ok (.aload_n 0, 1) := by decide +kernel
theorem dn_M_init_459 : decode bn_M_init 459 = .ok (.sipush 1100, 3) := by decide +kernel
theorem dn_M_init_462 : decode bn_M_init 462 = .ok (.newarray .boolean, 2) := by decide +kernel
theorem dn_M_init_464 : decode bn_M_init 464 = .ok (.putfield 168, 3) := by decide +kernel
theorem dn_M_init_467 : decode bn_M_init 467 = .ok (.aload_n 0, 1) := by decide +kernel
theorem dn_M_init_468 : decode bn_M_init 468 = .ok (.sipush 1100, 3) := by decide +kernel
theorem dn_M_init_471 : decode bn_M_init 471 = .ok (.newarray .int, 2) := by decide +kernel
theorem dn_M_init_473 : decode bn_M_init 473 = .ok (.putfield 171, 3) := by decide +kernel
theorem dn_M_init_476 : decode bn_M_init 476 = .ok (.aload_n 0, 1) := by decide +kernel
theorem dn_M_init_477 : decode bn_M_init 477 = .ok (.sipush 1100, 3) := by decide +kernel
theorem dn_M_init_480 : decode bn_M_init 480 = .ok (.newarray .long, 2) := by decide +kernel
theorem dn_M_init_482 : decode bn_M_init 482 = .ok (.putfield 174, 3) := by decide +kernel
theorem dn_M_init_485 : decode bn_M_init 485 = .ok (.aload_n 0, 1) := by decide +kernel
theorem dn_M_init_486 : decode bn_M_init 486 = .ok (.sipush 1100, 3) := by decide +kernel
theorem dn_M_init_489 : decode bn_M_init 489 = .ok (.newarray .long, 2) := by decide +kernel
theorem dn_M_init_491 : decode bn_M_init 491 = .ok (.putfield 177, 3) := by decide +kernel
theorem dn_M_init_494 : decode bn_M_init 494 = .ok (.aload_n 0, 1) := by decide +kernel
theorem dn_M_init_495 : decode bn_M_init 495 = .ok (.sipush 1100, 3) := by decide +kernel
theorem dn_M_init_498 : decode bn_M_init 498 = .ok (.newarray .long, 2) := by decide +kernel
theorem dn_M_init_500 : decode bn_M_init 500 = .ok (.putfield 180, 3) := by decide +kernel
theorem dn_M_init_503 : decode bn_M_init 503 = .ok (.aload_n 0, 1) := by decide +kernel
theorem dn_M_init_504 : decode bn_M_init 504 = .ok (.sipush 1100, 3) := by decide +kernel
theorem dn_M_init_507 : decode bn_M_init 507 = .ok (.newarray .long, 2) := by decide +kernel
theorem dn_M_init_509 : decode bn_M_init 509 = .ok (.putfield 183, 3) := by decide +kernel
theorem dn_M_init_512 : decode bn_M_init 512 = .ok (.aload_n 0, 1) := by decide +kernel
theorem dn_M_init_513 : decode bn_M_init 513 = .ok (.sipush 4096, 3) := by decide +kernel
theorem dn_M_init_516 : decode bn_M_init 516 = .ok (.newarray .long, 2) := by decide +kernel
theorem dn_M_init_518 : decode bn_M_init 518 = .ok (.putfield 186, 3) := by decide +kernel
theorem dn_M_init_521 : decode bn_M_init 521 = .ok (.aload_n 0, 1) := by decide +kernel
theorem dn_M_init_522 : decode bn_M_init 522 = .ok (.ldc 7, 2) := by decide +kernel
theorem dn_M_init_524 : decode bn_M_init 524 = .ok (.newarray .byte, 2) := by decide +kernel
theorem dn_M_init_526 : decode bn_M_init 526 = .ok (.putfield 189, 3) := by decide +kernel
theorem dn_M_init_529 : decode bn_M_init 529 = .ok (.return_, 1) := by decide +kernel
theorem dn_M_is_0 : decode bn_M_is 0 = .ok (.aload_n 0, 1) := by decide +kernel
theorem dn_M_is_1 : decode bn_M_is 1 = .ok (.getfield 257, 3) := by decide +kernel
theorem dn_M_is_4 : decode bn_M_is 4 = .ok (.ifCond .ne 20, 3) := by decide +kernel
theorem dn_M_is_24 : decode bn_M_is 24 = .ok (.iconst 0, 1) := by decide +kernel
theorem dn_M_is_25 : decode bn_M_is 25 = .ok (.ireturn, 1) := by decide +kernel
theorem dn_M_no_0 : decode bn_M_no 0 = .ok (.aload_n 0, 1) := by decide +kernel
theorem dn_M_no_1 : decode bn_M_no 1 = .ok (.aload_n 0, 1) := by decide +kernel
theorem dn_M_no_2 : decode bn_M_no 2 = .ok (.getfield 15, 3) := by decide +kernel
theorem dn_M_no_5 : decode bn_M_no 5 = .ok (.aload_n 0, 1) := by decide +kernel
theorem dn_M_no_6 : decode bn_M_no 6 = .ok (.getfield 263, 3) := by decide +kernel
theorem dn_M_no_9 : decode bn_M_no 9 = .ok (.iaload, 1) := by decide +kernel
theorem dn_M_no_10 : decode bn_M_no 10 = .ok (.sipush 404, 3) := by decide +kernel
theorem dn_M_no_13 : decode bn_M_no 13 = .ok (.if_icmp .ne 7, 3) := by decide +kernel
theorem dn_M_no_20 : decode bn_M_no 20 = .ok (.iconst 2, 1) := by decide +kernel
theorem dn_M_no_21 : decode bn_M_no 21 = .ok (.aload_n 0, 1) := by decide +kernel
theorem dn_M_no_22 : decode bn_M_no 22 = .ok (.getfield 19, 3) := by decide +kernel
theorem dn_M_no_25 : decode bn_M_no 25 = .ok (.aload_n 0, 1) := by decide +kernel
theorem dn_M_no_26 : decode bn_M_no 26 = .ok (.getfield 263, 3) := by decide +kernel
theorem dn_M_no_29 : decode bn_M_no 29 = .ok (.iaload, 1) := by decide +kernel
theorem dn_M_no_30 : decode bn_M_no 30 = .ok (.invokevirtual 266, 3) := by decide +kernel
theorem dn_M_no_33 : decode bn_M_no 33 = .ok (.return_, 1) := by decide +kernel
theorem dn_M_open_0 : decode bn_M_open 0 = .ok (.aload_n 0, 1) := by decide +kernel
theorem dn_M_open_1 : decode bn_M_open 1 = .ok (.iload_n 1, 1) := by decide +kernel
theorem dn_M_open_2 : decode bn_M_open 2 = .ok (.invokevirtual 273, 3) := by decide +kernel
theorem dn_M_open_5 : decode bn_M_open 5 = .ok (.ifCond .eq 36, 3) := by decide +kernel
theorem dn_M_open_41 : decode bn_M_open 41 = .ok (.aload_n 0, 1) := by decide +kernel
theorem dn_M_open_42 : decode bn_M_open 42 = .ok (.iload_n 1, 1) := by decide +kernel
theorem dn_M_open_43 : decode bn_M_open 43 = .ok (.invokevirtual 279, 3) := by decide +kernel
theorem dn_M_open_46 : decode bn_M_open 46 = .ok (.return_, 1) := by decide +kernel
theorem dn_M_readSource_0 : decode bn_M_readSource 0 = .ok (.aload_n 0, 1) := by decide +kernel
theorem dn_M_readSource_1 : decode bn_M_readSource 1 = .ok (.iconst 0, 1) := by decide +kernel
theorem dn_M_readSource_2 : decode bn_M_readSource 2 = .ok (.putfield 257, 3) := by decide +kernel
theorem dn_M_readSource_5 : decode bn_M_readSource 5 = .ok (.aload_n 0, 1) := by decide +kernel
theorem dn_M_readSource_6 : decode bn_M_readSource 6 = .ok (.iconst (-1), 1) := by decide +kernel
theorem dn_M_readSource_7 : decode bn_M_readSource 7 = .ok (.putfield 260, 3) := by decide +kernel
theorem dn_M_readSource_10 : decode bn_M_readSource 10 = .ok (.aload_n 0, 1) := by decide +kernel
theorem dn_M_readSource_11 : decode bn_M_readSource 11 = .ok (.invokevirtual 518, 3) := by decide +kernel
theorem dn_M_readSource_14 : decode bn_M_readSource 14 = .ok (.aload_n 0, 1) := by decide +kernel
theorem dn_M_readSource_15 : decode bn_M_readSource 15 = .ok (.invokevirtual 521, 3) := by decide +kernel
theorem dn_M_readSource_18 : decode bn_M_readSource 18 = .ok (.aload_n 0, 1) := by decide +kernel
theorem dn_M_readSource_19 : decode bn_M_readSource 19 = .ok (.getfield 257, 3) := by decide +kernel
theorem dn_M_readSource_22 : decode bn_M_readSource 22 = .ok (.ifCond .ne 7, 3) := by decide +kernel
theorem dn_M_readSource_29 : decode bn_M_readSource 29 = .ok (.aload_n 0, 1) := by decide +kernel
theorem dn_M_readSource_30 : decode bn_M_readSource 30 = .ok (.getfield 257, 3) := by decide +kernel
theorem dn_M_readSource_33 : decode bn_M_readSource 33 = .ok (.ifCond .ne 7, 3) := by decide +kernel
theorem dn_M_readSource_40 : decode bn_M_readSource 40 = .ok (.aload_n 0, 1) := by decide +kernel
theorem dn_M_readSource_41 : decode bn_M_readSource 41 = .ok (.getfield 257, 3) := by decide +kernel
theorem dn_M_readSource_44 : decode bn_M_readSource 44 = .ok (.ifCond .ne 11, 3) := by decide +kernel
theorem dn_M_readSource_55 : decode bn_M_readSource 55 = .ok (.return_, 1) := by decide +kernel
theorem dn_M_read_I_0 : decode bn_M_read_I 0 = .ok (.aload_n 0, 1) := by decide +kernel
theorem dn_M_read_I_1 : decode bn_M_read_I 1 = .ok (.iconst 0, 1) := by decide +kernel
theorem dn_M_read_I_2 : decode bn_M_read_I 2 = .ok (.putfield 192, 3) := by decide +kernel
theorem dn_M_read_I_5 : decode bn_M_read_I 5 = .ok (.iconst 0, 1) := by decide +kernel
theorem dn_M_read_I_6 : decode bn_M_read_I 6 = .ok (.istore_n 1, 1) := by decide +kernel
theorem dn_M_read_I_7 : decode bn_M_read_I 7 = .ok (.iload_n 1, 1) := by decide +kernel
theorem dn_M_read_I_8 : decode bn_M_read_I 8 = .ok (.aload_n 0, 1) := by decide +kernel
theorem dn_M_read_I_9 : decode bn_M_read_I 9 = .ok (.getfield 536, 3) := by decide +kernel
theorem dn_M_read_I_12 : decode bn_M_read_I 12 = .ok (.if_icmp .ge 21, 3) := by decide +kernel
theorem dn_M_read_I_33 : decode bn_M_read_I 33 = .ok (.aload_n 0, 1) := by decide +kernel
theorem dn_M_read_I_34 : decode bn_M_read_I 34 = .ok (.aload_n 0, 1) := by decide +kernel
theorem dn_M_read_I_35 : decode bn_M_read_I 35 = .ok (.getfield 536, 3) := by decide +kernel
theorem dn_M_read_I_38 : decode bn_M_read_I 38 = .ok (.putfield 196, 3) := by decide +kernel
theorem dn_M_read_I_41 : decode bn_M_read_I 41 = .ok (.aload_n 0, 1) := by decide +kernel
theorem dn_M_read_I_42 : decode bn_M_read_I 42 = .ok (.iconst 0, 1) := by decide +kernel
theorem dn_M_read_I_43 : decode bn_M_read_I 43 = .ok (.putfield 536, 3) := by decide +kernel
theorem dn_M_read_I_46 : decode bn_M_read_I 46 = .ok (.aload_n 0, 1) := by decide +kernel
theorem dn_M_read_I_47 : decode bn_M_read_I 47 = .ok (.invokevirtual 539, 3) := by decide +kernel
theorem dn_M_read_I_50 : decode bn_M_read_I 50 = .ok (.aload_n 0, 1) := by decide +kernel
theorem dn_M_read_I_51 : decode bn_M_read_I 51 = .ok (.aload_n 0, 1) := by decide +kernel
theorem dn_M_read_I_52 : decode bn_M_read_I 52 = .ok (.getfield 257, 3) := by decide +kernel
theorem dn_M_read_I_55 : decode bn_M_read_I 55 = .ok (.putfield 542, 3) := by decide +kernel
theorem dn_M_read_I_58 : decode bn_M_read_I 58 = .ok (.aload_n 0, 1) := by decide +kernel
theorem dn_M_read_I_59 : decode bn_M_read_I 59 = .ok (.getfield 260, 3) := by decide +kernel
theorem dn_M_read_I_62 : decode bn_M_read_I 62 = .ok (.istore_n 1, 1) := by decide +kernel
theorem dn_M_read_I_63 : decode bn_M_read_I 63 = .ok (.aload_n 0, 1) := by decide +kernel
theorem dn_M_read_I_64 : decode bn_M_read_I 64 = .ok (.getfield 257, 3) := by decide +kernel
theorem dn_M_read_I_67 : decode bn_M_read_I 67 = .ok (.ifCond .eq 52, 3) := by decide +kernel
theorem dn_M_read_I_70 : decode bn_M_read_I 70 = .ok (.aload_n 0, 1) := by decide +kernel
theorem dn_M_read_I_71 : decode bn_M_read_I 71 = .ok (.getfield 545, 3) := by decide +kernel
theorem dn_M_read_I_74 : decode bn_M_read_I 74 = .ok (.ifCond .eq 43, 3) := by decide +kernel
theorem dn_M_read_I_117 : decode bn_M_read_I 117 = .ok (.iload_n 1, 1) := by decide +kernel
theorem dn_M_read_I_118 : decode bn_M_read_I 118 = .ok (.ireturn, 1) := by decide +kernel
theorem dn_M_reset_0 : decode bn_M_reset 0 = .ok (.aload_n 0, 1) := by decide +kernel
theorem dn_M_reset_1 : decode bn_M_reset 1 = .ok (.aload_n 0, 1) := by decide +kernel
theorem dn_M_reset_2 : decode bn_M_reset 2 = .ok (.getfield 545, 3) := by decide +kernel
theorem dn_M_reset_5 : decode bn_M_reset 5 = .ok (.ifCond .eq 7, 3) := by decide +kernel
theorem dn_M_reset_12 : decode bn_M_reset 12 = .ok (.iconst 1, 1) := by decide +kernel
theorem dn_M_reset_13 : decode bn_M_reset 13 = .ok (.putfield 192, 3) := by decide +kernel
theorem dn_M_reset_16 : decode bn_M_reset 16 = .ok (.aload_n 0, 1) := by decide +kernel
theorem dn_M_reset_17 : decode bn_M_reset 17 = .ok (.getfield 545, 3) := by decide +kernel
theorem dn_M_reset_20 : decode bn_M_reset 20 = .ok (.ifCond .eq 7, 3) := by decide +kernel
theorem dn_M_reset_27 : decode bn_M_reset 27 = .ok (.return_, 1) := by decide +kernel
theorem dn_M_set_0 : decode bn_M_set 0 = .ok (.aload_n 0, 1) := by decide +kernel
theorem dn_M_set_1 : decode bn_M_set 1 = .ok (.aload_n 0, 1) := by decide +kernel
theorem dn_M_set_2 : decode bn_M_set 2 = .ok (.getfield 545, 3) := by decide +kernel
theorem dn_M_set_5 : decode bn_M_set 5 = .ok (.ifCond .ne 7, 3) := by decide +kernel
theorem dn_M_set_8 : decode bn_M_set 8 = .ok (.iconst 1, 1) := by decide +kernel
theorem dn_M_set_9 : decode bn_M_set 9 = .ok (.goto 48, 3) := by decide +kernel
theorem dn_M_set_57 : decode bn_M_set 57 = .ok (.putfield 192, 3) := by decide +kernel
theorem dn_M_set_60 : decode bn_M_set 60 = .ok (.aload_n 0, 1) := by decide +kernel
theorem dn_M_set_61 : decode bn_M_set 61 = .ok (.getfield 192, 3) := by decide +kernel
theorem dn_M_set_64 : decode bn_M_set 64 = .ok (.ifCond .ne 23, 3) := by decide +kernel
theorem dn_M_set_87 : decode bn_M_set 87 = .ok (.return_, 1) := by decide +kernel
theorem dn_M_shut_0 : decode bn_M_shut 0 = .ok (.aload_n 0, 1) := by decide +kernel
theorem dn_M_shut_1 : decode bn_M_shut 1 = .ok (.iload_n 1, 1) := by decide +kernel
theorem dn_M_shut_2 : decode bn_M_shut 2 = .ok (.invokevirtual 279, 3) := by decide +kernel
theorem dn_M_shut_5 : decode bn_M_shut 5 = .ok (.aload_n 0, 1) := by decide +kernel
theorem dn_M_shut_6 : decode bn_M_shut 6 = .ok (.dup, 1) := by decide +kernel
theorem dn_M_shut_7 : decode bn_M_shut 7 = .ok (.getfield 276, 3) := by decide +kernel
theorem dn_M_shut_10 : decode bn_M_shut 10 = .ok (.iconst 1, 1) := by decide +kernel
theorem dn_M_shut_11 : decode bn_M_shut 11 = .ok (.isub, 1) := by decide +kernel
theorem dn_M_shut_12 : decode bn_M_shut 12 = .ok (.putfield 276, 3) := by decide +kernel
theorem dn_M_shut_15 : decode bn_M_shut 15 = .ok (.return_, 1) := by decide +kernel
theorem dn_M_signal_0 : decode bn_M_signal 0 = .ok (.aload_n 0, 1) := by decide +kernel
theorem dn_M_signal_1 : decode bn_M_signal 1 = .ok (.aload_n 0, 1) := by decide +kernel
theorem dn_M_signal_2 : decode bn_M_signal 2 = .ok (.getfield 545, 3) := by decide +kernel
theorem dn_M_signal_5 : decode bn_M_signal 5 = .ok (.ifCond .ne 7, 3) := by decide +kernel
theorem dn_M_signal_8 : decode bn_M_signal 8 = .ok (.iconst 1, 1) := by decide +kernel
theorem dn_M_signal_9 : decode bn_M_signal 9 = .ok (.goto 29, 3) := by decide +kernel
theorem dn_M_signal_38 : decode bn_M_signal 38 = .ok (.putfield 192, 3) := by decide +kernel
theorem dn_M_signal_41 : decode bn_M_signal 41 = .ok (.aload_n 0, 1) := by decide +kernel
theorem dn_M_signal_42 : decode bn_M_signal 42 = .ok (.getfield 192, 3) := by decide +kernel
theorem dn_M_signal_45 : decode bn_M_signal 45 = .ok (.ifCond .le 5, 3) := by decide +kernel
theorem dn_M_signal_48 : decode bn_M_signal 48 = .ok (.iconst 0, 1) := by decide +kernel
theorem dn_M_signal_49 : decode bn_M_signal 49 = .ok (.ireturn, 1) := by decide +kernel
theorem dn_M_skip_0 : decode bn_M_skip 0 = .ok (.iload_n 1, 1) := by decide +kernel
theorem dn_M_skip_1 : decode bn_M_skip 1 = .ok (.istore_n 2, 1) := by decide +kernel
theorem dn_M_skip_2 : decode bn_M_skip 2 = .ok (.aload_n 0, 1) := by decide +kernel
theorem dn_M_skip_3 : decode bn_M_skip 3 = .ok (.iload_n 2, 1) := by decide +kernel
theorem dn_M_skip_4 : decode bn_M_skip 4 = .ok (.invokevirtual 206, 3) := by decide +kernel
theorem dn_M_skip_7 : decode bn_M_skip 7 = .ok (.istore_n 3, 1) := by decide +kernel
theorem dn_M_skip_8 : decode bn_M_skip 8 = .ok (.iload_n 3, 1) := by decide +kernel
theorem dn_M_skip_9 : decode bn_M_skip 9 = .ok (.bipush 9, 2) := by decide +kernel
theorem dn_M_skip_11 : decode bn_M_skip 11 = .ok (.if_icmp .eq 21, 3) := by decide +kernel
theorem dn_M_skip_14 : decode bn_M_skip 14 = .ok (.iload_n 3, 1) := by decide +kernel
theorem dn_M_skip_15 : decode bn_M_skip 15 = .ok (.bipush 10, 2) := by decide +kernel
theorem dn_M_skip_17 : decode bn_M_skip 17 = .ok (.if_icmp .eq 15, 3) := by decide +kernel
theorem dn_M_skip_20 : decode bn_M_skip 20 = .ok (.iload_n 3, 1) := by decide +kernel
theorem dn_M_skip_21 : decode bn_M_skip 21 = .ok (.bipush 13, 2) := by decide +kernel
theorem dn_M_skip_23 : decode bn_M_skip 23 = .ok (.if_icmp .eq 9, 3) := by decide +kernel
theorem dn_M_skip_26 : decode bn_M_skip 26 = .ok (.iload_n 3, 1) := by decide +kernel
theorem dn_M_skip_27 : decode bn_M_skip 27 = .ok (.bipush 32, 2) := by decide +kernel
theorem dn_M_skip_29 : decode bn_M_skip 29 = .ok (.if_icmp .ne 9, 3) := by decide +kernel
theorem dn_M_skip_38 : decode bn_M_skip 38 = .ok (.iload_n 3, 1) := by decide +kernel
theorem dn_M_skip_39 : decode bn_M_skip 39 = .ok (.bipush 47, 2) := by decide +kernel
theorem dn_M_skip_41 : decode bn_M_skip 41 = .ok (.if_icmp .ne 39, 3) := by decide +kernel
theorem dn_M_skip_80 : decode bn_M_skip 80 = .ok (.iload_n 3, 1) := by decide +kernel
theorem dn_M_skip_81 : decode bn_M_skip 81 = .ok (.bipush 47, 2) := by decide +kernel
theorem dn_M_skip_83 : decode bn_M_skip 83 = .ok (.if_icmp .ne 80, 3) := by decide +kernel
theorem dn_M_skip_163 : decode bn_M_skip 163 = .ok (.iload_n 2, 1) := by decide +kernel
theorem dn_M_skip_164 : decode bn_M_skip 164 = .ok (.ireturn, 1) := by decide +kernel
theorem dn_M_step_0 : decode bn_M_step 0 = .ok (.aload_n 0, 1) := by decide +kernel
theorem dn_M_step_1 : decode bn_M_step 1 = .ok (.aload_n 0, 1) := by decide +kernel
theorem dn_M_step_2 : decode bn_M_step 2 = .ok (.getfield 545, 3) := by decide +kernel
theorem dn_M_step_5 : decode bn_M_step 5 = .ok (.ifCond .eq 7, 3) := by decide +kernel
theorem dn_M_step_12 : decode bn_M_step 12 = .ok (.iconst 1, 1) := by decide +kernel
theorem dn_M_step_13 : decode bn_M_step 13 = .ok (.putfield 192, 3) := by decide +kernel
theorem dn_M_step_16 : decode bn_M_step 16 = .ok (.aload_n 0, 1) := by decide +kernel
theorem dn_M_step_17 : decode bn_M_step 17 = .ok (.getfield 192, 3) := by decide +kernel
theorem dn_M_step_20 : decode bn_M_step 20 = .ok (.ifCond .le 5, 3) := by decide +kernel
theorem dn_M_step_23 : decode bn_M_step 23 = .ok (.iconst 0, 1) := by decide +kernel
theorem dn_M_step_24 : decode bn_M_step 24 = .ok (.ireturn, 1) := by decide +kernel
theorem dn_M_take_0 : decode bn_M_take 0 = .ok (.aload_n 0, 1) := by decide +kernel
theorem dn_M_take_1 : decode bn_M_take 1 = .ok (.getfield 257, 3) := by decide +kernel
theorem dn_M_take_4 : decode bn_M_take 4 = .ok (.ifCond .ne 29, 3) := by decide +kernel
theorem dn_M_take_7 : decode bn_M_take 7 = .ok (.aload_n 0, 1) := by decide +kernel
theorem dn_M_take_8 : decode bn_M_take 8 = .ok (.getfield 15, 3) := by decide +kernel
theorem dn_M_take_11 : decode bn_M_take 11 = .ok (.aload_n 0, 1) := by decide +kernel
theorem dn_M_take_12 : decode bn_M_take 12 = .ok (.getfield 263, 3) := by decide +kernel
theorem dn_M_take_15 : decode bn_M_take 15 = .ok (.iaload, 1) := by decide +kernel
theorem dn_M_take_16 : decode bn_M_take 16 = .ok (.iload_n 1, 1) := by decide +kernel
theorem dn_M_take_17 : decode bn_M_take 17 = .ok (.if_icmp .ne 16, 3) := by decide +kernel
theorem dn_M_take_33 : decode bn_M_take 33 = .ok (.aload_n 0, 1) := by decide +kernel
theorem dn_M_take_34 : decode bn_M_take 34 = .ok (.invokevirtual 270, 3) := by decide +kernel
theorem dn_M_take_37 : decode bn_M_take 37 = .ok (.return_, 1) := by decide +kernel
theorem dn_M_thrown_0 : decode bn_M_thrown 0 = .ok (.aload_n 0, 1) := by decide +kernel
theorem dn_M_thrown_1 : decode bn_M_thrown 1 = .ok (.getfield 192, 3) := by decide +kernel
theorem dn_M_thrown_4 : decode bn_M_thrown 4 = .ok (.ireturn, 1) := by decide +kernel
theorem dn_M_token_0 : decode bn_M_token 0 = .ok (.aload_n 0, 1) := by decide +kernel
theorem dn_M_token_1 : decode bn_M_token 1 = .ok (.getfield 15, 3) := by decide +kernel
theorem dn_M_token_4 : decode bn_M_token 4 = .ok (.aload_n 0, 1) := by decide +kernel
theorem dn_M_token_5 : decode bn_M_token 5 = .ok (.getfield 231, 3) := by decide +kernel
theorem dn_M_token_8 : decode bn_M_token 8 = .ok (.iload_n 1, 1) := by decide +kernel
theorem dn_M_token_9 : decode bn_M_token 9 = .ok (.iastore, 1) := by decide +kernel
theorem dn_M_token_10 : decode bn_M_token 10 = .ok (.aload_n 0, 1) := by decide +kernel
theorem dn_M_token_11 : decode bn_M_token 11 = .ok (.getfield 19, 3) := by decide +kernel
theorem dn_M_token_14 : decode bn_M_token 14 = .ok (.aload_n 0, 1) := by decide +kernel
theorem dn_M_token_15 : decode bn_M_token 15 = .ok (.getfield 231, 3) := by decide +kernel
theorem dn_M_token_18 : decode bn_M_token 18 = .ok (.iload_n 2, 1) := by decide +kernel
theorem dn_M_token_19 : decode bn_M_token 19 = .ok (.iastore, 1) := by decide +kernel
theorem dn_M_token_20 : decode bn_M_token 20 = .ok (.aload_n 0, 1) := by decide +kernel
theorem dn_M_token_21 : decode bn_M_token 21 = .ok (.getfield 22, 3) := by decide +kernel
theorem dn_M_token_24 : decode bn_M_token 24 = .ok (.aload_n 0, 1) := by decide +kernel
theorem dn_M_token_25 : decode bn_M_token 25 = .ok (.getfield 231, 3) := by decide +kernel
theorem dn_M_token_28 : decode bn_M_token 28 = .ok (.iload_n 3, 1) := by decide +kernel
theorem dn_M_token_29 : decode bn_M_token 29 = .ok (.iastore, 1) := by decide +kernel
theorem dn_M_token_30 : decode bn_M_token 30 = .ok (.aload_n 0, 1) := by decide +kernel
theorem dn_M_token_31 : decode bn_M_token 31 = .ok (.dup, 1) := by decide +kernel
theorem dn_M_token_32 : decode bn_M_token 32 = .ok (.getfield 231, 3) := by decide +kernel
theorem dn_M_token_35 : decode bn_M_token 35 = .ok (.iconst 1, 1) := by decide +kernel
theorem dn_M_token_36 : decode bn_M_token 36 = .ok (.iadd, 1) := by decide +kernel
theorem dn_M_token_37 : decode bn_M_token 37 = .ok (.putfield 231, 3) := by decide +kernel
theorem dn_M_token_40 : decode bn_M_token 40 = .ok (.return_, 1) := by decide +kernel
theorem dn_M_value_0 : decode bn_M_value 0 = .ok (.aload_n 0, 1) := by decide +kernel
theorem dn_M_value_1 : decode bn_M_value 1 = .ok (.aload_n 0, 1) := by decide +kernel
theorem dn_M_value_2 : decode bn_M_value 2 = .ok (.getfield 545, 3) := by decide +kernel
theorem dn_M_value_5 : decode bn_M_value 5 = .ok (.ifCond .ne 7, 3) := by decide +kernel
theorem dn_M_value_8 : decode bn_M_value 8 = .ok (.iconst 1, 1) := by decide +kernel
theorem dn_M_value_9 : decode bn_M_value 9 = .ok (.goto 16, 3) := by decide +kernel
theorem dn_M_value_25 : decode bn_M_value 25 = .ok (.putfield 192, 3) := by decide +kernel
theorem dn_M_value_28 : decode bn_M_value 28 = .ok (.aload_n 0, 1) := by decide +kernel
theorem dn_M_value_29 : decode bn_M_value 29 = .ok (.getfield 192, 3) := by decide +kernel
theorem dn_M_value_32 : decode bn_M_value 32 = .ok (.ifCond .le 7, 3) := by decide +kernel
theorem dn_M_value_35 : decode bn_M_value 35 = .ok (.lconst 0, 1) := by decide +kernel
theorem dn_M_value_36 : decode bn_M_value 36 = .ok (.goto 9, 3) := by decide +kernel
theorem dn_M_value_45 : decode bn_M_value 45 = .ok (.lreturn, 1) := by decide +kernel
theorem dn_Machine_init_0 : decode bn_Machine_init 0 = .ok (.aload_n 0, 1) := by decide +kernel
theorem dn_Machine_init_1 : decode bn_Machine_init 1 = .ok (.invokespecial 3, 3) := by decide +kernel
theorem dn_Machine_init_4 : decode bn_Machine_init 4 = .ok (.aload_n 0, 1) := by decide +kernel
theorem dn_Machine_init_5 : decode bn_Machine_init 5 = .ok (.sipush 1024, 3) := by decide +kernel
theorem dn_Machine_init_8 : decode bn_Machine_init 8 = .ok (.newarray .long, 2) := by decide +kernel
theorem dn_Machine_init_10 : decode bn_Machine_init 10 = .ok (.putfield 9, 3) := by decide +kernel
theorem dn_Machine_init_13 : decode bn_Machine_init 13 = .ok (.aload_n 0, 1) := by decide +kernel
theorem dn_Machine_init_14 : decode bn_Machine_init 14 = .ok (.sipush 1024, 3) := by decide +kernel
theorem dn_Machine_init_17 : decode bn_Machine_init 17 = .ok (.newarray .long, 2) := by decide +kernel
theorem dn_Machine_init_19 : decode bn_Machine_init 19 = .ok (.putfield 15, 3) := by decide +kernel
theorem dn_Machine_init_22 : decode bn_Machine_init 22 = .ok (.aload_n 0, 1) := by decide +kernel
theorem dn_Machine_init_23 : decode bn_Machine_init 23 = .ok (.sipush 1024, 3) := by decide +kernel
theorem dn_Machine_init_26 : decode bn_Machine_init 26 = .ok (.newarray .long, 2) := by decide +kernel
theorem dn_Machine_init_28 : decode bn_Machine_init 28 = .ok (.putfield 18, 3) := by decide +kernel
theorem dn_Machine_init_31 : decode bn_Machine_init 31 = .ok (.return_, 1) := by decide +kernel
theorem dn_Meaning_init_0 : decode bn_Meaning_init 0 = .ok (.aload_n 0, 1) := by decide +kernel
theorem dn_Meaning_init_1 : decode bn_Meaning_init 1 = .ok (.invokespecial 3, 3) := by decide +kernel
theorem dn_Meaning_init_4 : decode bn_Meaning_init 4 = .ok (.aload_n 0, 1) := by decide +kernel
theorem dn_Meaning_init_5 : decode bn_Meaning_init 5 = .ok (.bipush 60, 2) := by decide +kernel
theorem dn_Meaning_init_7 : decode bn_Meaning_init 7 = .ok (.newarray .int, 2) := by decide +kernel
theorem dn_Meaning_init_9 : decode bn_Meaning_init 9 = .ok (.putfield 9, 3) := by decide +kernel
theorem dn_Meaning_init_12 : decode bn_Meaning_init 12 = .ok (.aload_n 0, 1) := by decide +kernel
theorem dn_Meaning_init_13 : decode bn_Meaning_init 13 = .ok (.bipush 60, 2) := by decide +kernel
theorem dn_Meaning_init_15 : decode bn_Meaning_init 15 = .ok (.newarray .int, 2) := by decide +kernel
theorem dn_Meaning_init_17 : decode bn_Meaning_init 17 = .ok (.putfield 15, 3) := by decide +kernel
theorem dn_Meaning_init_20 : decode bn_Meaning_init 20 = .ok (.aload_n 0, 1) := by decide +kernel
theorem dn_Meaning_init_21 : decode bn_Meaning_init 21 = .ok (.bipush 60, 2) := by decide +kernel
theorem dn_Meaning_init_23 : decode bn_Meaning_init 23 = .ok (.newarray .int, 2) := by decide +kernel
theorem dn_Meaning_init_25 : decode bn_Meaning_init 25 = .ok (.putfield 18, 3) := by decide +kernel
theorem dn_Meaning_init_28 : decode bn_Meaning_init 28 = .ok (.aload_n 0, 1) := by decide +kernel
theorem dn_Meaning_init_29 : decode bn_Meaning_init 29 = .ok (.bipush 60, 2) := by decide +kernel
theorem dn_Meaning_init_31 : decode bn_Meaning_init 31 = .ok (.newarray .int, 2) := by decide +kernel
theorem dn_Meaning_init_33 : decode bn_Meaning_init 33 = .ok (.putfield 21, 3) := by decide +kernel
theorem dn_Meaning_init_36 : decode bn_Meaning_init 36 = .ok (.aload_n 0, 1) := by decide +kernel
theorem dn_Meaning_init_37 : decode bn_Meaning_init 37 = .ok (.aload_n 1, 1) := by decide +kernel
theorem dn_Meaning_init_38 : decode bn_Meaning_init 38 = .ok (.putfield 24, 3) := by decide +kernel
theorem dn_Meaning_init_41 : decode bn_Meaning_init 41 = .ok (.return_, 1) := by decide +kernel
theorem dn_Meaning_portsEnd_0 : decode bn_Meaning_portsEnd 0 = .ok (.aload_n 0, 1) := by decide +kernel
theorem dn_Meaning_portsEnd_1 : decode bn_Meaning_portsEnd 1 = .ok (.getfield 24, 3) := by decide +kernel
theorem dn_Meaning_portsEnd_4 : decode bn_Meaning_portsEnd 4 = .ok (.invokevirtual 54, 3) := by decide +kernel
theorem dn_Meaning_portsEnd_7 : decode bn_Meaning_portsEnd 7 = .ok (.ifCond .eq 4, 3) := by decide +kernel
theorem dn_Meaning_portsEnd_10 : decode bn_Meaning_portsEnd 10 = .ok (.return_, 1) := by decide +kernel
theorem dn_Meaning_start_0 : decode bn_Meaning_start 0 = .ok (.aload_n 0, 1) := by decide +kernel
theorem dn_Meaning_start_1 : decode bn_Meaning_start 1 = .ok (.aload_n 1, 1) := by decide +kernel
theorem dn_Meaning_start_2 : decode bn_Meaning_start 2 = .ok (.putfield 28, 3) := by decide +kernel
theorem dn_Meaning_start_5 : decode bn_Meaning_start 5 = .ok (.aload_n 0, 1) := by decide +kernel
theorem dn_Meaning_start_6 : decode bn_Meaning_start 6 = .ok (.aload_n 1, 1) := by decide +kernel
theorem dn_Meaning_start_7 : decode bn_Meaning_start 7 = .ok (.getfield 32, 3) := by decide +kernel
theorem dn_Meaning_start_10 : decode bn_Meaning_start 10 = .ok (.putfield 38, 3) := by decide +kernel
theorem dn_Meaning_start_13 : decode bn_Meaning_start 13 = .ok (.aload_n 0, 1) := by decide +kernel
theorem dn_Meaning_start_14 : decode bn_Meaning_start 14 = .ok (.aload_n 1, 1) := by decide +kernel
theorem dn_Meaning_start_15 : decode bn_Meaning_start 15 = .ok (.getfield 39, 3) := by decide +kernel
theorem dn_Meaning_start_18 : decode bn_Meaning_start 18 = .ok (.putfield 43, 3) := by decide +kernel
theorem dn_Meaning_start_21 : decode bn_Meaning_start 21 = .ok (.aload_n 0, 1) := by decide +kernel
theorem dn_Meaning_start_22 : decode bn_Meaning_start 22 = .ok (.iconst 1, 1) := by decide +kernel
theorem dn_Meaning_start_23 : decode bn_Meaning_start 23 = .ok (.putfield 44, 3) := by decide +kernel
theorem dn_Meaning_start_26 : decode bn_Meaning_start 26 = .ok (.aload_n 0, 1) := by decide +kernel
theorem dn_Meaning_start_27 : decode bn_Meaning_start 27 = .ok (.iconst 0, 1) := by decide +kernel
theorem dn_Meaning_start_28 : decode bn_Meaning_start 28 = .ok (.putfield 48, 3) := by decide +kernel
theorem dn_Meaning_start_31 : decode bn_Meaning_start 31 = .ok (.aload_n 0, 1) := by decide +kernel
theorem dn_Meaning_start_32 : decode bn_Meaning_start 32 = .ok (.iconst 0, 1) := by decide +kernel
theorem dn_Meaning_start_33 : decode bn_Meaning_start 33 = .ok (.putfield 51, 3) := by decide +kernel
theorem dn_Meaning_start_36 : decode bn_Meaning_start 36 = .ok (.return_, 1) := by decide +kernel
theorem dn_Order_init_0 : decode bn_Order_init 0 = .ok (.aload_n 0, 1) := by decide +kernel
theorem dn_Order_init_1 : decode bn_Order_init 1 = .ok (.invokespecial 3, 3) := by decide +kernel
theorem dn_Order_init_4 : decode bn_Order_init 4 = .ok (.aload_n 0, 1) := by decide +kernel
theorem dn_Order_init_5 : decode bn_Order_init 5 = .ok (.sipush 1024, 3) := by decide +kernel
theorem dn_Order_init_8 : decode bn_Order_init 8 = .ok (.newarray .int, 2) := by decide +kernel
theorem dn_Order_init_10 : decode bn_Order_init 10 = .ok (.putfield 9, 3) := by decide +kernel
theorem dn_Order_init_13 : decode bn_Order_init 13 = .ok (.aload_n 0, 1) := by decide +kernel
theorem dn_Order_init_14 : decode bn_Order_init 14 = .ok (.sipush 1024, 3) := by decide +kernel
theorem dn_Order_init_17 : decode bn_Order_init 17 = .ok (.newarray .int, 2) := by decide +kernel
theorem dn_Order_init_19 : decode bn_Order_init 19 = .ok (.putfield 15, 3) := by decide +kernel
theorem dn_Order_init_22 : decode bn_Order_init 22 = .ok (.aload_n 0, 1) := by decide +kernel
theorem dn_Order_init_23 : decode bn_Order_init 23 = .ok (.sipush 1024, 3) := by decide +kernel
theorem dn_Order_init_26 : decode bn_Order_init 26 = .ok (.newarray .int, 2) := by decide +kernel
theorem dn_Order_init_28 : decode bn_Order_init 28 = .ok (.putfield 18, 3) := by decide +kernel
theorem dn_Order_init_31 : decode bn_Order_init 31 = .ok (.aload_n 0, 1) := by decide +kernel
theorem dn_Order_init_32 : decode bn_Order_init 32 = .ok (.sipush 1024, 3) := by decide +kernel
theorem dn_Order_init_35 : decode bn_Order_init 35 = .ok (.newarray .int, 2) := by decide +kernel
theorem dn_Order_init_37 : decode bn_Order_init 37 = .ok (.putfield 21, 3) := by decide +kernel
theorem dn_Order_init_40 : decode bn_Order_init 40 = .ok (.aload_n 0, 1) := by decide +kernel
theorem dn_Order_init_41 : decode bn_Order_init 41 = .ok (.sipush 1024, 3) := by decide +kernel
theorem dn_Order_init_44 : decode bn_Order_init 44 = .ok (.newarray .int, 2) := by decide +kernel
theorem dn_Order_init_46 : decode bn_Order_init 46 = .ok (.putfield 24, 3) := by decide +kernel
theorem dn_Order_init_49 : decode bn_Order_init 49 = .ok (.return_, 1) := by decide +kernel
theorem dn_Parts_clear_0 : decode bn_Parts_clear 0 = .ok (.aload_n 0, 1) := by decide +kernel
theorem dn_Parts_clear_1 : decode bn_Parts_clear 1 = .ok (.iconst 0, 1) := by decide +kernel
theorem dn_Parts_clear_2 : decode bn_Parts_clear 2 = .ok (.putfield 49, 3) := by decide +kernel
theorem dn_Parts_clear_5 : decode bn_Parts_clear 5 = .ok (.aload_n 0, 1) := by decide +kernel
theorem dn_Parts_clear_6 : decode bn_Parts_clear 6 = .ok (.iconst 0, 1) := by decide +kernel
theorem dn_Parts_clear_7 : decode bn_Parts_clear 7 = .ok (.putfield 53, 3) := by decide +kernel
theorem dn_Parts_clear_10 : decode bn_Parts_clear 10 = .ok (.aload_n 0, 1) := by decide +kernel
theorem dn_Parts_clear_11 : decode bn_Parts_clear 11 = .ok (.iconst 0, 1) := by decide +kernel
theorem dn_Parts_clear_12 : decode bn_Parts_clear 12 = .ok (.putfield 56, 3) := by decide +kernel
theorem dn_Parts_clear_15 : decode bn_Parts_clear 15 = .ok (.return_, 1) := by decide +kernel
theorem dn_Parts_init_0 : decode bn_Parts_init 0 = .ok (.aload_n 0, 1) := by decide +kernel
theorem dn_Parts_init_1 : decode bn_Parts_init 1 = .ok (.invokespecial 3, 3) := by decide +kernel
theorem dn_Parts_init_4 : decode bn_Parts_init 4 = .ok (.aload_n 0, 1) := by decide +kernel
theorem dn_Parts_init_5 : decode bn_Parts_init 5 = .ok (.sipush 10923, 3) := by decide +kernel
theorem dn_Parts_init_8 : decode bn_Parts_init 8 = .ok (.newarray .int, 2) := by decide +kernel
theorem dn_Parts_init_10 : decode bn_Parts_init 10 = .ok (.putfield 9, 3) := by decide +kernel
theorem dn_Parts_init_13 : decode bn_Parts_init 13 = .ok (.aload_n 0, 1) := by decide +kernel
theorem dn_Parts_init_14 : decode bn_Parts_init 14 = .ok (.sipush 10923, 3) := by decide +kernel
theorem dn_Parts_init_17 : decode bn_Parts_init 17 = .ok (.newarray .int, 2) := by decide +kernel
theorem dn_Parts_init_19 : decode bn_Parts_init 19 = .ok (.putfield 15, 3) := by decide +kernel
theorem dn_Parts_init_22 : decode bn_Parts_init 22 = .ok (.aload_n 0, 1) := by decide +kernel
theorem dn_Parts_init_23 : decode bn_Parts_init 23 = .ok (.sipush 10923, 3) := by decide +kernel
theorem dn_Parts_init_26 : decode bn_Parts_init 26 = .ok (.newarray .int, 2) := by decide +kernel
theorem dn_Parts_init_28 : decode bn_Parts_init 28 = .ok (.putfield 18, 3) := by decide +kernel
theorem dn_Parts_init_31 : decode bn_Parts_init 31 = .ok (.aload_n 0, 1) := by decide +kernel
theorem dn_Parts_init_32 : decode bn_Parts_init 32 = .ok (.sipush 10923, 3) := by decide +kernel
theorem dn_Parts_init_35 : decode bn_Parts_init 35 = .ok (.newarray .long, 2) := by decide +kernel
theorem dn_Parts_init_37 : decode bn_Parts_init 37 = .ok (.putfield 21, 3) := by decide +kernel
theorem dn_Parts_init_40 : decode bn_Parts_init 40 = .ok (.aload_n 0, 1) := by decide +kernel
theorem dn_Parts_init_41 : decode bn_Parts_init 41 = .ok (.sipush 10923, 3) := by decide +kernel
theorem dn_Parts_init_44 : decode bn_Parts_init 44 = .ok (.newarray .int, 2) := by decide +kernel
theorem dn_Parts_init_46 : decode bn_Parts_init 46 = .ok (.putfield 25, 3) := by decide +kernel
theorem dn_Parts_init_49 : decode bn_Parts_init 49 = .ok (.aload_n 0, 1) := by decide +kernel
theorem dn_Parts_init_50 : decode bn_Parts_init 50 = .ok (.sipush 10923, 3) := by decide +kernel
theorem dn_Parts_init_53 : decode bn_Parts_init 53 = .ok (.newarray .int, 2) := by decide +kernel
theorem dn_Parts_init_55 : decode bn_Parts_init 55 = .ok (.putfield 28, 3) := by decide +kernel
theorem dn_Parts_init_58 : decode bn_Parts_init 58 = .ok (.aload_n 0, 1) := by decide +kernel
theorem dn_Parts_init_59 : decode bn_Parts_init 59 = .ok (.sipush 10923, 3) := by decide +kernel
theorem dn_Parts_init_62 : decode bn_Parts_init 62 = .ok (.newarray .int, 2) := by decide +kernel
theorem dn_Parts_init_64 : decode bn_Parts_init 64 = .ok (.putfield 31, 3) := by decide +kernel
theorem dn_Parts_init_67 : decode bn_Parts_init 67 = .ok (.aload_n 0, 1) := by decide +kernel
theorem dn_Parts_init_68 : decode bn_Parts_init 68 = .ok (.sipush 10923, 3) := by decide +kernel
theorem dn_Parts_init_71 : decode bn_Parts_init 71 = .ok (.newarray .int, 2) := by decide +kernel
theorem dn_Parts_init_73 : decode bn_Parts_init 73 = .ok (.putfield 34, 3) := by decide +kernel
theorem dn_Parts_init_76 : decode bn_Parts_init 76 = .ok (.aload_n 0, 1) := by decide +kernel
theorem dn_Parts_init_77 : decode bn_Parts_init 77 = .ok (.sipush 10923, 3) := by decide +kernel
theorem dn_Parts_init_80 : decode bn_Parts_init 80 = .ok (.newarray .int, 2) := by decide +kernel
theorem dn_Parts_init_82 : decode bn_Parts_init 82 = .ok (.putfield 37, 3) := by decide +kernel
theorem dn_Parts_init_85 : decode bn_Parts_init 85 = .ok (.aload_n 0, 1) := by decide +kernel
theorem dn_Parts_init_86 : decode bn_Parts_init 86 = .ok (.sipush 10923, 3) := by decide +kernel
theorem dn_Parts_init_89 : decode bn_Parts_init 89 = .ok (.newarray .int, 2) := by decide +kernel
theorem dn_Parts_init_91 : decode bn_Parts_init 91 = .ok (.putfield 40, 3) := by decide +kernel
theorem dn_Parts_init_94 : decode bn_Parts_init 94 = .ok (.aload_n 0, 1) := by decide +kernel
theorem dn_Parts_init_95 : decode bn_Parts_init 95 = .ok (.sipush 10923, 3) := by decide +kernel
theorem dn_Parts_init_98 : decode bn_Parts_init 98 = .ok (.newarray .int, 2) := by decide +kernel
theorem dn_Parts_init_100 : decode bn_Parts_init 100 = .ok (.putfield 43, 3) := by decide +kernel
theorem dn_Parts_init_103 : decode bn_Parts_init 103 = .ok (.aload_n 0, 1) := by decide +kernel
theorem dn_Parts_init_104 : decode bn_Parts_init 104 = .ok (.sipush 10923, 3) := by decide +kernel
theorem dn_Parts_init_107 : decode bn_Parts_init 107 = .ok (.newarray .int, 2) := by decide +kernel
theorem dn_Parts_init_109 : decode bn_Parts_init 109 = .ok (.putfield 46, 3) := by decide +kernel
theorem dn_Parts_init_112 : decode bn_Parts_init 112 = .ok (.return_, 1) := by decide +kernel
theorem dn_Scanner_init_0 : decode bn_Scanner_init 0 = .ok (.aload_n 0, 1) := by decide +kernel
theorem dn_Scanner_init_1 : decode bn_Scanner_init 1 = .ok (.invokespecial 3, 3) := by decide +kernel
theorem dn_Scanner_init_4 : decode bn_Scanner_init 4 = .ok (.aload_n 0, 1) := by decide +kernel
theorem dn_Scanner_init_5 : decode bn_Scanner_init 5 = .ok (.iconst 0, 1) := by decide +kernel
theorem dn_Scanner_init_6 : decode bn_Scanner_init 6 = .ok (.newarray .byte, 2) := by decide +kernel
theorem dn_Scanner_init_8 : decode bn_Scanner_init 8 = .ok (.putfield 9, 3) := by decide +kernel
theorem dn_Scanner_init_11 : decode bn_Scanner_init 11 = .ok (.aload_n 0, 1) := by decide +kernel
theorem dn_Scanner_init_12 : decode bn_Scanner_init 12 = .ok (.sipush 256, 3) := by decide +kernel
theorem dn_Scanner_init_15 : decode bn_Scanner_init 15 = .ok (.newarray .int, 2) := by decide +kernel
theorem dn_Scanner_init_17 : decode bn_Scanner_init 17 = .ok (.putfield 15, 3) := by decide +kernel
theorem dn_Scanner_init_20 : decode bn_Scanner_init 20 = .ok (.aload_n 0, 1) := by decide +kernel
theorem dn_Scanner_init_21 : decode bn_Scanner_init 21 = .ok (.sipush 19830, 3) := by decide +kernel
theorem dn_Scanner_init_24 : decode bn_Scanner_init 24 = .ok (.newarray .int, 2) := by decide +kernel
theorem dn_Scanner_init_26 : decode bn_Scanner_init 26 = .ok (.putfield 19, 3) := by decide +kernel
theorem dn_Scanner_init_29 : decode bn_Scanner_init 29 = .ok (.aload_n 0, 1) := by decide +kernel
theorem dn_Scanner_init_30 : decode bn_Scanner_init 30 = .ok (.sipush 19830, 3) := by decide +kernel
theorem dn_Scanner_init_33 : decode bn_Scanner_init 33 = .ok (.newarray .int, 2) := by decide +kernel
theorem dn_Scanner_init_35 : decode bn_Scanner_init 35 = .ok (.putfield 22, 3) := by decide +kernel
theorem dn_Scanner_init_38 : decode bn_Scanner_init 38 = .ok (.aload_n 0, 1) := by decide +kernel
theorem dn_Scanner_init_39 : decode bn_Scanner_init 39 = .ok (.sipush 19830, 3) := by decide +kernel
theorem dn_Scanner_init_42 : decode bn_Scanner_init 42 = .ok (.newarray .int, 2) := by decide +kernel
theorem dn_Scanner_init_44 : decode bn_Scanner_init 44 = .ok (.putfield 25, 3) := by decide +kernel
theorem dn_Scanner_init_47 : decode bn_Scanner_init 47 = .ok (.aload_n 0, 1) := by decide +kernel
theorem dn_Scanner_init_48 : decode bn_Scanner_init 48 = .ok (.aload_n 1, 1) := by decide +kernel
theorem dn_Scanner_init_49 : decode bn_Scanner_init 49 = .ok (.putfield 28, 3) := by decide +kernel
theorem dn_Scanner_init_52 : decode bn_Scanner_init 52 = .ok (.return_, 1) := by decide +kernel
theorem dn_Scanner_scan_0 : decode bn_Scanner_scan 0 = .ok (.aload_n 0, 1) := by decide +kernel
theorem dn_Scanner_scan_1 : decode bn_Scanner_scan 1 = .ok (.aload_n 1, 1) := by decide +kernel
theorem dn_Scanner_scan_2 : decode bn_Scanner_scan 2 = .ok (.getfield 32, 3) := by decide +kernel
theorem dn_Scanner_scan_5 : decode bn_Scanner_scan 5 = .ok (.putfield 9, 3) := by decide +kernel
theorem dn_Scanner_scan_8 : decode bn_Scanner_scan 8 = .ok (.aload_n 0, 1) := by decide +kernel
theorem dn_Scanner_scan_9 : decode bn_Scanner_scan 9 = .ok (.aload_n 1, 1) := by decide +kernel
theorem dn_Scanner_scan_10 : decode bn_Scanner_scan 10 = .ok (.getfield 35, 3) := by decide +kernel
theorem dn_Scanner_scan_13 : decode bn_Scanner_scan 13 = .ok (.aload_n 0, 1) := by decide +kernel
theorem dn_Scanner_scan_14 : decode bn_Scanner_scan 14 = .ok (.getfield 9, 3) := by decide +kernel
theorem dn_Scanner_scan_17 : decode bn_Scanner_scan 17 = .ok (.arraylength, 1) := by decide +kernel
theorem dn_Scanner_scan_18 : decode bn_Scanner_scan 18 = .ok (.invokestatic 39, 3) := by decide +kernel
theorem dn_Scanner_scan_21 : decode bn_Scanner_scan 21 = .ok (.putfield 45, 3) := by decide +kernel
theorem dn_Scanner_scan_24 : decode bn_Scanner_scan 24 = .ok (.aload_n 0, 1) := by decide +kernel
theorem dn_Scanner_scan_25 : decode bn_Scanner_scan 25 = .ok (.aload_n 1, 1) := by decide +kernel
theorem dn_Scanner_scan_26 : decode bn_Scanner_scan 26 = .ok (.getfield 46, 3) := by decide +kernel
theorem dn_Scanner_scan_29 : decode bn_Scanner_scan 29 = .ok (.putfield 50, 3) := by decide +kernel
theorem dn_Scanner_scan_32 : decode bn_Scanner_scan 32 = .ok (.aload_n 0, 1) := by decide +kernel
theorem dn_Scanner_scan_33 : decode bn_Scanner_scan 33 = .ok (.getfield 28, 3) := by decide +kernel
theorem dn_Scanner_scan_36 : decode bn_Scanner_scan 36 = .ok (.invokevirtual 51, 3) := by decide +kernel
theorem dn_Scanner_scan_39 : decode bn_Scanner_scan 39 = .ok (.aload_n 0, 1) := by decide +kernel
theorem dn_Scanner_scan_40 : decode bn_Scanner_scan 40 = .ok (.getfield 15, 3) := by decide +kernel
theorem dn_Scanner_scan_43 : decode bn_Scanner_scan 43 = .ok (.iconst (-1), 1) := by decide +kernel
theorem dn_Scanner_scan_44 : decode bn_Scanner_scan 44 = .ok (.invokestatic 56, 3) := by decide +kernel
theorem dn_Scanner_scan_47 : decode bn_Scanner_scan 47 = .ok (.aload_n 0, 1) := by decide +kernel
theorem dn_Scanner_scan_48 : decode bn_Scanner_scan 48 = .ok (.iconst 0, 1) := by decide +kernel
theorem dn_Scanner_scan_49 : decode bn_Scanner_scan 49 = .ok (.putfield 62, 3) := by decide +kernel
theorem dn_Scanner_scan_52 : decode bn_Scanner_scan 52 = .ok (.iconst 0, 1) := by decide +kernel
theorem dn_Scanner_scan_53 : decode bn_Scanner_scan 53 = .ok (.istore_n 2, 1) := by decide +kernel
theorem dn_Scanner_scan_54 : decode bn_Scanner_scan 54 = .ok (.iconst 1, 1) := by decide +kernel
theorem dn_Scanner_scan_55 : decode bn_Scanner_scan 55 = .ok (.istore_n 3, 1) := by decide +kernel
theorem dn_Scanner_scan_56 : decode bn_Scanner_scan 56 = .ok (.iload_n 3, 1) := by decide +kernel
theorem dn_Scanner_scan_57 : decode bn_Scanner_scan 57 = .ok (.ifCond .eq 53, 3) := by decide +kernel
theorem dn_Scanner_scan_60 : decode bn_Scanner_scan 60 = .ok (.iload_n 2, 1) := by decide +kernel
theorem dn_Scanner_scan_61 : decode bn_Scanner_scan 61 = .ok (.aload_n 0, 1) := by decide +kernel
theorem dn_Scanner_scan_62 : decode bn_Scanner_scan 62 = .ok (.getfield 45, 3) := by decide +kernel
theorem dn_Scanner_scan_65 : decode bn_Scanner_scan 65 = .ok (.if_icmp .ge 45, 3) := by decide +kernel
theorem dn_Scanner_scan_110 : decode bn_Scanner_scan 110 = .ok (.aload_n 0, 1) := by decide +kernel
theorem dn_Scanner_scan_111 : decode bn_Scanner_scan 111 = .ok (.getfield 28, 3) := by decide +kernel
theorem dn_Scanner_scan_114 : decode bn_Scanner_scan 114 = .ok (.iload_n 3, 1) := by decide +kernel
theorem dn_Scanner_scan_115 : decode bn_Scanner_scan 115 = .ok (.ifCond .eq 7, 3) := by decide +kernel
theorem dn_Scanner_scan_118 : decode bn_Scanner_scan 118 = .ok (.iconst 0, 1) := by decide +kernel
theorem dn_Scanner_scan_119 : decode bn_Scanner_scan 119 = .ok (.goto 4, 3) := by decide +kernel
theorem dn_Scanner_scan_123 : decode bn_Scanner_scan 123 = .ok (.iload_n 2, 1) := by decide +kernel
theorem dn_Scanner_scan_124 : decode bn_Scanner_scan 124 = .ok (.iconst (-1), 1) := by decide +kernel
theorem dn_Scanner_scan_125 : decode bn_Scanner_scan 125 = .ok (.invokevirtual 72, 3) := by decide +kernel
theorem dn_Scanner_scan_128 : decode bn_Scanner_scan 128 = .ok (.return_, 1) := by decide +kernel
theorem dn_Tokens_add_0 : decode bn_Tokens_add 0 = .ok (.aload_n 0, 1) := by decide +kernel
theorem dn_Tokens_add_1 : decode bn_Tokens_add 1 = .ok (.getfield 16, 3) := by decide +kernel
theorem dn_Tokens_add_4 : decode bn_Tokens_add 4 = .ok (.aload_n 0, 1) := by decide +kernel
theorem dn_Tokens_add_5 : decode bn_Tokens_add 5 = .ok (.getfield 10, 3) := by decide +kernel
theorem dn_Tokens_add_8 : decode bn_Tokens_add 8 = .ok (.arraylength, 1) := by decide +kernel
theorem dn_Tokens_add_9 : decode bn_Tokens_add 9 = .ok (.if_icmp .lt 4, 3) := by decide +kernel
theorem dn_Tokens_add_13 : decode bn_Tokens_add 13 = .ok (.aload_n 0, 1) := by decide +kernel
theorem dn_Tokens_add_14 : decode bn_Tokens_add 14 = .ok (.getfield 10, 3) := by decide +kernel
theorem dn_Tokens_add_17 : decode bn_Tokens_add 17 = .ok (.aload_n 0, 1) := by decide +kernel
theorem dn_Tokens_add_18 : decode bn_Tokens_add 18 = .ok (.getfield 16, 3) := by decide +kernel
theorem dn_Tokens_add_21 : decode bn_Tokens_add 21 = .ok (.iload_n 1, 1) := by decide +kernel
theorem dn_Tokens_add_22 : decode bn_Tokens_add 22 = .ok (.i2l, 1) := by decide +kernel
theorem dn_Tokens_add_23 : decode bn_Tokens_add 23 = .ok (.bipush 40, 2) := by decide +kernel
theorem dn_Tokens_add_25 : decode bn_Tokens_add 25 = .ok (.lshl, 1) := by decide +kernel
theorem dn_Tokens_add_26 : decode bn_Tokens_add 26 = .ok (.iload_n 2, 1) := by decide +kernel
theorem dn_Tokens_add_27 : decode bn_Tokens_add 27 = .ok (.i2l, 1) := by decide +kernel
theorem dn_Tokens_add_28 : decode bn_Tokens_add 28 = .ok (.bipush 20, 2) := by decide +kernel
theorem dn_Tokens_add_30 : decode bn_Tokens_add 30 = .ok (.lshl, 1) := by decide +kernel
theorem dn_Tokens_add_31 : decode bn_Tokens_add 31 = .ok (.lor, 1) := by decide +kernel
theorem dn_Tokens_add_32 : decode bn_Tokens_add 32 = .ok (.iload_n 3, 1) := by decide +kernel
theorem dn_Tokens_add_33 : decode bn_Tokens_add 33 = .ok (.iconst 1, 1) := by decide +kernel
theorem dn_Tokens_add_34 : decode bn_Tokens_add 34 = .ok (.iadd, 1) := by decide +kernel
theorem dn_Tokens_add_35 : decode bn_Tokens_add 35 = .ok (.i2l, 1) := by decide +kernel
theorem dn_Tokens_add_36 : decode bn_Tokens_add 36 = .ok (.lor, 1) := by decide +kernel
theorem dn_Tokens_add_37 : decode bn_Tokens_add 37 = .ok (.lastore, 1) := by decide +kernel
theorem dn_Tokens_add_38 : decode bn_Tokens_add 38 = .ok (.aload_n 0, 1) := by decide +kernel
theorem dn_Tokens_add_39 : decode bn_Tokens_add 39 = .ok (.dup, 1) := by decide +kernel
theorem dn_Tokens_add_40 : decode bn_Tokens_add 40 = .ok (.getfield 16, 3) := by decide +kernel
theorem dn_Tokens_add_43 : decode bn_Tokens_add 43 = .ok (.iconst 1, 1) := by decide +kernel
theorem dn_Tokens_add_44 : decode bn_Tokens_add 44 = .ok (.iadd, 1) := by decide +kernel
theorem dn_Tokens_add_45 : decode bn_Tokens_add 45 = .ok (.putfield 16, 3) := by decide +kernel
theorem dn_Tokens_add_48 : decode bn_Tokens_add 48 = .ok (.return_, 1) := by decide +kernel
theorem dn_Tokens_clear_0 : decode bn_Tokens_clear 0 = .ok (.aload_n 0, 1) := by decide +kernel
theorem dn_Tokens_clear_1 : decode bn_Tokens_clear 1 = .ok (.iconst 0, 1) := by decide +kernel
theorem dn_Tokens_clear_2 : decode bn_Tokens_clear 2 = .ok (.putfield 16, 3) := by decide +kernel
theorem dn_Tokens_clear_5 : decode bn_Tokens_clear 5 = .ok (.return_, 1) := by decide +kernel
theorem dn_Tokens_due_0 : decode bn_Tokens_due 0 = .ok (.aload_n 0, 1) := by decide +kernel
theorem dn_Tokens_due_1 : decode bn_Tokens_due 1 = .ok (.getfield 39, 3) := by decide +kernel
theorem dn_Tokens_due_4 : decode bn_Tokens_due 4 = .ok (.iload_n 1, 1) := by decide +kernel
theorem dn_Tokens_due_5 : decode bn_Tokens_due 5 = .ok (.if_icmp .ne 5, 3) := by decide +kernel
theorem dn_Tokens_due_10 : decode bn_Tokens_due 10 = .ok (.aload_n 0, 1) := by decide +kernel
theorem dn_Tokens_due_11 : decode bn_Tokens_due 11 = .ok (.aload_n 0, 1) := by decide +kernel
theorem dn_Tokens_due_12 : decode bn_Tokens_due 12 = .ok (.invokevirtual 52, 3) := by decide +kernel
theorem dn_Tokens_due_15 : decode bn_Tokens_due 15 = .ok (.invokevirtual 56, 3) := by decide +kernel
theorem dn_Tokens_due_18 : decode bn_Tokens_due 18 = .ok (.iconst 0, 1) := by decide +kernel
theorem dn_Tokens_due_19 : decode bn_Tokens_due 19 = .ok (.ireturn, 1) := by decide +kernel
theorem dn_Tokens_extraAt_0 : decode bn_Tokens_extraAt 0 = .ok (.iload_n 1, 1) := by decide +kernel
theorem dn_Tokens_extraAt_1 : decode bn_Tokens_extraAt 1 = .ok (.ifCond .lt 26, 3) := by decide +kernel
theorem dn_Tokens_extraAt_4 : decode bn_Tokens_extraAt 4 = .ok (.iload_n 1, 1) := by decide +kernel
theorem dn_Tokens_extraAt_5 : decode bn_Tokens_extraAt 5 = .ok (.aload_n 0, 1) := by decide +kernel
theorem dn_Tokens_extraAt_6 : decode bn_Tokens_extraAt 6 = .ok (.getfield 16, 3) := by decide +kernel
theorem dn_Tokens_extraAt_9 : decode bn_Tokens_extraAt 9 = .ok (.if_icmp .ge 18, 3) := by decide +kernel
theorem dn_Tokens_extraAt_12 : decode bn_Tokens_extraAt 12 = .ok (.aload_n 0, 1) := by decide +kernel
theorem dn_Tokens_extraAt_13 : decode bn_Tokens_extraAt 13 = .ok (.getfield 10, 3) := by decide +kernel
theorem dn_Tokens_extraAt_16 : decode bn_Tokens_extraAt 16 = .ok (.iload_n 1, 1) := by decide +kernel
theorem dn_Tokens_extraAt_17 : decode bn_Tokens_extraAt 17 = .ok (.laload, 1) := by decide +kernel
theorem dn_Tokens_extraAt_18 : decode bn_Tokens_extraAt 18 = .ok (.l2i, 1) := by decide +kernel
theorem dn_Tokens_extraAt_19 : decode bn_Tokens_extraAt 19 = .ok (.ldc 42, 2) := by decide +kernel
theorem dn_Tokens_extraAt_21 : decode bn_Tokens_extraAt 21 = .ok (.iand, 1) := by decide +kernel
theorem dn_Tokens_extraAt_22 : decode bn_Tokens_extraAt 22 = .ok (.iconst 1, 1) := by decide +kernel
theorem dn_Tokens_extraAt_23 : decode bn_Tokens_extraAt 23 = .ok (.isub, 1) := by decide +kernel
theorem dn_Tokens_extraAt_24 : decode bn_Tokens_extraAt 24 = .ok (.goto 4, 3) := by decide +kernel
theorem dn_Tokens_extraAt_28 : decode bn_Tokens_extraAt 28 = .ok (.ireturn, 1) := by decide +kernel
theorem dn_Tokens_init_0 : decode bn_Tokens_init 0 = .ok (.aload_n 0, 1) := by decide +kernel
theorem dn_Tokens_init_1 : decode bn_Tokens_init 1 = .ok (.invokespecial 3, 3) := by decide +kernel
theorem dn_Tokens_init_4 : decode bn_Tokens_init 4 = .ok (.aload_n 0, 1) := by decide +kernel
theorem dn_Tokens_init_5 : decode bn_Tokens_init 5 = .ok (.ldc 9, 2) := by decide +kernel
theorem dn_Tokens_init_7 : decode bn_Tokens_init 7 = .ok (.newarray .long, 2) := by decide +kernel
theorem dn_Tokens_init_9 : decode bn_Tokens_init 9 = .ok (.putfield 10, 3) := by decide +kernel
theorem dn_Tokens_init_12 : decode bn_Tokens_init 12 = .ok (.return_, 1) := by decide +kernel
theorem dn_Tokens_kindAt_0 : decode bn_Tokens_kindAt 0 = .ok (.iload_n 1, 1) := by decide +kernel
theorem dn_Tokens_kindAt_1 : decode bn_Tokens_kindAt 1 = .ok (.ifCond .lt 24, 3) := by decide +kernel
theorem dn_Tokens_kindAt_4 : decode bn_Tokens_kindAt 4 = .ok (.iload_n 1, 1) := by decide +kernel
theorem dn_Tokens_kindAt_5 : decode bn_Tokens_kindAt 5 = .ok (.aload_n 0, 1) := by decide +kernel
theorem dn_Tokens_kindAt_6 : decode bn_Tokens_kindAt 6 = .ok (.getfield 16, 3) := by decide +kernel
theorem dn_Tokens_kindAt_9 : decode bn_Tokens_kindAt 9 = .ok (.if_icmp .ge 16, 3) := by decide +kernel
theorem dn_Tokens_kindAt_12 : decode bn_Tokens_kindAt 12 = .ok (.aload_n 0, 1) := by decide +kernel
theorem dn_Tokens_kindAt_13 : decode bn_Tokens_kindAt 13 = .ok (.getfield 10, 3) := by decide +kernel
theorem dn_Tokens_kindAt_16 : decode bn_Tokens_kindAt 16 = .ok (.iload_n 1, 1) := by decide +kernel
theorem dn_Tokens_kindAt_17 : decode bn_Tokens_kindAt 17 = .ok (.laload, 1) := by decide +kernel
theorem dn_Tokens_kindAt_18 : decode bn_Tokens_kindAt 18 = .ok (.bipush 40, 2) := by decide +kernel
theorem dn_Tokens_kindAt_20 : decode bn_Tokens_kindAt 20 = .ok (.lushr, 1) := by decide +kernel
theorem dn_Tokens_kindAt_21 : decode bn_Tokens_kindAt 21 = .ok (.l2i, 1) := by decide +kernel
theorem dn_Tokens_kindAt_22 : decode bn_Tokens_kindAt 22 = .ok (.goto 4, 3) := by decide +kernel
theorem dn_Tokens_kindAt_26 : decode bn_Tokens_kindAt 26 = .ok (.ireturn, 1) := by decide +kernel
theorem dn_Tokens_misfit_0 : decode bn_Tokens_misfit 0 = .ok (.aload_n 0, 1) := by decide +kernel
theorem dn_Tokens_misfit_1 : decode bn_Tokens_misfit 1 = .ok (.getfield 39, 3) := by decide +kernel
theorem dn_Tokens_misfit_4 : decode bn_Tokens_misfit 4 = .ok (.iconst 1, 1) := by decide +kernel
theorem dn_Tokens_misfit_5 : decode bn_Tokens_misfit 5 = .ok (.if_icmp .ne 7, 3) := by decide +kernel
theorem dn_Tokens_misfit_12 : decode bn_Tokens_misfit 12 = .ok (.iconst 2, 1) := by decide +kernel
theorem dn_Tokens_misfit_13 : decode bn_Tokens_misfit 13 = .ok (.ireturn, 1) := by decide +kernel
theorem dn_Tokens_need_0 : decode bn_Tokens_need 0 = .ok (.aload_n 0, 1) := by decide +kernel
theorem dn_Tokens_need_1 : decode bn_Tokens_need 1 = .ok (.getfield 39, 3) := by decide +kernel
theorem dn_Tokens_need_4 : decode bn_Tokens_need 4 = .ok (.iload_n 1, 1) := by decide +kernel
theorem dn_Tokens_need_5 : decode bn_Tokens_need 5 = .ok (.if_icmp .ne 10, 3) := by decide +kernel
theorem dn_Tokens_need_15 : decode bn_Tokens_need 15 = .ok (.aload_n 0, 1) := by decide +kernel
theorem dn_Tokens_need_16 : decode bn_Tokens_need 16 = .ok (.aload_n 0, 1) := by decide +kernel
theorem dn_Tokens_need_17 : decode bn_Tokens_need 17 = .ok (.invokevirtual 52, 3) := by decide +kernel
theorem dn_Tokens_need_20 : decode bn_Tokens_need 20 = .ok (.invokevirtual 56, 3) := by decide +kernel
theorem dn_Tokens_need_23 : decode bn_Tokens_need 23 = .ok (.return_, 1) := by decide +kernel
theorem dn_Tokens_open_0 : decode bn_Tokens_open 0 = .ok (.aload_n 0, 1) := by decide +kernel
theorem dn_Tokens_open_1 : decode bn_Tokens_open 1 = .ok (.getfield 39, 3) := by decide +kernel
theorem dn_Tokens_open_4 : decode bn_Tokens_open 4 = .ok (.iload_n 1, 1) := by decide +kernel
theorem dn_Tokens_open_5 : decode bn_Tokens_open 5 = .ok (.if_icmp .eq 14, 3) := by decide +kernel
theorem dn_Tokens_open_8 : decode bn_Tokens_open 8 = .ok (.aload_n 0, 1) := by decide +kernel
theorem dn_Tokens_open_9 : decode bn_Tokens_open 9 = .ok (.aload_n 0, 1) := by decide +kernel
theorem dn_Tokens_open_10 : decode bn_Tokens_open 10 = .ok (.invokevirtual 52, 3) := by decide +kernel
theorem dn_Tokens_open_13 : decode bn_Tokens_open 13 = .ok (.invokevirtual 56, 3) := by decide +kernel
theorem dn_Tokens_open_16 : decode bn_Tokens_open 16 = .ok (.goto 34, 3) := by decide +kernel
theorem dn_Tokens_open_50 : decode bn_Tokens_open 50 = .ok (.return_, 1) := by decide +kernel
theorem dn_Tokens_shut_0 : decode bn_Tokens_shut 0 = .ok (.aload_n 0, 1) := by decide +kernel
theorem dn_Tokens_shut_1 : decode bn_Tokens_shut 1 = .ok (.getfield 39, 3) := by decide +kernel
theorem dn_Tokens_shut_4 : decode bn_Tokens_shut 4 = .ok (.iload_n 1, 1) := by decide +kernel
theorem dn_Tokens_shut_5 : decode bn_Tokens_shut 5 = .ok (.if_icmp .ne 10, 3) := by decide +kernel
theorem dn_Tokens_shut_15 : decode bn_Tokens_shut 15 = .ok (.aload_n 0, 1) := by decide +kernel
theorem dn_Tokens_shut_16 : decode bn_Tokens_shut 16 = .ok (.aload_n 0, 1) := by decide +kernel
theorem dn_Tokens_shut_17 : decode bn_Tokens_shut 17 = .ok (.invokevirtual 52, 3) := by decide +kernel
theorem dn_Tokens_shut_20 : decode bn_Tokens_shut 20 = .ok (.invokevirtual 56, 3) := by decide +kernel
theorem dn_Tokens_shut_23 : decode bn_Tokens_shut 23 = .ok (.aload_n 0, 1) := by decide +kernel
theorem dn_Tokens_shut_24 : decode bn_Tokens_shut 24 = .ok (.dup, 1) := by decide +kernel
theorem dn_Tokens_shut_25 : decode bn_Tokens_shut 25 = .ok (.getfield 23, 3) := by decide +kernel
theorem dn_Tokens_shut_28 : decode bn_Tokens_shut 28 = .ok (.iconst 1, 1) := by decide +kernel
theorem dn_Tokens_shut_29 : decode bn_Tokens_shut 29 = .ok (.isub, 1) := by decide +kernel
theorem dn_Tokens_shut_30 : decode bn_Tokens_shut 30 = .ok (.putfield 23, 3) := by decide +kernel
theorem dn_Tokens_shut_33 : decode bn_Tokens_shut 33 = .ok (.return_, 1) := by decide +kernel
theorem dn_Tokens_start_0 : decode bn_Tokens_start 0 = .ok (.aload_n 0, 1) := by decide +kernel
theorem dn_Tokens_start_1 : decode bn_Tokens_start 1 = .ok (.iconst (-1), 1) := by decide +kernel
theorem dn_Tokens_start_2 : decode bn_Tokens_start 2 = .ok (.putfield 20, 3) := by decide +kernel
theorem dn_Tokens_start_5 : decode bn_Tokens_start 5 = .ok (.aload_n 0, 1) := by decide +kernel
theorem dn_Tokens_start_6 : decode bn_Tokens_start 6 = .ok (.iconst 0, 1) := by decide +kernel
theorem dn_Tokens_start_7 : decode bn_Tokens_start 7 = .ok (.putfield 23, 3) := by decide +kernel
theorem dn_Tokens_start_10 : decode bn_Tokens_start 10 = .ok (.aload_n 0, 1) := by decide +kernel
theorem dn_Tokens_start_11 : decode bn_Tokens_start 11 = .ok (.iconst 0, 1) := by decide +kernel
theorem dn_Tokens_start_12 : decode bn_Tokens_start 12 = .ok (.putfield 26, 3) := by decide +kernel
theorem dn_Tokens_start_15 : decode bn_Tokens_start 15 = .ok (.aload_n 0, 1) := by decide +kernel
theorem dn_Tokens_start_16 : decode bn_Tokens_start 16 = .ok (.iconst (-1), 1) := by decide +kernel
theorem dn_Tokens_start_17 : decode bn_Tokens_start 17 = .ok (.putfield 29, 3) := by decide +kernel
theorem dn_Tokens_start_20 : decode bn_Tokens_start 20 = .ok (.aload_n 0, 1) := by decide +kernel
theorem dn_Tokens_start_21 : decode bn_Tokens_start 21 = .ok (.invokevirtual 32, 3) := by decide +kernel
theorem dn_Tokens_start_24 : decode bn_Tokens_start 24 = .ok (.return_, 1) := by decide +kernel
theorem dn_Tokens_stop_0 : decode bn_Tokens_stop 0 = .ok (.aload_n 0, 1) := by decide +kernel
theorem dn_Tokens_stop_1 : decode bn_Tokens_stop 1 = .ok (.getfield 26, 3) := by decide +kernel
theorem dn_Tokens_stop_4 : decode bn_Tokens_stop 4 = .ok (.ifCond .eq 4, 3) := by decide +kernel
theorem dn_Tokens_stop_7 : decode bn_Tokens_stop 7 = .ok (.return_, 1) := by decide +kernel
theorem dn_Tokens_stop_8 : decode bn_Tokens_stop 8 = .ok (.aload_n 0, 1) := by decide +kernel
theorem dn_Tokens_stop_9 : decode bn_Tokens_stop 9 = .ok (.iload_n 1, 1) := by decide +kernel
theorem dn_Tokens_stop_10 : decode bn_Tokens_stop 10 = .ok (.putfield 26, 3) := by decide +kernel
theorem dn_Tokens_stop_13 : decode bn_Tokens_stop 13 = .ok (.aload_n 0, 1) := by decide +kernel
theorem dn_Tokens_stop_14 : decode bn_Tokens_stop 14 = .ok (.aload_n 0, 1) := by decide +kernel
theorem dn_Tokens_stop_15 : decode bn_Tokens_stop 15 = .ok (.getfield 43, 3) := by decide +kernel
theorem dn_Tokens_stop_18 : decode bn_Tokens_stop 18 = .ok (.putfield 29, 3) := by decide +kernel
theorem dn_Tokens_stop_21 : decode bn_Tokens_stop 21 = .ok (.aload_n 0, 1) := by decide +kernel
theorem dn_Tokens_stop_22 : decode bn_Tokens_stop 22 = .ok (.iconst (-1), 1) := by decide +kernel
theorem dn_Tokens_stop_23 : decode bn_Tokens_stop 23 = .ok (.putfield 39, 3) := by decide +kernel
theorem dn_Tokens_stop_26 : decode bn_Tokens_stop 26 = .ok (.return_, 1) := by decide +kernel
theorem dn_Tokens_take_0 : decode bn_Tokens_take 0 = .ok (.aload_n 0, 1) := by decide +kernel
theorem dn_Tokens_take_1 : decode bn_Tokens_take 1 = .ok (.getfield 26, 3) := by decide +kernel
theorem dn_Tokens_take_4 : decode bn_Tokens_take 4 = .ok (.ifCond .ne 16, 3) := by decide +kernel
theorem dn_Tokens_take_7 : decode bn_Tokens_take 7 = .ok (.aload_n 0, 1) := by decide +kernel
theorem dn_Tokens_take_8 : decode bn_Tokens_take 8 = .ok (.getfield 20, 3) := by decide +kernel
theorem dn_Tokens_take_11 : decode bn_Tokens_take 11 = .ok (.iconst 1, 1) := by decide +kernel
theorem dn_Tokens_take_12 : decode bn_Tokens_take 12 = .ok (.iadd, 1) := by decide +kernel
theorem dn_Tokens_take_13 : decode bn_Tokens_take 13 = .ok (.aload_n 0, 1) := by decide +kernel
theorem dn_Tokens_take_14 : decode bn_Tokens_take 14 = .ok (.getfield 16, 3) := by decide +kernel
theorem dn_Tokens_take_17 : decode bn_Tokens_take 17 = .ok (.if_icmp .lt 4, 3) := by decide +kernel
theorem dn_Tokens_take_20 : decode bn_Tokens_take 20 = .ok (.return_, 1) := by decide +kernel
theorem dn_Tokens_take_21 : decode bn_Tokens_take 21 = .ok (.aload_n 0, 1) := by decide +kernel
theorem dn_Tokens_take_22 : decode bn_Tokens_take 22 = .ok (.dup, 1) := by decide +kernel
theorem dn_Tokens_take_23 : decode bn_Tokens_take 23 = .ok (.getfield 20, 3) := by decide +kernel
theorem dn_Tokens_take_26 : decode bn_Tokens_take 26 = .ok (.iconst 1, 1) := by decide +kernel
theorem dn_Tokens_take_27 : decode bn_Tokens_take 27 = .ok (.iadd, 1) := by decide +kernel
theorem dn_Tokens_take_28 : decode bn_Tokens_take 28 = .ok (.putfield 20, 3) := by decide +kernel
theorem dn_Tokens_take_31 : decode bn_Tokens_take 31 = .ok (.aload_n 0, 1) := by decide +kernel
theorem dn_Tokens_take_32 : decode bn_Tokens_take 32 = .ok (.aload_n 0, 1) := by decide +kernel
theorem dn_Tokens_take_33 : decode bn_Tokens_take 33 = .ok (.aload_n 0, 1) := by decide +kernel
theorem dn_Tokens_take_34 : decode bn_Tokens_take 34 = .ok (.getfield 20, 3) := by decide +kernel
theorem dn_Tokens_take_37 : decode bn_Tokens_take 37 = .ok (.invokevirtual 35, 3) := by decide +kernel
theorem dn_Tokens_take_40 : decode bn_Tokens_take 40 = .ok (.putfield 39, 3) := by decide +kernel
theorem dn_Tokens_take_43 : decode bn_Tokens_take 43 = .ok (.aload_n 0, 1) := by decide +kernel
theorem dn_Tokens_take_44 : decode bn_Tokens_take 44 = .ok (.aload_n 0, 1) := by decide +kernel
theorem dn_Tokens_take_45 : decode bn_Tokens_take 45 = .ok (.getfield 10, 3) := by decide +kernel
theorem dn_Tokens_take_48 : decode bn_Tokens_take 48 = .ok (.aload_n 0, 1) := by decide +kernel
theorem dn_Tokens_take_49 : decode bn_Tokens_take 49 = .ok (.getfield 20, 3) := by decide +kernel
theorem dn_Tokens_take_52 : decode bn_Tokens_take 52 = .ok (.laload, 1) := by decide +kernel
theorem dn_Tokens_take_53 : decode bn_Tokens_take 53 = .ok (.bipush 20, 2) := by decide +kernel
theorem dn_Tokens_take_55 : decode bn_Tokens_take 55 = .ok (.lushr, 1) := by decide +kernel
theorem dn_Tokens_take_56 : decode bn_Tokens_take 56 = .ok (.l2i, 1) := by decide +kernel
theorem dn_Tokens_take_57 : decode bn_Tokens_take 57 = .ok (.ldc 42, 2) := by decide +kernel
theorem dn_Tokens_take_59 : decode bn_Tokens_take 59 = .ok (.iand, 1) := by decide +kernel
theorem dn_Tokens_take_60 : decode bn_Tokens_take 60 = .ok (.putfield 43, 3) := by decide +kernel
theorem dn_Tokens_take_63 : decode bn_Tokens_take 63 = .ok (.aload_n 0, 1) := by decide +kernel
theorem dn_Tokens_take_64 : decode bn_Tokens_take 64 = .ok (.aload_n 0, 1) := by decide +kernel
theorem dn_Tokens_take_65 : decode bn_Tokens_take 65 = .ok (.aload_n 0, 1) := by decide +kernel
theorem dn_Tokens_take_66 : decode bn_Tokens_take 66 = .ok (.getfield 20, 3) := by decide +kernel
theorem dn_Tokens_take_69 : decode bn_Tokens_take 69 = .ok (.invokevirtual 46, 3) := by decide +kernel
theorem dn_Tokens_take_72 : decode bn_Tokens_take 72 = .ok (.putfield 49, 3) := by decide +kernel
theorem dn_Tokens_take_75 : decode bn_Tokens_take 75 = .ok (.return_, 1) := by decide +kernel
