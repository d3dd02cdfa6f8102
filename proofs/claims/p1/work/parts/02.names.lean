def fg_g : List Cond := lw_tbl.filter goodWord
theorem fg_in {w : Cond} (h : w ∈ lw_tbl) (hg : goodWord w = true) : w ∈ fg_g := List.mem_filter.mpr ⟨h, hg⟩
def F_G : u_T := fun k => match k with
  | 0 => ("FilterGuard", "tape", "[B", false)
  | 1 => ("FilterGuard", "tapeSize", "I", false)
  | 2 => ("FilterGuard", "stores", "[LFilterGuard$Store;", true)
  | 3 => ("FilterGuard", "maps", "I", false)
  | 4 => ("FilterGuard", "code", "LFilterGuard$Code;", true)
  | 5 => ("FilterGuard", "shorter", "LFilterGuard$Code;", true)
  | 6 => ("FilterGuard", "facts", "LFilterGuard$Facts;", true)
  | 7 => ("FilterGuard", "explorer", "LFilterGuard$Explorer;", true)
  | 8 => ("FilterGuard", "machine", "LFilterGuard$Machine;", true)
  | 9 => ("FilterGuard", "fault", "I", false)
  | 10 => ("FilterGuard", "faultSlot", "I", false)
  | 11 => ("FilterGuard", "isLoaded", "Z", false)
  | 12 => ("FilterGuard", "isProgram", "Z", false)
  | _ => ("FilterGuard", "wasAccepted", "Z", false)
def t_G : Nat → FieldType := fun k => match k with
  | 0 => (.array .byte)
  | 1 => .int
  | 2 => (.array (.object "FilterGuard$Store"))
  | 3 => .int
  | 4 => (.object "FilterGuard$Code")
  | 5 => (.object "FilterGuard$Code")
  | 6 => (.object "FilterGuard$Facts")
  | 7 => (.object "FilterGuard$Explorer")
  | 8 => (.object "FilterGuard$Machine")
  | 9 => .int
  | 10 => .int
  | 11 => .boolean
  | 12 => .boolean
  | _ => .boolean
theorem n_G : ∀ a, a < 14 → ∀ b, b < 14 → a ≠ b → (F_G a).2.1 ≠ (F_G b).2.1 := by decide +kernel
theorem t_G_ok : ∀ k, k < 14 → parseFieldDescriptor (F_G k).2.2.1 = some (t_G k) := by decide +kernel
theorem z_G : ∀ j, j < 14 → defaultValue (t_G j) = vp_V [.null, .int 0, .null, .int 0, .null, .null, .null, .null, .null, .int 0, .int 0, .int 0, .int 0, .int 0] j := by decide +kernel
theorem i_G : ∀ w ∈ u_ws "FilterGuard" F_G 14, w ∈ fg_g := by decide +kernel
def F_M : u_T := fun k => match k with
  | 0 => ("FilterGuardModel", "thrown", "I", false)
  | 1 => ("FilterGuardModel", "tape", "[B", true)
  | 2 => ("FilterGuardModel", "taped", "I", false)
  | 3 => ("FilterGuardModel", "maps", "I", false)
  | 4 => ("FilterGuardModel", "everAccepted", "Z", false)
  | 5 => ("FilterGuardModel", "mapKind", "[I", true)
  | 6 => ("FilterGuardModel", "keyBytes", "[I", true)
  | 7 => ("FilterGuardModel", "valueBytes", "[I", true)
  | 8 => ("FilterGuardModel", "entries", "[I", true)
  | 9 => ("FilterGuardModel", "there", "[Z", true)
  | 10 => ("FilterGuardModel", "keys", "[B", true)
  | 11 => ("FilterGuardModel", "values", "[B", true)
  | 12 => ("FilterGuardModel", "told", "I", false)
  | 13 => ("FilterGuardModel", "slot", "[J", true)
  | 14 => ("FilterGuardModel", "programSlots", "I", false)
  | 15 => ("FilterGuardModel", "shorterSlots", "I", false)
  | 16 => ("FilterGuardModel", "program", "[J", true)
  | 17 => ("FilterGuardModel", "shorter", "[J", true)
  | 18 => ("FilterGuardModel", "isExplored", "Z", false)
  | 19 => ("FilterGuardModel", "hasProgram", "Z", false)
  | 20 => ("FilterGuardModel", "fault", "I", false)
  | 21 => ("FilterGuardModel", "faultSlot", "I", false)
  | 22 => ("FilterGuardModel", "visits", "I", false)
  | 23 => ("FilterGuardModel", "kept", "I", false)
  | 24 => ("FilterGuardModel", "mostWaited", "I", false)
  | 25 => ("FilterGuardModel", "paths", "I", false)
  | 26 => ("FilterGuardModel", "shortSlots", "I", false)
  | 27 => ("FilterGuardModel", "visited", "[I", true)
  | 28 => ("FilterGuardModel", "went", "[Z", true)
  | 29 => ("FilterGuardModel", "fell", "[Z", true)
  | 30 => ("FilterGuardModel", "exactSo", "[I", true)
  | 31 => ("FilterGuardModel", "exactAs", "[J", true)
  | 32 => ("FilterGuardModel", "second", "[Z", true)
  | 33 => ("FilterGuardModel", "isMark", "[Z", true)
  | 34 => ("FilterGuardModel", "packetBytes", "I", false)
  | 35 => ("FilterGuardModel", "packet", "[B", true)
  | 36 => ("FilterGuardModel", "context", "[B", true)
  | 37 => ("FilterGuardModel", "clock", "J", false)
  | 38 => ("FilterGuardModel", "tellings", "I", false)
  | 39 => ("FilterGuardModel", "telling", "[J", true)
  | 40 => ("FilterGuardModel", "runs", "I", false)
  | 41 => ("FilterGuardModel", "ranMode", "I", false)
  | 42 => ("FilterGuardModel", "ranSteps", "I", false)
  | 43 => ("FilterGuardModel", "reg", "[J", true)
  | 44 => ("FilterGuardModel", "stack", "[B", true)
  | 45 => ("FilterGuardModel", "keyRead", "[B", true)
  | 46 => ("FilterGuardModel", "valueRead", "[B", true)
  | 47 => ("FilterGuardModel", "kind", "[B", true)
  | 48 => ("FilterGuardModel", "place", "[I", true)
  | 49 => ("FilterGuardModel", "map", "[I", true)
  | 50 => ("FilterGuardModel", "identity", "[I", true)
  | 51 => ("FilterGuardModel", "room", "[I", true)
  | 52 => ("FilterGuardModel", "value", "[J", true)
  | 53 => ("FilterGuardModel", "mask", "[J", true)
  | 54 => ("FilterGuardModel", "least", "[J", true)
  | 55 => ("FilterGuardModel", "great", "[J", true)
  | 56 => ("FilterGuardModel", "low", "[J", true)
  | 57 => ("FilterGuardModel", "high", "[J", true)
  | 58 => ("FilterGuardModel", "written", "[I", true)
  | 59 => ("FilterGuardModel", "identities", "I", false)
  | 60 => ("FilterGuardModel", "keptAt", "[I", true)
  | 61 => ("FilterGuardModel", "keptBehind", "[I", true)
  | 62 => ("FilterGuardModel", "waiting", "I", false)
  | 63 => ("FilterGuardModel", "waitsAt", "[I", true)
  | 64 => ("FilterGuardModel", "waitsBehind", "[I", true)
  | 65 => ("FilterGuardModel", "behind", "I", false)
  | 66 => ("FilterGuardModel", "pairs", "[I", true)
  | 67 => ("FilterGuardModel", "pairOf", "[I", true)
  | 68 => ("FilterGuardModel", "ways", "I", false)
  | 69 => ("FilterGuardModel", "paired", "I", false)
  | 70 => ("FilterGuardModel", "next", "I", false)
  | 71 => ("FilterGuardModel", "stays", "[Z", true)
  | 72 => ("FilterGuardModel", "becomes", "[J", true)
  | 73 => ("FilterGuardModel", "newPlace", "[I", true)
  | _ => ("FilterGuardModel", "ranBytes", "I", false)
def t_M : Nat → FieldType := fun k => match k with
  | 0 => .int
  | 1 => (.array .byte)
  | 2 => .int
  | 3 => .int
  | 4 => .boolean
  | 5 => (.array .int)
  | 6 => (.array .int)
  | 7 => (.array .int)
  | 8 => (.array .int)
  | 9 => (.array .boolean)
  | 10 => (.array .byte)
  | 11 => (.array .byte)
  | 12 => .int
  | 13 => (.array .long)
  | 14 => .int
  | 15 => .int
  | 16 => (.array .long)
  | 17 => (.array .long)
  | 18 => .boolean
  | 19 => .boolean
  | 20 => .int
  | 21 => .int
  | 22 => .int
  | 23 => .int
  | 24 => .int
  | 25 => .int
  | 26 => .int
  | 27 => (.array .int)
  | 28 => (.array .boolean)
  | 29 => (.array .boolean)
  | 30 => (.array .int)
  | 31 => (.array .long)
  | 32 => (.array .boolean)
  | 33 => (.array .boolean)
  | 34 => .int
  | 35 => (.array .byte)
  | 36 => (.array .byte)
  | 37 => .long
  | 38 => .int
  | 39 => (.array .long)
  | 40 => .int
  | 41 => .int
  | 42 => .int
  | 43 => (.array .long)
  | 44 => (.array .byte)
  | 45 => (.array .byte)
  | 46 => (.array .byte)
  | 47 => (.array .byte)
  | 48 => (.array .int)
  | 49 => (.array .int)
  | 50 => (.array .int)
  | 51 => (.array .int)
  | 52 => (.array .long)
  | 53 => (.array .long)
  | 54 => (.array .long)
  | 55 => (.array .long)
  | 56 => (.array .long)
  | 57 => (.array .long)
  | 58 => (.array .int)
  | 59 => .int
  | 60 => (.array .int)
  | 61 => (.array .int)
  | 62 => .int
  | 63 => (.array .int)
  | 64 => (.array .int)
  | 65 => .int
  | 66 => (.array .int)
  | 67 => (.array .int)
  | 68 => .int
  | 69 => .int
  | 70 => .int
  | 71 => (.array .boolean)
  | 72 => (.array .long)
  | 73 => (.array .int)
  | _ => .int
theorem n_M : ∀ a, a < 75 → ∀ b, b < 75 → a ≠ b → (F_M a).2.1 ≠ (F_M b).2.1 := by decide +kernel
theorem t_M_ok : ∀ k, k < 75 → parseFieldDescriptor (F_M k).2.2.1 = some (t_M k) := by decide +kernel
theorem z_M : ∀ j, j < 75 → defaultValue (t_M j) = vp_V [.int 0, .null, .int 0, .int 0, .int 0, .null, .null, .null, .null, .null, .null, .null, .int 0, .null, .int 0, .int 0, .null, .null, .int 0, .int 0, .int 0, .int 0, .int 0, .int 0, .int 0, .int 0, .int 0, .null, .null, .null, .null, .null, .null, .null, .int 0, .null, .null, .long 0, .int 0, .null, .int 0, .int 0, .int 0, .null, .null, .null, .null, .null, .null, .null, .null, .null, .null, .null, .null, .null, .null, .null, .null, .int 0, .null, .null, .int 0, .null, .null, .int 0, .null, .null, .int 0, .int 0, .int 0, .null, .null, .null, .int 0] j := by decide +kernel
theorem i_M : ∀ w ∈ u_ws "FilterGuardModel" F_M 75, w ∈ fg_g := by decide +kernel
def F_Code : u_T := fun k => match k with
  | 0 => ("FilterGuard$Code", "slots", "[J", true)
  | 1 => ("FilterGuard$Code", "isSecond", "[Z", true)
  | 2 => ("FilterGuard$Code", "isMark", "[Z", true)
  | 3 => ("FilterGuard$Code", "size", "I", false)
  | 4 => ("FilterGuard$Code", "faultSlot", "I", false)
  | 5 => ("FilterGuard$Code", "op", "I", false)
  | 6 => ("FilterGuard$Code", "to", "I", false)
  | 7 => ("FilterGuard$Code", "from", "I", false)
  | 8 => ("FilterGuard$Code", "offset", "I", false)
  | 9 => ("FilterGuard$Code", "field", "I", false)
  | 10 => ("FilterGuard$Code", "family", "I", false)
  | 11 => ("FilterGuard$Code", "bytes", "I", false)
  | 12 => ("FilterGuard$Code", "operation", "I", false)
  | 13 => ("FilterGuard$Code", "isNarrow", "Z", false)
  | 14 => ("FilterGuard$Code", "readsTo", "Z", false)
  | _ => ("FilterGuard$Code", "readsFrom", "Z", false)
def t_Code : Nat → FieldType := fun k => match k with
  | 0 => (.array .long)
  | 1 => (.array .boolean)
  | 2 => (.array .boolean)
  | 3 => .int
  | 4 => .int
  | 5 => .int
  | 6 => .int
  | 7 => .int
  | 8 => .int
  | 9 => .int
  | 10 => .int
  | 11 => .int
  | 12 => .int
  | 13 => .boolean
  | 14 => .boolean
  | _ => .boolean
theorem n_Code : ∀ a, a < 16 → ∀ b, b < 16 → a ≠ b → (F_Code a).2.1 ≠ (F_Code b).2.1 := by decide +kernel
theorem t_Code_ok : ∀ k, k < 16 → parseFieldDescriptor (F_Code k).2.2.1 = some (t_Code k) := by decide +kernel
theorem z_Code : ∀ j, j < 16 → defaultValue (t_Code j) = vp_V [.null, .null, .null, .int 0, .int 0, .int 0, .int 0, .int 0, .int 0, .int 0, .int 0, .int 0, .int 0, .int 0, .int 0, .int 0] j := by decide +kernel
theorem i_Code : ∀ w ∈ u_ws "FilterGuard$Code" F_Code 16, w ∈ fg_g := by decide +kernel
def F_Facts : u_T := fun k => match k with
  | 0 => ("FilterGuard$Facts", "visits", "[I", true)
  | 1 => ("FilterGuard$Facts", "went", "[Z", true)
  | 2 => ("FilterGuard$Facts", "fell", "[Z", true)
  | 3 => ("FilterGuard$Facts", "exactness", "[I", true)
  | 4 => ("FilterGuard$Facts", "exactNumber", "[J", true)
  | 5 => ("FilterGuard$Facts", "stays", "[Z", true)
  | _ => ("FilterGuard$Facts", "newPlace", "[I", true)
def t_Facts : Nat → FieldType := fun k => match k with
  | 0 => (.array .int)
  | 1 => (.array .boolean)
  | 2 => (.array .boolean)
  | 3 => (.array .int)
  | 4 => (.array .long)
  | 5 => (.array .boolean)
  | _ => (.array .int)
theorem n_Facts : ∀ a, a < 7 → ∀ b, b < 7 → a ≠ b → (F_Facts a).2.1 ≠ (F_Facts b).2.1 := by decide +kernel
theorem t_Facts_ok : ∀ k, k < 7 → parseFieldDescriptor (F_Facts k).2.2.1 = some (t_Facts k) := by decide +kernel
theorem z_Facts : ∀ j, j < 7 → defaultValue (t_Facts j) = vp_V [.null, .null, .null, .null, .null, .null, .null] j := by decide +kernel
theorem i_Facts : ∀ w ∈ u_ws "FilterGuard$Facts" F_Facts 7, w ∈ fg_g := by decide +kernel
def F_Explorer : u_T := fun k => match k with
  | 0 => ("FilterGuard$Explorer", "code", "LFilterGuard$Code;", true)
  | 1 => ("FilterGuard$Explorer", "facts", "LFilterGuard$Facts;", true)
  | 2 => ("FilterGuard$Explorer", "steps", "LFilterGuard$Steps;", true)
  | 3 => ("FilterGuard$Explorer", "kept", "[LFilterGuard$State;", true)
  | 4 => ("FilterGuard$Explorer", "waiting", "[LFilterGuard$State;", true)
  | 5 => ("FilterGuard$Explorer", "keptIdentities", "[I", true)
  | 6 => ("FilterGuard$Explorer", "itsIdentities", "[I", true)
  | 7 => ("FilterGuard$Explorer", "pairs", "I", false)
  | 8 => ("FilterGuard$Explorer", "now", "LFilterGuard$State;", false)
  | 9 => ("FilterGuard$Explorer", "waitingCount", "I", false)
  | 10 => ("FilterGuard$Explorer", "isThrough", "Z", false)
  | 11 => ("FilterGuard$Explorer", "keptCount", "I", false)
  | 12 => ("FilterGuard$Explorer", "visits", "I", false)
  | 13 => ("FilterGuard$Explorer", "mostWaiting", "I", false)
  | _ => ("FilterGuard$Explorer", "paths", "I", false)
def t_Explorer : Nat → FieldType := fun k => match k with
  | 0 => (.object "FilterGuard$Code")
  | 1 => (.object "FilterGuard$Facts")
  | 2 => (.object "FilterGuard$Steps")
  | 3 => (.array (.object "FilterGuard$State"))
  | 4 => (.array (.object "FilterGuard$State"))
  | 5 => (.array .int)
  | 6 => (.array .int)
  | 7 => .int
  | 8 => (.object "FilterGuard$State")
  | 9 => .int
  | 10 => .boolean
  | 11 => .int
  | 12 => .int
  | 13 => .int
  | _ => .int
theorem n_Explorer : ∀ a, a < 15 → ∀ b, b < 15 → a ≠ b → (F_Explorer a).2.1 ≠ (F_Explorer b).2.1 := by decide +kernel
theorem t_Explorer_ok : ∀ k, k < 15 → parseFieldDescriptor (F_Explorer k).2.2.1 = some (t_Explorer k) := by decide +kernel
theorem z_Explorer : ∀ j, j < 15 → defaultValue (t_Explorer j) = vp_V [.null, .null, .null, .null, .null, .null, .null, .int 0, .null, .int 0, .int 0, .int 0, .int 0, .int 0, .int 0] j := by decide +kernel
theorem i_Explorer : ∀ w ∈ u_ws "FilterGuard$Explorer" F_Explorer 15, w ∈ fg_g := by decide +kernel
def F_Machine : u_T := fun k => match k with
  | 0 => ("FilterGuard$Machine", "code", "LFilterGuard$Code;", true)
  | 1 => ("FilterGuard$Machine", "shorter", "LFilterGuard$Code;", true)
  | 2 => ("FilterGuard$Machine", "stores", "[LFilterGuard$Store;", true)
  | 3 => ("FilterGuard$Machine", "checks", "LFilterGuard$Checks;", true)
  | 4 => ("FilterGuard$Machine", "context", "[B", true)
  | 5 => ("FilterGuard$Machine", "stack", "[B", true)
  | 6 => ("FilterGuard$Machine", "registers", "[J", true)
  | 7 => ("FilterGuard$Machine", "packet", "[B", true)
  | 8 => ("FilterGuard$Machine", "packetSize", "I", false)
  | 9 => ("FilterGuard$Machine", "tellings", "[J", true)
  | 10 => ("FilterGuard$Machine", "toldCount", "I", false)
  | 11 => ("FilterGuard$Machine", "time", "J", false)
  | 12 => ("FilterGuard$Machine", "runs", "I", false)
  | 13 => ("FilterGuard$Machine", "mode", "I", false)
  | 14 => ("FilterGuard$Machine", "done", "I", false)
  | 15 => ("FilterGuard$Machine", "ranPacket", "I", false)
  | 16 => ("FilterGuard$Machine", "program", "LFilterGuard$Code;", false)
  | 17 => ("FilterGuard$Machine", "at", "I", false)
  | 18 => ("FilterGuard$Machine", "area", "[B", false)
  | _ => ("FilterGuard$Machine", "areaAt", "I", false)
def t_Machine : Nat → FieldType := fun k => match k with
  | 0 => (.object "FilterGuard$Code")
  | 1 => (.object "FilterGuard$Code")
  | 2 => (.array (.object "FilterGuard$Store"))
  | 3 => (.object "FilterGuard$Checks")
  | 4 => (.array .byte)
  | 5 => (.array .byte)
  | 6 => (.array .long)
  | 7 => (.array .byte)
  | 8 => .int
  | 9 => (.array .long)
  | 10 => .int
  | 11 => .long
  | 12 => .int
  | 13 => .int
  | 14 => .int
  | 15 => .int
  | 16 => (.object "FilterGuard$Code")
  | 17 => .int
  | 18 => (.array .byte)
  | _ => .int
theorem n_Machine : ∀ a, a < 20 → ∀ b, b < 20 → a ≠ b → (F_Machine a).2.1 ≠ (F_Machine b).2.1 := by decide +kernel
theorem t_Machine_ok : ∀ k, k < 20 → parseFieldDescriptor (F_Machine k).2.2.1 = some (t_Machine k) := by decide +kernel
theorem z_Machine : ∀ j, j < 20 → defaultValue (t_Machine j) = vp_V [.null, .null, .null, .null, .null, .null, .null, .null, .int 0, .null, .int 0, .long 0, .int 0, .int 0, .int 0, .int 0, .null, .int 0, .null, .int 0] j := by decide +kernel
theorem i_Machine : ∀ w ∈ u_ws "FilterGuard$Machine" F_Machine 20, w ∈ fg_g := by decide +kernel
def F_Checks : u_T := fun k => match k with
  | 0 => ("FilterGuard$Checks", "code", "LFilterGuard$Code;", true)
  | 1 => ("FilterGuard$Checks", "stores", "[LFilterGuard$Store;", true)
  | 2 => ("FilterGuard$Checks", "state", "LFilterGuard$State;", true)
  | _ => ("FilterGuard$Checks", "cells", "[LFilterGuard$Cell;", true)
def t_Checks : Nat → FieldType := fun k => match k with
  | 0 => (.object "FilterGuard$Code")
  | 1 => (.array (.object "FilterGuard$Store"))
  | 2 => (.object "FilterGuard$State")
  | _ => (.array (.object "FilterGuard$Cell"))
theorem n_Checks : ∀ a, a < 4 → ∀ b, b < 4 → a ≠ b → (F_Checks a).2.1 ≠ (F_Checks b).2.1 := by decide +kernel
theorem t_Checks_ok : ∀ k, k < 4 → parseFieldDescriptor (F_Checks k).2.2.1 = some (t_Checks k) := by decide +kernel
theorem z_Checks : ∀ j, j < 4 → defaultValue (t_Checks j) = vp_V [.null, .null, .null, .null] j := by decide +kernel
theorem i_Checks : ∀ w ∈ u_ws "FilterGuard$Checks" F_Checks 4, w ∈ fg_g := by decide +kernel
def F_Steps : u_T := fun k => match k with
  | 0 => ("FilterGuard$Steps", "code", "LFilterGuard$Code;", true)
  | 1 => ("FilterGuard$Steps", "stores", "[LFilterGuard$Store;", true)
  | 2 => ("FilterGuard$Steps", "reckoner", "LFilterGuard$Reckoner;", true)
  | 3 => ("FilterGuard$Steps", "fieldCell", "LFilterGuard$Cell;", true)
  | 4 => ("FilterGuard$Steps", "moreNumber", "LFilterGuard$Num;", true)
  | 5 => ("FilterGuard$Steps", "cells", "[LFilterGuard$Cell;", false)
  | 6 => ("FilterGuard$Steps", "state", "LFilterGuard$State;", false)
  | 7 => ("FilterGuard$Steps", "identities", "I", false)
  | 8 => ("FilterGuard$Steps", "canGo", "Z", false)
  | 9 => ("FilterGuard$Steps", "canFall", "Z", false)
  | 10 => ("FilterGuard$Steps", "toldKind", "I", false)
  | 11 => ("FilterGuard$Steps", "toldIdentity", "I", false)
  | 12 => ("FilterGuard$Steps", "roomGone", "I", false)
  | 13 => ("FilterGuard$Steps", "roomFallen", "I", false)
  | 14 => ("FilterGuard$Steps", "isZeroGone", "Z", false)
  | 15 => ("FilterGuard$Steps", "toGone", "LFilterGuard$Num;", true)
  | 16 => ("FilterGuard$Steps", "fromGone", "LFilterGuard$Num;", true)
  | 17 => ("FilterGuard$Steps", "toFallen", "LFilterGuard$Num;", true)
  | _ => ("FilterGuard$Steps", "fromFallen", "LFilterGuard$Num;", true)
def t_Steps : Nat → FieldType := fun k => match k with
  | 0 => (.object "FilterGuard$Code")
  | 1 => (.array (.object "FilterGuard$Store"))
  | 2 => (.object "FilterGuard$Reckoner")
  | 3 => (.object "FilterGuard$Cell")
  | 4 => (.object "FilterGuard$Num")
  | 5 => (.array (.object "FilterGuard$Cell"))
  | 6 => (.object "FilterGuard$State")
  | 7 => .int
  | 8 => .boolean
  | 9 => .boolean
  | 10 => .int
  | 11 => .int
  | 12 => .int
  | 13 => .int
  | 14 => .boolean
  | 15 => (.object "FilterGuard$Num")
  | 16 => (.object "FilterGuard$Num")
  | 17 => (.object "FilterGuard$Num")
  | _ => (.object "FilterGuard$Num")
theorem n_Steps : ∀ a, a < 19 → ∀ b, b < 19 → a ≠ b → (F_Steps a).2.1 ≠ (F_Steps b).2.1 := by decide +kernel
theorem t_Steps_ok : ∀ k, k < 19 → parseFieldDescriptor (F_Steps k).2.2.1 = some (t_Steps k) := by decide +kernel
theorem z_Steps : ∀ j, j < 19 → defaultValue (t_Steps j) = vp_V [.null, .null, .null, .null, .null, .null, .null, .int 0, .int 0, .int 0, .int 0, .int 0, .int 0, .int 0, .int 0, .null, .null, .null, .null] j := by decide +kernel
theorem i_Steps : ∀ w ∈ u_ws "FilterGuard$Steps" F_Steps 19, w ∈ fg_g := by decide +kernel
def F_Reckoner : u_T := fun k => match k with
  | 0 => ("FilterGuard$Reckoner", "first", "LFilterGuard$Num;", true)
  | 1 => ("FilterGuard$Reckoner", "second", "LFilterGuard$Num;", true)
  | 2 => ("FilterGuard$Reckoner", "result", "LFilterGuard$Num;", true)
  | 3 => ("FilterGuard$Reckoner", "zero", "LFilterGuard$Num;", true)
  | _ => ("FilterGuard$Reckoner", "limit", "LFilterGuard$Num;", true)
def t_Reckoner : Nat → FieldType := fun k => match k with
  | 0 => (.object "FilterGuard$Num")
  | 1 => (.object "FilterGuard$Num")
  | 2 => (.object "FilterGuard$Num")
  | 3 => (.object "FilterGuard$Num")
  | _ => (.object "FilterGuard$Num")
theorem n_Reckoner : ∀ a, a < 5 → ∀ b, b < 5 → a ≠ b → (F_Reckoner a).2.1 ≠ (F_Reckoner b).2.1 := by decide +kernel
theorem t_Reckoner_ok : ∀ k, k < 5 → parseFieldDescriptor (F_Reckoner k).2.2.1 = some (t_Reckoner k) := by decide +kernel
theorem z_Reckoner : ∀ j, j < 5 → defaultValue (t_Reckoner j) = vp_V [.null, .null, .null, .null, .null] j := by decide +kernel
theorem i_Reckoner : ∀ w ∈ u_ws "FilterGuard$Reckoner" F_Reckoner 5, w ∈ fg_g := by decide +kernel
def F_State : u_T := fun k => match k with
  | 0 => ("FilterGuard$State", "cells", "[LFilterGuard$Cell;", true)
  | 1 => ("FilterGuard$State", "used", "I", false)
  | 2 => ("FilterGuard$State", "at", "I", false)
  | 3 => ("FilterGuard$State", "waitingThen", "I", false)
  | _ => ("FilterGuard$State", "isOpen", "Z", false)
def t_State : Nat → FieldType := fun k => match k with
  | 0 => (.array (.object "FilterGuard$Cell"))
  | 1 => .int
  | 2 => .int
  | 3 => .int
  | _ => .boolean
theorem n_State : ∀ a, a < 5 → ∀ b, b < 5 → a ≠ b → (F_State a).2.1 ≠ (F_State b).2.1 := by decide +kernel
theorem t_State_ok : ∀ k, k < 5 → parseFieldDescriptor (F_State k).2.2.1 = some (t_State k) := by decide +kernel
theorem z_State : ∀ j, j < 5 → defaultValue (t_State j) = vp_V [.null, .int 0, .int 0, .int 0, .int 0] j := by decide +kernel
theorem i_State : ∀ w ∈ u_ws "FilterGuard$State" F_State 5, w ∈ fg_g := by decide +kernel
def F_Cell : u_T := fun k => match k with
  | 0 => ("FilterGuard$Cell", "kind", "I", false)
  | 1 => ("FilterGuard$Cell", "place", "I", false)
  | 2 => ("FilterGuard$Cell", "mapNumber", "I", false)
  | 3 => ("FilterGuard$Cell", "identity", "I", false)
  | 4 => ("FilterGuard$Cell", "room", "I", false)
  | 5 => ("FilterGuard$Cell", "written", "I", false)
  | _ => ("FilterGuard$Cell", "number", "LFilterGuard$Num;", true)
def t_Cell : Nat → FieldType := fun k => match k with
  | 0 => .int
  | 1 => .int
  | 2 => .int
  | 3 => .int
  | 4 => .int
  | 5 => .int
  | _ => (.object "FilterGuard$Num")
theorem n_Cell : ∀ a, a < 7 → ∀ b, b < 7 → a ≠ b → (F_Cell a).2.1 ≠ (F_Cell b).2.1 := by decide +kernel
theorem t_Cell_ok : ∀ k, k < 7 → parseFieldDescriptor (F_Cell k).2.2.1 = some (t_Cell k) := by decide +kernel
theorem z_Cell : ∀ j, j < 7 → defaultValue (t_Cell j) = vp_V [.int 0, .int 0, .int 0, .int 0, .int 0, .int 0, .null] j := by decide +kernel
theorem i_Cell : ∀ w ∈ u_ws "FilterGuard$Cell" F_Cell 7, w ∈ fg_g := by decide +kernel
def F_Num : u_T := fun k => match k with
  | 0 => ("FilterGuard$Num", "value", "J", false)
  | 1 => ("FilterGuard$Num", "mask", "J", false)
  | 2 => ("FilterGuard$Num", "least", "J", false)
  | 3 => ("FilterGuard$Num", "greatest", "J", false)
  | 4 => ("FilterGuard$Num", "signedLeast", "J", false)
  | _ => ("FilterGuard$Num", "signedGreatest", "J", false)
def t_Num : Nat → FieldType := fun k => match k with
  | 0 => .long
  | 1 => .long
  | 2 => .long
  | 3 => .long
  | 4 => .long
  | _ => .long
theorem n_Num : ∀ a, a < 6 → ∀ b, b < 6 → a ≠ b → (F_Num a).2.1 ≠ (F_Num b).2.1 := by decide +kernel
theorem t_Num_ok : ∀ k, k < 6 → parseFieldDescriptor (F_Num k).2.2.1 = some (t_Num k) := by decide +kernel
theorem z_Num : ∀ j, j < 6 → defaultValue (t_Num j) = vp_V [.long 0, .long 0, .long 0, .long 0, .long 0, .long 0] j := by decide +kernel
theorem i_Num : ∀ w ∈ u_ws "FilterGuard$Num" F_Num 6, w ∈ fg_g := by decide +kernel
def F_Store : u_T := fun k => match k with
  | 0 => ("FilterGuard$Store", "isTable", "Z", true)
  | 1 => ("FilterGuard$Store", "keyBytes", "I", true)
  | 2 => ("FilterGuard$Store", "valueBytes", "I", true)
  | 3 => ("FilterGuard$Store", "entries", "I", true)
  | 4 => ("FilterGuard$Store", "keys", "[B", true)
  | 5 => ("FilterGuard$Store", "values", "[B", true)
  | _ => ("FilterGuard$Store", "isThere", "[Z", true)
def t_Store : Nat → FieldType := fun k => match k with
  | 0 => .boolean
  | 1 => .int
  | 2 => .int
  | 3 => .int
  | 4 => (.array .byte)
  | 5 => (.array .byte)
  | _ => (.array .boolean)
theorem n_Store : ∀ a, a < 7 → ∀ b, b < 7 → a ≠ b → (F_Store a).2.1 ≠ (F_Store b).2.1 := by decide +kernel
theorem t_Store_ok : ∀ k, k < 7 → parseFieldDescriptor (F_Store k).2.2.1 = some (t_Store k) := by decide +kernel
theorem z_Store : ∀ j, j < 7 → defaultValue (t_Store j) = vp_V [.int 0, .int 0, .int 0, .int 0, .null, .null, .null] j := by decide +kernel
theorem i_Store : ∀ w ∈ u_ws "FilterGuard$Store" F_Store 7, w ∈ fg_g := by decide +kernel
abbrev classes : List vw_C := [("FilterGuard", F_G, 14), ("FilterGuardModel", F_M, 75), ("FilterGuard$Code", F_Code, 16), ("FilterGuard$Facts", F_Facts, 7), ("FilterGuard$Explorer", F_Explorer, 15), ("FilterGuard$Machine", F_Machine, 20), ("FilterGuard$Checks", F_Checks, 4), ("FilterGuard$Steps", F_Steps, 19), ("FilterGuard$Reckoner", F_Reckoner, 5), ("FilterGuard$State", F_State, 5), ("FilterGuard$Cell", F_Cell, 7), ("FilterGuard$Num", F_Num, 6), ("FilterGuard$Store", F_Store, 7)]
