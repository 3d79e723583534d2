/-! THE CLASSES: their fields by place. -/
def am_T0 : u_T := fun k => match k with
  | 0 => ("OldFences$County", "there", "[Z", true)
  | 1 => ("OldFences$County", "age", "[I", true)
  | 2 => ("OldFences$County", "high", "[I", true)
  | 3 => ("OldFences$County", "gate", "[Z", true)
  | 4 => ("OldFences$County", "string", "[Z", true)
  | 5 => ("OldFences$County", "families", "I", false)
  | 6 => ("OldFences$County", "home", "[I", true)
  | 7 => ("OldFences$County", "climbs", "[I", true)
  | 8 => ("OldFences$County", "eyes", "[I", true)
  | 9 => ("OldFences$County", "sore", "[I", true)
  | 10 => ("OldFences$County", "year", "I", false)
  | 11 => ("OldFences$County", "quarrel", "I", false)
  | 12 => ("OldFences$County", "seed", "I", false)
  | 13 => ("OldFences$County", "texts", "I", false)
  | 14 => ("OldFences$County", "law", "LOldFences$Law;", false)
  | _ => ("OldFences$County", "log", "LOldFences$Log;", true)
def am_t0 : Nat → FieldType := fun k => match k with
  | 0 => .array .boolean
  | 1 => .array .int
  | 2 => .array .int
  | 3 => .array .boolean
  | 4 => .array .boolean
  | 5 => .int
  | 6 => .array .int
  | 7 => .array .int
  | 8 => .array .int
  | 9 => .array .int
  | 10 => .int
  | 11 => .int
  | 12 => .int
  | 13 => .int
  | 14 => .object "OldFences$Law"
  | _ => .object "OldFences$Log"
theorem am_tok0 : ∀ k, k < 16 → parseFieldDescriptor (am_T0 k).2.2.1 = some (am_t0 k) := by decide +kernel
theorem am_tnm0 : ∀ a, a < 16 → ∀ b, b < 16 → a ≠ b → (am_T0 a).2.1 ≠ (am_T0 b).2.1 := by decide +kernel
def am_T1 : u_T := fun k => match k with
  | _ => ("OldFences$CountyReader", "tape", "LOldFences$Tape;", true)
def am_t1 : Nat → FieldType := fun k => match k with
  | _ => .object "OldFences$Tape"
theorem am_tok1 : ∀ k, k < 1 → parseFieldDescriptor (am_T1 k).2.2.1 = some (am_t1 k) := by decide +kernel
theorem am_tnm1 : ∀ a, a < 1 → ∀ b, b < 1 → a ≠ b → (am_T1 a).2.1 ≠ (am_T1 b).2.1 := by decide +kernel
def am_T2 : u_T := fun k => match k with
  | _ => ("java/lang/Object", "none", "I", false)
def am_t2 : Nat → FieldType := fun k => match k with
  | _ => .int
theorem am_tok2 : ∀ k, k < 0 → parseFieldDescriptor (am_T2 k).2.2.1 = some (am_t2 k) := by decide +kernel
theorem am_tnm2 : ∀ a, a < 0 → ∀ b, b < 0 → a ≠ b → (am_T2 a).2.1 ≠ (am_T2 b).2.1 := by decide +kernel
def am_T3 : u_T := fun k => match k with
  | 0 => ("OldFences$Law", "lines", "I", true)
  | 1 => ("OldFences$Law", "kinds", "[I", true)
  | 2 => ("OldFences$Law", "numbers", "[I", true)
  | 3 => ("OldFences$Law", "starts", "[I", true)
  | 4 => ("OldFences$Law", "codes", "[I", true)
  | _ => ("OldFences$Law", "stack", "[I", true)
def am_t3 : Nat → FieldType := fun k => match k with
  | 0 => .int
  | 1 => .array .int
  | 2 => .array .int
  | 3 => .array .int
  | 4 => .array .int
  | _ => .array .int
theorem am_tok3 : ∀ k, k < 6 → parseFieldDescriptor (am_T3 k).2.2.1 = some (am_t3 k) := by decide +kernel
theorem am_tnm3 : ∀ a, a < 6 → ∀ b, b < 6 → a ≠ b → (am_T3 a).2.1 ≠ (am_T3 b).2.1 := by decide +kernel
def am_T4 : u_T := fun k => match k with
  | 0 => ("OldFences$LawReader", "tape", "LOldFences$Tape;", true)
  | 1 => ("OldFences$LawReader", "kinds", "[I", true)
  | 2 => ("OldFences$LawReader", "numbers", "[I", true)
  | 3 => ("OldFences$LawReader", "starts", "[I", true)
  | 4 => ("OldFences$LawReader", "codes", "[I", true)
  | 5 => ("OldFences$LawReader", "lines", "I", false)
  | _ => ("OldFences$LawReader", "codeCount", "I", false)
def am_t4 : Nat → FieldType := fun k => match k with
  | 0 => .object "OldFences$Tape"
  | 1 => .array .int
  | 2 => .array .int
  | 3 => .array .int
  | 4 => .array .int
  | 5 => .int
  | _ => .int
theorem am_tok4 : ∀ k, k < 7 → parseFieldDescriptor (am_T4 k).2.2.1 = some (am_t4 k) := by decide +kernel
theorem am_tnm4 : ∀ a, a < 7 → ∀ b, b < 7 → a ≠ b → (am_T4 a).2.1 ≠ (am_T4 b).2.1 := by decide +kernel
def am_T5 : u_T := fun k => match k with
  | 0 => ("OldFences$Log", "cells", "[I", true)
  | 1 => ("OldFences$Log", "next", "I", false)
  | _ => ("OldFences$Log", "rows", "I", false)
def am_t5 : Nat → FieldType := fun k => match k with
  | 0 => .array .int
  | 1 => .int
  | _ => .int
theorem am_tok5 : ∀ k, k < 3 → parseFieldDescriptor (am_T5 k).2.2.1 = some (am_t5 k) := by decide +kernel
theorem am_tnm5 : ∀ a, a < 3 → ∀ b, b < 3 → a ≠ b → (am_T5 a).2.1 ≠ (am_T5 b).2.1 := by decide +kernel
def am_T6 : u_T := fun k => match k with
  | 0 => ("OldFences$Neighbours", "pieces", "LOldFences$Pieces;", true)
  | 1 => ("OldFences$Neighbours", "paths", "LOldFences$Paths;", true)
  | 2 => ("OldFences$Neighbours", "costs", "[I", true)
  | 3 => ("OldFences$Neighbours", "otherCosts", "[I", true)
  | 4 => ("OldFences$Neighbours", "worthOfPair", "[[I", true)
  | 5 => ("OldFences$Neighbours", "worth", "[I", true)
  | _ => ("OldFences$Neighbours", "partner", "[I", true)
def am_t6 : Nat → FieldType := fun k => match k with
  | 0 => .object "OldFences$Pieces"
  | 1 => .object "OldFences$Paths"
  | 2 => .array .int
  | 3 => .array .int
  | 4 => .array (.array .int)
  | 5 => .array .int
  | _ => .array .int
theorem am_tok6 : ∀ k, k < 7 → parseFieldDescriptor (am_T6 k).2.2.1 = some (am_t6 k) := by decide +kernel
theorem am_tnm6 : ∀ a, a < 7 → ∀ b, b < 7 → a ≠ b → (am_T6 a).2.1 ≠ (am_T6 b).2.1 := by decide +kernel
def am_T7 : u_T := fun k => match k with
  | 0 => ("OldFences$Paths", "cost", "[I", true)
  | 1 => ("OldFences$Paths", "least", "[I", true)
  | 2 => ("OldFences$Paths", "trees", "[[I", true)
  | 3 => ("OldFences$Paths", "flow", "[I", true)
  | 4 => ("OldFences$Paths", "cameBy", "[I", true)
  | _ => ("OldFences$Paths", "queue", "[I", true)
def am_t7 : Nat → FieldType := fun k => match k with
  | 0 => .array .int
  | 1 => .array .int
  | 2 => .array (.array .int)
  | 3 => .array .int
  | 4 => .array .int
  | _ => .array .int
theorem am_tok7 : ∀ k, k < 6 → parseFieldDescriptor (am_T7 k).2.2.1 = some (am_t7 k) := by decide +kernel
theorem am_tnm7 : ∀ a, a < 6 → ∀ b, b < 6 → a ≠ b → (am_T7 a).2.1 ≠ (am_T7 b).2.1 := by decide +kernel
def am_T8 : u_T := fun k => match k with
  | 0 => ("OldFences$Pieces", "label", "[I", true)
  | 1 => ("OldFences$Pieces", "nodes", "[I", true)
  | 2 => ("OldFences$Pieces", "edges", "[I", true)
  | 3 => ("OldFences$Pieces", "edgesAt", "[I", true)
  | 4 => ("OldFences$Pieces", "size", "I", false)
  | _ => ("OldFences$Pieces", "count", "I", false)
def am_t8 : Nat → FieldType := fun k => match k with
  | 0 => .array .int
  | 1 => .array .int
  | 2 => .array .int
  | 3 => .array .int
  | 4 => .int
  | _ => .int
theorem am_tok8 : ∀ k, k < 6 → parseFieldDescriptor (am_T8 k).2.2.1 = some (am_t8 k) := by decide +kernel
theorem am_tnm8 : ∀ a, a < 6 → ∀ b, b < 6 → a ≠ b → (am_T8 a).2.1 ≠ (am_T8 b).2.1 := by decide +kernel
def am_T9 : u_T := fun k => match k with
  | 0 => ("OldFences$Sightings", "fits", "[I", true)
  | 1 => ("OldFences$Sightings", "parts", "[I", true)
  | _ => ("OldFences$Sightings", "fitCount", "I", false)
def am_t9 : Nat → FieldType := fun k => match k with
  | 0 => .array .int
  | 1 => .array .int
  | _ => .int
theorem am_tok9 : ∀ k, k < 3 → parseFieldDescriptor (am_T9 k).2.2.1 = some (am_t9 k) := by decide +kernel
theorem am_tnm9 : ∀ a, a < 3 → ∀ b, b < 3 → a ≠ b → (am_T9 a).2.1 ≠ (am_T9 b).2.1 := by decide +kernel
def am_T10 : u_T := fun k => match k with
  | 0 => ("OldFences$Tape", "bytes", "[I", true)
  | 1 => ("OldFences$Tape", "length", "I", false)
  | 2 => ("OldFences$Tape", "wrong", "I", false)
  | 3 => ("OldFences$Tape", "things", "[I", true)
  | 4 => ("OldFences$Tape", "begins", "[I", true)
  | 5 => ("OldFences$Tape", "at", "I", false)
  | _ => ("OldFences$Tape", "taken", "I", false)
def am_t10 : Nat → FieldType := fun k => match k with
  | 0 => .array .int
  | 1 => .int
  | 2 => .int
  | 3 => .array .int
  | 4 => .array .int
  | 5 => .int
  | _ => .int
theorem am_tok10 : ∀ k, k < 7 → parseFieldDescriptor (am_T10 k).2.2.1 = some (am_t10 k) := by decide +kernel
theorem am_tnm10 : ∀ a, a < 7 → ∀ b, b < 7 → a ≠ b → (am_T10 a).2.1 ≠ (am_T10 b).2.1 := by decide +kernel
def am_T11 : u_T := fun k => match k with
  | 0 => ("OldFences", "tape", "LOldFences$Tape;", true)
  | 1 => ("OldFences", "countyReader", "LOldFences$CountyReader;", true)
  | 2 => ("OldFences", "lawReader", "LOldFences$LawReader;", true)
  | 3 => ("OldFences", "now", "LOldFences$County;", true)
  | 4 => ("OldFences", "draft", "LOldFences$County;", true)
  | 5 => ("OldFences", "kept", "LOldFences$County;", true)
  | 6 => ("OldFences", "isKept", "Z", false)
  | 7 => ("OldFences", "acts", "[LOldFences$County;", true)
  | 8 => ("OldFences", "firstAct", "I", false)
  | 9 => ("OldFences", "actCount", "I", false)
  | 10 => ("OldFences", "pieces", "LOldFences$Pieces;", true)
  | 11 => ("OldFences", "paths", "LOldFences$Paths;", true)
  | 12 => ("OldFences", "neighbours", "LOldFences$Neighbours;", true)
  | _ => ("OldFences", "sightings", "LOldFences$Sightings;", true)
def am_t11 : Nat → FieldType := fun k => match k with
  | 0 => .object "OldFences$Tape"
  | 1 => .object "OldFences$CountyReader"
  | 2 => .object "OldFences$LawReader"
  | 3 => .object "OldFences$County"
  | 4 => .object "OldFences$County"
  | 5 => .object "OldFences$County"
  | 6 => .boolean
  | 7 => .array (.object "OldFences$County")
  | 8 => .int
  | 9 => .int
  | 10 => .object "OldFences$Pieces"
  | 11 => .object "OldFences$Paths"
  | 12 => .object "OldFences$Neighbours"
  | _ => .object "OldFences$Sightings"
theorem am_tok11 : ∀ k, k < 14 → parseFieldDescriptor (am_T11 k).2.2.1 = some (am_t11 k) := by decide +kernel
theorem am_tnm11 : ∀ a, a < 14 → ∀ b, b < 14 → a ≠ b → (am_T11 a).2.1 ≠ (am_T11 b).2.1 := by decide +kernel
def am_T12 : u_T := fun k => match k with
  | 0 => ("OldFencesModel", "thrown", "I", false)
  | 1 => ("OldFencesModel", "world", "[I", true)
  | 2 => ("OldFencesModel", "image", "[I", true)
  | 3 => ("OldFencesModel", "earlier", "[I", true)
  | 4 => ("OldFencesModel", "trial", "[I", true)
  | 5 => ("OldFencesModel", "acts", "[I", true)
  | 6 => ("OldFencesModel", "hasImage", "Z", false)
  | 7 => ("OldFencesModel", "remembered", "I", false)
  | 8 => ("OldFencesModel", "tape", "[B", true)
  | 9 => ("OldFencesModel", "taped", "I", false)
  | 10 => ("OldFencesModel", "point", "I", false)
  | 11 => ("OldFencesModel", "end", "I", false)
  | 12 => ("OldFencesModel", "begin", "I", false)
  | 13 => ("OldFencesModel", "deep", "I", false)
  | 14 => ("OldFencesModel", "faultAt", "I", false)
  | 15 => ("OldFencesModel", "five", "[I", true)
  | 16 => ("OldFencesModel", "codes", "I", false)
  | 17 => ("OldFencesModel", "value", "[I", true)
  | 18 => ("OldFencesModel", "shutOne", "I", false)
  | 19 => ("OldFencesModel", "pulledOne", "I", false)
  | 20 => ("OldFencesModel", "cost", "[I", true)
  | 21 => ("OldFencesModel", "first", "[I", true)
  | 22 => ("OldFencesModel", "goes", "[I", true)
  | 23 => ("OldFencesModel", "cameBy", "[I", true)
  | 24 => ("OldFencesModel", "landOf", "[I", true)
  | 25 => ("OldFencesModel", "together", "[I", true)
  | 26 => ("OldFencesModel", "edges", "[I", true)
  | 27 => ("OldFencesModel", "fitting", "[Z", true)
  | 28 => ("OldFencesModel", "sharing", "[I", true)
  | 29 => ("OldFencesModel", "paired", "[I", true)
  | _ => ("OldFencesModel", "worth", "[I", true)
def am_t12 : Nat → FieldType := fun k => match k with
  | 0 => .int
  | 1 => .array .int
  | 2 => .array .int
  | 3 => .array .int
  | 4 => .array .int
  | 5 => .array .int
  | 6 => .boolean
  | 7 => .int
  | 8 => .array .byte
  | 9 => .int
  | 10 => .int
  | 11 => .int
  | 12 => .int
  | 13 => .int
  | 14 => .int
  | 15 => .array .int
  | 16 => .int
  | 17 => .array .int
  | 18 => .int
  | 19 => .int
  | 20 => .array .int
  | 21 => .array .int
  | 22 => .array .int
  | 23 => .array .int
  | 24 => .array .int
  | 25 => .array .int
  | 26 => .array .int
  | 27 => .array .boolean
  | 28 => .array .int
  | 29 => .array .int
  | _ => .array .int
theorem am_tok12 : ∀ k, k < 31 → parseFieldDescriptor (am_T12 k).2.2.1 = some (am_t12 k) := by decide +kernel
theorem am_tnm12 : ∀ a, a < 31 → ∀ b, b < 31 → a ≠ b → (am_T12 a).2.1 ≠ (am_T12 b).2.1 := by decide +kernel
def am_cl : List vw_C := [("OldFences$County", am_T0, 16), ("OldFences$CountyReader", am_T1, 1), ("OldFences$Log", am_T2, 0), ("OldFences$Law", am_T3, 6), ("OldFences$LawReader", am_T4, 7), ("OldFences$Log", am_T5, 3), ("OldFences$Neighbours", am_T6, 7), ("OldFences$Paths", am_T7, 6), ("OldFences$Pieces", am_T8, 6), ("OldFences$Sightings", am_T9, 3), ("OldFences$Tape", am_T10, 7), ("OldFences", am_T11, 14), ("OldFencesModel", am_T12, 31)]
/-- of a class and a field: its type -/
def am_ft (ci k : Nat) : FieldType := match ci with
  | 0 => am_t0 k
  | 1 => am_t1 k
  | 2 => am_t2 k
  | 3 => am_t3 k
  | 4 => am_t4 k
  | 5 => am_t5 k
  | 6 => am_t6 k
  | 7 => am_t7 k
  | 8 => am_t8 k
  | 9 => am_t9 k
  | 10 => am_t10 k
  | 11 => am_t11 k
  | _ => am_t12 k
def am_N (ci : Nat) : Nat := ([16, 1, 0, 6, 7, 3, 7, 6, 6, 3, 7, 14, 31] : List Nat).getD ci 0
/-- whether a field is a reference -/
def am_ir (ci k : Nat) : Bool := (([[true, true, true, true, true, false, true, true, true, true, false, false, false, false, true, true], [true], [], [false, true, true, true, true, true], [true, true, true, true, true, false, false], [true, false, false], [true, true, true, true, true, true, true], [true, true, true, true, true, true], [true, true, true, true, false, false], [true, true, false], [true, false, false, true, true, false, false], [true, true, true, true, true, true, false, true, false, false, true, true, true, true], [false, true, true, true, true, true, false, false, true, false, false, false, false, false, false, true, false, true, false, false, true, true, true, true, true, true, true, true, true, true, true]] : List (List Bool)).getD ci []).getD k false
def am_ary : List FieldType := [.int, .boolean, .byte, .long, .object "OldFences$County", .array .int]
