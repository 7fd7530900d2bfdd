/-! the tables of the abstract machine, by program out of the Statement: classes, objects, methods -/
def am_T0 : u_T := fun k => match k with
  | 0 => ("RecordDesk", "reader", "LRecordDesk$Reader;", true)
  | 1 => ("RecordDesk", "program", "LRecordDesk$Program;", true)
  | 2 => ("RecordDesk", "course", "LRecordDesk$Course;", true)
  | 3 => ("RecordDesk", "imaged", "LRecordDesk$Course;", true)
  | 4 => ("RecordDesk", "view", "LRecordDesk$Replay;", true)
  | 5 => ("RecordDesk", "altered", "LRecordDesk$Replay;", true)
  | 6 => ("RecordDesk", "tried", "LRecordDesk$Runner;", true)
  | 7 => ("RecordDesk", "triedCells", "[I", true)
  | 8 => ("RecordDesk", "snapshots", "LRecordDesk$Snapshots;", true)
  | 9 => ("RecordDesk", "holders", "LRecordDesk$Holders;", true)
  | 10 => ("RecordDesk", "found", "LRecordDesk$Races;", true)
  | 11 => ("RecordDesk", "heat", "LRecordDesk$Hot;", true)
  | 12 => ("RecordDesk", "faultPlace", "I", false)
  | _ => ("RecordDesk", "hasImage", "Z", false)
def am_Y0 : Nat → FieldType := fun k => match k with
  | 0 => .object "RecordDesk$Reader"
  | 1 => .object "RecordDesk$Program"
  | 2 => .object "RecordDesk$Course"
  | 3 => .object "RecordDesk$Course"
  | 4 => .object "RecordDesk$Replay"
  | 5 => .object "RecordDesk$Replay"
  | 6 => .object "RecordDesk$Runner"
  | 7 => .array .int
  | 8 => .object "RecordDesk$Snapshots"
  | 9 => .object "RecordDesk$Holders"
  | 10 => .object "RecordDesk$Races"
  | 11 => .object "RecordDesk$Hot"
  | 12 => .int
  | _ => .boolean
theorem am_Tn0 : ∀ a, a < 14 → ∀ b, b < 14 → a ≠ b → (am_T0 a).2.1 ≠ (am_T0 b).2.1 := by decide +kernel
theorem am_Ty0 : ∀ k, k < 14 → parseFieldDescriptor (am_T0 k).2.2.1 = some (am_Y0 k) := by decide +kernel
theorem am_Tq0 : ((List.range 14).map fun k => (([621, 623, 625, 627, 629, 631, 633, 635, 637, 639, 641, 643, 645, 647] : List Nat).getD k 0, u_lay "RecordDesk" am_T0 k)).all (fun q => decide (lw_tbl[q.1]? = some q.2)) = true := by decide +kernel
theorem am_Tw0 : ∀ w ∈ u_ws "RecordDesk" am_T0 14, w ∈ lw_tbl := by
  intro w hw
  obtain ⟨k, hk, rfl⟩ := List.mem_map.mp hw
  have h := List.all_eq_true.mp am_Tq0 _ (List.mem_map.mpr ⟨k, hk, rfl⟩)
  exact List.mem_of_getElem? (of_decide_eq_true h)
def am_T1 : u_T := fun k => match k with
  | 0 => ("RecordDesk$Reader", "tape", "[B", true)
  | 1 => ("RecordDesk$Reader", "size", "I", false)
  | 2 => ("RecordDesk$Reader", "fresh", "LRecordDesk$Program;", true)
  | 3 => ("RecordDesk$Reader", "place", "I", false)
  | 4 => ("RecordDesk$Reader", "at", "I", false)
  | 5 => ("RecordDesk$Reader", "behind", "I", false)
  | 6 => ("RecordDesk$Reader", "kind", "I", false)
  | 7 => ("RecordDesk$Reader", "value", "I", false)
  | 8 => ("RecordDesk$Reader", "word", "I", false)
  | 9 => ("RecordDesk$Reader", "name", "J", false)
  | 10 => ("RecordDesk$Reader", "state", "I", false)
  | 11 => ("RecordDesk$Reader", "shape", "Ljava/lang/String;", false)
  | 12 => ("RecordDesk$Reader", "spot", "I", false)
  | 13 => ("RecordDesk$Reader", "hasMinus", "Z", false)
  | 14 => ("RecordDesk$Reader", "row", "I", false)
  | 15 => ("RecordDesk$Reader", "subject", "I", false)
  | 16 => ("RecordDesk$Reader", "told", "I", false)
  | 17 => ("RecordDesk$Reader", "labels", "[J", true)
  | 18 => ("RecordDesk$Reader", "wanted", "[J", true)
  | _ => ("RecordDesk$Reader", "wantedAt", "[I", true)
def am_Y1 : Nat → FieldType := fun k => match k with
  | 0 => .array .byte
  | 1 => .int
  | 2 => .object "RecordDesk$Program"
  | 3 => .int
  | 4 => .int
  | 5 => .int
  | 6 => .int
  | 7 => .int
  | 8 => .int
  | 9 => .long
  | 10 => .int
  | 11 => .object "java/lang/String"
  | 12 => .int
  | 13 => .boolean
  | 14 => .int
  | 15 => .int
  | 16 => .int
  | 17 => .array .long
  | 18 => .array .long
  | _ => .array .int
theorem am_Tn1 : ∀ a, a < 20 → ∀ b, b < 20 → a ≠ b → (am_T1 a).2.1 ≠ (am_T1 b).2.1 := by decide +kernel
theorem am_Ty1 : ∀ k, k < 20 → parseFieldDescriptor (am_T1 k).2.2.1 = some (am_Y1 k) := by decide +kernel
theorem am_Tq1 : ((List.range 20).map fun k => (([232, 234, 236, 238, 240, 242, 244, 246, 248, 250, 252, 254, 256, 258, 260, 262, 264, 266, 268, 270] : List Nat).getD k 0, u_lay "RecordDesk$Reader" am_T1 k)).all (fun q => decide (lw_tbl[q.1]? = some q.2)) = true := by decide +kernel
theorem am_Tw1 : ∀ w ∈ u_ws "RecordDesk$Reader" am_T1 20, w ∈ lw_tbl := by
  intro w hw
  obtain ⟨k, hk, rfl⟩ := List.mem_map.mp hw
  have h := List.all_eq_true.mp am_Tq1 _ (List.mem_map.mpr ⟨k, hk, rfl⟩)
  exact List.mem_of_getElem? (of_decide_eq_true h)
def am_T2 : u_T := fun k => match k with
  | 0 => ("RecordDesk$Program", "ops", "[I", true)
  | 1 => ("RecordDesk$Program", "operands", "[I", true)
  | 2 => ("RecordDesk$Program", "lengths", "[I", true)
  | 3 => ("RecordDesk$Program", "cells", "[I", true)
  | 4 => ("RecordDesk$Program", "settings", "[I", true)
  | _ => ("RecordDesk$Program", "threads", "I", false)
def am_Y2 : Nat → FieldType := fun k => match k with
  | 0 => .array .int
  | 1 => .array .int
  | 2 => .array .int
  | 3 => .array .int
  | 4 => .array .int
  | _ => .int
theorem am_Tn2 : ∀ a, a < 6 → ∀ b, b < 6 → a ≠ b → (am_T2 a).2.1 ≠ (am_T2 b).2.1 := by decide +kernel
theorem am_Ty2 : ∀ k, k < 6 → parseFieldDescriptor (am_T2 k).2.2.1 = some (am_Y2 k) := by decide +kernel
theorem am_Tq2 : ((List.range 6).map fun k => (([193, 195, 197, 199, 201, 203] : List Nat).getD k 0, u_lay "RecordDesk$Program" am_T2 k)).all (fun q => decide (lw_tbl[q.1]? = some q.2)) = true := by decide +kernel
theorem am_Tw2 : ∀ w ∈ u_ws "RecordDesk$Program" am_T2 6, w ∈ lw_tbl := by
  intro w hw
  obtain ⟨k, hk, rfl⟩ := List.mem_map.mp hw
  have h := List.all_eq_true.mp am_Tq2 _ (List.mem_map.mpr ⟨k, hk, rfl⟩)
  exact List.mem_of_getElem? (of_decide_eq_true h)
def am_T3 : u_T := fun k => match k with
  | 0 => ("RecordDesk$Course", "runner", "LRecordDesk$Runner;", true)
  | 1 => ("RecordDesk$Course", "given", "[I", true)
  | 2 => ("RecordDesk$Course", "givenCounts", "[I", true)
  | 3 => ("RecordDesk$Course", "switchBranches", "[I", true)
  | 4 => ("RecordDesk$Course", "switchPlaces", "[I", true)
  | 5 => ("RecordDesk$Course", "switchThreads", "[I", true)
  | 6 => ("RecordDesk$Course", "digests", "[I", true)
  | 7 => ("RecordDesk$Course", "did", "[I", true)
  | 8 => ("RecordDesk$Course", "acts", "LRecordDesk$Acts;", true)
  | 9 => ("RecordDesk$Course", "switches", "I", false)
  | 10 => ("RecordDesk$Course", "time", "I", false)
  | 11 => ("RecordDesk$Course", "cursor", "I", false)
  | 12 => ("RecordDesk$Course", "refusedTexts", "I", false)
  | _ => ("RecordDesk$Course", "refusedActs", "I", false)
def am_Y3 : Nat → FieldType := fun k => match k with
  | 0 => .object "RecordDesk$Runner"
  | 1 => .array .int
  | 2 => .array .int
  | 3 => .array .int
  | 4 => .array .int
  | 5 => .array .int
  | 6 => .array .int
  | 7 => .array .int
  | 8 => .object "RecordDesk$Acts"
  | 9 => .int
  | 10 => .int
  | 11 => .int
  | 12 => .int
  | _ => .int
theorem am_Tn3 : ∀ a, a < 14 → ∀ b, b < 14 → a ≠ b → (am_T3 a).2.1 ≠ (am_T3 b).2.1 := by decide +kernel
theorem am_Ty3 : ∀ k, k < 14 → parseFieldDescriptor (am_T3 k).2.2.1 = some (am_Y3 k) := by decide +kernel
theorem am_Tq3 : ((List.range 14).map fun k => (([431, 433, 435, 437, 439, 441, 443, 445, 447, 449, 451, 453, 455, 457] : List Nat).getD k 0, u_lay "RecordDesk$Course" am_T3 k)).all (fun q => decide (lw_tbl[q.1]? = some q.2)) = true := by decide +kernel
theorem am_Tw3 : ∀ w ∈ u_ws "RecordDesk$Course" am_T3 14, w ∈ lw_tbl := by
  intro w hw
  obtain ⟨k, hk, rfl⟩ := List.mem_map.mp hw
  have h := List.all_eq_true.mp am_Tq3 _ (List.mem_map.mpr ⟨k, hk, rfl⟩)
  exact List.mem_of_getElem? (of_decide_eq_true h)
def am_T4 : u_T := fun k => match k with
  | 0 => ("RecordDesk$Runner", "machine", "LRecordDesk$Machine;", true)
  | 1 => ("RecordDesk$Runner", "drawn", "I", false)
  | 2 => ("RecordDesk$Runner", "left", "I", false)
  | 3 => ("RecordDesk$Runner", "row", "I", false)
  | 4 => ("RecordDesk$Runner", "hasTurned", "Z", false)
  | 5 => ("RecordDesk$Runner", "leftBranches", "I", false)
  | _ => ("RecordDesk$Runner", "leftPlace", "I", false)
def am_Y4 : Nat → FieldType := fun k => match k with
  | 0 => .object "RecordDesk$Machine"
  | 1 => .int
  | 2 => .int
  | 3 => .int
  | 4 => .boolean
  | 5 => .int
  | _ => .int
theorem am_Tn4 : ∀ a, a < 7 → ∀ b, b < 7 → a ≠ b → (am_T4 a).2.1 ≠ (am_T4 b).2.1 := by decide +kernel
theorem am_Ty4 : ∀ k, k < 7 → parseFieldDescriptor (am_T4 k).2.2.1 = some (am_Y4 k) := by decide +kernel
theorem am_Tq4 : ((List.range 7).map fun k => (([350, 352, 354, 356, 358, 360, 362] : List Nat).getD k 0, u_lay "RecordDesk$Runner" am_T4 k)).all (fun q => decide (lw_tbl[q.1]? = some q.2)) = true := by decide +kernel
theorem am_Tw4 : ∀ w ∈ u_ws "RecordDesk$Runner" am_T4 7, w ∈ lw_tbl := by
  intro w hw
  obtain ⟨k, hk, rfl⟩ := List.mem_map.mp hw
  have h := List.all_eq_true.mp am_Tq4 _ (List.mem_map.mpr ⟨k, hk, rfl⟩)
  exact List.mem_of_getElem? (of_decide_eq_true h)
def am_T5 : u_T := fun k => match k with
  | 0 => ("RecordDesk$Machine", "cells", "[I", true)
  | 1 => ("RecordDesk$Machine", "registers", "[I", true)
  | 2 => ("RecordDesk$Machine", "places", "[I", true)
  | 3 => ("RecordDesk$Machine", "branches", "[I", true)
  | 4 => ("RecordDesk$Machine", "owners", "[I", true)
  | 5 => ("RecordDesk$Machine", "reads", "[I", true)
  | _ => ("RecordDesk$Machine", "current", "I", false)
def am_Y5 : Nat → FieldType := fun k => match k with
  | 0 => .array .int
  | 1 => .array .int
  | 2 => .array .int
  | 3 => .array .int
  | 4 => .array .int
  | 5 => .array .int
  | _ => .int
theorem am_Tn5 : ∀ a, a < 7 → ∀ b, b < 7 → a ≠ b → (am_T5 a).2.1 ≠ (am_T5 b).2.1 := by decide +kernel
theorem am_Ty5 : ∀ k, k < 7 → parseFieldDescriptor (am_T5 k).2.2.1 = some (am_Y5 k) := by decide +kernel
theorem am_Tq5 : ((List.range 7).map fun k => (([318, 320, 322, 324, 326, 328, 330] : List Nat).getD k 0, u_lay "RecordDesk$Machine" am_T5 k)).all (fun q => decide (lw_tbl[q.1]? = some q.2)) = true := by decide +kernel
theorem am_Tw5 : ∀ w ∈ u_ws "RecordDesk$Machine" am_T5 7, w ∈ lw_tbl := by
  intro w hw
  obtain ⟨k, hk, rfl⟩ := List.mem_map.mp hw
  have h := List.all_eq_true.mp am_Tq5 _ (List.mem_map.mpr ⟨k, hk, rfl⟩)
  exact List.mem_of_getElem? (of_decide_eq_true h)
def am_T6 : u_T := fun k => match k with
  | 0 => ("RecordDesk$Acts", "sources", "[I", true)
  | 1 => ("RecordDesk$Acts", "times", "[I", true)
  | 2 => ("RecordDesk$Acts", "lefts", "[I", true)
  | 3 => ("RecordDesk$Acts", "drawns", "[I", true)
  | _ => ("RecordDesk$Acts", "size", "I", false)
def am_Y6 : Nat → FieldType := fun k => match k with
  | 0 => .array .int
  | 1 => .array .int
  | 2 => .array .int
  | 3 => .array .int
  | _ => .int
theorem am_Tn6 : ∀ a, a < 5 → ∀ b, b < 5 → a ≠ b → (am_T6 a).2.1 ≠ (am_T6 b).2.1 := by decide +kernel
theorem am_Ty6 : ∀ k, k < 5 → parseFieldDescriptor (am_T6 k).2.2.1 = some (am_Y6 k) := by decide +kernel
theorem am_Tq6 : ((List.range 5).map fun k => (([382, 384, 386, 388, 390] : List Nat).getD k 0, u_lay "RecordDesk$Acts" am_T6 k)).all (fun q => decide (lw_tbl[q.1]? = some q.2)) = true := by decide +kernel
theorem am_Tw6 : ∀ w ∈ u_ws "RecordDesk$Acts" am_T6 5, w ∈ lw_tbl := by
  intro w hw
  obtain ⟨k, hk, rfl⟩ := List.mem_map.mp hw
  have h := List.all_eq_true.mp am_Tq6 _ (List.mem_map.mpr ⟨k, hk, rfl⟩)
  exact List.mem_of_getElem? (of_decide_eq_true h)
def am_T7 : u_T := fun k => match k with
  | 0 => ("RecordDesk$Replay", "machine", "LRecordDesk$Machine;", true)
  | 1 => ("RecordDesk$Replay", "done", "I", false)
  | 2 => ("RecordDesk$Replay", "taken", "I", false)
  | 3 => ("RecordDesk$Replay", "isStuck", "Z", false)
  | 4 => ("RecordDesk$Replay", "how", "I", false)
  | 5 => ("RecordDesk$Replay", "which", "I", false)
  | _ => ("RecordDesk$Replay", "number", "I", false)
def am_Y7 : Nat → FieldType := fun k => match k with
  | 0 => .object "RecordDesk$Machine"
  | 1 => .int
  | 2 => .int
  | 3 => .boolean
  | 4 => .int
  | 5 => .int
  | _ => .int
theorem am_Tn7 : ∀ a, a < 7 → ∀ b, b < 7 → a ≠ b → (am_T7 a).2.1 ≠ (am_T7 b).2.1 := by decide +kernel
theorem am_Ty7 : ∀ k, k < 7 → parseFieldDescriptor (am_T7 k).2.2.1 = some (am_Y7 k) := by decide +kernel
theorem am_Tq7 : ((List.range 7).map fun k => (([479, 481, 483, 485, 487, 489, 491] : List Nat).getD k 0, u_lay "RecordDesk$Replay" am_T7 k)).all (fun q => decide (lw_tbl[q.1]? = some q.2)) = true := by decide +kernel
theorem am_Tw7 : ∀ w ∈ u_ws "RecordDesk$Replay" am_T7 7, w ∈ lw_tbl := by
  intro w hw
  obtain ⟨k, hk, rfl⟩ := List.mem_map.mp hw
  have h := List.all_eq_true.mp am_Tq7 _ (List.mem_map.mpr ⟨k, hk, rfl⟩)
  exact List.mem_of_getElem? (of_decide_eq_true h)
def am_T8 : u_T := fun k => match k with
  | 0 => ("RecordDesk$Snapshots", "steps", "[I", true)
  | _ => ("RecordDesk$Snapshots", "size", "I", false)
def am_Y8 : Nat → FieldType := fun k => match k with
  | 0 => .array .int
  | _ => .int
theorem am_Tn8 : ∀ a, a < 2 → ∀ b, b < 2 → a ≠ b → (am_T8 a).2.1 ≠ (am_T8 b).2.1 := by decide +kernel
theorem am_Ty8 : ∀ k, k < 2 → parseFieldDescriptor (am_T8 k).2.2.1 = some (am_Y8 k) := by decide +kernel
theorem am_Tq8 : ((List.range 2).map fun k => (([506, 508] : List Nat).getD k 0, u_lay "RecordDesk$Snapshots" am_T8 k)).all (fun q => decide (lw_tbl[q.1]? = some q.2)) = true := by decide +kernel
theorem am_Tw8 : ∀ w ∈ u_ws "RecordDesk$Snapshots" am_T8 2, w ∈ lw_tbl := by
  intro w hw
  obtain ⟨k, hk, rfl⟩ := List.mem_map.mp hw
  have h := List.all_eq_true.mp am_Tq8 _ (List.mem_map.mpr ⟨k, hk, rfl⟩)
  exact List.mem_of_getElem? (of_decide_eq_true h)
def am_T9 : u_T := fun k => match k with
  | _ => ("RecordDesk$Holders", "owners", "[I", true)
def am_Y9 : Nat → FieldType := fun k => match k with
  | _ => .array .int
theorem am_Tn9 : ∀ a, a < 1 → ∀ b, b < 1 → a ≠ b → (am_T9 a).2.1 ≠ (am_T9 b).2.1 := by decide +kernel
theorem am_Ty9 : ∀ k, k < 1 → parseFieldDescriptor (am_T9 k).2.2.1 = some (am_Y9 k) := by decide +kernel
theorem am_Tq9 : ((List.range 1).map fun k => (([518] : List Nat).getD k 0, u_lay "RecordDesk$Holders" am_T9 k)).all (fun q => decide (lw_tbl[q.1]? = some q.2)) = true := by decide +kernel
theorem am_Tw9 : ∀ w ∈ u_ws "RecordDesk$Holders" am_T9 1, w ∈ lw_tbl := by
  intro w hw
  obtain ⟨k, hk, rfl⟩ := List.mem_map.mp hw
  have h := List.all_eq_true.mp am_Tq9 _ (List.mem_map.mpr ⟨k, hk, rfl⟩)
  exact List.mem_of_getElem? (of_decide_eq_true h)
def am_T10 : u_T := fun k => match k with
  | 0 => ("RecordDesk$Races", "counts", "[I", true)
  | 1 => ("RecordDesk$Races", "touched", "[I", true)
  | 2 => ("RecordDesk$Races", "ahead", "[I", true)
  | 3 => ("RecordDesk$Races", "byThread", "[I", true)
  | 4 => ("RecordDesk$Races", "byLock", "[I", true)
  | 5 => ("RecordDesk$Races", "couples", "[J", true)
  | 6 => ("RecordDesk$Races", "total", "I", false)
  | 7 => ("RecordDesk$Races", "cellBits", "I", false)
  | _ => ("RecordDesk$Races", "isFresh", "Z", false)
def am_Y10 : Nat → FieldType := fun k => match k with
  | 0 => .array .int
  | 1 => .array .int
  | 2 => .array .int
  | 3 => .array .int
  | 4 => .array .int
  | 5 => .array .long
  | 6 => .int
  | 7 => .int
  | _ => .boolean
theorem am_Tn10 : ∀ a, a < 9 → ∀ b, b < 9 → a ≠ b → (am_T10 a).2.1 ≠ (am_T10 b).2.1 := by decide +kernel
theorem am_Ty10 : ∀ k, k < 9 → parseFieldDescriptor (am_T10 k).2.2.1 = some (am_Y10 k) := by decide +kernel
theorem am_Tq10 : ((List.range 9).map fun k => (([540, 542, 544, 546, 548, 550, 552, 554, 556] : List Nat).getD k 0, u_lay "RecordDesk$Races" am_T10 k)).all (fun q => decide (lw_tbl[q.1]? = some q.2)) = true := by decide +kernel
theorem am_Tw10 : ∀ w ∈ u_ws "RecordDesk$Races" am_T10 9, w ∈ lw_tbl := by
  intro w hw
  obtain ⟨k, hk, rfl⟩ := List.mem_map.mp hw
  have h := List.all_eq_true.mp am_Tq10 _ (List.mem_map.mpr ⟨k, hk, rfl⟩)
  exact List.mem_of_getElem? (of_decide_eq_true h)
def am_T11 : u_T := fun k => match k with
  | 0 => ("RecordDesk$Hot", "rows", "[I", true)
  | 1 => ("RecordDesk$Hot", "times", "[I", true)
  | _ => ("RecordDesk$Hot", "size", "I", false)
def am_Y11 : Nat → FieldType := fun k => match k with
  | 0 => .array .int
  | 1 => .array .int
  | _ => .int
theorem am_Tn11 : ∀ a, a < 3 → ∀ b, b < 3 → a ≠ b → (am_T11 a).2.1 ≠ (am_T11 b).2.1 := by decide +kernel
theorem am_Ty11 : ∀ k, k < 3 → parseFieldDescriptor (am_T11 k).2.2.1 = some (am_Y11 k) := by decide +kernel
theorem am_Tq11 : ((List.range 3).map fun k => (([571, 573, 575] : List Nat).getD k 0, u_lay "RecordDesk$Hot" am_T11 k)).all (fun q => decide (lw_tbl[q.1]? = some q.2)) = true := by decide +kernel
theorem am_Tw11 : ∀ w ∈ u_ws "RecordDesk$Hot" am_T11 3, w ∈ lw_tbl := by
  intro w hw
  obtain ⟨k, hk, rfl⟩ := List.mem_map.mp hw
  have h := List.all_eq_true.mp am_Tq11 _ (List.mem_map.mpr ⟨k, hk, rfl⟩)
  exact List.mem_of_getElem? (of_decide_eq_true h)
def am_T12 : u_T := fun k => match k with
  | 0 => ("RecordDeskModel", "settings", "[Ljava/lang/String;", true)
  | 1 => ("RecordDeskModel", "others", "[Ljava/lang/String;", true)
  | 2 => ("RecordDeskModel", "names", "[Ljava/lang/String;", true)
  | 3 => ("RecordDeskModel", "code", "I", false)
  | 4 => ("RecordDeskModel", "told", "[I", true)
  | 5 => ("RecordDeskModel", "cellTold", "[I", true)
  | 6 => ("RecordDeskModel", "size", "[I", true)
  | 7 => ("RecordDeskModel", "op", "[I", true)
  | 8 => ("RecordDeskModel", "one", "[I", true)
  | 9 => ("RecordDeskModel", "two", "[I", true)
  | 10 => ("RecordDeskModel", "target", "[I", true)
  | 11 => ("RecordDeskModel", "status", "[I", true)
  | 12 => ("RecordDeskModel", "time", "I", false)
  | 13 => ("RecordDeskModel", "cursor", "I", false)
  | 14 => ("RecordDeskModel", "tape", "[I", true)
  | 15 => ("RecordDeskModel", "taped", "I", false)
  | 16 => ("RecordDeskModel", "at", "I", false)
  | 17 => ("RecordDeskModel", "textSize", "I", false)
  | 18 => ("RecordDeskModel", "token", "I", false)
  | 19 => ("RecordDeskModel", "number", "I", false)
  | 20 => ("RecordDeskModel", "begins", "I", false)
  | 21 => ("RecordDeskModel", "stops", "I", false)
  | 22 => ("RecordDeskModel", "bad", "I", false)
  | 23 => ("RecordDeskModel", "badPlace", "I", false)
  | 24 => ("RecordDeskModel", "faultPlace", "I", false)
  | 25 => ("RecordDeskModel", "nameAt", "[I", true)
  | 26 => ("RecordDeskModel", "nameLong", "[I", true)
  | 27 => ("RecordDeskModel", "wantAt", "[I", true)
  | 28 => ("RecordDeskModel", "wantLong", "[I", true)
  | 29 => ("RecordDeskModel", "missingPlace", "I", false)
  | 30 => ("RecordDeskModel", "now", "[I", true)
  | 31 => ("RecordDeskModel", "rows", "[I", true)
  | 32 => ("RecordDeskModel", "doer", "[I", true)
  | 33 => ("RecordDeskModel", "done", "[I", true)
  | 34 => ("RecordDeskModel", "switchBranches", "[I", true)
  | 35 => ("RecordDeskModel", "switchPlace", "[I", true)
  | 36 => ("RecordDeskModel", "switchNext", "[I", true)
  | 37 => ("RecordDeskModel", "given", "[I", true)
  | 38 => ("RecordDeskModel", "givenMany", "[I", true)
  | 39 => ("RecordDeskModel", "doerNow", "I", false)
  | 40 => ("RecordDeskModel", "doneNow", "I", false)
  | 41 => ("RecordDeskModel", "snaps", "[I", true)
  | 42 => ("RecordDeskModel", "snapMany", "I", false)
  | 43 => ("RecordDeskModel", "acts", "I", false)
  | 44 => ("RecordDeskModel", "actSource", "[I", true)
  | 45 => ("RecordDeskModel", "actTime", "[I", true)
  | 46 => ("RecordDeskModel", "ahead", "[J", true)
  | 47 => ("RecordDeskModel", "accessed", "[I", true)
  | 48 => ("RecordDeskModel", "isCouple", "[Z", true)
  | 49 => ("RecordDeskModel", "hotOnes", "[I", true)
  | 50 => ("RecordDeskModel", "hotTimes", "[I", true)
  | 51 => ("RecordDeskModel", "how", "I", false)
  | 52 => ("RecordDeskModel", "which", "I", false)
  | 53 => ("RecordDeskModel", "instead", "I", false)
  | 54 => ("RecordDeskModel", "differs", "I", false)
  | 55 => ("RecordDeskModel", "digests", "I", false)
  | 56 => ("RecordDeskModel", "stuck", "I", false)
  | 57 => ("RecordDeskModel", "contents", "[I", true)
  | 58 => ("RecordDeskModel", "hasImage", "Z", false)
  | 59 => ("RecordDeskModel", "timeThen", "I", false)
  | 60 => ("RecordDeskModel", "cursorThen", "I", false)
  | 61 => ("RecordDeskModel", "actsThen", "I", false)
  | 62 => ("RecordDeskModel", "rowsThen", "[I", true)
  | 63 => ("RecordDeskModel", "doerThen", "[I", true)
  | 64 => ("RecordDeskModel", "doneThen", "[I", true)
  | 65 => ("RecordDeskModel", "branchesThen", "[I", true)
  | 66 => ("RecordDeskModel", "placeThen", "[I", true)
  | 67 => ("RecordDeskModel", "nextThen", "[I", true)
  | 68 => ("RecordDeskModel", "givenThen", "[I", true)
  | 69 => ("RecordDeskModel", "givenManyThen", "[I", true)
  | 70 => ("RecordDeskModel", "actSourceThen", "[I", true)
  | 71 => ("RecordDeskModel", "actTimeThen", "[I", true)
  | _ => ("RecordDeskModel", "statusThen", "[I", true)
def am_Y12 : Nat → FieldType := fun k => match k with
  | 0 => .array (.object "java/lang/String")
  | 1 => .array (.object "java/lang/String")
  | 2 => .array (.object "java/lang/String")
  | 3 => .int
  | 4 => .array .int
  | 5 => .array .int
  | 6 => .array .int
  | 7 => .array .int
  | 8 => .array .int
  | 9 => .array .int
  | 10 => .array .int
  | 11 => .array .int
  | 12 => .int
  | 13 => .int
  | 14 => .array .int
  | 15 => .int
  | 16 => .int
  | 17 => .int
  | 18 => .int
  | 19 => .int
  | 20 => .int
  | 21 => .int
  | 22 => .int
  | 23 => .int
  | 24 => .int
  | 25 => .array .int
  | 26 => .array .int
  | 27 => .array .int
  | 28 => .array .int
  | 29 => .int
  | 30 => .array .int
  | 31 => .array .int
  | 32 => .array .int
  | 33 => .array .int
  | 34 => .array .int
  | 35 => .array .int
  | 36 => .array .int
  | 37 => .array .int
  | 38 => .array .int
  | 39 => .int
  | 40 => .int
  | 41 => .array .int
  | 42 => .int
  | 43 => .int
  | 44 => .array .int
  | 45 => .array .int
  | 46 => .array .long
  | 47 => .array .int
  | 48 => .array .boolean
  | 49 => .array .int
  | 50 => .array .int
  | 51 => .int
  | 52 => .int
  | 53 => .int
  | 54 => .int
  | 55 => .int
  | 56 => .int
  | 57 => .array .int
  | 58 => .boolean
  | 59 => .int
  | 60 => .int
  | 61 => .int
  | 62 => .array .int
  | 63 => .array .int
  | 64 => .array .int
  | 65 => .array .int
  | 66 => .array .int
  | 67 => .array .int
  | 68 => .array .int
  | 69 => .array .int
  | 70 => .array .int
  | 71 => .array .int
  | _ => .array .int
theorem am_Tn12 : ∀ a, a < 73 → ∀ b, b < 73 → a ≠ b → (am_T12 a).2.1 ≠ (am_T12 b).2.1 := by decide +kernel
theorem am_Ty12 : ∀ k, k < 73 → parseFieldDescriptor (am_T12 k).2.2.1 = some (am_Y12 k) := by decide +kernel
theorem am_Tq12 : ((List.range 73).map fun k => (([1569, 1571, 1573, 1575, 1577, 1579, 1581, 1583, 1585, 1587, 1589, 1591, 1593, 1595, 1597, 1599, 1601, 1603, 1605, 1607, 1609, 1611, 1613, 1615, 1617, 1619, 1621, 1623, 1625, 1627, 1629, 1631, 1633, 1635, 1637, 1639, 1641, 1643, 1645, 1647, 1649, 1651, 1653, 1655, 1657, 1659, 1661, 1663, 1665, 1667, 1669, 1671, 1673, 1675, 1677, 1679, 1681, 1683, 1685, 1687, 1689, 1691, 1693, 1695, 1697, 1699, 1701, 1703, 1705, 1707, 1709, 1711, 1713] : List Nat).getD k 0, u_lay "RecordDeskModel" am_T12 k)).all (fun q => decide (lw_tbl[q.1]? = some q.2)) = true := by decide +kernel
theorem am_Tw12 : ∀ w ∈ u_ws "RecordDeskModel" am_T12 73, w ∈ lw_tbl := by
  intro w hw
  obtain ⟨k, hk, rfl⟩ := List.mem_map.mp hw
  have h := List.all_eq_true.mp am_Tq12 _ (List.mem_map.mpr ⟨k, hk, rfl⟩)
  exact List.mem_of_getElem? (of_decide_eq_true h)
def am_cls : List vw_C := [("RecordDesk", am_T0, 14), ("RecordDesk$Reader", am_T1, 20), ("RecordDesk$Program", am_T2, 6), ("RecordDesk$Course", am_T3, 14), ("RecordDesk$Runner", am_T4, 7), ("RecordDesk$Machine", am_T5, 7), ("RecordDesk$Acts", am_T6, 5), ("RecordDesk$Replay", am_T7, 7), ("RecordDesk$Snapshots", am_T8, 2), ("RecordDesk$Holders", am_T9, 1), ("RecordDesk$Races", am_T10, 9), ("RecordDesk$Hot", am_T11, 3), ("RecordDeskModel", am_T12, 73)]
def am_Ys : List (Nat → FieldType) := [am_Y0, am_Y1, am_Y2, am_Y3, am_Y4, am_Y5, am_Y6, am_Y7, am_Y8, am_Y9, am_Y10, am_Y11, am_Y12]
/-- kinds of fields: 0 int, 1 long, 2 a reference, 3 a String, 5 boolean -/
def am_fkL : List (List Nat) := [[2, 2, 2, 2, 2, 2, 2, 2, 2, 2, 2, 2, 0, 5], [2, 0, 2, 0, 0, 0, 0, 0, 0, 1, 0, 3, 0, 5, 0, 0, 0, 2, 2, 2], [2, 2, 2, 2, 2, 0], [2, 2, 2, 2, 2, 2, 2, 2, 2, 0, 0, 0, 0, 0], [2, 0, 0, 0, 5, 0, 0], [2, 2, 2, 2, 2, 2, 0], [2, 2, 2, 2, 0], [2, 0, 0, 5, 0, 0, 0], [2, 0], [2], [2, 2, 2, 2, 2, 2, 0, 0, 5], [2, 2, 0], [2, 2, 2, 0, 2, 2, 2, 2, 2, 2, 2, 2, 0, 0, 2, 0, 0, 0, 0, 0, 0, 0, 0, 0, 0, 2, 2, 2, 2, 0, 2, 2, 2, 2, 2, 2, 2, 2, 2, 0, 0, 2, 0, 0, 2, 2, 2, 2, 2, 2, 2, 0, 0, 0, 0, 0, 0, 2, 5, 0, 0, 0, 2, 2, 2, 2, 2, 2, 2, 2, 2, 2, 2]]
def am_fk (c f : Nat) : Nat := (am_fkL.getD c []).getD f 9
def am_nfL : List Nat := [14, 20, 6, 14, 7, 7, 5, 7, 2, 1, 9, 3, 73]
def am_nf (c : Nat) : Nat := am_nfL.getD c 0
/-- the objects by their numbers: kind (0 int[], 1 long[], 2 byte[], 3 boolean[], 4 String[], 10 + a class), length -/
def am_tauL : List (Nat × Nat) := [(10, 0), (11, 0), (2, 700), (12, 0), (0, 64), (0, 192), (0, 4), (0, 16), (0, 4), (1, 64), (1, 64), (0, 64), (12, 0), (0, 64), (0, 192), (0, 4), (0, 16), (0, 4), (13, 0), (14, 0), (15, 0), (0, 16), (0, 16), (0, 4), (0, 4), (0, 4), (0, 3), (0, 90), (0, 3), (0, 400), (0, 400), (0, 400), (0, 400), (0, 401), (16, 0), (0, 40), (0, 40), (0, 40), (0, 40), (13, 0), (14, 0), (15, 0), (0, 16), (0, 16), (0, 4), (0, 4), (0, 4), (0, 3), (0, 90), (0, 3), (0, 400), (0, 400), (0, 400), (0, 400), (0, 401), (16, 0), (0, 40), (0, 40), (0, 40), (0, 40), (17, 0), (15, 0), (0, 16), (0, 16), (0, 4), (0, 4), (0, 4), (0, 3), (17, 0), (15, 0), (0, 16), (0, 16), (0, 4), (0, 4), (0, 4), (0, 3), (14, 0), (15, 0), (0, 16), (0, 16), (0, 4), (0, 4), (0, 4), (0, 3), (0, 112), (18, 0), (0, 9), (19, 0), (0, 4), (20, 0), (0, 401), (0, 401), (0, 1604), (0, 16), (0, 16), (1, 64), (21, 0), (0, 64), (0, 64), (22, 0), (4, 4), (4, 2), (4, 13), (0, 10), (0, 32), (0, 8), (0, 128), (0, 128), (0, 128), (0, 128), (0, 2), (0, 700), (0, 16), (0, 16), (0, 16), (0, 16), (0, 51), (0, 20451), (0, 401), (0, 401), (0, 400), (0, 400), (0, 400), (0, 90), (0, 3), (0, 9), (0, 40), (0, 40), (1, 2807), (0, 401), (3, 4096), (0, 64), (0, 64), (0, 112), (0, 20451), (0, 401), (0, 401), (0, 400), (0, 400), (0, 400), (0, 90), (0, 3), (0, 40), (0, 40), (0, 2), (1, 1)]
def am_tau (k : Nat) : Nat × Nat := am_tauL.getD k (99, 0)
def am_kkL : List (List (Option Nat)) := [[some 1, some 12, some 18, some 39, some 60, some 68, some 76, some 84, some 85, some 87, some 89, some 96, none, none], [some 2, none, some 3, none, none, none, none, none, none, none, none, none, none, none, none, none, none, some 9, some 10, some 11], [], [some 4, some 5, some 6, some 7, some 8, none], [], [], [], [], [], [], [], [], [some 13, some 14, some 15, some 16, some 17, none], [], [], [], [], [], [some 19, some 27, some 28, some 29, some 30, some 31, some 32, some 33, some 34, none, none, none, none, none], [some 20, none, none, none, none, none, none], [some 21, some 22, some 23, some 24, some 25, some 26, none], [], [], [], [], [], [], [], [], [], [], [], [], [], [some 35, some 36, some 37, some 38, none], [], [], [], [], [some 40, some 48, some 49, some 50, some 51, some 52, some 53, some 54, some 55, none, none, none, none, none], [some 41, none, none, none, none, none, none], [some 42, some 43, some 44, some 45, some 46, some 47, none], [], [], [], [], [], [], [], [], [], [], [], [], [], [some 56, some 57, some 58, some 59, none], [], [], [], [], [some 61, none, none, none, none, none, none], [some 62, some 63, some 64, some 65, some 66, some 67, none], [], [], [], [], [], [], [some 69, none, none, none, none, none, none], [some 70, some 71, some 72, some 73, some 74, some 75, none], [], [], [], [], [], [], [some 77, none, none, none, none, none, none], [some 78, some 79, some 80, some 81, some 82, some 83, none], [], [], [], [], [], [], [], [some 86, none], [], [some 88], [], [some 90, some 91, some 92, some 93, some 94, some 95, none, none, none], [], [], [], [], [], [], [some 97, some 98, none], [], [], [some 100, some 101, some 102, none, some 103, some 104, some 105, some 106, some 107, some 108, some 109, some 110, none, none, some 111, none, none, none, none, none, none, none, none, none, none, some 112, some 113, some 114, some 115, none, some 116, some 117, some 118, some 119, some 120, some 121, some 122, some 123, some 124, none, none, some 125, none, none, some 126, some 127, some 128, some 129, some 130, some 131, some 132, none, none, none, none, none, none, some 133, none, none, none, none, some 134, some 135, some 136, some 137, some 138, some 139, some 140, some 141, some 142, some 143, some 144], [], [], [], [], [], [], [], [], [], [], [], [], [], [], [], [], [], [], [], [], [], [], [], [], [], [], [], [], [], [], [], [], [], [], [], [], [], [], [], [], [], [], [], [], [], []]
def am_kk (k f : Nat) : Option Nat := (am_kkL.getD k []).getD f none
def am_ownL : List String := ["RecordDesk", "RecordDesk$Reader", "RecordDesk$Program", "RecordDesk$Course", "RecordDesk$Runner", "RecordDesk$Machine", "RecordDesk$Acts", "RecordDesk$Replay", "RecordDesk$Snapshots", "RecordDesk$Holders", "RecordDesk$Races", "RecordDesk$Hot", "RecordDeskModel", "RecordDeskLaw", "java/lang/String", "java/lang/StringLatin1", "jdk/internal/util/Preconditions", "java/util/Arrays", "java/lang/Integer", "java/lang/Long"]
def am_on (k : Nat) : String := am_ownL.getD k ""
def am_strL : List (List Int32) := [[], [116, 104, 101, 32, 116, 97, 112, 101, 32, 104, 97, 115, 32, 110, 111, 116, 32, 115, 111, 32, 109, 97, 110, 121, 32, 98, 121, 116, 101, 115], [113, 117, 97, 110, 116, 117, 109, 32, 115, 101, 101, 100, 32, 112, 111, 105, 110, 116, 32, 115, 110, 97, 112, 115, 32, 99, 101, 108, 108, 32, 116, 104, 114, 101, 97, 100, 32, 115, 101, 116, 32, 108, 111, 97, 100, 32, 115, 116, 111, 114, 101, 32, 97, 100, 100, 32, 115, 117, 98, 32, 109, 117, 108, 32, 114, 101, 97, 100, 32, 108, 111, 99, 107, 32, 117, 110, 108, 111, 99, 107, 32, 106, 117, 109, 112, 32, 122, 101, 114, 111, 32, 108, 101, 115, 115, 32, 115, 107, 105, 112, 32], [67, 119, 59], [110, 59], [114, 118], [114, 99], [99, 114], [114, 114], [114, 115], [108], [78], [114, 78], [114, 114, 78], [110, 111, 32, 115, 117, 99, 104, 32, 99, 111, 117, 110, 116], [110, 111, 32, 115, 117, 99, 104, 32, 115, 101, 116, 116, 105, 110, 103], [110, 111, 32, 115, 117, 99, 104, 32, 115, 119, 105, 116, 99, 104], [97, 32, 115, 119, 105, 116, 99, 104, 32, 104, 97, 115, 32, 110, 111, 32, 115, 117, 99, 104, 32, 112, 97, 114, 116], [110, 111, 32, 115, 117, 99, 104, 32, 105, 110, 112, 117, 116, 32, 105, 110, 32, 116, 104, 101, 32, 114, 101, 99, 111, 114, 100], [110, 111, 32, 115, 117, 99, 104, 32, 100, 105, 103, 101, 115, 116], [110, 111, 32, 115, 117, 99, 104, 32, 115, 110, 97, 112, 115, 104, 111, 116], [110, 111, 32, 115, 117, 99, 104, 32, 115, 116, 101, 112], [110, 111, 32, 115, 117, 99, 104, 32, 99, 101, 108, 108], [110, 111, 32, 115, 117, 99, 104, 32, 116, 104, 114, 101, 97, 100], [97, 32, 116, 104, 114, 101, 97, 100, 32, 104, 97, 115, 32, 110, 111, 32, 115, 117, 99, 104, 32, 112, 97, 114, 116], [110, 111, 32, 115, 117, 99, 104, 32, 108, 111, 99, 107], [110, 111, 32, 115, 117, 99, 104, 32, 105, 110, 115, 116, 114, 117, 99, 116, 105, 111, 110], [97, 32, 108, 97, 115, 116, 32, 115, 116, 111, 114, 101, 32, 104, 97, 115, 32, 110, 111, 32, 115, 117, 99, 104, 32, 112, 97, 114, 116], [110, 111, 116, 104, 105, 110, 103, 32, 119, 97, 115, 32, 115, 116, 111, 114, 101, 100, 32, 105, 110, 116, 111, 32, 116, 104, 101, 32, 99, 101, 108, 108], [114, 97, 99, 101, 115, 32, 104, 97, 118, 101, 32, 110, 111, 32, 115, 117, 99, 104, 32, 99, 111, 117, 110, 116], [110, 111, 32, 115, 117, 99, 104, 32, 114, 97, 99, 101], [110, 111, 32, 115, 117, 99, 104, 32, 104, 111, 116, 32, 105, 110, 115, 116, 114, 117, 99, 116, 105, 111, 110], [116, 104, 101, 32, 114, 101, 99, 111, 114, 100, 32, 99, 97, 110, 39, 116, 32, 98, 101, 32, 97, 108, 116, 101, 114, 101, 100, 32, 115, 111], [110, 111, 32, 115, 117, 99, 104, 32, 115, 111, 117, 114, 99, 101], [97, 32, 116, 114, 105, 97, 108, 32, 104, 97, 115, 32, 110, 111, 32, 115, 117, 99, 104, 32, 97, 110, 115, 119, 101, 114], [97, 32, 116, 114, 105, 97, 108, 32, 99, 97, 110, 39, 116, 32, 104, 97, 118, 101, 32, 115, 111, 32, 109, 97, 110, 121, 32, 115, 116, 101, 112, 115], [113, 117, 97, 110, 116, 117, 109], [115, 101, 101, 100], [112, 111, 105, 110, 116], [115, 110, 97, 112, 115], [99, 101, 108, 108], [116, 104, 114, 101, 97, 100], [115, 101, 116], [108, 111, 97, 100], [115, 116, 111, 114, 101], [97, 100, 100], [115, 117, 98], [109, 117, 108], [114, 101, 97, 100], [108, 111, 99, 107], [117, 110, 108, 111, 99, 107], [106, 117, 109, 112], [122, 101, 114, 111], [108, 101, 115, 115], [115, 107, 105, 112]]
def am_slen : List Nat := [0, 30, 101, 3, 2, 2, 2, 2, 2, 2, 1, 1, 2, 3, 13, 15, 14, 25, 27, 14, 16, 12, 12, 14, 25, 12, 19, 29, 32, 24, 12, 23, 30, 14, 26, 32, 7, 4, 5, 5, 4, 6, 3, 4, 5, 3, 3, 3, 4, 4, 6, 4, 4, 4, 4]
/-- the methods: own class, arguments on the stack, locals, kind of the answer, depth, name -/
def am_mtL : List (Nat × Nat × Nat × Nat × Nat) := [(0, 1, 1, 0, 5), (1, 1, 1, 0, 3), (2, 1, 1, 0, 2), (3, 1, 1, 0, 4), (4, 1, 1, 0, 3), (5, 1, 1, 0, 2), (6, 1, 1, 0, 2), (7, 1, 1, 0, 3), (8, 1, 1, 0, 2), (9, 1, 1, 0, 2), (10, 1, 1, 0, 2), (11, 1, 1, 0, 2), (2, 1, 1, 0, 1), (17, 2, 4, 0, 0), (3, 2, 2, 0, 4), (4, 3, 3, 0, 3), (5, 2, 2, 0, 2), (7, 2, 2, 0, 3), (0, 6, 6, 1, 1), (1, 2, 3, 0, 0), (0, 1, 1, 1, 0), (0, 2, 5, 1, 6), (5, 3, 5, 1, 3), (5, 4, 6, 2, 2), (5, 3, 3, 1, 1), (5, 3, 3, 2, 0), (2, 3, 3, 1, 0), (6, 5, 5, 0, 3), (6, 1, 1, 0, 2), (3, 2, 2, 2, 5), (4, 4, 6, 2, 4), (4, 2, 3, 1, 0), (4, 4, 6, 1, 3), (4, 2, 3, 0, 0), (5, 2, 3, 1, 2), (3, 3, 3, 1, 0), (5, 3, 5, 0, 2), (5, 3, 8, 0, 1), (5, 4, 7, 0, 1), (2, 1, 1, 1, 2), (5, 2, 7, 1, 0), (0, 1, 1, 0, 4), (0, 3, 3, 1, 4), (0, 1, 1, 2, 0), (0, 1, 3, 1, 6), (0, 2, 2, 0, 5), (7, 4, 5, 0, 4), (7, 3, 4, 2, 3), (7, 2, 5, 0, 0), (7, 3, 4, 1, 1), (5, 2, 2, 0, 2), (0, 1, 1, 1, 6), (0, 2, 2, 5, 5), (0, 1, 1, 0, 5), (3, 2, 2, 0, 4), (4, 2, 2, 0, 3), (6, 2, 2, 0, 2), (0, 1, 1, 2, 5), (13, 3, 4, 1, 10), (0, 2, 3, 1, 9), (1, 2, 4, 1, 8), (1, 1, 1, 0, 2), (17, 2, 5, 0, 0), (1, 2, 3, 0, 7), (1, 1, 1, 2, 0), (1, 2, 2, 0, 6), (1, 1, 4, 1, 5), (14, 1, 1, 1, 1), (14, 1, 1, 3, 0), (14, 2, 2, 4, 3), (14, 1, 1, 2, 0), (15, 2, 2, 4, 2), (14, 2, 2, 0, 1), (16, 3, 3, 1, 0), (1, 2, 3, 2, 4), (1, 1, 1, 2, 0), (1, 2, 2, 0, 1), (1, 1, 1, 1, 5), (1, 1, 1, 1, 2), (1, 1, 1, 1, 0), (1, 2, 2, 0, 1), (14, 1, 1, 2, 0), (1, 1, 2, 1, 4), (1, 1, 1, 1, 3), (1, 1, 1, 2, 0), (1, 1, 1, 0, 2), (1, 2, 2, 2, 1), (1, 1, 1, 2, 0), (1, 2, 3, 1, 3), (1, 1, 3, 1, 3), (1, 1, 1, 1, 2), (1, 1, 1, 5, 0), (1, 3, 5, 1, 0), (1, 1, 1, 1, 0), (1, 1, 1, 1, 0), (1, 1, 4, 1, 2), (2, 2, 2, 0, 2), (13, 3, 4, 1, 9), (0, 2, 3, 1, 8), (0, 1, 6, 1, 0), (5, 2, 4, 1, 1), (0, 1, 1, 5, 2), (8, 3, 4, 0, 1), (8, 1, 3, 1, 0), (8, 2, 3, 0, 0), (8, 2, 4, 1, 2), (8, 2, 4, 1, 0), (5, 2, 6, 1, 3), (5, 3, 4, 1, 2), (13, 3, 4, 1, 9), (0, 2, 2, 1, 8), (13, 4, 5, 1, 9), (0, 3, 3, 1, 8), (13, 4, 5, 1, 9), (0, 3, 3, 1, 8), (0, 3, 3, 2, 1), (13, 3, 4, 1, 9), (0, 2, 2, 1, 8), (13, 3, 4, 1, 9), (0, 2, 3, 1, 8), (13, 3, 4, 1, 9), (0, 2, 2, 1, 8), (13, 3, 4, 1, 10), (0, 2, 2, 1, 9), (0, 2, 2, 0, 8), (13, 4, 5, 1, 9), (0, 3, 4, 1, 8), (0, 2, 2, 2, 0), (13, 3, 4, 1, 9), (0, 2, 2, 1, 8), (13, 4, 5, 1, 10), (0, 3, 5, 1, 9), (0, 3, 3, 0, 8), (13, 4, 5, 1, 10), (0, 3, 5, 1, 9), (13, 4, 5, 1, 10), (0, 3, 4, 1, 9), (0, 2, 4, 1, 2), (2, 2, 2, 1, 1), (13, 3, 4, 1, 10), (0, 2, 3, 1, 9), (13, 3, 4, 1, 10), (0, 2, 4, 1, 9), (13, 3, 4, 1, 9), (0, 2, 2, 1, 8), (10, 4, 6, 0, 3), (10, 1, 1, 0, 1), (9, 1, 1, 0, 1), (10, 5, 9, 0, 2), (9, 3, 3, 2, 1), (9, 3, 5, 0, 2), (10, 4, 5, 0, 1), (10, 5, 7, 2, 0), (18, 1, 1, 1, 0), (10, 1, 7, 1, 1), (19, 1, 2, 1, 0), (13, 4, 5, 1, 9), (0, 3, 4, 1, 8), (10, 3, 5, 1, 0), (10, 5, 7, 1, 1), (13, 3, 4, 1, 10), (0, 2, 5, 1, 9), (9, 2, 4, 1, 0), (13, 4, 5, 1, 9), (0, 3, 4, 1, 8), (11, 2, 4, 0, 1), (13, 6, 7, 1, 9), (0, 5, 5, 1, 8), (0, 4, 4, 2, 2), (7, 4, 4, 0, 0), (0, 1, 2, 1, 4), (5, 3, 3, 2, 3), (0, 3, 5, 2, 2), (0, 1, 3, 1, 5), (13, 3, 4, 1, 9), (0, 2, 5, 1, 8), (13, 4, 5, 1, 10), (0, 3, 7, 1, 9), (0, 3, 3, 0, 8), (0, 4, 6, 1, 5), (0, 2, 5, 1, 0), (13, 4, 5, 1, 10), (0, 3, 7, 1, 9), (12, 1, 1, 0, 2), (12, 2, 3, 0, 0), (12, 2, 3, 0, 0), (12, 1, 1, 1, 0), (12, 6, 8, 1, 0), (12, 2, 3, 1, 13), (12, 2, 2, 1, 0), (12, 1, 2, 0, 2), (12, 2, 2, 1, 0), (12, 1, 1, 2, 0), (12, 1, 1, 2, 0), (12, 2, 5, 1, 12), (12, 2, 3, 1, 5), (12, 2, 4, 2, 4), (12, 2, 2, 0, 0), (12, 3, 4, 1, 3), (12, 3, 3, 1, 1), (12, 1, 5, 0, 11), (12, 3, 5, 0, 10), (12, 1, 1, 2, 6), (12, 2, 2, 0, 8), (12, 1, 1, 2, 7), (12, 4, 7, 1, 0), (12, 2, 2, 0, 3), (12, 2, 2, 2, 0), (12, 4, 4, 0, 9), (12, 1, 1, 1, 4), (12, 1, 3, 1, 4), (12, 2, 3, 2, 3), (12, 2, 2, 0, 8), (12, 1, 2, 0, 1), (12, 1, 2, 0, 0), (12, 1, 1, 1, 0), (12, 2, 2, 1, 4), (12, 2, 3, 0, 0), (12, 1, 3, 1, 0), (12, 1, 3, 1, 3), (12, 2, 3, 2, 2), (12, 2, 2, 2, 1), (12, 2, 2, 1, 0), (12, 2, 2, 1, 1), (12, 1, 3, 1, 2), (12, 1, 2, 0, 1), (12, 1, 3, 0, 0), (12, 1, 3, 1, 2), (12, 2, 4, 1, 0), (12, 1, 5, 1, 3), (12, 2, 3, 1, 2), (12, 2, 2, 1, 1), (12, 3, 3, 2, 0), (12, 2, 3, 1, 5), (12, 1, 1, 1, 0), (12, 2, 3, 0, 0), (12, 3, 4, 2, 4), (12, 4, 7, 0, 3), (12, 2, 2, 1, 0), (12, 1, 2, 1, 2), (12, 2, 2, 0, 3), (12, 3, 7, 0, 2), (12, 3, 3, 1, 1), (12, 1, 1, 1, 2), (12, 3, 3, 1, 1), (12, 3, 3, 1, 0), (12, 3, 3, 1, 1), (12, 2, 2, 1, 2), (12, 2, 6, 1, 1), (12, 2, 2, 1, 2), (12, 2, 2, 1, 2), (12, 2, 2, 1, 1), (12, 3, 4, 1, 1), (12, 2, 2, 1, 1), (12, 1, 1, 1, 2), (12, 3, 4, 1, 2), (12, 3, 3, 2, 1), (12, 3, 4, 1, 2), (12, 3, 4, 1, 2), (12, 2, 3, 1, 1), (12, 3, 3, 2, 0), (12, 2, 3, 1, 2), (12, 2, 3, 1, 1), (12, 3, 3, 2, 0), (12, 2, 8, 1, 3), (12, 1, 5, 0, 2), (12, 3, 3, 2, 1), (12, 3, 4, 0, 0), (12, 3, 4, 2, 1), (12, 3, 3, 2, 0), (12, 3, 6, 1, 3), (12, 2, 5, 1, 1), (12, 3, 4, 1, 1), (12, 1, 4, 1, 0), (12, 5, 5, 1, 6), (12, 4, 4, 2, 1), (12, 1, 2, 0, 5), (12, 2, 3, 2, 1), (12, 1, 3, 2, 4), (12, 1, 4, 0, 1), (12, 3, 3, 1, 0), (12, 1, 3, 1, 0), (12, 2, 4, 1, 6), (12, 1, 2, 2, 1), (12, 3, 8, 1, 6), (12, 4, 6, 0, 5), (12, 3, 4, 2, 0), (12, 3, 6, 1, 6), (12, 1, 1, 0, 1), (12, 2, 3, 0, 0), (12, 1, 1, 2, 1), (13, 1, 7, 2, 14)]
def am_mt (y : Nat) : Nat × Nat × Nat × Nat × Nat := am_mtL.getD y (99, 0, 0, 9, 0)
def am_hdL : List (List (Nat × Nat)) := [[], [], [], [], [], [], [], [], [], [], [], [], [], [], [], [], [], [], [], [], [], [], [], [], [], [], [], [], [], [], [], [], [], [], [], [], [], [], [], [], [], [], [], [], [], [], [], [], [], [], [], [], [], [], [], [], [], [], [(1, 1)], [], [], [], [], [], [], [], [], [], [], [], [], [], [], [], [], [], [], [], [], [], [], [], [], [], [], [], [], [], [], [], [], [], [], [], [], [], [], [(0, 1)], [], [], [], [], [], [], [], [], [], [], [], [(0, 1)], [], [(0, 1)], [], [(0, 1)], [], [], [(0, 1)], [], [(0, 1)], [], [(0, 1)], [], [(0, 1)], [], [], [(0, 1)], [], [], [(0, 1)], [], [(0, 1)], [], [], [(0, 1)], [], [(0, 1)], [], [], [], [(0, 1)], [], [(0, 1)], [], [(0, 1)], [], [], [], [], [], [], [], [], [], [], [], [], [(0, 1)], [], [], [], [(0, 1)], [], [], [(0, 1)], [], [], [(0, 1)], [], [], [], [], [], [], [], [(0, 1)], [], [(0, 1), (1, 2)], [], [], [], [], [(0, 1), (1, 2)], [], [], [], [], [], [], [], [], [], [], [], [], [], [], [], [], [], [], [], [], [], [], [], [], [], [], [], [], [], [], [], [], [], [], [], [], [], [], [], [], [], [], [], [], [], [], [], [], [], [], [], [], [], [], [], [], [], [], [], [], [], [], [], [], [], [], [], [], [], [], [], [], [], [], [], [], [], [], [], [], [], [], [], [], [], [], [], [], [], [], [], [], [], [], [], [], [], [], [], [], [], [], [], [], [], [], [], [], [], []]
def am_hd (y e : Nat) : Option Nat := (am_hdL.getD y []).lookup e
/-- 0: RecordDesk.<init>()V -/
def am_c0 : List Instr := [.aload 0, .invokespecial 10000, .aload 0, .new 1, .dup, .invokespecial 1, .putfield 2, .aload 0, .new 2, .dup, .invokespecial 2, .putfield 12, .aload 0, .new 3, .dup, .invokespecial 3, .putfield 22, .aload 0, .new 3, .dup, .invokespecial 3, .putfield 32, .aload 0, .new 7, .dup, .invokespecial 7, .putfield 42, .aload 0, .new 7, .dup, .invokespecial 7, .putfield 52, .aload 0, .new 4, .dup, .invokespecial 4, .putfield 62, .aload 0, .ldc_w 112, .newarray .int, .putfield 72, .aload 0, .new 8, .dup, .invokespecial 8, .putfield 82, .aload 0, .new 9, .dup, .invokespecial 9, .putfield 92, .aload 0, .new 10, .dup, .invokespecial 10, .putfield 102, .aload 0, .new 11, .dup, .invokespecial 11, .putfield 112, .aload 0, .iconst (-1), .putfield 120, .aload 0, .ldc_w 0, .putfield 135, .aload 0, .getfield 12, .invokevirtual 12, .aload 0, .getfield 22, .aload 0, .getfield 12, .invokevirtual 14, .aload 0, .getfield 42, .aload 0, .getfield 12, .invokevirtual 17, .return_]
/-- 1: RecordDesk$Reader.<init>()V -/
def am_c1 : List Instr := [.aload 0, .invokespecial 10000, .aload 0, .ldc_w 700, .newarray .byte, .putfield 1002, .aload 0, .ldc_w 0, .putfield 1010, .aload 0, .new 2, .dup, .invokespecial 2, .putfield 1022, .aload 0, .iconst (-1), .putfield 1030, .aload 0, .ldc 0, .putfield 1113, .aload 0, .ldc_w 64, .newarray .long, .putfield 1172, .aload 0, .ldc_w 64, .newarray .long, .putfield 1182, .aload 0, .ldc_w 64, .newarray .int, .putfield 1192, .return_]
/-- 2: RecordDesk$Program.<init>()V -/
def am_c2 : List Instr := [.aload 0, .invokespecial 10000, .aload 0, .ldc_w 64, .newarray .int, .putfield 2002, .aload 0, .ldc_w 192, .newarray .int, .putfield 2012, .aload 0, .ldc_w 4, .newarray .int, .putfield 2022, .aload 0, .ldc_w 16, .newarray .int, .putfield 2032, .aload 0, .ldc_w 4, .newarray .int, .putfield 2042, .return_]
/-- 3: RecordDesk$Course.<init>()V -/
def am_c3 : List Instr := [.aload 0, .invokespecial 10000, .aload 0, .new 4, .dup, .invokespecial 4, .putfield 3002, .aload 0, .ldc_w 90, .newarray .int, .putfield 3012, .aload 0, .ldc_w 3, .newarray .int, .putfield 3022, .aload 0, .ldc_w 400, .newarray .int, .putfield 3032, .aload 0, .ldc_w 400, .newarray .int, .putfield 3042, .aload 0, .ldc_w 400, .newarray .int, .putfield 3052, .aload 0, .ldc_w 400, .newarray .int, .putfield 3062, .aload 0, .ldc_w 401, .newarray .int, .putfield 3072, .aload 0, .new 6, .dup, .invokespecial 6, .putfield 3082, .aload 0, .ldc_w 0, .putfield 3090, .aload 0, .ldc_w 0, .putfield 3100, .aload 0, .ldc_w 0, .putfield 3110, .aload 0, .ldc_w 0, .putfield 3120, .aload 0, .ldc_w 0, .putfield 3130, .return_]
/-- 4: RecordDesk$Runner.<init>()V -/
def am_c4 : List Instr := [.aload 0, .invokespecial 10000, .aload 0, .new 5, .dup, .invokespecial 5, .putfield 4002, .aload 0, .iconst (-1), .putfield 4030, .return_]
/-- 5: RecordDesk$Machine.<init>()V -/
def am_c5 : List Instr := [.aload 0, .invokespecial 10000, .aload 0, .ldc_w 16, .newarray .int, .putfield 5002, .aload 0, .ldc_w 16, .newarray .int, .putfield 5012, .aload 0, .ldc_w 4, .newarray .int, .putfield 5022, .aload 0, .ldc_w 4, .newarray .int, .putfield 5032, .aload 0, .ldc_w 4, .newarray .int, .putfield 5042, .aload 0, .ldc_w 3, .newarray .int, .putfield 5052, .aload 0, .iconst (-1), .putfield 5060, .return_]
/-- 6: RecordDesk$Acts.<init>()V -/
def am_c6 : List Instr := [.aload 0, .invokespecial 10000, .aload 0, .ldc_w 40, .newarray .int, .putfield 6002, .aload 0, .ldc_w 40, .newarray .int, .putfield 6012, .aload 0, .ldc_w 40, .newarray .int, .putfield 6022, .aload 0, .ldc_w 40, .newarray .int, .putfield 6032, .aload 0, .ldc_w 0, .putfield 6040, .return_]
/-- 7: RecordDesk$Replay.<init>()V -/
def am_c7 : List Instr := [.aload 0, .invokespecial 10000, .aload 0, .new 5, .dup, .invokespecial 5, .putfield 7002, .aload 0, .ldc_w 0, .putfield 7010, .aload 0, .ldc_w 0, .putfield 7020, .aload 0, .ldc_w 0, .putfield 7035, .aload 0, .iconst (-1), .putfield 7040, .aload 0, .ldc_w 0, .putfield 7050, .aload 0, .ldc_w 0, .putfield 7060, .return_]
/-- 8: RecordDesk$Snapshots.<init>()V -/
def am_c8 : List Instr := [.aload 0, .invokespecial 10000, .aload 0, .ldc_w 9, .newarray .int, .putfield 8002, .aload 0, .ldc_w 1, .putfield 8010, .return_]
/-- 9: RecordDesk$Holders.<init>()V -/
def am_c9 : List Instr := [.aload 0, .invokespecial 10000, .aload 0, .ldc_w 4, .newarray .int, .putfield 9002, .return_]
/-- 10: RecordDesk$Races.<init>()V -/
def am_c10 : List Instr := [.aload 0, .invokespecial 10000, .aload 0, .ldc_w 401, .newarray .int, .putfield 10002, .aload 0, .ldc_w 401, .newarray .int, .putfield 10012, .aload 0, .ldc_w 1604, .newarray .int, .putfield 10022, .aload 0, .ldc_w 16, .newarray .int, .putfield 10032, .aload 0, .ldc_w 16, .newarray .int, .putfield 10042, .aload 0, .ldc_w 64, .newarray .long, .putfield 10052, .aload 0, .ldc_w 0, .putfield 10060, .aload 0, .ldc_w 0, .putfield 10070, .aload 0, .ldc_w 0, .putfield 10085, .return_]
/-- 11: RecordDesk$Hot.<init>()V -/
def am_c11 : List Instr := [.aload 0, .invokespecial 10000, .aload 0, .ldc_w 64, .newarray .int, .putfield 11002, .aload 0, .ldc_w 64, .newarray .int, .putfield 11012, .aload 0, .ldc_w 0, .putfield 11020, .return_]
/-- 12: RecordDesk$Program.clear()V -/
def am_c12 : List Instr := [.aload 0, .getfield 2002, .iconst (-1), .invokestatic 13, .aload 0, .getfield 2012, .ldc_w 0, .invokestatic 13, .aload 0, .getfield 2022, .ldc_w 0, .invokestatic 13, .aload 0, .getfield 2032, .ldc_w 0, .invokestatic 13, .aload 0, .ldc_w 0, .putfield 2050, .aload 0, .getfield 2042, .ldc_w 0, .ldc_w 3, .iastore, .aload 0, .getfield 2042, .ldc_w 1, .ldc_w 1, .iastore, .aload 0, .getfield 2042, .ldc_w 2, .ldc_w 10, .iastore, .aload 0, .getfield 2042, .ldc_w 3, .ldc_w 4, .iastore, .return_]
/-- 13: java/util/Arrays.fill([II)V -/
def am_c13 : List Instr := [.ldc_w 0, .istore 2, .aload 0, .arraylength, .istore 3, .iload 2, .iload 3, .if_icmp .ge 14, .aload 0, .iload 2, .iload 1, .iastore, .iinc 2 1, .goto 5, .return_]
/-- 14: RecordDesk$Course.begin(LRecordDesk$Program;)V -/
def am_c14 : List Instr := [.aload 0, .getfield 3002, .aload 1, .aload 1, .getfield 2042, .ldc_w 1, .iaload, .invokevirtual 15, .aload 0, .getfield 3022, .ldc_w 0, .invokestatic 13, .aload 0, .getfield 3082, .ldc_w 0, .putfield 6040, .aload 0, .ldc_w 0, .putfield 3090, .aload 0, .ldc_w 0, .putfield 3100, .aload 0, .ldc_w 0, .putfield 3110, .return_]
/-- 15: RecordDesk$Runner.begin(LRecordDesk$Program;I)V -/
def am_c15 : List Instr := [.aload 0, .getfield 4002, .aload 1, .invokevirtual 16, .aload 0, .iload 2, .putfield 4010, .aload 0, .ldc_w 0, .putfield 4020, .return_]
/-- 16: RecordDesk$Machine.begin(LRecordDesk$Program;)V -/
def am_c16 : List Instr := [.aload 1, .getfield 2032, .ldc_w 0, .aload 0, .getfield 5002, .ldc_w 0, .ldc_w 16, .invokestatic 10003, .aload 0, .getfield 5012, .ldc_w 0, .invokestatic 13, .aload 0, .getfield 5022, .ldc_w 0, .invokestatic 13, .aload 0, .getfield 5032, .ldc_w 0, .invokestatic 13, .aload 0, .getfield 5042, .iconst (-1), .invokestatic 13, .aload 0, .getfield 5052, .ldc_w 0, .invokestatic 13, .aload 0, .iconst (-1), .putfield 5060, .return_]
/-- 17: RecordDesk$Replay.begin(LRecordDesk$Program;)V -/
def am_c17 : List Instr := [.aload 0, .getfield 7002, .aload 1, .invokevirtual 16, .aload 0, .ldc_w 0, .putfield 7010, .aload 0, .ldc_w 0, .putfield 7020, .aload 0, .ldc_w 0, .putfield 7035, .aload 0, .iconst (-1), .putfield 7040, .return_]
/-- 18: RecordDesk.feed(IIIII)I -/
def am_c18 : List Instr := [.aload 0, .getfield 2, .getfield 1010, .ldc_w 20, .iadd, .ldc_w 700, .if_icmp .le 9, .iconst (-1), .ireturn, .aload 0, .getfield 2, .iload 1, .invokevirtual 19, .aload 0, .getfield 2, .iload 2, .invokevirtual 19, .aload 0, .getfield 2, .iload 3, .invokevirtual 19, .aload 0, .getfield 2, .iload 4, .invokevirtual 19, .aload 0, .getfield 2, .iload 5, .invokevirtual 19, .aload 0, .getfield 2, .getfield 1010, .ireturn]
/-- 19: RecordDesk$Reader.put(I)V -/
def am_c19 : List Instr := [.ldc_w 24, .istore 2, .iload 2, .ifCond .lt 25, .aload 0, .getfield 1010, .ldc_w 700, .if_icmp .ge 25, .aload 0, .getfield 1002, .aload 0, .getfield 1010, .iload 1, .iload 2, .ishr, .i2b, .bastore, .aload 0, .dup, .getfield 1010, .ldc_w 1, .iadd, .putfield 1010, .iinc 2 (-8), .goto 2, .return_]
/-- 20: RecordDesk.fault()I -/
def am_c20 : List Instr := [.aload 0, .getfield 120, .ireturn]
/-- 21: RecordDesk.steps(I)I -/
def am_c21 : List Instr := [.iload 1, .ldc_w 1, .if_icmp .lt 24, .iload 1, .ldc_w 50, .if_icmp .gt 24, .aload 0, .getfield 22, .getfield 3100, .iload 1, .iadd, .ldc_w 400, .if_icmp .gt 24, .aload 0, .getfield 22, .getfield 3002, .getfield 4002, .aload 0, .getfield 12, .aload 0, .getfield 22, .getfield 3022, .invokevirtual 22, .ifCond .ne 26, .ldc_w 1, .goto 27, .ldc_w 0, .istore 2, .iload 2, .ifCond .eq 39, .aload 0, .getfield 22, .dup, .getfield 3130, .ldc_w 1, .iadd, .putfield 3130, .iconst (-1), .ireturn, .aload 0, .getfield 22, .getfield 3100, .istore 3, .aload 0, .getfield 22, .getfield 3082, .iconst (-1), .iload 3, .aload 0, .getfield 22, .getfield 3002, .getfield 4020, .aload 0, .getfield 22, .getfield 3002, .getfield 4010, .invokevirtual 27, .ldc_w 0, .istore 4, .iload 4, .iload 1, .if_icmp .ge 71, .aload 0, .getfield 22, .aload 0, .getfield 12, .invokevirtual 29, .ifCond .ne 69, .goto 71, .iinc 4 1, .goto 59, .aload 0, .invokevirtual 41, .aload 0, .getfield 22, .getfield 3100, .iload 3, .isub, .ireturn]
/-- 22: RecordDesk$Machine.countAble(LRecordDesk$Program;[I)I -/
def am_c22 : List Instr := [.ldc_w 0, .istore 3, .ldc_w 0, .istore 4, .iload 4, .aload 1, .getfield 2050, .if_icmp .ge 17, .aload 0, .aload 1, .iload 4, .aload 2, .invokevirtual 23, .ifCond .eq 15, .iinc 3 1, .iinc 4 1, .goto 4, .iload 3, .ireturn]
/-- 23: RecordDesk$Machine.canGo(LRecordDesk$Program;I[I)Z -/
def am_c23 : List Instr := [.aload 0, .aload 1, .iload 2, .invokevirtual 24, .istore 4, .iload 4, .iconst (-1), .if_icmp .ne 10, .ldc_w 0, .ireturn, .aload 1, .getfield 2002, .iload 4, .iaload, .ldc_w 13, .if_icmp .ne 29, .aload 0, .getfield 5042, .aload 1, .iload 4, .ldc_w 0, .invokevirtual 26, .iaload, .iconst (-1), .if_icmp .ne 27, .ldc_w 1, .goto 28, .ldc_w 0, .ireturn, .aload 1, .getfield 2002, .iload 4, .iaload, .ldc_w 12, .if_icmp .ne 52, .aload 1, .iload 4, .ldc_w 1, .invokevirtual 26, .istore 5, .aload 0, .getfield 5052, .iload 5, .iaload, .aload 3, .iload 5, .iaload, .if_icmp .ge 50, .ldc_w 1, .goto 51, .ldc_w 0, .ireturn, .ldc_w 1, .ireturn]
/-- 24: RecordDesk$Machine.nextRow(LRecordDesk$Program;I)I -/
def am_c24 : List Instr := [.iload 2, .ifCond .lt 11, .iload 2, .aload 1, .getfield 2050, .if_icmp .ge 11, .aload 0, .aload 1, .iload 2, .invokevirtual 25, .ifCond .eq 13, .iconst (-1), .ireturn, .iload 2, .ldc_w 16, .imul, .aload 0, .getfield 5022, .iload 2, .iaload, .iadd, .ireturn]
/-- 25: RecordDesk$Machine.hasEnded(LRecordDesk$Program;I)Z -/
def am_c25 : List Instr := [.aload 0, .getfield 5022, .iload 2, .iaload, .aload 1, .getfield 2022, .iload 2, .iaload, .if_icmp .lt 11, .ldc_w 1, .goto 12, .ldc_w 0, .ireturn]
/-- 26: RecordDesk$Program.operand(II)I -/
def am_c26 : List Instr := [.aload 0, .getfield 2012, .iload 1, .ldc_w 3, .imul, .iload 2, .iadd, .iaload, .ireturn]
/-- 27: RecordDesk$Acts.keep(IIII)V -/
def am_c27 : List Instr := [.aload 0, .getfield 6040, .ldc_w 40, .if_icmp .lt 19, .aload 0, .getfield 6002, .invokestatic 28, .aload 0, .getfield 6012, .invokestatic 28, .aload 0, .getfield 6022, .invokestatic 28, .aload 0, .getfield 6032, .invokestatic 28, .aload 0, .ldc_w 39, .putfield 6040, .aload 0, .getfield 6002, .aload 0, .getfield 6040, .iload 1, .iastore, .aload 0, .getfield 6012, .aload 0, .getfield 6040, .iload 2, .iastore, .aload 0, .getfield 6022, .aload 0, .getfield 6040, .iload 3, .iastore, .aload 0, .getfield 6032, .aload 0, .getfield 6040, .iload 4, .iastore, .aload 0, .dup, .getfield 6040, .ldc_w 1, .iadd, .putfield 6040, .return_]
/-- 28: RecordDesk$Acts.dropFirst([I)V -/
def am_c28 : List Instr := [.aload 0, .ldc_w 1, .aload 0, .ldc_w 0, .ldc_w 39, .invokestatic 10003, .return_]
/-- 29: RecordDesk$Course.putDownStep(LRecordDesk$Program;)Z -/
def am_c29 : List Instr := [.aload 0, .getfield 3100, .ldc_w 400, .if_icmp .ge 14, .aload 0, .getfield 3002, .aload 1, .aload 0, .aload 1, .getfield 2042, .ldc_w 0, .iaload, .invokevirtual 30, .ifCond .ne 16, .ldc_w 0, .ireturn, .aload 0, .getfield 3002, .getfield 4045, .ifCond .eq 55, .aload 0, .getfield 3090, .ldc_w 400, .if_icmp .ge 55, .aload 0, .getfield 3032, .aload 0, .getfield 3090, .aload 0, .getfield 3002, .getfield 4050, .iastore, .aload 0, .getfield 3042, .aload 0, .getfield 3090, .aload 0, .getfield 3002, .getfield 4060, .iastore, .aload 0, .getfield 3052, .aload 0, .getfield 3090, .aload 0, .getfield 3002, .getfield 4002, .getfield 5060, .iastore, .aload 0, .dup, .getfield 3090, .ldc_w 1, .iadd, .putfield 3090, .aload 0, .dup, .getfield 3100, .ldc_w 1, .iadd, .putfield 3100, .aload 0, .getfield 3072, .aload 0, .getfield 3100, .aload 0, .getfield 3002, .getfield 4030, .iastore, .aload 0, .getfield 3100, .aload 1, .invokevirtual 39, .irem, .ifCond .ne 90, .aload 0, .getfield 3062, .aload 0, .getfield 3100, .aload 1, .invokevirtual 39, .idiv, .ldc_w 1, .isub, .aload 0, .getfield 3002, .getfield 4002, .aload 1, .invokevirtual 40, .iastore, .ldc_w 1, .ireturn]
/-- 30: RecordDesk$Runner.advance(LRecordDesk$Program;LRecordDesk$Course;I)Z -/
def am_c30 : List Instr := [.aload 0, .ldc_w 0, .putfield 4045, .aload 2, .getfield 3022, .astore 4, .aload 0, .getfield 4020, .ifCond .eq 18, .aload 0, .getfield 4002, .aload 1, .aload 0, .getfield 4002, .getfield 5060, .aload 4, .invokevirtual 23, .ifCond .ne 44, .aload 0, .getfield 4002, .aload 1, .aload 4, .invokevirtual 22, .istore 5, .iload 5, .ifCond .ne 28, .ldc_w 0, .ireturn, .aload 0, .aload 0, .aload 1, .aload 4, .aload 0, .iload 5, .invokevirtual 31, .invokevirtual 32, .invokevirtual 33, .aload 0, .aload 0, .iload 3, .invokevirtual 31, .ldc_w 1, .iadd, .putfield 4020, .aload 0, .aload 0, .getfield 4002, .aload 1, .aload 0, .getfield 4002, .getfield 5060, .invokevirtual 24, .putfield 4030, .aload 0, .getfield 4002, .aload 1, .invokevirtual 34, .istore 5, .aload 0, .getfield 4002, .aload 1, .iload 5, .iconst (-1), .if_icmp .ne 66, .ldc_w 0, .goto 74, .aload 2, .iload 5, .aload 0, .getfield 4002, .getfield 5052, .iload 5, .iaload, .invokevirtual 35, .invokevirtual 36, .aload 0, .dup, .getfield 4020, .ldc_w 1, .isub, .putfield 4020, .ldc_w 1, .ireturn]
/-- 31: RecordDesk$Runner.draw(I)I -/
def am_c31 : List Instr := [.aload 0, .aload 0, .getfield 4010, .ldc_w 1103515245, .imul, .ldc_w 12345, .iadd, .putfield 4010, .aload 0, .getfield 4010, .ldc_w 16, .iushr, .ldc_w 32767, .iand, .istore 2, .iload 1, .ldc_w 1, .if_icmp .ge 20, .ldc_w 0, .goto 23, .iload 2, .iload 1, .irem, .ireturn]
/-- 32: RecordDesk$Runner.pick(LRecordDesk$Program;[II)I -/
def am_c32 : List Instr := [.iload 3, .istore 4, .ldc_w 0, .istore 5, .iload 5, .aload 1, .getfield 2050, .if_icmp .ge 22, .aload 0, .getfield 4002, .aload 1, .iload 5, .aload 2, .invokevirtual 23, .ifCond .eq 20, .iload 4, .ifCond .ne 19, .iload 5, .ireturn, .iinc 4 (-1), .iinc 5 1, .goto 4, .aload 0, .getfield 4002, .getfield 5060, .ireturn]
/-- 33: RecordDesk$Runner.turnTo(I)V -/
def am_c33 : List Instr := [.aload 0, .getfield 4002, .getfield 5060, .istore 2, .aload 0, .iload 1, .iload 2, .if_icmp .eq 10, .ldc_w 1, .goto 11, .ldc_w 0, .putfield 4045, .aload 0, .iload 2, .iconst (-1), .if_icmp .ne 18, .ldc_w 0, .goto 23, .aload 0, .getfield 4002, .getfield 5032, .iload 2, .iaload, .putfield 4050, .aload 0, .iload 2, .iconst (-1), .if_icmp .ne 30, .ldc_w 0, .goto 35, .aload 0, .getfield 4002, .getfield 5022, .iload 2, .iaload, .putfield 4060, .aload 0, .getfield 4002, .iload 1, .putfield 5060, .return_]
/-- 34: RecordDesk$Machine.sourceWanted(LRecordDesk$Program;)I -/
def am_c34 : List Instr := [.aload 0, .aload 1, .aload 0, .getfield 5060, .invokevirtual 24, .istore 2, .iload 2, .iconst (-1), .if_icmp .eq 20, .aload 1, .getfield 2002, .iload 2, .iaload, .ldc_w 12, .if_icmp .ne 20, .aload 1, .iload 2, .ldc_w 1, .invokevirtual 26, .goto 21, .iconst (-1), .ireturn]
/-- 35: RecordDesk$Course.inputAt(II)I -/
def am_c35 : List Instr := [.iload 2, .ifCond .lt 14, .iload 2, .ldc_w 30, .if_icmp .ge 14, .aload 0, .getfield 3012, .iload 1, .ldc_w 30, .imul, .iload 2, .iadd, .iaload, .goto 15, .ldc_w 0, .ireturn]
/-- 36: RecordDesk$Machine.obey(LRecordDesk$Program;I)V -/
def am_c36 : List Instr := [.aload 0, .aload 1, .aload 0, .getfield 5060, .invokevirtual 24, .istore 3, .iload 3, .iconst (-1), .if_icmp .ne 10, .return_, .aload 1, .getfield 2002, .iload 3, .iaload, .istore 4, .iload 4, .ldc_w 15, .if_icmp .eq 24, .iload 4, .ldc_w 16, .if_icmp .eq 24, .iload 4, .ldc_w 17, .if_icmp .ne 29, .aload 0, .aload 1, .iload 3, .invokevirtual 37, .goto 43, .aload 0, .aload 1, .iload 3, .iload 2, .invokevirtual 38, .aload 0, .getfield 5022, .aload 0, .getfield 5060, .dup2, .iaload, .ldc_w 1, .iadd, .iastore, .return_]
/-- 37: RecordDesk$Machine.branch(LRecordDesk$Program;I)V -/
def am_c37 : List Instr := [.aload 0, .getfield 5060, .ldc_w 4, .imul, .istore 3, .aload 1, .iload 2, .ldc_w 0, .invokevirtual 26, .istore 4, .aload 1, .iload 2, .ldc_w 1, .invokevirtual 26, .istore 5, .aload 0, .getfield 5022, .aload 0, .getfield 5060, .iaload, .ldc_w 1, .iadd, .istore 6, .aload 1, .getfield 2002, .iload 2, .iaload, .lookupswitch 43 #[(15, 28), (16, 31)], .iload 4, .istore 6, .goto 69, .aload 0, .getfield 5012, .iload 3, .iload 4, .iadd, .iaload, .ifCond .ne 40, .iload 5, .goto 41, .iload 6, .istore 6, .goto 69, .aload 0, .getfield 5012, .iload 3, .iload 4, .iadd, .iaload, .aload 0, .getfield 5012, .iload 3, .iload 5, .iadd, .iaload, .if_icmp .ge 58, .ldc_w 1, .goto 59, .ldc_w 0, .istore 7, .iload 7, .ifCond .eq 67, .aload 1, .iload 2, .ldc_w 2, .invokevirtual 26, .goto 68, .iload 6, .istore 6, .aload 0, .getfield 5022, .aload 0, .getfield 5060, .iload 6, .iastore, .aload 0, .getfield 5032, .aload 0, .getfield 5060, .dup2, .iaload, .ldc_w 1, .iadd, .iastore, .return_]
/-- 38: RecordDesk$Machine.work(LRecordDesk$Program;II)V -/
def am_c38 : List Instr := [.aload 0, .getfield 5060, .ldc_w 4, .imul, .istore 4, .aload 1, .iload 2, .ldc_w 0, .invokevirtual 26, .istore 5, .aload 1, .iload 2, .ldc_w 1, .invokevirtual 26, .istore 6, .aload 1, .getfield 2002, .iload 2, .iaload, .tableswitch 139 6 14 #[20, 28, 39, 50, 66, 82, 98, 114, 121], .aload 0, .getfield 5012, .iload 4, .iload 5, .iadd, .iload 6, .iastore, .goto 139, .aload 0, .getfield 5012, .iload 4, .iload 5, .iadd, .aload 0, .getfield 5002, .iload 6, .iaload, .iastore, .goto 139, .aload 0, .getfield 5002, .iload 5, .aload 0, .getfield 5012, .iload 4, .iload 6, .iadd, .iaload, .iastore, .goto 139, .aload 0, .getfield 5012, .iload 4, .iload 5, .iadd, .dup2, .iaload, .aload 0, .getfield 5012, .iload 4, .iload 6, .iadd, .iaload, .iadd, .iastore, .goto 139, .aload 0, .getfield 5012, .iload 4, .iload 5, .iadd, .dup2, .iaload, .aload 0, .getfield 5012, .iload 4, .iload 6, .iadd, .iaload, .isub, .iastore, .goto 139, .aload 0, .getfield 5012, .iload 4, .iload 5, .iadd, .dup2, .iaload, .aload 0, .getfield 5012, .iload 4, .iload 6, .iadd, .iaload, .imul, .iastore, .goto 139, .aload 0, .getfield 5012, .iload 4, .iload 5, .iadd, .iload 3, .iastore, .aload 0, .getfield 5052, .iload 6, .dup2, .iaload, .ldc_w 1, .iadd, .iastore, .goto 139, .aload 0, .getfield 5042, .iload 5, .aload 0, .getfield 5060, .iastore, .goto 139, .aload 0, .getfield 5042, .iload 5, .aload 0, .getfield 5042, .iload 5, .iaload, .aload 0, .getfield 5060, .if_icmp .ne 133, .iconst (-1), .goto 137, .aload 0, .getfield 5042, .iload 5, .iaload, .iastore, .goto 139, .return_]
/-- 39: RecordDesk$Program.point()I -/
def am_c39 : List Instr := [.ldc_w 1, .aload 0, .getfield 2042, .ldc_w 2, .iaload, .invokestatic 10001, .ireturn]
/-- 40: RecordDesk$Machine.digestOf(LRecordDesk$Program;)I -/
def am_c40 : List Instr := [.ldc_w 7, .istore 2, .aload 0, .getfield 5002, .astore 3, .aload 3, .arraylength, .istore 4, .ldc_w 0, .istore 5, .iload 5, .iload 4, .if_icmp .ge 25, .aload 3, .iload 5, .iaload, .istore 6, .iload 2, .ldc_w 31, .imul, .iload 6, .iadd, .istore 2, .iinc 5 1, .goto 10, .ldc_w 0, .istore 3, .iload 3, .aload 1, .getfield 2050, .if_icmp .ge 71, .ldc_w 0, .istore 4, .iload 4, .ldc_w 4, .if_icmp .ge 51, .iload 2, .ldc_w 31, .imul, .aload 0, .getfield 5012, .iload 3, .ldc_w 4, .imul, .iload 4, .iadd, .iaload, .iadd, .istore 2, .iinc 4 1, .goto 33, .iload 2, .ldc_w 31, .imul, .aload 0, .getfield 5022, .iload 3, .iaload, .iadd, .istore 2, .iload 2, .ldc_w 31, .imul, .aload 0, .getfield 5032, .iload 3, .iaload, .iadd, .istore 2, .iinc 3 1, .goto 27, .aload 0, .getfield 5042, .astore 3, .aload 3, .arraylength, .istore 4, .ldc_w 0, .istore 5, .iload 5, .iload 4, .if_icmp .ge 94, .aload 3, .iload 5, .iaload, .istore 6, .iload 2, .ldc_w 31, .imul, .iload 6, .iadd, .istore 2, .iinc 5 1, .goto 79, .iload 2, .ldc_w 31, .imul, .aload 0, .getfield 5060, .iadd, .ireturn]
/-- 41: RecordDesk.forgetViews()V -/
def am_c41 : List Instr := [.aload 0, .getfield 42, .aload 0, .getfield 12, .invokevirtual 17, .aload 0, .getfield 102, .ldc_w 0, .putfield 10085, .return_]
/-- 42: RecordDesk.give(II)I -/
def am_c42 : List Instr := [.iload 1, .invokestatic 43, .ifCond .eq 10, .aload 0, .getfield 22, .getfield 3022, .iload 1, .iaload, .ldc_w 30, .if_icmp .lt 19, .aload 0, .getfield 22, .dup, .getfield 3130, .ldc_w 1, .iadd, .putfield 3130, .iconst (-1), .ireturn, .aload 0, .getfield 22, .getfield 3082, .iload 1, .aload 0, .getfield 22, .getfield 3100, .aload 0, .getfield 22, .getfield 3002, .getfield 4020, .aload 0, .getfield 22, .getfield 3002, .getfield 4010, .invokevirtual 27, .aload 0, .getfield 22, .getfield 3012, .iload 1, .ldc_w 30, .imul, .aload 0, .getfield 22, .getfield 3022, .iload 1, .iaload, .iadd, .iload 2, .iastore, .aload 0, .getfield 22, .getfield 3022, .iload 1, .dup2, .iaload, .ldc_w 1, .iadd, .iastore, .aload 0, .getfield 22, .getfield 3022, .iload 1, .iaload, .ireturn]
/-- 43: RecordDesk.isSource(I)Z -/
def am_c43 : List Instr := [.iload 0, .ifCond .lt 7, .iload 0, .ldc_w 3, .if_icmp .ge 7, .ldc_w 1, .goto 8, .ldc_w 0, .ireturn]
/-- 44: RecordDesk.undo()I -/
def am_c44 : List Instr := [.aload 0, .getfield 22, .getfield 3082, .astore 1, .aload 1, .getfield 6040, .ifCond .ne 9, .iconst (-1), .ireturn, .aload 1, .dup, .getfield 6040, .ldc_w 1, .isub, .putfield 6040, .aload 1, .getfield 6002, .aload 1, .getfield 6040, .iaload, .istore 2, .iload 2, .invokestatic 43, .ifCond .eq 34, .aload 0, .getfield 22, .getfield 3022, .iload 2, .dup2, .iaload, .ldc_w 1, .isub, .iastore, .goto 59, .aload 0, .aload 1, .getfield 6012, .aload 1, .getfield 6040, .iaload, .invokevirtual 45, .aload 0, .getfield 22, .getfield 3002, .aload 1, .getfield 6022, .aload 1, .getfield 6040, .iaload, .putfield 4020, .aload 0, .getfield 22, .getfield 3002, .aload 1, .getfield 6032, .aload 1, .getfield 6040, .iaload, .putfield 4010, .aload 0, .getfield 22, .aload 0, .getfield 22, .getfield 3110, .aload 0, .getfield 22, .getfield 3100, .invokestatic 10002, .putfield 3110, .aload 0, .invokevirtual 41, .aload 1, .getfield 6040, .ireturn]
/-- 45: RecordDesk.takeStepsBack(I)V -/
def am_c45 : List Instr := [.aload 0, .getfield 42, .aload 0, .getfield 12, .invokevirtual 17, .aload 0, .getfield 42, .iload 1, .aload 0, .getfield 12, .aload 0, .getfield 22, .invokevirtual 46, .aload 0, .getfield 22, .getfield 3002, .getfield 4002, .aload 0, .getfield 42, .getfield 7002, .invokevirtual 50, .aload 0, .getfield 22, .aload 0, .getfield 42, .getfield 7020, .putfield 3090, .aload 0, .getfield 22, .iload 1, .putfield 3100, .return_]
/-- 46: RecordDesk$Replay.runTo(ILRecordDesk$Program;LRecordDesk$Course;)V -/
def am_c46 : List Instr := [.aload 0, .getfield 7010, .istore 4, .iload 4, .iload 1, .if_icmp .ge 14, .aload 0, .aload 2, .aload 3, .invokevirtual 47, .ifCond .ne 12, .return_, .iinc 4 1, .goto 3, .return_]
/-- 47: RecordDesk$Replay.advance(LRecordDesk$Program;LRecordDesk$Course;)Z -/
def am_c47 : List Instr := [.aload 0, .getfield 7035, .ifCond .eq 5, .ldc_w 0, .ireturn, .aload 0, .aload 2, .invokevirtual 48, .aload 0, .getfield 7002, .aload 1, .aload 0, .getfield 7002, .getfield 5060, .aload 2, .getfield 3002, .getfield 4002, .getfield 5052, .invokevirtual 23, .ifCond .ne 25, .aload 0, .ldc_w 1, .putfield 7035, .ldc_w 0, .ireturn, .aload 0, .getfield 7002, .aload 1, .invokevirtual 34, .istore 3, .aload 0, .getfield 7002, .aload 1, .iload 3, .iconst (-1), .if_icmp .ne 38, .ldc_w 0, .goto 42, .aload 0, .aload 2, .iload 3, .invokevirtual 49, .invokevirtual 36, .aload 0, .dup, .getfield 7010, .ldc_w 1, .iadd, .putfield 7010, .ldc_w 1, .ireturn]
/-- 48: RecordDesk$Replay.takeSwitch(LRecordDesk$Course;)V -/
def am_c48 : List Instr := [.aload 0, .getfield 7040, .ldc_w 1, .if_icmp .ne 14, .aload 0, .getfield 7020, .aload 0, .getfield 7050, .if_icmp .lt 14, .aload 0, .getfield 7020, .ldc_w 1, .iadd, .goto 16, .aload 0, .getfield 7020, .istore 2, .aload 0, .getfield 7002, .getfield 5060, .istore 3, .iload 2, .aload 1, .getfield 3090, .if_icmp .ge 50, .iload 3, .iconst (-1), .if_icmp .eq 48, .aload 0, .getfield 7002, .getfield 5032, .iload 3, .iaload, .aload 1, .getfield 3032, .iload 2, .iaload, .if_icmp .ne 50, .aload 0, .getfield 7002, .getfield 5022, .iload 3, .iaload, .aload 1, .getfield 3042, .iload 2, .iaload, .if_icmp .ne 50, .ldc_w 1, .goto 51, .ldc_w 0, .istore 4, .iload 4, .ifCond .eq 77, .aload 0, .getfield 7002, .aload 0, .getfield 7040, .ifCond .ne 66, .iload 2, .aload 0, .getfield 7050, .if_icmp .ne 66, .aload 0, .getfield 7060, .goto 70, .aload 1, .getfield 3052, .iload 2, .iaload, .putfield 5060, .aload 0, .dup, .getfield 7020, .ldc_w 1, .iadd, .putfield 7020, .return_]
/-- 49: RecordDesk$Replay.inputFrom(LRecordDesk$Course;I)I -/
def am_c49 : List Instr := [.aload 0, .getfield 7002, .getfield 5052, .iload 2, .iaload, .istore 3, .aload 0, .getfield 7040, .ldc_w 2, .iload 2, .iadd, .if_icmp .ne 19, .iload 3, .aload 0, .getfield 7050, .if_icmp .ne 19, .aload 0, .getfield 7060, .goto 23, .aload 1, .iload 2, .iload 3, .invokevirtual 35, .ireturn]
/-- 50: RecordDesk$Machine.copy(LRecordDesk$Machine;)V -/
def am_c50 : List Instr := [.aload 1, .getfield 5002, .ldc_w 0, .aload 0, .getfield 5002, .ldc_w 0, .aload 0, .getfield 5002, .arraylength, .invokestatic 10003, .aload 1, .getfield 5012, .ldc_w 0, .aload 0, .getfield 5012, .ldc_w 0, .aload 0, .getfield 5012, .arraylength, .invokestatic 10003, .aload 1, .getfield 5022, .ldc_w 0, .aload 0, .getfield 5022, .ldc_w 0, .aload 0, .getfield 5022, .arraylength, .invokestatic 10003, .aload 1, .getfield 5032, .ldc_w 0, .aload 0, .getfield 5032, .ldc_w 0, .aload 0, .getfield 5032, .arraylength, .invokestatic 10003, .aload 1, .getfield 5042, .ldc_w 0, .aload 0, .getfield 5042, .ldc_w 0, .aload 0, .getfield 5042, .arraylength, .invokestatic 10003, .aload 1, .getfield 5052, .ldc_w 0, .aload 0, .getfield 5052, .ldc_w 0, .aload 0, .getfield 5052, .arraylength, .invokestatic 10003, .aload 0, .aload 1, .getfield 5060, .putfield 5060, .return_]
/-- 51: RecordDesk.mark()I -/
def am_c51 : List Instr := [.aload 0, .aload 0, .getfield 22, .getfield 3110, .invokevirtual 52, .aload 0, .getfield 12, .invokevirtual 40, .ireturn]
/-- 52: RecordDesk.machineAt(I)LRecordDesk$Machine; -/
def am_c52 : List Instr := [.aload 0, .getfield 42, .getfield 7010, .iload 1, .if_icmp .le 10, .aload 0, .getfield 42, .aload 0, .getfield 12, .invokevirtual 17, .aload 0, .getfield 42, .iload 1, .aload 0, .getfield 12, .aload 0, .getfield 22, .invokevirtual 46, .aload 0, .getfield 42, .getfield 7002, .areturn]
/-- 53: RecordDesk.image()V -/
def am_c53 : List Instr := [.aload 0, .getfield 32, .aload 0, .getfield 22, .invokevirtual 54, .aload 0, .ldc_w 1, .putfield 135, .return_]
/-- 54: RecordDesk$Course.copy(LRecordDesk$Course;)V -/
def am_c54 : List Instr := [.aload 0, .getfield 3002, .aload 1, .getfield 3002, .invokevirtual 55, .aload 1, .getfield 3012, .ldc_w 0, .aload 0, .getfield 3012, .ldc_w 0, .aload 0, .getfield 3012, .arraylength, .invokestatic 10003, .aload 1, .getfield 3022, .ldc_w 0, .aload 0, .getfield 3022, .ldc_w 0, .aload 0, .getfield 3022, .arraylength, .invokestatic 10003, .aload 1, .getfield 3032, .ldc_w 0, .aload 0, .getfield 3032, .ldc_w 0, .ldc_w 400, .invokestatic 10003, .aload 1, .getfield 3042, .ldc_w 0, .aload 0, .getfield 3042, .ldc_w 0, .ldc_w 400, .invokestatic 10003, .aload 1, .getfield 3052, .ldc_w 0, .aload 0, .getfield 3052, .ldc_w 0, .ldc_w 400, .invokestatic 10003, .aload 1, .getfield 3062, .ldc_w 0, .aload 0, .getfield 3062, .ldc_w 0, .ldc_w 400, .invokestatic 10003, .aload 1, .getfield 3072, .ldc_w 0, .aload 0, .getfield 3072, .ldc_w 0, .aload 0, .getfield 3072, .arraylength, .invokestatic 10003, .aload 0, .getfield 3082, .aload 1, .getfield 3082, .invokevirtual 56, .aload 0, .aload 1, .getfield 3090, .putfield 3090, .aload 0, .aload 1, .getfield 3100, .putfield 3100, .aload 0, .aload 1, .getfield 3110, .putfield 3110, .aload 0, .aload 1, .getfield 3120, .putfield 3120, .aload 0, .aload 1, .getfield 3130, .putfield 3130, .return_]
/-- 55: RecordDesk$Runner.copy(LRecordDesk$Runner;)V -/
def am_c55 : List Instr := [.aload 0, .getfield 4002, .aload 1, .getfield 4002, .invokevirtual 50, .aload 0, .aload 1, .getfield 4010, .putfield 4010, .aload 0, .aload 1, .getfield 4020, .putfield 4020, .return_]
/-- 56: RecordDesk$Acts.copy(LRecordDesk$Acts;)V -/
def am_c56 : List Instr := [.aload 1, .getfield 6002, .ldc_w 0, .aload 0, .getfield 6002, .ldc_w 0, .ldc_w 40, .invokestatic 10003, .aload 1, .getfield 6012, .ldc_w 0, .aload 0, .getfield 6012, .ldc_w 0, .ldc_w 40, .invokestatic 10003, .aload 1, .getfield 6022, .ldc_w 0, .aload 0, .getfield 6022, .ldc_w 0, .ldc_w 40, .invokestatic 10003, .aload 1, .getfield 6032, .ldc_w 0, .aload 0, .getfield 6032, .ldc_w 0, .ldc_w 40, .invokestatic 10003, .aload 0, .aload 1, .getfield 6040, .putfield 6040, .return_]
/-- 57: RecordDesk.restore()Z -/
def am_c57 : List Instr := [.aload 0, .getfield 135, .ifCond .ne 5, .ldc_w 0, .ireturn, .aload 0, .getfield 22, .aload 0, .getfield 32, .invokevirtual 54, .aload 0, .invokevirtual 41, .ldc_w 1, .ireturn]
/-- 58: RecordDeskLaw.program(LRecordDesk;I[J)I -/
def am_c58 : List Instr := [.aload 2, .ldc_w 0, .aload 0, .iload 1, .invokevirtual 59, .i2l, .lastore, .goto 11, .astore 3, .ldc_w 1, .ireturn, .ldc_w 0, .ireturn]
/-- 59: RecordDesk.program(I)I -/
def am_c59 : List Instr := [.iload 1, .ifCond .lt 7, .iload 1, .aload 0, .getfield 2, .getfield 1010, .if_icmp .le 12, .new 1001, .nop, .nop, .nop, .nop, .aload 0, .getfield 2, .iload 1, .invokevirtual 60, .istore 2, .aload 0, .getfield 2, .ldc_w 0, .putfield 1010, .iload 2, .ifCond .eq 37, .aload 0, .aload 0, .getfield 2, .getfield 1030, .putfield 120, .aload 0, .getfield 22, .dup, .getfield 3120, .ldc_w 1, .iadd, .putfield 3120, .iload 2, .ireturn, .aload 0, .iconst (-1), .putfield 120, .aload 0, .getfield 12, .aload 0, .getfield 2, .getfield 1022, .invokevirtual 96, .aload 0, .getfield 22, .aload 0, .getfield 12, .invokevirtual 14, .aload 0, .ldc_w 0, .putfield 135, .aload 0, .invokevirtual 41, .ldc_w 0, .ireturn]
/-- 60: RecordDesk$Reader.readText(I)I -/
def am_c60 : List Instr := [.aload 0, .invokevirtual 61, .ldc_w 0, .istore 2, .iload 2, .iload 1, .if_icmp .gt 27, .aload 0, .iload 1, .invokevirtual 63, .aload 0, .getfield 1060, .ifCond .ne 14, .goto 27, .aload 0, .invokevirtual 77, .istore 3, .iload 3, .ifCond .eq 25, .aload 0, .aload 0, .getfield 1040, .putfield 1030, .iload 3, .ireturn, .iinc 2 1, .goto 4, .aload 0, .getfield 1100, .ifCond .eq 35, .aload 0, .iload 1, .putfield 1030, .ldc_w 1, .ireturn, .aload 0, .invokevirtual 95, .ireturn]
/-- 61: RecordDesk$Reader.clear()V -/
def am_c61 : List Instr := [.aload 0, .getfield 1022, .invokevirtual 12, .aload 0, .getfield 1172, .lconst 0, .invokestatic 62, .aload 0, .getfield 1182, .lconst 0, .invokestatic 62, .aload 0, .iconst (-1), .putfield 1030, .aload 0, .ldc_w 0, .putfield 1050, .aload 0, .ldc_w 0, .putfield 1160, .aload 0, .ldc_w 0, .putfield 1100, .return_]
/-- 62: java/util/Arrays.fill([JJ)V -/
def am_c62 : List Instr := [.ldc_w 0, .istore 3, .aload 0, .arraylength, .istore 4, .iload 3, .iload 4, .if_icmp .ge 14, .aload 0, .iload 3, .lload 1, .lastore, .iinc 3 1, .goto 5, .return_]
/-- 63: RecordDesk$Reader.findToken(I)V -/
def am_c63 : List Instr := [.aload 0, .aload 0, .getfield 1050, .putfield 1040, .aload 0, .getfield 1040, .iload 1, .if_icmp .ge 29, .aload 0, .getfield 1002, .aload 0, .getfield 1040, .baload, .ldc_w 32, .if_icmp .eq 22, .aload 0, .getfield 1002, .aload 0, .getfield 1040, .baload, .ldc_w 10, .if_icmp .ne 29, .aload 0, .dup, .getfield 1040, .ldc_w 1, .iadd, .putfield 1040, .goto 4, .aload 0, .aload 0, .getfield 1040, .ldc_w 1, .iadd, .putfield 1050, .aload 0, .getfield 1040, .iload 1, .if_icmp .lt 47, .aload 0, .ldc_w 0, .putfield 1060, .aload 0, .aload 0, .getfield 1040, .putfield 1050, .return_, .aload 0, .getfield 1002, .aload 0, .getfield 1040, .baload, .istore 2, .iload 2, .invokestatic 64, .ifCond .eq 60, .aload 0, .iload 1, .invokevirtual 65, .goto 84, .iload 2, .invokestatic 75, .ifCond .eq 67, .aload 0, .iload 1, .invokevirtual 76, .goto 84, .aload 0, .iload 2, .ldc_w 59, .if_icmp .eq 80, .iload 2, .ldc_w 44, .if_icmp .eq 80, .iload 2, .ldc_w 58, .if_icmp .eq 80, .iload 2, .ldc_w 45, .if_icmp .ne 82, .iload 2, .goto 83, .ldc_w 1, .putfield 1060, .return_]
/-- 64: RecordDesk$Reader.isLetter(I)Z -/
def am_c64 : List Instr := [.iload 0, .ldc_w 97, .if_icmp .lt 8, .iload 0, .ldc_w 122, .if_icmp .gt 8, .ldc_w 1, .goto 9, .ldc_w 0, .ireturn]
/-- 65: RecordDesk$Reader.findWord(I)V -/
def am_c65 : List Instr := [.aload 0, .ldc_w 2, .putfield 1060, .aload 0, .lconst 0, .putfield 1091, .aload 0, .aload 0, .getfield 1040, .putfield 1050, .aload 0, .getfield 1050, .iload 1, .if_icmp .ge 45, .aload 0, .getfield 1002, .aload 0, .getfield 1050, .baload, .invokestatic 64, .ifCond .eq 45, .aload 0, .aload 0, .getfield 1091, .ldc_w 5, .lshl, .aload 0, .getfield 1002, .aload 0, .getfield 1050, .baload, .ldc_w 97, .isub, .ldc_w 1, .iadd, .i2l, .lor, .putfield 1091, .aload 0, .dup, .getfield 1050, .ldc_w 1, .iadd, .putfield 1050, .goto 10, .aload 0, .aload 0, .invokevirtual 66, .putfield 1080, .return_]
/-- 66: RecordDesk$Reader.wordNumber()I -/
def am_c66 : List Instr := [.ldc_w 0, .istore 1, .ldc_w 0, .istore 2, .ldc_w 0, .istore 3, .iload 3, .ldc 2, .invokevirtual 67, .if_icmp .ge 37, .ldc 2, .iload 3, .invokevirtual 69, .ldc_w 32, .if_icmp .ne 35, .iload 3, .iload 2, .isub, .aload 0, .getfield 1050, .aload 0, .getfield 1040, .isub, .if_icmp .ne 30, .aload 0, .iload 2, .invokevirtual 74, .ifCond .eq 30, .iload 1, .ireturn, .iinc 1 1, .iload 3, .ldc_w 1, .iadd, .istore 2, .iinc 3 1, .goto 6, .iconst (-1), .ireturn]
/-- 67: java/lang/String.length()I -/
def am_c67 : List Instr := [.aload 0, .getfield 990000, .arraylength, .aload 0, .invokevirtual 68, .ishr, .ireturn]
/-- 68: java/lang/String.coder()B -/
def am_c68 : List Instr := [.getstatic 0, .ifCond .eq 5, .aload 0, .getfield 990001, .goto 6, .ldc_w 1, .ireturn]
/-- 69: java/lang/String.charAt(I)C -/
def am_c69 : List Instr := [.aload 0, .invokevirtual 70, .ifCond .eq 8, .aload 0, .getfield 990000, .iload 1, .invokestatic 71, .ireturn, .aload 0, .getfield 990000, .iload 1, .nop, .ireturn]
/-- 70: java/lang/String.isLatin1()Z -/
def am_c70 : List Instr := [.getstatic 0, .ifCond .eq 7, .aload 0, .getfield 990001, .ifCond .ne 7, .ldc_w 1, .goto 8, .ldc_w 0, .ireturn]
/-- 71: java/lang/StringLatin1.charAt([BI)C -/
def am_c71 : List Instr := [.iload 1, .aload 0, .arraylength, .invokestatic 72, .aload 0, .iload 1, .baload, .ldc_w 255, .iand, .i2c, .ireturn]
/-- 72: java/lang/String.checkIndex(II)V -/
def am_c72 : List Instr := [.iload 0, .iload 1, .getstatic 1, .invokestatic 73, .pop, .return_]
/-- 73: jdk/internal/util/Preconditions.checkIndex(IILjava/util/function/BiFunction;)I -/
def am_c73 : List Instr := [.iload 0, .ifCond .lt 5, .iload 0, .iload 1, .if_icmp .lt 10, .aload 2, .iload 0, .iload 1, .nop, .athrow, .iload 0, .ireturn]
/-- 74: RecordDesk$Reader.isSpelled(I)Z -/
def am_c74 : List Instr := [.aload 0, .getfield 1040, .istore 2, .iload 2, .aload 0, .getfield 1050, .if_icmp .ge 24, .aload 0, .getfield 1002, .iload 2, .baload, .ldc 2, .iload 1, .iload 2, .iadd, .aload 0, .getfield 1040, .isub, .invokevirtual 69, .if_icmp .eq 22, .ldc_w 0, .ireturn, .iinc 2 1, .goto 3, .ldc_w 1, .ireturn]
/-- 75: RecordDesk$Reader.isDigit(I)Z -/
def am_c75 : List Instr := [.iload 0, .ldc_w 48, .if_icmp .lt 8, .iload 0, .ldc_w 57, .if_icmp .gt 8, .ldc_w 1, .goto 9, .ldc_w 0, .ireturn]
/-- 76: RecordDesk$Reader.findNumber(I)V -/
def am_c76 : List Instr := [.aload 0, .ldc_w 3, .putfield 1060, .aload 0, .ldc_w 0, .putfield 1070, .aload 0, .aload 0, .getfield 1040, .putfield 1050, .aload 0, .getfield 1050, .iload 1, .if_icmp .ge 51, .aload 0, .getfield 1002, .aload 0, .getfield 1050, .baload, .invokestatic 75, .ifCond .eq 51, .aload 0, .aload 0, .getfield 1050, .aload 0, .getfield 1040, .isub, .ldc_w 4, .if_icmp .ge 42, .aload 0, .getfield 1070, .ldc_w 10, .imul, .aload 0, .getfield 1002, .aload 0, .getfield 1050, .baload, .iadd, .ldc_w 48, .isub, .goto 43, .iconst (-1), .putfield 1070, .aload 0, .dup, .getfield 1050, .ldc_w 1, .iadd, .putfield 1050, .goto 10, .return_]
/-- 77: RecordDesk$Reader.take()I -/
def am_c77 : List Instr := [.aload 0, .getfield 1100, .tableswitch 18 0 4 #[3, 6, 9, 12, 15], .aload 0, .invokevirtual 78, .ireturn, .aload 0, .invokevirtual 82, .ireturn, .aload 0, .invokevirtual 89, .ireturn, .aload 0, .invokevirtual 93, .ireturn, .aload 0, .invokevirtual 90, .ireturn, .aload 0, .invokevirtual 94, .ireturn]
/-- 78: RecordDesk$Reader.takeClause()I -/
def am_c78 : List Instr := [.aload 0, .getfield 1060, .ldc_w 2, .if_icmp .ne 11, .aload 0, .getfield 1080, .ifCond .lt 11, .aload 0, .getfield 1080, .ldc_w 5, .if_icmp .le 13, .ldc_w 1, .ireturn, .aload 0, .getfield 1080, .ldc_w 5, .if_icmp .ne 20, .aload 0, .invokevirtual 79, .ireturn, .aload 0, .getfield 1080, .ldc_w 4, .if_icmp .ne 29, .aload 0, .ldc 3, .invokevirtual 80, .ldc_w 0, .ireturn, .aload 0, .getfield 1160, .ldc_w 1, .aload 0, .getfield 1080, .ishl, .iand, .ifCond .eq 39, .ldc_w 5, .ireturn, .aload 0, .dup, .getfield 1160, .ldc_w 1, .aload 0, .getfield 1080, .ishl, .ior, .putfield 1160, .aload 0, .aload 0, .getfield 1080, .putfield 1150, .aload 0, .ldc 4, .invokevirtual 80, .ldc_w 0, .ireturn]
/-- 79: RecordDesk$Reader.takeThread()I -/
def am_c79 : List Instr := [.aload 0, .getfield 1022, .getfield 2050, .ldc_w 4, .if_icmp .lt 7, .ldc_w 2, .ireturn, .aload 0, .getfield 1022, .dup, .getfield 2050, .ldc_w 1, .iadd, .putfield 2050, .aload 0, .ldc_w 2, .putfield 1100, .ldc_w 0, .ireturn]
/-- 80: RecordDesk$Reader.expect(Ljava/lang/String;)V -/
def am_c80 : List Instr := [.aload 0, .aload 1, .putfield 1113, .aload 0, .ldc_w 0, .putfield 1120, .aload 0, .ldc_w 0, .putfield 1135, .aload 0, .aload 1, .invokevirtual 81, .ifCond .eq 15, .ldc_w 5, .goto 16, .ldc_w 1, .putfield 1100, .return_]
/-- 81: java/lang/String.isEmpty()Z -/
def am_c81 : List Instr := [.aload 0, .getfield 990000, .arraylength, .ifCond .ne 6, .ldc_w 1, .goto 7, .ldc_w 0, .ireturn]
/-- 82: RecordDesk$Reader.takeOperand()I -/
def am_c82 : List Instr := [.aload 0, .getfield 1120, .aload 0, .getfield 1113, .invokevirtual 67, .if_icmp .ge 12, .aload 0, .getfield 1113, .aload 0, .getfield 1120, .invokevirtual 69, .goto 13, .ldc_w 59, .istore 1, .iload 1, .ldc_w 59, .if_icmp .ne 28, .aload 0, .ldc_w 0, .putfield 1100, .aload 0, .getfield 1060, .ldc_w 59, .if_icmp .ne 26, .ldc_w 0, .goto 27, .ldc_w 1, .ireturn, .iload 1, .ldc_w 78, .if_icmp .ne 34, .aload 0, .invokevirtual 83, .ireturn, .aload 0, .getfield 1060, .ldc_w 45, .if_icmp .ne 52, .aload 0, .getfield 1135, .ifCond .ne 52, .iload 1, .ldc_w 118, .if_icmp .eq 47, .iload 1, .ldc_w 119, .if_icmp .ne 52, .aload 0, .ldc_w 1, .putfield 1135, .ldc_w 0, .ireturn, .aload 0, .getfield 1060, .ldc_w 3, .if_icmp .eq 58, .ldc_w 1, .ireturn, .aload 0, .getfield 1070, .iconst (-1), .if_icmp .eq 66, .aload 0, .iload 1, .invokevirtual 86, .ifCond .ne 68, .ldc_w 2, .ireturn, .aload 0, .iload 1, .invokevirtual 88, .ireturn]
/-- 83: RecordDesk$Reader.takeName()I -/
def am_c83 : List Instr := [.aload 0, .getfield 1060, .ldc_w 2, .if_icmp .ne 8, .aload 0, .getfield 1080, .iconst (-1), .if_icmp .eq 10, .ldc_w 1, .ireturn, .aload 0, .invokevirtual 84, .ifCond .eq 15, .ldc_w 2, .ireturn, .aload 0, .getfield 1182, .aload 0, .getfield 1140, .aload 0, .getfield 1091, .lastore, .aload 0, .getfield 1192, .aload 0, .getfield 1140, .aload 0, .getfield 1040, .iastore, .aload 0, .invokevirtual 85, .ldc_w 0, .ireturn]
/-- 84: RecordDesk$Reader.isTooLong()Z -/
def am_c84 : List Instr := [.aload 0, .getfield 1050, .aload 0, .getfield 1040, .isub, .ldc_w 8, .if_icmp .le 9, .ldc_w 1, .goto 10, .ldc_w 0, .ireturn]
/-- 85: RecordDesk$Reader.goOn()V -/
def am_c85 : List Instr := [.aload 0, .dup, .getfield 1120, .ldc_w 1, .iadd, .putfield 1120, .aload 0, .getfield 1120, .aload 0, .getfield 1113, .invokevirtual 67, .if_icmp .lt 15, .aload 0, .ldc_w 5, .putfield 1100, .return_]
/-- 86: RecordDesk$Reader.fits(C)Z -/
def am_c86 : List Instr := [.iload 1, .lookupswitch 37 #[(67, 10), (99, 10), (108, 26), (110, 34), (114, 2), (115, 18)], .aload 0, .getfield 1070, .ldc_w 4, .if_icmp .ge 8, .ldc_w 1, .goto 9, .ldc_w 0, .ireturn, .aload 0, .getfield 1070, .ldc_w 16, .if_icmp .ge 16, .ldc_w 1, .goto 17, .ldc_w 0, .ireturn, .aload 0, .getfield 1070, .ldc_w 3, .if_icmp .ge 24, .ldc_w 1, .goto 25, .ldc_w 0, .ireturn, .aload 0, .getfield 1070, .ldc_w 4, .if_icmp .ge 32, .ldc_w 1, .goto 33, .ldc_w 0, .ireturn, .aload 0, .invokevirtual 87, .ireturn, .ldc_w 1, .ireturn]
/-- 87: RecordDesk$Reader.fitsSetting()Z -/
def am_c87 : List Instr := [.aload 0, .getfield 1150, .tableswitch 39 0 3 #[3, 39, 15, 27], .aload 0, .getfield 1070, .ldc_w 1, .if_icmp .lt 13, .aload 0, .getfield 1070, .ldc_w 9, .if_icmp .gt 13, .ldc_w 1, .goto 14, .ldc_w 0, .ireturn, .aload 0, .getfield 1070, .ldc_w 1, .if_icmp .lt 25, .aload 0, .getfield 1070, .ldc_w 50, .if_icmp .gt 25, .ldc_w 1, .goto 26, .ldc_w 0, .ireturn, .aload 0, .getfield 1070, .ldc_w 2, .if_icmp .lt 37, .aload 0, .getfield 1070, .ldc_w 8, .if_icmp .gt 37, .ldc_w 1, .goto 38, .ldc_w 0, .ireturn, .ldc_w 1, .ireturn]
/-- 88: RecordDesk$Reader.takeNumber(C)I -/
def am_c88 : List Instr := [.aload 0, .getfield 1135, .ifCond .eq 7, .aload 0, .getfield 1070, .ineg, .goto 9, .aload 0, .getfield 1070, .istore 2, .iload 1, .ldc_w 67, .if_icmp .ne 41, .aload 0, .getfield 1160, .ldc_w 1, .ldc_w 8, .aload 0, .getfield 1070, .iadd, .ishl, .iand, .ifCond .eq 25, .ldc_w 5, .ireturn, .aload 0, .dup, .getfield 1160, .ldc_w 1, .ldc_w 8, .aload 0, .getfield 1070, .iadd, .ishl, .ior, .putfield 1160, .aload 0, .aload 0, .getfield 1070, .putfield 1150, .goto 75, .iload 1, .ldc_w 119, .if_icmp .ne 52, .aload 0, .getfield 1022, .getfield 2032, .aload 0, .getfield 1150, .iload 2, .iastore, .goto 75, .iload 1, .ldc_w 110, .if_icmp .ne 63, .aload 0, .getfield 1022, .getfield 2042, .aload 0, .getfield 1150, .iload 2, .iastore, .goto 75, .aload 0, .getfield 1022, .getfield 2012, .aload 0, .getfield 1140, .ldc_w 3, .imul, .aload 0, .getfield 1120, .iadd, .iload 2, .iastore, .aload 0, .invokevirtual 85, .ldc_w 0, .ireturn]
/-- 89: RecordDesk$Reader.takeLine()I -/
def am_c89 : List Instr := [.aload 0, .getfield 1080, .ldc_w 6, .if_icmp .lt 6, .ldc_w 1, .goto 7, .ldc_w 0, .istore 1, .aload 0, .getfield 1060, .ldc_w 2, .if_icmp .ne 18, .aload 0, .getfield 1080, .iconst (-1), .if_icmp .eq 20, .iload 1, .ifCond .ne 20, .ldc_w 1, .ireturn, .aload 0, .getfield 1022, .getfield 2050, .ldc_w 1, .isub, .istore 2, .aload 0, .invokevirtual 84, .ifCond .ne 38, .iload 2, .ifCond .lt 38, .aload 0, .getfield 1022, .getfield 2022, .iload 2, .iaload, .ldc_w 16, .if_icmp .lt 40, .ldc_w 2, .ireturn, .aload 0, .iload 2, .ldc_w 16, .imul, .aload 0, .getfield 1022, .getfield 2022, .iload 2, .iaload, .iadd, .putfield 1140, .aload 0, .getfield 1022, .getfield 2022, .iload 2, .dup2, .iaload, .ldc_w 1, .iadd, .iastore, .iload 1, .ifCond .eq 65, .aload 0, .invokevirtual 90, .ireturn, .aload 0, .iload 2, .aload 0, .getfield 1091, .invokevirtual 92, .iconst (-1), .if_icmp .eq 74, .ldc_w 4, .ireturn, .aload 0, .getfield 1172, .aload 0, .getfield 1140, .aload 0, .getfield 1091, .lastore, .aload 0, .ldc_w 3, .putfield 1100, .ldc_w 0, .ireturn]
/-- 90: RecordDesk$Reader.takeInstruction()I -/
def am_c90 : List Instr := [.aload 0, .getfield 1060, .ldc_w 2, .if_icmp .ne 8, .aload 0, .getfield 1080, .ldc_w 6, .if_icmp .ge 10, .ldc_w 1, .ireturn, .aload 0, .getfield 1022, .getfield 2002, .aload 0, .getfield 1140, .aload 0, .getfield 1080, .iastore, .aload 0, .aload 0, .getfield 1080, .invokestatic 91, .invokevirtual 80, .ldc_w 0, .ireturn]
/-- 91: RecordDesk$Reader.shapeOf(I)Ljava/lang/String; -/
def am_c91 : List Instr := [.iload 0, .tableswitch 20 6 17 #[2, 4, 6, 8, 8, 8, 10, 12, 12, 14, 16, 18], .ldc 5, .areturn, .ldc 6, .areturn, .ldc 7, .areturn, .ldc 8, .areturn, .ldc 9, .areturn, .ldc 10, .areturn, .ldc 11, .areturn, .ldc 12, .areturn, .ldc 13, .areturn, .ldc 0, .areturn]
/-- 92: RecordDesk$Reader.placeOfName(IJ)I -/
def am_c92 : List Instr := [.ldc_w 0, .istore 4, .iload 4, .aload 0, .getfield 1022, .getfield 2022, .iload 1, .iaload, .if_icmp .ge 24, .aload 0, .getfield 1172, .iload 1, .ldc_w 16, .imul, .iload 4, .iadd, .laload, .lload 2, .lcmp, .ifCond .ne 22, .iload 4, .ireturn, .iinc 4 1, .goto 2, .iconst (-1), .ireturn]
/-- 93: RecordDesk$Reader.takeColon()I -/
def am_c93 : List Instr := [.aload 0, .getfield 1060, .ldc_w 58, .if_icmp .eq 6, .ldc_w 1, .ireturn, .aload 0, .ldc_w 4, .putfield 1100, .ldc_w 0, .ireturn]
/-- 94: RecordDesk$Reader.takeLineEnd()I -/
def am_c94 : List Instr := [.aload 0, .getfield 1060, .ldc_w 44, .if_icmp .eq 10, .aload 0, .getfield 1060, .ldc_w 59, .if_icmp .eq 10, .ldc_w 1, .ireturn, .aload 0, .aload 0, .getfield 1060, .ldc_w 44, .if_icmp .ne 17, .ldc_w 2, .goto 18, .ldc_w 0, .putfield 1100, .ldc_w 0, .ireturn]
/-- 95: RecordDesk$Reader.resolveNames()I -/
def am_c95 : List Instr := [.ldc_w 0, .istore 1, .iload 1, .ldc_w 64, .if_icmp .ge 55, .aload 0, .getfield 1182, .iload 1, .laload, .lconst 0, .lcmp, .ifCond .eq 53, .aload 0, .iload 1, .ldc_w 16, .idiv, .aload 0, .getfield 1182, .iload 1, .laload, .invokevirtual 92, .istore 2, .iload 2, .iconst (-1), .if_icmp .ne 33, .aload 0, .aload 0, .getfield 1192, .iload 1, .iaload, .putfield 1030, .ldc_w 3, .ireturn, .aload 0, .getfield 1022, .getfield 2002, .iload 1, .iaload, .invokestatic 91, .invokevirtual 67, .ldc_w 1, .isub, .istore 3, .aload 0, .getfield 1022, .getfield 2012, .iload 1, .ldc_w 3, .imul, .iload 3, .iadd, .iload 2, .iastore, .iinc 1 1, .goto 2, .ldc_w 0, .ireturn]
/-- 96: RecordDesk$Program.copy(LRecordDesk$Program;)V -/
def am_c96 : List Instr := [.aload 1, .getfield 2002, .ldc_w 0, .aload 0, .getfield 2002, .ldc_w 0, .aload 0, .getfield 2002, .arraylength, .invokestatic 10003, .aload 1, .getfield 2012, .ldc_w 0, .aload 0, .getfield 2012, .ldc_w 0, .aload 0, .getfield 2012, .arraylength, .invokestatic 10003, .aload 1, .getfield 2022, .ldc_w 0, .aload 0, .getfield 2022, .ldc_w 0, .aload 0, .getfield 2022, .arraylength, .invokestatic 10003, .aload 1, .getfield 2032, .ldc_w 0, .aload 0, .getfield 2032, .ldc_w 0, .aload 0, .getfield 2032, .arraylength, .invokestatic 10003, .aload 1, .getfield 2042, .ldc_w 0, .aload 0, .getfield 2042, .ldc_w 0, .aload 0, .getfield 2042, .arraylength, .invokestatic 10003, .aload 0, .aload 1, .getfield 2050, .putfield 2050, .return_]
/-- 97: RecordDeskLaw.count(LRecordDesk;I[J)I -/
def am_c97 : List Instr := [.aload 2, .ldc_w 0, .aload 0, .iload 1, .invokevirtual 98, .i2l, .lastore, .goto 11, .astore 3, .ldc_w 1, .ireturn, .ldc_w 0, .ireturn]
/-- 98: RecordDesk.count(I)I -/
def am_c98 : List Instr := [.aload 0, .getfield 22, .getfield 3002, .getfield 4002, .astore 2, .iload 1, .tableswitch 98 0 17 #[7, 11, 15, 18, 23, 27, 31, 39, 47, 52, 56, 63, 67, 72, 81, 86, 90, 94], .aload 0, .getfield 12, .getfield 2050, .ireturn, .aload 0, .getfield 22, .getfield 3100, .ireturn, .aload 2, .getfield 5060, .ireturn, .aload 0, .getfield 22, .getfield 3002, .getfield 4020, .ireturn, .aload 0, .getfield 22, .getfield 3090, .ireturn, .aload 2, .getfield 5052, .invokestatic 99, .ireturn, .aload 0, .getfield 22, .getfield 3100, .aload 0, .getfield 12, .invokevirtual 39, .idiv, .ireturn, .aload 2, .aload 0, .getfield 12, .aload 0, .getfield 22, .getfield 3022, .invokevirtual 22, .ireturn, .aload 2, .aload 0, .getfield 12, .invokevirtual 100, .ireturn, .aload 0, .invokevirtual 101, .getfield 8010, .ireturn, .aload 0, .invokevirtual 101, .aload 0, .getfield 22, .getfield 3100, .invokevirtual 105, .ireturn, .aload 0, .getfield 22, .getfield 3110, .ireturn, .aload 2, .aload 0, .getfield 12, .invokevirtual 107, .ireturn, .aload 0, .getfield 22, .getfield 3022, .invokestatic 99, .aload 2, .getfield 5052, .invokestatic 99, .isub, .ireturn, .aload 0, .getfield 22, .getfield 3082, .getfield 6040, .ireturn, .aload 0, .getfield 2, .getfield 1010, .ireturn, .aload 0, .getfield 22, .getfield 3120, .ireturn, .aload 0, .getfield 22, .getfield 3130, .ireturn, .new 1000, .nop, .nop, .nop, .nop]
/-- 99: RecordDesk.sum([I)I -/
def am_c99 : List Instr := [.ldc_w 0, .istore 1, .aload 0, .astore 2, .aload 2, .arraylength, .istore 3, .ldc_w 0, .istore 4, .iload 4, .iload 3, .if_icmp .ge 22, .aload 2, .iload 4, .iaload, .istore 5, .iload 1, .iload 5, .iadd, .istore 1, .iinc 4 1, .goto 9, .iload 1, .ireturn]
/-- 100: RecordDesk$Machine.countEnded(LRecordDesk$Program;)I -/
def am_c100 : List Instr := [.ldc_w 0, .istore 2, .ldc_w 0, .istore 3, .iload 3, .aload 1, .getfield 2050, .if_icmp .ge 16, .aload 0, .aload 1, .iload 3, .invokevirtual 25, .ifCond .eq 14, .iinc 2 1, .iinc 3 1, .goto 4, .iload 2, .ireturn]
/-- 101: RecordDesk.snapshotsNow()LRecordDesk$Snapshots; -/
def am_c101 : List Instr := [.aload 0, .getfield 82, .aload 0, .getfield 22, .getfield 3100, .aload 0, .getfield 12, .getfield 2042, .ldc_w 3, .iaload, .invokevirtual 102, .aload 0, .getfield 82, .areturn]
/-- 102: RecordDesk$Snapshots.make(II)V -/
def am_c102 : List Instr := [.aload 0, .ldc_w 1, .putfield 8010, .aload 0, .getfield 8002, .ldc_w 0, .ldc_w 0, .iastore, .ldc_w 16, .istore 3, .iload 3, .iload 1, .if_icmp .gt 39, .aload 0, .getfield 8010, .ldc_w 8, .if_icmp .gt 29, .aload 0, .getfield 8002, .aload 0, .getfield 8010, .iload 3, .iastore, .aload 0, .dup, .getfield 8010, .ldc_w 1, .iadd, .putfield 8010, .aload 0, .getfield 8010, .iload 2, .if_icmp .le 37, .aload 0, .aload 0, .invokevirtual 103, .invokevirtual 104, .iinc 3 16, .goto 10, .return_]
/-- 103: RecordDesk$Snapshots.closest()I -/
def am_c103 : List Instr := [.ldc_w 1, .istore 1, .ldc_w 2, .istore 2, .iload 2, .aload 0, .getfield 8010, .ldc_w 1, .isub, .if_icmp .ge 41, .aload 0, .getfield 8002, .iload 2, .ldc_w 1, .iadd, .iaload, .aload 0, .getfield 8002, .iload 2, .ldc_w 1, .isub, .iaload, .isub, .aload 0, .getfield 8002, .iload 1, .ldc_w 1, .iadd, .iaload, .aload 0, .getfield 8002, .iload 1, .ldc_w 1, .isub, .iaload, .isub, .if_icmp .ge 39, .iload 2, .istore 1, .iinc 2 1, .goto 4, .iload 1, .ireturn]
/-- 104: RecordDesk$Snapshots.drop(I)V -/
def am_c104 : List Instr := [.iload 1, .istore 2, .iload 2, .aload 0, .getfield 8010, .ldc_w 1, .isub, .if_icmp .ge 20, .aload 0, .getfield 8002, .iload 2, .aload 0, .getfield 8002, .iload 2, .ldc_w 1, .iadd, .iaload, .iastore, .iinc 2 1, .goto 2, .aload 0, .dup, .getfield 8010, .ldc_w 1, .isub, .putfield 8010, .return_]
/-- 105: RecordDesk$Snapshots.greatestCost(I)I -/
def am_c105 : List Instr := [.aload 0, .iload 1, .invokevirtual 106, .istore 2, .ldc_w 1, .istore 3, .iload 3, .aload 0, .getfield 8010, .if_icmp .ge 28, .iload 2, .aload 0, .getfield 8002, .iload 3, .iaload, .ldc_w 1, .isub, .aload 0, .getfield 8002, .iload 3, .ldc_w 1, .isub, .iaload, .isub, .invokestatic 10001, .istore 2, .iinc 3 1, .goto 6, .iload 2, .ireturn]
/-- 106: RecordDesk$Snapshots.cost(I)I -/
def am_c106 : List Instr := [.ldc_w 0, .istore 2, .ldc_w 0, .istore 3, .iload 3, .aload 0, .getfield 8010, .if_icmp .ge 21, .aload 0, .getfield 8002, .iload 3, .iaload, .iload 1, .if_icmp .gt 21, .aload 0, .getfield 8002, .iload 3, .iaload, .istore 2, .iinc 3 1, .goto 4, .iload 1, .iload 2, .isub, .ireturn]
/-- 107: RecordDesk$Machine.ring(LRecordDesk$Program;)I -/
def am_c107 : List Instr := [.ldc_w 0, .istore 2, .ldc_w 0, .istore 3, .iload 3, .aload 1, .getfield 2050, .if_icmp .ge 37, .iload 3, .istore 4, .ldc_w 0, .istore 5, .iload 5, .aload 1, .getfield 2050, .if_icmp .ge 35, .iload 4, .iconst (-1), .if_icmp .eq 35, .aload 0, .aload 1, .iload 4, .invokevirtual 108, .istore 4, .iload 4, .iload 3, .if_icmp .ne 33, .iload 2, .ldc_w 1, .iload 3, .ishl, .ior, .istore 2, .iinc 5 1, .goto 12, .iinc 3 1, .goto 4, .iload 2, .ireturn]
/-- 108: RecordDesk$Machine.waitsFor(LRecordDesk$Program;I)I -/
def am_c108 : List Instr := [.aload 0, .aload 1, .iload 2, .invokevirtual 24, .istore 3, .iload 3, .iconst (-1), .if_icmp .eq 14, .aload 1, .getfield 2002, .iload 3, .iaload, .ldc_w 13, .if_icmp .eq 16, .iconst (-1), .ireturn, .aload 0, .getfield 5042, .aload 1, .iload 3, .ldc_w 0, .invokevirtual 26, .iaload, .ireturn]
/-- 109: RecordDeskLaw.set(LRecordDesk;I[J)I -/
def am_c109 : List Instr := [.aload 2, .ldc_w 0, .aload 0, .iload 1, .invokevirtual 110, .i2l, .lastore, .goto 11, .astore 3, .ldc_w 1, .ireturn, .ldc_w 0, .ireturn]
/-- 110: RecordDesk.set(I)I -/
def am_c110 : List Instr := [.iload 1, .ifCond .lt 5, .iload 1, .ldc_w 3, .if_icmp .le 10, .new 1000, .nop, .nop, .nop, .nop, .aload 0, .getfield 12, .getfield 2042, .iload 1, .iaload, .ireturn]
/-- 111: RecordDeskLaw.switched(LRecordDesk;II[J)I -/
def am_c111 : List Instr := [.aload 3, .ldc_w 0, .aload 0, .iload 1, .iload 2, .invokevirtual 112, .i2l, .lastore, .goto 12, .astore 4, .ldc_w 1, .ireturn, .ldc_w 0, .ireturn]
/-- 112: RecordDesk.switched(II)I -/
def am_c112 : List Instr := [.iload 1, .ifCond .lt 7, .iload 1, .aload 0, .getfield 22, .getfield 3090, .if_icmp .lt 12, .new 1000, .nop, .nop, .nop, .nop, .iload 2, .tableswitch 32 0 2 #[14, 20, 26], .aload 0, .getfield 22, .getfield 3032, .iload 1, .iaload, .ireturn, .aload 0, .getfield 22, .getfield 3042, .iload 1, .iaload, .ireturn, .aload 0, .getfield 22, .getfield 3052, .iload 1, .iaload, .ireturn, .new 1000, .nop, .nop, .nop, .nop]
/-- 113: RecordDeskLaw.input(LRecordDesk;II[J)I -/
def am_c113 : List Instr := [.aload 3, .ldc_w 0, .aload 0, .iload 1, .iload 2, .invokevirtual 114, .i2l, .lastore, .goto 12, .astore 4, .ldc_w 1, .ireturn, .ldc_w 0, .ireturn]
/-- 114: RecordDesk.input(II)I -/
def am_c114 : List Instr := [.aload 0, .iload 1, .iload 2, .invokevirtual 115, .ifCond .ne 10, .new 1000, .nop, .nop, .nop, .nop, .aload 0, .getfield 22, .getfield 3012, .iload 1, .ldc_w 30, .imul, .iload 2, .iadd, .iaload, .ireturn]
/-- 115: RecordDesk.hasInput(II)Z -/
def am_c115 : List Instr := [.iload 1, .invokestatic 43, .ifCond .eq 16, .iload 2, .ifCond .lt 16, .iload 2, .aload 0, .getfield 22, .getfield 3002, .getfield 4002, .getfield 5052, .iload 1, .iaload, .if_icmp .ge 16, .ldc_w 1, .goto 17, .ldc_w 0, .ireturn]
/-- 116: RecordDeskLaw.digest(LRecordDesk;I[J)I -/
def am_c116 : List Instr := [.aload 2, .ldc_w 0, .aload 0, .iload 1, .invokevirtual 117, .i2l, .lastore, .goto 11, .astore 3, .ldc_w 1, .ireturn, .ldc_w 0, .ireturn]
/-- 117: RecordDesk.digest(I)I -/
def am_c117 : List Instr := [.iload 1, .ifCond .lt 11, .iload 1, .aload 0, .getfield 22, .getfield 3100, .aload 0, .getfield 12, .invokevirtual 39, .idiv, .if_icmp .lt 16, .new 1000, .nop, .nop, .nop, .nop, .aload 0, .getfield 22, .getfield 3062, .iload 1, .iaload, .ireturn]
/-- 118: RecordDeskLaw.snapshot(LRecordDesk;I[J)I -/
def am_c118 : List Instr := [.aload 2, .ldc_w 0, .aload 0, .iload 1, .invokevirtual 119, .i2l, .lastore, .goto 11, .astore 3, .ldc_w 1, .ireturn, .ldc_w 0, .ireturn]
/-- 119: RecordDesk.snapshot(I)I -/
def am_c119 : List Instr := [.aload 0, .invokevirtual 101, .astore 2, .iload 1, .ifCond .lt 9, .iload 1, .aload 2, .getfield 8010, .if_icmp .lt 14, .new 1000, .nop, .nop, .nop, .nop, .aload 2, .getfield 8002, .iload 1, .iaload, .ireturn]
/-- 120: RecordDeskLaw.seek(LRecordDesk;I[J)I -/
def am_c120 : List Instr := [.aload 2, .ldc_w 0, .aload 0, .iload 1, .invokevirtual 121, .i2l, .lastore, .goto 11, .astore 3, .ldc_w 1, .ireturn, .ldc_w 0, .ireturn]
/-- 121: RecordDesk.seek(I)I -/
def am_c121 : List Instr := [.iload 1, .ifCond .lt 7, .iload 1, .aload 0, .getfield 22, .getfield 3100, .if_icmp .le 12, .new 1000, .nop, .nop, .nop, .nop, .aload 0, .getfield 22, .iload 1, .putfield 3110, .aload 0, .invokevirtual 101, .iload 1, .invokevirtual 106, .ireturn]
/-- 122: RecordDeskLaw.cell(LRecordDesk;I[J)I -/
def am_c122 : List Instr := [.aload 2, .ldc_w 0, .aload 0, .iload 1, .invokevirtual 123, .i2l, .lastore, .goto 11, .astore 3, .ldc_w 1, .ireturn, .ldc_w 0, .ireturn]
/-- 123: RecordDesk.cell(I)I -/
def am_c123 : List Instr := [.aload 0, .iload 1, .invokevirtual 124, .aload 0, .aload 0, .getfield 22, .getfield 3110, .invokevirtual 52, .getfield 5002, .iload 1, .iaload, .ireturn]
/-- 124: RecordDesk.checkCell(I)V -/
def am_c124 : List Instr := [.iload 1, .ifCond .lt 5, .iload 1, .ldc_w 16, .if_icmp .lt 10, .new 1000, .nop, .nop, .nop, .nop, .return_]
/-- 125: RecordDeskLaw.thread(LRecordDesk;II[J)I -/
def am_c125 : List Instr := [.aload 3, .ldc_w 0, .aload 0, .iload 1, .iload 2, .invokevirtual 126, .i2l, .lastore, .goto 12, .astore 4, .ldc_w 1, .ireturn, .ldc_w 0, .ireturn]
/-- 126: RecordDesk.thread(II)I -/
def am_c126 : List Instr := [.aload 0, .iload 1, .invokevirtual 127, .ifCond .ne 9, .new 1000, .nop, .nop, .nop, .nop, .aload 0, .aload 0, .getfield 22, .getfield 3110, .invokevirtual 52, .astore 3, .iload 2, .tableswitch 54 0 7 #[17, 17, 17, 17, 26, 31, 36, 46], .aload 3, .getfield 5012, .iload 1, .ldc_w 4, .imul, .iload 2, .iadd, .iaload, .ireturn, .aload 3, .getfield 5022, .iload 1, .iaload, .ireturn, .aload 3, .getfield 5032, .iload 1, .iaload, .ireturn, .aload 3, .aload 0, .getfield 12, .iload 1, .invokevirtual 25, .ifCond .eq 44, .ldc_w 1, .goto 45, .ldc_w 0, .ireturn, .aload 3, .getfield 5060, .iload 1, .if_icmp .ne 52, .ldc_w 1, .goto 53, .ldc_w 0, .ireturn, .new 1000, .nop, .nop, .nop, .nop]
/-- 127: RecordDesk.isThread(I)Z -/
def am_c127 : List Instr := [.iload 1, .ifCond .lt 9, .iload 1, .aload 0, .getfield 12, .getfield 2050, .if_icmp .ge 9, .ldc_w 1, .goto 10, .ldc_w 0, .ireturn]
/-- 128: RecordDeskLaw.lock(LRecordDesk;I[J)I -/
def am_c128 : List Instr := [.aload 2, .ldc_w 0, .aload 0, .iload 1, .invokevirtual 129, .i2l, .lastore, .goto 11, .astore 3, .ldc_w 1, .ireturn, .ldc_w 0, .ireturn]
/-- 129: RecordDesk.lock(I)I -/
def am_c129 : List Instr := [.iload 1, .ifCond .lt 5, .iload 1, .ldc_w 4, .if_icmp .lt 10, .new 1000, .nop, .nop, .nop, .nop, .aload 0, .aload 0, .getfield 22, .getfield 3110, .invokevirtual 52, .getfield 5042, .iload 1, .iaload, .ireturn]
/-- 130: RecordDeskLaw.back(LRecordDesk;II[J)I -/
def am_c130 : List Instr := [.aload 3, .ldc_w 0, .aload 0, .iload 1, .iload 2, .invokevirtual 131, .i2l, .lastore, .goto 12, .astore 4, .ldc_w 1, .ireturn, .ldc_w 0, .ireturn]
/-- 131: RecordDesk.back(II)I -/
def am_c131 : List Instr := [.aload 0, .iload 1, .iload 2, .invokevirtual 132, .iload 1, .ldc_w 16, .imul, .iload 2, .iadd, .istore 3, .aload 0, .getfield 22, .getfield 3110, .istore 4, .iload 4, .ldc_w 1, .if_icmp .lt 34, .aload 0, .getfield 22, .getfield 3072, .iload 4, .iaload, .iload 3, .if_icmp .ne 32, .aload 0, .getfield 22, .iload 4, .ldc_w 1, .isub, .putfield 3110, .iload 4, .ireturn, .iinc 4 (-1), .goto 14, .iconst (-1), .ireturn]
/-- 132: RecordDesk.checkInstruction(II)V -/
def am_c132 : List Instr := [.aload 0, .iload 1, .invokevirtual 127, .ifCond .eq 13, .iload 2, .ifCond .lt 13, .iload 2, .aload 0, .getfield 12, .getfield 2022, .iload 1, .iaload, .if_icmp .lt 18, .new 1000, .nop, .nop, .nop, .nop, .return_]
/-- 133: RecordDeskLaw.on(LRecordDesk;II[J)I -/
def am_c133 : List Instr := [.aload 3, .ldc_w 0, .aload 0, .iload 1, .iload 2, .invokevirtual 134, .i2l, .lastore, .goto 12, .astore 4, .ldc_w 1, .ireturn, .ldc_w 0, .ireturn]
/-- 134: RecordDesk.on(II)I -/
def am_c134 : List Instr := [.aload 0, .iload 1, .iload 2, .invokevirtual 132, .iload 1, .ldc_w 16, .imul, .iload 2, .iadd, .istore 3, .aload 0, .getfield 22, .getfield 3110, .ldc_w 1, .iadd, .istore 4, .iload 4, .aload 0, .getfield 22, .getfield 3100, .if_icmp .gt 36, .aload 0, .getfield 22, .getfield 3072, .iload 4, .iaload, .iload 3, .if_icmp .ne 34, .aload 0, .getfield 22, .iload 4, .putfield 3110, .iload 4, .ireturn, .iinc 4 1, .goto 16, .iconst (-1), .ireturn]
/-- 135: RecordDeskLaw.last(LRecordDesk;II[J)I -/
def am_c135 : List Instr := [.aload 3, .ldc_w 0, .aload 0, .iload 1, .iload 2, .invokevirtual 136, .i2l, .lastore, .goto 12, .astore 4, .ldc_w 1, .ireturn, .ldc_w 0, .ireturn]
/-- 136: RecordDesk.last(II)I -/
def am_c136 : List Instr := [.aload 0, .iload 1, .invokevirtual 124, .iload 2, .ifCond .lt 8, .iload 2, .ldc_w 2, .if_icmp .le 13, .new 1000, .nop, .nop, .nop, .nop, .aload 0, .iload 1, .invokevirtual 137, .istore 3, .iload 3, .iconst (-1), .if_icmp .eq 22, .iload 2, .ifCond .ne 24, .iload 3, .ireturn, .iload 2, .ldc_w 1, .if_icmp .ne 35, .aload 0, .getfield 22, .getfield 3072, .iload 3, .iaload, .ldc_w 16, .idiv, .goto 42, .aload 0, .getfield 22, .getfield 3072, .iload 3, .iaload, .ldc_w 16, .irem, .ireturn]
/-- 137: RecordDesk.lastStore(I)I -/
def am_c137 : List Instr := [.aload 0, .getfield 22, .getfield 3110, .istore 2, .iload 2, .ldc_w 1, .if_icmp .lt 30, .aload 0, .getfield 22, .getfield 3072, .iload 2, .iaload, .istore 3, .aload 0, .getfield 12, .getfield 2002, .iload 3, .iaload, .ldc_w 8, .if_icmp .ne 28, .aload 0, .getfield 12, .iload 3, .invokevirtual 138, .iload 1, .if_icmp .ne 28, .iload 2, .ireturn, .iinc 2 (-1), .goto 4, .iconst (-1), .ireturn]
/-- 138: RecordDesk$Program.cellTouched(I)I -/
def am_c138 : List Instr := [.aload 0, .getfield 2002, .iload 1, .iaload, .ldc_w 7, .if_icmp .ne 11, .aload 0, .iload 1, .ldc_w 1, .invokevirtual 26, .ireturn, .aload 0, .getfield 2002, .iload 1, .iaload, .ldc_w 8, .if_icmp .ne 22, .aload 0, .iload 1, .ldc_w 0, .invokevirtual 26, .goto 23, .iconst (-1), .ireturn]
/-- 139: RecordDeskLaw.held(LRecordDesk;I[J)I -/
def am_c139 : List Instr := [.aload 2, .ldc_w 0, .aload 0, .iload 1, .invokevirtual 140, .i2l, .lastore, .goto 11, .astore 3, .ldc_w 1, .ireturn, .ldc_w 0, .ireturn]
/-- 140: RecordDesk.held(I)I -/
def am_c140 : List Instr := [.aload 0, .iload 1, .invokevirtual 124, .aload 0, .iload 1, .invokevirtual 137, .istore 2, .iload 2, .iconst (-1), .if_icmp .ne 15, .new 1000, .nop, .nop, .nop, .nop, .aload 0, .iload 2, .ldc_w 1, .isub, .invokevirtual 52, .getfield 5002, .iload 1, .iaload, .ireturn]
/-- 141: RecordDeskLaw.firstRead(LRecordDesk;I[J)I -/
def am_c141 : List Instr := [.aload 2, .ldc_w 0, .aload 0, .iload 1, .invokevirtual 142, .i2l, .lastore, .goto 11, .astore 3, .ldc_w 1, .ireturn, .ldc_w 0, .ireturn]
/-- 142: RecordDesk.firstRead(I)I -/
def am_c142 : List Instr := [.aload 0, .iload 1, .invokevirtual 124, .aload 0, .getfield 22, .getfield 3110, .ldc_w 1, .iadd, .istore 2, .iload 2, .aload 0, .getfield 22, .getfield 3100, .if_icmp .gt 39, .aload 0, .getfield 22, .getfield 3072, .iload 2, .iaload, .istore 3, .aload 0, .getfield 12, .iload 3, .invokevirtual 138, .iload 1, .if_icmp .ne 37, .aload 0, .getfield 12, .getfield 2002, .iload 3, .iaload, .ldc_w 7, .if_icmp .ne 35, .iload 2, .goto 36, .iconst (-1), .ireturn, .iinc 2 1, .goto 9, .iconst (-1), .ireturn]
/-- 143: RecordDeskLaw.races(LRecordDesk;I[J)I -/
def am_c143 : List Instr := [.aload 2, .ldc_w 0, .aload 0, .iload 1, .invokevirtual 144, .i2l, .lastore, .goto 11, .astore 3, .ldc_w 1, .ireturn, .ldc_w 0, .ireturn]
/-- 144: RecordDesk.races(I)I -/
def am_c144 : List Instr := [.iload 1, .ifCond .lt 5, .iload 1, .ldc_w 2, .if_icmp .le 10, .new 1000, .nop, .nop, .nop, .nop, .aload 0, .getfield 102, .aload 0, .getfield 12, .aload 0, .getfield 22, .aload 0, .getfield 92, .invokevirtual 145, .iload 1, .ifCond .ne 25, .aload 0, .getfield 102, .getfield 10060, .ireturn, .iload 1, .ldc_w 1, .if_icmp .ne 33, .aload 0, .getfield 102, .getfield 10070, .invokestatic 153, .goto 36, .aload 0, .getfield 102, .invokevirtual 154, .ireturn]
/-- 145: RecordDesk$Races.find(LRecordDesk$Program;LRecordDesk$Course;LRecordDesk$Holders;)V -/
def am_c145 : List Instr := [.aload 0, .getfield 10085, .ifCond .eq 4, .return_, .aload 0, .invokevirtual 146, .aload 3, .invokevirtual 147, .ldc_w 1, .istore 4, .iload 4, .aload 2, .getfield 3100, .if_icmp .gt 49, .aload 2, .getfield 3072, .iload 4, .iaload, .istore 5, .aload 0, .aload 1, .iload 5, .iload 4, .aload 3, .invokevirtual 148, .aload 3, .aload 1, .iload 5, .invokevirtual 150, .aload 0, .getfield 10012, .iload 4, .aload 1, .iload 5, .invokevirtual 138, .iastore, .aload 0, .getfield 10012, .iload 4, .iaload, .iconst (-1), .if_icmp .eq 47, .aload 0, .iload 4, .aload 1, .aload 2, .invokevirtual 151, .iinc 4 1, .goto 10, .aload 0, .ldc_w 1, .putfield 10085, .return_]
/-- 146: RecordDesk$Races.clear()V -/
def am_c146 : List Instr := [.aload 0, .getfield 10002, .ldc_w 0, .invokestatic 13, .aload 0, .getfield 10032, .ldc_w 0, .invokestatic 13, .aload 0, .getfield 10042, .ldc_w 0, .invokestatic 13, .aload 0, .getfield 10052, .lconst 0, .invokestatic 62, .aload 0, .ldc_w 0, .putfield 10060, .aload 0, .ldc_w 0, .putfield 10070, .return_]
/-- 147: RecordDesk$Holders.clear()V -/
def am_c147 : List Instr := [.aload 0, .getfield 9002, .iconst (-1), .invokestatic 13, .return_]
/-- 148: RecordDesk$Races.order(LRecordDesk$Program;IILRecordDesk$Holders;)V -/
def am_c148 : List Instr := [.iload 2, .ldc_w 16, .idiv, .istore 5, .aload 1, .iload 2, .ldc_w 0, .invokevirtual 26, .istore 6, .aload 0, .getfield 10032, .iload 5, .ldc_w 4, .imul, .iload 5, .iadd, .iload 3, .iastore, .aload 1, .getfield 2002, .iload 2, .iaload, .ldc_w 13, .if_icmp .ne 55, .ldc_w 0, .istore 7, .iload 7, .ldc_w 4, .if_icmp .ge 54, .iload 5, .ldc_w 4, .imul, .iload 7, .iadd, .istore 8, .aload 0, .getfield 10032, .iload 8, .aload 0, .getfield 10032, .iload 8, .iaload, .aload 0, .getfield 10042, .iload 6, .ldc_w 4, .imul, .iload 7, .iadd, .iaload, .invokestatic 10001, .iastore, .iinc 7 1, .goto 26, .goto 72, .aload 4, .aload 1, .iload 2, .invokevirtual 149, .ifCond .eq 72, .aload 0, .getfield 10032, .iload 5, .ldc_w 4, .imul, .aload 0, .getfield 10042, .iload 6, .ldc_w 4, .imul, .ldc_w 4, .invokestatic 10003, .aload 0, .getfield 10032, .iload 5, .ldc_w 4, .imul, .aload 0, .getfield 10022, .iload 3, .ldc_w 4, .imul, .ldc_w 4, .invokestatic 10003, .return_]
/-- 149: RecordDesk$Holders.isRelease(LRecordDesk$Program;I)Z -/
def am_c149 : List Instr := [.aload 1, .getfield 2002, .iload 2, .iaload, .ldc_w 14, .if_icmp .ne 19, .aload 0, .getfield 9002, .aload 1, .iload 2, .ldc_w 0, .invokevirtual 26, .iaload, .iload 2, .ldc_w 16, .idiv, .if_icmp .ne 19, .ldc_w 1, .goto 20, .ldc_w 0, .ireturn]
/-- 150: RecordDesk$Holders.see(LRecordDesk$Program;I)V -/
def am_c150 : List Instr := [.aload 1, .iload 2, .ldc_w 0, .invokevirtual 26, .istore 3, .iload 2, .ldc_w 16, .idiv, .istore 4, .aload 1, .getfield 2002, .iload 2, .iaload, .ldc_w 13, .if_icmp .ne 21, .aload 0, .getfield 9002, .iload 3, .iload 4, .iastore, .goto 31, .aload 0, .aload 1, .iload 2, .invokevirtual 149, .ifCond .eq 31, .aload 0, .getfield 9002, .iload 3, .iconst (-1), .iastore, .return_]
/-- 151: RecordDesk$Races.countAt(ILRecordDesk$Program;LRecordDesk$Course;)V -/
def am_c151 : List Instr := [.ldc_w 1, .istore 4, .iload 4, .iload 1, .if_icmp .ge 55, .aload 0, .iload 4, .iload 1, .aload 2, .aload 3, .invokevirtual 152, .ifCond .eq 53, .aload 0, .getfield 10002, .iload 1, .dup2, .iaload, .ldc_w 1, .iadd, .iastore, .aload 0, .dup, .getfield 10060, .ldc_w 1, .iadd, .putfield 10060, .aload 0, .dup, .getfield 10070, .ldc_w 1, .aload 0, .getfield 10012, .iload 1, .iaload, .ishl, .ior, .putfield 10070, .aload 0, .getfield 10052, .aload 3, .getfield 3072, .iload 4, .iaload, .dup2, .laload, .lconst 1, .aload 3, .getfield 3072, .iload 1, .iaload, .lshl, .lor, .lastore, .iinc 4 1, .goto 2, .return_]
/-- 152: RecordDesk$Races.isRace(IILRecordDesk$Program;LRecordDesk$Course;)Z -/
def am_c152 : List Instr := [.aload 0, .getfield 10012, .iload 1, .iaload, .aload 0, .getfield 10012, .iload 2, .iaload, .if_icmp .eq 11, .ldc_w 0, .ireturn, .aload 4, .getfield 3072, .iload 1, .iaload, .istore 5, .aload 3, .getfield 2002, .iload 5, .iaload, .ldc_w 8, .if_icmp .eq 31, .aload 3, .getfield 2002, .aload 4, .getfield 3072, .iload 2, .iaload, .iaload, .ldc_w 8, .if_icmp .ne 33, .ldc_w 1, .goto 34, .ldc_w 0, .istore 6, .iload 6, .ifCond .eq 51, .aload 0, .getfield 10022, .iload 2, .ldc_w 4, .imul, .iload 5, .ldc_w 16, .idiv, .iadd, .iaload, .iload 1, .if_icmp .ge 51, .ldc_w 1, .goto 52, .ldc_w 0, .ireturn]
/-- 153: java/lang/Integer.bitCount(I)I -/
def am_c153 : List Instr := [.iload 0, .iload 0, .ldc_w 1, .iushr, .ldc_w 1431655765, .iand, .isub, .istore 0, .iload 0, .ldc_w 858993459, .iand, .iload 0, .ldc_w 2, .iushr, .ldc_w 858993459, .iand, .iadd, .istore 0, .iload 0, .iload 0, .ldc_w 4, .iushr, .iadd, .ldc_w 252645135, .iand, .istore 0, .iload 0, .iload 0, .ldc_w 8, .iushr, .iadd, .istore 0, .iload 0, .iload 0, .ldc_w 16, .iushr, .iadd, .istore 0, .iload 0, .ldc_w 63, .iand, .ireturn]
/-- 154: RecordDesk$Races.countCouples()I -/
def am_c154 : List Instr := [.ldc_w 0, .istore 1, .aload 0, .getfield 10052, .astore 2, .aload 2, .arraylength, .istore 3, .ldc_w 0, .istore 4, .iload 4, .iload 3, .if_icmp .ge 24, .aload 2, .iload 4, .laload, .lstore 5, .iload 1, .lload 5, .invokestatic 155, .iadd, .istore 1, .iinc 4 1, .goto 10, .iload 1, .ireturn]
/-- 155: java/lang/Long.bitCount(J)I -/
def am_c155 : List Instr := [.lload 0, .lload 0, .ldc_w 1, .lushr, .ldc2_w 6148914691236517205, .land, .lsub, .lstore 0, .lload 0, .ldc2_w 3689348814741910323, .land, .lload 0, .ldc_w 2, .lushr, .ldc2_w 3689348814741910323, .land, .ladd, .lstore 0, .lload 0, .lload 0, .ldc_w 4, .lushr, .ladd, .ldc2_w 1085102592571150095, .land, .lstore 0, .lload 0, .lload 0, .ldc_w 8, .lushr, .ladd, .lstore 0, .lload 0, .lload 0, .ldc_w 16, .lushr, .ladd, .lstore 0, .lload 0, .lload 0, .ldc_w 32, .lushr, .ladd, .lstore 0, .lload 0, .l2i, .ldc_w 127, .iand, .ireturn]
/-- 156: RecordDeskLaw.race(LRecordDesk;II[J)I -/
def am_c156 : List Instr := [.aload 3, .ldc_w 0, .aload 0, .iload 1, .iload 2, .invokevirtual 157, .i2l, .lastore, .goto 12, .astore 4, .ldc_w 1, .ireturn, .ldc_w 0, .ireturn]
/-- 157: RecordDesk.race(II)I -/
def am_c157 : List Instr := [.aload 0, .getfield 102, .aload 0, .getfield 12, .aload 0, .getfield 22, .aload 0, .getfield 92, .invokevirtual 145, .iload 1, .ifCond .lt 21, .iload 1, .aload 0, .getfield 102, .getfield 10060, .if_icmp .ge 21, .iload 2, .ifCond .lt 21, .iload 2, .ldc_w 2, .if_icmp .le 26, .new 1000, .nop, .nop, .nop, .nop, .aload 0, .getfield 102, .iload 1, .aload 0, .getfield 22, .getfield 3100, .invokevirtual 158, .istore 3, .iload 3, .iconst (-1), .if_icmp .eq 40, .iload 2, .ldc_w 1, .if_icmp .ne 42, .iload 3, .ireturn, .iload 2, .ifCond .ne 54, .aload 0, .getfield 102, .iload 1, .iload 3, .aload 0, .getfield 12, .aload 0, .getfield 22, .invokevirtual 159, .goto 59, .aload 0, .getfield 102, .getfield 10012, .iload 3, .iaload, .ireturn]
/-- 158: RecordDesk$Races.laterStep(II)I -/
def am_c158 : List Instr := [.iload 1, .istore 3, .ldc_w 1, .istore 4, .iload 4, .iload 2, .if_icmp .gt 24, .iload 3, .aload 0, .getfield 10002, .iload 4, .iaload, .if_icmp .ge 15, .iload 4, .ireturn, .iload 3, .aload 0, .getfield 10002, .iload 4, .iaload, .isub, .istore 3, .iinc 4 1, .goto 4, .iconst (-1), .ireturn]
/-- 159: RecordDesk$Races.earlierStep(IILRecordDesk$Program;LRecordDesk$Course;)I -/
def am_c159 : List Instr := [.iload 1, .istore 5, .ldc_w 1, .istore 6, .iload 6, .iload 2, .if_icmp .ge 16, .iload 5, .aload 0, .getfield 10002, .iload 6, .iaload, .isub, .istore 5, .iinc 6 1, .goto 4, .ldc_w 1, .istore 6, .iload 6, .iload 2, .if_icmp .ge 35, .aload 0, .iload 6, .iload 2, .aload 3, .aload 4, .invokevirtual 152, .ifCond .eq 33, .iload 5, .ifCond .ne 32, .iload 6, .ireturn, .iinc 5 (-1), .iinc 6 1, .goto 18, .iconst (-1), .ireturn]
/-- 160: RecordDeskLaw.guards(LRecordDesk;I[J)I -/
def am_c160 : List Instr := [.aload 2, .ldc_w 0, .aload 0, .iload 1, .invokevirtual 161, .i2l, .lastore, .goto 11, .astore 3, .ldc_w 1, .ireturn, .ldc_w 0, .ireturn]
/-- 161: RecordDesk.guards(I)I -/
def am_c161 : List Instr := [.aload 0, .iload 1, .invokevirtual 124, .ldc_w 15, .istore 2, .aload 0, .getfield 92, .invokevirtual 147, .ldc_w 1, .istore 3, .iload 3, .aload 0, .getfield 22, .getfield 3100, .if_icmp .gt 44, .aload 0, .getfield 22, .getfield 3072, .iload 3, .iaload, .istore 4, .aload 0, .getfield 12, .iload 4, .invokevirtual 138, .iload 1, .if_icmp .ne 36, .iload 2, .aload 0, .getfield 92, .iload 4, .ldc_w 16, .idiv, .invokevirtual 162, .iand, .istore 2, .aload 0, .getfield 92, .aload 0, .getfield 12, .iload 4, .invokevirtual 150, .iinc 3 1, .goto 10, .iload 2, .ireturn]
/-- 162: RecordDesk$Holders.heldBy(I)I -/
def am_c162 : List Instr := [.ldc_w 0, .istore 2, .ldc_w 0, .istore 3, .iload 3, .ldc_w 4, .if_icmp .ge 21, .aload 0, .getfield 9002, .iload 3, .iaload, .iload 1, .if_icmp .ne 19, .iload 2, .ldc_w 1, .iload 3, .ishl, .ior, .istore 2, .iinc 3 1, .goto 4, .iload 2, .ireturn]
/-- 163: RecordDeskLaw.hot(LRecordDesk;II[J)I -/
def am_c163 : List Instr := [.aload 3, .ldc_w 0, .aload 0, .iload 1, .iload 2, .invokevirtual 164, .i2l, .lastore, .goto 12, .astore 4, .ldc_w 1, .ireturn, .ldc_w 0, .ireturn]
/-- 164: RecordDesk.hot(II)I -/
def am_c164 : List Instr := [.aload 0, .getfield 112, .aload 0, .getfield 22, .invokevirtual 165, .iload 1, .iconst (-1), .if_icmp .ne 12, .aload 0, .getfield 112, .getfield 11020, .ireturn, .iload 1, .ifCond .lt 24, .iload 1, .aload 0, .getfield 112, .getfield 11020, .if_icmp .ge 24, .iload 2, .ifCond .lt 24, .iload 2, .ldc_w 2, .if_icmp .le 29, .new 1000, .nop, .nop, .nop, .nop, .aload 0, .getfield 112, .getfield 11002, .iload 1, .iaload, .istore 3, .iload 2, .ldc_w 2, .if_icmp .ne 44, .aload 0, .getfield 112, .getfield 11012, .iload 3, .iaload, .ireturn, .iload 2, .ifCond .ne 50, .iload 3, .ldc_w 16, .idiv, .goto 53, .iload 3, .ldc_w 16, .irem, .ireturn]
/-- 165: RecordDesk$Hot.find(LRecordDesk$Course;)V -/
def am_c165 : List Instr := [.aload 0, .getfield 11012, .ldc_w 0, .invokestatic 13, .aload 0, .ldc_w 0, .putfield 11020, .ldc_w 1, .istore 2, .iload 2, .aload 1, .getfield 3100, .if_icmp .gt 45, .aload 1, .getfield 3072, .iload 2, .iaload, .istore 3, .aload 0, .getfield 11012, .iload 3, .iaload, .ifCond .ne 35, .aload 0, .getfield 11002, .aload 0, .getfield 11020, .iload 3, .iastore, .aload 0, .dup, .getfield 11020, .ldc_w 1, .iadd, .putfield 11020, .aload 0, .getfield 11012, .iload 3, .dup2, .iaload, .ldc_w 1, .iadd, .iastore, .iinc 2 1, .goto 9, .return_]
/-- 166: RecordDeskLaw.diverged(LRecordDesk;IIII[J)I -/
def am_c166 : List Instr := [.aload 5, .ldc_w 0, .aload 0, .iload 1, .iload 2, .iload 3, .iload 4, .invokevirtual 167, .i2l, .lastore, .goto 14, .astore 6, .ldc_w 1, .ireturn, .ldc_w 0, .ireturn]
/-- 167: RecordDesk.diverged(IIII)I -/
def am_c167 : List Instr := [.iload 4, .ifCond .lt 11, .iload 4, .ldc_w 2, .if_icmp .gt 11, .aload 0, .iload 1, .iload 2, .iload 3, .invokevirtual 168, .ifCond .ne 16, .new 1000, .nop, .nop, .nop, .nop, .aload 0, .getfield 52, .aload 0, .getfield 12, .invokevirtual 17, .aload 0, .getfield 52, .iload 1, .iload 2, .iload 3, .invokevirtual 169, .iload 4, .ifCond .ne 32, .aload 0, .invokevirtual 170, .ireturn, .iload 4, .ldc_w 1, .if_icmp .ne 38, .aload 0, .invokevirtual 173, .ireturn, .aload 0, .getfield 52, .aload 0, .getfield 22, .getfield 3100, .aload 0, .getfield 12, .aload 0, .getfield 22, .invokevirtual 46, .aload 0, .getfield 52, .getfield 7010, .aload 0, .getfield 22, .getfield 3100, .if_icmp .ge 59, .aload 0, .getfield 52, .getfield 7010, .goto 60, .iconst (-1), .ireturn]
/-- 168: RecordDesk.canAlter(III)Z -/
def am_c168 : List Instr := [.iload 1, .ifCond .ne 17, .iload 2, .ifCond .lt 15, .iload 2, .aload 0, .getfield 22, .getfield 3090, .if_icmp .ge 15, .aload 0, .iload 3, .invokevirtual 127, .ifCond .eq 15, .ldc_w 1, .goto 16, .ldc_w 0, .ireturn, .iload 1, .ldc_w 1, .if_icmp .ne 31, .iload 2, .ifCond .lt 29, .iload 2, .aload 0, .getfield 22, .getfield 3090, .if_icmp .ge 29, .ldc_w 1, .goto 30, .ldc_w 0, .ireturn, .iload 1, .ldc_w 5, .if_icmp .ne 43, .iload 2, .ifCond .lt 41, .iload 2, .ldc_w 16, .if_icmp .ge 41, .ldc_w 1, .goto 42, .ldc_w 0, .ireturn, .aload 0, .iload 1, .ldc_w 2, .isub, .iload 2, .invokevirtual 115, .ireturn]
/-- 169: RecordDesk$Replay.alter(III)V -/
def am_c169 : List Instr := [.aload 0, .iload 1, .putfield 7040, .aload 0, .iload 2, .putfield 7050, .aload 0, .iload 3, .putfield 7060, .aload 0, .getfield 7040, .ldc_w 5, .if_icmp .ne 24, .iload 2, .ifCond .lt 24, .iload 2, .ldc_w 16, .if_icmp .ge 24, .aload 0, .getfield 7002, .getfield 5002, .iload 2, .iload 3, .iastore, .return_]
/-- 170: RecordDesk.firstOtherStep()I -/
def am_c170 : List Instr := [.aload 0, .getfield 42, .aload 0, .getfield 12, .invokevirtual 17, .aload 0, .getfield 42, .getfield 7002, .aload 0, .getfield 52, .getfield 7002, .aload 0, .getfield 12, .getfield 2050, .invokevirtual 171, .ifCond .ne 18, .ldc_w 0, .ireturn, .ldc_w 1, .istore 1, .iload 1, .aload 0, .getfield 22, .getfield 3100, .if_icmp .gt 56, .aload 0, .getfield 42, .aload 0, .getfield 12, .aload 0, .getfield 22, .invokevirtual 47, .pop, .aload 0, .getfield 52, .aload 0, .getfield 12, .aload 0, .getfield 22, .invokevirtual 47, .ifCond .eq 52, .aload 0, .getfield 42, .getfield 7002, .aload 0, .getfield 52, .getfield 7002, .aload 0, .getfield 12, .getfield 2050, .invokevirtual 171, .ifCond .ne 54, .iload 1, .ireturn, .iinc 1 1, .goto 20, .iconst (-1), .ireturn]
/-- 171: RecordDesk$Machine.isLike(LRecordDesk$Machine;I)Z -/
def am_c171 : List Instr := [.aload 0, .getfield 5060, .aload 1, .getfield 5060, .if_icmp .ne 44, .aload 0, .getfield 5022, .aload 1, .getfield 5022, .iload 2, .invokestatic 172, .ifCond .eq 44, .aload 0, .getfield 5032, .aload 1, .getfield 5032, .iload 2, .invokestatic 172, .ifCond .eq 44, .aload 0, .getfield 5012, .aload 1, .getfield 5012, .iload 2, .ldc_w 4, .imul, .invokestatic 172, .ifCond .eq 44, .aload 0, .getfield 5042, .aload 1, .getfield 5042, .ldc_w 4, .invokestatic 172, .ifCond .eq 44, .aload 0, .getfield 5002, .aload 1, .getfield 5002, .ldc_w 16, .invokestatic 172, .ifCond .eq 44, .ldc_w 1, .goto 45, .ldc_w 0, .ireturn]
/-- 172: RecordDesk.sameNumbers([I[II)Z -/
def am_c172 : List Instr := [.iload 2, .aload 0, .arraylength, .aload 1, .arraylength, .invokestatic 10002, .invokestatic 10002, .istore 3, .ldc_w 0, .istore 4, .iload 4, .iload 3, .if_icmp .ge 24, .aload 0, .iload 4, .iaload, .aload 1, .iload 4, .iaload, .if_icmp .eq 22, .ldc_w 0, .ireturn, .iinc 4 1, .goto 10, .ldc_w 1, .ireturn]
/-- 173: RecordDesk.firstOtherDigest()I -/
def am_c173 : List Instr := [.aload 0, .getfield 22, .getfield 3100, .aload 0, .getfield 12, .invokevirtual 39, .idiv, .istore 1, .ldc_w 0, .istore 2, .iload 2, .iload 1, .if_icmp .ge 49, .aload 0, .getfield 52, .iload 2, .ldc_w 1, .iadd, .aload 0, .getfield 12, .invokevirtual 39, .imul, .aload 0, .getfield 12, .aload 0, .getfield 22, .invokevirtual 46, .aload 0, .getfield 52, .getfield 7035, .ifCond .eq 33, .iconst (-1), .ireturn, .aload 0, .getfield 52, .getfield 7002, .aload 0, .getfield 12, .invokevirtual 40, .aload 0, .getfield 22, .getfield 3062, .iload 2, .iaload, .if_icmp .eq 47, .iload 2, .ireturn, .iinc 2 1, .goto 10, .iconst (-1), .ireturn]
/-- 174: RecordDeskLaw.matters(LRecordDesk;I[J)I -/
def am_c174 : List Instr := [.aload 2, .ldc_w 0, .aload 0, .iload 1, .invokevirtual 175, .i2l, .lastore, .goto 11, .astore 3, .ldc_w 1, .ireturn, .ldc_w 0, .ireturn]
/-- 175: RecordDesk.matters(I)I -/
def am_c175 : List Instr := [.iload 1, .invokestatic 43, .ifCond .ne 8, .new 1000, .nop, .nop, .nop, .nop, .aload 0, .getfield 22, .getfield 3002, .getfield 4002, .astore 2, .ldc_w 0, .istore 3, .ldc_w 0, .istore 4, .iload 4, .aload 2, .getfield 5052, .iload 1, .iaload, .if_icmp .ge 75, .aload 0, .getfield 52, .aload 0, .getfield 12, .invokevirtual 17, .aload 0, .getfield 52, .ldc_w 2, .iload 1, .iadd, .iload 4, .aload 0, .getfield 22, .getfield 3012, .iload 1, .ldc_w 30, .imul, .iload 4, .iadd, .iaload, .ldc_w 1, .iadd, .invokevirtual 169, .aload 0, .getfield 52, .aload 0, .getfield 22, .getfield 3100, .aload 0, .getfield 12, .aload 0, .getfield 22, .invokevirtual 46, .aload 0, .getfield 52, .getfield 7010, .aload 0, .getfield 22, .getfield 3100, .if_icmp .lt 72, .aload 0, .getfield 52, .getfield 7002, .getfield 5002, .aload 2, .getfield 5002, .ldc_w 16, .invokestatic 172, .ifCond .ne 73, .iinc 3 1, .iinc 4 1, .goto 17, .iload 3, .ireturn]
/-- 176: RecordDeskLaw.outcomes(LRecordDesk;II[J)I -/
def am_c176 : List Instr := [.aload 3, .ldc_w 0, .aload 0, .iload 1, .iload 2, .invokevirtual 177, .i2l, .lastore, .goto 15, .astore 4, .ldc_w 1, .ireturn, .astore 4, .ldc_w 2, .ireturn, .ldc_w 0, .ireturn]
/-- 177: RecordDesk.outcomes(II)I -/
def am_c177 : List Instr := [.aload 0, .iload 1, .iload 2, .invokevirtual 178, .ldc_w 0, .istore 3, .iload 3, .ldc_w 7, .if_icmp .ge 33, .aload 0, .iload 1, .iload 3, .aload 0, .getfield 12, .getfield 2042, .ldc_w 0, .iaload, .invokevirtual 179, .pop, .aload 0, .getfield 62, .getfield 4002, .getfield 5002, .ldc_w 0, .aload 0, .getfield 72, .iload 3, .ldc_w 16, .imul, .ldc_w 16, .invokestatic 10003, .iinc 3 1, .goto 6, .ldc_w 1, .istore 3, .iconst (-1), .istore 4, .ldc_w 1, .istore 5, .iload 5, .ldc_w 7, .if_icmp .ge 59, .aload 0, .iload 5, .invokevirtual 180, .istore 6, .iload 6, .iload 5, .if_icmp .ne 50, .iinc 3 1, .iload 6, .ifCond .eq 57, .iload 4, .iconst (-1), .if_icmp .ne 57, .iload 5, .istore 4, .iinc 5 1, .goto 39, .iload 2, .ifCond .ne 63, .iload 3, .goto 64, .iload 4, .ireturn]
/-- 178: RecordDesk.checkTrial(II)V -/
def am_c178 : List Instr := [.iload 2, .ifCond .lt 5, .iload 2, .ldc_w 1, .if_icmp .le 10, .new 1000, .nop, .nop, .nop, .nop, .iload 1, .ifCond .lt 15, .iload 1, .ldc_w 400, .if_icmp .le 20, .new 1001, .nop, .nop, .nop, .nop, .return_]
/-- 179: RecordDesk.runTrial(III)I -/
def am_c179 : List Instr := [.aload 0, .getfield 62, .aload 0, .getfield 12, .iload 2, .invokevirtual 15, .ldc_w 0, .istore 4, .ldc_w 0, .istore 5, .iload 5, .iload 1, .if_icmp .ge 30, .aload 0, .getfield 62, .aload 0, .getfield 12, .aload 0, .getfield 22, .iload 3, .invokevirtual 30, .ifCond .ne 23, .goto 30, .aload 0, .getfield 62, .getfield 4045, .ifCond .eq 28, .iinc 4 1, .iinc 5 1, .goto 10, .iload 4, .ireturn]
/-- 180: RecordDesk.firstLikeOutcome(I)I -/
def am_c180 : List Instr := [.ldc_w 0, .istore 2, .iload 2, .iload 1, .if_icmp .ge 43, .ldc_w 1, .istore 3, .ldc_w 0, .istore 4, .iload 4, .ldc_w 16, .if_icmp .ge 37, .iload 3, .ifCond .eq 33, .aload 0, .getfield 72, .iload 2, .ldc_w 16, .imul, .iload 4, .iadd, .iaload, .aload 0, .getfield 72, .iload 1, .ldc_w 16, .imul, .iload 4, .iadd, .iaload, .if_icmp .ne 33, .ldc_w 1, .goto 34, .ldc_w 0, .istore 3, .iinc 4 1, .goto 9, .iload 3, .ifCond .eq 41, .iload 2, .ireturn, .iinc 2 1, .goto 2, .iload 1, .ireturn]
/-- 181: RecordDeskLaw.toSpare(LRecordDesk;II[J)I -/
def am_c181 : List Instr := [.aload 3, .ldc_w 0, .aload 0, .iload 1, .iload 2, .invokevirtual 182, .i2l, .lastore, .goto 15, .astore 4, .ldc_w 1, .ireturn, .astore 4, .ldc_w 2, .ireturn, .ldc_w 0, .ireturn]
/-- 182: RecordDesk.toSpare(II)I -/
def am_c182 : List Instr := [.aload 0, .iload 1, .iload 2, .invokevirtual 178, .ldc_w 1, .istore 3, .aload 0, .iload 1, .aload 0, .getfield 12, .getfield 2042, .ldc_w 1, .iaload, .ldc_w 1, .invokevirtual 179, .istore 4, .ldc_w 2, .istore 5, .iload 5, .ldc_w 9, .if_icmp .gt 40, .aload 0, .iload 1, .aload 0, .getfield 12, .getfield 2042, .ldc_w 1, .iaload, .iload 5, .invokevirtual 179, .istore 6, .iload 6, .iload 4, .if_icmp .ge 38, .iload 6, .istore 4, .iload 5, .istore 3, .iinc 5 1, .goto 18, .iload 2, .ifCond .ne 44, .iload 3, .goto 45, .iload 4, .ireturn]
/-- 183: RecordDeskModel.<init>()V -/
def am_c183 : List Instr := [.aload 0, .invokespecial 10000, .aload 0, .ldc_w 4, .anewarray 0, .dup, .ldc_w 0, .ldc 36, .aastore, .dup, .ldc_w 1, .ldc 37, .aastore, .dup, .ldc_w 2, .ldc 38, .aastore, .dup, .ldc_w 3, .ldc 39, .aastore, .putfield 12002, .aload 0, .ldc_w 2, .anewarray 0, .dup, .ldc_w 0, .ldc 40, .aastore, .dup, .ldc_w 1, .ldc 41, .aastore, .putfield 12012, .aload 0, .ldc_w 13, .anewarray 0, .dup, .ldc_w 0, .ldc 42, .aastore, .dup, .ldc_w 1, .ldc 43, .aastore, .dup, .ldc_w 2, .ldc 44, .aastore, .dup, .ldc_w 3, .ldc 45, .aastore, .dup, .ldc_w 4, .ldc 46, .aastore, .dup, .ldc_w 5, .ldc 47, .aastore, .dup, .ldc_w 6, .ldc 48, .aastore, .dup, .ldc_w 7, .ldc 49, .aastore, .dup, .ldc_w 8, .ldc 50, .aastore, .dup, .ldc_w 9, .ldc 51, .aastore, .dup, .ldc_w 10, .ldc 52, .aastore, .dup, .ldc_w 11, .ldc 53, .aastore, .dup, .ldc_w 12, .ldc 54, .aastore, .putfield 12022, .aload 0, .ldc_w 10, .newarray .int, .dup, .ldc_w 0, .ldc_w 3, .iastore, .dup, .ldc_w 1, .ldc_w 1, .iastore, .dup, .ldc_w 2, .ldc_w 10, .iastore, .dup, .ldc_w 3, .ldc_w 4, .iastore, .dup, .ldc_w 4, .ldc_w 0, .iastore, .dup, .ldc_w 5, .ldc_w 3, .iastore, .dup, .ldc_w 6, .ldc_w 1, .iastore, .dup, .ldc_w 7, .ldc_w 10, .iastore, .dup, .ldc_w 8, .ldc_w 4, .iastore, .dup, .ldc_w 9, .ldc_w 0, .iastore, .putfield 12042, .aload 0, .ldc_w 32, .newarray .int, .putfield 12052, .aload 0, .ldc_w 8, .newarray .int, .putfield 12062, .aload 0, .ldc_w 128, .newarray .int, .putfield 12072, .aload 0, .ldc_w 128, .newarray .int, .putfield 12082, .aload 0, .ldc_w 128, .newarray .int, .putfield 12092, .aload 0, .ldc_w 128, .newarray .int, .putfield 12102, .aload 0, .ldc_w 2, .newarray .int, .putfield 12112, .aload 0, .ldc_w 700, .newarray .int, .putfield 12142, .aload 0, .iconst (-1), .putfield 12240, .aload 0, .ldc_w 16, .newarray .int, .putfield 12252, .aload 0, .ldc_w 16, .newarray .int, .putfield 12262, .aload 0, .ldc_w 16, .newarray .int, .putfield 12272, .aload 0, .ldc_w 16, .newarray .int, .putfield 12282, .aload 0, .ldc_w 51, .newarray .int, .putfield 12302, .aload 0, .ldc_w 20451, .newarray .int, .putfield 12312, .aload 0, .ldc_w 401, .newarray .int, .putfield 12322, .aload 0, .ldc_w 401, .newarray .int, .putfield 12332, .aload 0, .ldc_w 400, .newarray .int, .putfield 12342, .aload 0, .ldc_w 400, .newarray .int, .putfield 12352, .aload 0, .ldc_w 400, .newarray .int, .putfield 12362, .aload 0, .ldc_w 90, .newarray .int, .putfield 12372, .aload 0, .ldc_w 3, .newarray .int, .putfield 12382, .aload 0, .ldc_w 9, .newarray .int, .putfield 12412, .aload 0, .ldc_w 40, .newarray .int, .putfield 12442, .aload 0, .ldc_w 40, .newarray .int, .putfield 12452, .aload 0, .ldc_w 2807, .newarray .long, .putfield 12462, .aload 0, .ldc_w 401, .newarray .int, .putfield 12472, .aload 0, .ldc_w 4096, .newarray .boolean, .putfield 12482, .aload 0, .ldc_w 64, .newarray .int, .putfield 12492, .aload 0, .ldc_w 64, .newarray .int, .putfield 12502, .aload 0, .ldc_w 112, .newarray .int, .putfield 12572, .aload 0, .ldc_w 20451, .newarray .int, .putfield 12622, .aload 0, .ldc_w 401, .newarray .int, .putfield 12632, .aload 0, .ldc_w 401, .newarray .int, .putfield 12642, .aload 0, .ldc_w 400, .newarray .int, .putfield 12652, .aload 0, .ldc_w 400, .newarray .int, .putfield 12662, .aload 0, .ldc_w 400, .newarray .int, .putfield 12672, .aload 0, .ldc_w 90, .newarray .int, .putfield 12682, .aload 0, .ldc_w 3, .newarray .int, .putfield 12692, .aload 0, .ldc_w 40, .newarray .int, .putfield 12702, .aload 0, .ldc_w 40, .newarray .int, .putfield 12712, .aload 0, .ldc_w 2, .newarray .int, .putfield 12722, .aload 0, .aload 0, .getfield 12042, .ldc_w 1, .iaload, .invokevirtual 184, .aload 0, .ldc_w 0, .invokevirtual 185, .return_]
/-- 184: RecordDeskModel.layFirst(I)V -/
def am_c184 : List Instr := [.ldc_w 0, .istore 2, .iload 2, .ldc_w 51, .if_icmp .ge 20, .aload 0, .getfield 12302, .iload 2, .iload 2, .ldc_w 16, .if_icmp .ge 16, .aload 0, .getfield 12052, .iload 2, .iaload, .goto 17, .ldc_w 0, .iastore, .iinc 2 1, .goto 2, .ldc_w 0, .istore 2, .iload 2, .ldc_w 4, .if_icmp .ge 34, .aload 0, .getfield 12302, .ldc_w 40, .iload 2, .iadd, .iconst (-1), .iastore, .iinc 2 1, .goto 22, .aload 0, .getfield 12302, .ldc_w 44, .iconst (-1), .iastore, .aload 0, .getfield 12302, .ldc_w 46, .iload 1, .iastore, .return_]
/-- 185: RecordDeskModel.keepRow(I)V -/
def am_c185 : List Instr := [.ldc_w 0, .istore 2, .iload 2, .ldc_w 51, .if_icmp .ge 19, .aload 0, .getfield 12312, .ldc_w 51, .iload 1, .imul, .iload 2, .iadd, .aload 0, .getfield 12302, .iload 2, .iaload, .iastore, .iinc 2 1, .goto 2, .return_]
/-- 186: RecordDeskModel.thrown()I -/
def am_c186 : List Instr := [.aload 0, .getfield 12030, .ireturn]
/-- 187: RecordDeskModel.feed(IIIII)I -/
def am_c187 : List Instr := [.aload 0, .ldc_w 0, .putfield 12030, .aload 0, .getfield 12150, .ldc_w 20, .iadd, .ldc_w 700, .if_icmp .le 11, .iconst (-1), .ireturn, .ldc_w 0, .istore 6, .iload 6, .ldc_w 20, .if_icmp .ge 62, .iload 6, .ldc_w 4, .if_icmp .ge 21, .iload 1, .goto 37, .iload 6, .ldc_w 8, .if_icmp .ge 26, .iload 2, .goto 37, .iload 6, .ldc_w 12, .if_icmp .ge 31, .iload 3, .goto 37, .iload 6, .ldc_w 16, .if_icmp .ge 36, .iload 4, .goto 37, .iload 5, .istore 7, .aload 0, .getfield 12142, .aload 0, .getfield 12150, .iload 7, .ldc_w 24, .ldc_w 8, .iload 6, .ldc_w 4, .irem, .imul, .isub, .ishr, .ldc_w 255, .iand, .iastore, .aload 0, .dup, .getfield 12150, .ldc_w 1, .iadd, .putfield 12150, .iinc 6 1, .goto 13, .aload 0, .getfield 12150, .ireturn]
/-- 188: RecordDeskModel.program(I)I -/
def am_c188 : List Instr := [.aload 0, .ldc_w 0, .putfield 12030, .iload 1, .ifCond .lt 9, .iload 1, .aload 0, .getfield 12150, .if_icmp .le 13, .aload 0, .ldc_w 1, .invokevirtual 189, .ireturn, .aload 0, .ldc_w 0, .putfield 12150, .aload 0, .iload 1, .putfield 12170, .aload 0, .ldc_w 0, .putfield 12160, .aload 0, .ldc_w 0, .putfield 12220, .aload 0, .iconst (-1), .putfield 12240, .aload 0, .iconst (-1), .putfield 12290, .ldc_w 0, .istore 2, .iload 2, .ldc_w 5, .if_icmp .ge 64, .aload 0, .getfield 12042, .ldc_w 5, .iload 2, .iadd, .iload 2, .ifCond .ne 45, .ldc_w 3, .goto 61, .iload 2, .ldc_w 1, .if_icmp .ne 50, .ldc_w 1, .goto 61, .iload 2, .ldc_w 2, .if_icmp .ne 55, .ldc_w 10, .goto 61, .iload 2, .ldc_w 3, .if_icmp .ne 60, .ldc_w 4, .goto 61, .ldc_w 0, .iastore, .iinc 2 1, .goto 33, .ldc_w 0, .istore 2, .iload 2, .ldc_w 16, .if_icmp .ge 78, .aload 0, .getfield 12052, .ldc_w 16, .iload 2, .iadd, .ldc_w 0, .iastore, .iinc 2 1, .goto 66, .aload 0, .invokevirtual 190, .ldc_w 0, .istore 2, .aload 0, .getfield 12220, .ifCond .ne 93, .aload 0, .getfield 12180, .ifCond .eq 93, .aload 0, .iload 2, .invokevirtual 194, .istore 2, .goto 82, .aload 0, .getfield 12220, .ifCond .ne 107, .aload 0, .getfield 12290, .iconst (-1), .if_icmp .eq 107, .aload 0, .ldc_w 3, .putfield 12220, .aload 0, .aload 0, .getfield 12290, .putfield 12230, .aload 0, .getfield 12220, .ifCond .eq 125, .aload 0, .aload 0, .getfield 12230, .putfield 12240, .aload 0, .getfield 12112, .ldc_w 0, .dup2, .iaload, .ldc_w 1, .iadd, .iastore, .aload 0, .getfield 12220, .ireturn, .aload 0, .invokevirtual 213, .ldc_w 0, .ireturn]
/-- 189: RecordDeskModel.fail(I)I -/
def am_c189 : List Instr := [.aload 0, .iload 1, .putfield 12030, .ldc_w 0, .ireturn]
/-- 190: RecordDeskModel.stepOn()V -/
def am_c190 : List Instr := [.aload 0, .aload 0, .getfield 12160, .invokevirtual 191, .ldc_w 32, .if_icmp .eq 12, .aload 0, .aload 0, .getfield 12160, .invokevirtual 191, .ldc_w 10, .if_icmp .ne 19, .aload 0, .dup, .getfield 12160, .ldc_w 1, .iadd, .putfield 12160, .goto 0, .aload 0, .aload 0, .getfield 12160, .putfield 12200, .aload 0, .aload 0, .getfield 12160, .invokevirtual 191, .istore 1, .iload 1, .iconst (-1), .if_icmp .ne 35, .aload 0, .ldc_w 0, .putfield 12180, .goto 116, .iload 1, .invokestatic 192, .ifCond .eq 55, .aload 0, .aload 0, .getfield 12160, .invokevirtual 191, .invokestatic 192, .ifCond .eq 51, .aload 0, .dup, .getfield 12160, .ldc_w 1, .iadd, .putfield 12160, .goto 38, .aload 0, .ldc_w 1, .putfield 12180, .goto 116, .iload 1, .invokestatic 193, .ifCond .eq 93, .aload 0, .ldc_w 0, .putfield 12190, .aload 0, .aload 0, .getfield 12160, .invokevirtual 191, .invokestatic 193, .ifCond .eq 89, .aload 0, .ldc_w 100000, .ldc_w 10, .aload 0, .getfield 12190, .imul, .aload 0, .aload 0, .getfield 12160, .invokevirtual 191, .iadd, .ldc_w 48, .isub, .invokestatic 10002, .putfield 12190, .aload 0, .dup, .getfield 12160, .ldc_w 1, .iadd, .putfield 12160, .goto 61, .aload 0, .ldc_w 2, .putfield 12180, .goto 116, .aload 0, .dup, .getfield 12160, .ldc_w 1, .iadd, .putfield 12160, .aload 0, .iload 1, .ldc_w 59, .if_icmp .eq 112, .iload 1, .ldc_w 44, .if_icmp .eq 112, .iload 1, .ldc_w 58, .if_icmp .eq 112, .iload 1, .ldc_w 45, .if_icmp .ne 114, .ldc_w 3, .goto 115, .ldc_w 4, .putfield 12180, .aload 0, .aload 0, .getfield 12160, .putfield 12210, .return_]
/-- 191: RecordDeskModel.byteAt(I)I -/
def am_c191 : List Instr := [.iload 1, .aload 0, .getfield 12170, .if_icmp .ge 9, .aload 0, .getfield 12142, .iload 1, .iaload, .goto 10, .iconst (-1), .ireturn]
/-- 192: RecordDeskModel.isLetter(I)Z -/
def am_c192 : List Instr := [.iload 0, .ldc_w 97, .if_icmp .lt 8, .iload 0, .ldc_w 122, .if_icmp .gt 8, .ldc_w 1, .goto 9, .ldc_w 0, .ireturn]
/-- 193: RecordDeskModel.isDigit(I)Z -/
def am_c193 : List Instr := [.iload 0, .ldc_w 48, .if_icmp .lt 8, .iload 0, .ldc_w 57, .if_icmp .gt 8, .ldc_w 1, .goto 9, .ldc_w 0, .ireturn]
/-- 194: RecordDeskModel.readClause(I)I -/
def am_c194 : List Instr := [.aload 0, .aload 0, .getfield 12002, .invokevirtual 195, .istore 2, .iload 2, .iconst (-1), .if_icmp .ne 10, .ldc_w 0, .goto 13, .ldc_w 1, .iload 2, .ishl, .istore 3, .aload 0, .getfield 12180, .ldc_w 1, .if_icmp .eq 21, .aload 0, .ldc_w 1, .invokevirtual 197, .iload 1, .iload 3, .iand, .ifCond .eq 28, .aload 0, .ldc_w 5, .invokevirtual 197, .aload 0, .getfield 12220, .ifCond .eq 33, .iload 1, .ireturn, .iload 2, .iconst (-1), .if_icmp .eq 73, .aload 0, .invokevirtual 190, .aload 0, .getfield 12042, .ldc_w 5, .iload 2, .iadd, .aload 0, .iload 2, .ldc_w 1, .if_icmp .ne 49, .ldc_w 0, .goto 55, .iload 2, .ldc_w 3, .if_icmp .ne 54, .ldc_w 2, .goto 55, .ldc_w 1, .iload 2, .ifCond .ne 59, .ldc_w 9, .goto 70, .iload 2, .ldc_w 1, .if_icmp .ne 64, .ldc_w 9999, .goto 70, .iload 2, .ldc_w 2, .if_icmp .ne 69, .ldc_w 50, .goto 70, .ldc_w 8, .invokevirtual 198, .iastore, .goto 119, .aload 0, .ldc 41, .invokevirtual 196, .ifCond .eq 80, .aload 0, .invokevirtual 200, .goto 119, .aload 0, .ldc 40, .invokevirtual 196, .ifCond .eq 116, .aload 0, .invokevirtual 190, .aload 0, .ldc_w 0, .ldc_w 15, .invokevirtual 199, .istore 4, .ldc_w 16, .iload 4, .ishl, .istore 3, .iload 1, .iload 3, .iand, .ifCond .eq 102, .aload 0, .ldc_w 5, .invokevirtual 197, .aload 0, .getfield 12220, .ifCond .ne 107, .aload 0, .invokevirtual 190, .aload 0, .getfield 12052, .ldc_w 16, .iload 4, .iadd, .aload 0, .invokevirtual 210, .iastore, .goto 119, .aload 0, .ldc_w 1, .invokevirtual 197, .aload 0, .ldc_w 59, .invokevirtual 206, .iload 1, .iload 3, .ior, .ireturn]
/-- 195: RecordDeskModel.which([Ljava/lang/String;)I -/
def am_c195 : List Instr := [.ldc_w 0, .istore 2, .iload 2, .aload 1, .arraylength, .if_icmp .ge 16, .aload 0, .aload 1, .iload 2, .aaload, .invokevirtual 196, .ifCond .eq 14, .iload 2, .ireturn, .iinc 2 1, .goto 2, .iconst (-1), .ireturn]
/-- 196: RecordDeskModel.is(Ljava/lang/String;)Z -/
def am_c196 : List Instr := [.aload 0, .getfield 12220, .ifCond .ne 17, .aload 0, .getfield 12180, .ldc_w 1, .if_icmp .ne 17, .aload 1, .invokevirtual 67, .aload 0, .getfield 12210, .aload 0, .getfield 12200, .isub, .if_icmp .ne 17, .ldc_w 1, .goto 18, .ldc_w 0, .istore 2, .ldc_w 0, .istore 3, .iload 2, .ifCond .eq 44, .iload 3, .aload 1, .invokevirtual 67, .if_icmp .ge 44, .aload 1, .iload 3, .invokevirtual 69, .aload 0, .getfield 12142, .aload 0, .getfield 12200, .iload 3, .iadd, .iaload, .if_icmp .ne 40, .ldc_w 1, .goto 41, .ldc_w 0, .istore 2, .iinc 3 1, .goto 21, .iload 2, .ireturn]
/-- 197: RecordDeskModel.wrong(I)V -/
def am_c197 : List Instr := [.aload 0, .getfield 12220, .ifCond .eq 4, .return_, .aload 0, .iload 1, .putfield 12220, .aload 0, .aload 0, .getfield 12200, .putfield 12230, .return_]
/-- 198: RecordDeskModel.readNumber(II)I -/
def am_c198 : List Instr := [.aload 0, .iload 1, .iload 2, .invokevirtual 199, .istore 3, .aload 0, .getfield 12220, .ifCond .ne 10, .aload 0, .invokevirtual 190, .iload 3, .ireturn]
/-- 199: RecordDeskModel.numberNow(II)I -/
def am_c199 : List Instr := [.aload 0, .getfield 12220, .ifCond .eq 5, .iload 1, .ireturn, .aload 0, .getfield 12180, .ldc_w 2, .if_icmp .eq 13, .aload 0, .ldc_w 1, .invokevirtual 197, .goto 31, .aload 0, .getfield 12210, .aload 0, .getfield 12200, .isub, .ldc_w 4, .if_icmp .gt 28, .aload 0, .getfield 12190, .iload 1, .if_icmp .lt 28, .aload 0, .getfield 12190, .iload 2, .if_icmp .le 31, .aload 0, .ldc_w 2, .invokevirtual 197, .aload 0, .getfield 12220, .ifCond .ne 37, .aload 0, .getfield 12190, .goto 38, .iload 1, .ireturn]
/-- 200: RecordDeskModel.readThread()V -/
def am_c200 : List Instr := [.aload 0, .getfield 12042, .ldc_w 9, .iaload, .ldc_w 4, .if_icmp .ne 9, .aload 0, .ldc_w 2, .invokevirtual 197, .aload 0, .getfield 12220, .ifCond .eq 13, .return_, .aload 0, .invokevirtual 190, .aload 0, .getfield 12042, .ldc_w 9, .iaload, .istore 1, .ldc_w 0, .istore 2, .ldc_w 1, .istore 3, .iload 3, .ifCond .eq 39, .aload 0, .getfield 12220, .ifCond .ne 39, .aload 0, .iload 1, .iload 2, .invokevirtual 201, .iinc 2 1, .aload 0, .ldc_w 44, .invokevirtual 211, .istore 3, .goto 24, .ldc_w 0, .istore 4, .iload 4, .iload 2, .if_icmp .ge 104, .aload 0, .getfield 12220, .ifCond .ne 104, .aload 0, .getfield 12102, .ldc_w 16, .ldc_w 4, .iload 1, .iadd, .imul, .iload 4, .iadd, .aload 0, .getfield 12282, .iload 4, .iaload, .ifCond .ne 63, .iconst (-1), .goto 74, .aload 0, .aload 0, .getfield 12272, .iload 4, .iaload, .aload 0, .getfield 12282, .iload 4, .iaload, .iload 2, .invokevirtual 205, .iastore, .aload 0, .getfield 12282, .iload 4, .iaload, .ifCond .le 102, .aload 0, .getfield 12102, .ldc_w 16, .ldc_w 4, .iload 1, .iadd, .imul, .iload 4, .iadd, .iaload, .iconst (-1), .if_icmp .ne 102, .aload 0, .getfield 12290, .iconst (-1), .if_icmp .ne 102, .aload 0, .aload 0, .getfield 12272, .iload 4, .iaload, .putfield 12290, .iinc 4 1, .goto 41, .aload 0, .getfield 12062, .ldc_w 4, .iload 1, .iadd, .iload 2, .iastore, .aload 0, .getfield 12042, .ldc_w 9, .dup2, .iaload, .ldc_w 1, .iadd, .iastore, .return_]
/-- 201: RecordDeskModel.readLine(II)V -/
def am_c201 : List Instr := [.aload 0, .getfield 12220, .ifCond .ne 22, .aload 0, .getfield 12180, .ldc_w 1, .if_icmp .ne 22, .iload 2, .ldc_w 16, .if_icmp .ne 22, .aload 0, .invokevirtual 202, .ifCond .eq 19, .aload 0, .aload 0, .getfield 12022, .invokevirtual 195, .iconst (-1), .if_icmp .eq 22, .aload 0, .ldc_w 2, .invokevirtual 197, .aload 0, .getfield 12220, .ifCond .ne 35, .aload 0, .getfield 12180, .ldc_w 1, .if_icmp .ne 32, .iload 2, .ldc_w 16, .if_icmp .ne 35, .aload 0, .ldc_w 1, .invokevirtual 197, .aload 0, .getfield 12220, .ifCond .eq 39, .return_, .aload 0, .getfield 12262, .iload 2, .ldc_w 0, .iastore, .aload 0, .getfield 12282, .iload 2, .ldc_w 0, .iastore, .aload 0, .aload 0, .getfield 12022, .invokevirtual 195, .iconst (-1), .if_icmp .ne 58, .aload 0, .iload 2, .invokevirtual 203, .aload 0, .aload 0, .getfield 12022, .invokevirtual 195, .istore 3, .aload 0, .getfield 12220, .ifCond .ne 72, .iload 3, .iconst (-1), .if_icmp .ne 72, .aload 0, .ldc_w 1, .invokevirtual 197, .aload 0, .getfield 12220, .ifCond .eq 76, .return_, .aload 0, .invokevirtual 190, .ldc_w 16, .ldc_w 4, .iload 1, .iadd, .imul, .iload 2, .iadd, .istore 4, .aload 0, .getfield 12072, .iload 4, .iload 3, .iastore, .aload 0, .iload 3, .iload 4, .iload 2, .invokevirtual 208, .return_]
/-- 202: RecordDeskModel.isQuoted()Z -/
def am_c202 : List Instr := [.aload 0, .aload 0, .getfield 12002, .invokevirtual 195, .iconst (-1), .if_icmp .ne 18, .aload 0, .aload 0, .getfield 12012, .invokevirtual 195, .iconst (-1), .if_icmp .ne 18, .aload 0, .aload 0, .getfield 12022, .invokevirtual 195, .iconst (-1), .if_icmp .eq 20, .ldc_w 1, .goto 21, .ldc_w 0, .ireturn]
/-- 203: RecordDeskModel.readLabel(I)V -/
def am_c203 : List Instr := [.aload 0, .invokevirtual 204, .ifCond .ne 4, .return_, .aload 0, .aload 0, .getfield 12200, .aload 0, .getfield 12210, .aload 0, .getfield 12200, .isub, .iload 1, .invokevirtual 205, .iconst (-1), .if_icmp .eq 19, .aload 0, .ldc_w 4, .invokevirtual 197, .aload 0, .getfield 12252, .iload 1, .aload 0, .getfield 12200, .iastore, .aload 0, .getfield 12262, .iload 1, .aload 0, .getfield 12210, .aload 0, .getfield 12200, .isub, .iastore, .aload 0, .getfield 12220, .ifCond .ne 39, .aload 0, .invokevirtual 190, .aload 0, .ldc_w 58, .invokevirtual 206, .return_]
/-- 204: RecordDeskModel.nameHere()Z -/
def am_c204 : List Instr := [.aload 0, .getfield 12220, .ifCond .eq 5, .ldc_w 0, .ireturn, .aload 0, .getfield 12180, .ldc_w 1, .if_icmp .ne 12, .aload 0, .invokevirtual 202, .ifCond .eq 16, .aload 0, .ldc_w 1, .invokevirtual 197, .goto 26, .aload 0, .getfield 12210, .aload 0, .getfield 12200, .isub, .ldc_w 8, .if_icmp .le 26, .aload 0, .ldc_w 2, .invokevirtual 197, .aload 0, .getfield 12220, .ifCond .ne 31, .ldc_w 1, .goto 32, .ldc_w 0, .ireturn]
/-- 205: RecordDeskModel.named(III)I -/
def am_c205 : List Instr := [.ldc_w 0, .istore 4, .iload 4, .iload 3, .if_icmp .ge 50, .aload 0, .getfield 12262, .iload 4, .iaload, .iload 2, .if_icmp .ne 13, .ldc_w 1, .goto 14, .ldc_w 0, .istore 5, .ldc_w 0, .istore 6, .iload 5, .ifCond .eq 44, .iload 6, .iload 2, .if_icmp .ge 44, .aload 0, .getfield 12142, .iload 1, .iload 6, .iadd, .iaload, .aload 0, .getfield 12142, .aload 0, .getfield 12252, .iload 4, .iaload, .iload 6, .iadd, .iaload, .if_icmp .ne 40, .ldc_w 1, .goto 41, .ldc_w 0, .istore 5, .iinc 6 1, .goto 17, .iload 5, .ifCond .eq 48, .iload 4, .ireturn, .iinc 4 1, .goto 2, .iconst (-1), .ireturn]
/-- 206: RecordDeskModel.mark(I)V -/
def am_c206 : List Instr := [.aload 0, .getfield 12220, .ifCond .ne 10, .aload 0, .iload 1, .invokevirtual 207, .ifCond .ne 10, .aload 0, .ldc_w 1, .invokevirtual 197, .aload 0, .getfield 12220, .ifCond .ne 15, .aload 0, .invokevirtual 190, .return_]
/-- 207: RecordDeskModel.isMarked(I)Z -/
def am_c207 : List Instr := [.aload 0, .getfield 12220, .ifCond .ne 16, .aload 0, .getfield 12180, .ldc_w 3, .if_icmp .ne 16, .aload 0, .getfield 12142, .aload 0, .getfield 12200, .iaload, .iload 1, .if_icmp .ne 16, .ldc_w 1, .goto 17, .ldc_w 0, .ireturn]
/-- 208: RecordDeskModel.readOperands(III)V -/
def am_c208 : List Instr := [.iload 1, .ifCond .ne 15, .aload 0, .getfield 12082, .iload 2, .aload 0, .invokevirtual 209, .iastore, .aload 0, .getfield 12092, .iload 2, .aload 0, .invokevirtual 210, .iastore, .goto 124, .iload 1, .ldc_w 1, .if_icmp .ne 33, .aload 0, .getfield 12082, .iload 2, .aload 0, .invokevirtual 209, .iastore, .aload 0, .getfield 12092, .iload 2, .aload 0, .ldc_w 0, .ldc_w 15, .invokevirtual 198, .iastore, .goto 124, .iload 1, .ldc_w 2, .if_icmp .ne 51, .aload 0, .getfield 12082, .iload 2, .aload 0, .ldc_w 0, .ldc_w 15, .invokevirtual 198, .iastore, .aload 0, .getfield 12092, .iload 2, .aload 0, .invokevirtual 209, .iastore, .goto 124, .iload 1, .ldc_w 5, .if_icmp .gt 67, .aload 0, .getfield 12082, .iload 2, .aload 0, .invokevirtual 209, .iastore, .aload 0, .getfield 12092, .iload 2, .aload 0, .invokevirtual 209, .iastore, .goto 124, .iload 1, .ldc_w 6, .if_icmp .ne 85, .aload 0, .getfield 12082, .iload 2, .aload 0, .invokevirtual 209, .iastore, .aload 0, .getfield 12092, .iload 2, .aload 0, .ldc_w 0, .ldc_w 2, .invokevirtual 198, .iastore, .goto 124, .iload 1, .ldc_w 8, .if_icmp .gt 97, .aload 0, .getfield 12082, .iload 2, .aload 0, .ldc_w 0, .ldc_w 3, .invokevirtual 198, .iastore, .goto 124, .iload 1, .ldc_w 10, .if_icmp .eq 103, .iload 1, .ldc_w 11, .if_icmp .ne 109, .aload 0, .getfield 12082, .iload 2, .aload 0, .invokevirtual 209, .iastore, .iload 1, .ldc_w 11, .if_icmp .ne 118, .aload 0, .getfield 12092, .iload 2, .aload 0, .invokevirtual 209, .iastore, .iload 1, .ldc_w 11, .if_icmp .gt 124, .aload 0, .iload 3, .invokevirtual 212, .return_]
/-- 209: RecordDeskModel.readRegister()I -/
def am_c209 : List Instr := [.aload 0, .ldc_w 0, .ldc_w 3, .invokevirtual 198, .ireturn]
/-- 210: RecordDeskModel.readSigned()I -/
def am_c210 : List Instr := [.aload 0, .ldc_w 45, .invokevirtual 211, .istore 1, .aload 0, .ldc_w 0, .ldc_w 9999, .invokevirtual 198, .istore 2, .iload 1, .ifCond .eq 14, .iload 2, .ineg, .goto 15, .iload 2, .ireturn]
/-- 211: RecordDeskModel.passes(I)Z -/
def am_c211 : List Instr := [.aload 0, .iload 1, .invokevirtual 207, .istore 2, .iload 2, .ifCond .eq 8, .aload 0, .invokevirtual 190, .iload 2, .ireturn]
/-- 212: RecordDeskModel.readTarget(I)V -/
def am_c212 : List Instr := [.aload 0, .invokevirtual 204, .ifCond .ne 4, .return_, .aload 0, .getfield 12272, .iload 1, .aload 0, .getfield 12200, .iastore, .aload 0, .getfield 12282, .iload 1, .aload 0, .getfield 12210, .aload 0, .getfield 12200, .isub, .iastore, .aload 0, .invokevirtual 190, .return_]
/-- 213: RecordDeskModel.takeOver()V -/
def am_c213 : List Instr := [.aload 0, .getfield 12042, .invokestatic 214, .aload 0, .getfield 12052, .invokestatic 214, .aload 0, .getfield 12062, .invokestatic 214, .aload 0, .getfield 12072, .invokestatic 214, .aload 0, .getfield 12082, .invokestatic 214, .aload 0, .getfield 12092, .invokestatic 214, .aload 0, .getfield 12102, .invokestatic 214, .ldc_w 0, .istore 1, .iload 1, .ldc_w 3, .if_icmp .ge 33, .aload 0, .getfield 12382, .iload 1, .ldc_w 0, .iastore, .iinc 1 1, .goto 23, .aload 0, .ldc_w 0, .putfield 12120, .aload 0, .ldc_w 0, .putfield 12130, .aload 0, .ldc_w 0, .putfield 12430, .aload 0, .ldc_w 0, .putfield 12585, .aload 0, .aload 0, .getfield 12042, .ldc_w 1, .iaload, .invokevirtual 184, .aload 0, .ldc_w 0, .invokevirtual 185, .return_]
/-- 214: RecordDeskModel.takeHalf([I)V -/
def am_c214 : List Instr := [.ldc_w 0, .istore 1, .iload 1, .aload 0, .arraylength, .ldc_w 2, .idiv, .if_icmp .ge 21, .aload 0, .iload 1, .aload 0, .aload 0, .arraylength, .ldc_w 2, .idiv, .iload 1, .iadd, .iaload, .iastore, .iinc 1 1, .goto 2, .return_]
/-- 215: RecordDeskModel.fault()I -/
def am_c215 : List Instr := [.aload 0, .ldc_w 0, .putfield 12030, .aload 0, .getfield 12240, .ireturn]
/-- 216: RecordDeskModel.count(I)I -/
def am_c216 : List Instr := [.aload 0, .ldc_w 0, .putfield 12030, .aload 0, .aload 0, .getfield 12120, .invokevirtual 217, .iload 1, .tableswitch 94 0 17 #[9, 14, 17, 22, 27, 32, 35, 43, 46, 49, 54, 57, 60, 63, 81, 84, 87, 87], .aload 0, .getfield 12042, .ldc_w 4, .iaload, .ireturn, .aload 0, .getfield 12120, .ireturn, .aload 0, .getfield 12302, .ldc_w 44, .iaload, .ireturn, .aload 0, .getfield 12302, .ldc_w 45, .iaload, .ireturn, .aload 0, .getfield 12302, .ldc_w 47, .iaload, .ireturn, .aload 0, .invokevirtual 218, .ireturn, .aload 0, .getfield 12120, .aload 0, .getfield 12042, .ldc_w 2, .iaload, .idiv, .ireturn, .aload 0, .invokevirtual 219, .ireturn, .aload 0, .invokevirtual 224, .ireturn, .aload 0, .invokevirtual 225, .aload 0, .getfield 12420, .ireturn, .aload 0, .invokevirtual 227, .ireturn, .aload 0, .getfield 12130, .ireturn, .aload 0, .invokevirtual 229, .ireturn, .aload 0, .getfield 12382, .ldc_w 0, .iaload, .aload 0, .getfield 12382, .ldc_w 1, .iaload, .iadd, .aload 0, .getfield 12382, .ldc_w 2, .iaload, .iadd, .aload 0, .invokevirtual 218, .isub, .ireturn, .aload 0, .getfield 12430, .ireturn, .aload 0, .getfield 12150, .ireturn, .aload 0, .getfield 12112, .iload 1, .ldc_w 16, .isub, .iaload, .ireturn, .aload 0, .ldc_w 1, .invokevirtual 189, .ireturn]
/-- 217: RecordDeskModel.takeRow(I)V -/
def am_c217 : List Instr := [.ldc_w 0, .istore 2, .iload 2, .ldc_w 51, .if_icmp .ge 19, .aload 0, .getfield 12302, .iload 2, .aload 0, .getfield 12312, .ldc_w 51, .iload 1, .imul, .iload 2, .iadd, .iaload, .iastore, .iinc 2 1, .goto 2, .return_]
/-- 218: RecordDeskModel.readMany()I -/
def am_c218 : List Instr := [.ldc_w 0, .istore 1, .ldc_w 0, .istore 2, .iload 2, .ldc_w 3, .if_icmp .ge 18, .iload 1, .aload 0, .getfield 12302, .ldc_w 48, .iload 2, .iadd, .iaload, .iadd, .istore 1, .iinc 2 1, .goto 4, .iload 1, .ireturn]
/-- 219: RecordDeskModel.goers()I -/
def am_c219 : List Instr := [.ldc_w 0, .istore 1, .ldc_w 0, .istore 2, .iload 2, .aload 0, .getfield 12042, .ldc_w 4, .iaload, .if_icmp .ge 22, .iload 1, .aload 0, .iload 2, .invokevirtual 220, .ifCond .eq 17, .ldc_w 1, .goto 18, .ldc_w 0, .iadd, .istore 1, .iinc 2 1, .goto 4, .iload 1, .ireturn]
/-- 220: RecordDeskModel.canGo(I)Z -/
def am_c220 : List Instr := [.aload 0, .iload 1, .invokevirtual 221, .ifCond .eq 6, .ldc_w 0, .ireturn, .aload 0, .iload 1, .invokevirtual 223, .istore 2, .aload 0, .getfield 12072, .iload 2, .iaload, .ldc_w 7, .if_icmp .ne 31, .aload 0, .getfield 12302, .ldc_w 40, .aload 0, .getfield 12082, .iload 2, .iaload, .iadd, .iaload, .iconst (-1), .if_icmp .ne 29, .ldc_w 1, .goto 30, .ldc_w 0, .ireturn, .aload 0, .getfield 12072, .iload 2, .iaload, .ldc_w 6, .if_icmp .ne 54, .aload 0, .getfield 12302, .ldc_w 48, .aload 0, .getfield 12092, .iload 2, .iaload, .iadd, .iaload, .aload 0, .getfield 12382, .aload 0, .getfield 12092, .iload 2, .iaload, .iaload, .if_icmp .ge 56, .ldc_w 1, .goto 57, .ldc_w 0, .ireturn]
/-- 221: RecordDeskModel.hasEnded(I)Z -/
def am_c221 : List Instr := [.aload 0, .getfield 12302, .iload 1, .ldc_w 4, .invokestatic 222, .iaload, .aload 0, .getfield 12062, .iload 1, .iaload, .if_icmp .lt 13, .ldc_w 1, .goto 14, .ldc_w 0, .ireturn]
/-- 222: RecordDeskModel.threadAt(II)I -/
def am_c222 : List Instr := [.ldc_w 16, .ldc_w 6, .iload 0, .imul, .iadd, .iload 1, .iadd, .ireturn]
/-- 223: RecordDeskModel.nextOf(I)I -/
def am_c223 : List Instr := [.ldc_w 16, .iload 1, .imul, .aload 0, .getfield 12302, .iload 1, .ldc_w 4, .invokestatic 222, .iaload, .iadd, .ireturn]
/-- 224: RecordDeskModel.endedMany()I -/
def am_c224 : List Instr := [.ldc_w 0, .istore 1, .ldc_w 0, .istore 2, .iload 2, .aload 0, .getfield 12042, .ldc_w 4, .iaload, .if_icmp .ge 22, .iload 1, .aload 0, .iload 2, .invokevirtual 221, .ifCond .eq 17, .ldc_w 1, .goto 18, .ldc_w 0, .iadd, .istore 1, .iinc 2 1, .goto 4, .iload 1, .ireturn]
/-- 225: RecordDeskModel.tellSnaps()V -/
def am_c225 : List Instr := [.aload 0, .getfield 12412, .ldc_w 0, .ldc_w 0, .iastore, .aload 0, .ldc_w 1, .putfield 12420, .ldc_w 16, .istore 1, .iload 1, .aload 0, .getfield 12120, .if_icmp .gt 37, .aload 0, .getfield 12412, .aload 0, .getfield 12420, .iload 1, .iastore, .aload 0, .dup, .getfield 12420, .ldc_w 1, .iadd, .putfield 12420, .aload 0, .getfield 12420, .aload 0, .getfield 12042, .ldc_w 3, .iaload, .if_icmp .le 35, .aload 0, .invokevirtual 226, .iinc 1 16, .goto 10, .return_]
/-- 226: RecordDeskModel.dropSnap()V -/
def am_c226 : List Instr := [.ldc_w 1, .istore 1, .ldc_w 2, .istore 2, .iload 2, .aload 0, .getfield 12420, .ldc_w 1, .isub, .if_icmp .ge 41, .aload 0, .getfield 12412, .iload 2, .ldc_w 1, .iadd, .iaload, .aload 0, .getfield 12412, .iload 2, .ldc_w 1, .isub, .iaload, .isub, .aload 0, .getfield 12412, .iload 1, .ldc_w 1, .iadd, .iaload, .aload 0, .getfield 12412, .iload 1, .ldc_w 1, .isub, .iaload, .isub, .if_icmp .ge 39, .iload 2, .istore 1, .iinc 2 1, .goto 4, .aload 0, .dup, .getfield 12420, .ldc_w 1, .isub, .putfield 12420, .iload 1, .istore 2, .iload 2, .aload 0, .getfield 12420, .if_icmp .ge 65, .aload 0, .getfield 12412, .iload 2, .aload 0, .getfield 12412, .iload 2, .ldc_w 1, .iadd, .iaload, .iastore, .iinc 2 1, .goto 49, .return_]
/-- 227: RecordDeskModel.greatestCost()I -/
def am_c227 : List Instr := [.ldc_w 0, .istore 1, .aload 0, .invokevirtual 225, .ldc_w 0, .istore 2, .iload 2, .aload 0, .getfield 12120, .if_icmp .gt 18, .iload 1, .aload 0, .iload 2, .invokevirtual 228, .invokestatic 10001, .istore 1, .iinc 2 1, .goto 6, .iload 1, .ireturn]
/-- 228: RecordDeskModel.costOf(I)I -/
def am_c228 : List Instr := [.ldc_w 0, .istore 2, .ldc_w 0, .istore 3, .iload 3, .aload 0, .getfield 12420, .if_icmp .ge 23, .aload 0, .getfield 12412, .iload 3, .iaload, .iload 1, .if_icmp .gt 19, .aload 0, .getfield 12412, .iload 3, .iaload, .goto 20, .iload 2, .istore 2, .iinc 3 1, .goto 4, .iload 1, .iload 2, .isub, .ireturn]
/-- 229: RecordDeskModel.ring()I -/
def am_c229 : List Instr := [.ldc_w 0, .istore 1, .ldc_w 0, .istore 2, .iload 2, .aload 0, .getfield 12042, .ldc_w 4, .iaload, .if_icmp .ge 39, .iload 2, .istore 3, .ldc_w 0, .istore 4, .iload 4, .ldc_w 4, .if_icmp .ge 37, .iload 3, .iconst (-1), .if_icmp .eq 37, .aload 0, .iload 3, .invokevirtual 230, .istore 3, .iload 1, .iload 3, .iload 2, .if_icmp .ne 32, .ldc_w 1, .iload 2, .ishl, .goto 33, .ldc_w 0, .ior, .istore 1, .iinc 4 1, .goto 14, .iinc 2 1, .goto 4, .iload 1, .ireturn]
/-- 230: RecordDeskModel.waitsFor(I)I -/
def am_c230 : List Instr := [.aload 0, .iload 1, .invokevirtual 221, .ifCond .eq 6, .iconst (-1), .ireturn, .aload 0, .iload 1, .invokevirtual 223, .istore 2, .aload 0, .getfield 12072, .iload 2, .iaload, .ldc_w 7, .if_icmp .ne 26, .aload 0, .getfield 12302, .ldc_w 40, .aload 0, .getfield 12082, .iload 2, .iaload, .iadd, .iaload, .goto 27, .iconst (-1), .ireturn]
/-- 231: RecordDeskModel.set(I)I -/
def am_c231 : List Instr := [.aload 0, .ldc_w 0, .putfield 12030, .iload 1, .ldc_w 0, .ldc_w 3, .invokestatic 232, .ifCond .eq 13, .aload 0, .getfield 12042, .iload 1, .iaload, .goto 16, .aload 0, .ldc_w 1, .invokevirtual 189, .ireturn]
/-- 232: RecordDeskModel.isIn(III)Z -/
def am_c232 : List Instr := [.iload 0, .iload 1, .if_icmp .lt 8, .iload 0, .iload 2, .if_icmp .gt 8, .ldc_w 1, .goto 9, .ldc_w 0, .ireturn]
/-- 233: RecordDeskModel.steps(I)I -/
def am_c233 : List Instr := [.aload 0, .ldc_w 0, .putfield 12030, .aload 0, .aload 0, .getfield 12120, .invokevirtual 217, .iload 1, .ldc_w 1, .ldc_w 50, .invokestatic 232, .ifCond .eq 21, .aload 0, .getfield 12120, .iload 1, .iadd, .ldc_w 400, .if_icmp .gt 21, .aload 0, .invokevirtual 219, .ifCond .ne 24, .aload 0, .invokevirtual 234, .ireturn, .aload 0, .iconst (-1), .invokevirtual 235, .aload 0, .getfield 12120, .istore 2, .aload 0, .getfield 12120, .iload 2, .iload 1, .iadd, .if_icmp .ge 69, .aload 0, .aload 0, .getfield 12042, .ldc_w 0, .iaload, .ldc_w 1, .invokevirtual 236, .ifCond .eq 69, .aload 0, .dup, .getfield 12120, .ldc_w 1, .iadd, .putfield 12120, .aload 0, .getfield 12322, .aload 0, .getfield 12120, .aload 0, .getfield 12390, .iastore, .aload 0, .getfield 12332, .aload 0, .getfield 12120, .aload 0, .getfield 12400, .iastore, .aload 0, .aload 0, .getfield 12120, .invokevirtual 185, .goto 30, .aload 0, .getfield 12120, .iload 2, .isub, .ireturn]
/-- 234: RecordDeskModel.refuse()I -/
def am_c234 : List Instr := [.aload 0, .getfield 12112, .ldc_w 1, .dup2, .iaload, .ldc_w 1, .iadd, .iastore, .iconst (-1), .ireturn]
/-- 235: RecordDeskModel.keep(I)V -/
def am_c235 : List Instr := [.aload 0, .getfield 12430, .ldc_w 40, .if_icmp .ne 38, .aload 0, .dup, .getfield 12430, .ldc_w 1, .isub, .putfield 12430, .ldc_w 0, .istore 2, .iload 2, .aload 0, .getfield 12430, .if_icmp .ge 38, .aload 0, .getfield 12442, .iload 2, .aload 0, .getfield 12442, .iload 2, .ldc_w 1, .iadd, .iaload, .iastore, .aload 0, .getfield 12452, .iload 2, .aload 0, .getfield 12452, .iload 2, .ldc_w 1, .iadd, .iaload, .iastore, .iinc 2 1, .goto 12, .aload 0, .getfield 12442, .aload 0, .getfield 12430, .iload 1, .iastore, .aload 0, .getfield 12452, .aload 0, .getfield 12430, .aload 0, .getfield 12120, .iastore, .aload 0, .dup, .getfield 12430, .ldc_w 1, .iadd, .putfield 12430, .return_]
/-- 236: RecordDeskModel.liveStep(IZ)Z -/
def am_c236 : List Instr := [.aload 0, .getfield 12302, .ldc_w 44, .iaload, .iconst (-1), .if_icmp .eq 18, .aload 0, .getfield 12302, .ldc_w 45, .iaload, .ifCond .eq 18, .aload 0, .aload 0, .getfield 12302, .ldc_w 44, .iaload, .invokevirtual 220, .ifCond .ne 30, .aload 0, .invokevirtual 219, .istore 3, .iload 3, .ifCond .ne 25, .ldc_w 0, .ireturn, .aload 0, .iload 3, .iload 1, .iload 2, .invokevirtual 237, .aload 0, .aload 0, .invokevirtual 239, .invokevirtual 240, .aload 0, .getfield 12302, .ldc_w 45, .dup2, .iaload, .ldc_w 1, .isub, .iastore, .ldc_w 1, .ireturn]
/-- 237: RecordDeskModel.choose(IIZ)V -/
def am_c237 : List Instr := [.aload 0, .iload 1, .invokevirtual 238, .istore 4, .iconst (-1), .istore 5, .ldc_w 0, .istore 6, .iload 6, .aload 0, .getfield 12042, .ldc_w 4, .iaload, .if_icmp .ge 29, .iload 5, .iconst (-1), .if_icmp .ne 29, .aload 0, .iload 6, .invokevirtual 220, .ifCond .ne 22, .goto 27, .iload 4, .ifCond .ne 26, .iload 6, .istore 5, .iinc 4 (-1), .iinc 6 1, .goto 8, .aload 0, .getfield 12302, .ldc_w 45, .aload 0, .iload 2, .invokevirtual 238, .ldc_w 1, .iadd, .iastore, .aload 0, .getfield 12302, .ldc_w 44, .iaload, .istore 6, .iload 5, .iload 6, .if_icmp .ne 47, .return_, .iload 3, .ifCond .eq 93, .aload 0, .getfield 12342, .aload 0, .getfield 12302, .ldc_w 47, .iaload, .iload 6, .iconst (-1), .if_icmp .ne 60, .ldc_w 0, .goto 66, .aload 0, .getfield 12302, .iload 6, .ldc_w 5, .invokestatic 222, .iaload, .iastore, .aload 0, .getfield 12352, .aload 0, .getfield 12302, .ldc_w 47, .iaload, .iload 6, .iconst (-1), .if_icmp .ne 78, .ldc_w 0, .goto 84, .aload 0, .getfield 12302, .iload 6, .ldc_w 4, .invokestatic 222, .iaload, .iastore, .aload 0, .getfield 12362, .aload 0, .getfield 12302, .ldc_w 47, .iaload, .iload 5, .iastore, .aload 0, .getfield 12302, .ldc_w 47, .dup2, .iaload, .ldc_w 1, .iadd, .iastore, .aload 0, .getfield 12302, .ldc_w 44, .iload 5, .iastore, .return_]
/-- 238: RecordDeskModel.draw(I)I -/
def am_c238 : List Instr := [.aload 0, .getfield 12302, .ldc_w 46, .aload 0, .getfield 12302, .ldc_w 46, .iaload, .ldc_w 1103515245, .imul, .ldc_w 12345, .iadd, .iastore, .aload 0, .getfield 12302, .ldc_w 46, .iaload, .ldc_w 16, .ishr, .ldc_w 32767, .iand, .iload 1, .irem, .ireturn]
/-- 239: RecordDeskModel.inputNow()I -/
def am_c239 : List Instr := [.aload 0, .aload 0, .getfield 12302, .ldc_w 44, .iaload, .invokevirtual 223, .istore 1, .aload 0, .getfield 12072, .iload 1, .iaload, .ldc_w 6, .if_icmp .ne 33, .aload 0, .getfield 12372, .ldc_w 30, .aload 0, .getfield 12092, .iload 1, .iaload, .imul, .aload 0, .getfield 12302, .ldc_w 48, .aload 0, .getfield 12092, .iload 1, .iaload, .iadd, .iaload, .iadd, .iaload, .goto 34, .ldc_w 0, .ireturn]
/-- 240: RecordDeskModel.does(I)V -/
def am_c240 : List Instr := [.aload 0, .aload 0, .getfield 12302, .ldc_w 44, .iaload, .putfield 12390, .aload 0, .aload 0, .aload 0, .getfield 12390, .invokevirtual 223, .putfield 12400, .aload 0, .aload 0, .getfield 12390, .iload 1, .invokevirtual 241, .return_]
/-- 241: RecordDeskModel.doInstruction(II)V -/
def am_c241 : List Instr := [.aload 0, .iload 1, .invokevirtual 223, .istore 3, .iload 1, .aload 0, .getfield 12082, .iload 3, .iaload, .ldc_w 4, .if_icmp .ge 16, .aload 0, .getfield 12082, .iload 3, .iaload, .goto 17, .ldc_w 0, .invokestatic 222, .istore 4, .iload 1, .aload 0, .getfield 12092, .iload 3, .iaload, .ifCond .lt 36, .aload 0, .getfield 12092, .iload 3, .iaload, .ldc_w 4, .if_icmp .ge 36, .aload 0, .getfield 12092, .iload 3, .iaload, .goto 37, .ldc_w 0, .invokestatic 222, .istore 5, .aload 0, .getfield 12302, .iload 1, .ldc_w 4, .invokestatic 222, .iaload, .ldc_w 1, .iadd, .istore 6, .aload 0, .getfield 12072, .iload 3, .iaload, .tableswitch 220 0 11 #[53, 62, 74, 86, 98, 110, 122, 141, 152, 184, 190, 203], .aload 0, .getfield 12302, .iload 4, .aload 0, .getfield 12092, .iload 3, .iaload, .iastore, .goto 220, .aload 0, .getfield 12302, .iload 4, .aload 0, .getfield 12302, .aload 0, .getfield 12092, .iload 3, .iaload, .iaload, .iastore, .goto 220, .aload 0, .getfield 12302, .aload 0, .getfield 12082, .iload 3, .iaload, .aload 0, .getfield 12302, .iload 5, .iaload, .iastore, .goto 220, .aload 0, .getfield 12302, .iload 4, .dup2, .iaload, .aload 0, .getfield 12302, .iload 5, .iaload, .iadd, .iastore, .goto 220, .aload 0, .getfield 12302, .iload 4, .dup2, .iaload, .aload 0, .getfield 12302, .iload 5, .iaload, .isub, .iastore, .goto 220, .aload 0, .getfield 12302, .iload 4, .dup2, .iaload, .aload 0, .getfield 12302, .iload 5, .iaload, .imul, .iastore, .goto 220, .aload 0, .getfield 12302, .iload 4, .iload 2, .iastore, .aload 0, .getfield 12302, .ldc_w 48, .aload 0, .getfield 12092, .iload 3, .iaload, .iadd, .dup2, .iaload, .ldc_w 1, .iadd, .iastore, .goto 220, .aload 0, .getfield 12302, .ldc_w 40, .aload 0, .getfield 12082, .iload 3, .iaload, .iadd, .iload 1, .iastore, .goto 220, .aload 0, .getfield 12302, .ldc_w 40, .aload 0, .getfield 12082, .iload 3, .iaload, .iadd, .aload 0, .getfield 12302, .ldc_w 40, .aload 0, .getfield 12082, .iload 3, .iaload, .iadd, .iaload, .iload 1, .if_icmp .ne 173, .iconst (-1), .goto 182, .aload 0, .getfield 12302, .ldc_w 40, .aload 0, .getfield 12082, .iload 3, .iaload, .iadd, .iaload, .iastore, .goto 220, .aload 0, .getfield 12102, .iload 3, .iaload, .istore 6, .goto 220, .aload 0, .getfield 12302, .iload 4, .iaload, .ifCond .ne 200, .aload 0, .getfield 12102, .iload 3, .iaload, .goto 201, .iload 6, .istore 6, .goto 220, .aload 0, .getfield 12302, .iload 4, .iaload, .aload 0, .getfield 12302, .iload 5, .iaload, .if_icmp .ge 217, .aload 0, .getfield 12102, .iload 3, .iaload, .goto 218, .iload 6, .istore 6, .goto 220, .aload 0, .getfield 12302, .iload 1, .ldc_w 5, .invokestatic 222, .dup2, .iaload, .aload 0, .getfield 12072, .iload 3, .iaload, .ldc_w 9, .ldc_w 11, .invokestatic 232, .ifCond .eq 237, .ldc_w 1, .goto 238, .ldc_w 0, .iadd, .iastore, .aload 0, .getfield 12302, .iload 1, .ldc_w 4, .invokestatic 222, .iload 6, .iastore, .return_]
/-- 242: RecordDeskModel.give(II)I -/
def am_c242 : List Instr := [.aload 0, .ldc_w 0, .putfield 12030, .iload 1, .ldc_w 0, .ldc_w 2, .invokestatic 232, .ifCond .eq 14, .aload 0, .getfield 12382, .iload 1, .iaload, .ldc_w 30, .if_icmp .ne 17, .aload 0, .invokevirtual 234, .ireturn, .aload 0, .iload 1, .invokevirtual 235, .aload 0, .getfield 12372, .ldc_w 30, .iload 1, .imul, .aload 0, .getfield 12382, .iload 1, .iaload, .iadd, .iload 2, .iastore, .aload 0, .getfield 12382, .iload 1, .dup2, .iaload, .ldc_w 1, .iadd, .iastore, .aload 0, .getfield 12382, .iload 1, .iaload, .ireturn]
/-- 243: RecordDeskModel.undo()I -/
def am_c243 : List Instr := [.aload 0, .ldc_w 0, .putfield 12030, .aload 0, .getfield 12430, .ifCond .ne 8, .iconst (-1), .ireturn, .aload 0, .dup, .getfield 12430, .ldc_w 1, .isub, .putfield 12430, .aload 0, .getfield 12442, .aload 0, .getfield 12430, .iaload, .iconst (-1), .if_icmp .eq 33, .aload 0, .getfield 12382, .aload 0, .getfield 12442, .aload 0, .getfield 12430, .iaload, .dup2, .iaload, .ldc_w 1, .isub, .iastore, .aload 0, .aload 0, .getfield 12452, .aload 0, .getfield 12430, .iaload, .putfield 12120, .aload 0, .aload 0, .getfield 12130, .aload 0, .getfield 12120, .invokestatic 10002, .putfield 12130, .aload 0, .getfield 12430, .ireturn]
/-- 244: RecordDeskModel.switched(II)I -/
def am_c244 : List Instr := [.aload 0, .ldc_w 0, .putfield 12030, .iload 1, .ldc_w 0, .aload 0, .aload 0, .getfield 12120, .ldc_w 47, .invokevirtual 245, .ldc_w 1, .isub, .invokestatic 232, .ifCond .eq 19, .iload 2, .ldc_w 0, .ldc_w 2, .invokestatic 232, .ifCond .ne 23, .aload 0, .ldc_w 1, .invokevirtual 189, .ireturn, .iload 2, .ifCond .ne 30, .aload 0, .getfield 12342, .iload 1, .iaload, .goto 42, .iload 2, .ldc_w 1, .if_icmp .ne 38, .aload 0, .getfield 12352, .iload 1, .iaload, .goto 42, .aload 0, .getfield 12362, .iload 1, .iaload, .ireturn]
/-- 245: RecordDeskModel.cellOf(II)I -/
def am_c245 : List Instr := [.aload 0, .getfield 12312, .ldc_w 51, .iload 1, .imul, .iload 2, .iadd, .iaload, .ireturn]
/-- 246: RecordDeskModel.input(II)I -/
def am_c246 : List Instr := [.aload 0, .ldc_w 0, .putfield 12030, .iload 1, .ldc_w 0, .ldc_w 2, .invokestatic 232, .ifCond .eq 30, .iload 2, .ldc_w 0, .aload 0, .aload 0, .getfield 12120, .ldc_w 48, .iload 1, .iadd, .invokevirtual 245, .ldc_w 1, .isub, .invokestatic 232, .ifCond .eq 30, .aload 0, .getfield 12372, .ldc_w 30, .iload 1, .imul, .iload 2, .iadd, .iaload, .goto 33, .aload 0, .ldc_w 1, .invokevirtual 189, .ireturn]
/-- 247: RecordDeskModel.digest(I)I -/
def am_c247 : List Instr := [.aload 0, .ldc_w 0, .putfield 12030, .iload 1, .ldc_w 0, .aload 0, .getfield 12120, .aload 0, .getfield 12042, .ldc_w 2, .iaload, .idiv, .ldc_w 1, .isub, .invokestatic 232, .ifCond .eq 27, .aload 0, .aload 0, .getfield 12042, .ldc_w 2, .iaload, .iload 1, .ldc_w 1, .iadd, .imul, .invokevirtual 248, .goto 30, .aload 0, .ldc_w 1, .invokevirtual 189, .ireturn]
/-- 248: RecordDeskModel.digestOf(I)I -/
def am_c248 : List Instr := [.ldc_w 7, .istore 2, .ldc_w 51, .iload 1, .imul, .istore 3, .ldc_w 0, .istore 4, .iload 4, .ldc_w 16, .if_icmp .ge 24, .ldc_w 31, .iload 2, .imul, .aload 0, .getfield 12312, .iload 3, .iload 4, .iadd, .iaload, .iadd, .istore 2, .iinc 4 1, .goto 8, .ldc_w 0, .istore 4, .iload 4, .aload 0, .getfield 12042, .ldc_w 4, .iaload, .if_icmp .ge 54, .ldc_w 0, .istore 5, .iload 5, .ldc_w 6, .if_icmp .ge 52, .ldc_w 31, .iload 2, .imul, .aload 0, .getfield 12312, .iload 3, .iload 4, .iload 5, .invokestatic 222, .iadd, .iaload, .iadd, .istore 2, .iinc 5 1, .goto 34, .iinc 4 1, .goto 26, .ldc_w 0, .istore 4, .iload 4, .ldc_w 4, .if_icmp .ge 74, .ldc_w 31, .iload 2, .imul, .aload 0, .getfield 12312, .iload 3, .ldc_w 40, .iadd, .iload 4, .iadd, .iaload, .iadd, .istore 2, .iinc 4 1, .goto 56, .ldc_w 31, .iload 2, .imul, .aload 0, .getfield 12312, .iload 3, .ldc_w 44, .iadd, .iaload, .iadd, .ireturn]
/-- 249: RecordDeskModel.snapshot(I)I -/
def am_c249 : List Instr := [.aload 0, .ldc_w 0, .putfield 12030, .aload 0, .invokevirtual 225, .iload 1, .ldc_w 0, .aload 0, .getfield 12420, .ldc_w 1, .isub, .invokestatic 232, .ifCond .eq 18, .aload 0, .getfield 12412, .iload 1, .iaload, .goto 21, .aload 0, .ldc_w 1, .invokevirtual 189, .ireturn]
/-- 250: RecordDeskModel.seek(I)I -/
def am_c250 : List Instr := [.aload 0, .ldc_w 0, .putfield 12030, .iload 1, .ldc_w 0, .aload 0, .getfield 12120, .invokestatic 232, .ifCond .ne 13, .aload 0, .ldc_w 1, .invokevirtual 189, .ireturn, .aload 0, .iload 1, .putfield 12130, .aload 0, .invokevirtual 225, .aload 0, .iload 1, .invokevirtual 228, .ireturn]
/-- 251: RecordDeskModel.cell(I)I -/
def am_c251 : List Instr := [.aload 0, .ldc_w 0, .putfield 12030, .iload 1, .ldc_w 0, .ldc_w 15, .invokestatic 232, .ifCond .eq 14, .aload 0, .aload 0, .getfield 12130, .iload 1, .invokevirtual 245, .goto 17, .aload 0, .ldc_w 1, .invokevirtual 189, .ireturn]
/-- 252: RecordDeskModel.thread(II)I -/
def am_c252 : List Instr := [.aload 0, .ldc_w 0, .putfield 12030, .iload 1, .ldc_w 0, .aload 0, .getfield 12042, .ldc_w 4, .iaload, .ldc_w 1, .isub, .invokestatic 232, .ifCond .eq 18, .iload 2, .ldc_w 0, .ldc_w 7, .invokestatic 232, .ifCond .ne 22, .aload 0, .ldc_w 1, .invokevirtual 189, .ireturn, .iload 2, .ldc_w 6, .if_icmp .ge 33, .aload 0, .aload 0, .getfield 12130, .iload 1, .iload 2, .invokestatic 222, .invokevirtual 245, .ireturn, .iload 2, .ldc_w 6, .if_icmp .ne 52, .aload 0, .aload 0, .getfield 12130, .iload 1, .ldc_w 4, .invokestatic 222, .invokevirtual 245, .aload 0, .getfield 12062, .iload 1, .iaload, .if_icmp .lt 50, .ldc_w 1, .goto 62, .ldc_w 0, .goto 62, .aload 0, .aload 0, .getfield 12130, .ldc_w 44, .invokevirtual 245, .iload 1, .if_icmp .ne 61, .ldc_w 1, .goto 62, .ldc_w 0, .istore 3, .iload 3, .ifCond .eq 67, .ldc_w 1, .goto 68, .ldc_w 0, .ireturn]
/-- 253: RecordDeskModel.lock(I)I -/
def am_c253 : List Instr := [.aload 0, .ldc_w 0, .putfield 12030, .iload 1, .ldc_w 0, .ldc_w 3, .invokestatic 232, .ifCond .eq 16, .aload 0, .aload 0, .getfield 12130, .ldc_w 40, .iload 1, .iadd, .invokevirtual 245, .goto 19, .aload 0, .ldc_w 1, .invokevirtual 189, .ireturn]
/-- 254: RecordDeskModel.mark()I -/
def am_c254 : List Instr := [.aload 0, .ldc_w 0, .putfield 12030, .aload 0, .aload 0, .getfield 12130, .invokevirtual 248, .ireturn]
/-- 255: RecordDeskModel.back(II)I -/
def am_c255 : List Instr := [.aload 0, .ldc_w 0, .putfield 12030, .aload 0, .iload 1, .iload 2, .invokevirtual 256, .ifCond .ne 12, .aload 0, .ldc_w 1, .invokevirtual 189, .ireturn, .aload 0, .getfield 12130, .istore 3, .iload 3, .ifCond .le 37, .aload 0, .getfield 12332, .iload 3, .iaload, .ldc_w 16, .iload 1, .imul, .iload 2, .iadd, .if_icmp .eq 28, .goto 35, .aload 0, .iload 3, .ldc_w 1, .isub, .putfield 12130, .iload 3, .ireturn, .iinc 3 (-1), .goto 15, .iconst (-1), .ireturn]
/-- 256: RecordDeskModel.isInstruction(II)Z -/
def am_c256 : List Instr := [.iload 1, .ldc_w 0, .aload 0, .getfield 12042, .ldc_w 4, .iaload, .ldc_w 1, .isub, .invokestatic 232, .ifCond .eq 22, .iload 2, .ldc_w 0, .aload 0, .getfield 12062, .iload 1, .iaload, .ldc_w 1, .isub, .invokestatic 232, .ifCond .eq 22, .ldc_w 1, .goto 23, .ldc_w 0, .ireturn]
/-- 257: RecordDeskModel.on(II)I -/
def am_c257 : List Instr := [.aload 0, .ldc_w 0, .putfield 12030, .aload 0, .iload 1, .iload 2, .invokevirtual 256, .ifCond .ne 12, .aload 0, .ldc_w 1, .invokevirtual 189, .ireturn, .aload 0, .getfield 12130, .ldc_w 1, .iadd, .istore 3, .iload 3, .aload 0, .getfield 12120, .if_icmp .gt 39, .aload 0, .getfield 12332, .iload 3, .iaload, .ldc_w 16, .iload 1, .imul, .iload 2, .iadd, .if_icmp .eq 32, .goto 37, .aload 0, .iload 3, .putfield 12130, .iload 3, .ireturn, .iinc 3 1, .goto 17, .iconst (-1), .ireturn]
/-- 258: RecordDeskModel.last(II)I -/
def am_c258 : List Instr := [.aload 0, .ldc_w 0, .putfield 12030, .iload 1, .ldc_w 0, .ldc_w 15, .invokestatic 232, .ifCond .eq 13, .iload 2, .ldc_w 0, .ldc_w 2, .invokestatic 232, .ifCond .ne 17, .aload 0, .ldc_w 1, .invokevirtual 189, .ireturn, .aload 0, .iload 1, .invokevirtual 259, .istore 3, .iload 3, .iconst (-1), .if_icmp .eq 26, .iload 2, .ifCond .ne 28, .iload 3, .goto 42, .iload 2, .ldc_w 1, .if_icmp .ne 36, .aload 0, .getfield 12322, .iload 3, .iaload, .goto 42, .aload 0, .getfield 12332, .iload 3, .iaload, .ldc_w 16, .irem, .ireturn]
/-- 259: RecordDeskModel.lastOf(I)I -/
def am_c259 : List Instr := [.aload 0, .getfield 12130, .istore 2, .iload 2, .ifCond .le 12, .aload 0, .iload 2, .iload 1, .invokevirtual 260, .ifCond .ne 12, .iinc 2 (-1), .goto 3, .iload 2, .ifCond .ne 16, .iconst (-1), .goto 17, .iload 2, .ireturn]
/-- 260: RecordDeskModel.isStore(II)Z -/
def am_c260 : List Instr := [.aload 0, .getfield 12072, .aload 0, .getfield 12332, .iload 1, .iaload, .iaload, .ldc_w 2, .if_icmp .ne 20, .aload 0, .getfield 12082, .aload 0, .getfield 12332, .iload 1, .iaload, .iaload, .iload 2, .if_icmp .ne 20, .ldc_w 1, .goto 21, .ldc_w 0, .ireturn]
/-- 261: RecordDeskModel.held(I)I -/
def am_c261 : List Instr := [.aload 0, .ldc_w 0, .putfield 12030, .iload 1, .ldc_w 0, .ldc_w 15, .invokestatic 232, .ifCond .eq 12, .aload 0, .iload 1, .invokevirtual 259, .goto 13, .iconst (-1), .istore 2, .iload 2, .iconst (-1), .if_icmp .ne 21, .aload 0, .ldc_w 1, .invokevirtual 189, .goto 27, .aload 0, .iload 2, .ldc_w 1, .isub, .iload 1, .invokevirtual 245, .ireturn]
/-- 262: RecordDeskModel.firstRead(I)I -/
def am_c262 : List Instr := [.aload 0, .ldc_w 0, .putfield 12030, .iload 1, .ldc_w 0, .ldc_w 15, .invokestatic 232, .ifCond .ne 12, .aload 0, .ldc_w 1, .invokevirtual 189, .ireturn, .aload 0, .getfield 12130, .ldc_w 1, .iadd, .istore 2, .iload 2, .aload 0, .getfield 12120, .if_icmp .gt 37, .aload 0, .iload 2, .iload 1, .invokevirtual 263, .ifCond .eq 28, .iload 2, .ireturn, .aload 0, .iload 2, .iload 1, .invokevirtual 260, .ifCond .eq 35, .iconst (-1), .ireturn, .iinc 2 1, .goto 17, .iconst (-1), .ireturn]
/-- 263: RecordDeskModel.isLoad(II)Z -/
def am_c263 : List Instr := [.aload 0, .getfield 12072, .aload 0, .getfield 12332, .iload 1, .iaload, .iaload, .ldc_w 1, .if_icmp .ne 20, .aload 0, .getfield 12092, .aload 0, .getfield 12332, .iload 1, .iaload, .iaload, .iload 2, .if_icmp .ne 20, .ldc_w 1, .goto 21, .ldc_w 0, .ireturn]
/-- 264: RecordDeskModel.races(I)I -/
def am_c264 : List Instr := [.aload 0, .ldc_w 0, .putfield 12030, .iload 1, .ldc_w 0, .ldc_w 2, .invokestatic 232, .ifCond .ne 12, .aload 0, .ldc_w 1, .invokevirtual 189, .ireturn, .aload 0, .invokevirtual 265, .ldc_w 0, .istore 2, .iload 2, .aload 0, .getfield 12482, .arraylength, .if_icmp .ge 28, .aload 0, .getfield 12482, .iload 2, .ldc_w 0, .bastore, .iinc 2 1, .goto 16, .ldc_w 0, .istore 2, .ldc_w 0, .istore 3, .ldc_w 0, .istore 4, .ldc_w 1, .istore 5, .iload 5, .aload 0, .getfield 12120, .if_icmp .gt 93, .ldc_w 1, .istore 6, .iload 6, .iload 5, .if_icmp .ge 91, .aload 0, .iload 6, .iload 5, .invokevirtual 268, .ifCond .ne 51, .goto 89, .iinc 2 1, .iload 4, .ldc_w 1, .aload 0, .getfield 12472, .iload 5, .iaload, .ishl, .ior, .istore 4, .ldc_w 64, .aload 0, .getfield 12332, .iload 6, .iaload, .imul, .aload 0, .getfield 12332, .iload 5, .iaload, .iadd, .istore 7, .iload 3, .aload 0, .getfield 12482, .iload 7, .baload, .ifCond .eq 81, .ldc_w 0, .goto 82, .ldc_w 1, .iadd, .istore 3, .aload 0, .getfield 12482, .iload 7, .ldc_w 1, .bastore, .iinc 6 1, .goto 42, .iinc 5 1, .goto 36, .iload 1, .ifCond .ne 97, .iload 2, .goto 104, .iload 1, .ldc_w 1, .if_icmp .ne 103, .iload 4, .invokestatic 153, .goto 104, .iload 3, .ireturn]
/-- 265: RecordDeskModel.tellAhead()V -/
def am_c265 : List Instr := [.ldc_w 1, .istore 1, .iload 1, .aload 0, .getfield 12120, .if_icmp .gt 96, .ldc_w 0, .istore 2, .iload 2, .ldc_w 7, .if_icmp .ge 22, .aload 0, .getfield 12462, .ldc_w 7, .iload 1, .imul, .iload 2, .iadd, .lconst 0, .lastore, .iinc 2 1, .goto 8, .aload 0, .getfield 12332, .iload 1, .iaload, .istore 2, .aload 0, .getfield 12472, .iload 1, .aload 0, .getfield 12072, .iload 2, .iaload, .ldc_w 1, .if_icmp .ne 41, .aload 0, .getfield 12092, .iload 2, .iaload, .goto 53, .aload 0, .getfield 12072, .iload 2, .iaload, .ldc_w 2, .if_icmp .ne 52, .aload 0, .getfield 12082, .iload 2, .iaload, .goto 53, .iconst (-1), .iastore, .ldc_w 1, .istore 3, .iload 3, .iload 1, .if_icmp .ge 94, .aload 0, .getfield 12322, .iload 3, .iaload, .aload 0, .getfield 12322, .iload 1, .iaload, .if_icmp .eq 82, .aload 0, .getfield 12072, .iload 2, .iaload, .ldc_w 7, .if_icmp .ne 84, .aload 0, .iload 3, .aload 0, .getfield 12082, .iload 2, .iaload, .invokevirtual 266, .ifCond .eq 84, .ldc_w 1, .goto 85, .ldc_w 0, .istore 4, .iload 4, .ifCond .eq 92, .aload 0, .iload 3, .iload 1, .invokevirtual 267, .iinc 3 1, .goto 56, .iinc 1 1, .goto 2, .return_]
/-- 266: RecordDeskModel.isUnlocked(II)Z -/
def am_c266 : List Instr := [.aload 0, .getfield 12072, .aload 0, .getfield 12332, .iload 1, .iaload, .iaload, .ldc_w 8, .if_icmp .ne 33, .aload 0, .getfield 12082, .aload 0, .getfield 12332, .iload 1, .iaload, .iaload, .iload 2, .if_icmp .ne 33, .aload 0, .iload 1, .ldc_w 1, .isub, .ldc_w 40, .iload 2, .iadd, .invokevirtual 245, .aload 0, .getfield 12322, .iload 1, .iaload, .if_icmp .ne 33, .ldc_w 1, .goto 34, .ldc_w 0, .ireturn]
/-- 267: RecordDeskModel.putAhead(II)V -/
def am_c267 : List Instr := [.ldc_w 0, .istore 3, .iload 3, .ldc_w 7, .if_icmp .ge 26, .aload 0, .getfield 12462, .ldc_w 7, .iload 2, .imul, .iload 3, .iadd, .dup2, .laload, .aload 0, .getfield 12462, .ldc_w 7, .iload 1, .imul, .iload 3, .iadd, .laload, .lor, .lastore, .iinc 3 1, .goto 2, .aload 0, .getfield 12462, .ldc_w 7, .iload 2, .imul, .iload 1, .ldc_w 64, .idiv, .iadd, .dup2, .laload, .lconst 1, .iload 1, .ldc_w 64, .irem, .lshl, .lor, .lastore, .return_]
/-- 268: RecordDeskModel.isRace(II)Z -/
def am_c268 : List Instr := [.aload 0, .getfield 12072, .aload 0, .getfield 12332, .iload 1, .iaload, .iaload, .ldc_w 2, .if_icmp .eq 18, .aload 0, .getfield 12072, .aload 0, .getfield 12332, .iload 2, .iaload, .iaload, .ldc_w 2, .if_icmp .ne 20, .ldc_w 1, .goto 21, .ldc_w 0, .istore 3, .aload 0, .getfield 12472, .iload 1, .iaload, .iconst (-1), .if_icmp .eq 55, .aload 0, .getfield 12472, .iload 1, .iaload, .aload 0, .getfield 12472, .iload 2, .iaload, .if_icmp .ne 55, .aload 0, .getfield 12322, .iload 1, .iaload, .aload 0, .getfield 12322, .iload 2, .iaload, .if_icmp .eq 55, .iload 3, .ifCond .eq 55, .aload 0, .iload 1, .iload 2, .invokevirtual 269, .ifCond .ne 55, .ldc_w 1, .goto 56, .ldc_w 0, .ireturn]
/-- 269: RecordDeskModel.isAhead(II)Z -/
def am_c269 : List Instr := [.aload 0, .getfield 12462, .ldc_w 7, .iload 2, .imul, .iload 1, .ldc_w 64, .idiv, .iadd, .laload, .iload 1, .ldc_w 64, .irem, .lshr, .lconst 1, .land, .lconst 1, .lcmp, .ifCond .ne 21, .ldc_w 1, .goto 22, .ldc_w 0, .ireturn]
/-- 270: RecordDeskModel.race(II)I -/
def am_c270 : List Instr := [.aload 0, .ldc_w 0, .putfield 12030, .iload 1, .ifCond .lt 10, .iload 2, .ldc_w 0, .ldc_w 2, .invokestatic 232, .ifCond .ne 14, .aload 0, .ldc_w 1, .invokevirtual 189, .ireturn, .aload 0, .invokevirtual 265, .ldc_w 0, .istore 3, .ldc_w 1, .istore 4, .iload 4, .aload 0, .getfield 12120, .if_icmp .gt 57, .ldc_w 1, .istore 5, .iload 5, .iload 4, .if_icmp .ge 55, .aload 0, .iload 5, .iload 4, .invokevirtual 268, .ifCond .ne 35, .goto 53, .iload 3, .iload 1, .if_icmp .ne 52, .iload 2, .ifCond .ne 42, .iload 5, .goto 51, .iload 2, .ldc_w 1, .if_icmp .ne 47, .iload 4, .goto 51, .aload 0, .getfield 12472, .iload 4, .iaload, .ireturn, .iinc 3 1, .iinc 5 1, .goto 26, .iinc 4 1, .goto 20, .aload 0, .ldc_w 1, .invokevirtual 189, .ireturn]
/-- 271: RecordDeskModel.guards(I)I -/
def am_c271 : List Instr := [.aload 0, .ldc_w 0, .putfield 12030, .iload 1, .ldc_w 0, .ldc_w 15, .invokestatic 232, .ifCond .ne 12, .aload 0, .ldc_w 1, .invokevirtual 189, .ireturn, .ldc_w 15, .istore 2, .ldc_w 1, .istore 3, .iload 3, .aload 0, .getfield 12120, .if_icmp .gt 59, .aload 0, .iload 3, .iload 1, .invokevirtual 263, .ifCond .ne 31, .aload 0, .iload 3, .iload 1, .invokevirtual 260, .ifCond .ne 31, .goto 57, .ldc_w 0, .istore 4, .iload 4, .ldc_w 4, .if_icmp .ge 57, .aload 0, .iload 3, .ldc_w 40, .iload 4, .iadd, .invokevirtual 245, .aload 0, .getfield 12322, .iload 3, .iaload, .if_icmp .eq 55, .iload 2, .ldc_w 1, .iload 4, .ishl, .iconst (-1), .ixor, .iand, .istore 2, .iinc 4 1, .goto 33, .iinc 3 1, .goto 16, .iload 2, .ireturn]
/-- 272: RecordDeskModel.hot(II)I -/
def am_c272 : List Instr := [.aload 0, .ldc_w 0, .putfield 12030, .aload 0, .invokevirtual 273, .istore 3, .iload 1, .iconst (-1), .if_icmp .ne 11, .iload 3, .ireturn, .iload 1, .ldc_w 0, .iload 3, .ldc_w 1, .isub, .invokestatic 232, .ifCond .eq 23, .iload 2, .ldc_w 0, .ldc_w 2, .invokestatic 232, .ifCond .ne 27, .aload 0, .ldc_w 1, .invokevirtual 189, .ireturn, .iload 2, .ifCond .ne 36, .aload 0, .getfield 12492, .iload 1, .iaload, .ldc_w 16, .idiv, .goto 50, .iload 2, .ldc_w 1, .if_icmp .ne 46, .aload 0, .getfield 12492, .iload 1, .iaload, .ldc_w 16, .irem, .goto 50, .aload 0, .getfield 12502, .iload 1, .iaload, .ireturn]
/-- 273: RecordDeskModel.tellHot()I -/
def am_c273 : List Instr := [.ldc_w 0, .istore 1, .ldc_w 1, .istore 2, .iload 2, .aload 0, .getfield 12120, .if_icmp .gt 51, .ldc_w 0, .istore 3, .iload 3, .iload 1, .if_icmp .ge 24, .aload 0, .getfield 12492, .iload 3, .iaload, .aload 0, .getfield 12332, .iload 2, .iaload, .if_icmp .eq 24, .iinc 3 1, .goto 10, .iload 3, .iload 1, .if_icmp .ne 41, .aload 0, .getfield 12492, .iload 3, .aload 0, .getfield 12332, .iload 2, .iaload, .iastore, .aload 0, .getfield 12502, .iload 3, .ldc_w 0, .iastore, .iinc 1 1, .aload 0, .getfield 12502, .iload 3, .dup2, .iaload, .ldc_w 1, .iadd, .iastore, .iinc 2 1, .goto 4, .iload 1, .ireturn]
/-- 274: RecordDeskModel.diverged(IIII)I -/
def am_c274 : List Instr := [.aload 0, .ldc_w 0, .putfield 12030, .iload 4, .ldc_w 0, .ldc_w 2, .invokestatic 232, .ifCond .eq 19, .iload 1, .ldc_w 0, .ldc_w 5, .invokestatic 232, .ifCond .eq 19, .aload 0, .iload 1, .iload 2, .iload 3, .invokevirtual 275, .ifCond .ne 23, .aload 0, .ldc_w 1, .invokevirtual 189, .ireturn, .aload 0, .iload 1, .putfield 12510, .aload 0, .iload 2, .putfield 12520, .aload 0, .iload 3, .putfield 12530, .aload 0, .invokevirtual 276, .iload 4, .ifCond .ne 39, .aload 0, .getfield 12540, .goto 47, .iload 4, .ldc_w 1, .if_icmp .ne 45, .aload 0, .getfield 12550, .goto 47, .aload 0, .getfield 12560, .ireturn]
/-- 275: RecordDeskModel.canAlter(III)Z -/
def am_c275 : List Instr := [.iload 1, .ldc_w 2, .if_icmp .ge 31, .iload 2, .ldc_w 0, .aload 0, .aload 0, .getfield 12120, .ldc_w 47, .invokevirtual 245, .ldc_w 1, .isub, .invokestatic 232, .ifCond .eq 29, .iload 1, .ldc_w 1, .if_icmp .eq 27, .iload 3, .ldc_w 0, .aload 0, .getfield 12042, .ldc_w 4, .iaload, .ldc_w 1, .isub, .invokestatic 232, .ifCond .eq 29, .ldc_w 1, .goto 30, .ldc_w 0, .ireturn, .iload 1, .ldc_w 5, .if_icmp .ne 39, .iload 2, .ldc_w 0, .ldc_w 15, .invokestatic 232, .goto 53, .iload 2, .ldc_w 0, .aload 0, .aload 0, .getfield 12120, .ldc_w 48, .iload 1, .iadd, .ldc_w 2, .isub, .invokevirtual 245, .ldc_w 1, .isub, .invokestatic 232, .ireturn]
/-- 276: RecordDeskModel.replay()V -/
def am_c276 : List Instr := [.aload 0, .iconst (-1), .putfield 12540, .aload 0, .iconst (-1), .putfield 12550, .aload 0, .iconst (-1), .putfield 12560, .aload 0, .aload 0, .getfield 12042, .ldc_w 1, .iaload, .invokevirtual 184, .aload 0, .getfield 12510, .ldc_w 5, .if_icmp .ne 26, .aload 0, .getfield 12302, .aload 0, .getfield 12520, .aload 0, .getfield 12530, .iastore, .aload 0, .ldc_w 0, .invokevirtual 277, .ifCond .eq 33, .aload 0, .ldc_w 0, .putfield 12540, .ldc_w 1, .istore 1, .iload 1, .aload 0, .getfield 12120, .if_icmp .gt 102, .aload 0, .getfield 12560, .iconst (-1), .if_icmp .ne 102, .aload 0, .invokevirtual 278, .ifCond .ne 62, .aload 0, .iload 1, .ldc_w 1, .isub, .putfield 12560, .aload 0, .aload 0, .getfield 12540, .iconst (-1), .if_icmp .ne 58, .iload 1, .goto 60, .aload 0, .getfield 12540, .putfield 12540, .goto 100, .aload 0, .getfield 12540, .iconst (-1), .if_icmp .ne 73, .aload 0, .iload 1, .invokevirtual 277, .ifCond .eq 73, .aload 0, .iload 1, .putfield 12540, .aload 0, .getfield 12550, .iconst (-1), .if_icmp .ne 100, .iload 1, .aload 0, .getfield 12042, .ldc_w 2, .iaload, .irem, .ifCond .ne 100, .aload 0, .invokevirtual 281, .aload 0, .iload 1, .invokevirtual 248, .if_icmp .eq 100, .aload 0, .iload 1, .aload 0, .getfield 12042, .ldc_w 2, .iaload, .idiv, .ldc_w 1, .isub, .putfield 12550, .iinc 1 1, .goto 35, .return_]
/-- 277: RecordDeskModel.isAnother(I)Z -/
def am_c277 : List Instr := [.ldc_w 0, .istore 2, .iload 2, .ldc_w 44, .if_icmp .gt 18, .aload 0, .getfield 12302, .iload 2, .iaload, .aload 0, .iload 1, .iload 2, .invokevirtual 245, .if_icmp .eq 16, .ldc_w 1, .ireturn, .iinc 2 1, .goto 2, .ldc_w 0, .ireturn]
/-- 278: RecordDeskModel.replayStep()Z -/
def am_c278 : List Instr := [.aload 0, .invokevirtual 279, .aload 0, .getfield 12302, .ldc_w 44, .iaload, .istore 1, .iload 1, .iconst (-1), .if_icmp .eq 14, .aload 0, .iload 1, .invokevirtual 221, .ifCond .eq 16, .ldc_w 0, .ireturn, .aload 0, .iload 1, .invokevirtual 223, .istore 2, .aload 0, .getfield 12072, .iload 2, .iaload, .ldc_w 7, .if_icmp .ne 37, .aload 0, .getfield 12302, .ldc_w 40, .aload 0, .getfield 12082, .iload 2, .iaload, .iadd, .iaload, .iconst (-1), .if_icmp .ne 63, .aload 0, .getfield 12072, .iload 2, .iaload, .ldc_w 6, .if_icmp .ne 65, .aload 0, .getfield 12302, .ldc_w 48, .aload 0, .getfield 12092, .iload 2, .iaload, .iadd, .iaload, .aload 0, .aload 0, .getfield 12120, .ldc_w 48, .aload 0, .getfield 12092, .iload 2, .iaload, .iadd, .invokevirtual 245, .if_icmp .lt 65, .ldc_w 0, .ireturn, .aload 0, .aload 0, .getfield 12072, .iload 2, .iaload, .ldc_w 6, .if_icmp .ne 88, .aload 0, .aload 0, .getfield 12092, .iload 2, .iaload, .aload 0, .getfield 12302, .ldc_w 48, .aload 0, .getfield 12092, .iload 2, .iaload, .iadd, .iaload, .invokevirtual 280, .goto 89, .ldc_w 0, .invokevirtual 240, .ldc_w 1, .ireturn]
/-- 279: RecordDeskModel.takeSwitch()V -/
def am_c279 : List Instr := [.aload 0, .getfield 12302, .ldc_w 47, .iaload, .istore 1, .aload 0, .getfield 12510, .ldc_w 1, .if_icmp .ne 17, .iload 1, .aload 0, .getfield 12520, .if_icmp .lt 17, .iload 1, .ldc_w 1, .iadd, .goto 18, .iload 1, .istore 2, .iload 2, .aload 0, .aload 0, .getfield 12120, .ldc_w 47, .invokevirtual 245, .if_icmp .lt 27, .return_, .aload 0, .getfield 12302, .ldc_w 44, .iaload, .istore 3, .iload 3, .iconst (-1), .if_icmp .eq 58, .aload 0, .getfield 12302, .iload 3, .ldc_w 5, .invokestatic 222, .iaload, .aload 0, .getfield 12342, .iload 2, .iaload, .if_icmp .ne 57, .aload 0, .getfield 12302, .iload 3, .ldc_w 4, .invokestatic 222, .iaload, .aload 0, .getfield 12352, .iload 2, .iaload, .if_icmp .eq 58, .return_, .aload 0, .getfield 12302, .ldc_w 47, .dup2, .iaload, .ldc_w 1, .iadd, .iastore, .aload 0, .getfield 12302, .ldc_w 44, .aload 0, .getfield 12510, .ifCond .ne 79, .iload 2, .aload 0, .getfield 12520, .if_icmp .ne 79, .aload 0, .getfield 12530, .goto 83, .aload 0, .getfield 12362, .iload 2, .iaload, .iastore, .return_]
/-- 280: RecordDeskModel.inputBy(II)I -/
def am_c280 : List Instr := [.aload 0, .getfield 12510, .ldc_w 2, .iload 1, .iadd, .if_icmp .ne 13, .iload 2, .aload 0, .getfield 12520, .if_icmp .ne 13, .aload 0, .getfield 12530, .goto 21, .aload 0, .getfield 12372, .ldc_w 30, .iload 1, .imul, .iload 2, .iadd, .iaload, .ireturn]
/-- 281: RecordDeskModel.digestNow()I -/
def am_c281 : List Instr := [.ldc_w 7, .istore 1, .ldc_w 0, .istore 2, .iload 2, .ldc_w 44, .if_icmp .gt 31, .iload 2, .ldc_w 16, .ldc_w 6, .aload 0, .getfield 12042, .ldc_w 4, .iaload, .imul, .iadd, .if_icmp .lt 20, .iload 2, .ldc_w 40, .if_icmp .lt 29, .ldc_w 31, .iload 1, .imul, .aload 0, .getfield 12302, .iload 2, .iaload, .iadd, .istore 1, .iinc 2 1, .goto 4, .iload 1, .ireturn]
/-- 282: RecordDeskModel.matters(I)I -/
def am_c282 : List Instr := [.aload 0, .ldc_w 0, .putfield 12030, .iload 1, .ldc_w 0, .ldc_w 2, .invokestatic 232, .ifCond .ne 12, .aload 0, .ldc_w 1, .invokevirtual 189, .ireturn, .ldc_w 0, .istore 2, .ldc_w 0, .istore 3, .iload 3, .aload 0, .aload 0, .getfield 12120, .ldc_w 48, .iload 1, .iadd, .invokevirtual 245, .if_icmp .ge 62, .aload 0, .ldc_w 2, .iload 1, .iadd, .putfield 12510, .aload 0, .iload 3, .putfield 12520, .aload 0, .aload 0, .getfield 12372, .ldc_w 30, .iload 1, .imul, .iload 3, .iadd, .iaload, .ldc_w 1, .iadd, .putfield 12530, .aload 0, .invokevirtual 276, .iload 2, .aload 0, .getfield 12560, .iconst (-1), .if_icmp .ne 55, .aload 0, .invokevirtual 283, .ifCond .eq 57, .ldc_w 1, .goto 58, .ldc_w 0, .iadd, .istore 2, .iinc 3 1, .goto 16, .iload 2, .ireturn]
/-- 283: RecordDeskModel.areCellsOther()Z -/
def am_c283 : List Instr := [.ldc_w 0, .istore 1, .iload 1, .ldc_w 16, .if_icmp .ge 19, .aload 0, .getfield 12302, .iload 1, .iaload, .aload 0, .aload 0, .getfield 12120, .iload 1, .invokevirtual 245, .if_icmp .eq 17, .ldc_w 1, .ireturn, .iinc 1 1, .goto 2, .ldc_w 0, .ireturn]
/-- 284: RecordDeskModel.outcomes(II)I -/
def am_c284 : List Instr := [.aload 0, .ldc_w 0, .putfield 12030, .iload 2, .ldc_w 0, .ldc_w 1, .invokestatic 232, .ifCond .ne 12, .aload 0, .ldc_w 1, .invokevirtual 189, .ireturn, .iload 1, .ldc_w 0, .ldc_w 400, .invokestatic 232, .ifCond .ne 21, .aload 0, .ldc_w 2, .invokevirtual 189, .ireturn, .ldc_w 0, .istore 3, .iconst (-1), .istore 4, .ldc_w 0, .istore 5, .iload 5, .ldc_w 7, .if_icmp .ge 97, .aload 0, .iload 5, .aload 0, .getfield 12042, .ldc_w 0, .iaload, .iload 1, .invokevirtual 285, .ldc_w 0, .istore 6, .iload 6, .ldc_w 16, .if_icmp .ge 57, .aload 0, .getfield 12572, .ldc_w 16, .iload 5, .imul, .iload 6, .iadd, .aload 0, .getfield 12302, .iload 6, .iaload, .iastore, .iinc 6 1, .goto 40, .ldc_w 1, .istore 6, .ldc_w 0, .istore 7, .iload 7, .iload 5, .if_icmp .ge 77, .iload 6, .ifCond .eq 73, .aload 0, .iload 7, .iload 5, .invokevirtual 286, .ifCond .ne 73, .ldc_w 1, .goto 74, .ldc_w 0, .istore 6, .iinc 7 1, .goto 61, .iload 3, .iload 6, .ifCond .eq 82, .ldc_w 1, .goto 83, .ldc_w 0, .iadd, .istore 3, .iload 4, .iconst (-1), .if_icmp .ne 95, .aload 0, .ldc_w 0, .iload 5, .invokevirtual 286, .ifCond .ne 95, .iload 5, .istore 4, .iinc 5 1, .goto 27, .iload 2, .ifCond .ne 101, .iload 3, .goto 102, .iload 4, .ireturn]
/-- 285: RecordDeskModel.goFrom(III)V -/
def am_c285 : List Instr := [.aload 0, .iload 1, .invokevirtual 184, .ldc_w 1, .istore 4, .ldc_w 0, .istore 5, .iload 5, .iload 3, .if_icmp .ge 19, .iload 4, .ifCond .eq 19, .aload 0, .iload 2, .ldc_w 0, .invokevirtual 236, .istore 4, .iinc 5 1, .goto 7, .return_]
/-- 286: RecordDeskModel.areLike(II)Z -/
def am_c286 : List Instr := [.ldc_w 0, .istore 3, .iload 3, .ldc_w 16, .if_icmp .ge 26, .aload 0, .getfield 12572, .ldc_w 16, .iload 1, .imul, .iload 3, .iadd, .iaload, .aload 0, .getfield 12572, .ldc_w 16, .iload 2, .imul, .iload 3, .iadd, .iaload, .if_icmp .eq 24, .ldc_w 0, .ireturn, .iinc 3 1, .goto 2, .ldc_w 1, .ireturn]
/-- 287: RecordDeskModel.toSpare(II)I -/
def am_c287 : List Instr := [.aload 0, .ldc_w 0, .putfield 12030, .iload 2, .ldc_w 0, .ldc_w 1, .invokestatic 232, .ifCond .ne 12, .aload 0, .ldc_w 1, .invokevirtual 189, .ireturn, .iload 1, .ldc_w 0, .ldc_w 400, .invokestatic 232, .ifCond .ne 21, .aload 0, .ldc_w 2, .invokevirtual 189, .ireturn, .iconst (-1), .istore 3, .ldc_w 0, .istore 4, .ldc_w 1, .istore 5, .iload 5, .ldc_w 9, .if_icmp .gt 57, .aload 0, .aload 0, .getfield 12042, .ldc_w 1, .iaload, .iload 5, .iload 1, .invokevirtual 285, .iload 3, .iconst (-1), .if_icmp .eq 48, .aload 0, .getfield 12302, .ldc_w 47, .iaload, .iload 4, .if_icmp .lt 48, .goto 55, .iload 5, .istore 3, .aload 0, .getfield 12302, .ldc_w 47, .iaload, .istore 4, .iinc 5 1, .goto 27, .iload 2, .ifCond .ne 61, .iload 3, .goto 62, .iload 4, .ireturn]
/-- 288: RecordDeskModel.image()V -/
def am_c288 : List Instr := [.aload 0, .ldc_w 0, .putfield 12030, .aload 0, .ldc_w 1, .putfield 12585, .aload 0, .aload 0, .getfield 12120, .putfield 12590, .aload 0, .aload 0, .getfield 12130, .putfield 12600, .aload 0, .aload 0, .getfield 12430, .putfield 12610, .aload 0, .getfield 12622, .aload 0, .getfield 12312, .invokestatic 289, .aload 0, .getfield 12632, .aload 0, .getfield 12322, .invokestatic 289, .aload 0, .getfield 12642, .aload 0, .getfield 12332, .invokestatic 289, .aload 0, .getfield 12652, .aload 0, .getfield 12342, .invokestatic 289, .aload 0, .getfield 12662, .aload 0, .getfield 12352, .invokestatic 289, .aload 0, .getfield 12672, .aload 0, .getfield 12362, .invokestatic 289, .aload 0, .getfield 12682, .aload 0, .getfield 12372, .invokestatic 289, .aload 0, .getfield 12692, .aload 0, .getfield 12382, .invokestatic 289, .aload 0, .getfield 12702, .aload 0, .getfield 12442, .invokestatic 289, .aload 0, .getfield 12712, .aload 0, .getfield 12452, .invokestatic 289, .aload 0, .getfield 12722, .aload 0, .getfield 12112, .invokestatic 289, .return_]
/-- 289: RecordDeskModel.copyTo([I[I)V -/
def am_c289 : List Instr := [.ldc_w 0, .istore 2, .iload 2, .aload 0, .arraylength, .if_icmp .ge 14, .aload 0, .iload 2, .aload 1, .iload 2, .iaload, .iastore, .iinc 2 1, .goto 2, .return_]
/-- 290: RecordDeskModel.restore()Z -/
def am_c290 : List Instr := [.aload 0, .ldc_w 0, .putfield 12030, .aload 0, .getfield 12585, .ifCond .ne 8, .ldc_w 0, .ireturn, .aload 0, .aload 0, .getfield 12590, .putfield 12120, .aload 0, .aload 0, .getfield 12600, .putfield 12130, .aload 0, .aload 0, .getfield 12610, .putfield 12430, .aload 0, .getfield 12312, .aload 0, .getfield 12622, .invokestatic 289, .aload 0, .getfield 12322, .aload 0, .getfield 12632, .invokestatic 289, .aload 0, .getfield 12332, .aload 0, .getfield 12642, .invokestatic 289, .aload 0, .getfield 12342, .aload 0, .getfield 12652, .invokestatic 289, .aload 0, .getfield 12352, .aload 0, .getfield 12662, .invokestatic 289, .aload 0, .getfield 12362, .aload 0, .getfield 12672, .invokestatic 289, .aload 0, .getfield 12372, .aload 0, .getfield 12682, .invokestatic 289, .aload 0, .getfield 12382, .aload 0, .getfield 12692, .invokestatic 289, .aload 0, .getfield 12442, .aload 0, .getfield 12702, .invokestatic 289, .aload 0, .getfield 12452, .aload 0, .getfield 12712, .invokestatic 289, .aload 0, .getfield 12112, .aload 0, .getfield 12722, .invokestatic 289, .ldc_w 1, .ireturn]
/-- 291: RecordDeskLaw.law([I)Z -/
def am_c291 : List Instr := [.new 0, .dup, .invokespecial 0, .astore 1, .new 12, .dup, .invokespecial 183, .astore 2, .ldc_w 1, .newarray .long, .astore 3, .ldc_w 0, .istore 4, .iload 4, .aload 0, .arraylength, .ldc_w 6, .isub, .if_icmp .gt 1131, .aload 0, .iload 4, .iaload, .ldc_w 31, .iand, .tableswitch 1129 0 31 #[25, 82, 117, 124, 159, 194, 211, 238, 245, 290, 335, 370, 405, 440, 475, 520, 555, 562, 607, 652, 697, 732, 767, 802, 847, 882, 927, 992, 1027, 1072, 1117, 1122], .aload 1, .aload 0, .iload 4, .ldc_w 1, .iadd, .iaload, .aload 0, .iload 4, .ldc_w 2, .iadd, .iaload, .aload 0, .iload 4, .ldc_w 3, .iadd, .iaload, .aload 0, .iload 4, .ldc_w 4, .iadd, .iaload, .aload 0, .iload 4, .ldc_w 5, .iadd, .iaload, .invokevirtual 18, .aload 2, .aload 0, .iload 4, .ldc_w 1, .iadd, .iaload, .aload 0, .iload 4, .ldc_w 2, .iadd, .iaload, .aload 0, .iload 4, .ldc_w 3, .iadd, .iaload, .aload 0, .iload 4, .ldc_w 4, .iadd, .iaload, .aload 0, .iload 4, .ldc_w 5, .iadd, .iaload, .invokevirtual 187, .if_icmp .eq 1129, .ldc_w 0, .ireturn, .aload 1, .aload 0, .iload 4, .ldc_w 1, .iadd, .iaload, .aload 3, .invokestatic 58, .istore 5, .aload 2, .aload 0, .iload 4, .ldc_w 1, .iadd, .iaload, .invokevirtual 188, .istore 6, .aload 2, .invokevirtual 186, .iload 5, .if_icmp .eq 105, .ldc_w 0, .ireturn, .iload 5, .ifCond .ne 116, .aload 3, .ldc_w 0, .laload, .iload 6, .i2l, .lcmp, .ifCond .eq 116, .ldc_w 0, .ireturn, .goto 1129, .aload 1, .invokevirtual 20, .aload 2, .invokevirtual 215, .if_icmp .eq 1129, .ldc_w 0, .ireturn, .aload 1, .aload 0, .iload 4, .ldc_w 1, .iadd, .iaload, .aload 3, .invokestatic 97, .istore 5, .aload 2, .aload 0, .iload 4, .ldc_w 1, .iadd, .iaload, .invokevirtual 216, .istore 6, .aload 2, .invokevirtual 186, .iload 5, .if_icmp .eq 147, .ldc_w 0, .ireturn, .iload 5, .ifCond .ne 158, .aload 3, .ldc_w 0, .laload, .iload 6, .i2l, .lcmp, .ifCond .eq 158, .ldc_w 0, .ireturn, .goto 1129, .aload 1, .aload 0, .iload 4, .ldc_w 1, .iadd, .iaload, .aload 3, .invokestatic 109, .istore 5, .aload 2, .aload 0, .iload 4, .ldc_w 1, .iadd, .iaload, .invokevirtual 231, .istore 6, .aload 2, .invokevirtual 186, .iload 5, .if_icmp .eq 182, .ldc_w 0, .ireturn, .iload 5, .ifCond .ne 193, .aload 3, .ldc_w 0, .laload, .iload 6, .i2l, .lcmp, .ifCond .eq 193, .ldc_w 0, .ireturn, .goto 1129, .aload 1, .aload 0, .iload 4, .ldc_w 1, .iadd, .iaload, .invokevirtual 21, .aload 2, .aload 0, .iload 4, .ldc_w 1, .iadd, .iaload, .invokevirtual 233, .if_icmp .eq 1129, .ldc_w 0, .ireturn, .aload 1, .aload 0, .iload 4, .ldc_w 1, .iadd, .iaload, .aload 0, .iload 4, .ldc_w 2, .iadd, .iaload, .invokevirtual 42, .aload 2, .aload 0, .iload 4, .ldc_w 1, .iadd, .iaload, .aload 0, .iload 4, .ldc_w 2, .iadd, .iaload, .invokevirtual 242, .if_icmp .eq 1129, .ldc_w 0, .ireturn, .aload 1, .invokevirtual 44, .aload 2, .invokevirtual 243, .if_icmp .eq 1129, .ldc_w 0, .ireturn, .aload 1, .aload 0, .iload 4, .ldc_w 1, .iadd, .iaload, .aload 0, .iload 4, .ldc_w 2, .iadd, .iaload, .aload 3, .invokestatic 111, .istore 5, .aload 2, .aload 0, .iload 4, .ldc_w 1, .iadd, .iaload, .aload 0, .iload 4, .ldc_w 2, .iadd, .iaload, .invokevirtual 244, .istore 6, .aload 2, .invokevirtual 186, .iload 5, .if_icmp .eq 278, .ldc_w 0, .ireturn, .iload 5, .ifCond .ne 289, .aload 3, .ldc_w 0, .laload, .iload 6, .i2l, .lcmp, .ifCond .eq 289, .ldc_w 0, .ireturn, .goto 1129, .aload 1, .aload 0, .iload 4, .ldc_w 1, .iadd, .iaload, .aload 0, .iload 4, .ldc_w 2, .iadd, .iaload, .aload 3, .invokestatic 113, .istore 5, .aload 2, .aload 0, .iload 4, .ldc_w 1, .iadd, .iaload, .aload 0, .iload 4, .ldc_w 2, .iadd, .iaload, .invokevirtual 246, .istore 6, .aload 2, .invokevirtual 186, .iload 5, .if_icmp .eq 323, .ldc_w 0, .ireturn, .iload 5, .ifCond .ne 334, .aload 3, .ldc_w 0, .laload, .iload 6, .i2l, .lcmp, .ifCond .eq 334, .ldc_w 0, .ireturn, .goto 1129, .aload 1, .aload 0, .iload 4, .ldc_w 1, .iadd, .iaload, .aload 3, .invokestatic 116, .istore 5, .aload 2, .aload 0, .iload 4, .ldc_w 1, .iadd, .iaload, .invokevirtual 247, .istore 6, .aload 2, .invokevirtual 186, .iload 5, .if_icmp .eq 358, .ldc_w 0, .ireturn, .iload 5, .ifCond .ne 369, .aload 3, .ldc_w 0, .laload, .iload 6, .i2l, .lcmp, .ifCond .eq 369, .ldc_w 0, .ireturn, .goto 1129, .aload 1, .aload 0, .iload 4, .ldc_w 1, .iadd, .iaload, .aload 3, .invokestatic 118, .istore 5, .aload 2, .aload 0, .iload 4, .ldc_w 1, .iadd, .iaload, .invokevirtual 249, .istore 6, .aload 2, .invokevirtual 186, .iload 5, .if_icmp .eq 393, .ldc_w 0, .ireturn, .iload 5, .ifCond .ne 404, .aload 3, .ldc_w 0, .laload, .iload 6, .i2l, .lcmp, .ifCond .eq 404, .ldc_w 0, .ireturn, .goto 1129, .aload 1, .aload 0, .iload 4, .ldc_w 1, .iadd, .iaload, .aload 3, .invokestatic 120, .istore 5, .aload 2, .aload 0, .iload 4, .ldc_w 1, .iadd, .iaload, .invokevirtual 250, .istore 6, .aload 2, .invokevirtual 186, .iload 5, .if_icmp .eq 428, .ldc_w 0, .ireturn, .iload 5, .ifCond .ne 439, .aload 3, .ldc_w 0, .laload, .iload 6, .i2l, .lcmp, .ifCond .eq 439, .ldc_w 0, .ireturn, .goto 1129, .aload 1, .aload 0, .iload 4, .ldc_w 1, .iadd, .iaload, .aload 3, .invokestatic 122, .istore 5, .aload 2, .aload 0, .iload 4, .ldc_w 1, .iadd, .iaload, .invokevirtual 251, .istore 6, .aload 2, .invokevirtual 186, .iload 5, .if_icmp .eq 463, .ldc_w 0, .ireturn, .iload 5, .ifCond .ne 474, .aload 3, .ldc_w 0, .laload, .iload 6, .i2l, .lcmp, .ifCond .eq 474, .ldc_w 0, .ireturn, .goto 1129, .aload 1, .aload 0, .iload 4, .ldc_w 1, .iadd, .iaload, .aload 0, .iload 4, .ldc_w 2, .iadd, .iaload, .aload 3, .invokestatic 125, .istore 5, .aload 2, .aload 0, .iload 4, .ldc_w 1, .iadd, .iaload, .aload 0, .iload 4, .ldc_w 2, .iadd, .iaload, .invokevirtual 252, .istore 6, .aload 2, .invokevirtual 186, .iload 5, .if_icmp .eq 508, .ldc_w 0, .ireturn, .iload 5, .ifCond .ne 519, .aload 3, .ldc_w 0, .laload, .iload 6, .i2l, .lcmp, .ifCond .eq 519, .ldc_w 0, .ireturn, .goto 1129, .aload 1, .aload 0, .iload 4, .ldc_w 1, .iadd, .iaload, .aload 3, .invokestatic 128, .istore 5, .aload 2, .aload 0, .iload 4, .ldc_w 1, .iadd, .iaload, .invokevirtual 253, .istore 6, .aload 2, .invokevirtual 186, .iload 5, .if_icmp .eq 543, .ldc_w 0, .ireturn, .iload 5, .ifCond .ne 554, .aload 3, .ldc_w 0, .laload, .iload 6, .i2l, .lcmp, .ifCond .eq 554, .ldc_w 0, .ireturn, .goto 1129, .aload 1, .invokevirtual 51, .aload 2, .invokevirtual 254, .if_icmp .eq 1129, .ldc_w 0, .ireturn, .aload 1, .aload 0, .iload 4, .ldc_w 1, .iadd, .iaload, .aload 0, .iload 4, .ldc_w 2, .iadd, .iaload, .aload 3, .invokestatic 130, .istore 5, .aload 2, .aload 0, .iload 4, .ldc_w 1, .iadd, .iaload, .aload 0, .iload 4, .ldc_w 2, .iadd, .iaload, .invokevirtual 255, .istore 6, .aload 2, .invokevirtual 186, .iload 5, .if_icmp .eq 595, .ldc_w 0, .ireturn, .iload 5, .ifCond .ne 606, .aload 3, .ldc_w 0, .laload, .iload 6, .i2l, .lcmp, .ifCond .eq 606, .ldc_w 0, .ireturn, .goto 1129, .aload 1, .aload 0, .iload 4, .ldc_w 1, .iadd, .iaload, .aload 0, .iload 4, .ldc_w 2, .iadd, .iaload, .aload 3, .invokestatic 133, .istore 5, .aload 2, .aload 0, .iload 4, .ldc_w 1, .iadd, .iaload, .aload 0, .iload 4, .ldc_w 2, .iadd, .iaload, .invokevirtual 257, .istore 6, .aload 2, .invokevirtual 186, .iload 5, .if_icmp .eq 640, .ldc_w 0, .ireturn, .iload 5, .ifCond .ne 651, .aload 3, .ldc_w 0, .laload, .iload 6, .i2l, .lcmp, .ifCond .eq 651, .ldc_w 0, .ireturn, .goto 1129, .aload 1, .aload 0, .iload 4, .ldc_w 1, .iadd, .iaload, .aload 0, .iload 4, .ldc_w 2, .iadd, .iaload, .aload 3, .invokestatic 135, .istore 5, .aload 2, .aload 0, .iload 4, .ldc_w 1, .iadd, .iaload, .aload 0, .iload 4, .ldc_w 2, .iadd, .iaload, .invokevirtual 258, .istore 6, .aload 2, .invokevirtual 186, .iload 5, .if_icmp .eq 685, .ldc_w 0, .ireturn, .iload 5, .ifCond .ne 696, .aload 3, .ldc_w 0, .laload, .iload 6, .i2l, .lcmp, .ifCond .eq 696, .ldc_w 0, .ireturn, .goto 1129, .aload 1, .aload 0, .iload 4, .ldc_w 1, .iadd, .iaload, .aload 3, .invokestatic 139, .istore 5, .aload 2, .aload 0, .iload 4, .ldc_w 1, .iadd, .iaload, .invokevirtual 261, .istore 6, .aload 2, .invokevirtual 186, .iload 5, .if_icmp .eq 720, .ldc_w 0, .ireturn, .iload 5, .ifCond .ne 731, .aload 3, .ldc_w 0, .laload, .iload 6, .i2l, .lcmp, .ifCond .eq 731, .ldc_w 0, .ireturn, .goto 1129, .aload 1, .aload 0, .iload 4, .ldc_w 1, .iadd, .iaload, .aload 3, .invokestatic 141, .istore 5, .aload 2, .aload 0, .iload 4, .ldc_w 1, .iadd, .iaload, .invokevirtual 262, .istore 6, .aload 2, .invokevirtual 186, .iload 5, .if_icmp .eq 755, .ldc_w 0, .ireturn, .iload 5, .ifCond .ne 766, .aload 3, .ldc_w 0, .laload, .iload 6, .i2l, .lcmp, .ifCond .eq 766, .ldc_w 0, .ireturn, .goto 1129, .aload 1, .aload 0, .iload 4, .ldc_w 1, .iadd, .iaload, .aload 3, .invokestatic 143, .istore 5, .aload 2, .aload 0, .iload 4, .ldc_w 1, .iadd, .iaload, .invokevirtual 264, .istore 6, .aload 2, .invokevirtual 186, .iload 5, .if_icmp .eq 790, .ldc_w 0, .ireturn, .iload 5, .ifCond .ne 801, .aload 3, .ldc_w 0, .laload, .iload 6, .i2l, .lcmp, .ifCond .eq 801, .ldc_w 0, .ireturn, .goto 1129, .aload 1, .aload 0, .iload 4, .ldc_w 1, .iadd, .iaload, .aload 0, .iload 4, .ldc_w 2, .iadd, .iaload, .aload 3, .invokestatic 156, .istore 5, .aload 2, .aload 0, .iload 4, .ldc_w 1, .iadd, .iaload, .aload 0, .iload 4, .ldc_w 2, .iadd, .iaload, .invokevirtual 270, .istore 6, .aload 2, .invokevirtual 186, .iload 5, .if_icmp .eq 835, .ldc_w 0, .ireturn, .iload 5, .ifCond .ne 846, .aload 3, .ldc_w 0, .laload, .iload 6, .i2l, .lcmp, .ifCond .eq 846, .ldc_w 0, .ireturn, .goto 1129, .aload 1, .aload 0, .iload 4, .ldc_w 1, .iadd, .iaload, .aload 3, .invokestatic 160, .istore 5, .aload 2, .aload 0, .iload 4, .ldc_w 1, .iadd, .iaload, .invokevirtual 271, .istore 6, .aload 2, .invokevirtual 186, .iload 5, .if_icmp .eq 870, .ldc_w 0, .ireturn, .iload 5, .ifCond .ne 881, .aload 3, .ldc_w 0, .laload, .iload 6, .i2l, .lcmp, .ifCond .eq 881, .ldc_w 0, .ireturn, .goto 1129, .aload 1, .aload 0, .iload 4, .ldc_w 1, .iadd, .iaload, .aload 0, .iload 4, .ldc_w 2, .iadd, .iaload, .aload 3, .invokestatic 163, .istore 5, .aload 2, .aload 0, .iload 4, .ldc_w 1, .iadd, .iaload, .aload 0, .iload 4, .ldc_w 2, .iadd, .iaload, .invokevirtual 272, .istore 6, .aload 2, .invokevirtual 186, .iload 5, .if_icmp .eq 915, .ldc_w 0, .ireturn, .iload 5, .ifCond .ne 926, .aload 3, .ldc_w 0, .laload, .iload 6, .i2l, .lcmp, .ifCond .eq 926, .ldc_w 0, .ireturn, .goto 1129, .aload 1, .aload 0, .iload 4, .ldc_w 1, .iadd, .iaload, .aload 0, .iload 4, .ldc_w 2, .iadd, .iaload, .aload 0, .iload 4, .ldc_w 3, .iadd, .iaload, .aload 0, .iload 4, .ldc_w 4, .iadd, .iaload, .aload 3, .invokestatic 166, .istore 5, .aload 2, .aload 0, .iload 4, .ldc_w 1, .iadd, .iaload, .aload 0, .iload 4, .ldc_w 2, .iadd, .iaload, .aload 0, .iload 4, .ldc_w 3, .iadd, .iaload, .aload 0, .iload 4, .ldc_w 4, .iadd, .iaload, .invokevirtual 274, .istore 6, .aload 2, .invokevirtual 186, .iload 5, .if_icmp .eq 980, .ldc_w 0, .ireturn, .iload 5, .ifCond .ne 991, .aload 3, .ldc_w 0, .laload, .iload 6, .i2l, .lcmp, .ifCond .eq 991, .ldc_w 0, .ireturn, .goto 1129, .aload 1, .aload 0, .iload 4, .ldc_w 1, .iadd, .iaload, .aload 3, .invokestatic 174, .istore 5, .aload 2, .aload 0, .iload 4, .ldc_w 1, .iadd, .iaload, .invokevirtual 282, .istore 6, .aload 2, .invokevirtual 186, .iload 5, .if_icmp .eq 1015, .ldc_w 0, .ireturn, .iload 5, .ifCond .ne 1026, .aload 3, .ldc_w 0, .laload, .iload 6, .i2l, .lcmp, .ifCond .eq 1026, .ldc_w 0, .ireturn, .goto 1129, .aload 1, .aload 0, .iload 4, .ldc_w 1, .iadd, .iaload, .aload 0, .iload 4, .ldc_w 2, .iadd, .iaload, .aload 3, .invokestatic 176, .istore 5, .aload 2, .aload 0, .iload 4, .ldc_w 1, .iadd, .iaload, .aload 0, .iload 4, .ldc_w 2, .iadd, .iaload, .invokevirtual 284, .istore 6, .aload 2, .invokevirtual 186, .iload 5, .if_icmp .eq 1060, .ldc_w 0, .ireturn, .iload 5, .ifCond .ne 1071, .aload 3, .ldc_w 0, .laload, .iload 6, .i2l, .lcmp, .ifCond .eq 1071, .ldc_w 0, .ireturn, .goto 1129, .aload 1, .aload 0, .iload 4, .ldc_w 1, .iadd, .iaload, .aload 0, .iload 4, .ldc_w 2, .iadd, .iaload, .aload 3, .invokestatic 181, .istore 5, .aload 2, .aload 0, .iload 4, .ldc_w 1, .iadd, .iaload, .aload 0, .iload 4, .ldc_w 2, .iadd, .iaload, .invokevirtual 287, .istore 6, .aload 2, .invokevirtual 186, .iload 5, .if_icmp .eq 1105, .ldc_w 0, .ireturn, .iload 5, .ifCond .ne 1116, .aload 3, .ldc_w 0, .laload, .iload 6, .i2l, .lcmp, .ifCond .eq 1116, .ldc_w 0, .ireturn, .goto 1129, .aload 1, .invokevirtual 53, .aload 2, .invokevirtual 288, .goto 1129, .aload 1, .invokevirtual 57, .aload 2, .invokevirtual 290, .if_icmp .eq 1129, .ldc_w 0, .ireturn, .iinc 4 6, .goto 13, .ldc_w 1, .ireturn]
def am_cL : List (List Instr) := [am_c0, am_c1, am_c2, am_c3, am_c4, am_c5, am_c6, am_c7, am_c8, am_c9, am_c10, am_c11, am_c12, am_c13, am_c14, am_c15, am_c16, am_c17, am_c18, am_c19, am_c20, am_c21, am_c22, am_c23, am_c24, am_c25, am_c26, am_c27, am_c28, am_c29, am_c30, am_c31, am_c32, am_c33, am_c34, am_c35, am_c36, am_c37, am_c38, am_c39, am_c40, am_c41, am_c42, am_c43, am_c44, am_c45, am_c46, am_c47, am_c48, am_c49, am_c50, am_c51, am_c52, am_c53, am_c54, am_c55, am_c56, am_c57, am_c58, am_c59, am_c60, am_c61, am_c62, am_c63, am_c64, am_c65, am_c66, am_c67, am_c68, am_c69, am_c70, am_c71, am_c72, am_c73, am_c74, am_c75, am_c76, am_c77, am_c78, am_c79, am_c80, am_c81, am_c82, am_c83, am_c84, am_c85, am_c86, am_c87, am_c88, am_c89, am_c90, am_c91, am_c92, am_c93, am_c94, am_c95, am_c96, am_c97, am_c98, am_c99, am_c100, am_c101, am_c102, am_c103, am_c104, am_c105, am_c106, am_c107, am_c108, am_c109, am_c110, am_c111, am_c112, am_c113, am_c114, am_c115, am_c116, am_c117, am_c118, am_c119, am_c120, am_c121, am_c122, am_c123, am_c124, am_c125, am_c126, am_c127, am_c128, am_c129, am_c130, am_c131, am_c132, am_c133, am_c134, am_c135, am_c136, am_c137, am_c138, am_c139, am_c140, am_c141, am_c142, am_c143, am_c144, am_c145, am_c146, am_c147, am_c148, am_c149, am_c150, am_c151, am_c152, am_c153, am_c154, am_c155, am_c156, am_c157, am_c158, am_c159, am_c160, am_c161, am_c162, am_c163, am_c164, am_c165, am_c166, am_c167, am_c168, am_c169, am_c170, am_c171, am_c172, am_c173, am_c174, am_c175, am_c176, am_c177, am_c178, am_c179, am_c180, am_c181, am_c182, am_c183, am_c184, am_c185, am_c186, am_c187, am_c188, am_c189, am_c190, am_c191, am_c192, am_c193, am_c194, am_c195, am_c196, am_c197, am_c198, am_c199, am_c200, am_c201, am_c202, am_c203, am_c204, am_c205, am_c206, am_c207, am_c208, am_c209, am_c210, am_c211, am_c212, am_c213, am_c214, am_c215, am_c216, am_c217, am_c218, am_c219, am_c220, am_c221, am_c222, am_c223, am_c224, am_c225, am_c226, am_c227, am_c228, am_c229, am_c230, am_c231, am_c232, am_c233, am_c234, am_c235, am_c236, am_c237, am_c238, am_c239, am_c240, am_c241, am_c242, am_c243, am_c244, am_c245, am_c246, am_c247, am_c248, am_c249, am_c250, am_c251, am_c252, am_c253, am_c254, am_c255, am_c256, am_c257, am_c258, am_c259, am_c260, am_c261, am_c262, am_c263, am_c264, am_c265, am_c266, am_c267, am_c268, am_c269, am_c270, am_c271, am_c272, am_c273, am_c274, am_c275, am_c276, am_c277, am_c278, am_c279, am_c280, am_c281, am_c282, am_c283, am_c284, am_c285, am_c286, am_c287, am_c288, am_c289, am_c290, am_c291]
def am_code (y : Nat) : List Instr := am_cL.getD y []
