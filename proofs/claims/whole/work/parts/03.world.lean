/-! printed by wip/gen/gen.py: the classes' tables, the components, the worlds, rows for each field and array -/
def T_Sm_ : u_T := fun k => match k with
  | 0 => ("ScanMachine", "code", "LScanMachine$Code;", true)
  | 1 => ("ScanMachine", "shape", "LScanMachine$Shape;", true)
  | 2 => ("ScanMachine", "loops", "LScanMachine$Loops;", true)
  | 3 => ("ScanMachine", "depths", "LScanMachine$Depths;", true)
  | 4 => ("ScanMachine", "ways", "LScanMachine$Ways;", true)
  | 5 => ("ScanMachine", "memory", "LScanMachine$Memory;", true)
  | 6 => ("ScanMachine", "runner", "LScanMachine$Runner;", true)
  | 7 => ("ScanMachine", "total", "I", false)
  | 8 => ("ScanMachine", "ready", "Z", false)
  | 9 => ("ScanMachine", "allowed", "I", false)
  | 10 => ("ScanMachine", "now", "I", false)
  | 11 => ("ScanMachine", "scans", "I", false)
  | _ => ("ScanMachine", "faults", "I", false)
def ty_Sm : Nat → FieldType := fun k => match k with
  | 0 => .object "ScanMachine$Code"
  | 1 => .object "ScanMachine$Shape"
  | 2 => .object "ScanMachine$Loops"
  | 3 => .object "ScanMachine$Depths"
  | 4 => .object "ScanMachine$Ways"
  | 5 => .object "ScanMachine$Memory"
  | 6 => .object "ScanMachine$Runner"
  | 7 => .int
  | 8 => .boolean
  | 9 => .int
  | 10 => .int
  | 11 => .int
  | _ => .int
theorem nm_Sm : ∀ a, a < 13 → ∀ b, b < 13 → a ≠ b → (T_Sm_ a).2.1 ≠ (T_Sm_ b).2.1 := by decide +kernel
theorem tyok_Sm : ∀ k, k < 13 → parseFieldDescriptor (T_Sm_ k).2.2.1 = some (ty_Sm k) := by decide +kernel
theorem in_Sm : ∀ w ∈ u_ws "ScanMachine" T_Sm_ 13, w ∈ TB := by
  intro w hw
  obtain ⟨k, hk, rfl⟩ := List.mem_map.mp hw
  have hk := List.mem_range.mp hk
  match k, hk with
  | 0, _ => exact tb_at (lt_s1 236 (by decide +kernel)) (by decide +kernel)
  | 1, _ => exact tb_at (lt_s1 238 (by decide +kernel)) (by decide +kernel)
  | 2, _ => exact tb_at (lt_s2 0 (by decide +kernel)) (by decide +kernel)
  | 3, _ => exact tb_at (lt_s2 2 (by decide +kernel)) (by decide +kernel)
  | 4, _ => exact tb_at (lt_s2 4 (by decide +kernel)) (by decide +kernel)
  | 5, _ => exact tb_at (lt_s2 6 (by decide +kernel)) (by decide +kernel)
  | 6, _ => exact tb_at (lt_s2 8 (by decide +kernel)) (by decide +kernel)
  | 7, _ => exact tb_at (lt_s2 10 (by decide +kernel)) (by decide +kernel)
  | 8, _ => exact tb_at (lt_s2 12 (by decide +kernel)) (by decide +kernel)
  | 9, _ => exact tb_at (lt_s2 14 (by decide +kernel)) (by decide +kernel)
  | 10, _ => exact tb_at (lt_s2 16 (by decide +kernel)) (by decide +kernel)
  | 11, _ => exact tb_at (lt_s2 18 (by decide +kernel)) (by decide +kernel)
  | 12, _ => exact tb_at (lt_s2 20 (by decide +kernel)) (by decide +kernel)
  | k + 13, h => exact absurd h (by omega)
def T_Co_ : u_T := fun k => match k with
  | 0 => ("ScanMachine$Code", "frames", "[I", true)
  | 1 => ("ScanMachine$Code", "places", "[I", true)
  | 2 => ("ScanMachine$Code", "firsts", "[I", true)
  | 3 => ("ScanMachine$Code", "sizes", "[I", true)
  | 4 => ("ScanMachine$Code", "numbers", "[I", true)
  | 5 => ("ScanMachine$Code", "as", "[I", true)
  | 6 => ("ScanMachine$Code", "bs", "[I", true)
  | 7 => ("ScanMachine$Code", "cs", "[I", true)
  | 8 => ("ScanMachine$Code", "units", "I", false)
  | _ => ("ScanMachine$Code", "length", "I", false)
def ty_Co : Nat → FieldType := fun k => match k with
  | 0 => .array .int
  | 1 => .array .int
  | 2 => .array .int
  | 3 => .array .int
  | 4 => .array .int
  | 5 => .array .int
  | 6 => .array .int
  | 7 => .array .int
  | 8 => .int
  | _ => .int
theorem nm_Co : ∀ a, a < 10 → ∀ b, b < 10 → a ≠ b → (T_Co_ a).2.1 ≠ (T_Co_ b).2.1 := by decide +kernel
theorem tyok_Co : ∀ k, k < 10 → parseFieldDescriptor (T_Co_ k).2.2.1 = some (ty_Co k) := by decide +kernel
theorem in_Co : ∀ w ∈ u_ws "ScanMachine$Code" T_Co_ 10, w ∈ TB := by
  intro w hw
  obtain ⟨k, hk, rfl⟩ := List.mem_map.mp hw
  have hk := List.mem_range.mp hk
  match k, hk with
  | 0, _ => exact tb_at (lt_s1 38 (by decide +kernel)) (by decide +kernel)
  | 1, _ => exact tb_at (lt_s1 40 (by decide +kernel)) (by decide +kernel)
  | 2, _ => exact tb_at (lt_s1 42 (by decide +kernel)) (by decide +kernel)
  | 3, _ => exact tb_at (lt_s1 44 (by decide +kernel)) (by decide +kernel)
  | 4, _ => exact tb_at (lt_s1 46 (by decide +kernel)) (by decide +kernel)
  | 5, _ => exact tb_at (lt_s1 48 (by decide +kernel)) (by decide +kernel)
  | 6, _ => exact tb_at (lt_s1 50 (by decide +kernel)) (by decide +kernel)
  | 7, _ => exact tb_at (lt_s1 52 (by decide +kernel)) (by decide +kernel)
  | 8, _ => exact tb_at (lt_s1 54 (by decide +kernel)) (by decide +kernel)
  | 9, _ => exact tb_at (lt_s1 56 (by decide +kernel)) (by decide +kernel)
  | k + 10, h => exact absurd h (by omega)
def T_Sh_ : u_T := fun k => match k with
  | 0 => ("ScanMachine$Shape", "code", "LScanMachine$Code;", true)
  | 1 => ("ScanMachine$Shape", "unit", "I", false)
  | 2 => ("ScanMachine$Shape", "i", "I", false)
  | 3 => ("ScanMachine$Shape", "number", "I", false)
  | 4 => ("ScanMachine$Shape", "a", "I", false)
  | 5 => ("ScanMachine$Shape", "b", "I", false)
  | _ => ("ScanMachine$Shape", "c", "I", false)
def ty_Sh : Nat → FieldType := fun k => match k with
  | 0 => .object "ScanMachine$Code"
  | 1 => .int
  | 2 => .int
  | 3 => .int
  | 4 => .int
  | 5 => .int
  | _ => .int
theorem nm_Sh : ∀ a, a < 7 → ∀ b, b < 7 → a ≠ b → (T_Sh_ a).2.1 ≠ (T_Sh_ b).2.1 := by decide +kernel
theorem tyok_Sh : ∀ k, k < 7 → parseFieldDescriptor (T_Sh_ k).2.2.1 = some (ty_Sh k) := by decide +kernel
theorem in_Sh : ∀ w ∈ u_ws "ScanMachine$Shape" T_Sh_ 7, w ∈ TB := by
  intro w hw
  obtain ⟨k, hk, rfl⟩ := List.mem_map.mp hw
  have hk := List.mem_range.mp hk
  match k, hk with
  | 0, _ => exact tb_at (lt_s1 73 (by decide +kernel)) (by decide +kernel)
  | 1, _ => exact tb_at (lt_s1 75 (by decide +kernel)) (by decide +kernel)
  | 2, _ => exact tb_at (lt_s1 77 (by decide +kernel)) (by decide +kernel)
  | 3, _ => exact tb_at (lt_s1 79 (by decide +kernel)) (by decide +kernel)
  | 4, _ => exact tb_at (lt_s1 81 (by decide +kernel)) (by decide +kernel)
  | 5, _ => exact tb_at (lt_s1 83 (by decide +kernel)) (by decide +kernel)
  | 6, _ => exact tb_at (lt_s1 85 (by decide +kernel)) (by decide +kernel)
  | k + 7, h => exact absurd h (by omega)
def T_Lo_ : u_T := fun k => match k with
  | 0 => ("ScanMachine$Loops", "code", "LScanMachine$Code;", true)
  | 1 => ("ScanMachine$Loops", "nexts", "[I", true)
  | 2 => ("ScanMachine$Loops", "loops", "I", false)
  | _ => ("ScanMachine$Loops", "unit", "I", false)
def ty_Lo : Nat → FieldType := fun k => match k with
  | 0 => .object "ScanMachine$Code"
  | 1 => .array .int
  | 2 => .int
  | _ => .int
theorem nm_Lo : ∀ a, a < 4 → ∀ b, b < 4 → a ≠ b → (T_Lo_ a).2.1 ≠ (T_Lo_ b).2.1 := by decide +kernel
theorem tyok_Lo : ∀ k, k < 4 → parseFieldDescriptor (T_Lo_ k).2.2.1 = some (ty_Lo k) := by decide +kernel
theorem in_Lo : ∀ w ∈ u_ws "ScanMachine$Loops" T_Lo_ 4, w ∈ TB := by
  intro w hw
  obtain ⟨k, hk, rfl⟩ := List.mem_map.mp hw
  have hk := List.mem_range.mp hk
  match k, hk with
  | 0, _ => exact tb_at (lt_s1 98 (by decide +kernel)) (by decide +kernel)
  | 1, _ => exact tb_at (lt_s1 100 (by decide +kernel)) (by decide +kernel)
  | 2, _ => exact tb_at (lt_s1 102 (by decide +kernel)) (by decide +kernel)
  | 3, _ => exact tb_at (lt_s1 104 (by decide +kernel)) (by decide +kernel)
  | k + 4, h => exact absurd h (by omega)
def T_De_ : u_T := fun k => match k with
  | 0 => ("ScanMachine$Depths", "code", "LScanMachine$Code;", true)
  | _ => ("ScanMachine$Depths", "depths", "[I", true)
def ty_De : Nat → FieldType := fun k => match k with
  | 0 => .object "ScanMachine$Code"
  | _ => .array .int
theorem nm_De : ∀ a, a < 2 → ∀ b, b < 2 → a ≠ b → (T_De_ a).2.1 ≠ (T_De_ b).2.1 := by decide +kernel
theorem tyok_De : ∀ k, k < 2 → parseFieldDescriptor (T_De_ k).2.2.1 = some (ty_De k) := by decide +kernel
theorem in_De : ∀ w ∈ u_ws "ScanMachine$Depths" T_De_ 2, w ∈ TB := by
  intro w hw
  obtain ⟨k, hk, rfl⟩ := List.mem_map.mp hw
  have hk := List.mem_range.mp hk
  match k, hk with
  | 0, _ => exact tb_at (lt_s1 115 (by decide +kernel)) (by decide +kernel)
  | 1, _ => exact tb_at (lt_s1 117 (by decide +kernel)) (by decide +kernel)
  | k + 2, h => exact absurd h (by omega)
def T_Wa_ : u_T := fun k => match k with
  | 0 => ("ScanMachine$Ways", "code", "LScanMachine$Code;", true)
  | 1 => ("ScanMachine$Ways", "reached", "[J", true)
  | 2 => ("ScanMachine$Ways", "rounds", "[J", true)
  | 3 => ("ScanMachine$Ways", "steps", "[J", true)
  | 4 => ("ScanMachine$Ways", "unit", "I", false)
  | _ => ("ScanMachine$Ways", "end", "I", false)
def ty_Wa : Nat → FieldType := fun k => match k with
  | 0 => .object "ScanMachine$Code"
  | 1 => .array .long
  | 2 => .array .long
  | 3 => .array .long
  | 4 => .int
  | _ => .int
theorem nm_Wa : ∀ a, a < 6 → ∀ b, b < 6 → a ≠ b → (T_Wa_ a).2.1 ≠ (T_Wa_ b).2.1 := by decide +kernel
theorem tyok_Wa : ∀ k, k < 6 → parseFieldDescriptor (T_Wa_ k).2.2.1 = some (ty_Wa k) := by decide +kernel
theorem in_Wa : ∀ w ∈ u_ws "ScanMachine$Ways" T_Wa_ 6, w ∈ TB := by
  intro w hw
  obtain ⟨k, hk, rfl⟩ := List.mem_map.mp hw
  have hk := List.mem_range.mp hk
  match k, hk with
  | 0, _ => exact tb_at (lt_s1 132 (by decide +kernel)) (by decide +kernel)
  | 1, _ => exact tb_at (lt_s1 134 (by decide +kernel)) (by decide +kernel)
  | 2, _ => exact tb_at (lt_s1 136 (by decide +kernel)) (by decide +kernel)
  | 3, _ => exact tb_at (lt_s1 138 (by decide +kernel)) (by decide +kernel)
  | 4, _ => exact tb_at (lt_s1 140 (by decide +kernel)) (by decide +kernel)
  | 5, _ => exact tb_at (lt_s1 142 (by decide +kernel)) (by decide +kernel)
  | k + 6, h => exact absurd h (by omega)
def T_Me_ : u_T := fun k => match k with
  | 0 => ("ScanMachine$Memory", "cells", "[I", true)
  | 1 => ("ScanMachine$Memory", "stack", "[I", true)
  | 2 => ("ScanMachine$Memory", "depth", "I", false)
  | _ => ("ScanMachine$Memory", "deepest", "I", false)
def ty_Me : Nat → FieldType := fun k => match k with
  | 0 => .array .int
  | 1 => .array .int
  | 2 => .int
  | _ => .int
theorem nm_Me : ∀ a, a < 4 → ∀ b, b < 4 → a ≠ b → (T_Me_ a).2.1 ≠ (T_Me_ b).2.1 := by decide +kernel
theorem tyok_Me : ∀ k, k < 4 → parseFieldDescriptor (T_Me_ k).2.2.1 = some (ty_Me k) := by decide +kernel
theorem in_Me : ∀ w ∈ u_ws "ScanMachine$Memory" T_Me_ 4, w ∈ TB := by
  intro w hw
  obtain ⟨k, hk, rfl⟩ := List.mem_map.mp hw
  have hk := List.mem_range.mp hk
  match k, hk with
  | 0, _ => exact tb_at (lt_s1 157 (by decide +kernel)) (by decide +kernel)
  | 1, _ => exact tb_at (lt_s1 159 (by decide +kernel)) (by decide +kernel)
  | 2, _ => exact tb_at (lt_s1 161 (by decide +kernel)) (by decide +kernel)
  | 3, _ => exact tb_at (lt_s1 163 (by decide +kernel)) (by decide +kernel)
  | k + 4, h => exact absurd h (by omega)
def T_Ru_ : u_T := fun k => match k with
  | 0 => ("ScanMachine$Runner", "code", "LScanMachine$Code;", true)
  | 1 => ("ScanMachine$Runner", "memory", "LScanMachine$Memory;", true)
  | 2 => ("ScanMachine$Runner", "blocks", "LScanMachine$Blocks;", true)
  | 3 => ("ScanMachine$Runner", "waitingUnits", "[I", true)
  | 4 => ("ScanMachine$Runner", "waitingNexts", "[I", true)
  | 5 => ("ScanMachine$Runner", "waitingBases", "[I", true)
  | 6 => ("ScanMachine$Runner", "waiting", "I", false)
  | 7 => ("ScanMachine$Runner", "unit", "I", false)
  | 8 => ("ScanMachine$Runner", "next", "I", false)
  | 9 => ("ScanMachine$Runner", "base", "I", false)
  | 10 => ("ScanMachine$Runner", "steps", "I", false)
  | 11 => ("ScanMachine$Runner", "fault", "I", false)
  | _ => ("ScanMachine$Runner", "now", "I", false)
def ty_Ru : Nat → FieldType := fun k => match k with
  | 0 => .object "ScanMachine$Code"
  | 1 => .object "ScanMachine$Memory"
  | 2 => .object "ScanMachine$Blocks"
  | 3 => .array .int
  | 4 => .array .int
  | 5 => .array .int
  | 6 => .int
  | 7 => .int
  | 8 => .int
  | 9 => .int
  | 10 => .int
  | 11 => .int
  | _ => .int
theorem nm_Ru : ∀ a, a < 13 → ∀ b, b < 13 → a ≠ b → (T_Ru_ a).2.1 ≠ (T_Ru_ b).2.1 := by decide +kernel
theorem tyok_Ru : ∀ k, k < 13 → parseFieldDescriptor (T_Ru_ k).2.2.1 = some (ty_Ru k) := by decide +kernel
theorem in_Ru : ∀ w ∈ u_ws "ScanMachine$Runner" T_Ru_ 13, w ∈ TB := by
  intro w hw
  obtain ⟨k, hk, rfl⟩ := List.mem_map.mp hw
  have hk := List.mem_range.mp hk
  match k, hk with
  | 0, _ => exact tb_at (lt_s1 196 (by decide +kernel)) (by decide +kernel)
  | 1, _ => exact tb_at (lt_s1 198 (by decide +kernel)) (by decide +kernel)
  | 2, _ => exact tb_at (lt_s1 200 (by decide +kernel)) (by decide +kernel)
  | 3, _ => exact tb_at (lt_s1 202 (by decide +kernel)) (by decide +kernel)
  | 4, _ => exact tb_at (lt_s1 204 (by decide +kernel)) (by decide +kernel)
  | 5, _ => exact tb_at (lt_s1 206 (by decide +kernel)) (by decide +kernel)
  | 6, _ => exact tb_at (lt_s1 208 (by decide +kernel)) (by decide +kernel)
  | 7, _ => exact tb_at (lt_s1 210 (by decide +kernel)) (by decide +kernel)
  | 8, _ => exact tb_at (lt_s1 212 (by decide +kernel)) (by decide +kernel)
  | 9, _ => exact tb_at (lt_s1 214 (by decide +kernel)) (by decide +kernel)
  | 10, _ => exact tb_at (lt_s1 216 (by decide +kernel)) (by decide +kernel)
  | 11, _ => exact tb_at (lt_s1 218 (by decide +kernel)) (by decide +kernel)
  | 12, _ => exact tb_at (lt_s1 220 (by decide +kernel)) (by decide +kernel)
  | k + 13, h => exact absurd h (by omega)
def T_Bl_ : u_T := fun k => match k with
  | _ => ("ScanMachine$Blocks", "memory", "LScanMachine$Memory;", true)
def ty_Bl : Nat → FieldType := fun k => match k with
  | _ => .object "ScanMachine$Memory"
theorem nm_Bl : ∀ a, a < 1 → ∀ b, b < 1 → a ≠ b → (T_Bl_ a).2.1 ≠ (T_Bl_ b).2.1 := by decide +kernel
theorem tyok_Bl : ∀ k, k < 1 → parseFieldDescriptor (T_Bl_ k).2.2.1 = some (ty_Bl k) := by decide +kernel
theorem in_Bl : ∀ w ∈ u_ws "ScanMachine$Blocks" T_Bl_ 1, w ∈ TB := by
  intro w hw
  obtain ⟨k, hk, rfl⟩ := List.mem_map.mp hw
  have hk := List.mem_range.mp hk
  match k, hk with
  | 0, _ => exact tb_at (lt_s1 179 (by decide +kernel)) (by decide +kernel)
  | k + 1, h => exact absurd h (by omega)
def T_Mo_ : u_T := fun k => match k with
  | 0 => ("ScanMachineModel", "size", "I", false)
  | 1 => ("ScanMachineModel", "cells", "[I", true)
  | 2 => ("ScanMachineModel", "units", "I", false)
  | 3 => ("ScanMachineModel", "frames", "[I", true)
  | 4 => ("ScanMachineModel", "places", "[I", true)
  | 5 => ("ScanMachineModel", "firsts", "[I", true)
  | 6 => ("ScanMachineModel", "total", "I", false)
  | 7 => ("ScanMachineModel", "numbers", "[I", true)
  | 8 => ("ScanMachineModel", "as", "[I", true)
  | 9 => ("ScanMachineModel", "bs", "[I", true)
  | 10 => ("ScanMachineModel", "cs", "[I", true)
  | 11 => ("ScanMachineModel", "from", "I", false)
  | 12 => ("ScanMachineModel", "many", "I", false)
  | 13 => ("ScanMachineModel", "depths", "[I", true)
  | 14 => ("ScanMachineModel", "ways", "[J", true)
  | 15 => ("ScanMachineModel", "rounds", "[J", true)
  | 16 => ("ScanMachineModel", "steps", "[J", true)
  | 17 => ("ScanMachineModel", "runs", "Z", false)
  | 18 => ("ScanMachineModel", "now", "I", false)
  | 19 => ("ScanMachineModel", "lastSteps", "I", false)
  | 20 => ("ScanMachineModel", "scans", "I", false)
  | 21 => ("ScanMachineModel", "faults", "I", false)
  | 22 => ("ScanMachineModel", "deepest", "I", false)
  | 23 => ("ScanMachineModel", "stack", "[I", true)
  | 24 => ("ScanMachineModel", "depth", "I", false)
  | 25 => ("ScanMachineModel", "unitOf", "[I", true)
  | 26 => ("ScanMachineModel", "baseOf", "[I", true)
  | _ => ("ScanMachineModel", "nextOf", "[I", true)
def ty_Mo : Nat → FieldType := fun k => match k with
  | 0 => .int
  | 1 => .array .int
  | 2 => .int
  | 3 => .array .int
  | 4 => .array .int
  | 5 => .array .int
  | 6 => .int
  | 7 => .array .int
  | 8 => .array .int
  | 9 => .array .int
  | 10 => .array .int
  | 11 => .int
  | 12 => .int
  | 13 => .array .int
  | 14 => .array .long
  | 15 => .array .long
  | 16 => .array .long
  | 17 => .boolean
  | 18 => .int
  | 19 => .int
  | 20 => .int
  | 21 => .int
  | 22 => .int
  | 23 => .array .int
  | 24 => .int
  | 25 => .array .int
  | 26 => .array .int
  | _ => .array .int
theorem nm_Mo : ∀ a, a < 28 → ∀ b, b < 28 → a ≠ b → (T_Mo_ a).2.1 ≠ (T_Mo_ b).2.1 := by decide +kernel
theorem tyok_Mo : ∀ k, k < 28 → parseFieldDescriptor (T_Mo_ k).2.2.1 = some (ty_Mo k) := by decide +kernel
theorem in_Mo : ∀ w ∈ u_ws "ScanMachineModel" T_Mo_ 28, w ∈ TB := by
  intro w hw
  obtain ⟨k, hk, rfl⟩ := List.mem_map.mp hw
  have hk := List.mem_range.mp hk
  match k, hk with
  | 0, _ => exact tb_at (lt_s3 235 (by decide +kernel)) (by decide +kernel)
  | 1, _ => exact tb_at (lt_s3 237 (by decide +kernel)) (by decide +kernel)
  | 2, _ => exact tb_at (lt_s3 239 (by decide +kernel)) (by decide +kernel)
  | 3, _ => exact tb_at (lt_s4 1 (by decide +kernel)) (by decide +kernel)
  | 4, _ => exact tb_at (lt_s4 3 (by decide +kernel)) (by decide +kernel)
  | 5, _ => exact tb_at (lt_s4 5 (by decide +kernel)) (by decide +kernel)
  | 6, _ => exact tb_at (lt_s4 7 (by decide +kernel)) (by decide +kernel)
  | 7, _ => exact tb_at (lt_s4 9 (by decide +kernel)) (by decide +kernel)
  | 8, _ => exact tb_at (lt_s4 11 (by decide +kernel)) (by decide +kernel)
  | 9, _ => exact tb_at (lt_s4 13 (by decide +kernel)) (by decide +kernel)
  | 10, _ => exact tb_at (lt_s4 15 (by decide +kernel)) (by decide +kernel)
  | 11, _ => exact tb_at (lt_s4 17 (by decide +kernel)) (by decide +kernel)
  | 12, _ => exact tb_at (lt_s4 19 (by decide +kernel)) (by decide +kernel)
  | 13, _ => exact tb_at (lt_s4 21 (by decide +kernel)) (by decide +kernel)
  | 14, _ => exact tb_at (lt_s4 23 (by decide +kernel)) (by decide +kernel)
  | 15, _ => exact tb_at (lt_s4 25 (by decide +kernel)) (by decide +kernel)
  | 16, _ => exact tb_at (lt_s4 27 (by decide +kernel)) (by decide +kernel)
  | 17, _ => exact tb_at (lt_s4 29 (by decide +kernel)) (by decide +kernel)
  | 18, _ => exact tb_at (lt_s4 31 (by decide +kernel)) (by decide +kernel)
  | 19, _ => exact tb_at (lt_s4 33 (by decide +kernel)) (by decide +kernel)
  | 20, _ => exact tb_at (lt_s4 35 (by decide +kernel)) (by decide +kernel)
  | 21, _ => exact tb_at (lt_s4 37 (by decide +kernel)) (by decide +kernel)
  | 22, _ => exact tb_at (lt_s4 39 (by decide +kernel)) (by decide +kernel)
  | 23, _ => exact tb_at (lt_s4 41 (by decide +kernel)) (by decide +kernel)
  | 24, _ => exact tb_at (lt_s4 43 (by decide +kernel)) (by decide +kernel)
  | 25, _ => exact tb_at (lt_s4 45 (by decide +kernel)) (by decide +kernel)
  | 26, _ => exact tb_at (lt_s4 47 (by decide +kernel)) (by decide +kernel)
  | 27, _ => exact tb_at (lt_s4 49 (by decide +kernel)) (by decide +kernel)
  | k + 28, h => exact absurd h (by omega)
def clX : List vw_C := [("ScanMachine", T_Sm_, 13), ("ScanMachine$Code", T_Co_, 10), ("ScanMachine$Shape", T_Sh_, 7), ("ScanMachine$Loops", T_Lo_, 4), ("ScanMachine$Depths", T_De_, 2), ("ScanMachine$Ways", T_Wa_, 6), ("ScanMachine$Memory", T_Me_, 4), ("ScanMachine$Runner", T_Ru_, 13), ("ScanMachine$Blocks", T_Bl_, 1), ("ScanMachineModel", T_Mo_, 28)]
abbrev tyX (cI cL : ClassId) : List (ClassId × FieldType) := [(cI, .int), (cL, .long)]
abbrev T_ma : Type := Int32 × Int32 × Int32 × Int32 × Int32 × Int32
def ma_total (x : T_ma) : Int32 := x.1
def ma_total_s (x : T_ma) (v : Int32) : T_ma := (v, x.2.1, x.2.2.1, x.2.2.2.1, x.2.2.2.2.1, x.2.2.2.2.2)
def ma_ready (x : T_ma) : Int32 := x.2.1
def ma_ready_s (x : T_ma) (v : Int32) : T_ma := (x.1, v, x.2.2.1, x.2.2.2.1, x.2.2.2.2.1, x.2.2.2.2.2)
def ma_allowed (x : T_ma) : Int32 := x.2.2.1
def ma_allowed_s (x : T_ma) (v : Int32) : T_ma := (x.1, x.2.1, v, x.2.2.2.1, x.2.2.2.2.1, x.2.2.2.2.2)
def ma_now (x : T_ma) : Int32 := x.2.2.2.1
def ma_now_s (x : T_ma) (v : Int32) : T_ma := (x.1, x.2.1, x.2.2.1, v, x.2.2.2.2.1, x.2.2.2.2.2)
def ma_scans (x : T_ma) : Int32 := x.2.2.2.2.1
def ma_scans_s (x : T_ma) (v : Int32) : T_ma := (x.1, x.2.1, x.2.2.1, x.2.2.2.1, v, x.2.2.2.2.2)
def ma_faults (x : T_ma) : Int32 := x.2.2.2.2.2
def ma_faults_s (x : T_ma) (v : Int32) : T_ma := (x.1, x.2.1, x.2.2.1, x.2.2.2.1, x.2.2.2.2.1, v)
abbrev T_ko : Type := Int32 × Int32 × (Nat → Int32) × (Nat → Int32) × (Nat → Int32) × (Nat → Int32) × (Nat → Int32) × (Nat → Int32) × (Nat → Int32) × (Nat → Int32)
def ko_units (x : T_ko) : Int32 := x.1
def ko_units_s (x : T_ko) (v : Int32) : T_ko := (v, x.2.1, x.2.2.1, x.2.2.2.1, x.2.2.2.2.1, x.2.2.2.2.2.1, x.2.2.2.2.2.2.1, x.2.2.2.2.2.2.2.1, x.2.2.2.2.2.2.2.2.1, x.2.2.2.2.2.2.2.2.2)
def ko_length (x : T_ko) : Int32 := x.2.1
def ko_length_s (x : T_ko) (v : Int32) : T_ko := (x.1, v, x.2.2.1, x.2.2.2.1, x.2.2.2.2.1, x.2.2.2.2.2.1, x.2.2.2.2.2.2.1, x.2.2.2.2.2.2.2.1, x.2.2.2.2.2.2.2.2.1, x.2.2.2.2.2.2.2.2.2)
def ko_frames (x : T_ko) : Nat → Int32 := x.2.2.1
def ko_frames_s (x : T_ko) (v : Nat → Int32) : T_ko := (x.1, x.2.1, v, x.2.2.2.1, x.2.2.2.2.1, x.2.2.2.2.2.1, x.2.2.2.2.2.2.1, x.2.2.2.2.2.2.2.1, x.2.2.2.2.2.2.2.2.1, x.2.2.2.2.2.2.2.2.2)
def ko_places (x : T_ko) : Nat → Int32 := x.2.2.2.1
def ko_places_s (x : T_ko) (v : Nat → Int32) : T_ko := (x.1, x.2.1, x.2.2.1, v, x.2.2.2.2.1, x.2.2.2.2.2.1, x.2.2.2.2.2.2.1, x.2.2.2.2.2.2.2.1, x.2.2.2.2.2.2.2.2.1, x.2.2.2.2.2.2.2.2.2)
def ko_firsts (x : T_ko) : Nat → Int32 := x.2.2.2.2.1
def ko_firsts_s (x : T_ko) (v : Nat → Int32) : T_ko := (x.1, x.2.1, x.2.2.1, x.2.2.2.1, v, x.2.2.2.2.2.1, x.2.2.2.2.2.2.1, x.2.2.2.2.2.2.2.1, x.2.2.2.2.2.2.2.2.1, x.2.2.2.2.2.2.2.2.2)
def ko_sizes (x : T_ko) : Nat → Int32 := x.2.2.2.2.2.1
def ko_sizes_s (x : T_ko) (v : Nat → Int32) : T_ko := (x.1, x.2.1, x.2.2.1, x.2.2.2.1, x.2.2.2.2.1, v, x.2.2.2.2.2.2.1, x.2.2.2.2.2.2.2.1, x.2.2.2.2.2.2.2.2.1, x.2.2.2.2.2.2.2.2.2)
def ko_numbers (x : T_ko) : Nat → Int32 := x.2.2.2.2.2.2.1
def ko_numbers_s (x : T_ko) (v : Nat → Int32) : T_ko := (x.1, x.2.1, x.2.2.1, x.2.2.2.1, x.2.2.2.2.1, x.2.2.2.2.2.1, v, x.2.2.2.2.2.2.2.1, x.2.2.2.2.2.2.2.2.1, x.2.2.2.2.2.2.2.2.2)
def ko_as_ (x : T_ko) : Nat → Int32 := x.2.2.2.2.2.2.2.1
def ko_as__s (x : T_ko) (v : Nat → Int32) : T_ko := (x.1, x.2.1, x.2.2.1, x.2.2.2.1, x.2.2.2.2.1, x.2.2.2.2.2.1, x.2.2.2.2.2.2.1, v, x.2.2.2.2.2.2.2.2.1, x.2.2.2.2.2.2.2.2.2)
def ko_bs (x : T_ko) : Nat → Int32 := x.2.2.2.2.2.2.2.2.1
def ko_bs_s (x : T_ko) (v : Nat → Int32) : T_ko := (x.1, x.2.1, x.2.2.1, x.2.2.2.1, x.2.2.2.2.1, x.2.2.2.2.2.1, x.2.2.2.2.2.2.1, x.2.2.2.2.2.2.2.1, v, x.2.2.2.2.2.2.2.2.2)
def ko_cs (x : T_ko) : Nat → Int32 := x.2.2.2.2.2.2.2.2.2
def ko_cs_s (x : T_ko) (v : Nat → Int32) : T_ko := (x.1, x.2.1, x.2.2.1, x.2.2.2.1, x.2.2.2.2.1, x.2.2.2.2.2.1, x.2.2.2.2.2.2.1, x.2.2.2.2.2.2.2.1, x.2.2.2.2.2.2.2.2.1, v)
abbrev T_sh : Type := Int32 × Int32 × Int32 × Int32 × Int32 × Int32
def sh_unit (x : T_sh) : Int32 := x.1
def sh_unit_s (x : T_sh) (v : Int32) : T_sh := (v, x.2.1, x.2.2.1, x.2.2.2.1, x.2.2.2.2.1, x.2.2.2.2.2)
def sh_i (x : T_sh) : Int32 := x.2.1
def sh_i_s (x : T_sh) (v : Int32) : T_sh := (x.1, v, x.2.2.1, x.2.2.2.1, x.2.2.2.2.1, x.2.2.2.2.2)
def sh_number (x : T_sh) : Int32 := x.2.2.1
def sh_number_s (x : T_sh) (v : Int32) : T_sh := (x.1, x.2.1, v, x.2.2.2.1, x.2.2.2.2.1, x.2.2.2.2.2)
def sh_a (x : T_sh) : Int32 := x.2.2.2.1
def sh_a_s (x : T_sh) (v : Int32) : T_sh := (x.1, x.2.1, x.2.2.1, v, x.2.2.2.2.1, x.2.2.2.2.2)
def sh_b (x : T_sh) : Int32 := x.2.2.2.2.1
def sh_b_s (x : T_sh) (v : Int32) : T_sh := (x.1, x.2.1, x.2.2.1, x.2.2.2.1, v, x.2.2.2.2.2)
def sh_c (x : T_sh) : Int32 := x.2.2.2.2.2
def sh_c_s (x : T_sh) (v : Int32) : T_sh := (x.1, x.2.1, x.2.2.1, x.2.2.2.1, x.2.2.2.2.1, v)
abbrev T_lo : Type := Int32 × Int32 × (Nat → Int32)
def lo_loops (x : T_lo) : Int32 := x.1
def lo_loops_s (x : T_lo) (v : Int32) : T_lo := (v, x.2.1, x.2.2)
def lo_unit (x : T_lo) : Int32 := x.2.1
def lo_unit_s (x : T_lo) (v : Int32) : T_lo := (x.1, v, x.2.2)
def lo_nexts (x : T_lo) : Nat → Int32 := x.2.2
def lo_nexts_s (x : T_lo) (v : Nat → Int32) : T_lo := (x.1, x.2.1, v)
abbrev T_de : Type := (Nat → Int32)
def de_depths (x : T_de) : Nat → Int32 := x
def de_depths_s (x : T_de) (v : Nat → Int32) : T_de := v
abbrev T_wa : Type := Int32 × Int32 × (Nat → Int64) × (Nat → Int64) × (Nat → Int64)
def wa_unit (x : T_wa) : Int32 := x.1
def wa_unit_s (x : T_wa) (v : Int32) : T_wa := (v, x.2.1, x.2.2.1, x.2.2.2.1, x.2.2.2.2)
def wa_end_ (x : T_wa) : Int32 := x.2.1
def wa_end__s (x : T_wa) (v : Int32) : T_wa := (x.1, v, x.2.2.1, x.2.2.2.1, x.2.2.2.2)
def wa_reached (x : T_wa) : Nat → Int64 := x.2.2.1
def wa_reached_s (x : T_wa) (v : Nat → Int64) : T_wa := (x.1, x.2.1, v, x.2.2.2.1, x.2.2.2.2)
def wa_rounds (x : T_wa) : Nat → Int64 := x.2.2.2.1
def wa_rounds_s (x : T_wa) (v : Nat → Int64) : T_wa := (x.1, x.2.1, x.2.2.1, v, x.2.2.2.2)
def wa_steps (x : T_wa) : Nat → Int64 := x.2.2.2.2
def wa_steps_s (x : T_wa) (v : Nat → Int64) : T_wa := (x.1, x.2.1, x.2.2.1, x.2.2.2.1, v)
abbrev T_me : Type := Int32 × Int32 × (Nat → Int32) × (Nat → Int32)
def me_depth (x : T_me) : Int32 := x.1
def me_depth_s (x : T_me) (v : Int32) : T_me := (v, x.2.1, x.2.2.1, x.2.2.2)
def me_deepest (x : T_me) : Int32 := x.2.1
def me_deepest_s (x : T_me) (v : Int32) : T_me := (x.1, v, x.2.2.1, x.2.2.2)
def me_cells (x : T_me) : Nat → Int32 := x.2.2.1
def me_cells_s (x : T_me) (v : Nat → Int32) : T_me := (x.1, x.2.1, v, x.2.2.2)
def me_stack (x : T_me) : Nat → Int32 := x.2.2.2
def me_stack_s (x : T_me) (v : Nat → Int32) : T_me := (x.1, x.2.1, x.2.2.1, v)
abbrev T_ru : Type := Int32 × Int32 × Int32 × Int32 × Int32 × Int32 × Int32 × (Nat → Int32) × (Nat → Int32) × (Nat → Int32)
def ru_waiting (x : T_ru) : Int32 := x.1
def ru_waiting_s (x : T_ru) (v : Int32) : T_ru := (v, x.2.1, x.2.2.1, x.2.2.2.1, x.2.2.2.2.1, x.2.2.2.2.2.1, x.2.2.2.2.2.2.1, x.2.2.2.2.2.2.2.1, x.2.2.2.2.2.2.2.2.1, x.2.2.2.2.2.2.2.2.2)
def ru_unit (x : T_ru) : Int32 := x.2.1
def ru_unit_s (x : T_ru) (v : Int32) : T_ru := (x.1, v, x.2.2.1, x.2.2.2.1, x.2.2.2.2.1, x.2.2.2.2.2.1, x.2.2.2.2.2.2.1, x.2.2.2.2.2.2.2.1, x.2.2.2.2.2.2.2.2.1, x.2.2.2.2.2.2.2.2.2)
def ru_next (x : T_ru) : Int32 := x.2.2.1
def ru_next_s (x : T_ru) (v : Int32) : T_ru := (x.1, x.2.1, v, x.2.2.2.1, x.2.2.2.2.1, x.2.2.2.2.2.1, x.2.2.2.2.2.2.1, x.2.2.2.2.2.2.2.1, x.2.2.2.2.2.2.2.2.1, x.2.2.2.2.2.2.2.2.2)
def ru_base (x : T_ru) : Int32 := x.2.2.2.1
def ru_base_s (x : T_ru) (v : Int32) : T_ru := (x.1, x.2.1, x.2.2.1, v, x.2.2.2.2.1, x.2.2.2.2.2.1, x.2.2.2.2.2.2.1, x.2.2.2.2.2.2.2.1, x.2.2.2.2.2.2.2.2.1, x.2.2.2.2.2.2.2.2.2)
def ru_steps (x : T_ru) : Int32 := x.2.2.2.2.1
def ru_steps_s (x : T_ru) (v : Int32) : T_ru := (x.1, x.2.1, x.2.2.1, x.2.2.2.1, v, x.2.2.2.2.2.1, x.2.2.2.2.2.2.1, x.2.2.2.2.2.2.2.1, x.2.2.2.2.2.2.2.2.1, x.2.2.2.2.2.2.2.2.2)
def ru_fault (x : T_ru) : Int32 := x.2.2.2.2.2.1
def ru_fault_s (x : T_ru) (v : Int32) : T_ru := (x.1, x.2.1, x.2.2.1, x.2.2.2.1, x.2.2.2.2.1, v, x.2.2.2.2.2.2.1, x.2.2.2.2.2.2.2.1, x.2.2.2.2.2.2.2.2.1, x.2.2.2.2.2.2.2.2.2)
def ru_now (x : T_ru) : Int32 := x.2.2.2.2.2.2.1
def ru_now_s (x : T_ru) (v : Int32) : T_ru := (x.1, x.2.1, x.2.2.1, x.2.2.2.1, x.2.2.2.2.1, x.2.2.2.2.2.1, v, x.2.2.2.2.2.2.2.1, x.2.2.2.2.2.2.2.2.1, x.2.2.2.2.2.2.2.2.2)
def ru_waitingUnits (x : T_ru) : Nat → Int32 := x.2.2.2.2.2.2.2.1
def ru_waitingUnits_s (x : T_ru) (v : Nat → Int32) : T_ru := (x.1, x.2.1, x.2.2.1, x.2.2.2.1, x.2.2.2.2.1, x.2.2.2.2.2.1, x.2.2.2.2.2.2.1, v, x.2.2.2.2.2.2.2.2.1, x.2.2.2.2.2.2.2.2.2)
def ru_waitingNexts (x : T_ru) : Nat → Int32 := x.2.2.2.2.2.2.2.2.1
def ru_waitingNexts_s (x : T_ru) (v : Nat → Int32) : T_ru := (x.1, x.2.1, x.2.2.1, x.2.2.2.1, x.2.2.2.2.1, x.2.2.2.2.2.1, x.2.2.2.2.2.2.1, x.2.2.2.2.2.2.2.1, v, x.2.2.2.2.2.2.2.2.2)
def ru_waitingBases (x : T_ru) : Nat → Int32 := x.2.2.2.2.2.2.2.2.2
def ru_waitingBases_s (x : T_ru) (v : Nat → Int32) : T_ru := (x.1, x.2.1, x.2.2.1, x.2.2.2.1, x.2.2.2.2.1, x.2.2.2.2.2.1, x.2.2.2.2.2.2.1, x.2.2.2.2.2.2.2.1, x.2.2.2.2.2.2.2.2.1, v)
abbrev T_mc : Type := Int32 × Int32 × Int32 × (Nat → Int32) × (Nat → Int32) × (Nat → Int32) × (Nat → Int32) × (Nat → Int32) × (Nat → Int32) × (Nat → Int32)
def mc_size (x : T_mc) : Int32 := x.1
def mc_size_s (x : T_mc) (v : Int32) : T_mc := (v, x.2.1, x.2.2.1, x.2.2.2.1, x.2.2.2.2.1, x.2.2.2.2.2.1, x.2.2.2.2.2.2.1, x.2.2.2.2.2.2.2.1, x.2.2.2.2.2.2.2.2.1, x.2.2.2.2.2.2.2.2.2)
def mc_units (x : T_mc) : Int32 := x.2.1
def mc_units_s (x : T_mc) (v : Int32) : T_mc := (x.1, v, x.2.2.1, x.2.2.2.1, x.2.2.2.2.1, x.2.2.2.2.2.1, x.2.2.2.2.2.2.1, x.2.2.2.2.2.2.2.1, x.2.2.2.2.2.2.2.2.1, x.2.2.2.2.2.2.2.2.2)
def mc_total (x : T_mc) : Int32 := x.2.2.1
def mc_total_s (x : T_mc) (v : Int32) : T_mc := (x.1, x.2.1, v, x.2.2.2.1, x.2.2.2.2.1, x.2.2.2.2.2.1, x.2.2.2.2.2.2.1, x.2.2.2.2.2.2.2.1, x.2.2.2.2.2.2.2.2.1, x.2.2.2.2.2.2.2.2.2)
def mc_frames (x : T_mc) : Nat → Int32 := x.2.2.2.1
def mc_frames_s (x : T_mc) (v : Nat → Int32) : T_mc := (x.1, x.2.1, x.2.2.1, v, x.2.2.2.2.1, x.2.2.2.2.2.1, x.2.2.2.2.2.2.1, x.2.2.2.2.2.2.2.1, x.2.2.2.2.2.2.2.2.1, x.2.2.2.2.2.2.2.2.2)
def mc_places (x : T_mc) : Nat → Int32 := x.2.2.2.2.1
def mc_places_s (x : T_mc) (v : Nat → Int32) : T_mc := (x.1, x.2.1, x.2.2.1, x.2.2.2.1, v, x.2.2.2.2.2.1, x.2.2.2.2.2.2.1, x.2.2.2.2.2.2.2.1, x.2.2.2.2.2.2.2.2.1, x.2.2.2.2.2.2.2.2.2)
def mc_firsts (x : T_mc) : Nat → Int32 := x.2.2.2.2.2.1
def mc_firsts_s (x : T_mc) (v : Nat → Int32) : T_mc := (x.1, x.2.1, x.2.2.1, x.2.2.2.1, x.2.2.2.2.1, v, x.2.2.2.2.2.2.1, x.2.2.2.2.2.2.2.1, x.2.2.2.2.2.2.2.2.1, x.2.2.2.2.2.2.2.2.2)
def mc_numbers (x : T_mc) : Nat → Int32 := x.2.2.2.2.2.2.1
def mc_numbers_s (x : T_mc) (v : Nat → Int32) : T_mc := (x.1, x.2.1, x.2.2.1, x.2.2.2.1, x.2.2.2.2.1, x.2.2.2.2.2.1, v, x.2.2.2.2.2.2.2.1, x.2.2.2.2.2.2.2.2.1, x.2.2.2.2.2.2.2.2.2)
def mc_as_ (x : T_mc) : Nat → Int32 := x.2.2.2.2.2.2.2.1
def mc_as__s (x : T_mc) (v : Nat → Int32) : T_mc := (x.1, x.2.1, x.2.2.1, x.2.2.2.1, x.2.2.2.2.1, x.2.2.2.2.2.1, x.2.2.2.2.2.2.1, v, x.2.2.2.2.2.2.2.2.1, x.2.2.2.2.2.2.2.2.2)
def mc_bs (x : T_mc) : Nat → Int32 := x.2.2.2.2.2.2.2.2.1
def mc_bs_s (x : T_mc) (v : Nat → Int32) : T_mc := (x.1, x.2.1, x.2.2.1, x.2.2.2.1, x.2.2.2.2.1, x.2.2.2.2.2.1, x.2.2.2.2.2.2.1, x.2.2.2.2.2.2.2.1, v, x.2.2.2.2.2.2.2.2.2)
def mc_cs (x : T_mc) : Nat → Int32 := x.2.2.2.2.2.2.2.2.2
def mc_cs_s (x : T_mc) (v : Nat → Int32) : T_mc := (x.1, x.2.1, x.2.2.1, x.2.2.2.1, x.2.2.2.2.1, x.2.2.2.2.2.1, x.2.2.2.2.2.2.1, x.2.2.2.2.2.2.2.1, x.2.2.2.2.2.2.2.2.1, v)
abbrev T_mq : Type := Int32 × Int32 × (Nat → Int32) × (Nat → Int64) × (Nat → Int64) × (Nat → Int64)
def mq_from_ (x : T_mq) : Int32 := x.1
def mq_from__s (x : T_mq) (v : Int32) : T_mq := (v, x.2.1, x.2.2.1, x.2.2.2.1, x.2.2.2.2.1, x.2.2.2.2.2)
def mq_many (x : T_mq) : Int32 := x.2.1
def mq_many_s (x : T_mq) (v : Int32) : T_mq := (x.1, v, x.2.2.1, x.2.2.2.1, x.2.2.2.2.1, x.2.2.2.2.2)
def mq_depths (x : T_mq) : Nat → Int32 := x.2.2.1
def mq_depths_s (x : T_mq) (v : Nat → Int32) : T_mq := (x.1, x.2.1, v, x.2.2.2.1, x.2.2.2.2.1, x.2.2.2.2.2)
def mq_ways (x : T_mq) : Nat → Int64 := x.2.2.2.1
def mq_ways_s (x : T_mq) (v : Nat → Int64) : T_mq := (x.1, x.2.1, x.2.2.1, v, x.2.2.2.2.1, x.2.2.2.2.2)
def mq_rounds (x : T_mq) : Nat → Int64 := x.2.2.2.2.1
def mq_rounds_s (x : T_mq) (v : Nat → Int64) : T_mq := (x.1, x.2.1, x.2.2.1, x.2.2.2.1, v, x.2.2.2.2.2)
def mq_steps (x : T_mq) : Nat → Int64 := x.2.2.2.2.2
def mq_steps_s (x : T_mq) (v : Nat → Int64) : T_mq := (x.1, x.2.1, x.2.2.1, x.2.2.2.1, x.2.2.2.2.1, v)
abbrev T_mr : Type := Int32 × Int32 × Int32 × Int32 × Int32 × Int32 × Int32 × (Nat → Int32) × (Nat → Int32) × (Nat → Int32) × (Nat → Int32) × (Nat → Int32)
def mr_runs (x : T_mr) : Int32 := x.1
def mr_runs_s (x : T_mr) (v : Int32) : T_mr := (v, x.2.1, x.2.2.1, x.2.2.2.1, x.2.2.2.2.1, x.2.2.2.2.2.1, x.2.2.2.2.2.2.1, x.2.2.2.2.2.2.2.1, x.2.2.2.2.2.2.2.2.1, x.2.2.2.2.2.2.2.2.2.1, x.2.2.2.2.2.2.2.2.2.2.1, x.2.2.2.2.2.2.2.2.2.2.2)
def mr_now (x : T_mr) : Int32 := x.2.1
def mr_now_s (x : T_mr) (v : Int32) : T_mr := (x.1, v, x.2.2.1, x.2.2.2.1, x.2.2.2.2.1, x.2.2.2.2.2.1, x.2.2.2.2.2.2.1, x.2.2.2.2.2.2.2.1, x.2.2.2.2.2.2.2.2.1, x.2.2.2.2.2.2.2.2.2.1, x.2.2.2.2.2.2.2.2.2.2.1, x.2.2.2.2.2.2.2.2.2.2.2)
def mr_lastSteps (x : T_mr) : Int32 := x.2.2.1
def mr_lastSteps_s (x : T_mr) (v : Int32) : T_mr := (x.1, x.2.1, v, x.2.2.2.1, x.2.2.2.2.1, x.2.2.2.2.2.1, x.2.2.2.2.2.2.1, x.2.2.2.2.2.2.2.1, x.2.2.2.2.2.2.2.2.1, x.2.2.2.2.2.2.2.2.2.1, x.2.2.2.2.2.2.2.2.2.2.1, x.2.2.2.2.2.2.2.2.2.2.2)
def mr_scans (x : T_mr) : Int32 := x.2.2.2.1
def mr_scans_s (x : T_mr) (v : Int32) : T_mr := (x.1, x.2.1, x.2.2.1, v, x.2.2.2.2.1, x.2.2.2.2.2.1, x.2.2.2.2.2.2.1, x.2.2.2.2.2.2.2.1, x.2.2.2.2.2.2.2.2.1, x.2.2.2.2.2.2.2.2.2.1, x.2.2.2.2.2.2.2.2.2.2.1, x.2.2.2.2.2.2.2.2.2.2.2)
def mr_faults (x : T_mr) : Int32 := x.2.2.2.2.1
def mr_faults_s (x : T_mr) (v : Int32) : T_mr := (x.1, x.2.1, x.2.2.1, x.2.2.2.1, v, x.2.2.2.2.2.1, x.2.2.2.2.2.2.1, x.2.2.2.2.2.2.2.1, x.2.2.2.2.2.2.2.2.1, x.2.2.2.2.2.2.2.2.2.1, x.2.2.2.2.2.2.2.2.2.2.1, x.2.2.2.2.2.2.2.2.2.2.2)
def mr_deepest (x : T_mr) : Int32 := x.2.2.2.2.2.1
def mr_deepest_s (x : T_mr) (v : Int32) : T_mr := (x.1, x.2.1, x.2.2.1, x.2.2.2.1, x.2.2.2.2.1, v, x.2.2.2.2.2.2.1, x.2.2.2.2.2.2.2.1, x.2.2.2.2.2.2.2.2.1, x.2.2.2.2.2.2.2.2.2.1, x.2.2.2.2.2.2.2.2.2.2.1, x.2.2.2.2.2.2.2.2.2.2.2)
def mr_depth (x : T_mr) : Int32 := x.2.2.2.2.2.2.1
def mr_depth_s (x : T_mr) (v : Int32) : T_mr := (x.1, x.2.1, x.2.2.1, x.2.2.2.1, x.2.2.2.2.1, x.2.2.2.2.2.1, v, x.2.2.2.2.2.2.2.1, x.2.2.2.2.2.2.2.2.1, x.2.2.2.2.2.2.2.2.2.1, x.2.2.2.2.2.2.2.2.2.2.1, x.2.2.2.2.2.2.2.2.2.2.2)
def mr_cells (x : T_mr) : Nat → Int32 := x.2.2.2.2.2.2.2.1
def mr_cells_s (x : T_mr) (v : Nat → Int32) : T_mr := (x.1, x.2.1, x.2.2.1, x.2.2.2.1, x.2.2.2.2.1, x.2.2.2.2.2.1, x.2.2.2.2.2.2.1, v, x.2.2.2.2.2.2.2.2.1, x.2.2.2.2.2.2.2.2.2.1, x.2.2.2.2.2.2.2.2.2.2.1, x.2.2.2.2.2.2.2.2.2.2.2)
def mr_stack (x : T_mr) : Nat → Int32 := x.2.2.2.2.2.2.2.2.1
def mr_stack_s (x : T_mr) (v : Nat → Int32) : T_mr := (x.1, x.2.1, x.2.2.1, x.2.2.2.1, x.2.2.2.2.1, x.2.2.2.2.2.1, x.2.2.2.2.2.2.1, x.2.2.2.2.2.2.2.1, v, x.2.2.2.2.2.2.2.2.2.1, x.2.2.2.2.2.2.2.2.2.2.1, x.2.2.2.2.2.2.2.2.2.2.2)
def mr_unitOf (x : T_mr) : Nat → Int32 := x.2.2.2.2.2.2.2.2.2.1
def mr_unitOf_s (x : T_mr) (v : Nat → Int32) : T_mr := (x.1, x.2.1, x.2.2.1, x.2.2.2.1, x.2.2.2.2.1, x.2.2.2.2.2.1, x.2.2.2.2.2.2.1, x.2.2.2.2.2.2.2.1, x.2.2.2.2.2.2.2.2.1, v, x.2.2.2.2.2.2.2.2.2.2.1, x.2.2.2.2.2.2.2.2.2.2.2)
def mr_baseOf (x : T_mr) : Nat → Int32 := x.2.2.2.2.2.2.2.2.2.2.1
def mr_baseOf_s (x : T_mr) (v : Nat → Int32) : T_mr := (x.1, x.2.1, x.2.2.1, x.2.2.2.1, x.2.2.2.2.1, x.2.2.2.2.2.1, x.2.2.2.2.2.2.1, x.2.2.2.2.2.2.2.1, x.2.2.2.2.2.2.2.2.1, x.2.2.2.2.2.2.2.2.2.1, v, x.2.2.2.2.2.2.2.2.2.2.2)
def mr_nextOf (x : T_mr) : Nat → Int32 := x.2.2.2.2.2.2.2.2.2.2.2
def mr_nextOf_s (x : T_mr) (v : Nat → Int32) : T_mr := (x.1, x.2.1, x.2.2.1, x.2.2.2.1, x.2.2.2.2.1, x.2.2.2.2.2.1, x.2.2.2.2.2.2.1, x.2.2.2.2.2.2.2.1, x.2.2.2.2.2.2.2.2.1, x.2.2.2.2.2.2.2.2.2.1, x.2.2.2.2.2.2.2.2.2.2.1, v)
def wX (cI cL : ClassId) (ad : Nat → Nat) (ma : T_ma) (ko : T_ko) (sh : T_sh) (lo : T_lo) (de : T_de) (wa : T_wa) (me : T_me) (ru : T_ru) : va_W := [(ad 0, .inr (0, [.ref (ad 1), .ref (ad 10), .ref (ad 11), .ref (ad 13), .ref (ad 15), .ref (ad 19), .ref (ad 22), .int (ma_total ma), .int (ma_ready ma), .int (ma_allowed ma), .int (ma_now ma), .int (ma_scans ma), .int (ma_faults ma)])),
  (ad 1, .inr (1, [.ref (ad 2), .ref (ad 3), .ref (ad 4), .ref (ad 5), .ref (ad 6), .ref (ad 7), .ref (ad 8), .ref (ad 9), .int (ko_units ko), .int (ko_length ko)])),
  (ad 2, .inl (cI, 16, .inl (ko_frames ko))),
  (ad 3, .inl (cI, 16, .inl (ko_places ko))),
  (ad 4, .inl (cI, 16, .inl (ko_firsts ko))),
  (ad 5, .inl (cI, 16, .inl (ko_sizes ko))),
  (ad 6, .inl (cI, 256, .inl (ko_numbers ko))),
  (ad 7, .inl (cI, 256, .inl (ko_as_ ko))),
  (ad 8, .inl (cI, 256, .inl (ko_bs ko))),
  (ad 9, .inl (cI, 256, .inl (ko_cs ko))),
  (ad 10, .inr (2, [.ref (ad 1), .int (sh_unit sh), .int (sh_i sh), .int (sh_number sh), .int (sh_a sh), .int (sh_b sh), .int (sh_c sh)])),
  (ad 11, .inr (3, [.ref (ad 1), .ref (ad 12), .int (lo_loops lo), .int (lo_unit lo)])),
  (ad 12, .inl (cI, 256, .inl (lo_nexts lo))),
  (ad 13, .inr (4, [.ref (ad 1), .ref (ad 14)])),
  (ad 14, .inl (cI, 257, .inl (de_depths de))),
  (ad 15, .inr (5, [.ref (ad 1), .ref (ad 16), .ref (ad 17), .ref (ad 18), .int (wa_unit wa), .int (wa_end_ wa)])),
  (ad 16, .inl (cL, 257, .inr (.inl (wa_reached wa)))),
  (ad 17, .inl (cL, 256, .inr (.inl (wa_rounds wa)))),
  (ad 18, .inl (cL, 16, .inr (.inl (wa_steps wa)))),
  (ad 19, .inr (6, [.ref (ad 20), .ref (ad 21), .int (me_depth me), .int (me_deepest me)])),
  (ad 20, .inl (cI, 4096, .inl (me_cells me))),
  (ad 21, .inl (cI, 1024, .inl (me_stack me))),
  (ad 22, .inr (7, [.ref (ad 1), .ref (ad 19), .ref (ad 26), .ref (ad 23), .ref (ad 24), .ref (ad 25), .int (ru_waiting ru), .int (ru_unit ru), .int (ru_next ru), .int (ru_base ru), .int (ru_steps ru), .int (ru_fault ru), .int (ru_now ru)])),
  (ad 23, .inl (cI, 16, .inl (ru_waitingUnits ru))),
  (ad 24, .inl (cI, 16, .inl (ru_waitingNexts ru))),
  (ad 25, .inl (cI, 16, .inl (ru_waitingBases ru))),
  (ad 26, .inr (8, [.ref (ad 19)]))]
def wM (cI cL : ClassId) (ad : Nat → Nat) (mc : T_mc) (mq : T_mq) (mr : T_mr) : va_W := [(ad 0, .inr (9, [.int (mc_size mc), .ref (ad 1), .int (mc_units mc), .ref (ad 2), .ref (ad 3), .ref (ad 4), .int (mc_total mc), .ref (ad 5), .ref (ad 6), .ref (ad 7), .ref (ad 8), .int (mq_from_ mq), .int (mq_many mq), .ref (ad 9), .ref (ad 10), .ref (ad 11), .ref (ad 12), .int (mr_runs mr), .int (mr_now mr), .int (mr_lastSteps mr), .int (mr_scans mr), .int (mr_faults mr), .int (mr_deepest mr), .ref (ad 13), .int (mr_depth mr), .ref (ad 14), .ref (ad 15), .ref (ad 16)])),
  (ad 1, .inl (cI, 4096, .inl (mr_cells mr))),
  (ad 2, .inl (cI, 16, .inl (mc_frames mc))),
  (ad 3, .inl (cI, 16, .inl (mc_places mc))),
  (ad 4, .inl (cI, 17, .inl (mc_firsts mc))),
  (ad 5, .inl (cI, 256, .inl (mc_numbers mc))),
  (ad 6, .inl (cI, 256, .inl (mc_as_ mc))),
  (ad 7, .inl (cI, 256, .inl (mc_bs mc))),
  (ad 8, .inl (cI, 256, .inl (mc_cs mc))),
  (ad 9, .inl (cI, 257, .inl (mq_depths mq))),
  (ad 10, .inl (cL, 257, .inr (.inl (mq_ways mq)))),
  (ad 11, .inl (cL, 256, .inr (.inl (mq_rounds mq)))),
  (ad 12, .inl (cL, 16, .inr (.inl (mq_steps mq)))),
  (ad 13, .inl (cI, 2048, .inl (mr_stack mr))),
  (ad 14, .inl (cI, 20, .inl (mr_unitOf mr))),
  (ad 15, .inl (cI, 20, .inl (mr_baseOf mr))),
  (ad 16, .inl (cI, 20, .inl (mr_nextOf mr)))]
section WROWS
variable {p : Program} {l : Launch} {e : Env} {R : Room} {s : State} {m : MethodId} {args : Array Value} {below : List Frame} {meth : Method} {c : Code} {H H0 : Heap} {locs : List Loc} {cells slots : Nat} {Q : State → Prop} {cc : ByteArray} {pc : Nat} {ls : Array Slot} {rest : List Value} {D : va_G} {A : Nat → Prop} {own host : String} {index : Nat} {cI cL : ClassId} {ad : Nat → Nat} {ma : T_ma} {ko : T_ko} {sh : T_sh} {lo : T_lo} {de : T_de} {wa : T_wa} {me : T_me} {ru : T_ru} {mc : T_mc} {mq : T_mq} {mr : T_mr}
theorem ob_Sm : (wX cI cL ad ma ko sh lo de wa me ru)[0]? = some (ad 0, .inr (0, [.ref (ad 1), .ref (ad 10), .ref (ad 11), .ref (ad 13), .ref (ad 15), .ref (ad 19), .ref (ad 22), .int (ma_total ma), .int (ma_ready ma), .int (ma_allowed ma), .int (ma_now ma), .int (ma_scans ma), .int (ma_faults ma)])) := rfl
theorem rd_Sm_code (hx : p.tables.exec = Jvm.exec) (hb : c.code = cc) (hts : ∀ w ∈ TB, w.before args s = true) (hown : s.vm.findClass own = some m.cls) (hK : va_K D clX (tyX cI cL) s) (hP : va_P D clX (wX cI cL ad ma ko sh lo de wa me ru) H) (hlink : Cond.fieldLink own index "ScanMachine" "code" "LScanMachine$Code;" ∈ TB) (hdg : decode cc pc = .ok (.getfield index, 3)) (kk : W p l e R s m args below meth c H locs cells slots Q (F0 m (pc + 3) ls (.ref (ad 1) :: rest))) : W p l e R s m args below meth c H locs cells slots Q (F0 m (pc) ls (.ref (ad 0) :: rest)) :=
  va_get (D := D) (ci := 0) (v := .ref (ad 1)) (C := "ScanMachine") (T := T_Sm_) (N := 13) hx hb hts in_Sm hown hK hP 0 ob_Sm rfl 0 (by decide) (hts _ hlink) (fun _ h9 => h9) rfl hdg kk
theorem rd_Sm_shape (hx : p.tables.exec = Jvm.exec) (hb : c.code = cc) (hts : ∀ w ∈ TB, w.before args s = true) (hown : s.vm.findClass own = some m.cls) (hK : va_K D clX (tyX cI cL) s) (hP : va_P D clX (wX cI cL ad ma ko sh lo de wa me ru) H) (hlink : Cond.fieldLink own index "ScanMachine" "shape" "LScanMachine$Shape;" ∈ TB) (hdg : decode cc pc = .ok (.getfield index, 3)) (kk : W p l e R s m args below meth c H locs cells slots Q (F0 m (pc + 3) ls (.ref (ad 10) :: rest))) : W p l e R s m args below meth c H locs cells slots Q (F0 m (pc) ls (.ref (ad 0) :: rest)) :=
  va_get (D := D) (ci := 0) (v := .ref (ad 10)) (C := "ScanMachine") (T := T_Sm_) (N := 13) hx hb hts in_Sm hown hK hP 0 ob_Sm rfl 1 (by decide) (hts _ hlink) (fun _ h9 => h9) rfl hdg kk
theorem rd_Sm_loops (hx : p.tables.exec = Jvm.exec) (hb : c.code = cc) (hts : ∀ w ∈ TB, w.before args s = true) (hown : s.vm.findClass own = some m.cls) (hK : va_K D clX (tyX cI cL) s) (hP : va_P D clX (wX cI cL ad ma ko sh lo de wa me ru) H) (hlink : Cond.fieldLink own index "ScanMachine" "loops" "LScanMachine$Loops;" ∈ TB) (hdg : decode cc pc = .ok (.getfield index, 3)) (kk : W p l e R s m args below meth c H locs cells slots Q (F0 m (pc + 3) ls (.ref (ad 11) :: rest))) : W p l e R s m args below meth c H locs cells slots Q (F0 m (pc) ls (.ref (ad 0) :: rest)) :=
  va_get (D := D) (ci := 0) (v := .ref (ad 11)) (C := "ScanMachine") (T := T_Sm_) (N := 13) hx hb hts in_Sm hown hK hP 0 ob_Sm rfl 2 (by decide) (hts _ hlink) (fun _ h9 => h9) rfl hdg kk
theorem rd_Sm_depths (hx : p.tables.exec = Jvm.exec) (hb : c.code = cc) (hts : ∀ w ∈ TB, w.before args s = true) (hown : s.vm.findClass own = some m.cls) (hK : va_K D clX (tyX cI cL) s) (hP : va_P D clX (wX cI cL ad ma ko sh lo de wa me ru) H) (hlink : Cond.fieldLink own index "ScanMachine" "depths" "LScanMachine$Depths;" ∈ TB) (hdg : decode cc pc = .ok (.getfield index, 3)) (kk : W p l e R s m args below meth c H locs cells slots Q (F0 m (pc + 3) ls (.ref (ad 13) :: rest))) : W p l e R s m args below meth c H locs cells slots Q (F0 m (pc) ls (.ref (ad 0) :: rest)) :=
  va_get (D := D) (ci := 0) (v := .ref (ad 13)) (C := "ScanMachine") (T := T_Sm_) (N := 13) hx hb hts in_Sm hown hK hP 0 ob_Sm rfl 3 (by decide) (hts _ hlink) (fun _ h9 => h9) rfl hdg kk
theorem rd_Sm_ways (hx : p.tables.exec = Jvm.exec) (hb : c.code = cc) (hts : ∀ w ∈ TB, w.before args s = true) (hown : s.vm.findClass own = some m.cls) (hK : va_K D clX (tyX cI cL) s) (hP : va_P D clX (wX cI cL ad ma ko sh lo de wa me ru) H) (hlink : Cond.fieldLink own index "ScanMachine" "ways" "LScanMachine$Ways;" ∈ TB) (hdg : decode cc pc = .ok (.getfield index, 3)) (kk : W p l e R s m args below meth c H locs cells slots Q (F0 m (pc + 3) ls (.ref (ad 15) :: rest))) : W p l e R s m args below meth c H locs cells slots Q (F0 m (pc) ls (.ref (ad 0) :: rest)) :=
  va_get (D := D) (ci := 0) (v := .ref (ad 15)) (C := "ScanMachine") (T := T_Sm_) (N := 13) hx hb hts in_Sm hown hK hP 0 ob_Sm rfl 4 (by decide) (hts _ hlink) (fun _ h9 => h9) rfl hdg kk
theorem rd_Sm_memory (hx : p.tables.exec = Jvm.exec) (hb : c.code = cc) (hts : ∀ w ∈ TB, w.before args s = true) (hown : s.vm.findClass own = some m.cls) (hK : va_K D clX (tyX cI cL) s) (hP : va_P D clX (wX cI cL ad ma ko sh lo de wa me ru) H) (hlink : Cond.fieldLink own index "ScanMachine" "memory" "LScanMachine$Memory;" ∈ TB) (hdg : decode cc pc = .ok (.getfield index, 3)) (kk : W p l e R s m args below meth c H locs cells slots Q (F0 m (pc + 3) ls (.ref (ad 19) :: rest))) : W p l e R s m args below meth c H locs cells slots Q (F0 m (pc) ls (.ref (ad 0) :: rest)) :=
  va_get (D := D) (ci := 0) (v := .ref (ad 19)) (C := "ScanMachine") (T := T_Sm_) (N := 13) hx hb hts in_Sm hown hK hP 0 ob_Sm rfl 5 (by decide) (hts _ hlink) (fun _ h9 => h9) rfl hdg kk
theorem rd_Sm_runner (hx : p.tables.exec = Jvm.exec) (hb : c.code = cc) (hts : ∀ w ∈ TB, w.before args s = true) (hown : s.vm.findClass own = some m.cls) (hK : va_K D clX (tyX cI cL) s) (hP : va_P D clX (wX cI cL ad ma ko sh lo de wa me ru) H) (hlink : Cond.fieldLink own index "ScanMachine" "runner" "LScanMachine$Runner;" ∈ TB) (hdg : decode cc pc = .ok (.getfield index, 3)) (kk : W p l e R s m args below meth c H locs cells slots Q (F0 m (pc + 3) ls (.ref (ad 22) :: rest))) : W p l e R s m args below meth c H locs cells slots Q (F0 m (pc) ls (.ref (ad 0) :: rest)) :=
  va_get (D := D) (ci := 0) (v := .ref (ad 22)) (C := "ScanMachine") (T := T_Sm_) (N := 13) hx hb hts in_Sm hown hK hP 0 ob_Sm rfl 6 (by decide) (hts _ hlink) (fun _ h9 => h9) rfl hdg kk
theorem rd_Sm_total (hx : p.tables.exec = Jvm.exec) (hb : c.code = cc) (hts : ∀ w ∈ TB, w.before args s = true) (hown : s.vm.findClass own = some m.cls) (hK : va_K D clX (tyX cI cL) s) (hP : va_P D clX (wX cI cL ad ma ko sh lo de wa me ru) H) (hlink : Cond.fieldLink own index "ScanMachine" "total" "I" ∈ TB) {v : Int32} (hv : ma_total ma = v) (hdg : decode cc pc = .ok (.getfield index, 3)) (kk : W p l e R s m args below meth c H locs cells slots Q (F0 m (pc + 3) ls (.int v :: rest))) : W p l e R s m args below meth c H locs cells slots Q (F0 m (pc) ls (.ref (ad 0) :: rest)) := by
  subst hv
  exact va_get (D := D) (ci := 0) (v := .int (ma_total ma)) (C := "ScanMachine") (T := T_Sm_) (N := 13) hx hb hts in_Sm hown hK hP 0 ob_Sm rfl 7 (by decide) (hts _ hlink) (fun _ h9 => h9) rfl hdg kk
theorem wr_Sm_total (hx : p.tables.exec = Jvm.exec) (hb : c.code = cc) (hts : ∀ w ∈ TB, w.before args s = true) (hown : s.vm.findClass own = some m.cls) (hK : va_K D clX (tyX cI cL) s) (hP : va_P D clX (wX cI cL ad ma ko sh lo de wa me ru) H) (hD : va_D A (wX cI cL ad ma ko sh lo de wa me ru)) (hS : va_S A H0 H locs) (hlink : Cond.fieldLink own index "ScanMachine" "total" "I" ∈ TB) {v : Int32} (hdg : decode cc pc = .ok (.putfield index, 3)) (kk : ∀ (H1 : Heap) (locs1 : List Loc), va_P D clX (wX cI cL ad (ma_total_s ma v) ko sh lo de wa me ru) H1 → va_D A (wX cI cL ad (ma_total_s ma v) ko sh lo de wa me ru) → va_S A H0 H1 locs1 → W p l e R s m args below meth c H1 locs1 cells slots Q (F0 m (pc + 3) ls (rest))) : W p l e R s m args below meth c H locs cells slots Q (F0 m (pc) ls (.int v :: .ref (ad 0) :: rest)) :=
  va_put (D := D) (ci := 0) (v := .int v) (ty := .int) (C := "ScanMachine") (T := T_Sm_) (N := 13) hx hb hts in_Sm ty_Sm tyok_Sm nm_Sm hown hK hP hD hS 0 ob_Sm rfl 7 (by decide) (hts _ hlink) (fun _ h9 => h9) rfl (by decide +kernel) rfl rfl (Nat.le_of_ble_eq_true rfl) hdg kk
theorem rd_Sm_ready (hx : p.tables.exec = Jvm.exec) (hb : c.code = cc) (hts : ∀ w ∈ TB, w.before args s = true) (hown : s.vm.findClass own = some m.cls) (hK : va_K D clX (tyX cI cL) s) (hP : va_P D clX (wX cI cL ad ma ko sh lo de wa me ru) H) (hlink : Cond.fieldLink own index "ScanMachine" "ready" "Z" ∈ TB) {v : Int32} (hv : ma_ready ma = v) (hdg : decode cc pc = .ok (.getfield index, 3)) (kk : W p l e R s m args below meth c H locs cells slots Q (F0 m (pc + 3) ls (.int v :: rest))) : W p l e R s m args below meth c H locs cells slots Q (F0 m (pc) ls (.ref (ad 0) :: rest)) := by
  subst hv
  exact va_get (D := D) (ci := 0) (v := .int (ma_ready ma)) (C := "ScanMachine") (T := T_Sm_) (N := 13) hx hb hts in_Sm hown hK hP 0 ob_Sm rfl 8 (by decide) (hts _ hlink) (fun _ h9 => h9) rfl hdg kk
theorem wr_Sm_ready (hx : p.tables.exec = Jvm.exec) (hb : c.code = cc) (hts : ∀ w ∈ TB, w.before args s = true) (hown : s.vm.findClass own = some m.cls) (hK : va_K D clX (tyX cI cL) s) (hP : va_P D clX (wX cI cL ad ma ko sh lo de wa me ru) H) (hD : va_D A (wX cI cL ad ma ko sh lo de wa me ru)) (hS : va_S A H0 H locs) (hlink : Cond.fieldLink own index "ScanMachine" "ready" "Z" ∈ TB) {v : Int32} (h01 : v = 0 ∨ v = 1) (hdg : decode cc pc = .ok (.putfield index, 3)) (kk : ∀ (H1 : Heap) (locs1 : List Loc), va_P D clX (wX cI cL ad (ma_ready_s ma v) ko sh lo de wa me ru) H1 → va_D A (wX cI cL ad (ma_ready_s ma v) ko sh lo de wa me ru) → va_S A H0 H1 locs1 → W p l e R s m args below meth c H1 locs1 cells slots Q (F0 m (pc + 3) ls (rest))) : W p l e R s m args below meth c H locs cells slots Q (F0 m (pc) ls (.int v :: .ref (ad 0) :: rest)) :=
  va_put (D := D) (ci := 0) (v := .int v) (ty := .boolean) (C := "ScanMachine") (T := T_Sm_) (N := 13) hx hb hts in_Sm ty_Sm tyok_Sm nm_Sm hown hK hP hD hS 0 ob_Sm rfl 8 (by decide) (hts _ hlink) (fun _ h9 => h9) rfl (by decide +kernel) (by rcases h01 with rfl | rfl <;> rfl) (by rcases h01 with rfl | rfl <;> rfl) (Nat.le_of_ble_eq_true rfl) hdg kk
theorem rd_Sm_allowed (hx : p.tables.exec = Jvm.exec) (hb : c.code = cc) (hts : ∀ w ∈ TB, w.before args s = true) (hown : s.vm.findClass own = some m.cls) (hK : va_K D clX (tyX cI cL) s) (hP : va_P D clX (wX cI cL ad ma ko sh lo de wa me ru) H) (hlink : Cond.fieldLink own index "ScanMachine" "allowed" "I" ∈ TB) {v : Int32} (hv : ma_allowed ma = v) (hdg : decode cc pc = .ok (.getfield index, 3)) (kk : W p l e R s m args below meth c H locs cells slots Q (F0 m (pc + 3) ls (.int v :: rest))) : W p l e R s m args below meth c H locs cells slots Q (F0 m (pc) ls (.ref (ad 0) :: rest)) := by
  subst hv
  exact va_get (D := D) (ci := 0) (v := .int (ma_allowed ma)) (C := "ScanMachine") (T := T_Sm_) (N := 13) hx hb hts in_Sm hown hK hP 0 ob_Sm rfl 9 (by decide) (hts _ hlink) (fun _ h9 => h9) rfl hdg kk
theorem wr_Sm_allowed (hx : p.tables.exec = Jvm.exec) (hb : c.code = cc) (hts : ∀ w ∈ TB, w.before args s = true) (hown : s.vm.findClass own = some m.cls) (hK : va_K D clX (tyX cI cL) s) (hP : va_P D clX (wX cI cL ad ma ko sh lo de wa me ru) H) (hD : va_D A (wX cI cL ad ma ko sh lo de wa me ru)) (hS : va_S A H0 H locs) (hlink : Cond.fieldLink own index "ScanMachine" "allowed" "I" ∈ TB) {v : Int32} (hdg : decode cc pc = .ok (.putfield index, 3)) (kk : ∀ (H1 : Heap) (locs1 : List Loc), va_P D clX (wX cI cL ad (ma_allowed_s ma v) ko sh lo de wa me ru) H1 → va_D A (wX cI cL ad (ma_allowed_s ma v) ko sh lo de wa me ru) → va_S A H0 H1 locs1 → W p l e R s m args below meth c H1 locs1 cells slots Q (F0 m (pc + 3) ls (rest))) : W p l e R s m args below meth c H locs cells slots Q (F0 m (pc) ls (.int v :: .ref (ad 0) :: rest)) :=
  va_put (D := D) (ci := 0) (v := .int v) (ty := .int) (C := "ScanMachine") (T := T_Sm_) (N := 13) hx hb hts in_Sm ty_Sm tyok_Sm nm_Sm hown hK hP hD hS 0 ob_Sm rfl 9 (by decide) (hts _ hlink) (fun _ h9 => h9) rfl (by decide +kernel) rfl rfl (Nat.le_of_ble_eq_true rfl) hdg kk
theorem rd_Sm_now (hx : p.tables.exec = Jvm.exec) (hb : c.code = cc) (hts : ∀ w ∈ TB, w.before args s = true) (hown : s.vm.findClass own = some m.cls) (hK : va_K D clX (tyX cI cL) s) (hP : va_P D clX (wX cI cL ad ma ko sh lo de wa me ru) H) (hlink : Cond.fieldLink own index "ScanMachine" "now" "I" ∈ TB) {v : Int32} (hv : ma_now ma = v) (hdg : decode cc pc = .ok (.getfield index, 3)) (kk : W p l e R s m args below meth c H locs cells slots Q (F0 m (pc + 3) ls (.int v :: rest))) : W p l e R s m args below meth c H locs cells slots Q (F0 m (pc) ls (.ref (ad 0) :: rest)) := by
  subst hv
  exact va_get (D := D) (ci := 0) (v := .int (ma_now ma)) (C := "ScanMachine") (T := T_Sm_) (N := 13) hx hb hts in_Sm hown hK hP 0 ob_Sm rfl 10 (by decide) (hts _ hlink) (fun _ h9 => h9) rfl hdg kk
theorem wr_Sm_now (hx : p.tables.exec = Jvm.exec) (hb : c.code = cc) (hts : ∀ w ∈ TB, w.before args s = true) (hown : s.vm.findClass own = some m.cls) (hK : va_K D clX (tyX cI cL) s) (hP : va_P D clX (wX cI cL ad ma ko sh lo de wa me ru) H) (hD : va_D A (wX cI cL ad ma ko sh lo de wa me ru)) (hS : va_S A H0 H locs) (hlink : Cond.fieldLink own index "ScanMachine" "now" "I" ∈ TB) {v : Int32} (hdg : decode cc pc = .ok (.putfield index, 3)) (kk : ∀ (H1 : Heap) (locs1 : List Loc), va_P D clX (wX cI cL ad (ma_now_s ma v) ko sh lo de wa me ru) H1 → va_D A (wX cI cL ad (ma_now_s ma v) ko sh lo de wa me ru) → va_S A H0 H1 locs1 → W p l e R s m args below meth c H1 locs1 cells slots Q (F0 m (pc + 3) ls (rest))) : W p l e R s m args below meth c H locs cells slots Q (F0 m (pc) ls (.int v :: .ref (ad 0) :: rest)) :=
  va_put (D := D) (ci := 0) (v := .int v) (ty := .int) (C := "ScanMachine") (T := T_Sm_) (N := 13) hx hb hts in_Sm ty_Sm tyok_Sm nm_Sm hown hK hP hD hS 0 ob_Sm rfl 10 (by decide) (hts _ hlink) (fun _ h9 => h9) rfl (by decide +kernel) rfl rfl (Nat.le_of_ble_eq_true rfl) hdg kk
theorem rd_Sm_scans (hx : p.tables.exec = Jvm.exec) (hb : c.code = cc) (hts : ∀ w ∈ TB, w.before args s = true) (hown : s.vm.findClass own = some m.cls) (hK : va_K D clX (tyX cI cL) s) (hP : va_P D clX (wX cI cL ad ma ko sh lo de wa me ru) H) (hlink : Cond.fieldLink own index "ScanMachine" "scans" "I" ∈ TB) {v : Int32} (hv : ma_scans ma = v) (hdg : decode cc pc = .ok (.getfield index, 3)) (kk : W p l e R s m args below meth c H locs cells slots Q (F0 m (pc + 3) ls (.int v :: rest))) : W p l e R s m args below meth c H locs cells slots Q (F0 m (pc) ls (.ref (ad 0) :: rest)) := by
  subst hv
  exact va_get (D := D) (ci := 0) (v := .int (ma_scans ma)) (C := "ScanMachine") (T := T_Sm_) (N := 13) hx hb hts in_Sm hown hK hP 0 ob_Sm rfl 11 (by decide) (hts _ hlink) (fun _ h9 => h9) rfl hdg kk
theorem wr_Sm_scans (hx : p.tables.exec = Jvm.exec) (hb : c.code = cc) (hts : ∀ w ∈ TB, w.before args s = true) (hown : s.vm.findClass own = some m.cls) (hK : va_K D clX (tyX cI cL) s) (hP : va_P D clX (wX cI cL ad ma ko sh lo de wa me ru) H) (hD : va_D A (wX cI cL ad ma ko sh lo de wa me ru)) (hS : va_S A H0 H locs) (hlink : Cond.fieldLink own index "ScanMachine" "scans" "I" ∈ TB) {v : Int32} (hdg : decode cc pc = .ok (.putfield index, 3)) (kk : ∀ (H1 : Heap) (locs1 : List Loc), va_P D clX (wX cI cL ad (ma_scans_s ma v) ko sh lo de wa me ru) H1 → va_D A (wX cI cL ad (ma_scans_s ma v) ko sh lo de wa me ru) → va_S A H0 H1 locs1 → W p l e R s m args below meth c H1 locs1 cells slots Q (F0 m (pc + 3) ls (rest))) : W p l e R s m args below meth c H locs cells slots Q (F0 m (pc) ls (.int v :: .ref (ad 0) :: rest)) :=
  va_put (D := D) (ci := 0) (v := .int v) (ty := .int) (C := "ScanMachine") (T := T_Sm_) (N := 13) hx hb hts in_Sm ty_Sm tyok_Sm nm_Sm hown hK hP hD hS 0 ob_Sm rfl 11 (by decide) (hts _ hlink) (fun _ h9 => h9) rfl (by decide +kernel) rfl rfl (Nat.le_of_ble_eq_true rfl) hdg kk
theorem rd_Sm_faults (hx : p.tables.exec = Jvm.exec) (hb : c.code = cc) (hts : ∀ w ∈ TB, w.before args s = true) (hown : s.vm.findClass own = some m.cls) (hK : va_K D clX (tyX cI cL) s) (hP : va_P D clX (wX cI cL ad ma ko sh lo de wa me ru) H) (hlink : Cond.fieldLink own index "ScanMachine" "faults" "I" ∈ TB) {v : Int32} (hv : ma_faults ma = v) (hdg : decode cc pc = .ok (.getfield index, 3)) (kk : W p l e R s m args below meth c H locs cells slots Q (F0 m (pc + 3) ls (.int v :: rest))) : W p l e R s m args below meth c H locs cells slots Q (F0 m (pc) ls (.ref (ad 0) :: rest)) := by
  subst hv
  exact va_get (D := D) (ci := 0) (v := .int (ma_faults ma)) (C := "ScanMachine") (T := T_Sm_) (N := 13) hx hb hts in_Sm hown hK hP 0 ob_Sm rfl 12 (by decide) (hts _ hlink) (fun _ h9 => h9) rfl hdg kk
theorem wr_Sm_faults (hx : p.tables.exec = Jvm.exec) (hb : c.code = cc) (hts : ∀ w ∈ TB, w.before args s = true) (hown : s.vm.findClass own = some m.cls) (hK : va_K D clX (tyX cI cL) s) (hP : va_P D clX (wX cI cL ad ma ko sh lo de wa me ru) H) (hD : va_D A (wX cI cL ad ma ko sh lo de wa me ru)) (hS : va_S A H0 H locs) (hlink : Cond.fieldLink own index "ScanMachine" "faults" "I" ∈ TB) {v : Int32} (hdg : decode cc pc = .ok (.putfield index, 3)) (kk : ∀ (H1 : Heap) (locs1 : List Loc), va_P D clX (wX cI cL ad (ma_faults_s ma v) ko sh lo de wa me ru) H1 → va_D A (wX cI cL ad (ma_faults_s ma v) ko sh lo de wa me ru) → va_S A H0 H1 locs1 → W p l e R s m args below meth c H1 locs1 cells slots Q (F0 m (pc + 3) ls (rest))) : W p l e R s m args below meth c H locs cells slots Q (F0 m (pc) ls (.int v :: .ref (ad 0) :: rest)) :=
  va_put (D := D) (ci := 0) (v := .int v) (ty := .int) (C := "ScanMachine") (T := T_Sm_) (N := 13) hx hb hts in_Sm ty_Sm tyok_Sm nm_Sm hown hK hP hD hS 0 ob_Sm rfl 12 (by decide) (hts _ hlink) (fun _ h9 => h9) rfl (by decide +kernel) rfl rfl (Nat.le_of_ble_eq_true rfl) hdg kk
theorem ob_Co : (wX cI cL ad ma ko sh lo de wa me ru)[1]? = some (ad 1, .inr (1, [.ref (ad 2), .ref (ad 3), .ref (ad 4), .ref (ad 5), .ref (ad 6), .ref (ad 7), .ref (ad 8), .ref (ad 9), .int (ko_units ko), .int (ko_length ko)])) := rfl
theorem rd_Co_frames (hx : p.tables.exec = Jvm.exec) (hb : c.code = cc) (hts : ∀ w ∈ TB, w.before args s = true) (hown : s.vm.findClass own = some m.cls) (hK : va_K D clX (tyX cI cL) s) (hP : va_P D clX (wX cI cL ad ma ko sh lo de wa me ru) H) (hlink : Cond.fieldLink own index "ScanMachine$Code" "frames" "[I" ∈ TB) (hdg : decode cc pc = .ok (.getfield index, 3)) (kk : W p l e R s m args below meth c H locs cells slots Q (F0 m (pc + 3) ls (.ref (ad 2) :: rest))) : W p l e R s m args below meth c H locs cells slots Q (F0 m (pc) ls (.ref (ad 1) :: rest)) :=
  va_get (D := D) (ci := 1) (v := .ref (ad 2)) (C := "ScanMachine$Code") (T := T_Co_) (N := 10) hx hb hts in_Co hown hK hP 1 ob_Co rfl 0 (by decide) (hts _ hlink) (fun _ h9 => h9) rfl hdg kk
theorem rd_Co_places (hx : p.tables.exec = Jvm.exec) (hb : c.code = cc) (hts : ∀ w ∈ TB, w.before args s = true) (hown : s.vm.findClass own = some m.cls) (hK : va_K D clX (tyX cI cL) s) (hP : va_P D clX (wX cI cL ad ma ko sh lo de wa me ru) H) (hlink : Cond.fieldLink own index "ScanMachine$Code" "places" "[I" ∈ TB) (hdg : decode cc pc = .ok (.getfield index, 3)) (kk : W p l e R s m args below meth c H locs cells slots Q (F0 m (pc + 3) ls (.ref (ad 3) :: rest))) : W p l e R s m args below meth c H locs cells slots Q (F0 m (pc) ls (.ref (ad 1) :: rest)) :=
  va_get (D := D) (ci := 1) (v := .ref (ad 3)) (C := "ScanMachine$Code") (T := T_Co_) (N := 10) hx hb hts in_Co hown hK hP 1 ob_Co rfl 1 (by decide) (hts _ hlink) (fun _ h9 => h9) rfl hdg kk
theorem rd_Co_firsts (hx : p.tables.exec = Jvm.exec) (hb : c.code = cc) (hts : ∀ w ∈ TB, w.before args s = true) (hown : s.vm.findClass own = some m.cls) (hK : va_K D clX (tyX cI cL) s) (hP : va_P D clX (wX cI cL ad ma ko sh lo de wa me ru) H) (hlink : Cond.fieldLink own index "ScanMachine$Code" "firsts" "[I" ∈ TB) (hdg : decode cc pc = .ok (.getfield index, 3)) (kk : W p l e R s m args below meth c H locs cells slots Q (F0 m (pc + 3) ls (.ref (ad 4) :: rest))) : W p l e R s m args below meth c H locs cells slots Q (F0 m (pc) ls (.ref (ad 1) :: rest)) :=
  va_get (D := D) (ci := 1) (v := .ref (ad 4)) (C := "ScanMachine$Code") (T := T_Co_) (N := 10) hx hb hts in_Co hown hK hP 1 ob_Co rfl 2 (by decide) (hts _ hlink) (fun _ h9 => h9) rfl hdg kk
theorem rd_Co_sizes (hx : p.tables.exec = Jvm.exec) (hb : c.code = cc) (hts : ∀ w ∈ TB, w.before args s = true) (hown : s.vm.findClass own = some m.cls) (hK : va_K D clX (tyX cI cL) s) (hP : va_P D clX (wX cI cL ad ma ko sh lo de wa me ru) H) (hlink : Cond.fieldLink own index "ScanMachine$Code" "sizes" "[I" ∈ TB) (hdg : decode cc pc = .ok (.getfield index, 3)) (kk : W p l e R s m args below meth c H locs cells slots Q (F0 m (pc + 3) ls (.ref (ad 5) :: rest))) : W p l e R s m args below meth c H locs cells slots Q (F0 m (pc) ls (.ref (ad 1) :: rest)) :=
  va_get (D := D) (ci := 1) (v := .ref (ad 5)) (C := "ScanMachine$Code") (T := T_Co_) (N := 10) hx hb hts in_Co hown hK hP 1 ob_Co rfl 3 (by decide) (hts _ hlink) (fun _ h9 => h9) rfl hdg kk
theorem rd_Co_numbers (hx : p.tables.exec = Jvm.exec) (hb : c.code = cc) (hts : ∀ w ∈ TB, w.before args s = true) (hown : s.vm.findClass own = some m.cls) (hK : va_K D clX (tyX cI cL) s) (hP : va_P D clX (wX cI cL ad ma ko sh lo de wa me ru) H) (hlink : Cond.fieldLink own index "ScanMachine$Code" "numbers" "[I" ∈ TB) (hdg : decode cc pc = .ok (.getfield index, 3)) (kk : W p l e R s m args below meth c H locs cells slots Q (F0 m (pc + 3) ls (.ref (ad 6) :: rest))) : W p l e R s m args below meth c H locs cells slots Q (F0 m (pc) ls (.ref (ad 1) :: rest)) :=
  va_get (D := D) (ci := 1) (v := .ref (ad 6)) (C := "ScanMachine$Code") (T := T_Co_) (N := 10) hx hb hts in_Co hown hK hP 1 ob_Co rfl 4 (by decide) (hts _ hlink) (fun _ h9 => h9) rfl hdg kk
theorem rd_Co_as_ (hx : p.tables.exec = Jvm.exec) (hb : c.code = cc) (hts : ∀ w ∈ TB, w.before args s = true) (hown : s.vm.findClass own = some m.cls) (hK : va_K D clX (tyX cI cL) s) (hP : va_P D clX (wX cI cL ad ma ko sh lo de wa me ru) H) (hlink : Cond.fieldLink own index "ScanMachine$Code" "as" "[I" ∈ TB) (hdg : decode cc pc = .ok (.getfield index, 3)) (kk : W p l e R s m args below meth c H locs cells slots Q (F0 m (pc + 3) ls (.ref (ad 7) :: rest))) : W p l e R s m args below meth c H locs cells slots Q (F0 m (pc) ls (.ref (ad 1) :: rest)) :=
  va_get (D := D) (ci := 1) (v := .ref (ad 7)) (C := "ScanMachine$Code") (T := T_Co_) (N := 10) hx hb hts in_Co hown hK hP 1 ob_Co rfl 5 (by decide) (hts _ hlink) (fun _ h9 => h9) rfl hdg kk
theorem rd_Co_bs (hx : p.tables.exec = Jvm.exec) (hb : c.code = cc) (hts : ∀ w ∈ TB, w.before args s = true) (hown : s.vm.findClass own = some m.cls) (hK : va_K D clX (tyX cI cL) s) (hP : va_P D clX (wX cI cL ad ma ko sh lo de wa me ru) H) (hlink : Cond.fieldLink own index "ScanMachine$Code" "bs" "[I" ∈ TB) (hdg : decode cc pc = .ok (.getfield index, 3)) (kk : W p l e R s m args below meth c H locs cells slots Q (F0 m (pc + 3) ls (.ref (ad 8) :: rest))) : W p l e R s m args below meth c H locs cells slots Q (F0 m (pc) ls (.ref (ad 1) :: rest)) :=
  va_get (D := D) (ci := 1) (v := .ref (ad 8)) (C := "ScanMachine$Code") (T := T_Co_) (N := 10) hx hb hts in_Co hown hK hP 1 ob_Co rfl 6 (by decide) (hts _ hlink) (fun _ h9 => h9) rfl hdg kk
theorem rd_Co_cs (hx : p.tables.exec = Jvm.exec) (hb : c.code = cc) (hts : ∀ w ∈ TB, w.before args s = true) (hown : s.vm.findClass own = some m.cls) (hK : va_K D clX (tyX cI cL) s) (hP : va_P D clX (wX cI cL ad ma ko sh lo de wa me ru) H) (hlink : Cond.fieldLink own index "ScanMachine$Code" "cs" "[I" ∈ TB) (hdg : decode cc pc = .ok (.getfield index, 3)) (kk : W p l e R s m args below meth c H locs cells slots Q (F0 m (pc + 3) ls (.ref (ad 9) :: rest))) : W p l e R s m args below meth c H locs cells slots Q (F0 m (pc) ls (.ref (ad 1) :: rest)) :=
  va_get (D := D) (ci := 1) (v := .ref (ad 9)) (C := "ScanMachine$Code") (T := T_Co_) (N := 10) hx hb hts in_Co hown hK hP 1 ob_Co rfl 7 (by decide) (hts _ hlink) (fun _ h9 => h9) rfl hdg kk
theorem rd_Co_units (hx : p.tables.exec = Jvm.exec) (hb : c.code = cc) (hts : ∀ w ∈ TB, w.before args s = true) (hown : s.vm.findClass own = some m.cls) (hK : va_K D clX (tyX cI cL) s) (hP : va_P D clX (wX cI cL ad ma ko sh lo de wa me ru) H) (hlink : Cond.fieldLink own index "ScanMachine$Code" "units" "I" ∈ TB) {v : Int32} (hv : ko_units ko = v) (hdg : decode cc pc = .ok (.getfield index, 3)) (kk : W p l e R s m args below meth c H locs cells slots Q (F0 m (pc + 3) ls (.int v :: rest))) : W p l e R s m args below meth c H locs cells slots Q (F0 m (pc) ls (.ref (ad 1) :: rest)) := by
  subst hv
  exact va_get (D := D) (ci := 1) (v := .int (ko_units ko)) (C := "ScanMachine$Code") (T := T_Co_) (N := 10) hx hb hts in_Co hown hK hP 1 ob_Co rfl 8 (by decide) (hts _ hlink) (fun _ h9 => h9) rfl hdg kk
theorem wr_Co_units (hx : p.tables.exec = Jvm.exec) (hb : c.code = cc) (hts : ∀ w ∈ TB, w.before args s = true) (hown : s.vm.findClass own = some m.cls) (hK : va_K D clX (tyX cI cL) s) (hP : va_P D clX (wX cI cL ad ma ko sh lo de wa me ru) H) (hD : va_D A (wX cI cL ad ma ko sh lo de wa me ru)) (hS : va_S A H0 H locs) (hlink : Cond.fieldLink own index "ScanMachine$Code" "units" "I" ∈ TB) {v : Int32} (hdg : decode cc pc = .ok (.putfield index, 3)) (kk : ∀ (H1 : Heap) (locs1 : List Loc), va_P D clX (wX cI cL ad ma (ko_units_s ko v) sh lo de wa me ru) H1 → va_D A (wX cI cL ad ma (ko_units_s ko v) sh lo de wa me ru) → va_S A H0 H1 locs1 → W p l e R s m args below meth c H1 locs1 cells slots Q (F0 m (pc + 3) ls (rest))) : W p l e R s m args below meth c H locs cells slots Q (F0 m (pc) ls (.int v :: .ref (ad 1) :: rest)) :=
  va_put (D := D) (ci := 1) (v := .int v) (ty := .int) (C := "ScanMachine$Code") (T := T_Co_) (N := 10) hx hb hts in_Co ty_Co tyok_Co nm_Co hown hK hP hD hS 1 ob_Co rfl 8 (by decide) (hts _ hlink) (fun _ h9 => h9) rfl (by decide +kernel) rfl rfl (Nat.le_of_ble_eq_true rfl) hdg kk
theorem rd_Co_length (hx : p.tables.exec = Jvm.exec) (hb : c.code = cc) (hts : ∀ w ∈ TB, w.before args s = true) (hown : s.vm.findClass own = some m.cls) (hK : va_K D clX (tyX cI cL) s) (hP : va_P D clX (wX cI cL ad ma ko sh lo de wa me ru) H) (hlink : Cond.fieldLink own index "ScanMachine$Code" "length" "I" ∈ TB) {v : Int32} (hv : ko_length ko = v) (hdg : decode cc pc = .ok (.getfield index, 3)) (kk : W p l e R s m args below meth c H locs cells slots Q (F0 m (pc + 3) ls (.int v :: rest))) : W p l e R s m args below meth c H locs cells slots Q (F0 m (pc) ls (.ref (ad 1) :: rest)) := by
  subst hv
  exact va_get (D := D) (ci := 1) (v := .int (ko_length ko)) (C := "ScanMachine$Code") (T := T_Co_) (N := 10) hx hb hts in_Co hown hK hP 1 ob_Co rfl 9 (by decide) (hts _ hlink) (fun _ h9 => h9) rfl hdg kk
theorem wr_Co_length (hx : p.tables.exec = Jvm.exec) (hb : c.code = cc) (hts : ∀ w ∈ TB, w.before args s = true) (hown : s.vm.findClass own = some m.cls) (hK : va_K D clX (tyX cI cL) s) (hP : va_P D clX (wX cI cL ad ma ko sh lo de wa me ru) H) (hD : va_D A (wX cI cL ad ma ko sh lo de wa me ru)) (hS : va_S A H0 H locs) (hlink : Cond.fieldLink own index "ScanMachine$Code" "length" "I" ∈ TB) {v : Int32} (hdg : decode cc pc = .ok (.putfield index, 3)) (kk : ∀ (H1 : Heap) (locs1 : List Loc), va_P D clX (wX cI cL ad ma (ko_length_s ko v) sh lo de wa me ru) H1 → va_D A (wX cI cL ad ma (ko_length_s ko v) sh lo de wa me ru) → va_S A H0 H1 locs1 → W p l e R s m args below meth c H1 locs1 cells slots Q (F0 m (pc + 3) ls (rest))) : W p l e R s m args below meth c H locs cells slots Q (F0 m (pc) ls (.int v :: .ref (ad 1) :: rest)) :=
  va_put (D := D) (ci := 1) (v := .int v) (ty := .int) (C := "ScanMachine$Code") (T := T_Co_) (N := 10) hx hb hts in_Co ty_Co tyok_Co nm_Co hown hK hP hD hS 1 ob_Co rfl 9 (by decide) (hts _ hlink) (fun _ h9 => h9) rfl (by decide +kernel) rfl rfl (Nat.le_of_ble_eq_true rfl) hdg kk
theorem ar_Co_frames : (wX cI cL ad ma ko sh lo de wa me ru)[2]? = some (ad 2, .inl (cI, 16, .inl (ko_frames ko))) := rfl
theorem ld_Co_frames (hx : p.tables.exec = Jvm.exec) (hb : c.code = cc) (hK : va_K D clX (tyX cI cL) s) (hP : va_P D clX (wX cI cL ad ma ko sh lo de wa me ru) H) {i : Int32} (hin : vp_in i 16) {v : Int32} (hv : v = ko_frames ko i.toNatClampNeg) (hdg : decode cc pc = .ok (.iaload, 1)) (kk : W p l e R s m args below meth c H locs cells slots Q (F0 m (pc + 1) ls (.int v :: rest))) : W p l e R s m args below meth c H locs cells slots Q (F0 m (pc) ls (.int i :: .ref (ad 2) :: rest)) := by
  subst hv; exact va_iald hx hb hK hP 2 0 ar_Co_frames rfl hin hdg kk
theorem st_Co_frames (hx : p.tables.exec = Jvm.exec) (hb : c.code = cc) (hK : va_K D clX (tyX cI cL) s) (hP : va_P D clX (wX cI cL ad ma ko sh lo de wa me ru) H) (hD : va_D A (wX cI cL ad ma ko sh lo de wa me ru)) (hS : va_S A H0 H locs) {i : Int32} {x : Int32} (hin : vp_in i 16) (hdg : decode cc pc = .ok (.iastore, 1)) (kk : ∀ (H1 : Heap) (locs1 : List Loc), va_P D clX (wX cI cL ad ma (ko_frames_s ko (upd (ko_frames ko) i.toNatClampNeg x)) sh lo de wa me ru) H1 → va_D A (wX cI cL ad ma (ko_frames_s ko (upd (ko_frames ko) i.toNatClampNeg x)) sh lo de wa me ru) → va_S A H0 H1 locs1 → W p l e R s m args below meth c H1 locs1 cells slots Q (F0 m (pc + 1) ls (rest))) : W p l e R s m args below meth c H locs cells slots Q (F0 m (pc) ls (.int x :: .int i :: .ref (ad 2) :: rest)) :=
  va_iast hx hb hK hP hD hS 2 0 ar_Co_frames rfl hin hdg kk
theorem le_Co_frames (hx : p.tables.exec = Jvm.exec) (hb : c.code = cc) (hK : va_K D clX (tyX cI cL) s) (hP : va_P D clX (wX cI cL ad ma ko sh lo de wa me ru) H) (hdg : decode cc pc = .ok (.arraylength, 1)) (kk : W p l e R s m args below meth c H locs cells slots Q (F0 m (pc + 1) ls (.int 16 :: rest))) : W p l e R s m args below meth c H locs cells slots Q (F0 m (pc) ls (.ref (ad 2) :: rest)) :=
  va_alen hx hb hK hP 2 0 ar_Co_frames rfl rfl hdg kk
theorem ar_Co_places : (wX cI cL ad ma ko sh lo de wa me ru)[3]? = some (ad 3, .inl (cI, 16, .inl (ko_places ko))) := rfl
theorem ld_Co_places (hx : p.tables.exec = Jvm.exec) (hb : c.code = cc) (hK : va_K D clX (tyX cI cL) s) (hP : va_P D clX (wX cI cL ad ma ko sh lo de wa me ru) H) {i : Int32} (hin : vp_in i 16) {v : Int32} (hv : v = ko_places ko i.toNatClampNeg) (hdg : decode cc pc = .ok (.iaload, 1)) (kk : W p l e R s m args below meth c H locs cells slots Q (F0 m (pc + 1) ls (.int v :: rest))) : W p l e R s m args below meth c H locs cells slots Q (F0 m (pc) ls (.int i :: .ref (ad 3) :: rest)) := by
  subst hv; exact va_iald hx hb hK hP 3 0 ar_Co_places rfl hin hdg kk
theorem st_Co_places (hx : p.tables.exec = Jvm.exec) (hb : c.code = cc) (hK : va_K D clX (tyX cI cL) s) (hP : va_P D clX (wX cI cL ad ma ko sh lo de wa me ru) H) (hD : va_D A (wX cI cL ad ma ko sh lo de wa me ru)) (hS : va_S A H0 H locs) {i : Int32} {x : Int32} (hin : vp_in i 16) (hdg : decode cc pc = .ok (.iastore, 1)) (kk : ∀ (H1 : Heap) (locs1 : List Loc), va_P D clX (wX cI cL ad ma (ko_places_s ko (upd (ko_places ko) i.toNatClampNeg x)) sh lo de wa me ru) H1 → va_D A (wX cI cL ad ma (ko_places_s ko (upd (ko_places ko) i.toNatClampNeg x)) sh lo de wa me ru) → va_S A H0 H1 locs1 → W p l e R s m args below meth c H1 locs1 cells slots Q (F0 m (pc + 1) ls (rest))) : W p l e R s m args below meth c H locs cells slots Q (F0 m (pc) ls (.int x :: .int i :: .ref (ad 3) :: rest)) :=
  va_iast hx hb hK hP hD hS 3 0 ar_Co_places rfl hin hdg kk
theorem le_Co_places (hx : p.tables.exec = Jvm.exec) (hb : c.code = cc) (hK : va_K D clX (tyX cI cL) s) (hP : va_P D clX (wX cI cL ad ma ko sh lo de wa me ru) H) (hdg : decode cc pc = .ok (.arraylength, 1)) (kk : W p l e R s m args below meth c H locs cells slots Q (F0 m (pc + 1) ls (.int 16 :: rest))) : W p l e R s m args below meth c H locs cells slots Q (F0 m (pc) ls (.ref (ad 3) :: rest)) :=
  va_alen hx hb hK hP 3 0 ar_Co_places rfl rfl hdg kk
theorem ar_Co_firsts : (wX cI cL ad ma ko sh lo de wa me ru)[4]? = some (ad 4, .inl (cI, 16, .inl (ko_firsts ko))) := rfl
theorem ld_Co_firsts (hx : p.tables.exec = Jvm.exec) (hb : c.code = cc) (hK : va_K D clX (tyX cI cL) s) (hP : va_P D clX (wX cI cL ad ma ko sh lo de wa me ru) H) {i : Int32} (hin : vp_in i 16) {v : Int32} (hv : v = ko_firsts ko i.toNatClampNeg) (hdg : decode cc pc = .ok (.iaload, 1)) (kk : W p l e R s m args below meth c H locs cells slots Q (F0 m (pc + 1) ls (.int v :: rest))) : W p l e R s m args below meth c H locs cells slots Q (F0 m (pc) ls (.int i :: .ref (ad 4) :: rest)) := by
  subst hv; exact va_iald hx hb hK hP 4 0 ar_Co_firsts rfl hin hdg kk
theorem st_Co_firsts (hx : p.tables.exec = Jvm.exec) (hb : c.code = cc) (hK : va_K D clX (tyX cI cL) s) (hP : va_P D clX (wX cI cL ad ma ko sh lo de wa me ru) H) (hD : va_D A (wX cI cL ad ma ko sh lo de wa me ru)) (hS : va_S A H0 H locs) {i : Int32} {x : Int32} (hin : vp_in i 16) (hdg : decode cc pc = .ok (.iastore, 1)) (kk : ∀ (H1 : Heap) (locs1 : List Loc), va_P D clX (wX cI cL ad ma (ko_firsts_s ko (upd (ko_firsts ko) i.toNatClampNeg x)) sh lo de wa me ru) H1 → va_D A (wX cI cL ad ma (ko_firsts_s ko (upd (ko_firsts ko) i.toNatClampNeg x)) sh lo de wa me ru) → va_S A H0 H1 locs1 → W p l e R s m args below meth c H1 locs1 cells slots Q (F0 m (pc + 1) ls (rest))) : W p l e R s m args below meth c H locs cells slots Q (F0 m (pc) ls (.int x :: .int i :: .ref (ad 4) :: rest)) :=
  va_iast hx hb hK hP hD hS 4 0 ar_Co_firsts rfl hin hdg kk
theorem le_Co_firsts (hx : p.tables.exec = Jvm.exec) (hb : c.code = cc) (hK : va_K D clX (tyX cI cL) s) (hP : va_P D clX (wX cI cL ad ma ko sh lo de wa me ru) H) (hdg : decode cc pc = .ok (.arraylength, 1)) (kk : W p l e R s m args below meth c H locs cells slots Q (F0 m (pc + 1) ls (.int 16 :: rest))) : W p l e R s m args below meth c H locs cells slots Q (F0 m (pc) ls (.ref (ad 4) :: rest)) :=
  va_alen hx hb hK hP 4 0 ar_Co_firsts rfl rfl hdg kk
theorem ar_Co_sizes : (wX cI cL ad ma ko sh lo de wa me ru)[5]? = some (ad 5, .inl (cI, 16, .inl (ko_sizes ko))) := rfl
theorem ld_Co_sizes (hx : p.tables.exec = Jvm.exec) (hb : c.code = cc) (hK : va_K D clX (tyX cI cL) s) (hP : va_P D clX (wX cI cL ad ma ko sh lo de wa me ru) H) {i : Int32} (hin : vp_in i 16) {v : Int32} (hv : v = ko_sizes ko i.toNatClampNeg) (hdg : decode cc pc = .ok (.iaload, 1)) (kk : W p l e R s m args below meth c H locs cells slots Q (F0 m (pc + 1) ls (.int v :: rest))) : W p l e R s m args below meth c H locs cells slots Q (F0 m (pc) ls (.int i :: .ref (ad 5) :: rest)) := by
  subst hv; exact va_iald hx hb hK hP 5 0 ar_Co_sizes rfl hin hdg kk
theorem st_Co_sizes (hx : p.tables.exec = Jvm.exec) (hb : c.code = cc) (hK : va_K D clX (tyX cI cL) s) (hP : va_P D clX (wX cI cL ad ma ko sh lo de wa me ru) H) (hD : va_D A (wX cI cL ad ma ko sh lo de wa me ru)) (hS : va_S A H0 H locs) {i : Int32} {x : Int32} (hin : vp_in i 16) (hdg : decode cc pc = .ok (.iastore, 1)) (kk : ∀ (H1 : Heap) (locs1 : List Loc), va_P D clX (wX cI cL ad ma (ko_sizes_s ko (upd (ko_sizes ko) i.toNatClampNeg x)) sh lo de wa me ru) H1 → va_D A (wX cI cL ad ma (ko_sizes_s ko (upd (ko_sizes ko) i.toNatClampNeg x)) sh lo de wa me ru) → va_S A H0 H1 locs1 → W p l e R s m args below meth c H1 locs1 cells slots Q (F0 m (pc + 1) ls (rest))) : W p l e R s m args below meth c H locs cells slots Q (F0 m (pc) ls (.int x :: .int i :: .ref (ad 5) :: rest)) :=
  va_iast hx hb hK hP hD hS 5 0 ar_Co_sizes rfl hin hdg kk
theorem le_Co_sizes (hx : p.tables.exec = Jvm.exec) (hb : c.code = cc) (hK : va_K D clX (tyX cI cL) s) (hP : va_P D clX (wX cI cL ad ma ko sh lo de wa me ru) H) (hdg : decode cc pc = .ok (.arraylength, 1)) (kk : W p l e R s m args below meth c H locs cells slots Q (F0 m (pc + 1) ls (.int 16 :: rest))) : W p l e R s m args below meth c H locs cells slots Q (F0 m (pc) ls (.ref (ad 5) :: rest)) :=
  va_alen hx hb hK hP 5 0 ar_Co_sizes rfl rfl hdg kk
theorem ar_Co_numbers : (wX cI cL ad ma ko sh lo de wa me ru)[6]? = some (ad 6, .inl (cI, 256, .inl (ko_numbers ko))) := rfl
theorem ld_Co_numbers (hx : p.tables.exec = Jvm.exec) (hb : c.code = cc) (hK : va_K D clX (tyX cI cL) s) (hP : va_P D clX (wX cI cL ad ma ko sh lo de wa me ru) H) {i : Int32} (hin : vp_in i 256) {v : Int32} (hv : v = ko_numbers ko i.toNatClampNeg) (hdg : decode cc pc = .ok (.iaload, 1)) (kk : W p l e R s m args below meth c H locs cells slots Q (F0 m (pc + 1) ls (.int v :: rest))) : W p l e R s m args below meth c H locs cells slots Q (F0 m (pc) ls (.int i :: .ref (ad 6) :: rest)) := by
  subst hv; exact va_iald hx hb hK hP 6 0 ar_Co_numbers rfl hin hdg kk
theorem st_Co_numbers (hx : p.tables.exec = Jvm.exec) (hb : c.code = cc) (hK : va_K D clX (tyX cI cL) s) (hP : va_P D clX (wX cI cL ad ma ko sh lo de wa me ru) H) (hD : va_D A (wX cI cL ad ma ko sh lo de wa me ru)) (hS : va_S A H0 H locs) {i : Int32} {x : Int32} (hin : vp_in i 256) (hdg : decode cc pc = .ok (.iastore, 1)) (kk : ∀ (H1 : Heap) (locs1 : List Loc), va_P D clX (wX cI cL ad ma (ko_numbers_s ko (upd (ko_numbers ko) i.toNatClampNeg x)) sh lo de wa me ru) H1 → va_D A (wX cI cL ad ma (ko_numbers_s ko (upd (ko_numbers ko) i.toNatClampNeg x)) sh lo de wa me ru) → va_S A H0 H1 locs1 → W p l e R s m args below meth c H1 locs1 cells slots Q (F0 m (pc + 1) ls (rest))) : W p l e R s m args below meth c H locs cells slots Q (F0 m (pc) ls (.int x :: .int i :: .ref (ad 6) :: rest)) :=
  va_iast hx hb hK hP hD hS 6 0 ar_Co_numbers rfl hin hdg kk
theorem le_Co_numbers (hx : p.tables.exec = Jvm.exec) (hb : c.code = cc) (hK : va_K D clX (tyX cI cL) s) (hP : va_P D clX (wX cI cL ad ma ko sh lo de wa me ru) H) (hdg : decode cc pc = .ok (.arraylength, 1)) (kk : W p l e R s m args below meth c H locs cells slots Q (F0 m (pc + 1) ls (.int 256 :: rest))) : W p l e R s m args below meth c H locs cells slots Q (F0 m (pc) ls (.ref (ad 6) :: rest)) :=
  va_alen hx hb hK hP 6 0 ar_Co_numbers rfl rfl hdg kk
theorem ar_Co_as_ : (wX cI cL ad ma ko sh lo de wa me ru)[7]? = some (ad 7, .inl (cI, 256, .inl (ko_as_ ko))) := rfl
theorem ld_Co_as_ (hx : p.tables.exec = Jvm.exec) (hb : c.code = cc) (hK : va_K D clX (tyX cI cL) s) (hP : va_P D clX (wX cI cL ad ma ko sh lo de wa me ru) H) {i : Int32} (hin : vp_in i 256) {v : Int32} (hv : v = ko_as_ ko i.toNatClampNeg) (hdg : decode cc pc = .ok (.iaload, 1)) (kk : W p l e R s m args below meth c H locs cells slots Q (F0 m (pc + 1) ls (.int v :: rest))) : W p l e R s m args below meth c H locs cells slots Q (F0 m (pc) ls (.int i :: .ref (ad 7) :: rest)) := by
  subst hv; exact va_iald hx hb hK hP 7 0 ar_Co_as_ rfl hin hdg kk
theorem st_Co_as_ (hx : p.tables.exec = Jvm.exec) (hb : c.code = cc) (hK : va_K D clX (tyX cI cL) s) (hP : va_P D clX (wX cI cL ad ma ko sh lo de wa me ru) H) (hD : va_D A (wX cI cL ad ma ko sh lo de wa me ru)) (hS : va_S A H0 H locs) {i : Int32} {x : Int32} (hin : vp_in i 256) (hdg : decode cc pc = .ok (.iastore, 1)) (kk : ∀ (H1 : Heap) (locs1 : List Loc), va_P D clX (wX cI cL ad ma (ko_as__s ko (upd (ko_as_ ko) i.toNatClampNeg x)) sh lo de wa me ru) H1 → va_D A (wX cI cL ad ma (ko_as__s ko (upd (ko_as_ ko) i.toNatClampNeg x)) sh lo de wa me ru) → va_S A H0 H1 locs1 → W p l e R s m args below meth c H1 locs1 cells slots Q (F0 m (pc + 1) ls (rest))) : W p l e R s m args below meth c H locs cells slots Q (F0 m (pc) ls (.int x :: .int i :: .ref (ad 7) :: rest)) :=
  va_iast hx hb hK hP hD hS 7 0 ar_Co_as_ rfl hin hdg kk
theorem le_Co_as_ (hx : p.tables.exec = Jvm.exec) (hb : c.code = cc) (hK : va_K D clX (tyX cI cL) s) (hP : va_P D clX (wX cI cL ad ma ko sh lo de wa me ru) H) (hdg : decode cc pc = .ok (.arraylength, 1)) (kk : W p l e R s m args below meth c H locs cells slots Q (F0 m (pc + 1) ls (.int 256 :: rest))) : W p l e R s m args below meth c H locs cells slots Q (F0 m (pc) ls (.ref (ad 7) :: rest)) :=
  va_alen hx hb hK hP 7 0 ar_Co_as_ rfl rfl hdg kk
theorem ar_Co_bs : (wX cI cL ad ma ko sh lo de wa me ru)[8]? = some (ad 8, .inl (cI, 256, .inl (ko_bs ko))) := rfl
theorem ld_Co_bs (hx : p.tables.exec = Jvm.exec) (hb : c.code = cc) (hK : va_K D clX (tyX cI cL) s) (hP : va_P D clX (wX cI cL ad ma ko sh lo de wa me ru) H) {i : Int32} (hin : vp_in i 256) {v : Int32} (hv : v = ko_bs ko i.toNatClampNeg) (hdg : decode cc pc = .ok (.iaload, 1)) (kk : W p l e R s m args below meth c H locs cells slots Q (F0 m (pc + 1) ls (.int v :: rest))) : W p l e R s m args below meth c H locs cells slots Q (F0 m (pc) ls (.int i :: .ref (ad 8) :: rest)) := by
  subst hv; exact va_iald hx hb hK hP 8 0 ar_Co_bs rfl hin hdg kk
theorem st_Co_bs (hx : p.tables.exec = Jvm.exec) (hb : c.code = cc) (hK : va_K D clX (tyX cI cL) s) (hP : va_P D clX (wX cI cL ad ma ko sh lo de wa me ru) H) (hD : va_D A (wX cI cL ad ma ko sh lo de wa me ru)) (hS : va_S A H0 H locs) {i : Int32} {x : Int32} (hin : vp_in i 256) (hdg : decode cc pc = .ok (.iastore, 1)) (kk : ∀ (H1 : Heap) (locs1 : List Loc), va_P D clX (wX cI cL ad ma (ko_bs_s ko (upd (ko_bs ko) i.toNatClampNeg x)) sh lo de wa me ru) H1 → va_D A (wX cI cL ad ma (ko_bs_s ko (upd (ko_bs ko) i.toNatClampNeg x)) sh lo de wa me ru) → va_S A H0 H1 locs1 → W p l e R s m args below meth c H1 locs1 cells slots Q (F0 m (pc + 1) ls (rest))) : W p l e R s m args below meth c H locs cells slots Q (F0 m (pc) ls (.int x :: .int i :: .ref (ad 8) :: rest)) :=
  va_iast hx hb hK hP hD hS 8 0 ar_Co_bs rfl hin hdg kk
theorem le_Co_bs (hx : p.tables.exec = Jvm.exec) (hb : c.code = cc) (hK : va_K D clX (tyX cI cL) s) (hP : va_P D clX (wX cI cL ad ma ko sh lo de wa me ru) H) (hdg : decode cc pc = .ok (.arraylength, 1)) (kk : W p l e R s m args below meth c H locs cells slots Q (F0 m (pc + 1) ls (.int 256 :: rest))) : W p l e R s m args below meth c H locs cells slots Q (F0 m (pc) ls (.ref (ad 8) :: rest)) :=
  va_alen hx hb hK hP 8 0 ar_Co_bs rfl rfl hdg kk
theorem ar_Co_cs : (wX cI cL ad ma ko sh lo de wa me ru)[9]? = some (ad 9, .inl (cI, 256, .inl (ko_cs ko))) := rfl
theorem ld_Co_cs (hx : p.tables.exec = Jvm.exec) (hb : c.code = cc) (hK : va_K D clX (tyX cI cL) s) (hP : va_P D clX (wX cI cL ad ma ko sh lo de wa me ru) H) {i : Int32} (hin : vp_in i 256) {v : Int32} (hv : v = ko_cs ko i.toNatClampNeg) (hdg : decode cc pc = .ok (.iaload, 1)) (kk : W p l e R s m args below meth c H locs cells slots Q (F0 m (pc + 1) ls (.int v :: rest))) : W p l e R s m args below meth c H locs cells slots Q (F0 m (pc) ls (.int i :: .ref (ad 9) :: rest)) := by
  subst hv; exact va_iald hx hb hK hP 9 0 ar_Co_cs rfl hin hdg kk
theorem st_Co_cs (hx : p.tables.exec = Jvm.exec) (hb : c.code = cc) (hK : va_K D clX (tyX cI cL) s) (hP : va_P D clX (wX cI cL ad ma ko sh lo de wa me ru) H) (hD : va_D A (wX cI cL ad ma ko sh lo de wa me ru)) (hS : va_S A H0 H locs) {i : Int32} {x : Int32} (hin : vp_in i 256) (hdg : decode cc pc = .ok (.iastore, 1)) (kk : ∀ (H1 : Heap) (locs1 : List Loc), va_P D clX (wX cI cL ad ma (ko_cs_s ko (upd (ko_cs ko) i.toNatClampNeg x)) sh lo de wa me ru) H1 → va_D A (wX cI cL ad ma (ko_cs_s ko (upd (ko_cs ko) i.toNatClampNeg x)) sh lo de wa me ru) → va_S A H0 H1 locs1 → W p l e R s m args below meth c H1 locs1 cells slots Q (F0 m (pc + 1) ls (rest))) : W p l e R s m args below meth c H locs cells slots Q (F0 m (pc) ls (.int x :: .int i :: .ref (ad 9) :: rest)) :=
  va_iast hx hb hK hP hD hS 9 0 ar_Co_cs rfl hin hdg kk
theorem le_Co_cs (hx : p.tables.exec = Jvm.exec) (hb : c.code = cc) (hK : va_K D clX (tyX cI cL) s) (hP : va_P D clX (wX cI cL ad ma ko sh lo de wa me ru) H) (hdg : decode cc pc = .ok (.arraylength, 1)) (kk : W p l e R s m args below meth c H locs cells slots Q (F0 m (pc + 1) ls (.int 256 :: rest))) : W p l e R s m args below meth c H locs cells slots Q (F0 m (pc) ls (.ref (ad 9) :: rest)) :=
  va_alen hx hb hK hP 9 0 ar_Co_cs rfl rfl hdg kk
theorem ob_Sh : (wX cI cL ad ma ko sh lo de wa me ru)[10]? = some (ad 10, .inr (2, [.ref (ad 1), .int (sh_unit sh), .int (sh_i sh), .int (sh_number sh), .int (sh_a sh), .int (sh_b sh), .int (sh_c sh)])) := rfl
theorem rd_Sh_code (hx : p.tables.exec = Jvm.exec) (hb : c.code = cc) (hts : ∀ w ∈ TB, w.before args s = true) (hown : s.vm.findClass own = some m.cls) (hK : va_K D clX (tyX cI cL) s) (hP : va_P D clX (wX cI cL ad ma ko sh lo de wa me ru) H) (hlink : Cond.fieldLink own index "ScanMachine$Shape" "code" "LScanMachine$Code;" ∈ TB) (hdg : decode cc pc = .ok (.getfield index, 3)) (kk : W p l e R s m args below meth c H locs cells slots Q (F0 m (pc + 3) ls (.ref (ad 1) :: rest))) : W p l e R s m args below meth c H locs cells slots Q (F0 m (pc) ls (.ref (ad 10) :: rest)) :=
  va_get (D := D) (ci := 2) (v := .ref (ad 1)) (C := "ScanMachine$Shape") (T := T_Sh_) (N := 7) hx hb hts in_Sh hown hK hP 10 ob_Sh rfl 0 (by decide) (hts _ hlink) (fun _ h9 => h9) rfl hdg kk
theorem rd_Sh_unit (hx : p.tables.exec = Jvm.exec) (hb : c.code = cc) (hts : ∀ w ∈ TB, w.before args s = true) (hown : s.vm.findClass own = some m.cls) (hK : va_K D clX (tyX cI cL) s) (hP : va_P D clX (wX cI cL ad ma ko sh lo de wa me ru) H) (hlink : Cond.fieldLink own index "ScanMachine$Shape" "unit" "I" ∈ TB) {v : Int32} (hv : sh_unit sh = v) (hdg : decode cc pc = .ok (.getfield index, 3)) (kk : W p l e R s m args below meth c H locs cells slots Q (F0 m (pc + 3) ls (.int v :: rest))) : W p l e R s m args below meth c H locs cells slots Q (F0 m (pc) ls (.ref (ad 10) :: rest)) := by
  subst hv
  exact va_get (D := D) (ci := 2) (v := .int (sh_unit sh)) (C := "ScanMachine$Shape") (T := T_Sh_) (N := 7) hx hb hts in_Sh hown hK hP 10 ob_Sh rfl 1 (by decide) (hts _ hlink) (fun _ h9 => h9) rfl hdg kk
theorem wr_Sh_unit (hx : p.tables.exec = Jvm.exec) (hb : c.code = cc) (hts : ∀ w ∈ TB, w.before args s = true) (hown : s.vm.findClass own = some m.cls) (hK : va_K D clX (tyX cI cL) s) (hP : va_P D clX (wX cI cL ad ma ko sh lo de wa me ru) H) (hD : va_D A (wX cI cL ad ma ko sh lo de wa me ru)) (hS : va_S A H0 H locs) (hlink : Cond.fieldLink own index "ScanMachine$Shape" "unit" "I" ∈ TB) {v : Int32} (hdg : decode cc pc = .ok (.putfield index, 3)) (kk : ∀ (H1 : Heap) (locs1 : List Loc), va_P D clX (wX cI cL ad ma ko (sh_unit_s sh v) lo de wa me ru) H1 → va_D A (wX cI cL ad ma ko (sh_unit_s sh v) lo de wa me ru) → va_S A H0 H1 locs1 → W p l e R s m args below meth c H1 locs1 cells slots Q (F0 m (pc + 3) ls (rest))) : W p l e R s m args below meth c H locs cells slots Q (F0 m (pc) ls (.int v :: .ref (ad 10) :: rest)) :=
  va_put (D := D) (ci := 2) (v := .int v) (ty := .int) (C := "ScanMachine$Shape") (T := T_Sh_) (N := 7) hx hb hts in_Sh ty_Sh tyok_Sh nm_Sh hown hK hP hD hS 10 ob_Sh rfl 1 (by decide) (hts _ hlink) (fun _ h9 => h9) rfl (by decide +kernel) rfl rfl (Nat.le_of_ble_eq_true rfl) hdg kk
theorem rd_Sh_i (hx : p.tables.exec = Jvm.exec) (hb : c.code = cc) (hts : ∀ w ∈ TB, w.before args s = true) (hown : s.vm.findClass own = some m.cls) (hK : va_K D clX (tyX cI cL) s) (hP : va_P D clX (wX cI cL ad ma ko sh lo de wa me ru) H) (hlink : Cond.fieldLink own index "ScanMachine$Shape" "i" "I" ∈ TB) {v : Int32} (hv : sh_i sh = v) (hdg : decode cc pc = .ok (.getfield index, 3)) (kk : W p l e R s m args below meth c H locs cells slots Q (F0 m (pc + 3) ls (.int v :: rest))) : W p l e R s m args below meth c H locs cells slots Q (F0 m (pc) ls (.ref (ad 10) :: rest)) := by
  subst hv
  exact va_get (D := D) (ci := 2) (v := .int (sh_i sh)) (C := "ScanMachine$Shape") (T := T_Sh_) (N := 7) hx hb hts in_Sh hown hK hP 10 ob_Sh rfl 2 (by decide) (hts _ hlink) (fun _ h9 => h9) rfl hdg kk
theorem wr_Sh_i (hx : p.tables.exec = Jvm.exec) (hb : c.code = cc) (hts : ∀ w ∈ TB, w.before args s = true) (hown : s.vm.findClass own = some m.cls) (hK : va_K D clX (tyX cI cL) s) (hP : va_P D clX (wX cI cL ad ma ko sh lo de wa me ru) H) (hD : va_D A (wX cI cL ad ma ko sh lo de wa me ru)) (hS : va_S A H0 H locs) (hlink : Cond.fieldLink own index "ScanMachine$Shape" "i" "I" ∈ TB) {v : Int32} (hdg : decode cc pc = .ok (.putfield index, 3)) (kk : ∀ (H1 : Heap) (locs1 : List Loc), va_P D clX (wX cI cL ad ma ko (sh_i_s sh v) lo de wa me ru) H1 → va_D A (wX cI cL ad ma ko (sh_i_s sh v) lo de wa me ru) → va_S A H0 H1 locs1 → W p l e R s m args below meth c H1 locs1 cells slots Q (F0 m (pc + 3) ls (rest))) : W p l e R s m args below meth c H locs cells slots Q (F0 m (pc) ls (.int v :: .ref (ad 10) :: rest)) :=
  va_put (D := D) (ci := 2) (v := .int v) (ty := .int) (C := "ScanMachine$Shape") (T := T_Sh_) (N := 7) hx hb hts in_Sh ty_Sh tyok_Sh nm_Sh hown hK hP hD hS 10 ob_Sh rfl 2 (by decide) (hts _ hlink) (fun _ h9 => h9) rfl (by decide +kernel) rfl rfl (Nat.le_of_ble_eq_true rfl) hdg kk
theorem rd_Sh_number (hx : p.tables.exec = Jvm.exec) (hb : c.code = cc) (hts : ∀ w ∈ TB, w.before args s = true) (hown : s.vm.findClass own = some m.cls) (hK : va_K D clX (tyX cI cL) s) (hP : va_P D clX (wX cI cL ad ma ko sh lo de wa me ru) H) (hlink : Cond.fieldLink own index "ScanMachine$Shape" "number" "I" ∈ TB) {v : Int32} (hv : sh_number sh = v) (hdg : decode cc pc = .ok (.getfield index, 3)) (kk : W p l e R s m args below meth c H locs cells slots Q (F0 m (pc + 3) ls (.int v :: rest))) : W p l e R s m args below meth c H locs cells slots Q (F0 m (pc) ls (.ref (ad 10) :: rest)) := by
  subst hv
  exact va_get (D := D) (ci := 2) (v := .int (sh_number sh)) (C := "ScanMachine$Shape") (T := T_Sh_) (N := 7) hx hb hts in_Sh hown hK hP 10 ob_Sh rfl 3 (by decide) (hts _ hlink) (fun _ h9 => h9) rfl hdg kk
theorem wr_Sh_number (hx : p.tables.exec = Jvm.exec) (hb : c.code = cc) (hts : ∀ w ∈ TB, w.before args s = true) (hown : s.vm.findClass own = some m.cls) (hK : va_K D clX (tyX cI cL) s) (hP : va_P D clX (wX cI cL ad ma ko sh lo de wa me ru) H) (hD : va_D A (wX cI cL ad ma ko sh lo de wa me ru)) (hS : va_S A H0 H locs) (hlink : Cond.fieldLink own index "ScanMachine$Shape" "number" "I" ∈ TB) {v : Int32} (hdg : decode cc pc = .ok (.putfield index, 3)) (kk : ∀ (H1 : Heap) (locs1 : List Loc), va_P D clX (wX cI cL ad ma ko (sh_number_s sh v) lo de wa me ru) H1 → va_D A (wX cI cL ad ma ko (sh_number_s sh v) lo de wa me ru) → va_S A H0 H1 locs1 → W p l e R s m args below meth c H1 locs1 cells slots Q (F0 m (pc + 3) ls (rest))) : W p l e R s m args below meth c H locs cells slots Q (F0 m (pc) ls (.int v :: .ref (ad 10) :: rest)) :=
  va_put (D := D) (ci := 2) (v := .int v) (ty := .int) (C := "ScanMachine$Shape") (T := T_Sh_) (N := 7) hx hb hts in_Sh ty_Sh tyok_Sh nm_Sh hown hK hP hD hS 10 ob_Sh rfl 3 (by decide) (hts _ hlink) (fun _ h9 => h9) rfl (by decide +kernel) rfl rfl (Nat.le_of_ble_eq_true rfl) hdg kk
theorem rd_Sh_a (hx : p.tables.exec = Jvm.exec) (hb : c.code = cc) (hts : ∀ w ∈ TB, w.before args s = true) (hown : s.vm.findClass own = some m.cls) (hK : va_K D clX (tyX cI cL) s) (hP : va_P D clX (wX cI cL ad ma ko sh lo de wa me ru) H) (hlink : Cond.fieldLink own index "ScanMachine$Shape" "a" "I" ∈ TB) {v : Int32} (hv : sh_a sh = v) (hdg : decode cc pc = .ok (.getfield index, 3)) (kk : W p l e R s m args below meth c H locs cells slots Q (F0 m (pc + 3) ls (.int v :: rest))) : W p l e R s m args below meth c H locs cells slots Q (F0 m (pc) ls (.ref (ad 10) :: rest)) := by
  subst hv
  exact va_get (D := D) (ci := 2) (v := .int (sh_a sh)) (C := "ScanMachine$Shape") (T := T_Sh_) (N := 7) hx hb hts in_Sh hown hK hP 10 ob_Sh rfl 4 (by decide) (hts _ hlink) (fun _ h9 => h9) rfl hdg kk
theorem wr_Sh_a (hx : p.tables.exec = Jvm.exec) (hb : c.code = cc) (hts : ∀ w ∈ TB, w.before args s = true) (hown : s.vm.findClass own = some m.cls) (hK : va_K D clX (tyX cI cL) s) (hP : va_P D clX (wX cI cL ad ma ko sh lo de wa me ru) H) (hD : va_D A (wX cI cL ad ma ko sh lo de wa me ru)) (hS : va_S A H0 H locs) (hlink : Cond.fieldLink own index "ScanMachine$Shape" "a" "I" ∈ TB) {v : Int32} (hdg : decode cc pc = .ok (.putfield index, 3)) (kk : ∀ (H1 : Heap) (locs1 : List Loc), va_P D clX (wX cI cL ad ma ko (sh_a_s sh v) lo de wa me ru) H1 → va_D A (wX cI cL ad ma ko (sh_a_s sh v) lo de wa me ru) → va_S A H0 H1 locs1 → W p l e R s m args below meth c H1 locs1 cells slots Q (F0 m (pc + 3) ls (rest))) : W p l e R s m args below meth c H locs cells slots Q (F0 m (pc) ls (.int v :: .ref (ad 10) :: rest)) :=
  va_put (D := D) (ci := 2) (v := .int v) (ty := .int) (C := "ScanMachine$Shape") (T := T_Sh_) (N := 7) hx hb hts in_Sh ty_Sh tyok_Sh nm_Sh hown hK hP hD hS 10 ob_Sh rfl 4 (by decide) (hts _ hlink) (fun _ h9 => h9) rfl (by decide +kernel) rfl rfl (Nat.le_of_ble_eq_true rfl) hdg kk
theorem rd_Sh_b (hx : p.tables.exec = Jvm.exec) (hb : c.code = cc) (hts : ∀ w ∈ TB, w.before args s = true) (hown : s.vm.findClass own = some m.cls) (hK : va_K D clX (tyX cI cL) s) (hP : va_P D clX (wX cI cL ad ma ko sh lo de wa me ru) H) (hlink : Cond.fieldLink own index "ScanMachine$Shape" "b" "I" ∈ TB) {v : Int32} (hv : sh_b sh = v) (hdg : decode cc pc = .ok (.getfield index, 3)) (kk : W p l e R s m args below meth c H locs cells slots Q (F0 m (pc + 3) ls (.int v :: rest))) : W p l e R s m args below meth c H locs cells slots Q (F0 m (pc) ls (.ref (ad 10) :: rest)) := by
  subst hv
  exact va_get (D := D) (ci := 2) (v := .int (sh_b sh)) (C := "ScanMachine$Shape") (T := T_Sh_) (N := 7) hx hb hts in_Sh hown hK hP 10 ob_Sh rfl 5 (by decide) (hts _ hlink) (fun _ h9 => h9) rfl hdg kk
theorem wr_Sh_b (hx : p.tables.exec = Jvm.exec) (hb : c.code = cc) (hts : ∀ w ∈ TB, w.before args s = true) (hown : s.vm.findClass own = some m.cls) (hK : va_K D clX (tyX cI cL) s) (hP : va_P D clX (wX cI cL ad ma ko sh lo de wa me ru) H) (hD : va_D A (wX cI cL ad ma ko sh lo de wa me ru)) (hS : va_S A H0 H locs) (hlink : Cond.fieldLink own index "ScanMachine$Shape" "b" "I" ∈ TB) {v : Int32} (hdg : decode cc pc = .ok (.putfield index, 3)) (kk : ∀ (H1 : Heap) (locs1 : List Loc), va_P D clX (wX cI cL ad ma ko (sh_b_s sh v) lo de wa me ru) H1 → va_D A (wX cI cL ad ma ko (sh_b_s sh v) lo de wa me ru) → va_S A H0 H1 locs1 → W p l e R s m args below meth c H1 locs1 cells slots Q (F0 m (pc + 3) ls (rest))) : W p l e R s m args below meth c H locs cells slots Q (F0 m (pc) ls (.int v :: .ref (ad 10) :: rest)) :=
  va_put (D := D) (ci := 2) (v := .int v) (ty := .int) (C := "ScanMachine$Shape") (T := T_Sh_) (N := 7) hx hb hts in_Sh ty_Sh tyok_Sh nm_Sh hown hK hP hD hS 10 ob_Sh rfl 5 (by decide) (hts _ hlink) (fun _ h9 => h9) rfl (by decide +kernel) rfl rfl (Nat.le_of_ble_eq_true rfl) hdg kk
theorem rd_Sh_c (hx : p.tables.exec = Jvm.exec) (hb : c.code = cc) (hts : ∀ w ∈ TB, w.before args s = true) (hown : s.vm.findClass own = some m.cls) (hK : va_K D clX (tyX cI cL) s) (hP : va_P D clX (wX cI cL ad ma ko sh lo de wa me ru) H) (hlink : Cond.fieldLink own index "ScanMachine$Shape" "c" "I" ∈ TB) {v : Int32} (hv : sh_c sh = v) (hdg : decode cc pc = .ok (.getfield index, 3)) (kk : W p l e R s m args below meth c H locs cells slots Q (F0 m (pc + 3) ls (.int v :: rest))) : W p l e R s m args below meth c H locs cells slots Q (F0 m (pc) ls (.ref (ad 10) :: rest)) := by
  subst hv
  exact va_get (D := D) (ci := 2) (v := .int (sh_c sh)) (C := "ScanMachine$Shape") (T := T_Sh_) (N := 7) hx hb hts in_Sh hown hK hP 10 ob_Sh rfl 6 (by decide) (hts _ hlink) (fun _ h9 => h9) rfl hdg kk
theorem wr_Sh_c (hx : p.tables.exec = Jvm.exec) (hb : c.code = cc) (hts : ∀ w ∈ TB, w.before args s = true) (hown : s.vm.findClass own = some m.cls) (hK : va_K D clX (tyX cI cL) s) (hP : va_P D clX (wX cI cL ad ma ko sh lo de wa me ru) H) (hD : va_D A (wX cI cL ad ma ko sh lo de wa me ru)) (hS : va_S A H0 H locs) (hlink : Cond.fieldLink own index "ScanMachine$Shape" "c" "I" ∈ TB) {v : Int32} (hdg : decode cc pc = .ok (.putfield index, 3)) (kk : ∀ (H1 : Heap) (locs1 : List Loc), va_P D clX (wX cI cL ad ma ko (sh_c_s sh v) lo de wa me ru) H1 → va_D A (wX cI cL ad ma ko (sh_c_s sh v) lo de wa me ru) → va_S A H0 H1 locs1 → W p l e R s m args below meth c H1 locs1 cells slots Q (F0 m (pc + 3) ls (rest))) : W p l e R s m args below meth c H locs cells slots Q (F0 m (pc) ls (.int v :: .ref (ad 10) :: rest)) :=
  va_put (D := D) (ci := 2) (v := .int v) (ty := .int) (C := "ScanMachine$Shape") (T := T_Sh_) (N := 7) hx hb hts in_Sh ty_Sh tyok_Sh nm_Sh hown hK hP hD hS 10 ob_Sh rfl 6 (by decide) (hts _ hlink) (fun _ h9 => h9) rfl (by decide +kernel) rfl rfl (Nat.le_of_ble_eq_true rfl) hdg kk
theorem ob_Lo : (wX cI cL ad ma ko sh lo de wa me ru)[11]? = some (ad 11, .inr (3, [.ref (ad 1), .ref (ad 12), .int (lo_loops lo), .int (lo_unit lo)])) := rfl
theorem rd_Lo_code (hx : p.tables.exec = Jvm.exec) (hb : c.code = cc) (hts : ∀ w ∈ TB, w.before args s = true) (hown : s.vm.findClass own = some m.cls) (hK : va_K D clX (tyX cI cL) s) (hP : va_P D clX (wX cI cL ad ma ko sh lo de wa me ru) H) (hlink : Cond.fieldLink own index "ScanMachine$Loops" "code" "LScanMachine$Code;" ∈ TB) (hdg : decode cc pc = .ok (.getfield index, 3)) (kk : W p l e R s m args below meth c H locs cells slots Q (F0 m (pc + 3) ls (.ref (ad 1) :: rest))) : W p l e R s m args below meth c H locs cells slots Q (F0 m (pc) ls (.ref (ad 11) :: rest)) :=
  va_get (D := D) (ci := 3) (v := .ref (ad 1)) (C := "ScanMachine$Loops") (T := T_Lo_) (N := 4) hx hb hts in_Lo hown hK hP 11 ob_Lo rfl 0 (by decide) (hts _ hlink) (fun _ h9 => h9) rfl hdg kk
theorem rd_Lo_nexts (hx : p.tables.exec = Jvm.exec) (hb : c.code = cc) (hts : ∀ w ∈ TB, w.before args s = true) (hown : s.vm.findClass own = some m.cls) (hK : va_K D clX (tyX cI cL) s) (hP : va_P D clX (wX cI cL ad ma ko sh lo de wa me ru) H) (hlink : Cond.fieldLink own index "ScanMachine$Loops" "nexts" "[I" ∈ TB) (hdg : decode cc pc = .ok (.getfield index, 3)) (kk : W p l e R s m args below meth c H locs cells slots Q (F0 m (pc + 3) ls (.ref (ad 12) :: rest))) : W p l e R s m args below meth c H locs cells slots Q (F0 m (pc) ls (.ref (ad 11) :: rest)) :=
  va_get (D := D) (ci := 3) (v := .ref (ad 12)) (C := "ScanMachine$Loops") (T := T_Lo_) (N := 4) hx hb hts in_Lo hown hK hP 11 ob_Lo rfl 1 (by decide) (hts _ hlink) (fun _ h9 => h9) rfl hdg kk
theorem rd_Lo_loops (hx : p.tables.exec = Jvm.exec) (hb : c.code = cc) (hts : ∀ w ∈ TB, w.before args s = true) (hown : s.vm.findClass own = some m.cls) (hK : va_K D clX (tyX cI cL) s) (hP : va_P D clX (wX cI cL ad ma ko sh lo de wa me ru) H) (hlink : Cond.fieldLink own index "ScanMachine$Loops" "loops" "I" ∈ TB) {v : Int32} (hv : lo_loops lo = v) (hdg : decode cc pc = .ok (.getfield index, 3)) (kk : W p l e R s m args below meth c H locs cells slots Q (F0 m (pc + 3) ls (.int v :: rest))) : W p l e R s m args below meth c H locs cells slots Q (F0 m (pc) ls (.ref (ad 11) :: rest)) := by
  subst hv
  exact va_get (D := D) (ci := 3) (v := .int (lo_loops lo)) (C := "ScanMachine$Loops") (T := T_Lo_) (N := 4) hx hb hts in_Lo hown hK hP 11 ob_Lo rfl 2 (by decide) (hts _ hlink) (fun _ h9 => h9) rfl hdg kk
theorem wr_Lo_loops (hx : p.tables.exec = Jvm.exec) (hb : c.code = cc) (hts : ∀ w ∈ TB, w.before args s = true) (hown : s.vm.findClass own = some m.cls) (hK : va_K D clX (tyX cI cL) s) (hP : va_P D clX (wX cI cL ad ma ko sh lo de wa me ru) H) (hD : va_D A (wX cI cL ad ma ko sh lo de wa me ru)) (hS : va_S A H0 H locs) (hlink : Cond.fieldLink own index "ScanMachine$Loops" "loops" "I" ∈ TB) {v : Int32} (hdg : decode cc pc = .ok (.putfield index, 3)) (kk : ∀ (H1 : Heap) (locs1 : List Loc), va_P D clX (wX cI cL ad ma ko sh (lo_loops_s lo v) de wa me ru) H1 → va_D A (wX cI cL ad ma ko sh (lo_loops_s lo v) de wa me ru) → va_S A H0 H1 locs1 → W p l e R s m args below meth c H1 locs1 cells slots Q (F0 m (pc + 3) ls (rest))) : W p l e R s m args below meth c H locs cells slots Q (F0 m (pc) ls (.int v :: .ref (ad 11) :: rest)) :=
  va_put (D := D) (ci := 3) (v := .int v) (ty := .int) (C := "ScanMachine$Loops") (T := T_Lo_) (N := 4) hx hb hts in_Lo ty_Lo tyok_Lo nm_Lo hown hK hP hD hS 11 ob_Lo rfl 2 (by decide) (hts _ hlink) (fun _ h9 => h9) rfl (by decide +kernel) rfl rfl (Nat.le_of_ble_eq_true rfl) hdg kk
theorem rd_Lo_unit (hx : p.tables.exec = Jvm.exec) (hb : c.code = cc) (hts : ∀ w ∈ TB, w.before args s = true) (hown : s.vm.findClass own = some m.cls) (hK : va_K D clX (tyX cI cL) s) (hP : va_P D clX (wX cI cL ad ma ko sh lo de wa me ru) H) (hlink : Cond.fieldLink own index "ScanMachine$Loops" "unit" "I" ∈ TB) {v : Int32} (hv : lo_unit lo = v) (hdg : decode cc pc = .ok (.getfield index, 3)) (kk : W p l e R s m args below meth c H locs cells slots Q (F0 m (pc + 3) ls (.int v :: rest))) : W p l e R s m args below meth c H locs cells slots Q (F0 m (pc) ls (.ref (ad 11) :: rest)) := by
  subst hv
  exact va_get (D := D) (ci := 3) (v := .int (lo_unit lo)) (C := "ScanMachine$Loops") (T := T_Lo_) (N := 4) hx hb hts in_Lo hown hK hP 11 ob_Lo rfl 3 (by decide) (hts _ hlink) (fun _ h9 => h9) rfl hdg kk
theorem wr_Lo_unit (hx : p.tables.exec = Jvm.exec) (hb : c.code = cc) (hts : ∀ w ∈ TB, w.before args s = true) (hown : s.vm.findClass own = some m.cls) (hK : va_K D clX (tyX cI cL) s) (hP : va_P D clX (wX cI cL ad ma ko sh lo de wa me ru) H) (hD : va_D A (wX cI cL ad ma ko sh lo de wa me ru)) (hS : va_S A H0 H locs) (hlink : Cond.fieldLink own index "ScanMachine$Loops" "unit" "I" ∈ TB) {v : Int32} (hdg : decode cc pc = .ok (.putfield index, 3)) (kk : ∀ (H1 : Heap) (locs1 : List Loc), va_P D clX (wX cI cL ad ma ko sh (lo_unit_s lo v) de wa me ru) H1 → va_D A (wX cI cL ad ma ko sh (lo_unit_s lo v) de wa me ru) → va_S A H0 H1 locs1 → W p l e R s m args below meth c H1 locs1 cells slots Q (F0 m (pc + 3) ls (rest))) : W p l e R s m args below meth c H locs cells slots Q (F0 m (pc) ls (.int v :: .ref (ad 11) :: rest)) :=
  va_put (D := D) (ci := 3) (v := .int v) (ty := .int) (C := "ScanMachine$Loops") (T := T_Lo_) (N := 4) hx hb hts in_Lo ty_Lo tyok_Lo nm_Lo hown hK hP hD hS 11 ob_Lo rfl 3 (by decide) (hts _ hlink) (fun _ h9 => h9) rfl (by decide +kernel) rfl rfl (Nat.le_of_ble_eq_true rfl) hdg kk
theorem ar_Lo_nexts : (wX cI cL ad ma ko sh lo de wa me ru)[12]? = some (ad 12, .inl (cI, 256, .inl (lo_nexts lo))) := rfl
theorem ld_Lo_nexts (hx : p.tables.exec = Jvm.exec) (hb : c.code = cc) (hK : va_K D clX (tyX cI cL) s) (hP : va_P D clX (wX cI cL ad ma ko sh lo de wa me ru) H) {i : Int32} (hin : vp_in i 256) {v : Int32} (hv : v = lo_nexts lo i.toNatClampNeg) (hdg : decode cc pc = .ok (.iaload, 1)) (kk : W p l e R s m args below meth c H locs cells slots Q (F0 m (pc + 1) ls (.int v :: rest))) : W p l e R s m args below meth c H locs cells slots Q (F0 m (pc) ls (.int i :: .ref (ad 12) :: rest)) := by
  subst hv; exact va_iald hx hb hK hP 12 0 ar_Lo_nexts rfl hin hdg kk
theorem st_Lo_nexts (hx : p.tables.exec = Jvm.exec) (hb : c.code = cc) (hK : va_K D clX (tyX cI cL) s) (hP : va_P D clX (wX cI cL ad ma ko sh lo de wa me ru) H) (hD : va_D A (wX cI cL ad ma ko sh lo de wa me ru)) (hS : va_S A H0 H locs) {i : Int32} {x : Int32} (hin : vp_in i 256) (hdg : decode cc pc = .ok (.iastore, 1)) (kk : ∀ (H1 : Heap) (locs1 : List Loc), va_P D clX (wX cI cL ad ma ko sh (lo_nexts_s lo (upd (lo_nexts lo) i.toNatClampNeg x)) de wa me ru) H1 → va_D A (wX cI cL ad ma ko sh (lo_nexts_s lo (upd (lo_nexts lo) i.toNatClampNeg x)) de wa me ru) → va_S A H0 H1 locs1 → W p l e R s m args below meth c H1 locs1 cells slots Q (F0 m (pc + 1) ls (rest))) : W p l e R s m args below meth c H locs cells slots Q (F0 m (pc) ls (.int x :: .int i :: .ref (ad 12) :: rest)) :=
  va_iast hx hb hK hP hD hS 12 0 ar_Lo_nexts rfl hin hdg kk
theorem le_Lo_nexts (hx : p.tables.exec = Jvm.exec) (hb : c.code = cc) (hK : va_K D clX (tyX cI cL) s) (hP : va_P D clX (wX cI cL ad ma ko sh lo de wa me ru) H) (hdg : decode cc pc = .ok (.arraylength, 1)) (kk : W p l e R s m args below meth c H locs cells slots Q (F0 m (pc + 1) ls (.int 256 :: rest))) : W p l e R s m args below meth c H locs cells slots Q (F0 m (pc) ls (.ref (ad 12) :: rest)) :=
  va_alen hx hb hK hP 12 0 ar_Lo_nexts rfl rfl hdg kk
theorem ob_De : (wX cI cL ad ma ko sh lo de wa me ru)[13]? = some (ad 13, .inr (4, [.ref (ad 1), .ref (ad 14)])) := rfl
theorem rd_De_code (hx : p.tables.exec = Jvm.exec) (hb : c.code = cc) (hts : ∀ w ∈ TB, w.before args s = true) (hown : s.vm.findClass own = some m.cls) (hK : va_K D clX (tyX cI cL) s) (hP : va_P D clX (wX cI cL ad ma ko sh lo de wa me ru) H) (hlink : Cond.fieldLink own index "ScanMachine$Depths" "code" "LScanMachine$Code;" ∈ TB) (hdg : decode cc pc = .ok (.getfield index, 3)) (kk : W p l e R s m args below meth c H locs cells slots Q (F0 m (pc + 3) ls (.ref (ad 1) :: rest))) : W p l e R s m args below meth c H locs cells slots Q (F0 m (pc) ls (.ref (ad 13) :: rest)) :=
  va_get (D := D) (ci := 4) (v := .ref (ad 1)) (C := "ScanMachine$Depths") (T := T_De_) (N := 2) hx hb hts in_De hown hK hP 13 ob_De rfl 0 (by decide) (hts _ hlink) (fun _ h9 => h9) rfl hdg kk
theorem rd_De_depths (hx : p.tables.exec = Jvm.exec) (hb : c.code = cc) (hts : ∀ w ∈ TB, w.before args s = true) (hown : s.vm.findClass own = some m.cls) (hK : va_K D clX (tyX cI cL) s) (hP : va_P D clX (wX cI cL ad ma ko sh lo de wa me ru) H) (hlink : Cond.fieldLink own index "ScanMachine$Depths" "depths" "[I" ∈ TB) (hdg : decode cc pc = .ok (.getfield index, 3)) (kk : W p l e R s m args below meth c H locs cells slots Q (F0 m (pc + 3) ls (.ref (ad 14) :: rest))) : W p l e R s m args below meth c H locs cells slots Q (F0 m (pc) ls (.ref (ad 13) :: rest)) :=
  va_get (D := D) (ci := 4) (v := .ref (ad 14)) (C := "ScanMachine$Depths") (T := T_De_) (N := 2) hx hb hts in_De hown hK hP 13 ob_De rfl 1 (by decide) (hts _ hlink) (fun _ h9 => h9) rfl hdg kk
theorem ar_De_depths : (wX cI cL ad ma ko sh lo de wa me ru)[14]? = some (ad 14, .inl (cI, 257, .inl (de_depths de))) := rfl
theorem ld_De_depths (hx : p.tables.exec = Jvm.exec) (hb : c.code = cc) (hK : va_K D clX (tyX cI cL) s) (hP : va_P D clX (wX cI cL ad ma ko sh lo de wa me ru) H) {i : Int32} (hin : vp_in i 257) {v : Int32} (hv : v = de_depths de i.toNatClampNeg) (hdg : decode cc pc = .ok (.iaload, 1)) (kk : W p l e R s m args below meth c H locs cells slots Q (F0 m (pc + 1) ls (.int v :: rest))) : W p l e R s m args below meth c H locs cells slots Q (F0 m (pc) ls (.int i :: .ref (ad 14) :: rest)) := by
  subst hv; exact va_iald hx hb hK hP 14 0 ar_De_depths rfl hin hdg kk
theorem st_De_depths (hx : p.tables.exec = Jvm.exec) (hb : c.code = cc) (hK : va_K D clX (tyX cI cL) s) (hP : va_P D clX (wX cI cL ad ma ko sh lo de wa me ru) H) (hD : va_D A (wX cI cL ad ma ko sh lo de wa me ru)) (hS : va_S A H0 H locs) {i : Int32} {x : Int32} (hin : vp_in i 257) (hdg : decode cc pc = .ok (.iastore, 1)) (kk : ∀ (H1 : Heap) (locs1 : List Loc), va_P D clX (wX cI cL ad ma ko sh lo (de_depths_s de (upd (de_depths de) i.toNatClampNeg x)) wa me ru) H1 → va_D A (wX cI cL ad ma ko sh lo (de_depths_s de (upd (de_depths de) i.toNatClampNeg x)) wa me ru) → va_S A H0 H1 locs1 → W p l e R s m args below meth c H1 locs1 cells slots Q (F0 m (pc + 1) ls (rest))) : W p l e R s m args below meth c H locs cells slots Q (F0 m (pc) ls (.int x :: .int i :: .ref (ad 14) :: rest)) :=
  va_iast hx hb hK hP hD hS 14 0 ar_De_depths rfl hin hdg kk
theorem le_De_depths (hx : p.tables.exec = Jvm.exec) (hb : c.code = cc) (hK : va_K D clX (tyX cI cL) s) (hP : va_P D clX (wX cI cL ad ma ko sh lo de wa me ru) H) (hdg : decode cc pc = .ok (.arraylength, 1)) (kk : W p l e R s m args below meth c H locs cells slots Q (F0 m (pc + 1) ls (.int 257 :: rest))) : W p l e R s m args below meth c H locs cells slots Q (F0 m (pc) ls (.ref (ad 14) :: rest)) :=
  va_alen hx hb hK hP 14 0 ar_De_depths rfl rfl hdg kk
theorem ob_Wa : (wX cI cL ad ma ko sh lo de wa me ru)[15]? = some (ad 15, .inr (5, [.ref (ad 1), .ref (ad 16), .ref (ad 17), .ref (ad 18), .int (wa_unit wa), .int (wa_end_ wa)])) := rfl
theorem rd_Wa_code (hx : p.tables.exec = Jvm.exec) (hb : c.code = cc) (hts : ∀ w ∈ TB, w.before args s = true) (hown : s.vm.findClass own = some m.cls) (hK : va_K D clX (tyX cI cL) s) (hP : va_P D clX (wX cI cL ad ma ko sh lo de wa me ru) H) (hlink : Cond.fieldLink own index "ScanMachine$Ways" "code" "LScanMachine$Code;" ∈ TB) (hdg : decode cc pc = .ok (.getfield index, 3)) (kk : W p l e R s m args below meth c H locs cells slots Q (F0 m (pc + 3) ls (.ref (ad 1) :: rest))) : W p l e R s m args below meth c H locs cells slots Q (F0 m (pc) ls (.ref (ad 15) :: rest)) :=
  va_get (D := D) (ci := 5) (v := .ref (ad 1)) (C := "ScanMachine$Ways") (T := T_Wa_) (N := 6) hx hb hts in_Wa hown hK hP 15 ob_Wa rfl 0 (by decide) (hts _ hlink) (fun _ h9 => h9) rfl hdg kk
theorem rd_Wa_reached (hx : p.tables.exec = Jvm.exec) (hb : c.code = cc) (hts : ∀ w ∈ TB, w.before args s = true) (hown : s.vm.findClass own = some m.cls) (hK : va_K D clX (tyX cI cL) s) (hP : va_P D clX (wX cI cL ad ma ko sh lo de wa me ru) H) (hlink : Cond.fieldLink own index "ScanMachine$Ways" "reached" "[J" ∈ TB) (hdg : decode cc pc = .ok (.getfield index, 3)) (kk : W p l e R s m args below meth c H locs cells slots Q (F0 m (pc + 3) ls (.ref (ad 16) :: rest))) : W p l e R s m args below meth c H locs cells slots Q (F0 m (pc) ls (.ref (ad 15) :: rest)) :=
  va_get (D := D) (ci := 5) (v := .ref (ad 16)) (C := "ScanMachine$Ways") (T := T_Wa_) (N := 6) hx hb hts in_Wa hown hK hP 15 ob_Wa rfl 1 (by decide) (hts _ hlink) (fun _ h9 => h9) rfl hdg kk
theorem rd_Wa_rounds (hx : p.tables.exec = Jvm.exec) (hb : c.code = cc) (hts : ∀ w ∈ TB, w.before args s = true) (hown : s.vm.findClass own = some m.cls) (hK : va_K D clX (tyX cI cL) s) (hP : va_P D clX (wX cI cL ad ma ko sh lo de wa me ru) H) (hlink : Cond.fieldLink own index "ScanMachine$Ways" "rounds" "[J" ∈ TB) (hdg : decode cc pc = .ok (.getfield index, 3)) (kk : W p l e R s m args below meth c H locs cells slots Q (F0 m (pc + 3) ls (.ref (ad 17) :: rest))) : W p l e R s m args below meth c H locs cells slots Q (F0 m (pc) ls (.ref (ad 15) :: rest)) :=
  va_get (D := D) (ci := 5) (v := .ref (ad 17)) (C := "ScanMachine$Ways") (T := T_Wa_) (N := 6) hx hb hts in_Wa hown hK hP 15 ob_Wa rfl 2 (by decide) (hts _ hlink) (fun _ h9 => h9) rfl hdg kk
theorem rd_Wa_steps (hx : p.tables.exec = Jvm.exec) (hb : c.code = cc) (hts : ∀ w ∈ TB, w.before args s = true) (hown : s.vm.findClass own = some m.cls) (hK : va_K D clX (tyX cI cL) s) (hP : va_P D clX (wX cI cL ad ma ko sh lo de wa me ru) H) (hlink : Cond.fieldLink own index "ScanMachine$Ways" "steps" "[J" ∈ TB) (hdg : decode cc pc = .ok (.getfield index, 3)) (kk : W p l e R s m args below meth c H locs cells slots Q (F0 m (pc + 3) ls (.ref (ad 18) :: rest))) : W p l e R s m args below meth c H locs cells slots Q (F0 m (pc) ls (.ref (ad 15) :: rest)) :=
  va_get (D := D) (ci := 5) (v := .ref (ad 18)) (C := "ScanMachine$Ways") (T := T_Wa_) (N := 6) hx hb hts in_Wa hown hK hP 15 ob_Wa rfl 3 (by decide) (hts _ hlink) (fun _ h9 => h9) rfl hdg kk
theorem rd_Wa_unit (hx : p.tables.exec = Jvm.exec) (hb : c.code = cc) (hts : ∀ w ∈ TB, w.before args s = true) (hown : s.vm.findClass own = some m.cls) (hK : va_K D clX (tyX cI cL) s) (hP : va_P D clX (wX cI cL ad ma ko sh lo de wa me ru) H) (hlink : Cond.fieldLink own index "ScanMachine$Ways" "unit" "I" ∈ TB) {v : Int32} (hv : wa_unit wa = v) (hdg : decode cc pc = .ok (.getfield index, 3)) (kk : W p l e R s m args below meth c H locs cells slots Q (F0 m (pc + 3) ls (.int v :: rest))) : W p l e R s m args below meth c H locs cells slots Q (F0 m (pc) ls (.ref (ad 15) :: rest)) := by
  subst hv
  exact va_get (D := D) (ci := 5) (v := .int (wa_unit wa)) (C := "ScanMachine$Ways") (T := T_Wa_) (N := 6) hx hb hts in_Wa hown hK hP 15 ob_Wa rfl 4 (by decide) (hts _ hlink) (fun _ h9 => h9) rfl hdg kk
theorem wr_Wa_unit (hx : p.tables.exec = Jvm.exec) (hb : c.code = cc) (hts : ∀ w ∈ TB, w.before args s = true) (hown : s.vm.findClass own = some m.cls) (hK : va_K D clX (tyX cI cL) s) (hP : va_P D clX (wX cI cL ad ma ko sh lo de wa me ru) H) (hD : va_D A (wX cI cL ad ma ko sh lo de wa me ru)) (hS : va_S A H0 H locs) (hlink : Cond.fieldLink own index "ScanMachine$Ways" "unit" "I" ∈ TB) {v : Int32} (hdg : decode cc pc = .ok (.putfield index, 3)) (kk : ∀ (H1 : Heap) (locs1 : List Loc), va_P D clX (wX cI cL ad ma ko sh lo de (wa_unit_s wa v) me ru) H1 → va_D A (wX cI cL ad ma ko sh lo de (wa_unit_s wa v) me ru) → va_S A H0 H1 locs1 → W p l e R s m args below meth c H1 locs1 cells slots Q (F0 m (pc + 3) ls (rest))) : W p l e R s m args below meth c H locs cells slots Q (F0 m (pc) ls (.int v :: .ref (ad 15) :: rest)) :=
  va_put (D := D) (ci := 5) (v := .int v) (ty := .int) (C := "ScanMachine$Ways") (T := T_Wa_) (N := 6) hx hb hts in_Wa ty_Wa tyok_Wa nm_Wa hown hK hP hD hS 15 ob_Wa rfl 4 (by decide) (hts _ hlink) (fun _ h9 => h9) rfl (by decide +kernel) rfl rfl (Nat.le_of_ble_eq_true rfl) hdg kk
theorem rd_Wa_end_ (hx : p.tables.exec = Jvm.exec) (hb : c.code = cc) (hts : ∀ w ∈ TB, w.before args s = true) (hown : s.vm.findClass own = some m.cls) (hK : va_K D clX (tyX cI cL) s) (hP : va_P D clX (wX cI cL ad ma ko sh lo de wa me ru) H) (hlink : Cond.fieldLink own index "ScanMachine$Ways" "end" "I" ∈ TB) {v : Int32} (hv : wa_end_ wa = v) (hdg : decode cc pc = .ok (.getfield index, 3)) (kk : W p l e R s m args below meth c H locs cells slots Q (F0 m (pc + 3) ls (.int v :: rest))) : W p l e R s m args below meth c H locs cells slots Q (F0 m (pc) ls (.ref (ad 15) :: rest)) := by
  subst hv
  exact va_get (D := D) (ci := 5) (v := .int (wa_end_ wa)) (C := "ScanMachine$Ways") (T := T_Wa_) (N := 6) hx hb hts in_Wa hown hK hP 15 ob_Wa rfl 5 (by decide) (hts _ hlink) (fun _ h9 => h9) rfl hdg kk
theorem wr_Wa_end_ (hx : p.tables.exec = Jvm.exec) (hb : c.code = cc) (hts : ∀ w ∈ TB, w.before args s = true) (hown : s.vm.findClass own = some m.cls) (hK : va_K D clX (tyX cI cL) s) (hP : va_P D clX (wX cI cL ad ma ko sh lo de wa me ru) H) (hD : va_D A (wX cI cL ad ma ko sh lo de wa me ru)) (hS : va_S A H0 H locs) (hlink : Cond.fieldLink own index "ScanMachine$Ways" "end" "I" ∈ TB) {v : Int32} (hdg : decode cc pc = .ok (.putfield index, 3)) (kk : ∀ (H1 : Heap) (locs1 : List Loc), va_P D clX (wX cI cL ad ma ko sh lo de (wa_end__s wa v) me ru) H1 → va_D A (wX cI cL ad ma ko sh lo de (wa_end__s wa v) me ru) → va_S A H0 H1 locs1 → W p l e R s m args below meth c H1 locs1 cells slots Q (F0 m (pc + 3) ls (rest))) : W p l e R s m args below meth c H locs cells slots Q (F0 m (pc) ls (.int v :: .ref (ad 15) :: rest)) :=
  va_put (D := D) (ci := 5) (v := .int v) (ty := .int) (C := "ScanMachine$Ways") (T := T_Wa_) (N := 6) hx hb hts in_Wa ty_Wa tyok_Wa nm_Wa hown hK hP hD hS 15 ob_Wa rfl 5 (by decide) (hts _ hlink) (fun _ h9 => h9) rfl (by decide +kernel) rfl rfl (Nat.le_of_ble_eq_true rfl) hdg kk
theorem ar_Wa_reached : (wX cI cL ad ma ko sh lo de wa me ru)[16]? = some (ad 16, .inl (cL, 257, .inr (.inl (wa_reached wa)))) := rfl
theorem ld_Wa_reached (hx : p.tables.exec = Jvm.exec) (hb : c.code = cc) (hK : va_K D clX (tyX cI cL) s) (hP : va_P D clX (wX cI cL ad ma ko sh lo de wa me ru) H) {i : Int32} (hin : vp_in i 257) {v : Int64} (hv : v = wa_reached wa i.toNatClampNeg) (hdg : decode cc pc = .ok (.laload, 1)) (kk : W p l e R s m args below meth c H locs cells slots Q (F0 m (pc + 1) ls (.long v :: rest))) : W p l e R s m args below meth c H locs cells slots Q (F0 m (pc) ls (.int i :: .ref (ad 16) :: rest)) := by
  subst hv; exact va_lald hx hb hK hP 16 1 ar_Wa_reached rfl hin hdg kk
theorem st_Wa_reached (hx : p.tables.exec = Jvm.exec) (hb : c.code = cc) (hK : va_K D clX (tyX cI cL) s) (hP : va_P D clX (wX cI cL ad ma ko sh lo de wa me ru) H) (hD : va_D A (wX cI cL ad ma ko sh lo de wa me ru)) (hS : va_S A H0 H locs) {i : Int32} {x : Int64} (hin : vp_in i 257) (hdg : decode cc pc = .ok (.lastore, 1)) (kk : ∀ (H1 : Heap) (locs1 : List Loc), va_P D clX (wX cI cL ad ma ko sh lo de (wa_reached_s wa (vp_updL (wa_reached wa) i.toNatClampNeg x)) me ru) H1 → va_D A (wX cI cL ad ma ko sh lo de (wa_reached_s wa (vp_updL (wa_reached wa) i.toNatClampNeg x)) me ru) → va_S A H0 H1 locs1 → W p l e R s m args below meth c H1 locs1 cells slots Q (F0 m (pc + 1) ls (rest))) : W p l e R s m args below meth c H locs cells slots Q (F0 m (pc) ls (.long x :: .int i :: .ref (ad 16) :: rest)) :=
  va_last hx hb hK hP hD hS 16 1 ar_Wa_reached rfl hin hdg kk
theorem le_Wa_reached (hx : p.tables.exec = Jvm.exec) (hb : c.code = cc) (hK : va_K D clX (tyX cI cL) s) (hP : va_P D clX (wX cI cL ad ma ko sh lo de wa me ru) H) (hdg : decode cc pc = .ok (.arraylength, 1)) (kk : W p l e R s m args below meth c H locs cells slots Q (F0 m (pc + 1) ls (.int 257 :: rest))) : W p l e R s m args below meth c H locs cells slots Q (F0 m (pc) ls (.ref (ad 16) :: rest)) :=
  va_alen hx hb hK hP 16 1 ar_Wa_reached rfl rfl hdg kk
theorem ar_Wa_rounds : (wX cI cL ad ma ko sh lo de wa me ru)[17]? = some (ad 17, .inl (cL, 256, .inr (.inl (wa_rounds wa)))) := rfl
theorem ld_Wa_rounds (hx : p.tables.exec = Jvm.exec) (hb : c.code = cc) (hK : va_K D clX (tyX cI cL) s) (hP : va_P D clX (wX cI cL ad ma ko sh lo de wa me ru) H) {i : Int32} (hin : vp_in i 256) {v : Int64} (hv : v = wa_rounds wa i.toNatClampNeg) (hdg : decode cc pc = .ok (.laload, 1)) (kk : W p l e R s m args below meth c H locs cells slots Q (F0 m (pc + 1) ls (.long v :: rest))) : W p l e R s m args below meth c H locs cells slots Q (F0 m (pc) ls (.int i :: .ref (ad 17) :: rest)) := by
  subst hv; exact va_lald hx hb hK hP 17 1 ar_Wa_rounds rfl hin hdg kk
theorem st_Wa_rounds (hx : p.tables.exec = Jvm.exec) (hb : c.code = cc) (hK : va_K D clX (tyX cI cL) s) (hP : va_P D clX (wX cI cL ad ma ko sh lo de wa me ru) H) (hD : va_D A (wX cI cL ad ma ko sh lo de wa me ru)) (hS : va_S A H0 H locs) {i : Int32} {x : Int64} (hin : vp_in i 256) (hdg : decode cc pc = .ok (.lastore, 1)) (kk : ∀ (H1 : Heap) (locs1 : List Loc), va_P D clX (wX cI cL ad ma ko sh lo de (wa_rounds_s wa (vp_updL (wa_rounds wa) i.toNatClampNeg x)) me ru) H1 → va_D A (wX cI cL ad ma ko sh lo de (wa_rounds_s wa (vp_updL (wa_rounds wa) i.toNatClampNeg x)) me ru) → va_S A H0 H1 locs1 → W p l e R s m args below meth c H1 locs1 cells slots Q (F0 m (pc + 1) ls (rest))) : W p l e R s m args below meth c H locs cells slots Q (F0 m (pc) ls (.long x :: .int i :: .ref (ad 17) :: rest)) :=
  va_last hx hb hK hP hD hS 17 1 ar_Wa_rounds rfl hin hdg kk
theorem le_Wa_rounds (hx : p.tables.exec = Jvm.exec) (hb : c.code = cc) (hK : va_K D clX (tyX cI cL) s) (hP : va_P D clX (wX cI cL ad ma ko sh lo de wa me ru) H) (hdg : decode cc pc = .ok (.arraylength, 1)) (kk : W p l e R s m args below meth c H locs cells slots Q (F0 m (pc + 1) ls (.int 256 :: rest))) : W p l e R s m args below meth c H locs cells slots Q (F0 m (pc) ls (.ref (ad 17) :: rest)) :=
  va_alen hx hb hK hP 17 1 ar_Wa_rounds rfl rfl hdg kk
theorem ar_Wa_steps : (wX cI cL ad ma ko sh lo de wa me ru)[18]? = some (ad 18, .inl (cL, 16, .inr (.inl (wa_steps wa)))) := rfl
theorem ld_Wa_steps (hx : p.tables.exec = Jvm.exec) (hb : c.code = cc) (hK : va_K D clX (tyX cI cL) s) (hP : va_P D clX (wX cI cL ad ma ko sh lo de wa me ru) H) {i : Int32} (hin : vp_in i 16) {v : Int64} (hv : v = wa_steps wa i.toNatClampNeg) (hdg : decode cc pc = .ok (.laload, 1)) (kk : W p l e R s m args below meth c H locs cells slots Q (F0 m (pc + 1) ls (.long v :: rest))) : W p l e R s m args below meth c H locs cells slots Q (F0 m (pc) ls (.int i :: .ref (ad 18) :: rest)) := by
  subst hv; exact va_lald hx hb hK hP 18 1 ar_Wa_steps rfl hin hdg kk
theorem st_Wa_steps (hx : p.tables.exec = Jvm.exec) (hb : c.code = cc) (hK : va_K D clX (tyX cI cL) s) (hP : va_P D clX (wX cI cL ad ma ko sh lo de wa me ru) H) (hD : va_D A (wX cI cL ad ma ko sh lo de wa me ru)) (hS : va_S A H0 H locs) {i : Int32} {x : Int64} (hin : vp_in i 16) (hdg : decode cc pc = .ok (.lastore, 1)) (kk : ∀ (H1 : Heap) (locs1 : List Loc), va_P D clX (wX cI cL ad ma ko sh lo de (wa_steps_s wa (vp_updL (wa_steps wa) i.toNatClampNeg x)) me ru) H1 → va_D A (wX cI cL ad ma ko sh lo de (wa_steps_s wa (vp_updL (wa_steps wa) i.toNatClampNeg x)) me ru) → va_S A H0 H1 locs1 → W p l e R s m args below meth c H1 locs1 cells slots Q (F0 m (pc + 1) ls (rest))) : W p l e R s m args below meth c H locs cells slots Q (F0 m (pc) ls (.long x :: .int i :: .ref (ad 18) :: rest)) :=
  va_last hx hb hK hP hD hS 18 1 ar_Wa_steps rfl hin hdg kk
theorem le_Wa_steps (hx : p.tables.exec = Jvm.exec) (hb : c.code = cc) (hK : va_K D clX (tyX cI cL) s) (hP : va_P D clX (wX cI cL ad ma ko sh lo de wa me ru) H) (hdg : decode cc pc = .ok (.arraylength, 1)) (kk : W p l e R s m args below meth c H locs cells slots Q (F0 m (pc + 1) ls (.int 16 :: rest))) : W p l e R s m args below meth c H locs cells slots Q (F0 m (pc) ls (.ref (ad 18) :: rest)) :=
  va_alen hx hb hK hP 18 1 ar_Wa_steps rfl rfl hdg kk
theorem ob_Me : (wX cI cL ad ma ko sh lo de wa me ru)[19]? = some (ad 19, .inr (6, [.ref (ad 20), .ref (ad 21), .int (me_depth me), .int (me_deepest me)])) := rfl
theorem rd_Me_cells (hx : p.tables.exec = Jvm.exec) (hb : c.code = cc) (hts : ∀ w ∈ TB, w.before args s = true) (hown : s.vm.findClass own = some m.cls) (hK : va_K D clX (tyX cI cL) s) (hP : va_P D clX (wX cI cL ad ma ko sh lo de wa me ru) H) (hlink : Cond.fieldLink own index "ScanMachine$Memory" "cells" "[I" ∈ TB) (hdg : decode cc pc = .ok (.getfield index, 3)) (kk : W p l e R s m args below meth c H locs cells slots Q (F0 m (pc + 3) ls (.ref (ad 20) :: rest))) : W p l e R s m args below meth c H locs cells slots Q (F0 m (pc) ls (.ref (ad 19) :: rest)) :=
  va_get (D := D) (ci := 6) (v := .ref (ad 20)) (C := "ScanMachine$Memory") (T := T_Me_) (N := 4) hx hb hts in_Me hown hK hP 19 ob_Me rfl 0 (by decide) (hts _ hlink) (fun _ h9 => h9) rfl hdg kk
theorem rd_Me_stack (hx : p.tables.exec = Jvm.exec) (hb : c.code = cc) (hts : ∀ w ∈ TB, w.before args s = true) (hown : s.vm.findClass own = some m.cls) (hK : va_K D clX (tyX cI cL) s) (hP : va_P D clX (wX cI cL ad ma ko sh lo de wa me ru) H) (hlink : Cond.fieldLink own index "ScanMachine$Memory" "stack" "[I" ∈ TB) (hdg : decode cc pc = .ok (.getfield index, 3)) (kk : W p l e R s m args below meth c H locs cells slots Q (F0 m (pc + 3) ls (.ref (ad 21) :: rest))) : W p l e R s m args below meth c H locs cells slots Q (F0 m (pc) ls (.ref (ad 19) :: rest)) :=
  va_get (D := D) (ci := 6) (v := .ref (ad 21)) (C := "ScanMachine$Memory") (T := T_Me_) (N := 4) hx hb hts in_Me hown hK hP 19 ob_Me rfl 1 (by decide) (hts _ hlink) (fun _ h9 => h9) rfl hdg kk
theorem rd_Me_depth (hx : p.tables.exec = Jvm.exec) (hb : c.code = cc) (hts : ∀ w ∈ TB, w.before args s = true) (hown : s.vm.findClass own = some m.cls) (hK : va_K D clX (tyX cI cL) s) (hP : va_P D clX (wX cI cL ad ma ko sh lo de wa me ru) H) (hlink : Cond.fieldLink own index "ScanMachine$Memory" "depth" "I" ∈ TB) {v : Int32} (hv : me_depth me = v) (hdg : decode cc pc = .ok (.getfield index, 3)) (kk : W p l e R s m args below meth c H locs cells slots Q (F0 m (pc + 3) ls (.int v :: rest))) : W p l e R s m args below meth c H locs cells slots Q (F0 m (pc) ls (.ref (ad 19) :: rest)) := by
  subst hv
  exact va_get (D := D) (ci := 6) (v := .int (me_depth me)) (C := "ScanMachine$Memory") (T := T_Me_) (N := 4) hx hb hts in_Me hown hK hP 19 ob_Me rfl 2 (by decide) (hts _ hlink) (fun _ h9 => h9) rfl hdg kk
theorem wr_Me_depth (hx : p.tables.exec = Jvm.exec) (hb : c.code = cc) (hts : ∀ w ∈ TB, w.before args s = true) (hown : s.vm.findClass own = some m.cls) (hK : va_K D clX (tyX cI cL) s) (hP : va_P D clX (wX cI cL ad ma ko sh lo de wa me ru) H) (hD : va_D A (wX cI cL ad ma ko sh lo de wa me ru)) (hS : va_S A H0 H locs) (hlink : Cond.fieldLink own index "ScanMachine$Memory" "depth" "I" ∈ TB) {v : Int32} (hdg : decode cc pc = .ok (.putfield index, 3)) (kk : ∀ (H1 : Heap) (locs1 : List Loc), va_P D clX (wX cI cL ad ma ko sh lo de wa (me_depth_s me v) ru) H1 → va_D A (wX cI cL ad ma ko sh lo de wa (me_depth_s me v) ru) → va_S A H0 H1 locs1 → W p l e R s m args below meth c H1 locs1 cells slots Q (F0 m (pc + 3) ls (rest))) : W p l e R s m args below meth c H locs cells slots Q (F0 m (pc) ls (.int v :: .ref (ad 19) :: rest)) :=
  va_put (D := D) (ci := 6) (v := .int v) (ty := .int) (C := "ScanMachine$Memory") (T := T_Me_) (N := 4) hx hb hts in_Me ty_Me tyok_Me nm_Me hown hK hP hD hS 19 ob_Me rfl 2 (by decide) (hts _ hlink) (fun _ h9 => h9) rfl (by decide +kernel) rfl rfl (Nat.le_of_ble_eq_true rfl) hdg kk
theorem rd_Me_deepest (hx : p.tables.exec = Jvm.exec) (hb : c.code = cc) (hts : ∀ w ∈ TB, w.before args s = true) (hown : s.vm.findClass own = some m.cls) (hK : va_K D clX (tyX cI cL) s) (hP : va_P D clX (wX cI cL ad ma ko sh lo de wa me ru) H) (hlink : Cond.fieldLink own index "ScanMachine$Memory" "deepest" "I" ∈ TB) {v : Int32} (hv : me_deepest me = v) (hdg : decode cc pc = .ok (.getfield index, 3)) (kk : W p l e R s m args below meth c H locs cells slots Q (F0 m (pc + 3) ls (.int v :: rest))) : W p l e R s m args below meth c H locs cells slots Q (F0 m (pc) ls (.ref (ad 19) :: rest)) := by
  subst hv
  exact va_get (D := D) (ci := 6) (v := .int (me_deepest me)) (C := "ScanMachine$Memory") (T := T_Me_) (N := 4) hx hb hts in_Me hown hK hP 19 ob_Me rfl 3 (by decide) (hts _ hlink) (fun _ h9 => h9) rfl hdg kk
theorem wr_Me_deepest (hx : p.tables.exec = Jvm.exec) (hb : c.code = cc) (hts : ∀ w ∈ TB, w.before args s = true) (hown : s.vm.findClass own = some m.cls) (hK : va_K D clX (tyX cI cL) s) (hP : va_P D clX (wX cI cL ad ma ko sh lo de wa me ru) H) (hD : va_D A (wX cI cL ad ma ko sh lo de wa me ru)) (hS : va_S A H0 H locs) (hlink : Cond.fieldLink own index "ScanMachine$Memory" "deepest" "I" ∈ TB) {v : Int32} (hdg : decode cc pc = .ok (.putfield index, 3)) (kk : ∀ (H1 : Heap) (locs1 : List Loc), va_P D clX (wX cI cL ad ma ko sh lo de wa (me_deepest_s me v) ru) H1 → va_D A (wX cI cL ad ma ko sh lo de wa (me_deepest_s me v) ru) → va_S A H0 H1 locs1 → W p l e R s m args below meth c H1 locs1 cells slots Q (F0 m (pc + 3) ls (rest))) : W p l e R s m args below meth c H locs cells slots Q (F0 m (pc) ls (.int v :: .ref (ad 19) :: rest)) :=
  va_put (D := D) (ci := 6) (v := .int v) (ty := .int) (C := "ScanMachine$Memory") (T := T_Me_) (N := 4) hx hb hts in_Me ty_Me tyok_Me nm_Me hown hK hP hD hS 19 ob_Me rfl 3 (by decide) (hts _ hlink) (fun _ h9 => h9) rfl (by decide +kernel) rfl rfl (Nat.le_of_ble_eq_true rfl) hdg kk
theorem rdN_Me_deepest (hx : p.tables.exec = Jvm.exec) (hb : c.code = cc) (hts : ∀ w ∈ TB, w.before args s = true) (hown : s.vm.findClass own = some m.cls) (hK : va_K D clX (tyX cI cL) s) (hP : va_P D clX (wX cI cL ad ma ko sh lo de wa me ru) H) (hnw : nw s) (hlink : Cond.fieldLinkNest own index "ScanMachine$Memory" "deepest" "I" host ∈ NWL) {v : Int32} (hv : me_deepest me = v) (hdg : decode cc pc = .ok (.getfield index, 3)) (kk : W p l e R s m args below meth c H locs cells slots Q (F0 m (pc + 3) ls (.int v :: rest))) : W p l e R s m args below meth c H locs cells slots Q (F0 m (pc) ls (.ref (ad 19) :: rest)) := by
  subst hv
  exact va_getN (D := D) (ci := 6) (v := .int (me_deepest me)) (C := "ScanMachine$Memory") (T := T_Me_) (N := 4) hx hb hts in_Me hown hK hP 19 ob_Me rfl 3 (by decide) (va_Nw.use rfl (hnw _ hlink)) (fun _ h9 => h9) rfl hdg kk
theorem wrN_Me_deepest (hx : p.tables.exec = Jvm.exec) (hb : c.code = cc) (hts : ∀ w ∈ TB, w.before args s = true) (hown : s.vm.findClass own = some m.cls) (hK : va_K D clX (tyX cI cL) s) (hP : va_P D clX (wX cI cL ad ma ko sh lo de wa me ru) H) (hD : va_D A (wX cI cL ad ma ko sh lo de wa me ru)) (hS : va_S A H0 H locs) (hnw : nw s) (hlink : Cond.fieldLinkNest own index "ScanMachine$Memory" "deepest" "I" host ∈ NWL) {v : Int32} (hdg : decode cc pc = .ok (.putfield index, 3)) (kk : ∀ (H1 : Heap) (locs1 : List Loc), va_P D clX (wX cI cL ad ma ko sh lo de wa (me_deepest_s me v) ru) H1 → va_D A (wX cI cL ad ma ko sh lo de wa (me_deepest_s me v) ru) → va_S A H0 H1 locs1 → W p l e R s m args below meth c H1 locs1 cells slots Q (F0 m (pc + 3) ls (rest))) : W p l e R s m args below meth c H locs cells slots Q (F0 m (pc) ls (.int v :: .ref (ad 19) :: rest)) :=
  va_putN (D := D) (ci := 6) (v := .int v) (ty := .int) (C := "ScanMachine$Memory") (T := T_Me_) (N := 4) hx hb hts in_Me ty_Me tyok_Me nm_Me hown hK hP hD hS 19 ob_Me rfl 3 (by decide) (va_Nw.use rfl (hnw _ hlink)) (fun _ h9 => h9) rfl (by decide +kernel) rfl rfl (Nat.le_of_ble_eq_true rfl) hdg kk
theorem ar_Me_cells : (wX cI cL ad ma ko sh lo de wa me ru)[20]? = some (ad 20, .inl (cI, 4096, .inl (me_cells me))) := rfl
theorem ld_Me_cells (hx : p.tables.exec = Jvm.exec) (hb : c.code = cc) (hK : va_K D clX (tyX cI cL) s) (hP : va_P D clX (wX cI cL ad ma ko sh lo de wa me ru) H) {i : Int32} (hin : vp_in i 4096) {v : Int32} (hv : v = me_cells me i.toNatClampNeg) (hdg : decode cc pc = .ok (.iaload, 1)) (kk : W p l e R s m args below meth c H locs cells slots Q (F0 m (pc + 1) ls (.int v :: rest))) : W p l e R s m args below meth c H locs cells slots Q (F0 m (pc) ls (.int i :: .ref (ad 20) :: rest)) := by
  subst hv; exact va_iald hx hb hK hP 20 0 ar_Me_cells rfl hin hdg kk
theorem st_Me_cells (hx : p.tables.exec = Jvm.exec) (hb : c.code = cc) (hK : va_K D clX (tyX cI cL) s) (hP : va_P D clX (wX cI cL ad ma ko sh lo de wa me ru) H) (hD : va_D A (wX cI cL ad ma ko sh lo de wa me ru)) (hS : va_S A H0 H locs) {i : Int32} {x : Int32} (hin : vp_in i 4096) (hdg : decode cc pc = .ok (.iastore, 1)) (kk : ∀ (H1 : Heap) (locs1 : List Loc), va_P D clX (wX cI cL ad ma ko sh lo de wa (me_cells_s me (upd (me_cells me) i.toNatClampNeg x)) ru) H1 → va_D A (wX cI cL ad ma ko sh lo de wa (me_cells_s me (upd (me_cells me) i.toNatClampNeg x)) ru) → va_S A H0 H1 locs1 → W p l e R s m args below meth c H1 locs1 cells slots Q (F0 m (pc + 1) ls (rest))) : W p l e R s m args below meth c H locs cells slots Q (F0 m (pc) ls (.int x :: .int i :: .ref (ad 20) :: rest)) :=
  va_iast hx hb hK hP hD hS 20 0 ar_Me_cells rfl hin hdg kk
theorem le_Me_cells (hx : p.tables.exec = Jvm.exec) (hb : c.code = cc) (hK : va_K D clX (tyX cI cL) s) (hP : va_P D clX (wX cI cL ad ma ko sh lo de wa me ru) H) (hdg : decode cc pc = .ok (.arraylength, 1)) (kk : W p l e R s m args below meth c H locs cells slots Q (F0 m (pc + 1) ls (.int 4096 :: rest))) : W p l e R s m args below meth c H locs cells slots Q (F0 m (pc) ls (.ref (ad 20) :: rest)) :=
  va_alen hx hb hK hP 20 0 ar_Me_cells rfl rfl hdg kk
theorem ar_Me_stack : (wX cI cL ad ma ko sh lo de wa me ru)[21]? = some (ad 21, .inl (cI, 1024, .inl (me_stack me))) := rfl
theorem ld_Me_stack (hx : p.tables.exec = Jvm.exec) (hb : c.code = cc) (hK : va_K D clX (tyX cI cL) s) (hP : va_P D clX (wX cI cL ad ma ko sh lo de wa me ru) H) {i : Int32} (hin : vp_in i 1024) {v : Int32} (hv : v = me_stack me i.toNatClampNeg) (hdg : decode cc pc = .ok (.iaload, 1)) (kk : W p l e R s m args below meth c H locs cells slots Q (F0 m (pc + 1) ls (.int v :: rest))) : W p l e R s m args below meth c H locs cells slots Q (F0 m (pc) ls (.int i :: .ref (ad 21) :: rest)) := by
  subst hv; exact va_iald hx hb hK hP 21 0 ar_Me_stack rfl hin hdg kk
theorem st_Me_stack (hx : p.tables.exec = Jvm.exec) (hb : c.code = cc) (hK : va_K D clX (tyX cI cL) s) (hP : va_P D clX (wX cI cL ad ma ko sh lo de wa me ru) H) (hD : va_D A (wX cI cL ad ma ko sh lo de wa me ru)) (hS : va_S A H0 H locs) {i : Int32} {x : Int32} (hin : vp_in i 1024) (hdg : decode cc pc = .ok (.iastore, 1)) (kk : ∀ (H1 : Heap) (locs1 : List Loc), va_P D clX (wX cI cL ad ma ko sh lo de wa (me_stack_s me (upd (me_stack me) i.toNatClampNeg x)) ru) H1 → va_D A (wX cI cL ad ma ko sh lo de wa (me_stack_s me (upd (me_stack me) i.toNatClampNeg x)) ru) → va_S A H0 H1 locs1 → W p l e R s m args below meth c H1 locs1 cells slots Q (F0 m (pc + 1) ls (rest))) : W p l e R s m args below meth c H locs cells slots Q (F0 m (pc) ls (.int x :: .int i :: .ref (ad 21) :: rest)) :=
  va_iast hx hb hK hP hD hS 21 0 ar_Me_stack rfl hin hdg kk
theorem le_Me_stack (hx : p.tables.exec = Jvm.exec) (hb : c.code = cc) (hK : va_K D clX (tyX cI cL) s) (hP : va_P D clX (wX cI cL ad ma ko sh lo de wa me ru) H) (hdg : decode cc pc = .ok (.arraylength, 1)) (kk : W p l e R s m args below meth c H locs cells slots Q (F0 m (pc + 1) ls (.int 1024 :: rest))) : W p l e R s m args below meth c H locs cells slots Q (F0 m (pc) ls (.ref (ad 21) :: rest)) :=
  va_alen hx hb hK hP 21 0 ar_Me_stack rfl rfl hdg kk
theorem ob_Ru : (wX cI cL ad ma ko sh lo de wa me ru)[22]? = some (ad 22, .inr (7, [.ref (ad 1), .ref (ad 19), .ref (ad 26), .ref (ad 23), .ref (ad 24), .ref (ad 25), .int (ru_waiting ru), .int (ru_unit ru), .int (ru_next ru), .int (ru_base ru), .int (ru_steps ru), .int (ru_fault ru), .int (ru_now ru)])) := rfl
theorem rd_Ru_code (hx : p.tables.exec = Jvm.exec) (hb : c.code = cc) (hts : ∀ w ∈ TB, w.before args s = true) (hown : s.vm.findClass own = some m.cls) (hK : va_K D clX (tyX cI cL) s) (hP : va_P D clX (wX cI cL ad ma ko sh lo de wa me ru) H) (hlink : Cond.fieldLink own index "ScanMachine$Runner" "code" "LScanMachine$Code;" ∈ TB) (hdg : decode cc pc = .ok (.getfield index, 3)) (kk : W p l e R s m args below meth c H locs cells slots Q (F0 m (pc + 3) ls (.ref (ad 1) :: rest))) : W p l e R s m args below meth c H locs cells slots Q (F0 m (pc) ls (.ref (ad 22) :: rest)) :=
  va_get (D := D) (ci := 7) (v := .ref (ad 1)) (C := "ScanMachine$Runner") (T := T_Ru_) (N := 13) hx hb hts in_Ru hown hK hP 22 ob_Ru rfl 0 (by decide) (hts _ hlink) (fun _ h9 => h9) rfl hdg kk
theorem rd_Ru_memory (hx : p.tables.exec = Jvm.exec) (hb : c.code = cc) (hts : ∀ w ∈ TB, w.before args s = true) (hown : s.vm.findClass own = some m.cls) (hK : va_K D clX (tyX cI cL) s) (hP : va_P D clX (wX cI cL ad ma ko sh lo de wa me ru) H) (hlink : Cond.fieldLink own index "ScanMachine$Runner" "memory" "LScanMachine$Memory;" ∈ TB) (hdg : decode cc pc = .ok (.getfield index, 3)) (kk : W p l e R s m args below meth c H locs cells slots Q (F0 m (pc + 3) ls (.ref (ad 19) :: rest))) : W p l e R s m args below meth c H locs cells slots Q (F0 m (pc) ls (.ref (ad 22) :: rest)) :=
  va_get (D := D) (ci := 7) (v := .ref (ad 19)) (C := "ScanMachine$Runner") (T := T_Ru_) (N := 13) hx hb hts in_Ru hown hK hP 22 ob_Ru rfl 1 (by decide) (hts _ hlink) (fun _ h9 => h9) rfl hdg kk
theorem rd_Ru_blocks (hx : p.tables.exec = Jvm.exec) (hb : c.code = cc) (hts : ∀ w ∈ TB, w.before args s = true) (hown : s.vm.findClass own = some m.cls) (hK : va_K D clX (tyX cI cL) s) (hP : va_P D clX (wX cI cL ad ma ko sh lo de wa me ru) H) (hlink : Cond.fieldLink own index "ScanMachine$Runner" "blocks" "LScanMachine$Blocks;" ∈ TB) (hdg : decode cc pc = .ok (.getfield index, 3)) (kk : W p l e R s m args below meth c H locs cells slots Q (F0 m (pc + 3) ls (.ref (ad 26) :: rest))) : W p l e R s m args below meth c H locs cells slots Q (F0 m (pc) ls (.ref (ad 22) :: rest)) :=
  va_get (D := D) (ci := 7) (v := .ref (ad 26)) (C := "ScanMachine$Runner") (T := T_Ru_) (N := 13) hx hb hts in_Ru hown hK hP 22 ob_Ru rfl 2 (by decide) (hts _ hlink) (fun _ h9 => h9) rfl hdg kk
theorem rd_Ru_waitingUnits (hx : p.tables.exec = Jvm.exec) (hb : c.code = cc) (hts : ∀ w ∈ TB, w.before args s = true) (hown : s.vm.findClass own = some m.cls) (hK : va_K D clX (tyX cI cL) s) (hP : va_P D clX (wX cI cL ad ma ko sh lo de wa me ru) H) (hlink : Cond.fieldLink own index "ScanMachine$Runner" "waitingUnits" "[I" ∈ TB) (hdg : decode cc pc = .ok (.getfield index, 3)) (kk : W p l e R s m args below meth c H locs cells slots Q (F0 m (pc + 3) ls (.ref (ad 23) :: rest))) : W p l e R s m args below meth c H locs cells slots Q (F0 m (pc) ls (.ref (ad 22) :: rest)) :=
  va_get (D := D) (ci := 7) (v := .ref (ad 23)) (C := "ScanMachine$Runner") (T := T_Ru_) (N := 13) hx hb hts in_Ru hown hK hP 22 ob_Ru rfl 3 (by decide) (hts _ hlink) (fun _ h9 => h9) rfl hdg kk
theorem rd_Ru_waitingNexts (hx : p.tables.exec = Jvm.exec) (hb : c.code = cc) (hts : ∀ w ∈ TB, w.before args s = true) (hown : s.vm.findClass own = some m.cls) (hK : va_K D clX (tyX cI cL) s) (hP : va_P D clX (wX cI cL ad ma ko sh lo de wa me ru) H) (hlink : Cond.fieldLink own index "ScanMachine$Runner" "waitingNexts" "[I" ∈ TB) (hdg : decode cc pc = .ok (.getfield index, 3)) (kk : W p l e R s m args below meth c H locs cells slots Q (F0 m (pc + 3) ls (.ref (ad 24) :: rest))) : W p l e R s m args below meth c H locs cells slots Q (F0 m (pc) ls (.ref (ad 22) :: rest)) :=
  va_get (D := D) (ci := 7) (v := .ref (ad 24)) (C := "ScanMachine$Runner") (T := T_Ru_) (N := 13) hx hb hts in_Ru hown hK hP 22 ob_Ru rfl 4 (by decide) (hts _ hlink) (fun _ h9 => h9) rfl hdg kk
theorem rd_Ru_waitingBases (hx : p.tables.exec = Jvm.exec) (hb : c.code = cc) (hts : ∀ w ∈ TB, w.before args s = true) (hown : s.vm.findClass own = some m.cls) (hK : va_K D clX (tyX cI cL) s) (hP : va_P D clX (wX cI cL ad ma ko sh lo de wa me ru) H) (hlink : Cond.fieldLink own index "ScanMachine$Runner" "waitingBases" "[I" ∈ TB) (hdg : decode cc pc = .ok (.getfield index, 3)) (kk : W p l e R s m args below meth c H locs cells slots Q (F0 m (pc + 3) ls (.ref (ad 25) :: rest))) : W p l e R s m args below meth c H locs cells slots Q (F0 m (pc) ls (.ref (ad 22) :: rest)) :=
  va_get (D := D) (ci := 7) (v := .ref (ad 25)) (C := "ScanMachine$Runner") (T := T_Ru_) (N := 13) hx hb hts in_Ru hown hK hP 22 ob_Ru rfl 5 (by decide) (hts _ hlink) (fun _ h9 => h9) rfl hdg kk
theorem rd_Ru_waiting (hx : p.tables.exec = Jvm.exec) (hb : c.code = cc) (hts : ∀ w ∈ TB, w.before args s = true) (hown : s.vm.findClass own = some m.cls) (hK : va_K D clX (tyX cI cL) s) (hP : va_P D clX (wX cI cL ad ma ko sh lo de wa me ru) H) (hlink : Cond.fieldLink own index "ScanMachine$Runner" "waiting" "I" ∈ TB) {v : Int32} (hv : ru_waiting ru = v) (hdg : decode cc pc = .ok (.getfield index, 3)) (kk : W p l e R s m args below meth c H locs cells slots Q (F0 m (pc + 3) ls (.int v :: rest))) : W p l e R s m args below meth c H locs cells slots Q (F0 m (pc) ls (.ref (ad 22) :: rest)) := by
  subst hv
  exact va_get (D := D) (ci := 7) (v := .int (ru_waiting ru)) (C := "ScanMachine$Runner") (T := T_Ru_) (N := 13) hx hb hts in_Ru hown hK hP 22 ob_Ru rfl 6 (by decide) (hts _ hlink) (fun _ h9 => h9) rfl hdg kk
theorem wr_Ru_waiting (hx : p.tables.exec = Jvm.exec) (hb : c.code = cc) (hts : ∀ w ∈ TB, w.before args s = true) (hown : s.vm.findClass own = some m.cls) (hK : va_K D clX (tyX cI cL) s) (hP : va_P D clX (wX cI cL ad ma ko sh lo de wa me ru) H) (hD : va_D A (wX cI cL ad ma ko sh lo de wa me ru)) (hS : va_S A H0 H locs) (hlink : Cond.fieldLink own index "ScanMachine$Runner" "waiting" "I" ∈ TB) {v : Int32} (hdg : decode cc pc = .ok (.putfield index, 3)) (kk : ∀ (H1 : Heap) (locs1 : List Loc), va_P D clX (wX cI cL ad ma ko sh lo de wa me (ru_waiting_s ru v)) H1 → va_D A (wX cI cL ad ma ko sh lo de wa me (ru_waiting_s ru v)) → va_S A H0 H1 locs1 → W p l e R s m args below meth c H1 locs1 cells slots Q (F0 m (pc + 3) ls (rest))) : W p l e R s m args below meth c H locs cells slots Q (F0 m (pc) ls (.int v :: .ref (ad 22) :: rest)) :=
  va_put (D := D) (ci := 7) (v := .int v) (ty := .int) (C := "ScanMachine$Runner") (T := T_Ru_) (N := 13) hx hb hts in_Ru ty_Ru tyok_Ru nm_Ru hown hK hP hD hS 22 ob_Ru rfl 6 (by decide) (hts _ hlink) (fun _ h9 => h9) rfl (by decide +kernel) rfl rfl (Nat.le_of_ble_eq_true rfl) hdg kk
theorem rd_Ru_unit (hx : p.tables.exec = Jvm.exec) (hb : c.code = cc) (hts : ∀ w ∈ TB, w.before args s = true) (hown : s.vm.findClass own = some m.cls) (hK : va_K D clX (tyX cI cL) s) (hP : va_P D clX (wX cI cL ad ma ko sh lo de wa me ru) H) (hlink : Cond.fieldLink own index "ScanMachine$Runner" "unit" "I" ∈ TB) {v : Int32} (hv : ru_unit ru = v) (hdg : decode cc pc = .ok (.getfield index, 3)) (kk : W p l e R s m args below meth c H locs cells slots Q (F0 m (pc + 3) ls (.int v :: rest))) : W p l e R s m args below meth c H locs cells slots Q (F0 m (pc) ls (.ref (ad 22) :: rest)) := by
  subst hv
  exact va_get (D := D) (ci := 7) (v := .int (ru_unit ru)) (C := "ScanMachine$Runner") (T := T_Ru_) (N := 13) hx hb hts in_Ru hown hK hP 22 ob_Ru rfl 7 (by decide) (hts _ hlink) (fun _ h9 => h9) rfl hdg kk
theorem wr_Ru_unit (hx : p.tables.exec = Jvm.exec) (hb : c.code = cc) (hts : ∀ w ∈ TB, w.before args s = true) (hown : s.vm.findClass own = some m.cls) (hK : va_K D clX (tyX cI cL) s) (hP : va_P D clX (wX cI cL ad ma ko sh lo de wa me ru) H) (hD : va_D A (wX cI cL ad ma ko sh lo de wa me ru)) (hS : va_S A H0 H locs) (hlink : Cond.fieldLink own index "ScanMachine$Runner" "unit" "I" ∈ TB) {v : Int32} (hdg : decode cc pc = .ok (.putfield index, 3)) (kk : ∀ (H1 : Heap) (locs1 : List Loc), va_P D clX (wX cI cL ad ma ko sh lo de wa me (ru_unit_s ru v)) H1 → va_D A (wX cI cL ad ma ko sh lo de wa me (ru_unit_s ru v)) → va_S A H0 H1 locs1 → W p l e R s m args below meth c H1 locs1 cells slots Q (F0 m (pc + 3) ls (rest))) : W p l e R s m args below meth c H locs cells slots Q (F0 m (pc) ls (.int v :: .ref (ad 22) :: rest)) :=
  va_put (D := D) (ci := 7) (v := .int v) (ty := .int) (C := "ScanMachine$Runner") (T := T_Ru_) (N := 13) hx hb hts in_Ru ty_Ru tyok_Ru nm_Ru hown hK hP hD hS 22 ob_Ru rfl 7 (by decide) (hts _ hlink) (fun _ h9 => h9) rfl (by decide +kernel) rfl rfl (Nat.le_of_ble_eq_true rfl) hdg kk
theorem rd_Ru_next (hx : p.tables.exec = Jvm.exec) (hb : c.code = cc) (hts : ∀ w ∈ TB, w.before args s = true) (hown : s.vm.findClass own = some m.cls) (hK : va_K D clX (tyX cI cL) s) (hP : va_P D clX (wX cI cL ad ma ko sh lo de wa me ru) H) (hlink : Cond.fieldLink own index "ScanMachine$Runner" "next" "I" ∈ TB) {v : Int32} (hv : ru_next ru = v) (hdg : decode cc pc = .ok (.getfield index, 3)) (kk : W p l e R s m args below meth c H locs cells slots Q (F0 m (pc + 3) ls (.int v :: rest))) : W p l e R s m args below meth c H locs cells slots Q (F0 m (pc) ls (.ref (ad 22) :: rest)) := by
  subst hv
  exact va_get (D := D) (ci := 7) (v := .int (ru_next ru)) (C := "ScanMachine$Runner") (T := T_Ru_) (N := 13) hx hb hts in_Ru hown hK hP 22 ob_Ru rfl 8 (by decide) (hts _ hlink) (fun _ h9 => h9) rfl hdg kk
theorem wr_Ru_next (hx : p.tables.exec = Jvm.exec) (hb : c.code = cc) (hts : ∀ w ∈ TB, w.before args s = true) (hown : s.vm.findClass own = some m.cls) (hK : va_K D clX (tyX cI cL) s) (hP : va_P D clX (wX cI cL ad ma ko sh lo de wa me ru) H) (hD : va_D A (wX cI cL ad ma ko sh lo de wa me ru)) (hS : va_S A H0 H locs) (hlink : Cond.fieldLink own index "ScanMachine$Runner" "next" "I" ∈ TB) {v : Int32} (hdg : decode cc pc = .ok (.putfield index, 3)) (kk : ∀ (H1 : Heap) (locs1 : List Loc), va_P D clX (wX cI cL ad ma ko sh lo de wa me (ru_next_s ru v)) H1 → va_D A (wX cI cL ad ma ko sh lo de wa me (ru_next_s ru v)) → va_S A H0 H1 locs1 → W p l e R s m args below meth c H1 locs1 cells slots Q (F0 m (pc + 3) ls (rest))) : W p l e R s m args below meth c H locs cells slots Q (F0 m (pc) ls (.int v :: .ref (ad 22) :: rest)) :=
  va_put (D := D) (ci := 7) (v := .int v) (ty := .int) (C := "ScanMachine$Runner") (T := T_Ru_) (N := 13) hx hb hts in_Ru ty_Ru tyok_Ru nm_Ru hown hK hP hD hS 22 ob_Ru rfl 8 (by decide) (hts _ hlink) (fun _ h9 => h9) rfl (by decide +kernel) rfl rfl (Nat.le_of_ble_eq_true rfl) hdg kk
theorem rd_Ru_base (hx : p.tables.exec = Jvm.exec) (hb : c.code = cc) (hts : ∀ w ∈ TB, w.before args s = true) (hown : s.vm.findClass own = some m.cls) (hK : va_K D clX (tyX cI cL) s) (hP : va_P D clX (wX cI cL ad ma ko sh lo de wa me ru) H) (hlink : Cond.fieldLink own index "ScanMachine$Runner" "base" "I" ∈ TB) {v : Int32} (hv : ru_base ru = v) (hdg : decode cc pc = .ok (.getfield index, 3)) (kk : W p l e R s m args below meth c H locs cells slots Q (F0 m (pc + 3) ls (.int v :: rest))) : W p l e R s m args below meth c H locs cells slots Q (F0 m (pc) ls (.ref (ad 22) :: rest)) := by
  subst hv
  exact va_get (D := D) (ci := 7) (v := .int (ru_base ru)) (C := "ScanMachine$Runner") (T := T_Ru_) (N := 13) hx hb hts in_Ru hown hK hP 22 ob_Ru rfl 9 (by decide) (hts _ hlink) (fun _ h9 => h9) rfl hdg kk
theorem wr_Ru_base (hx : p.tables.exec = Jvm.exec) (hb : c.code = cc) (hts : ∀ w ∈ TB, w.before args s = true) (hown : s.vm.findClass own = some m.cls) (hK : va_K D clX (tyX cI cL) s) (hP : va_P D clX (wX cI cL ad ma ko sh lo de wa me ru) H) (hD : va_D A (wX cI cL ad ma ko sh lo de wa me ru)) (hS : va_S A H0 H locs) (hlink : Cond.fieldLink own index "ScanMachine$Runner" "base" "I" ∈ TB) {v : Int32} (hdg : decode cc pc = .ok (.putfield index, 3)) (kk : ∀ (H1 : Heap) (locs1 : List Loc), va_P D clX (wX cI cL ad ma ko sh lo de wa me (ru_base_s ru v)) H1 → va_D A (wX cI cL ad ma ko sh lo de wa me (ru_base_s ru v)) → va_S A H0 H1 locs1 → W p l e R s m args below meth c H1 locs1 cells slots Q (F0 m (pc + 3) ls (rest))) : W p l e R s m args below meth c H locs cells slots Q (F0 m (pc) ls (.int v :: .ref (ad 22) :: rest)) :=
  va_put (D := D) (ci := 7) (v := .int v) (ty := .int) (C := "ScanMachine$Runner") (T := T_Ru_) (N := 13) hx hb hts in_Ru ty_Ru tyok_Ru nm_Ru hown hK hP hD hS 22 ob_Ru rfl 9 (by decide) (hts _ hlink) (fun _ h9 => h9) rfl (by decide +kernel) rfl rfl (Nat.le_of_ble_eq_true rfl) hdg kk
theorem rd_Ru_steps (hx : p.tables.exec = Jvm.exec) (hb : c.code = cc) (hts : ∀ w ∈ TB, w.before args s = true) (hown : s.vm.findClass own = some m.cls) (hK : va_K D clX (tyX cI cL) s) (hP : va_P D clX (wX cI cL ad ma ko sh lo de wa me ru) H) (hlink : Cond.fieldLink own index "ScanMachine$Runner" "steps" "I" ∈ TB) {v : Int32} (hv : ru_steps ru = v) (hdg : decode cc pc = .ok (.getfield index, 3)) (kk : W p l e R s m args below meth c H locs cells slots Q (F0 m (pc + 3) ls (.int v :: rest))) : W p l e R s m args below meth c H locs cells slots Q (F0 m (pc) ls (.ref (ad 22) :: rest)) := by
  subst hv
  exact va_get (D := D) (ci := 7) (v := .int (ru_steps ru)) (C := "ScanMachine$Runner") (T := T_Ru_) (N := 13) hx hb hts in_Ru hown hK hP 22 ob_Ru rfl 10 (by decide) (hts _ hlink) (fun _ h9 => h9) rfl hdg kk
theorem wr_Ru_steps (hx : p.tables.exec = Jvm.exec) (hb : c.code = cc) (hts : ∀ w ∈ TB, w.before args s = true) (hown : s.vm.findClass own = some m.cls) (hK : va_K D clX (tyX cI cL) s) (hP : va_P D clX (wX cI cL ad ma ko sh lo de wa me ru) H) (hD : va_D A (wX cI cL ad ma ko sh lo de wa me ru)) (hS : va_S A H0 H locs) (hlink : Cond.fieldLink own index "ScanMachine$Runner" "steps" "I" ∈ TB) {v : Int32} (hdg : decode cc pc = .ok (.putfield index, 3)) (kk : ∀ (H1 : Heap) (locs1 : List Loc), va_P D clX (wX cI cL ad ma ko sh lo de wa me (ru_steps_s ru v)) H1 → va_D A (wX cI cL ad ma ko sh lo de wa me (ru_steps_s ru v)) → va_S A H0 H1 locs1 → W p l e R s m args below meth c H1 locs1 cells slots Q (F0 m (pc + 3) ls (rest))) : W p l e R s m args below meth c H locs cells slots Q (F0 m (pc) ls (.int v :: .ref (ad 22) :: rest)) :=
  va_put (D := D) (ci := 7) (v := .int v) (ty := .int) (C := "ScanMachine$Runner") (T := T_Ru_) (N := 13) hx hb hts in_Ru ty_Ru tyok_Ru nm_Ru hown hK hP hD hS 22 ob_Ru rfl 10 (by decide) (hts _ hlink) (fun _ h9 => h9) rfl (by decide +kernel) rfl rfl (Nat.le_of_ble_eq_true rfl) hdg kk
theorem rdN_Ru_steps (hx : p.tables.exec = Jvm.exec) (hb : c.code = cc) (hts : ∀ w ∈ TB, w.before args s = true) (hown : s.vm.findClass own = some m.cls) (hK : va_K D clX (tyX cI cL) s) (hP : va_P D clX (wX cI cL ad ma ko sh lo de wa me ru) H) (hnw : nw s) (hlink : Cond.fieldLinkNest own index "ScanMachine$Runner" "steps" "I" host ∈ NWL) {v : Int32} (hv : ru_steps ru = v) (hdg : decode cc pc = .ok (.getfield index, 3)) (kk : W p l e R s m args below meth c H locs cells slots Q (F0 m (pc + 3) ls (.int v :: rest))) : W p l e R s m args below meth c H locs cells slots Q (F0 m (pc) ls (.ref (ad 22) :: rest)) := by
  subst hv
  exact va_getN (D := D) (ci := 7) (v := .int (ru_steps ru)) (C := "ScanMachine$Runner") (T := T_Ru_) (N := 13) hx hb hts in_Ru hown hK hP 22 ob_Ru rfl 10 (by decide) (va_Nw.use rfl (hnw _ hlink)) (fun _ h9 => h9) rfl hdg kk
theorem wrN_Ru_steps (hx : p.tables.exec = Jvm.exec) (hb : c.code = cc) (hts : ∀ w ∈ TB, w.before args s = true) (hown : s.vm.findClass own = some m.cls) (hK : va_K D clX (tyX cI cL) s) (hP : va_P D clX (wX cI cL ad ma ko sh lo de wa me ru) H) (hD : va_D A (wX cI cL ad ma ko sh lo de wa me ru)) (hS : va_S A H0 H locs) (hnw : nw s) (hlink : Cond.fieldLinkNest own index "ScanMachine$Runner" "steps" "I" host ∈ NWL) {v : Int32} (hdg : decode cc pc = .ok (.putfield index, 3)) (kk : ∀ (H1 : Heap) (locs1 : List Loc), va_P D clX (wX cI cL ad ma ko sh lo de wa me (ru_steps_s ru v)) H1 → va_D A (wX cI cL ad ma ko sh lo de wa me (ru_steps_s ru v)) → va_S A H0 H1 locs1 → W p l e R s m args below meth c H1 locs1 cells slots Q (F0 m (pc + 3) ls (rest))) : W p l e R s m args below meth c H locs cells slots Q (F0 m (pc) ls (.int v :: .ref (ad 22) :: rest)) :=
  va_putN (D := D) (ci := 7) (v := .int v) (ty := .int) (C := "ScanMachine$Runner") (T := T_Ru_) (N := 13) hx hb hts in_Ru ty_Ru tyok_Ru nm_Ru hown hK hP hD hS 22 ob_Ru rfl 10 (by decide) (va_Nw.use rfl (hnw _ hlink)) (fun _ h9 => h9) rfl (by decide +kernel) rfl rfl (Nat.le_of_ble_eq_true rfl) hdg kk
theorem rd_Ru_fault (hx : p.tables.exec = Jvm.exec) (hb : c.code = cc) (hts : ∀ w ∈ TB, w.before args s = true) (hown : s.vm.findClass own = some m.cls) (hK : va_K D clX (tyX cI cL) s) (hP : va_P D clX (wX cI cL ad ma ko sh lo de wa me ru) H) (hlink : Cond.fieldLink own index "ScanMachine$Runner" "fault" "I" ∈ TB) {v : Int32} (hv : ru_fault ru = v) (hdg : decode cc pc = .ok (.getfield index, 3)) (kk : W p l e R s m args below meth c H locs cells slots Q (F0 m (pc + 3) ls (.int v :: rest))) : W p l e R s m args below meth c H locs cells slots Q (F0 m (pc) ls (.ref (ad 22) :: rest)) := by
  subst hv
  exact va_get (D := D) (ci := 7) (v := .int (ru_fault ru)) (C := "ScanMachine$Runner") (T := T_Ru_) (N := 13) hx hb hts in_Ru hown hK hP 22 ob_Ru rfl 11 (by decide) (hts _ hlink) (fun _ h9 => h9) rfl hdg kk
theorem wr_Ru_fault (hx : p.tables.exec = Jvm.exec) (hb : c.code = cc) (hts : ∀ w ∈ TB, w.before args s = true) (hown : s.vm.findClass own = some m.cls) (hK : va_K D clX (tyX cI cL) s) (hP : va_P D clX (wX cI cL ad ma ko sh lo de wa me ru) H) (hD : va_D A (wX cI cL ad ma ko sh lo de wa me ru)) (hS : va_S A H0 H locs) (hlink : Cond.fieldLink own index "ScanMachine$Runner" "fault" "I" ∈ TB) {v : Int32} (hdg : decode cc pc = .ok (.putfield index, 3)) (kk : ∀ (H1 : Heap) (locs1 : List Loc), va_P D clX (wX cI cL ad ma ko sh lo de wa me (ru_fault_s ru v)) H1 → va_D A (wX cI cL ad ma ko sh lo de wa me (ru_fault_s ru v)) → va_S A H0 H1 locs1 → W p l e R s m args below meth c H1 locs1 cells slots Q (F0 m (pc + 3) ls (rest))) : W p l e R s m args below meth c H locs cells slots Q (F0 m (pc) ls (.int v :: .ref (ad 22) :: rest)) :=
  va_put (D := D) (ci := 7) (v := .int v) (ty := .int) (C := "ScanMachine$Runner") (T := T_Ru_) (N := 13) hx hb hts in_Ru ty_Ru tyok_Ru nm_Ru hown hK hP hD hS 22 ob_Ru rfl 11 (by decide) (hts _ hlink) (fun _ h9 => h9) rfl (by decide +kernel) rfl rfl (Nat.le_of_ble_eq_true rfl) hdg kk
theorem rd_Ru_now (hx : p.tables.exec = Jvm.exec) (hb : c.code = cc) (hts : ∀ w ∈ TB, w.before args s = true) (hown : s.vm.findClass own = some m.cls) (hK : va_K D clX (tyX cI cL) s) (hP : va_P D clX (wX cI cL ad ma ko sh lo de wa me ru) H) (hlink : Cond.fieldLink own index "ScanMachine$Runner" "now" "I" ∈ TB) {v : Int32} (hv : ru_now ru = v) (hdg : decode cc pc = .ok (.getfield index, 3)) (kk : W p l e R s m args below meth c H locs cells slots Q (F0 m (pc + 3) ls (.int v :: rest))) : W p l e R s m args below meth c H locs cells slots Q (F0 m (pc) ls (.ref (ad 22) :: rest)) := by
  subst hv
  exact va_get (D := D) (ci := 7) (v := .int (ru_now ru)) (C := "ScanMachine$Runner") (T := T_Ru_) (N := 13) hx hb hts in_Ru hown hK hP 22 ob_Ru rfl 12 (by decide) (hts _ hlink) (fun _ h9 => h9) rfl hdg kk
theorem wr_Ru_now (hx : p.tables.exec = Jvm.exec) (hb : c.code = cc) (hts : ∀ w ∈ TB, w.before args s = true) (hown : s.vm.findClass own = some m.cls) (hK : va_K D clX (tyX cI cL) s) (hP : va_P D clX (wX cI cL ad ma ko sh lo de wa me ru) H) (hD : va_D A (wX cI cL ad ma ko sh lo de wa me ru)) (hS : va_S A H0 H locs) (hlink : Cond.fieldLink own index "ScanMachine$Runner" "now" "I" ∈ TB) {v : Int32} (hdg : decode cc pc = .ok (.putfield index, 3)) (kk : ∀ (H1 : Heap) (locs1 : List Loc), va_P D clX (wX cI cL ad ma ko sh lo de wa me (ru_now_s ru v)) H1 → va_D A (wX cI cL ad ma ko sh lo de wa me (ru_now_s ru v)) → va_S A H0 H1 locs1 → W p l e R s m args below meth c H1 locs1 cells slots Q (F0 m (pc + 3) ls (rest))) : W p l e R s m args below meth c H locs cells slots Q (F0 m (pc) ls (.int v :: .ref (ad 22) :: rest)) :=
  va_put (D := D) (ci := 7) (v := .int v) (ty := .int) (C := "ScanMachine$Runner") (T := T_Ru_) (N := 13) hx hb hts in_Ru ty_Ru tyok_Ru nm_Ru hown hK hP hD hS 22 ob_Ru rfl 12 (by decide) (hts _ hlink) (fun _ h9 => h9) rfl (by decide +kernel) rfl rfl (Nat.le_of_ble_eq_true rfl) hdg kk
theorem ar_Ru_waitingUnits : (wX cI cL ad ma ko sh lo de wa me ru)[23]? = some (ad 23, .inl (cI, 16, .inl (ru_waitingUnits ru))) := rfl
theorem ld_Ru_waitingUnits (hx : p.tables.exec = Jvm.exec) (hb : c.code = cc) (hK : va_K D clX (tyX cI cL) s) (hP : va_P D clX (wX cI cL ad ma ko sh lo de wa me ru) H) {i : Int32} (hin : vp_in i 16) {v : Int32} (hv : v = ru_waitingUnits ru i.toNatClampNeg) (hdg : decode cc pc = .ok (.iaload, 1)) (kk : W p l e R s m args below meth c H locs cells slots Q (F0 m (pc + 1) ls (.int v :: rest))) : W p l e R s m args below meth c H locs cells slots Q (F0 m (pc) ls (.int i :: .ref (ad 23) :: rest)) := by
  subst hv; exact va_iald hx hb hK hP 23 0 ar_Ru_waitingUnits rfl hin hdg kk
theorem st_Ru_waitingUnits (hx : p.tables.exec = Jvm.exec) (hb : c.code = cc) (hK : va_K D clX (tyX cI cL) s) (hP : va_P D clX (wX cI cL ad ma ko sh lo de wa me ru) H) (hD : va_D A (wX cI cL ad ma ko sh lo de wa me ru)) (hS : va_S A H0 H locs) {i : Int32} {x : Int32} (hin : vp_in i 16) (hdg : decode cc pc = .ok (.iastore, 1)) (kk : ∀ (H1 : Heap) (locs1 : List Loc), va_P D clX (wX cI cL ad ma ko sh lo de wa me (ru_waitingUnits_s ru (upd (ru_waitingUnits ru) i.toNatClampNeg x))) H1 → va_D A (wX cI cL ad ma ko sh lo de wa me (ru_waitingUnits_s ru (upd (ru_waitingUnits ru) i.toNatClampNeg x))) → va_S A H0 H1 locs1 → W p l e R s m args below meth c H1 locs1 cells slots Q (F0 m (pc + 1) ls (rest))) : W p l e R s m args below meth c H locs cells slots Q (F0 m (pc) ls (.int x :: .int i :: .ref (ad 23) :: rest)) :=
  va_iast hx hb hK hP hD hS 23 0 ar_Ru_waitingUnits rfl hin hdg kk
theorem le_Ru_waitingUnits (hx : p.tables.exec = Jvm.exec) (hb : c.code = cc) (hK : va_K D clX (tyX cI cL) s) (hP : va_P D clX (wX cI cL ad ma ko sh lo de wa me ru) H) (hdg : decode cc pc = .ok (.arraylength, 1)) (kk : W p l e R s m args below meth c H locs cells slots Q (F0 m (pc + 1) ls (.int 16 :: rest))) : W p l e R s m args below meth c H locs cells slots Q (F0 m (pc) ls (.ref (ad 23) :: rest)) :=
  va_alen hx hb hK hP 23 0 ar_Ru_waitingUnits rfl rfl hdg kk
theorem ar_Ru_waitingNexts : (wX cI cL ad ma ko sh lo de wa me ru)[24]? = some (ad 24, .inl (cI, 16, .inl (ru_waitingNexts ru))) := rfl
theorem ld_Ru_waitingNexts (hx : p.tables.exec = Jvm.exec) (hb : c.code = cc) (hK : va_K D clX (tyX cI cL) s) (hP : va_P D clX (wX cI cL ad ma ko sh lo de wa me ru) H) {i : Int32} (hin : vp_in i 16) {v : Int32} (hv : v = ru_waitingNexts ru i.toNatClampNeg) (hdg : decode cc pc = .ok (.iaload, 1)) (kk : W p l e R s m args below meth c H locs cells slots Q (F0 m (pc + 1) ls (.int v :: rest))) : W p l e R s m args below meth c H locs cells slots Q (F0 m (pc) ls (.int i :: .ref (ad 24) :: rest)) := by
  subst hv; exact va_iald hx hb hK hP 24 0 ar_Ru_waitingNexts rfl hin hdg kk
theorem st_Ru_waitingNexts (hx : p.tables.exec = Jvm.exec) (hb : c.code = cc) (hK : va_K D clX (tyX cI cL) s) (hP : va_P D clX (wX cI cL ad ma ko sh lo de wa me ru) H) (hD : va_D A (wX cI cL ad ma ko sh lo de wa me ru)) (hS : va_S A H0 H locs) {i : Int32} {x : Int32} (hin : vp_in i 16) (hdg : decode cc pc = .ok (.iastore, 1)) (kk : ∀ (H1 : Heap) (locs1 : List Loc), va_P D clX (wX cI cL ad ma ko sh lo de wa me (ru_waitingNexts_s ru (upd (ru_waitingNexts ru) i.toNatClampNeg x))) H1 → va_D A (wX cI cL ad ma ko sh lo de wa me (ru_waitingNexts_s ru (upd (ru_waitingNexts ru) i.toNatClampNeg x))) → va_S A H0 H1 locs1 → W p l e R s m args below meth c H1 locs1 cells slots Q (F0 m (pc + 1) ls (rest))) : W p l e R s m args below meth c H locs cells slots Q (F0 m (pc) ls (.int x :: .int i :: .ref (ad 24) :: rest)) :=
  va_iast hx hb hK hP hD hS 24 0 ar_Ru_waitingNexts rfl hin hdg kk
theorem le_Ru_waitingNexts (hx : p.tables.exec = Jvm.exec) (hb : c.code = cc) (hK : va_K D clX (tyX cI cL) s) (hP : va_P D clX (wX cI cL ad ma ko sh lo de wa me ru) H) (hdg : decode cc pc = .ok (.arraylength, 1)) (kk : W p l e R s m args below meth c H locs cells slots Q (F0 m (pc + 1) ls (.int 16 :: rest))) : W p l e R s m args below meth c H locs cells slots Q (F0 m (pc) ls (.ref (ad 24) :: rest)) :=
  va_alen hx hb hK hP 24 0 ar_Ru_waitingNexts rfl rfl hdg kk
theorem ar_Ru_waitingBases : (wX cI cL ad ma ko sh lo de wa me ru)[25]? = some (ad 25, .inl (cI, 16, .inl (ru_waitingBases ru))) := rfl
theorem ld_Ru_waitingBases (hx : p.tables.exec = Jvm.exec) (hb : c.code = cc) (hK : va_K D clX (tyX cI cL) s) (hP : va_P D clX (wX cI cL ad ma ko sh lo de wa me ru) H) {i : Int32} (hin : vp_in i 16) {v : Int32} (hv : v = ru_waitingBases ru i.toNatClampNeg) (hdg : decode cc pc = .ok (.iaload, 1)) (kk : W p l e R s m args below meth c H locs cells slots Q (F0 m (pc + 1) ls (.int v :: rest))) : W p l e R s m args below meth c H locs cells slots Q (F0 m (pc) ls (.int i :: .ref (ad 25) :: rest)) := by
  subst hv; exact va_iald hx hb hK hP 25 0 ar_Ru_waitingBases rfl hin hdg kk
theorem st_Ru_waitingBases (hx : p.tables.exec = Jvm.exec) (hb : c.code = cc) (hK : va_K D clX (tyX cI cL) s) (hP : va_P D clX (wX cI cL ad ma ko sh lo de wa me ru) H) (hD : va_D A (wX cI cL ad ma ko sh lo de wa me ru)) (hS : va_S A H0 H locs) {i : Int32} {x : Int32} (hin : vp_in i 16) (hdg : decode cc pc = .ok (.iastore, 1)) (kk : ∀ (H1 : Heap) (locs1 : List Loc), va_P D clX (wX cI cL ad ma ko sh lo de wa me (ru_waitingBases_s ru (upd (ru_waitingBases ru) i.toNatClampNeg x))) H1 → va_D A (wX cI cL ad ma ko sh lo de wa me (ru_waitingBases_s ru (upd (ru_waitingBases ru) i.toNatClampNeg x))) → va_S A H0 H1 locs1 → W p l e R s m args below meth c H1 locs1 cells slots Q (F0 m (pc + 1) ls (rest))) : W p l e R s m args below meth c H locs cells slots Q (F0 m (pc) ls (.int x :: .int i :: .ref (ad 25) :: rest)) :=
  va_iast hx hb hK hP hD hS 25 0 ar_Ru_waitingBases rfl hin hdg kk
theorem le_Ru_waitingBases (hx : p.tables.exec = Jvm.exec) (hb : c.code = cc) (hK : va_K D clX (tyX cI cL) s) (hP : va_P D clX (wX cI cL ad ma ko sh lo de wa me ru) H) (hdg : decode cc pc = .ok (.arraylength, 1)) (kk : W p l e R s m args below meth c H locs cells slots Q (F0 m (pc + 1) ls (.int 16 :: rest))) : W p l e R s m args below meth c H locs cells slots Q (F0 m (pc) ls (.ref (ad 25) :: rest)) :=
  va_alen hx hb hK hP 25 0 ar_Ru_waitingBases rfl rfl hdg kk
theorem ob_Bl : (wX cI cL ad ma ko sh lo de wa me ru)[26]? = some (ad 26, .inr (8, [.ref (ad 19)])) := rfl
theorem rd_Bl_memory (hx : p.tables.exec = Jvm.exec) (hb : c.code = cc) (hts : ∀ w ∈ TB, w.before args s = true) (hown : s.vm.findClass own = some m.cls) (hK : va_K D clX (tyX cI cL) s) (hP : va_P D clX (wX cI cL ad ma ko sh lo de wa me ru) H) (hlink : Cond.fieldLink own index "ScanMachine$Blocks" "memory" "LScanMachine$Memory;" ∈ TB) (hdg : decode cc pc = .ok (.getfield index, 3)) (kk : W p l e R s m args below meth c H locs cells slots Q (F0 m (pc + 3) ls (.ref (ad 19) :: rest))) : W p l e R s m args below meth c H locs cells slots Q (F0 m (pc) ls (.ref (ad 26) :: rest)) :=
  va_get (D := D) (ci := 8) (v := .ref (ad 19)) (C := "ScanMachine$Blocks") (T := T_Bl_) (N := 1) hx hb hts in_Bl hown hK hP 26 ob_Bl rfl 0 (by decide) (hts _ hlink) (fun _ h9 => h9) rfl hdg kk
theorem ob_Mo : (wM cI cL ad mc mq mr)[0]? = some (ad 0, .inr (9, [.int (mc_size mc), .ref (ad 1), .int (mc_units mc), .ref (ad 2), .ref (ad 3), .ref (ad 4), .int (mc_total mc), .ref (ad 5), .ref (ad 6), .ref (ad 7), .ref (ad 8), .int (mq_from_ mq), .int (mq_many mq), .ref (ad 9), .ref (ad 10), .ref (ad 11), .ref (ad 12), .int (mr_runs mr), .int (mr_now mr), .int (mr_lastSteps mr), .int (mr_scans mr), .int (mr_faults mr), .int (mr_deepest mr), .ref (ad 13), .int (mr_depth mr), .ref (ad 14), .ref (ad 15), .ref (ad 16)])) := rfl
theorem rd_Mo_size (hx : p.tables.exec = Jvm.exec) (hb : c.code = cc) (hts : ∀ w ∈ TB, w.before args s = true) (hown : s.vm.findClass own = some m.cls) (hK : va_K D clX (tyX cI cL) s) (hP : va_P D clX (wM cI cL ad mc mq mr) H) (hlink : Cond.fieldLink own index "ScanMachineModel" "size" "I" ∈ TB) {v : Int32} (hv : mc_size mc = v) (hdg : decode cc pc = .ok (.getfield index, 3)) (kk : W p l e R s m args below meth c H locs cells slots Q (F0 m (pc + 3) ls (.int v :: rest))) : W p l e R s m args below meth c H locs cells slots Q (F0 m (pc) ls (.ref (ad 0) :: rest)) := by
  subst hv
  exact va_get (D := D) (ci := 9) (v := .int (mc_size mc)) (C := "ScanMachineModel") (T := T_Mo_) (N := 28) hx hb hts in_Mo hown hK hP 0 ob_Mo rfl 0 (by decide) (hts _ hlink) (fun _ h9 => h9) rfl hdg kk
theorem wr_Mo_size (hx : p.tables.exec = Jvm.exec) (hb : c.code = cc) (hts : ∀ w ∈ TB, w.before args s = true) (hown : s.vm.findClass own = some m.cls) (hK : va_K D clX (tyX cI cL) s) (hP : va_P D clX (wM cI cL ad mc mq mr) H) (hD : va_D A (wM cI cL ad mc mq mr)) (hS : va_S A H0 H locs) (hlink : Cond.fieldLink own index "ScanMachineModel" "size" "I" ∈ TB) {v : Int32} (hdg : decode cc pc = .ok (.putfield index, 3)) (kk : ∀ (H1 : Heap) (locs1 : List Loc), va_P D clX (wM cI cL ad (mc_size_s mc v) mq mr) H1 → va_D A (wM cI cL ad (mc_size_s mc v) mq mr) → va_S A H0 H1 locs1 → W p l e R s m args below meth c H1 locs1 cells slots Q (F0 m (pc + 3) ls (rest))) : W p l e R s m args below meth c H locs cells slots Q (F0 m (pc) ls (.int v :: .ref (ad 0) :: rest)) :=
  va_put (D := D) (ci := 9) (v := .int v) (ty := .int) (C := "ScanMachineModel") (T := T_Mo_) (N := 28) hx hb hts in_Mo ty_Mo tyok_Mo nm_Mo hown hK hP hD hS 0 ob_Mo rfl 0 (by decide) (hts _ hlink) (fun _ h9 => h9) rfl (by decide +kernel) rfl rfl (Nat.le_of_ble_eq_true rfl) hdg kk
theorem rd_Mo_cells (hx : p.tables.exec = Jvm.exec) (hb : c.code = cc) (hts : ∀ w ∈ TB, w.before args s = true) (hown : s.vm.findClass own = some m.cls) (hK : va_K D clX (tyX cI cL) s) (hP : va_P D clX (wM cI cL ad mc mq mr) H) (hlink : Cond.fieldLink own index "ScanMachineModel" "cells" "[I" ∈ TB) (hdg : decode cc pc = .ok (.getfield index, 3)) (kk : W p l e R s m args below meth c H locs cells slots Q (F0 m (pc + 3) ls (.ref (ad 1) :: rest))) : W p l e R s m args below meth c H locs cells slots Q (F0 m (pc) ls (.ref (ad 0) :: rest)) :=
  va_get (D := D) (ci := 9) (v := .ref (ad 1)) (C := "ScanMachineModel") (T := T_Mo_) (N := 28) hx hb hts in_Mo hown hK hP 0 ob_Mo rfl 1 (by decide) (hts _ hlink) (fun _ h9 => h9) rfl hdg kk
theorem rd_Mo_units (hx : p.tables.exec = Jvm.exec) (hb : c.code = cc) (hts : ∀ w ∈ TB, w.before args s = true) (hown : s.vm.findClass own = some m.cls) (hK : va_K D clX (tyX cI cL) s) (hP : va_P D clX (wM cI cL ad mc mq mr) H) (hlink : Cond.fieldLink own index "ScanMachineModel" "units" "I" ∈ TB) {v : Int32} (hv : mc_units mc = v) (hdg : decode cc pc = .ok (.getfield index, 3)) (kk : W p l e R s m args below meth c H locs cells slots Q (F0 m (pc + 3) ls (.int v :: rest))) : W p l e R s m args below meth c H locs cells slots Q (F0 m (pc) ls (.ref (ad 0) :: rest)) := by
  subst hv
  exact va_get (D := D) (ci := 9) (v := .int (mc_units mc)) (C := "ScanMachineModel") (T := T_Mo_) (N := 28) hx hb hts in_Mo hown hK hP 0 ob_Mo rfl 2 (by decide) (hts _ hlink) (fun _ h9 => h9) rfl hdg kk
theorem wr_Mo_units (hx : p.tables.exec = Jvm.exec) (hb : c.code = cc) (hts : ∀ w ∈ TB, w.before args s = true) (hown : s.vm.findClass own = some m.cls) (hK : va_K D clX (tyX cI cL) s) (hP : va_P D clX (wM cI cL ad mc mq mr) H) (hD : va_D A (wM cI cL ad mc mq mr)) (hS : va_S A H0 H locs) (hlink : Cond.fieldLink own index "ScanMachineModel" "units" "I" ∈ TB) {v : Int32} (hdg : decode cc pc = .ok (.putfield index, 3)) (kk : ∀ (H1 : Heap) (locs1 : List Loc), va_P D clX (wM cI cL ad (mc_units_s mc v) mq mr) H1 → va_D A (wM cI cL ad (mc_units_s mc v) mq mr) → va_S A H0 H1 locs1 → W p l e R s m args below meth c H1 locs1 cells slots Q (F0 m (pc + 3) ls (rest))) : W p l e R s m args below meth c H locs cells slots Q (F0 m (pc) ls (.int v :: .ref (ad 0) :: rest)) :=
  va_put (D := D) (ci := 9) (v := .int v) (ty := .int) (C := "ScanMachineModel") (T := T_Mo_) (N := 28) hx hb hts in_Mo ty_Mo tyok_Mo nm_Mo hown hK hP hD hS 0 ob_Mo rfl 2 (by decide) (hts _ hlink) (fun _ h9 => h9) rfl (by decide +kernel) rfl rfl (Nat.le_of_ble_eq_true rfl) hdg kk
theorem rd_Mo_frames (hx : p.tables.exec = Jvm.exec) (hb : c.code = cc) (hts : ∀ w ∈ TB, w.before args s = true) (hown : s.vm.findClass own = some m.cls) (hK : va_K D clX (tyX cI cL) s) (hP : va_P D clX (wM cI cL ad mc mq mr) H) (hlink : Cond.fieldLink own index "ScanMachineModel" "frames" "[I" ∈ TB) (hdg : decode cc pc = .ok (.getfield index, 3)) (kk : W p l e R s m args below meth c H locs cells slots Q (F0 m (pc + 3) ls (.ref (ad 2) :: rest))) : W p l e R s m args below meth c H locs cells slots Q (F0 m (pc) ls (.ref (ad 0) :: rest)) :=
  va_get (D := D) (ci := 9) (v := .ref (ad 2)) (C := "ScanMachineModel") (T := T_Mo_) (N := 28) hx hb hts in_Mo hown hK hP 0 ob_Mo rfl 3 (by decide) (hts _ hlink) (fun _ h9 => h9) rfl hdg kk
theorem rd_Mo_places (hx : p.tables.exec = Jvm.exec) (hb : c.code = cc) (hts : ∀ w ∈ TB, w.before args s = true) (hown : s.vm.findClass own = some m.cls) (hK : va_K D clX (tyX cI cL) s) (hP : va_P D clX (wM cI cL ad mc mq mr) H) (hlink : Cond.fieldLink own index "ScanMachineModel" "places" "[I" ∈ TB) (hdg : decode cc pc = .ok (.getfield index, 3)) (kk : W p l e R s m args below meth c H locs cells slots Q (F0 m (pc + 3) ls (.ref (ad 3) :: rest))) : W p l e R s m args below meth c H locs cells slots Q (F0 m (pc) ls (.ref (ad 0) :: rest)) :=
  va_get (D := D) (ci := 9) (v := .ref (ad 3)) (C := "ScanMachineModel") (T := T_Mo_) (N := 28) hx hb hts in_Mo hown hK hP 0 ob_Mo rfl 4 (by decide) (hts _ hlink) (fun _ h9 => h9) rfl hdg kk
theorem rd_Mo_firsts (hx : p.tables.exec = Jvm.exec) (hb : c.code = cc) (hts : ∀ w ∈ TB, w.before args s = true) (hown : s.vm.findClass own = some m.cls) (hK : va_K D clX (tyX cI cL) s) (hP : va_P D clX (wM cI cL ad mc mq mr) H) (hlink : Cond.fieldLink own index "ScanMachineModel" "firsts" "[I" ∈ TB) (hdg : decode cc pc = .ok (.getfield index, 3)) (kk : W p l e R s m args below meth c H locs cells slots Q (F0 m (pc + 3) ls (.ref (ad 4) :: rest))) : W p l e R s m args below meth c H locs cells slots Q (F0 m (pc) ls (.ref (ad 0) :: rest)) :=
  va_get (D := D) (ci := 9) (v := .ref (ad 4)) (C := "ScanMachineModel") (T := T_Mo_) (N := 28) hx hb hts in_Mo hown hK hP 0 ob_Mo rfl 5 (by decide) (hts _ hlink) (fun _ h9 => h9) rfl hdg kk
theorem rd_Mo_total (hx : p.tables.exec = Jvm.exec) (hb : c.code = cc) (hts : ∀ w ∈ TB, w.before args s = true) (hown : s.vm.findClass own = some m.cls) (hK : va_K D clX (tyX cI cL) s) (hP : va_P D clX (wM cI cL ad mc mq mr) H) (hlink : Cond.fieldLink own index "ScanMachineModel" "total" "I" ∈ TB) {v : Int32} (hv : mc_total mc = v) (hdg : decode cc pc = .ok (.getfield index, 3)) (kk : W p l e R s m args below meth c H locs cells slots Q (F0 m (pc + 3) ls (.int v :: rest))) : W p l e R s m args below meth c H locs cells slots Q (F0 m (pc) ls (.ref (ad 0) :: rest)) := by
  subst hv
  exact va_get (D := D) (ci := 9) (v := .int (mc_total mc)) (C := "ScanMachineModel") (T := T_Mo_) (N := 28) hx hb hts in_Mo hown hK hP 0 ob_Mo rfl 6 (by decide) (hts _ hlink) (fun _ h9 => h9) rfl hdg kk
theorem wr_Mo_total (hx : p.tables.exec = Jvm.exec) (hb : c.code = cc) (hts : ∀ w ∈ TB, w.before args s = true) (hown : s.vm.findClass own = some m.cls) (hK : va_K D clX (tyX cI cL) s) (hP : va_P D clX (wM cI cL ad mc mq mr) H) (hD : va_D A (wM cI cL ad mc mq mr)) (hS : va_S A H0 H locs) (hlink : Cond.fieldLink own index "ScanMachineModel" "total" "I" ∈ TB) {v : Int32} (hdg : decode cc pc = .ok (.putfield index, 3)) (kk : ∀ (H1 : Heap) (locs1 : List Loc), va_P D clX (wM cI cL ad (mc_total_s mc v) mq mr) H1 → va_D A (wM cI cL ad (mc_total_s mc v) mq mr) → va_S A H0 H1 locs1 → W p l e R s m args below meth c H1 locs1 cells slots Q (F0 m (pc + 3) ls (rest))) : W p l e R s m args below meth c H locs cells slots Q (F0 m (pc) ls (.int v :: .ref (ad 0) :: rest)) :=
  va_put (D := D) (ci := 9) (v := .int v) (ty := .int) (C := "ScanMachineModel") (T := T_Mo_) (N := 28) hx hb hts in_Mo ty_Mo tyok_Mo nm_Mo hown hK hP hD hS 0 ob_Mo rfl 6 (by decide) (hts _ hlink) (fun _ h9 => h9) rfl (by decide +kernel) rfl rfl (Nat.le_of_ble_eq_true rfl) hdg kk
theorem rd_Mo_numbers (hx : p.tables.exec = Jvm.exec) (hb : c.code = cc) (hts : ∀ w ∈ TB, w.before args s = true) (hown : s.vm.findClass own = some m.cls) (hK : va_K D clX (tyX cI cL) s) (hP : va_P D clX (wM cI cL ad mc mq mr) H) (hlink : Cond.fieldLink own index "ScanMachineModel" "numbers" "[I" ∈ TB) (hdg : decode cc pc = .ok (.getfield index, 3)) (kk : W p l e R s m args below meth c H locs cells slots Q (F0 m (pc + 3) ls (.ref (ad 5) :: rest))) : W p l e R s m args below meth c H locs cells slots Q (F0 m (pc) ls (.ref (ad 0) :: rest)) :=
  va_get (D := D) (ci := 9) (v := .ref (ad 5)) (C := "ScanMachineModel") (T := T_Mo_) (N := 28) hx hb hts in_Mo hown hK hP 0 ob_Mo rfl 7 (by decide) (hts _ hlink) (fun _ h9 => h9) rfl hdg kk
theorem rd_Mo_as_ (hx : p.tables.exec = Jvm.exec) (hb : c.code = cc) (hts : ∀ w ∈ TB, w.before args s = true) (hown : s.vm.findClass own = some m.cls) (hK : va_K D clX (tyX cI cL) s) (hP : va_P D clX (wM cI cL ad mc mq mr) H) (hlink : Cond.fieldLink own index "ScanMachineModel" "as" "[I" ∈ TB) (hdg : decode cc pc = .ok (.getfield index, 3)) (kk : W p l e R s m args below meth c H locs cells slots Q (F0 m (pc + 3) ls (.ref (ad 6) :: rest))) : W p l e R s m args below meth c H locs cells slots Q (F0 m (pc) ls (.ref (ad 0) :: rest)) :=
  va_get (D := D) (ci := 9) (v := .ref (ad 6)) (C := "ScanMachineModel") (T := T_Mo_) (N := 28) hx hb hts in_Mo hown hK hP 0 ob_Mo rfl 8 (by decide) (hts _ hlink) (fun _ h9 => h9) rfl hdg kk
theorem rd_Mo_bs (hx : p.tables.exec = Jvm.exec) (hb : c.code = cc) (hts : ∀ w ∈ TB, w.before args s = true) (hown : s.vm.findClass own = some m.cls) (hK : va_K D clX (tyX cI cL) s) (hP : va_P D clX (wM cI cL ad mc mq mr) H) (hlink : Cond.fieldLink own index "ScanMachineModel" "bs" "[I" ∈ TB) (hdg : decode cc pc = .ok (.getfield index, 3)) (kk : W p l e R s m args below meth c H locs cells slots Q (F0 m (pc + 3) ls (.ref (ad 7) :: rest))) : W p l e R s m args below meth c H locs cells slots Q (F0 m (pc) ls (.ref (ad 0) :: rest)) :=
  va_get (D := D) (ci := 9) (v := .ref (ad 7)) (C := "ScanMachineModel") (T := T_Mo_) (N := 28) hx hb hts in_Mo hown hK hP 0 ob_Mo rfl 9 (by decide) (hts _ hlink) (fun _ h9 => h9) rfl hdg kk
theorem rd_Mo_cs (hx : p.tables.exec = Jvm.exec) (hb : c.code = cc) (hts : ∀ w ∈ TB, w.before args s = true) (hown : s.vm.findClass own = some m.cls) (hK : va_K D clX (tyX cI cL) s) (hP : va_P D clX (wM cI cL ad mc mq mr) H) (hlink : Cond.fieldLink own index "ScanMachineModel" "cs" "[I" ∈ TB) (hdg : decode cc pc = .ok (.getfield index, 3)) (kk : W p l e R s m args below meth c H locs cells slots Q (F0 m (pc + 3) ls (.ref (ad 8) :: rest))) : W p l e R s m args below meth c H locs cells slots Q (F0 m (pc) ls (.ref (ad 0) :: rest)) :=
  va_get (D := D) (ci := 9) (v := .ref (ad 8)) (C := "ScanMachineModel") (T := T_Mo_) (N := 28) hx hb hts in_Mo hown hK hP 0 ob_Mo rfl 10 (by decide) (hts _ hlink) (fun _ h9 => h9) rfl hdg kk
theorem rd_Mo_from_ (hx : p.tables.exec = Jvm.exec) (hb : c.code = cc) (hts : ∀ w ∈ TB, w.before args s = true) (hown : s.vm.findClass own = some m.cls) (hK : va_K D clX (tyX cI cL) s) (hP : va_P D clX (wM cI cL ad mc mq mr) H) (hlink : Cond.fieldLink own index "ScanMachineModel" "from" "I" ∈ TB) {v : Int32} (hv : mq_from_ mq = v) (hdg : decode cc pc = .ok (.getfield index, 3)) (kk : W p l e R s m args below meth c H locs cells slots Q (F0 m (pc + 3) ls (.int v :: rest))) : W p l e R s m args below meth c H locs cells slots Q (F0 m (pc) ls (.ref (ad 0) :: rest)) := by
  subst hv
  exact va_get (D := D) (ci := 9) (v := .int (mq_from_ mq)) (C := "ScanMachineModel") (T := T_Mo_) (N := 28) hx hb hts in_Mo hown hK hP 0 ob_Mo rfl 11 (by decide) (hts _ hlink) (fun _ h9 => h9) rfl hdg kk
theorem wr_Mo_from_ (hx : p.tables.exec = Jvm.exec) (hb : c.code = cc) (hts : ∀ w ∈ TB, w.before args s = true) (hown : s.vm.findClass own = some m.cls) (hK : va_K D clX (tyX cI cL) s) (hP : va_P D clX (wM cI cL ad mc mq mr) H) (hD : va_D A (wM cI cL ad mc mq mr)) (hS : va_S A H0 H locs) (hlink : Cond.fieldLink own index "ScanMachineModel" "from" "I" ∈ TB) {v : Int32} (hdg : decode cc pc = .ok (.putfield index, 3)) (kk : ∀ (H1 : Heap) (locs1 : List Loc), va_P D clX (wM cI cL ad mc (mq_from__s mq v) mr) H1 → va_D A (wM cI cL ad mc (mq_from__s mq v) mr) → va_S A H0 H1 locs1 → W p l e R s m args below meth c H1 locs1 cells slots Q (F0 m (pc + 3) ls (rest))) : W p l e R s m args below meth c H locs cells slots Q (F0 m (pc) ls (.int v :: .ref (ad 0) :: rest)) :=
  va_put (D := D) (ci := 9) (v := .int v) (ty := .int) (C := "ScanMachineModel") (T := T_Mo_) (N := 28) hx hb hts in_Mo ty_Mo tyok_Mo nm_Mo hown hK hP hD hS 0 ob_Mo rfl 11 (by decide) (hts _ hlink) (fun _ h9 => h9) rfl (by decide +kernel) rfl rfl (Nat.le_of_ble_eq_true rfl) hdg kk
theorem rd_Mo_many (hx : p.tables.exec = Jvm.exec) (hb : c.code = cc) (hts : ∀ w ∈ TB, w.before args s = true) (hown : s.vm.findClass own = some m.cls) (hK : va_K D clX (tyX cI cL) s) (hP : va_P D clX (wM cI cL ad mc mq mr) H) (hlink : Cond.fieldLink own index "ScanMachineModel" "many" "I" ∈ TB) {v : Int32} (hv : mq_many mq = v) (hdg : decode cc pc = .ok (.getfield index, 3)) (kk : W p l e R s m args below meth c H locs cells slots Q (F0 m (pc + 3) ls (.int v :: rest))) : W p l e R s m args below meth c H locs cells slots Q (F0 m (pc) ls (.ref (ad 0) :: rest)) := by
  subst hv
  exact va_get (D := D) (ci := 9) (v := .int (mq_many mq)) (C := "ScanMachineModel") (T := T_Mo_) (N := 28) hx hb hts in_Mo hown hK hP 0 ob_Mo rfl 12 (by decide) (hts _ hlink) (fun _ h9 => h9) rfl hdg kk
theorem wr_Mo_many (hx : p.tables.exec = Jvm.exec) (hb : c.code = cc) (hts : ∀ w ∈ TB, w.before args s = true) (hown : s.vm.findClass own = some m.cls) (hK : va_K D clX (tyX cI cL) s) (hP : va_P D clX (wM cI cL ad mc mq mr) H) (hD : va_D A (wM cI cL ad mc mq mr)) (hS : va_S A H0 H locs) (hlink : Cond.fieldLink own index "ScanMachineModel" "many" "I" ∈ TB) {v : Int32} (hdg : decode cc pc = .ok (.putfield index, 3)) (kk : ∀ (H1 : Heap) (locs1 : List Loc), va_P D clX (wM cI cL ad mc (mq_many_s mq v) mr) H1 → va_D A (wM cI cL ad mc (mq_many_s mq v) mr) → va_S A H0 H1 locs1 → W p l e R s m args below meth c H1 locs1 cells slots Q (F0 m (pc + 3) ls (rest))) : W p l e R s m args below meth c H locs cells slots Q (F0 m (pc) ls (.int v :: .ref (ad 0) :: rest)) :=
  va_put (D := D) (ci := 9) (v := .int v) (ty := .int) (C := "ScanMachineModel") (T := T_Mo_) (N := 28) hx hb hts in_Mo ty_Mo tyok_Mo nm_Mo hown hK hP hD hS 0 ob_Mo rfl 12 (by decide) (hts _ hlink) (fun _ h9 => h9) rfl (by decide +kernel) rfl rfl (Nat.le_of_ble_eq_true rfl) hdg kk
theorem rd_Mo_depths (hx : p.tables.exec = Jvm.exec) (hb : c.code = cc) (hts : ∀ w ∈ TB, w.before args s = true) (hown : s.vm.findClass own = some m.cls) (hK : va_K D clX (tyX cI cL) s) (hP : va_P D clX (wM cI cL ad mc mq mr) H) (hlink : Cond.fieldLink own index "ScanMachineModel" "depths" "[I" ∈ TB) (hdg : decode cc pc = .ok (.getfield index, 3)) (kk : W p l e R s m args below meth c H locs cells slots Q (F0 m (pc + 3) ls (.ref (ad 9) :: rest))) : W p l e R s m args below meth c H locs cells slots Q (F0 m (pc) ls (.ref (ad 0) :: rest)) :=
  va_get (D := D) (ci := 9) (v := .ref (ad 9)) (C := "ScanMachineModel") (T := T_Mo_) (N := 28) hx hb hts in_Mo hown hK hP 0 ob_Mo rfl 13 (by decide) (hts _ hlink) (fun _ h9 => h9) rfl hdg kk
theorem rd_Mo_ways (hx : p.tables.exec = Jvm.exec) (hb : c.code = cc) (hts : ∀ w ∈ TB, w.before args s = true) (hown : s.vm.findClass own = some m.cls) (hK : va_K D clX (tyX cI cL) s) (hP : va_P D clX (wM cI cL ad mc mq mr) H) (hlink : Cond.fieldLink own index "ScanMachineModel" "ways" "[J" ∈ TB) (hdg : decode cc pc = .ok (.getfield index, 3)) (kk : W p l e R s m args below meth c H locs cells slots Q (F0 m (pc + 3) ls (.ref (ad 10) :: rest))) : W p l e R s m args below meth c H locs cells slots Q (F0 m (pc) ls (.ref (ad 0) :: rest)) :=
  va_get (D := D) (ci := 9) (v := .ref (ad 10)) (C := "ScanMachineModel") (T := T_Mo_) (N := 28) hx hb hts in_Mo hown hK hP 0 ob_Mo rfl 14 (by decide) (hts _ hlink) (fun _ h9 => h9) rfl hdg kk
theorem rd_Mo_rounds (hx : p.tables.exec = Jvm.exec) (hb : c.code = cc) (hts : ∀ w ∈ TB, w.before args s = true) (hown : s.vm.findClass own = some m.cls) (hK : va_K D clX (tyX cI cL) s) (hP : va_P D clX (wM cI cL ad mc mq mr) H) (hlink : Cond.fieldLink own index "ScanMachineModel" "rounds" "[J" ∈ TB) (hdg : decode cc pc = .ok (.getfield index, 3)) (kk : W p l e R s m args below meth c H locs cells slots Q (F0 m (pc + 3) ls (.ref (ad 11) :: rest))) : W p l e R s m args below meth c H locs cells slots Q (F0 m (pc) ls (.ref (ad 0) :: rest)) :=
  va_get (D := D) (ci := 9) (v := .ref (ad 11)) (C := "ScanMachineModel") (T := T_Mo_) (N := 28) hx hb hts in_Mo hown hK hP 0 ob_Mo rfl 15 (by decide) (hts _ hlink) (fun _ h9 => h9) rfl hdg kk
theorem rd_Mo_steps (hx : p.tables.exec = Jvm.exec) (hb : c.code = cc) (hts : ∀ w ∈ TB, w.before args s = true) (hown : s.vm.findClass own = some m.cls) (hK : va_K D clX (tyX cI cL) s) (hP : va_P D clX (wM cI cL ad mc mq mr) H) (hlink : Cond.fieldLink own index "ScanMachineModel" "steps" "[J" ∈ TB) (hdg : decode cc pc = .ok (.getfield index, 3)) (kk : W p l e R s m args below meth c H locs cells slots Q (F0 m (pc + 3) ls (.ref (ad 12) :: rest))) : W p l e R s m args below meth c H locs cells slots Q (F0 m (pc) ls (.ref (ad 0) :: rest)) :=
  va_get (D := D) (ci := 9) (v := .ref (ad 12)) (C := "ScanMachineModel") (T := T_Mo_) (N := 28) hx hb hts in_Mo hown hK hP 0 ob_Mo rfl 16 (by decide) (hts _ hlink) (fun _ h9 => h9) rfl hdg kk
theorem rd_Mo_runs (hx : p.tables.exec = Jvm.exec) (hb : c.code = cc) (hts : ∀ w ∈ TB, w.before args s = true) (hown : s.vm.findClass own = some m.cls) (hK : va_K D clX (tyX cI cL) s) (hP : va_P D clX (wM cI cL ad mc mq mr) H) (hlink : Cond.fieldLink own index "ScanMachineModel" "runs" "Z" ∈ TB) {v : Int32} (hv : mr_runs mr = v) (hdg : decode cc pc = .ok (.getfield index, 3)) (kk : W p l e R s m args below meth c H locs cells slots Q (F0 m (pc + 3) ls (.int v :: rest))) : W p l e R s m args below meth c H locs cells slots Q (F0 m (pc) ls (.ref (ad 0) :: rest)) := by
  subst hv
  exact va_get (D := D) (ci := 9) (v := .int (mr_runs mr)) (C := "ScanMachineModel") (T := T_Mo_) (N := 28) hx hb hts in_Mo hown hK hP 0 ob_Mo rfl 17 (by decide) (hts _ hlink) (fun _ h9 => h9) rfl hdg kk
theorem wr_Mo_runs (hx : p.tables.exec = Jvm.exec) (hb : c.code = cc) (hts : ∀ w ∈ TB, w.before args s = true) (hown : s.vm.findClass own = some m.cls) (hK : va_K D clX (tyX cI cL) s) (hP : va_P D clX (wM cI cL ad mc mq mr) H) (hD : va_D A (wM cI cL ad mc mq mr)) (hS : va_S A H0 H locs) (hlink : Cond.fieldLink own index "ScanMachineModel" "runs" "Z" ∈ TB) {v : Int32} (h01 : v = 0 ∨ v = 1) (hdg : decode cc pc = .ok (.putfield index, 3)) (kk : ∀ (H1 : Heap) (locs1 : List Loc), va_P D clX (wM cI cL ad mc mq (mr_runs_s mr v)) H1 → va_D A (wM cI cL ad mc mq (mr_runs_s mr v)) → va_S A H0 H1 locs1 → W p l e R s m args below meth c H1 locs1 cells slots Q (F0 m (pc + 3) ls (rest))) : W p l e R s m args below meth c H locs cells slots Q (F0 m (pc) ls (.int v :: .ref (ad 0) :: rest)) :=
  va_put (D := D) (ci := 9) (v := .int v) (ty := .boolean) (C := "ScanMachineModel") (T := T_Mo_) (N := 28) hx hb hts in_Mo ty_Mo tyok_Mo nm_Mo hown hK hP hD hS 0 ob_Mo rfl 17 (by decide) (hts _ hlink) (fun _ h9 => h9) rfl (by decide +kernel) (by rcases h01 with rfl | rfl <;> rfl) (by rcases h01 with rfl | rfl <;> rfl) (Nat.le_of_ble_eq_true rfl) hdg kk
theorem rd_Mo_now (hx : p.tables.exec = Jvm.exec) (hb : c.code = cc) (hts : ∀ w ∈ TB, w.before args s = true) (hown : s.vm.findClass own = some m.cls) (hK : va_K D clX (tyX cI cL) s) (hP : va_P D clX (wM cI cL ad mc mq mr) H) (hlink : Cond.fieldLink own index "ScanMachineModel" "now" "I" ∈ TB) {v : Int32} (hv : mr_now mr = v) (hdg : decode cc pc = .ok (.getfield index, 3)) (kk : W p l e R s m args below meth c H locs cells slots Q (F0 m (pc + 3) ls (.int v :: rest))) : W p l e R s m args below meth c H locs cells slots Q (F0 m (pc) ls (.ref (ad 0) :: rest)) := by
  subst hv
  exact va_get (D := D) (ci := 9) (v := .int (mr_now mr)) (C := "ScanMachineModel") (T := T_Mo_) (N := 28) hx hb hts in_Mo hown hK hP 0 ob_Mo rfl 18 (by decide) (hts _ hlink) (fun _ h9 => h9) rfl hdg kk
theorem wr_Mo_now (hx : p.tables.exec = Jvm.exec) (hb : c.code = cc) (hts : ∀ w ∈ TB, w.before args s = true) (hown : s.vm.findClass own = some m.cls) (hK : va_K D clX (tyX cI cL) s) (hP : va_P D clX (wM cI cL ad mc mq mr) H) (hD : va_D A (wM cI cL ad mc mq mr)) (hS : va_S A H0 H locs) (hlink : Cond.fieldLink own index "ScanMachineModel" "now" "I" ∈ TB) {v : Int32} (hdg : decode cc pc = .ok (.putfield index, 3)) (kk : ∀ (H1 : Heap) (locs1 : List Loc), va_P D clX (wM cI cL ad mc mq (mr_now_s mr v)) H1 → va_D A (wM cI cL ad mc mq (mr_now_s mr v)) → va_S A H0 H1 locs1 → W p l e R s m args below meth c H1 locs1 cells slots Q (F0 m (pc + 3) ls (rest))) : W p l e R s m args below meth c H locs cells slots Q (F0 m (pc) ls (.int v :: .ref (ad 0) :: rest)) :=
  va_put (D := D) (ci := 9) (v := .int v) (ty := .int) (C := "ScanMachineModel") (T := T_Mo_) (N := 28) hx hb hts in_Mo ty_Mo tyok_Mo nm_Mo hown hK hP hD hS 0 ob_Mo rfl 18 (by decide) (hts _ hlink) (fun _ h9 => h9) rfl (by decide +kernel) rfl rfl (Nat.le_of_ble_eq_true rfl) hdg kk
theorem rd_Mo_lastSteps (hx : p.tables.exec = Jvm.exec) (hb : c.code = cc) (hts : ∀ w ∈ TB, w.before args s = true) (hown : s.vm.findClass own = some m.cls) (hK : va_K D clX (tyX cI cL) s) (hP : va_P D clX (wM cI cL ad mc mq mr) H) (hlink : Cond.fieldLink own index "ScanMachineModel" "lastSteps" "I" ∈ TB) {v : Int32} (hv : mr_lastSteps mr = v) (hdg : decode cc pc = .ok (.getfield index, 3)) (kk : W p l e R s m args below meth c H locs cells slots Q (F0 m (pc + 3) ls (.int v :: rest))) : W p l e R s m args below meth c H locs cells slots Q (F0 m (pc) ls (.ref (ad 0) :: rest)) := by
  subst hv
  exact va_get (D := D) (ci := 9) (v := .int (mr_lastSteps mr)) (C := "ScanMachineModel") (T := T_Mo_) (N := 28) hx hb hts in_Mo hown hK hP 0 ob_Mo rfl 19 (by decide) (hts _ hlink) (fun _ h9 => h9) rfl hdg kk
theorem wr_Mo_lastSteps (hx : p.tables.exec = Jvm.exec) (hb : c.code = cc) (hts : ∀ w ∈ TB, w.before args s = true) (hown : s.vm.findClass own = some m.cls) (hK : va_K D clX (tyX cI cL) s) (hP : va_P D clX (wM cI cL ad mc mq mr) H) (hD : va_D A (wM cI cL ad mc mq mr)) (hS : va_S A H0 H locs) (hlink : Cond.fieldLink own index "ScanMachineModel" "lastSteps" "I" ∈ TB) {v : Int32} (hdg : decode cc pc = .ok (.putfield index, 3)) (kk : ∀ (H1 : Heap) (locs1 : List Loc), va_P D clX (wM cI cL ad mc mq (mr_lastSteps_s mr v)) H1 → va_D A (wM cI cL ad mc mq (mr_lastSteps_s mr v)) → va_S A H0 H1 locs1 → W p l e R s m args below meth c H1 locs1 cells slots Q (F0 m (pc + 3) ls (rest))) : W p l e R s m args below meth c H locs cells slots Q (F0 m (pc) ls (.int v :: .ref (ad 0) :: rest)) :=
  va_put (D := D) (ci := 9) (v := .int v) (ty := .int) (C := "ScanMachineModel") (T := T_Mo_) (N := 28) hx hb hts in_Mo ty_Mo tyok_Mo nm_Mo hown hK hP hD hS 0 ob_Mo rfl 19 (by decide) (hts _ hlink) (fun _ h9 => h9) rfl (by decide +kernel) rfl rfl (Nat.le_of_ble_eq_true rfl) hdg kk
theorem rd_Mo_scans (hx : p.tables.exec = Jvm.exec) (hb : c.code = cc) (hts : ∀ w ∈ TB, w.before args s = true) (hown : s.vm.findClass own = some m.cls) (hK : va_K D clX (tyX cI cL) s) (hP : va_P D clX (wM cI cL ad mc mq mr) H) (hlink : Cond.fieldLink own index "ScanMachineModel" "scans" "I" ∈ TB) {v : Int32} (hv : mr_scans mr = v) (hdg : decode cc pc = .ok (.getfield index, 3)) (kk : W p l e R s m args below meth c H locs cells slots Q (F0 m (pc + 3) ls (.int v :: rest))) : W p l e R s m args below meth c H locs cells slots Q (F0 m (pc) ls (.ref (ad 0) :: rest)) := by
  subst hv
  exact va_get (D := D) (ci := 9) (v := .int (mr_scans mr)) (C := "ScanMachineModel") (T := T_Mo_) (N := 28) hx hb hts in_Mo hown hK hP 0 ob_Mo rfl 20 (by decide) (hts _ hlink) (fun _ h9 => h9) rfl hdg kk
theorem wr_Mo_scans (hx : p.tables.exec = Jvm.exec) (hb : c.code = cc) (hts : ∀ w ∈ TB, w.before args s = true) (hown : s.vm.findClass own = some m.cls) (hK : va_K D clX (tyX cI cL) s) (hP : va_P D clX (wM cI cL ad mc mq mr) H) (hD : va_D A (wM cI cL ad mc mq mr)) (hS : va_S A H0 H locs) (hlink : Cond.fieldLink own index "ScanMachineModel" "scans" "I" ∈ TB) {v : Int32} (hdg : decode cc pc = .ok (.putfield index, 3)) (kk : ∀ (H1 : Heap) (locs1 : List Loc), va_P D clX (wM cI cL ad mc mq (mr_scans_s mr v)) H1 → va_D A (wM cI cL ad mc mq (mr_scans_s mr v)) → va_S A H0 H1 locs1 → W p l e R s m args below meth c H1 locs1 cells slots Q (F0 m (pc + 3) ls (rest))) : W p l e R s m args below meth c H locs cells slots Q (F0 m (pc) ls (.int v :: .ref (ad 0) :: rest)) :=
  va_put (D := D) (ci := 9) (v := .int v) (ty := .int) (C := "ScanMachineModel") (T := T_Mo_) (N := 28) hx hb hts in_Mo ty_Mo tyok_Mo nm_Mo hown hK hP hD hS 0 ob_Mo rfl 20 (by decide) (hts _ hlink) (fun _ h9 => h9) rfl (by decide +kernel) rfl rfl (Nat.le_of_ble_eq_true rfl) hdg kk
theorem rd_Mo_faults (hx : p.tables.exec = Jvm.exec) (hb : c.code = cc) (hts : ∀ w ∈ TB, w.before args s = true) (hown : s.vm.findClass own = some m.cls) (hK : va_K D clX (tyX cI cL) s) (hP : va_P D clX (wM cI cL ad mc mq mr) H) (hlink : Cond.fieldLink own index "ScanMachineModel" "faults" "I" ∈ TB) {v : Int32} (hv : mr_faults mr = v) (hdg : decode cc pc = .ok (.getfield index, 3)) (kk : W p l e R s m args below meth c H locs cells slots Q (F0 m (pc + 3) ls (.int v :: rest))) : W p l e R s m args below meth c H locs cells slots Q (F0 m (pc) ls (.ref (ad 0) :: rest)) := by
  subst hv
  exact va_get (D := D) (ci := 9) (v := .int (mr_faults mr)) (C := "ScanMachineModel") (T := T_Mo_) (N := 28) hx hb hts in_Mo hown hK hP 0 ob_Mo rfl 21 (by decide) (hts _ hlink) (fun _ h9 => h9) rfl hdg kk
theorem wr_Mo_faults (hx : p.tables.exec = Jvm.exec) (hb : c.code = cc) (hts : ∀ w ∈ TB, w.before args s = true) (hown : s.vm.findClass own = some m.cls) (hK : va_K D clX (tyX cI cL) s) (hP : va_P D clX (wM cI cL ad mc mq mr) H) (hD : va_D A (wM cI cL ad mc mq mr)) (hS : va_S A H0 H locs) (hlink : Cond.fieldLink own index "ScanMachineModel" "faults" "I" ∈ TB) {v : Int32} (hdg : decode cc pc = .ok (.putfield index, 3)) (kk : ∀ (H1 : Heap) (locs1 : List Loc), va_P D clX (wM cI cL ad mc mq (mr_faults_s mr v)) H1 → va_D A (wM cI cL ad mc mq (mr_faults_s mr v)) → va_S A H0 H1 locs1 → W p l e R s m args below meth c H1 locs1 cells slots Q (F0 m (pc + 3) ls (rest))) : W p l e R s m args below meth c H locs cells slots Q (F0 m (pc) ls (.int v :: .ref (ad 0) :: rest)) :=
  va_put (D := D) (ci := 9) (v := .int v) (ty := .int) (C := "ScanMachineModel") (T := T_Mo_) (N := 28) hx hb hts in_Mo ty_Mo tyok_Mo nm_Mo hown hK hP hD hS 0 ob_Mo rfl 21 (by decide) (hts _ hlink) (fun _ h9 => h9) rfl (by decide +kernel) rfl rfl (Nat.le_of_ble_eq_true rfl) hdg kk
theorem rd_Mo_deepest (hx : p.tables.exec = Jvm.exec) (hb : c.code = cc) (hts : ∀ w ∈ TB, w.before args s = true) (hown : s.vm.findClass own = some m.cls) (hK : va_K D clX (tyX cI cL) s) (hP : va_P D clX (wM cI cL ad mc mq mr) H) (hlink : Cond.fieldLink own index "ScanMachineModel" "deepest" "I" ∈ TB) {v : Int32} (hv : mr_deepest mr = v) (hdg : decode cc pc = .ok (.getfield index, 3)) (kk : W p l e R s m args below meth c H locs cells slots Q (F0 m (pc + 3) ls (.int v :: rest))) : W p l e R s m args below meth c H locs cells slots Q (F0 m (pc) ls (.ref (ad 0) :: rest)) := by
  subst hv
  exact va_get (D := D) (ci := 9) (v := .int (mr_deepest mr)) (C := "ScanMachineModel") (T := T_Mo_) (N := 28) hx hb hts in_Mo hown hK hP 0 ob_Mo rfl 22 (by decide) (hts _ hlink) (fun _ h9 => h9) rfl hdg kk
theorem wr_Mo_deepest (hx : p.tables.exec = Jvm.exec) (hb : c.code = cc) (hts : ∀ w ∈ TB, w.before args s = true) (hown : s.vm.findClass own = some m.cls) (hK : va_K D clX (tyX cI cL) s) (hP : va_P D clX (wM cI cL ad mc mq mr) H) (hD : va_D A (wM cI cL ad mc mq mr)) (hS : va_S A H0 H locs) (hlink : Cond.fieldLink own index "ScanMachineModel" "deepest" "I" ∈ TB) {v : Int32} (hdg : decode cc pc = .ok (.putfield index, 3)) (kk : ∀ (H1 : Heap) (locs1 : List Loc), va_P D clX (wM cI cL ad mc mq (mr_deepest_s mr v)) H1 → va_D A (wM cI cL ad mc mq (mr_deepest_s mr v)) → va_S A H0 H1 locs1 → W p l e R s m args below meth c H1 locs1 cells slots Q (F0 m (pc + 3) ls (rest))) : W p l e R s m args below meth c H locs cells slots Q (F0 m (pc) ls (.int v :: .ref (ad 0) :: rest)) :=
  va_put (D := D) (ci := 9) (v := .int v) (ty := .int) (C := "ScanMachineModel") (T := T_Mo_) (N := 28) hx hb hts in_Mo ty_Mo tyok_Mo nm_Mo hown hK hP hD hS 0 ob_Mo rfl 22 (by decide) (hts _ hlink) (fun _ h9 => h9) rfl (by decide +kernel) rfl rfl (Nat.le_of_ble_eq_true rfl) hdg kk
theorem rd_Mo_stack (hx : p.tables.exec = Jvm.exec) (hb : c.code = cc) (hts : ∀ w ∈ TB, w.before args s = true) (hown : s.vm.findClass own = some m.cls) (hK : va_K D clX (tyX cI cL) s) (hP : va_P D clX (wM cI cL ad mc mq mr) H) (hlink : Cond.fieldLink own index "ScanMachineModel" "stack" "[I" ∈ TB) (hdg : decode cc pc = .ok (.getfield index, 3)) (kk : W p l e R s m args below meth c H locs cells slots Q (F0 m (pc + 3) ls (.ref (ad 13) :: rest))) : W p l e R s m args below meth c H locs cells slots Q (F0 m (pc) ls (.ref (ad 0) :: rest)) :=
  va_get (D := D) (ci := 9) (v := .ref (ad 13)) (C := "ScanMachineModel") (T := T_Mo_) (N := 28) hx hb hts in_Mo hown hK hP 0 ob_Mo rfl 23 (by decide) (hts _ hlink) (fun _ h9 => h9) rfl hdg kk
theorem rd_Mo_depth (hx : p.tables.exec = Jvm.exec) (hb : c.code = cc) (hts : ∀ w ∈ TB, w.before args s = true) (hown : s.vm.findClass own = some m.cls) (hK : va_K D clX (tyX cI cL) s) (hP : va_P D clX (wM cI cL ad mc mq mr) H) (hlink : Cond.fieldLink own index "ScanMachineModel" "depth" "I" ∈ TB) {v : Int32} (hv : mr_depth mr = v) (hdg : decode cc pc = .ok (.getfield index, 3)) (kk : W p l e R s m args below meth c H locs cells slots Q (F0 m (pc + 3) ls (.int v :: rest))) : W p l e R s m args below meth c H locs cells slots Q (F0 m (pc) ls (.ref (ad 0) :: rest)) := by
  subst hv
  exact va_get (D := D) (ci := 9) (v := .int (mr_depth mr)) (C := "ScanMachineModel") (T := T_Mo_) (N := 28) hx hb hts in_Mo hown hK hP 0 ob_Mo rfl 24 (by decide) (hts _ hlink) (fun _ h9 => h9) rfl hdg kk
theorem wr_Mo_depth (hx : p.tables.exec = Jvm.exec) (hb : c.code = cc) (hts : ∀ w ∈ TB, w.before args s = true) (hown : s.vm.findClass own = some m.cls) (hK : va_K D clX (tyX cI cL) s) (hP : va_P D clX (wM cI cL ad mc mq mr) H) (hD : va_D A (wM cI cL ad mc mq mr)) (hS : va_S A H0 H locs) (hlink : Cond.fieldLink own index "ScanMachineModel" "depth" "I" ∈ TB) {v : Int32} (hdg : decode cc pc = .ok (.putfield index, 3)) (kk : ∀ (H1 : Heap) (locs1 : List Loc), va_P D clX (wM cI cL ad mc mq (mr_depth_s mr v)) H1 → va_D A (wM cI cL ad mc mq (mr_depth_s mr v)) → va_S A H0 H1 locs1 → W p l e R s m args below meth c H1 locs1 cells slots Q (F0 m (pc + 3) ls (rest))) : W p l e R s m args below meth c H locs cells slots Q (F0 m (pc) ls (.int v :: .ref (ad 0) :: rest)) :=
  va_put (D := D) (ci := 9) (v := .int v) (ty := .int) (C := "ScanMachineModel") (T := T_Mo_) (N := 28) hx hb hts in_Mo ty_Mo tyok_Mo nm_Mo hown hK hP hD hS 0 ob_Mo rfl 24 (by decide) (hts _ hlink) (fun _ h9 => h9) rfl (by decide +kernel) rfl rfl (Nat.le_of_ble_eq_true rfl) hdg kk
theorem rd_Mo_unitOf (hx : p.tables.exec = Jvm.exec) (hb : c.code = cc) (hts : ∀ w ∈ TB, w.before args s = true) (hown : s.vm.findClass own = some m.cls) (hK : va_K D clX (tyX cI cL) s) (hP : va_P D clX (wM cI cL ad mc mq mr) H) (hlink : Cond.fieldLink own index "ScanMachineModel" "unitOf" "[I" ∈ TB) (hdg : decode cc pc = .ok (.getfield index, 3)) (kk : W p l e R s m args below meth c H locs cells slots Q (F0 m (pc + 3) ls (.ref (ad 14) :: rest))) : W p l e R s m args below meth c H locs cells slots Q (F0 m (pc) ls (.ref (ad 0) :: rest)) :=
  va_get (D := D) (ci := 9) (v := .ref (ad 14)) (C := "ScanMachineModel") (T := T_Mo_) (N := 28) hx hb hts in_Mo hown hK hP 0 ob_Mo rfl 25 (by decide) (hts _ hlink) (fun _ h9 => h9) rfl hdg kk
theorem rd_Mo_baseOf (hx : p.tables.exec = Jvm.exec) (hb : c.code = cc) (hts : ∀ w ∈ TB, w.before args s = true) (hown : s.vm.findClass own = some m.cls) (hK : va_K D clX (tyX cI cL) s) (hP : va_P D clX (wM cI cL ad mc mq mr) H) (hlink : Cond.fieldLink own index "ScanMachineModel" "baseOf" "[I" ∈ TB) (hdg : decode cc pc = .ok (.getfield index, 3)) (kk : W p l e R s m args below meth c H locs cells slots Q (F0 m (pc + 3) ls (.ref (ad 15) :: rest))) : W p l e R s m args below meth c H locs cells slots Q (F0 m (pc) ls (.ref (ad 0) :: rest)) :=
  va_get (D := D) (ci := 9) (v := .ref (ad 15)) (C := "ScanMachineModel") (T := T_Mo_) (N := 28) hx hb hts in_Mo hown hK hP 0 ob_Mo rfl 26 (by decide) (hts _ hlink) (fun _ h9 => h9) rfl hdg kk
theorem rd_Mo_nextOf (hx : p.tables.exec = Jvm.exec) (hb : c.code = cc) (hts : ∀ w ∈ TB, w.before args s = true) (hown : s.vm.findClass own = some m.cls) (hK : va_K D clX (tyX cI cL) s) (hP : va_P D clX (wM cI cL ad mc mq mr) H) (hlink : Cond.fieldLink own index "ScanMachineModel" "nextOf" "[I" ∈ TB) (hdg : decode cc pc = .ok (.getfield index, 3)) (kk : W p l e R s m args below meth c H locs cells slots Q (F0 m (pc + 3) ls (.ref (ad 16) :: rest))) : W p l e R s m args below meth c H locs cells slots Q (F0 m (pc) ls (.ref (ad 0) :: rest)) :=
  va_get (D := D) (ci := 9) (v := .ref (ad 16)) (C := "ScanMachineModel") (T := T_Mo_) (N := 28) hx hb hts in_Mo hown hK hP 0 ob_Mo rfl 27 (by decide) (hts _ hlink) (fun _ h9 => h9) rfl hdg kk
theorem ar_Mo_cells : (wM cI cL ad mc mq mr)[1]? = some (ad 1, .inl (cI, 4096, .inl (mr_cells mr))) := rfl
theorem ld_Mo_cells (hx : p.tables.exec = Jvm.exec) (hb : c.code = cc) (hK : va_K D clX (tyX cI cL) s) (hP : va_P D clX (wM cI cL ad mc mq mr) H) {i : Int32} (hin : vp_in i 4096) {v : Int32} (hv : v = mr_cells mr i.toNatClampNeg) (hdg : decode cc pc = .ok (.iaload, 1)) (kk : W p l e R s m args below meth c H locs cells slots Q (F0 m (pc + 1) ls (.int v :: rest))) : W p l e R s m args below meth c H locs cells slots Q (F0 m (pc) ls (.int i :: .ref (ad 1) :: rest)) := by
  subst hv; exact va_iald hx hb hK hP 1 0 ar_Mo_cells rfl hin hdg kk
theorem st_Mo_cells (hx : p.tables.exec = Jvm.exec) (hb : c.code = cc) (hK : va_K D clX (tyX cI cL) s) (hP : va_P D clX (wM cI cL ad mc mq mr) H) (hD : va_D A (wM cI cL ad mc mq mr)) (hS : va_S A H0 H locs) {i : Int32} {x : Int32} (hin : vp_in i 4096) (hdg : decode cc pc = .ok (.iastore, 1)) (kk : ∀ (H1 : Heap) (locs1 : List Loc), va_P D clX (wM cI cL ad mc mq (mr_cells_s mr (upd (mr_cells mr) i.toNatClampNeg x))) H1 → va_D A (wM cI cL ad mc mq (mr_cells_s mr (upd (mr_cells mr) i.toNatClampNeg x))) → va_S A H0 H1 locs1 → W p l e R s m args below meth c H1 locs1 cells slots Q (F0 m (pc + 1) ls (rest))) : W p l e R s m args below meth c H locs cells slots Q (F0 m (pc) ls (.int x :: .int i :: .ref (ad 1) :: rest)) :=
  va_iast hx hb hK hP hD hS 1 0 ar_Mo_cells rfl hin hdg kk
theorem le_Mo_cells (hx : p.tables.exec = Jvm.exec) (hb : c.code = cc) (hK : va_K D clX (tyX cI cL) s) (hP : va_P D clX (wM cI cL ad mc mq mr) H) (hdg : decode cc pc = .ok (.arraylength, 1)) (kk : W p l e R s m args below meth c H locs cells slots Q (F0 m (pc + 1) ls (.int 4096 :: rest))) : W p l e R s m args below meth c H locs cells slots Q (F0 m (pc) ls (.ref (ad 1) :: rest)) :=
  va_alen hx hb hK hP 1 0 ar_Mo_cells rfl rfl hdg kk
theorem ar_Mo_frames : (wM cI cL ad mc mq mr)[2]? = some (ad 2, .inl (cI, 16, .inl (mc_frames mc))) := rfl
theorem ld_Mo_frames (hx : p.tables.exec = Jvm.exec) (hb : c.code = cc) (hK : va_K D clX (tyX cI cL) s) (hP : va_P D clX (wM cI cL ad mc mq mr) H) {i : Int32} (hin : vp_in i 16) {v : Int32} (hv : v = mc_frames mc i.toNatClampNeg) (hdg : decode cc pc = .ok (.iaload, 1)) (kk : W p l e R s m args below meth c H locs cells slots Q (F0 m (pc + 1) ls (.int v :: rest))) : W p l e R s m args below meth c H locs cells slots Q (F0 m (pc) ls (.int i :: .ref (ad 2) :: rest)) := by
  subst hv; exact va_iald hx hb hK hP 2 0 ar_Mo_frames rfl hin hdg kk
theorem st_Mo_frames (hx : p.tables.exec = Jvm.exec) (hb : c.code = cc) (hK : va_K D clX (tyX cI cL) s) (hP : va_P D clX (wM cI cL ad mc mq mr) H) (hD : va_D A (wM cI cL ad mc mq mr)) (hS : va_S A H0 H locs) {i : Int32} {x : Int32} (hin : vp_in i 16) (hdg : decode cc pc = .ok (.iastore, 1)) (kk : ∀ (H1 : Heap) (locs1 : List Loc), va_P D clX (wM cI cL ad (mc_frames_s mc (upd (mc_frames mc) i.toNatClampNeg x)) mq mr) H1 → va_D A (wM cI cL ad (mc_frames_s mc (upd (mc_frames mc) i.toNatClampNeg x)) mq mr) → va_S A H0 H1 locs1 → W p l e R s m args below meth c H1 locs1 cells slots Q (F0 m (pc + 1) ls (rest))) : W p l e R s m args below meth c H locs cells slots Q (F0 m (pc) ls (.int x :: .int i :: .ref (ad 2) :: rest)) :=
  va_iast hx hb hK hP hD hS 2 0 ar_Mo_frames rfl hin hdg kk
theorem le_Mo_frames (hx : p.tables.exec = Jvm.exec) (hb : c.code = cc) (hK : va_K D clX (tyX cI cL) s) (hP : va_P D clX (wM cI cL ad mc mq mr) H) (hdg : decode cc pc = .ok (.arraylength, 1)) (kk : W p l e R s m args below meth c H locs cells slots Q (F0 m (pc + 1) ls (.int 16 :: rest))) : W p l e R s m args below meth c H locs cells slots Q (F0 m (pc) ls (.ref (ad 2) :: rest)) :=
  va_alen hx hb hK hP 2 0 ar_Mo_frames rfl rfl hdg kk
theorem ar_Mo_places : (wM cI cL ad mc mq mr)[3]? = some (ad 3, .inl (cI, 16, .inl (mc_places mc))) := rfl
theorem ld_Mo_places (hx : p.tables.exec = Jvm.exec) (hb : c.code = cc) (hK : va_K D clX (tyX cI cL) s) (hP : va_P D clX (wM cI cL ad mc mq mr) H) {i : Int32} (hin : vp_in i 16) {v : Int32} (hv : v = mc_places mc i.toNatClampNeg) (hdg : decode cc pc = .ok (.iaload, 1)) (kk : W p l e R s m args below meth c H locs cells slots Q (F0 m (pc + 1) ls (.int v :: rest))) : W p l e R s m args below meth c H locs cells slots Q (F0 m (pc) ls (.int i :: .ref (ad 3) :: rest)) := by
  subst hv; exact va_iald hx hb hK hP 3 0 ar_Mo_places rfl hin hdg kk
theorem st_Mo_places (hx : p.tables.exec = Jvm.exec) (hb : c.code = cc) (hK : va_K D clX (tyX cI cL) s) (hP : va_P D clX (wM cI cL ad mc mq mr) H) (hD : va_D A (wM cI cL ad mc mq mr)) (hS : va_S A H0 H locs) {i : Int32} {x : Int32} (hin : vp_in i 16) (hdg : decode cc pc = .ok (.iastore, 1)) (kk : ∀ (H1 : Heap) (locs1 : List Loc), va_P D clX (wM cI cL ad (mc_places_s mc (upd (mc_places mc) i.toNatClampNeg x)) mq mr) H1 → va_D A (wM cI cL ad (mc_places_s mc (upd (mc_places mc) i.toNatClampNeg x)) mq mr) → va_S A H0 H1 locs1 → W p l e R s m args below meth c H1 locs1 cells slots Q (F0 m (pc + 1) ls (rest))) : W p l e R s m args below meth c H locs cells slots Q (F0 m (pc) ls (.int x :: .int i :: .ref (ad 3) :: rest)) :=
  va_iast hx hb hK hP hD hS 3 0 ar_Mo_places rfl hin hdg kk
theorem le_Mo_places (hx : p.tables.exec = Jvm.exec) (hb : c.code = cc) (hK : va_K D clX (tyX cI cL) s) (hP : va_P D clX (wM cI cL ad mc mq mr) H) (hdg : decode cc pc = .ok (.arraylength, 1)) (kk : W p l e R s m args below meth c H locs cells slots Q (F0 m (pc + 1) ls (.int 16 :: rest))) : W p l e R s m args below meth c H locs cells slots Q (F0 m (pc) ls (.ref (ad 3) :: rest)) :=
  va_alen hx hb hK hP 3 0 ar_Mo_places rfl rfl hdg kk
theorem ar_Mo_firsts : (wM cI cL ad mc mq mr)[4]? = some (ad 4, .inl (cI, 17, .inl (mc_firsts mc))) := rfl
theorem ld_Mo_firsts (hx : p.tables.exec = Jvm.exec) (hb : c.code = cc) (hK : va_K D clX (tyX cI cL) s) (hP : va_P D clX (wM cI cL ad mc mq mr) H) {i : Int32} (hin : vp_in i 17) {v : Int32} (hv : v = mc_firsts mc i.toNatClampNeg) (hdg : decode cc pc = .ok (.iaload, 1)) (kk : W p l e R s m args below meth c H locs cells slots Q (F0 m (pc + 1) ls (.int v :: rest))) : W p l e R s m args below meth c H locs cells slots Q (F0 m (pc) ls (.int i :: .ref (ad 4) :: rest)) := by
  subst hv; exact va_iald hx hb hK hP 4 0 ar_Mo_firsts rfl hin hdg kk
theorem st_Mo_firsts (hx : p.tables.exec = Jvm.exec) (hb : c.code = cc) (hK : va_K D clX (tyX cI cL) s) (hP : va_P D clX (wM cI cL ad mc mq mr) H) (hD : va_D A (wM cI cL ad mc mq mr)) (hS : va_S A H0 H locs) {i : Int32} {x : Int32} (hin : vp_in i 17) (hdg : decode cc pc = .ok (.iastore, 1)) (kk : ∀ (H1 : Heap) (locs1 : List Loc), va_P D clX (wM cI cL ad (mc_firsts_s mc (upd (mc_firsts mc) i.toNatClampNeg x)) mq mr) H1 → va_D A (wM cI cL ad (mc_firsts_s mc (upd (mc_firsts mc) i.toNatClampNeg x)) mq mr) → va_S A H0 H1 locs1 → W p l e R s m args below meth c H1 locs1 cells slots Q (F0 m (pc + 1) ls (rest))) : W p l e R s m args below meth c H locs cells slots Q (F0 m (pc) ls (.int x :: .int i :: .ref (ad 4) :: rest)) :=
  va_iast hx hb hK hP hD hS 4 0 ar_Mo_firsts rfl hin hdg kk
theorem le_Mo_firsts (hx : p.tables.exec = Jvm.exec) (hb : c.code = cc) (hK : va_K D clX (tyX cI cL) s) (hP : va_P D clX (wM cI cL ad mc mq mr) H) (hdg : decode cc pc = .ok (.arraylength, 1)) (kk : W p l e R s m args below meth c H locs cells slots Q (F0 m (pc + 1) ls (.int 17 :: rest))) : W p l e R s m args below meth c H locs cells slots Q (F0 m (pc) ls (.ref (ad 4) :: rest)) :=
  va_alen hx hb hK hP 4 0 ar_Mo_firsts rfl rfl hdg kk
theorem ar_Mo_numbers : (wM cI cL ad mc mq mr)[5]? = some (ad 5, .inl (cI, 256, .inl (mc_numbers mc))) := rfl
theorem ld_Mo_numbers (hx : p.tables.exec = Jvm.exec) (hb : c.code = cc) (hK : va_K D clX (tyX cI cL) s) (hP : va_P D clX (wM cI cL ad mc mq mr) H) {i : Int32} (hin : vp_in i 256) {v : Int32} (hv : v = mc_numbers mc i.toNatClampNeg) (hdg : decode cc pc = .ok (.iaload, 1)) (kk : W p l e R s m args below meth c H locs cells slots Q (F0 m (pc + 1) ls (.int v :: rest))) : W p l e R s m args below meth c H locs cells slots Q (F0 m (pc) ls (.int i :: .ref (ad 5) :: rest)) := by
  subst hv; exact va_iald hx hb hK hP 5 0 ar_Mo_numbers rfl hin hdg kk
theorem st_Mo_numbers (hx : p.tables.exec = Jvm.exec) (hb : c.code = cc) (hK : va_K D clX (tyX cI cL) s) (hP : va_P D clX (wM cI cL ad mc mq mr) H) (hD : va_D A (wM cI cL ad mc mq mr)) (hS : va_S A H0 H locs) {i : Int32} {x : Int32} (hin : vp_in i 256) (hdg : decode cc pc = .ok (.iastore, 1)) (kk : ∀ (H1 : Heap) (locs1 : List Loc), va_P D clX (wM cI cL ad (mc_numbers_s mc (upd (mc_numbers mc) i.toNatClampNeg x)) mq mr) H1 → va_D A (wM cI cL ad (mc_numbers_s mc (upd (mc_numbers mc) i.toNatClampNeg x)) mq mr) → va_S A H0 H1 locs1 → W p l e R s m args below meth c H1 locs1 cells slots Q (F0 m (pc + 1) ls (rest))) : W p l e R s m args below meth c H locs cells slots Q (F0 m (pc) ls (.int x :: .int i :: .ref (ad 5) :: rest)) :=
  va_iast hx hb hK hP hD hS 5 0 ar_Mo_numbers rfl hin hdg kk
theorem le_Mo_numbers (hx : p.tables.exec = Jvm.exec) (hb : c.code = cc) (hK : va_K D clX (tyX cI cL) s) (hP : va_P D clX (wM cI cL ad mc mq mr) H) (hdg : decode cc pc = .ok (.arraylength, 1)) (kk : W p l e R s m args below meth c H locs cells slots Q (F0 m (pc + 1) ls (.int 256 :: rest))) : W p l e R s m args below meth c H locs cells slots Q (F0 m (pc) ls (.ref (ad 5) :: rest)) :=
  va_alen hx hb hK hP 5 0 ar_Mo_numbers rfl rfl hdg kk
theorem ar_Mo_as_ : (wM cI cL ad mc mq mr)[6]? = some (ad 6, .inl (cI, 256, .inl (mc_as_ mc))) := rfl
theorem ld_Mo_as_ (hx : p.tables.exec = Jvm.exec) (hb : c.code = cc) (hK : va_K D clX (tyX cI cL) s) (hP : va_P D clX (wM cI cL ad mc mq mr) H) {i : Int32} (hin : vp_in i 256) {v : Int32} (hv : v = mc_as_ mc i.toNatClampNeg) (hdg : decode cc pc = .ok (.iaload, 1)) (kk : W p l e R s m args below meth c H locs cells slots Q (F0 m (pc + 1) ls (.int v :: rest))) : W p l e R s m args below meth c H locs cells slots Q (F0 m (pc) ls (.int i :: .ref (ad 6) :: rest)) := by
  subst hv; exact va_iald hx hb hK hP 6 0 ar_Mo_as_ rfl hin hdg kk
theorem st_Mo_as_ (hx : p.tables.exec = Jvm.exec) (hb : c.code = cc) (hK : va_K D clX (tyX cI cL) s) (hP : va_P D clX (wM cI cL ad mc mq mr) H) (hD : va_D A (wM cI cL ad mc mq mr)) (hS : va_S A H0 H locs) {i : Int32} {x : Int32} (hin : vp_in i 256) (hdg : decode cc pc = .ok (.iastore, 1)) (kk : ∀ (H1 : Heap) (locs1 : List Loc), va_P D clX (wM cI cL ad (mc_as__s mc (upd (mc_as_ mc) i.toNatClampNeg x)) mq mr) H1 → va_D A (wM cI cL ad (mc_as__s mc (upd (mc_as_ mc) i.toNatClampNeg x)) mq mr) → va_S A H0 H1 locs1 → W p l e R s m args below meth c H1 locs1 cells slots Q (F0 m (pc + 1) ls (rest))) : W p l e R s m args below meth c H locs cells slots Q (F0 m (pc) ls (.int x :: .int i :: .ref (ad 6) :: rest)) :=
  va_iast hx hb hK hP hD hS 6 0 ar_Mo_as_ rfl hin hdg kk
theorem le_Mo_as_ (hx : p.tables.exec = Jvm.exec) (hb : c.code = cc) (hK : va_K D clX (tyX cI cL) s) (hP : va_P D clX (wM cI cL ad mc mq mr) H) (hdg : decode cc pc = .ok (.arraylength, 1)) (kk : W p l e R s m args below meth c H locs cells slots Q (F0 m (pc + 1) ls (.int 256 :: rest))) : W p l e R s m args below meth c H locs cells slots Q (F0 m (pc) ls (.ref (ad 6) :: rest)) :=
  va_alen hx hb hK hP 6 0 ar_Mo_as_ rfl rfl hdg kk
theorem ar_Mo_bs : (wM cI cL ad mc mq mr)[7]? = some (ad 7, .inl (cI, 256, .inl (mc_bs mc))) := rfl
theorem ld_Mo_bs (hx : p.tables.exec = Jvm.exec) (hb : c.code = cc) (hK : va_K D clX (tyX cI cL) s) (hP : va_P D clX (wM cI cL ad mc mq mr) H) {i : Int32} (hin : vp_in i 256) {v : Int32} (hv : v = mc_bs mc i.toNatClampNeg) (hdg : decode cc pc = .ok (.iaload, 1)) (kk : W p l e R s m args below meth c H locs cells slots Q (F0 m (pc + 1) ls (.int v :: rest))) : W p l e R s m args below meth c H locs cells slots Q (F0 m (pc) ls (.int i :: .ref (ad 7) :: rest)) := by
  subst hv; exact va_iald hx hb hK hP 7 0 ar_Mo_bs rfl hin hdg kk
theorem st_Mo_bs (hx : p.tables.exec = Jvm.exec) (hb : c.code = cc) (hK : va_K D clX (tyX cI cL) s) (hP : va_P D clX (wM cI cL ad mc mq mr) H) (hD : va_D A (wM cI cL ad mc mq mr)) (hS : va_S A H0 H locs) {i : Int32} {x : Int32} (hin : vp_in i 256) (hdg : decode cc pc = .ok (.iastore, 1)) (kk : ∀ (H1 : Heap) (locs1 : List Loc), va_P D clX (wM cI cL ad (mc_bs_s mc (upd (mc_bs mc) i.toNatClampNeg x)) mq mr) H1 → va_D A (wM cI cL ad (mc_bs_s mc (upd (mc_bs mc) i.toNatClampNeg x)) mq mr) → va_S A H0 H1 locs1 → W p l e R s m args below meth c H1 locs1 cells slots Q (F0 m (pc + 1) ls (rest))) : W p l e R s m args below meth c H locs cells slots Q (F0 m (pc) ls (.int x :: .int i :: .ref (ad 7) :: rest)) :=
  va_iast hx hb hK hP hD hS 7 0 ar_Mo_bs rfl hin hdg kk
theorem le_Mo_bs (hx : p.tables.exec = Jvm.exec) (hb : c.code = cc) (hK : va_K D clX (tyX cI cL) s) (hP : va_P D clX (wM cI cL ad mc mq mr) H) (hdg : decode cc pc = .ok (.arraylength, 1)) (kk : W p l e R s m args below meth c H locs cells slots Q (F0 m (pc + 1) ls (.int 256 :: rest))) : W p l e R s m args below meth c H locs cells slots Q (F0 m (pc) ls (.ref (ad 7) :: rest)) :=
  va_alen hx hb hK hP 7 0 ar_Mo_bs rfl rfl hdg kk
theorem ar_Mo_cs : (wM cI cL ad mc mq mr)[8]? = some (ad 8, .inl (cI, 256, .inl (mc_cs mc))) := rfl
theorem ld_Mo_cs (hx : p.tables.exec = Jvm.exec) (hb : c.code = cc) (hK : va_K D clX (tyX cI cL) s) (hP : va_P D clX (wM cI cL ad mc mq mr) H) {i : Int32} (hin : vp_in i 256) {v : Int32} (hv : v = mc_cs mc i.toNatClampNeg) (hdg : decode cc pc = .ok (.iaload, 1)) (kk : W p l e R s m args below meth c H locs cells slots Q (F0 m (pc + 1) ls (.int v :: rest))) : W p l e R s m args below meth c H locs cells slots Q (F0 m (pc) ls (.int i :: .ref (ad 8) :: rest)) := by
  subst hv; exact va_iald hx hb hK hP 8 0 ar_Mo_cs rfl hin hdg kk
theorem st_Mo_cs (hx : p.tables.exec = Jvm.exec) (hb : c.code = cc) (hK : va_K D clX (tyX cI cL) s) (hP : va_P D clX (wM cI cL ad mc mq mr) H) (hD : va_D A (wM cI cL ad mc mq mr)) (hS : va_S A H0 H locs) {i : Int32} {x : Int32} (hin : vp_in i 256) (hdg : decode cc pc = .ok (.iastore, 1)) (kk : ∀ (H1 : Heap) (locs1 : List Loc), va_P D clX (wM cI cL ad (mc_cs_s mc (upd (mc_cs mc) i.toNatClampNeg x)) mq mr) H1 → va_D A (wM cI cL ad (mc_cs_s mc (upd (mc_cs mc) i.toNatClampNeg x)) mq mr) → va_S A H0 H1 locs1 → W p l e R s m args below meth c H1 locs1 cells slots Q (F0 m (pc + 1) ls (rest))) : W p l e R s m args below meth c H locs cells slots Q (F0 m (pc) ls (.int x :: .int i :: .ref (ad 8) :: rest)) :=
  va_iast hx hb hK hP hD hS 8 0 ar_Mo_cs rfl hin hdg kk
theorem le_Mo_cs (hx : p.tables.exec = Jvm.exec) (hb : c.code = cc) (hK : va_K D clX (tyX cI cL) s) (hP : va_P D clX (wM cI cL ad mc mq mr) H) (hdg : decode cc pc = .ok (.arraylength, 1)) (kk : W p l e R s m args below meth c H locs cells slots Q (F0 m (pc + 1) ls (.int 256 :: rest))) : W p l e R s m args below meth c H locs cells slots Q (F0 m (pc) ls (.ref (ad 8) :: rest)) :=
  va_alen hx hb hK hP 8 0 ar_Mo_cs rfl rfl hdg kk
theorem ar_Mo_depths : (wM cI cL ad mc mq mr)[9]? = some (ad 9, .inl (cI, 257, .inl (mq_depths mq))) := rfl
theorem ld_Mo_depths (hx : p.tables.exec = Jvm.exec) (hb : c.code = cc) (hK : va_K D clX (tyX cI cL) s) (hP : va_P D clX (wM cI cL ad mc mq mr) H) {i : Int32} (hin : vp_in i 257) {v : Int32} (hv : v = mq_depths mq i.toNatClampNeg) (hdg : decode cc pc = .ok (.iaload, 1)) (kk : W p l e R s m args below meth c H locs cells slots Q (F0 m (pc + 1) ls (.int v :: rest))) : W p l e R s m args below meth c H locs cells slots Q (F0 m (pc) ls (.int i :: .ref (ad 9) :: rest)) := by
  subst hv; exact va_iald hx hb hK hP 9 0 ar_Mo_depths rfl hin hdg kk
theorem st_Mo_depths (hx : p.tables.exec = Jvm.exec) (hb : c.code = cc) (hK : va_K D clX (tyX cI cL) s) (hP : va_P D clX (wM cI cL ad mc mq mr) H) (hD : va_D A (wM cI cL ad mc mq mr)) (hS : va_S A H0 H locs) {i : Int32} {x : Int32} (hin : vp_in i 257) (hdg : decode cc pc = .ok (.iastore, 1)) (kk : ∀ (H1 : Heap) (locs1 : List Loc), va_P D clX (wM cI cL ad mc (mq_depths_s mq (upd (mq_depths mq) i.toNatClampNeg x)) mr) H1 → va_D A (wM cI cL ad mc (mq_depths_s mq (upd (mq_depths mq) i.toNatClampNeg x)) mr) → va_S A H0 H1 locs1 → W p l e R s m args below meth c H1 locs1 cells slots Q (F0 m (pc + 1) ls (rest))) : W p l e R s m args below meth c H locs cells slots Q (F0 m (pc) ls (.int x :: .int i :: .ref (ad 9) :: rest)) :=
  va_iast hx hb hK hP hD hS 9 0 ar_Mo_depths rfl hin hdg kk
theorem le_Mo_depths (hx : p.tables.exec = Jvm.exec) (hb : c.code = cc) (hK : va_K D clX (tyX cI cL) s) (hP : va_P D clX (wM cI cL ad mc mq mr) H) (hdg : decode cc pc = .ok (.arraylength, 1)) (kk : W p l e R s m args below meth c H locs cells slots Q (F0 m (pc + 1) ls (.int 257 :: rest))) : W p l e R s m args below meth c H locs cells slots Q (F0 m (pc) ls (.ref (ad 9) :: rest)) :=
  va_alen hx hb hK hP 9 0 ar_Mo_depths rfl rfl hdg kk
theorem ar_Mo_ways : (wM cI cL ad mc mq mr)[10]? = some (ad 10, .inl (cL, 257, .inr (.inl (mq_ways mq)))) := rfl
theorem ld_Mo_ways (hx : p.tables.exec = Jvm.exec) (hb : c.code = cc) (hK : va_K D clX (tyX cI cL) s) (hP : va_P D clX (wM cI cL ad mc mq mr) H) {i : Int32} (hin : vp_in i 257) {v : Int64} (hv : v = mq_ways mq i.toNatClampNeg) (hdg : decode cc pc = .ok (.laload, 1)) (kk : W p l e R s m args below meth c H locs cells slots Q (F0 m (pc + 1) ls (.long v :: rest))) : W p l e R s m args below meth c H locs cells slots Q (F0 m (pc) ls (.int i :: .ref (ad 10) :: rest)) := by
  subst hv; exact va_lald hx hb hK hP 10 1 ar_Mo_ways rfl hin hdg kk
theorem st_Mo_ways (hx : p.tables.exec = Jvm.exec) (hb : c.code = cc) (hK : va_K D clX (tyX cI cL) s) (hP : va_P D clX (wM cI cL ad mc mq mr) H) (hD : va_D A (wM cI cL ad mc mq mr)) (hS : va_S A H0 H locs) {i : Int32} {x : Int64} (hin : vp_in i 257) (hdg : decode cc pc = .ok (.lastore, 1)) (kk : ∀ (H1 : Heap) (locs1 : List Loc), va_P D clX (wM cI cL ad mc (mq_ways_s mq (vp_updL (mq_ways mq) i.toNatClampNeg x)) mr) H1 → va_D A (wM cI cL ad mc (mq_ways_s mq (vp_updL (mq_ways mq) i.toNatClampNeg x)) mr) → va_S A H0 H1 locs1 → W p l e R s m args below meth c H1 locs1 cells slots Q (F0 m (pc + 1) ls (rest))) : W p l e R s m args below meth c H locs cells slots Q (F0 m (pc) ls (.long x :: .int i :: .ref (ad 10) :: rest)) :=
  va_last hx hb hK hP hD hS 10 1 ar_Mo_ways rfl hin hdg kk
theorem le_Mo_ways (hx : p.tables.exec = Jvm.exec) (hb : c.code = cc) (hK : va_K D clX (tyX cI cL) s) (hP : va_P D clX (wM cI cL ad mc mq mr) H) (hdg : decode cc pc = .ok (.arraylength, 1)) (kk : W p l e R s m args below meth c H locs cells slots Q (F0 m (pc + 1) ls (.int 257 :: rest))) : W p l e R s m args below meth c H locs cells slots Q (F0 m (pc) ls (.ref (ad 10) :: rest)) :=
  va_alen hx hb hK hP 10 1 ar_Mo_ways rfl rfl hdg kk
theorem ar_Mo_rounds : (wM cI cL ad mc mq mr)[11]? = some (ad 11, .inl (cL, 256, .inr (.inl (mq_rounds mq)))) := rfl
theorem ld_Mo_rounds (hx : p.tables.exec = Jvm.exec) (hb : c.code = cc) (hK : va_K D clX (tyX cI cL) s) (hP : va_P D clX (wM cI cL ad mc mq mr) H) {i : Int32} (hin : vp_in i 256) {v : Int64} (hv : v = mq_rounds mq i.toNatClampNeg) (hdg : decode cc pc = .ok (.laload, 1)) (kk : W p l e R s m args below meth c H locs cells slots Q (F0 m (pc + 1) ls (.long v :: rest))) : W p l e R s m args below meth c H locs cells slots Q (F0 m (pc) ls (.int i :: .ref (ad 11) :: rest)) := by
  subst hv; exact va_lald hx hb hK hP 11 1 ar_Mo_rounds rfl hin hdg kk
theorem st_Mo_rounds (hx : p.tables.exec = Jvm.exec) (hb : c.code = cc) (hK : va_K D clX (tyX cI cL) s) (hP : va_P D clX (wM cI cL ad mc mq mr) H) (hD : va_D A (wM cI cL ad mc mq mr)) (hS : va_S A H0 H locs) {i : Int32} {x : Int64} (hin : vp_in i 256) (hdg : decode cc pc = .ok (.lastore, 1)) (kk : ∀ (H1 : Heap) (locs1 : List Loc), va_P D clX (wM cI cL ad mc (mq_rounds_s mq (vp_updL (mq_rounds mq) i.toNatClampNeg x)) mr) H1 → va_D A (wM cI cL ad mc (mq_rounds_s mq (vp_updL (mq_rounds mq) i.toNatClampNeg x)) mr) → va_S A H0 H1 locs1 → W p l e R s m args below meth c H1 locs1 cells slots Q (F0 m (pc + 1) ls (rest))) : W p l e R s m args below meth c H locs cells slots Q (F0 m (pc) ls (.long x :: .int i :: .ref (ad 11) :: rest)) :=
  va_last hx hb hK hP hD hS 11 1 ar_Mo_rounds rfl hin hdg kk
theorem le_Mo_rounds (hx : p.tables.exec = Jvm.exec) (hb : c.code = cc) (hK : va_K D clX (tyX cI cL) s) (hP : va_P D clX (wM cI cL ad mc mq mr) H) (hdg : decode cc pc = .ok (.arraylength, 1)) (kk : W p l e R s m args below meth c H locs cells slots Q (F0 m (pc + 1) ls (.int 256 :: rest))) : W p l e R s m args below meth c H locs cells slots Q (F0 m (pc) ls (.ref (ad 11) :: rest)) :=
  va_alen hx hb hK hP 11 1 ar_Mo_rounds rfl rfl hdg kk
theorem ar_Mo_steps : (wM cI cL ad mc mq mr)[12]? = some (ad 12, .inl (cL, 16, .inr (.inl (mq_steps mq)))) := rfl
theorem ld_Mo_steps (hx : p.tables.exec = Jvm.exec) (hb : c.code = cc) (hK : va_K D clX (tyX cI cL) s) (hP : va_P D clX (wM cI cL ad mc mq mr) H) {i : Int32} (hin : vp_in i 16) {v : Int64} (hv : v = mq_steps mq i.toNatClampNeg) (hdg : decode cc pc = .ok (.laload, 1)) (kk : W p l e R s m args below meth c H locs cells slots Q (F0 m (pc + 1) ls (.long v :: rest))) : W p l e R s m args below meth c H locs cells slots Q (F0 m (pc) ls (.int i :: .ref (ad 12) :: rest)) := by
  subst hv; exact va_lald hx hb hK hP 12 1 ar_Mo_steps rfl hin hdg kk
theorem st_Mo_steps (hx : p.tables.exec = Jvm.exec) (hb : c.code = cc) (hK : va_K D clX (tyX cI cL) s) (hP : va_P D clX (wM cI cL ad mc mq mr) H) (hD : va_D A (wM cI cL ad mc mq mr)) (hS : va_S A H0 H locs) {i : Int32} {x : Int64} (hin : vp_in i 16) (hdg : decode cc pc = .ok (.lastore, 1)) (kk : ∀ (H1 : Heap) (locs1 : List Loc), va_P D clX (wM cI cL ad mc (mq_steps_s mq (vp_updL (mq_steps mq) i.toNatClampNeg x)) mr) H1 → va_D A (wM cI cL ad mc (mq_steps_s mq (vp_updL (mq_steps mq) i.toNatClampNeg x)) mr) → va_S A H0 H1 locs1 → W p l e R s m args below meth c H1 locs1 cells slots Q (F0 m (pc + 1) ls (rest))) : W p l e R s m args below meth c H locs cells slots Q (F0 m (pc) ls (.long x :: .int i :: .ref (ad 12) :: rest)) :=
  va_last hx hb hK hP hD hS 12 1 ar_Mo_steps rfl hin hdg kk
theorem le_Mo_steps (hx : p.tables.exec = Jvm.exec) (hb : c.code = cc) (hK : va_K D clX (tyX cI cL) s) (hP : va_P D clX (wM cI cL ad mc mq mr) H) (hdg : decode cc pc = .ok (.arraylength, 1)) (kk : W p l e R s m args below meth c H locs cells slots Q (F0 m (pc + 1) ls (.int 16 :: rest))) : W p l e R s m args below meth c H locs cells slots Q (F0 m (pc) ls (.ref (ad 12) :: rest)) :=
  va_alen hx hb hK hP 12 1 ar_Mo_steps rfl rfl hdg kk
theorem ar_Mo_stack : (wM cI cL ad mc mq mr)[13]? = some (ad 13, .inl (cI, 2048, .inl (mr_stack mr))) := rfl
theorem ld_Mo_stack (hx : p.tables.exec = Jvm.exec) (hb : c.code = cc) (hK : va_K D clX (tyX cI cL) s) (hP : va_P D clX (wM cI cL ad mc mq mr) H) {i : Int32} (hin : vp_in i 2048) {v : Int32} (hv : v = mr_stack mr i.toNatClampNeg) (hdg : decode cc pc = .ok (.iaload, 1)) (kk : W p l e R s m args below meth c H locs cells slots Q (F0 m (pc + 1) ls (.int v :: rest))) : W p l e R s m args below meth c H locs cells slots Q (F0 m (pc) ls (.int i :: .ref (ad 13) :: rest)) := by
  subst hv; exact va_iald hx hb hK hP 13 0 ar_Mo_stack rfl hin hdg kk
theorem st_Mo_stack (hx : p.tables.exec = Jvm.exec) (hb : c.code = cc) (hK : va_K D clX (tyX cI cL) s) (hP : va_P D clX (wM cI cL ad mc mq mr) H) (hD : va_D A (wM cI cL ad mc mq mr)) (hS : va_S A H0 H locs) {i : Int32} {x : Int32} (hin : vp_in i 2048) (hdg : decode cc pc = .ok (.iastore, 1)) (kk : ∀ (H1 : Heap) (locs1 : List Loc), va_P D clX (wM cI cL ad mc mq (mr_stack_s mr (upd (mr_stack mr) i.toNatClampNeg x))) H1 → va_D A (wM cI cL ad mc mq (mr_stack_s mr (upd (mr_stack mr) i.toNatClampNeg x))) → va_S A H0 H1 locs1 → W p l e R s m args below meth c H1 locs1 cells slots Q (F0 m (pc + 1) ls (rest))) : W p l e R s m args below meth c H locs cells slots Q (F0 m (pc) ls (.int x :: .int i :: .ref (ad 13) :: rest)) :=
  va_iast hx hb hK hP hD hS 13 0 ar_Mo_stack rfl hin hdg kk
theorem le_Mo_stack (hx : p.tables.exec = Jvm.exec) (hb : c.code = cc) (hK : va_K D clX (tyX cI cL) s) (hP : va_P D clX (wM cI cL ad mc mq mr) H) (hdg : decode cc pc = .ok (.arraylength, 1)) (kk : W p l e R s m args below meth c H locs cells slots Q (F0 m (pc + 1) ls (.int 2048 :: rest))) : W p l e R s m args below meth c H locs cells slots Q (F0 m (pc) ls (.ref (ad 13) :: rest)) :=
  va_alen hx hb hK hP 13 0 ar_Mo_stack rfl rfl hdg kk
theorem ar_Mo_unitOf : (wM cI cL ad mc mq mr)[14]? = some (ad 14, .inl (cI, 20, .inl (mr_unitOf mr))) := rfl
theorem ld_Mo_unitOf (hx : p.tables.exec = Jvm.exec) (hb : c.code = cc) (hK : va_K D clX (tyX cI cL) s) (hP : va_P D clX (wM cI cL ad mc mq mr) H) {i : Int32} (hin : vp_in i 20) {v : Int32} (hv : v = mr_unitOf mr i.toNatClampNeg) (hdg : decode cc pc = .ok (.iaload, 1)) (kk : W p l e R s m args below meth c H locs cells slots Q (F0 m (pc + 1) ls (.int v :: rest))) : W p l e R s m args below meth c H locs cells slots Q (F0 m (pc) ls (.int i :: .ref (ad 14) :: rest)) := by
  subst hv; exact va_iald hx hb hK hP 14 0 ar_Mo_unitOf rfl hin hdg kk
theorem st_Mo_unitOf (hx : p.tables.exec = Jvm.exec) (hb : c.code = cc) (hK : va_K D clX (tyX cI cL) s) (hP : va_P D clX (wM cI cL ad mc mq mr) H) (hD : va_D A (wM cI cL ad mc mq mr)) (hS : va_S A H0 H locs) {i : Int32} {x : Int32} (hin : vp_in i 20) (hdg : decode cc pc = .ok (.iastore, 1)) (kk : ∀ (H1 : Heap) (locs1 : List Loc), va_P D clX (wM cI cL ad mc mq (mr_unitOf_s mr (upd (mr_unitOf mr) i.toNatClampNeg x))) H1 → va_D A (wM cI cL ad mc mq (mr_unitOf_s mr (upd (mr_unitOf mr) i.toNatClampNeg x))) → va_S A H0 H1 locs1 → W p l e R s m args below meth c H1 locs1 cells slots Q (F0 m (pc + 1) ls (rest))) : W p l e R s m args below meth c H locs cells slots Q (F0 m (pc) ls (.int x :: .int i :: .ref (ad 14) :: rest)) :=
  va_iast hx hb hK hP hD hS 14 0 ar_Mo_unitOf rfl hin hdg kk
theorem le_Mo_unitOf (hx : p.tables.exec = Jvm.exec) (hb : c.code = cc) (hK : va_K D clX (tyX cI cL) s) (hP : va_P D clX (wM cI cL ad mc mq mr) H) (hdg : decode cc pc = .ok (.arraylength, 1)) (kk : W p l e R s m args below meth c H locs cells slots Q (F0 m (pc + 1) ls (.int 20 :: rest))) : W p l e R s m args below meth c H locs cells slots Q (F0 m (pc) ls (.ref (ad 14) :: rest)) :=
  va_alen hx hb hK hP 14 0 ar_Mo_unitOf rfl rfl hdg kk
theorem ar_Mo_baseOf : (wM cI cL ad mc mq mr)[15]? = some (ad 15, .inl (cI, 20, .inl (mr_baseOf mr))) := rfl
theorem ld_Mo_baseOf (hx : p.tables.exec = Jvm.exec) (hb : c.code = cc) (hK : va_K D clX (tyX cI cL) s) (hP : va_P D clX (wM cI cL ad mc mq mr) H) {i : Int32} (hin : vp_in i 20) {v : Int32} (hv : v = mr_baseOf mr i.toNatClampNeg) (hdg : decode cc pc = .ok (.iaload, 1)) (kk : W p l e R s m args below meth c H locs cells slots Q (F0 m (pc + 1) ls (.int v :: rest))) : W p l e R s m args below meth c H locs cells slots Q (F0 m (pc) ls (.int i :: .ref (ad 15) :: rest)) := by
  subst hv; exact va_iald hx hb hK hP 15 0 ar_Mo_baseOf rfl hin hdg kk
theorem st_Mo_baseOf (hx : p.tables.exec = Jvm.exec) (hb : c.code = cc) (hK : va_K D clX (tyX cI cL) s) (hP : va_P D clX (wM cI cL ad mc mq mr) H) (hD : va_D A (wM cI cL ad mc mq mr)) (hS : va_S A H0 H locs) {i : Int32} {x : Int32} (hin : vp_in i 20) (hdg : decode cc pc = .ok (.iastore, 1)) (kk : ∀ (H1 : Heap) (locs1 : List Loc), va_P D clX (wM cI cL ad mc mq (mr_baseOf_s mr (upd (mr_baseOf mr) i.toNatClampNeg x))) H1 → va_D A (wM cI cL ad mc mq (mr_baseOf_s mr (upd (mr_baseOf mr) i.toNatClampNeg x))) → va_S A H0 H1 locs1 → W p l e R s m args below meth c H1 locs1 cells slots Q (F0 m (pc + 1) ls (rest))) : W p l e R s m args below meth c H locs cells slots Q (F0 m (pc) ls (.int x :: .int i :: .ref (ad 15) :: rest)) :=
  va_iast hx hb hK hP hD hS 15 0 ar_Mo_baseOf rfl hin hdg kk
theorem le_Mo_baseOf (hx : p.tables.exec = Jvm.exec) (hb : c.code = cc) (hK : va_K D clX (tyX cI cL) s) (hP : va_P D clX (wM cI cL ad mc mq mr) H) (hdg : decode cc pc = .ok (.arraylength, 1)) (kk : W p l e R s m args below meth c H locs cells slots Q (F0 m (pc + 1) ls (.int 20 :: rest))) : W p l e R s m args below meth c H locs cells slots Q (F0 m (pc) ls (.ref (ad 15) :: rest)) :=
  va_alen hx hb hK hP 15 0 ar_Mo_baseOf rfl rfl hdg kk
theorem ar_Mo_nextOf : (wM cI cL ad mc mq mr)[16]? = some (ad 16, .inl (cI, 20, .inl (mr_nextOf mr))) := rfl
theorem ld_Mo_nextOf (hx : p.tables.exec = Jvm.exec) (hb : c.code = cc) (hK : va_K D clX (tyX cI cL) s) (hP : va_P D clX (wM cI cL ad mc mq mr) H) {i : Int32} (hin : vp_in i 20) {v : Int32} (hv : v = mr_nextOf mr i.toNatClampNeg) (hdg : decode cc pc = .ok (.iaload, 1)) (kk : W p l e R s m args below meth c H locs cells slots Q (F0 m (pc + 1) ls (.int v :: rest))) : W p l e R s m args below meth c H locs cells slots Q (F0 m (pc) ls (.int i :: .ref (ad 16) :: rest)) := by
  subst hv; exact va_iald hx hb hK hP 16 0 ar_Mo_nextOf rfl hin hdg kk
theorem st_Mo_nextOf (hx : p.tables.exec = Jvm.exec) (hb : c.code = cc) (hK : va_K D clX (tyX cI cL) s) (hP : va_P D clX (wM cI cL ad mc mq mr) H) (hD : va_D A (wM cI cL ad mc mq mr)) (hS : va_S A H0 H locs) {i : Int32} {x : Int32} (hin : vp_in i 20) (hdg : decode cc pc = .ok (.iastore, 1)) (kk : ∀ (H1 : Heap) (locs1 : List Loc), va_P D clX (wM cI cL ad mc mq (mr_nextOf_s mr (upd (mr_nextOf mr) i.toNatClampNeg x))) H1 → va_D A (wM cI cL ad mc mq (mr_nextOf_s mr (upd (mr_nextOf mr) i.toNatClampNeg x))) → va_S A H0 H1 locs1 → W p l e R s m args below meth c H1 locs1 cells slots Q (F0 m (pc + 1) ls (rest))) : W p l e R s m args below meth c H locs cells slots Q (F0 m (pc) ls (.int x :: .int i :: .ref (ad 16) :: rest)) :=
  va_iast hx hb hK hP hD hS 16 0 ar_Mo_nextOf rfl hin hdg kk
theorem le_Mo_nextOf (hx : p.tables.exec = Jvm.exec) (hb : c.code = cc) (hK : va_K D clX (tyX cI cL) s) (hP : va_P D clX (wM cI cL ad mc mq mr) H) (hdg : decode cc pc = .ok (.arraylength, 1)) (kk : W p l e R s m args below meth c H locs cells slots Q (F0 m (pc + 1) ls (.int 20 :: rest))) : W p l e R s m args below meth c H locs cells slots Q (F0 m (pc) ls (.ref (ad 16) :: rest)) :=
  va_alen hx hb hK hP 16 0 ar_Mo_nextOf rfl rfl hdg kk
end WROWS
