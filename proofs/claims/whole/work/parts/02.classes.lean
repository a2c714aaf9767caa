/-! classes by number: name, fields in the order of the slots, how many; the kinds of arrays -/
def kT0 : u_T := fun k => match k with
  | 0 => ("java/util/AbstractList", "modCount", "I", false)
  | 1 => ("java/util/ArrayList", "elementData", "[Ljava/lang/Object;", false)
  | _ => ("java/util/ArrayList", "size", "I", false)
def kt0 : Nat → FieldType := fun k => match k with
  | 0 => .int
  | 1 => .array (.object "java/lang/Object")
  | _ => .int
def kT1 : u_T := fun k => match k with
  | _ => ("TaskWeave$Clock", "now", "I", false)
def kt1 : Nat → FieldType := fun k => match k with
  | _ => .int
def kT2 : u_T := fun k => match k with
  | 0 => ("TaskWeave$History", "kinds", "[I", true)
  | 1 => ("TaskWeave$History", "as", "[I", true)
  | 2 => ("TaskWeave$History", "bs", "[I", true)
  | 3 => ("TaskWeave$History", "origins", "[I", true)
  | _ => ("TaskWeave$History", "size", "I", false)
def kt2 : Nat → FieldType := fun k => match k with
  | 0 => .array .int
  | 1 => .array .int
  | 2 => .array .int
  | 3 => .array .int
  | _ => .int
def kT3 : u_T := fun k => match k with
  | 0 => ("TaskWeave$Outbox", "places", "[I", false)
  | 1 => ("TaskWeave$Outbox", "rows", "[I", false)
  | 2 => ("TaskWeave$Outbox", "events", "[I", false)
  | _ => ("TaskWeave$Outbox", "size", "I", false)
def kt3 : Nat → FieldType := fun k => match k with
  | 0 => .array .int
  | 1 => .array .int
  | 2 => .array .int
  | _ => .int
def kT4 : u_T := fun k => match k with
  | 0 => ("TaskWeave$Parser", "text", "[C", true)
  | 1 => ("TaskWeave$Parser", "code", "[I", true)
  | 2 => ("TaskWeave$Parser", "labels", "[I", true)
  | 3 => ("TaskWeave$Parser", "length", "I", false)
  | 4 => ("TaskWeave$Parser", "at", "I", false)
  | _ => ("TaskWeave$Parser", "faultAt", "I", false)
def kt4 : Nat → FieldType := fun k => match k with
  | 0 => .array .char
  | 1 => .array .int
  | 2 => .array .int
  | 3 => .int
  | 4 => .int
  | _ => .int
def kT5 : u_T := fun k => match k with
  | 0 => ("TaskWeave$Program", "steps", "I", true)
  | _ => ("TaskWeave$Program", "code", "[I", true)
def kt5 : Nat → FieldType := fun k => match k with
  | 0 => .int
  | _ => .array .int
def kT6 : u_T := fun k => match k with
  | 0 => ("TaskWeave$Replica", "number", "I", true)
  | 1 => ("TaskWeave$Replica", "bytes", "[B", false)
  | 2 => ("TaskWeave$Replica", "size", "I", false)
  | 3 => ("TaskWeave$Replica", "up", "Z", false)
  | _ => ("TaskWeave$Replica", "fuseLeft", "I", false)
def kt6 : Nat → FieldType := fun k => match k with
  | 0 => .int
  | 1 => .array .byte
  | 2 => .int
  | 3 => .boolean
  | _ => .int
def kT7 : u_T := fun k => match k with
  | 0 => ("TaskWeave$Shard", "number", "I", true)
  | 1 => ("TaskWeave$Shard", "clock", "LTaskWeave$Clock;", true)
  | 2 => ("TaskWeave$Shard", "shelves", "[LTaskWeave$Shelf;", true)
  | 3 => ("TaskWeave$Shard", "disks", "[LTaskWeave$Replica;", true)
  | 4 => ("TaskWeave$Shard", "rows", "[LTaskWeave$Workflow;", true)
  | 5 => ("TaskWeave$Shard", "record", "[B", true)
  | 6 => ("TaskWeave$Shard", "outbox", "LTaskWeave$Outbox;", true)
  | 7 => ("TaskWeave$Shard", "size", "I", false)
  | 8 => ("TaskWeave$Shard", "leader", "I", false)
  | 9 => ("TaskWeave$Shard", "term", "I", false)
  | 10 => ("TaskWeave$Shard", "count", "I", false)
  | _ => ("TaskWeave$Shard", "recordsTried", "J", false)
def kt7 : Nat → FieldType := fun k => match k with
  | 0 => .int
  | 1 => .object "TaskWeave$Clock"
  | 2 => .array (.object "TaskWeave$Shelf")
  | 3 => .array (.object "TaskWeave$Replica")
  | 4 => .array (.object "TaskWeave$Workflow")
  | 5 => .array .byte
  | 6 => .object "TaskWeave$Outbox"
  | 7 => .int
  | 8 => .int
  | 9 => .int
  | 10 => .int
  | _ => .long
def kT8 : u_T := fun k => match k with
  | _ => ("TaskWeave$Shelf", "versions", "Ljava/util/ArrayList;", true)
def kt8 : Nat → FieldType := fun k => match k with
  | _ => .object "java/util/ArrayList"
def kT9 : u_T := fun k => match k with
  | 0 => ("TaskWeave$Task", "kind", "I", false)
  | 1 => ("TaskWeave$Task", "x", "I", false)
  | 2 => ("TaskWeave$Task", "tries", "I", false)
  | 3 => ("TaskWeave$Task", "since", "I", false)
  | 4 => ("TaskWeave$Task", "token", "I", false)
  | _ => ("TaskWeave$Task", "until", "I", false)
def kt9 : Nat → FieldType := fun k => match k with
  | 0 => .int
  | 1 => .int
  | 2 => .int
  | 3 => .int
  | 4 => .int
  | _ => .int
def kT10 : u_T := fun k => match k with
  | 0 => ("TaskWeave$Workflow", "id", "I", true)
  | 1 => ("TaskWeave$Workflow", "locals", "[I", true)
  | 2 => ("TaskWeave$Workflow", "history", "LTaskWeave$History;", true)
  | 3 => ("TaskWeave$Workflow", "task", "LTaskWeave$Task;", true)
  | 4 => ("TaskWeave$Workflow", "program", "LTaskWeave$Program;", false)
  | 5 => ("TaskWeave$Workflow", "step", "I", false)
  | 6 => ("TaskWeave$Workflow", "walked", "I", false)
  | 7 => ("TaskWeave$Workflow", "phase", "I", false)
  | 8 => ("TaskWeave$Workflow", "awaited", "I", false)
  | 9 => ("TaskWeave$Workflow", "taken", "I", false)
  | 10 => ("TaskWeave$Workflow", "children", "I", false)
  | 11 => ("TaskWeave$Workflow", "outcome", "I", false)
  | 12 => ("TaskWeave$Workflow", "wantA", "I", false)
  | _ => ("TaskWeave$Workflow", "wantB", "I", false)
def kt10 : Nat → FieldType := fun k => match k with
  | 0 => .int
  | 1 => .array .int
  | 2 => .object "TaskWeave$History"
  | 3 => .object "TaskWeave$Task"
  | 4 => .object "TaskWeave$Program"
  | 5 => .int
  | 6 => .int
  | 7 => .int
  | 8 => .int
  | 9 => .int
  | 10 => .int
  | 11 => .int
  | 12 => .int
  | _ => .int
def kT11 : u_T := fun k => match k with
  | 0 => ("TaskWeave", "parser", "LTaskWeave$Parser;", true)
  | 1 => ("TaskWeave", "clock", "LTaskWeave$Clock;", true)
  | 2 => ("TaskWeave", "shelves", "[LTaskWeave$Shelf;", true)
  | 3 => ("TaskWeave", "shards", "[LTaskWeave$Shard;", true)
  | _ => ("TaskWeave", "tokens", "I", false)
def kt11 : Nat → FieldType := fun k => match k with
  | 0 => .object "TaskWeave$Parser"
  | 1 => .object "TaskWeave$Clock"
  | 2 => .array (.object "TaskWeave$Shelf")
  | 3 => .array (.object "TaskWeave$Shard")
  | _ => .int
def kT12 : u_T := fun k => match k with
  | 0 => ("TaskWeaveModel", "thrown", "I", false)
  | 1 => ("TaskWeaveModel", "clock", "I", false)
  | 2 => ("TaskWeaveModel", "tokens", "I", false)
  | 3 => ("TaskWeaveModel", "tape", "[I", true)
  | 4 => ("TaskWeaveModel", "taped", "I", false)
  | 5 => ("TaskWeaveModel", "fault", "I", false)
  | 6 => ("TaskWeaveModel", "texts", "I", false)
  | 7 => ("TaskWeaveModel", "textOf", "[I", true)
  | 8 => ("TaskWeaveModel", "textTurn", "[I", true)
  | 9 => ("TaskWeaveModel", "textStart", "[I", true)
  | 10 => ("TaskWeaveModel", "textMany", "[I", true)
  | 11 => ("TaskWeaveModel", "latest", "[I", true)
  | 12 => ("TaskWeaveModel", "told", "[I", true)
  | 13 => ("TaskWeaveModel", "steps", "I", false)
  | 14 => ("TaskWeaveModel", "operation", "[I", true)
  | 15 => ("TaskWeaveModel", "into", "[I", true)
  | 16 => ("TaskWeaveModel", "isLocal", "[Z", true)
  | 17 => ("TaskWeaveModel", "first", "[I", true)
  | 18 => ("TaskWeaveModel", "isLocal2", "[Z", true)
  | 19 => ("TaskWeaveModel", "second", "[I", true)
  | 20 => ("TaskWeaveModel", "digit", "[I", true)
  | 21 => ("TaskWeaveModel", "digitAt", "[I", true)
  | 22 => ("TaskWeaveModel", "labels", "[I", true)
  | 23 => ("TaskWeaveModel", "at", "I", false)
  | 24 => ("TaskWeaveModel", "records", "I", false)
  | 25 => ("TaskWeaveModel", "recordHead", "[I", true)
  | 26 => ("TaskWeaveModel", "recordTerm", "[I", true)
  | 27 => ("TaskWeaveModel", "recordA", "[I", true)
  | 28 => ("TaskWeaveModel", "recordB", "[I", true)
  | 29 => ("TaskWeaveModel", "recordC", "[I", true)
  | 30 => ("TaskWeaveModel", "log", "[I", true)
  | 31 => ("TaskWeaveModel", "whole", "[I", true)
  | 32 => ("TaskWeaveModel", "tail", "[I", true)
  | 33 => ("TaskWeaveModel", "torn", "[I", true)
  | 34 => ("TaskWeaveModel", "up", "[Z", true)
  | 35 => ("TaskWeaveModel", "fuse", "[I", true)
  | 36 => ("TaskWeaveModel", "replicas", "[I", true)
  | 37 => ("TaskWeaveModel", "leader", "[I", true)
  | 38 => ("TaskWeaveModel", "term", "[I", true)
  | 39 => ("TaskWeaveModel", "many", "[I", true)
  | 40 => ("TaskWeaveModel", "eventRecord", "[I", true)
  | 41 => ("TaskWeaveModel", "eventMany", "[I", true)
  | 42 => ("TaskWeaveModel", "text", "[I", true)
  | 43 => ("TaskWeaveModel", "state", "[I", true)
  | 44 => ("TaskWeaveModel", "value", "[I", true)
  | 45 => ("TaskWeaveModel", "locals", "[I", true)
  | 46 => ("TaskWeaveModel", "children", "[I", true)
  | 47 => ("TaskWeaveModel", "left", "[I", true)
  | 48 => ("TaskWeaveModel", "wish", "[I", true)
  | 49 => ("TaskWeaveModel", "wishA", "[I", true)
  | 50 => ("TaskWeaveModel", "wishB", "[I", true)
  | 51 => ("TaskWeaveModel", "tick", "[I", true)
  | 52 => ("TaskWeaveModel", "task", "[I", true)
  | 53 => ("TaskWeaveModel", "since", "[I", true)
  | 54 => ("TaskWeaveModel", "until", "[I", true)
  | 55 => ("TaskWeaveModel", "token", "[I", true)
  | 56 => ("TaskWeaveModel", "tries", "[I", true)
  | 57 => ("TaskWeaveModel", "outMany", "[I", true)
  | 58 => ("TaskWeaveModel", "outPlace", "[I", true)
  | 59 => ("TaskWeaveModel", "outFlow", "[I", true)
  | 60 => ("TaskWeaveModel", "outEvent", "[I", true)
  | 61 => ("TaskWeaveModel", "turn", "[I", true)
  | 62 => ("TaskWeaveModel", "gone", "[Z", true)
  | 63 => ("TaskWeaveModel", "pc", "I", false)
  | 64 => ("TaskWeaveModel", "seen", "I", false)
  | 65 => ("TaskWeaveModel", "took", "I", false)
  | 66 => ("TaskWeaveModel", "born", "I", false)
  | _ => ("TaskWeaveModel", "went", "I", false)
def kt12 : Nat → FieldType := fun k => match k with
  | 0 => .int
  | 1 => .int
  | 2 => .int
  | 3 => .array .int
  | 4 => .int
  | 5 => .int
  | 6 => .int
  | 7 => .array .int
  | 8 => .array .int
  | 9 => .array .int
  | 10 => .array .int
  | 11 => .array .int
  | 12 => .array .int
  | 13 => .int
  | 14 => .array .int
  | 15 => .array .int
  | 16 => .array .boolean
  | 17 => .array .int
  | 18 => .array .boolean
  | 19 => .array .int
  | 20 => .array .int
  | 21 => .array .int
  | 22 => .array .int
  | 23 => .int
  | 24 => .int
  | 25 => .array .int
  | 26 => .array .int
  | 27 => .array .int
  | 28 => .array .int
  | 29 => .array .int
  | 30 => .array .int
  | 31 => .array .int
  | 32 => .array .int
  | 33 => .array .int
  | 34 => .array .boolean
  | 35 => .array .int
  | 36 => .array .int
  | 37 => .array .int
  | 38 => .array .int
  | 39 => .array .int
  | 40 => .array .int
  | 41 => .array .int
  | 42 => .array .int
  | 43 => .array .int
  | 44 => .array .int
  | 45 => .array .int
  | 46 => .array .int
  | 47 => .array .int
  | 48 => .array .int
  | 49 => .array .int
  | 50 => .array .int
  | 51 => .array .int
  | 52 => .array .int
  | 53 => .array .int
  | 54 => .array .int
  | 55 => .array .int
  | 56 => .array .int
  | 57 => .array .int
  | 58 => .array .int
  | 59 => .array .int
  | 60 => .array .int
  | 61 => .array .int
  | 62 => .array .boolean
  | 63 => .int
  | 64 => .int
  | 65 => .int
  | 66 => .int
  | _ => .int
def kR : Nat → String := fun i => match i with
  | 0 => "java/util/ArrayList"
  | 1 => "TaskWeave$Clock"
  | 2 => "TaskWeave$History"
  | 3 => "TaskWeave$Outbox"
  | 4 => "TaskWeave$Parser"
  | 5 => "TaskWeave$Program"
  | 6 => "TaskWeave$Replica"
  | 7 => "TaskWeave$Shard"
  | 8 => "TaskWeave$Shelf"
  | 9 => "TaskWeave$Task"
  | 10 => "TaskWeave$Workflow"
  | 11 => "TaskWeave"
  | 12 => "TaskWeaveModel"
  | _ => ""
def kT : Nat → u_T := fun i => match i with
  | 0 => kT0
  | 1 => kT1
  | 2 => kT2
  | 3 => kT3
  | 4 => kT4
  | 5 => kT5
  | 6 => kT6
  | 7 => kT7
  | 8 => kT8
  | 9 => kT9
  | 10 => kT10
  | 11 => kT11
  | 12 => kT12
  | _ => kT0
def kt : Nat → (Nat → FieldType) := fun i => match i with
  | 0 => kt0
  | 1 => kt1
  | 2 => kt2
  | 3 => kt3
  | 4 => kt4
  | 5 => kt5
  | 6 => kt6
  | 7 => kt7
  | 8 => kt8
  | 9 => kt9
  | 10 => kt10
  | 11 => kt11
  | 12 => kt12
  | _ => kt0
def kN : Nat → Nat := fun i => match i with
  | 0 => 3
  | 1 => 1
  | 2 => 5
  | 3 => 4
  | 4 => 6
  | 5 => 2
  | 6 => 5
  | 7 => 12
  | 8 => 1
  | 9 => 6
  | 10 => 14
  | 11 => 5
  | 12 => 68
  | _ => 0
def kA : Nat → FieldType := fun i => match i with
  | 20 => .byte
  | 21 => .char
  | 22 => .int
  | 23 => .boolean
  | 24 => .long
  | 25 => .object "TaskWeave$Replica"
  | 26 => .object "TaskWeave$Shard"
  | 27 => .object "TaskWeave$Shelf"
  | 28 => .object "TaskWeave$Workflow"
  | 29 => .object "java/lang/Object"
  | _ => .int
/-- 0: an int or a boolean, 1: a reference, 2: a long -/
def kF (t : FieldType) : Nat := match t with
  | .int => 0
  | .boolean => 0
  | .long => 2
  | _ => 1
/-- the kind of field f, 100 times its class and its place -/
def kf (f : Nat) : Nat := kF (kt (f / 100) (f % 100))
set_option maxRecDepth 100000 in
theorem k_nm0 : ∀ a, a < 3 → ∀ b, b < 3 → a ≠ b → (kT0 a).2.1 ≠ (kT0 b).2.1 := by decide +kernel
set_option maxRecDepth 100000 in
theorem k_ty0 : ∀ k, k < 3 → parseFieldDescriptor (kT0 k).2.2.1 = some (kt0 k) := by decide +kernel
set_option maxRecDepth 100000 in
theorem k_in0 : ∀ w ∈ u_ws "java/util/ArrayList" kT0 3, w ∈ lw_tbl := by decide +kernel
theorem k_is0 : Cond.instantiable "java/util/ArrayList" 3 ∈ lw_tbl := by decide +kernel
theorem k_it0 : Cond.initialized "java/util/ArrayList" ∈ lw_tbl := by decide +kernel
set_option maxRecDepth 100000 in
theorem k_nm1 : ∀ a, a < 1 → ∀ b, b < 1 → a ≠ b → (kT1 a).2.1 ≠ (kT1 b).2.1 := by decide +kernel
set_option maxRecDepth 100000 in
theorem k_ty1 : ∀ k, k < 1 → parseFieldDescriptor (kT1 k).2.2.1 = some (kt1 k) := by decide +kernel
set_option maxRecDepth 100000 in
theorem k_in1 : ∀ w ∈ u_ws "TaskWeave$Clock" kT1 1, w ∈ lw_tbl := by decide +kernel
theorem k_is1 : Cond.instantiable "TaskWeave$Clock" 1 ∈ lw_tbl := by decide +kernel
theorem k_it1 : Cond.initialized "TaskWeave$Clock" ∈ lw_tbl := by decide +kernel
set_option maxRecDepth 100000 in
theorem k_nm2 : ∀ a, a < 5 → ∀ b, b < 5 → a ≠ b → (kT2 a).2.1 ≠ (kT2 b).2.1 := by decide +kernel
set_option maxRecDepth 100000 in
theorem k_ty2 : ∀ k, k < 5 → parseFieldDescriptor (kT2 k).2.2.1 = some (kt2 k) := by decide +kernel
set_option maxRecDepth 100000 in
theorem k_in2 : ∀ w ∈ u_ws "TaskWeave$History" kT2 5, w ∈ lw_tbl := by decide +kernel
theorem k_is2 : Cond.instantiable "TaskWeave$History" 5 ∈ lw_tbl := by decide +kernel
theorem k_it2 : Cond.initialized "TaskWeave$History" ∈ lw_tbl := by decide +kernel
set_option maxRecDepth 100000 in
theorem k_nm3 : ∀ a, a < 4 → ∀ b, b < 4 → a ≠ b → (kT3 a).2.1 ≠ (kT3 b).2.1 := by decide +kernel
set_option maxRecDepth 100000 in
theorem k_ty3 : ∀ k, k < 4 → parseFieldDescriptor (kT3 k).2.2.1 = some (kt3 k) := by decide +kernel
set_option maxRecDepth 100000 in
theorem k_in3 : ∀ w ∈ u_ws "TaskWeave$Outbox" kT3 4, w ∈ lw_tbl := by decide +kernel
theorem k_is3 : Cond.instantiable "TaskWeave$Outbox" 4 ∈ lw_tbl := by decide +kernel
theorem k_it3 : Cond.initialized "TaskWeave$Outbox" ∈ lw_tbl := by decide +kernel
set_option maxRecDepth 100000 in
theorem k_nm4 : ∀ a, a < 6 → ∀ b, b < 6 → a ≠ b → (kT4 a).2.1 ≠ (kT4 b).2.1 := by decide +kernel
set_option maxRecDepth 100000 in
theorem k_ty4 : ∀ k, k < 6 → parseFieldDescriptor (kT4 k).2.2.1 = some (kt4 k) := by decide +kernel
set_option maxRecDepth 100000 in
theorem k_in4 : ∀ w ∈ u_ws "TaskWeave$Parser" kT4 6, w ∈ lw_tbl := by decide +kernel
theorem k_is4 : Cond.instantiable "TaskWeave$Parser" 6 ∈ lw_tbl := by decide +kernel
theorem k_it4 : Cond.initialized "TaskWeave$Parser" ∈ lw_tbl := by decide +kernel
set_option maxRecDepth 100000 in
theorem k_nm5 : ∀ a, a < 2 → ∀ b, b < 2 → a ≠ b → (kT5 a).2.1 ≠ (kT5 b).2.1 := by decide +kernel
set_option maxRecDepth 100000 in
theorem k_ty5 : ∀ k, k < 2 → parseFieldDescriptor (kT5 k).2.2.1 = some (kt5 k) := by decide +kernel
set_option maxRecDepth 100000 in
theorem k_in5 : ∀ w ∈ u_ws "TaskWeave$Program" kT5 2, w ∈ lw_tbl := by decide +kernel
theorem k_is5 : Cond.instantiable "TaskWeave$Program" 2 ∈ lw_tbl := by decide +kernel
theorem k_it5 : Cond.initialized "TaskWeave$Program" ∈ lw_tbl := by decide +kernel
set_option maxRecDepth 100000 in
theorem k_nm6 : ∀ a, a < 5 → ∀ b, b < 5 → a ≠ b → (kT6 a).2.1 ≠ (kT6 b).2.1 := by decide +kernel
set_option maxRecDepth 100000 in
theorem k_ty6 : ∀ k, k < 5 → parseFieldDescriptor (kT6 k).2.2.1 = some (kt6 k) := by decide +kernel
set_option maxRecDepth 100000 in
theorem k_in6 : ∀ w ∈ u_ws "TaskWeave$Replica" kT6 5, w ∈ lw_tbl := by decide +kernel
theorem k_is6 : Cond.instantiable "TaskWeave$Replica" 5 ∈ lw_tbl := by decide +kernel
theorem k_it6 : Cond.initialized "TaskWeave$Replica" ∈ lw_tbl := by decide +kernel
set_option maxRecDepth 100000 in
theorem k_nm7 : ∀ a, a < 12 → ∀ b, b < 12 → a ≠ b → (kT7 a).2.1 ≠ (kT7 b).2.1 := by decide +kernel
set_option maxRecDepth 100000 in
theorem k_ty7 : ∀ k, k < 12 → parseFieldDescriptor (kT7 k).2.2.1 = some (kt7 k) := by decide +kernel
set_option maxRecDepth 100000 in
theorem k_in7 : ∀ w ∈ u_ws "TaskWeave$Shard" kT7 12, w ∈ lw_tbl := by decide +kernel
theorem k_is7 : Cond.instantiable "TaskWeave$Shard" 12 ∈ lw_tbl := by decide +kernel
theorem k_it7 : Cond.initialized "TaskWeave$Shard" ∈ lw_tbl := by decide +kernel
set_option maxRecDepth 100000 in
theorem k_nm8 : ∀ a, a < 1 → ∀ b, b < 1 → a ≠ b → (kT8 a).2.1 ≠ (kT8 b).2.1 := by decide +kernel
set_option maxRecDepth 100000 in
theorem k_ty8 : ∀ k, k < 1 → parseFieldDescriptor (kT8 k).2.2.1 = some (kt8 k) := by decide +kernel
set_option maxRecDepth 100000 in
theorem k_in8 : ∀ w ∈ u_ws "TaskWeave$Shelf" kT8 1, w ∈ lw_tbl := by decide +kernel
theorem k_is8 : Cond.instantiable "TaskWeave$Shelf" 1 ∈ lw_tbl := by decide +kernel
theorem k_it8 : Cond.initialized "TaskWeave$Shelf" ∈ lw_tbl := by decide +kernel
set_option maxRecDepth 100000 in
theorem k_nm9 : ∀ a, a < 6 → ∀ b, b < 6 → a ≠ b → (kT9 a).2.1 ≠ (kT9 b).2.1 := by decide +kernel
set_option maxRecDepth 100000 in
theorem k_ty9 : ∀ k, k < 6 → parseFieldDescriptor (kT9 k).2.2.1 = some (kt9 k) := by decide +kernel
set_option maxRecDepth 100000 in
theorem k_in9 : ∀ w ∈ u_ws "TaskWeave$Task" kT9 6, w ∈ lw_tbl := by decide +kernel
theorem k_is9 : Cond.instantiable "TaskWeave$Task" 6 ∈ lw_tbl := by decide +kernel
theorem k_it9 : Cond.initialized "TaskWeave$Task" ∈ lw_tbl := by decide +kernel
set_option maxRecDepth 100000 in
theorem k_nm10 : ∀ a, a < 14 → ∀ b, b < 14 → a ≠ b → (kT10 a).2.1 ≠ (kT10 b).2.1 := by decide +kernel
set_option maxRecDepth 100000 in
theorem k_ty10 : ∀ k, k < 14 → parseFieldDescriptor (kT10 k).2.2.1 = some (kt10 k) := by decide +kernel
set_option maxRecDepth 100000 in
theorem k_in10 : ∀ w ∈ u_ws "TaskWeave$Workflow" kT10 14, w ∈ lw_tbl := by decide +kernel
theorem k_is10 : Cond.instantiable "TaskWeave$Workflow" 14 ∈ lw_tbl := by decide +kernel
theorem k_it10 : Cond.initialized "TaskWeave$Workflow" ∈ lw_tbl := by decide +kernel
set_option maxRecDepth 100000 in
theorem k_nm11 : ∀ a, a < 5 → ∀ b, b < 5 → a ≠ b → (kT11 a).2.1 ≠ (kT11 b).2.1 := by decide +kernel
set_option maxRecDepth 100000 in
theorem k_ty11 : ∀ k, k < 5 → parseFieldDescriptor (kT11 k).2.2.1 = some (kt11 k) := by decide +kernel
set_option maxRecDepth 100000 in
theorem k_in11 : ∀ w ∈ u_ws "TaskWeave" kT11 5, w ∈ lw_tbl := by decide +kernel
theorem k_is11 : Cond.instantiable "TaskWeave" 5 ∈ lw_tbl := by decide +kernel
theorem k_it11 : Cond.initialized "TaskWeave" ∈ lw_tbl := by decide +kernel
set_option maxRecDepth 100000 in
theorem k_nm12 : ∀ a, a < 68 → ∀ b, b < 68 → a ≠ b → (kT12 a).2.1 ≠ (kT12 b).2.1 := by decide +kernel
set_option maxRecDepth 100000 in
theorem k_ty12 : ∀ k, k < 68 → parseFieldDescriptor (kT12 k).2.2.1 = some (kt12 k) := by decide +kernel
set_option maxRecDepth 100000 in
theorem k_in12 : ∀ w ∈ u_ws "TaskWeaveModel" kT12 68, w ∈ lw_tbl := by decide +kernel
theorem k_is12 : Cond.instantiable "TaskWeaveModel" 68 ∈ lw_tbl := by decide +kernel
theorem k_it12 : Cond.initialized "TaskWeaveModel" ∈ lw_tbl := by decide +kernel
theorem k_nm : ∀ i, i < 13 → (∀ a, a < kN i → ∀ b, b < kN i → a ≠ b → (kT i a).2.1 ≠ (kT i b).2.1) := by
  intro i hi
  match i, hi with
  | 0, _ => exact k_nm0
  | 1, _ => exact k_nm1
  | 2, _ => exact k_nm2
  | 3, _ => exact k_nm3
  | 4, _ => exact k_nm4
  | 5, _ => exact k_nm5
  | 6, _ => exact k_nm6
  | 7, _ => exact k_nm7
  | 8, _ => exact k_nm8
  | 9, _ => exact k_nm9
  | 10, _ => exact k_nm10
  | 11, _ => exact k_nm11
  | 12, _ => exact k_nm12
  | k + 13, h => omega
theorem k_ty : ∀ i, i < 13 → (∀ k, k < kN i → parseFieldDescriptor (kT i k).2.2.1 = some (kt i k)) := by
  intro i hi
  match i, hi with
  | 0, _ => exact k_ty0
  | 1, _ => exact k_ty1
  | 2, _ => exact k_ty2
  | 3, _ => exact k_ty3
  | 4, _ => exact k_ty4
  | 5, _ => exact k_ty5
  | 6, _ => exact k_ty6
  | 7, _ => exact k_ty7
  | 8, _ => exact k_ty8
  | 9, _ => exact k_ty9
  | 10, _ => exact k_ty10
  | 11, _ => exact k_ty11
  | 12, _ => exact k_ty12
  | k + 13, h => omega
theorem k_in : ∀ i, i < 13 → (∀ w ∈ u_ws (kR i) (kT i) (kN i), w ∈ lw_tbl) := by
  intro i hi
  match i, hi with
  | 0, _ => exact k_in0
  | 1, _ => exact k_in1
  | 2, _ => exact k_in2
  | 3, _ => exact k_in3
  | 4, _ => exact k_in4
  | 5, _ => exact k_in5
  | 6, _ => exact k_in6
  | 7, _ => exact k_in7
  | 8, _ => exact k_in8
  | 9, _ => exact k_in9
  | 10, _ => exact k_in10
  | 11, _ => exact k_in11
  | 12, _ => exact k_in12
  | k + 13, h => omega
theorem k_is : ∀ i, i < 13 → Cond.instantiable (kR i) (kN i) ∈ lw_tbl := by
  intro i hi
  match i, hi with
  | 0, _ => exact k_is0
  | 1, _ => exact k_is1
  | 2, _ => exact k_is2
  | 3, _ => exact k_is3
  | 4, _ => exact k_is4
  | 5, _ => exact k_is5
  | 6, _ => exact k_is6
  | 7, _ => exact k_is7
  | 8, _ => exact k_is8
  | 9, _ => exact k_is9
  | 10, _ => exact k_is10
  | 11, _ => exact k_is11
  | 12, _ => exact k_is12
  | k + 13, h => omega
theorem k_it : ∀ i, i < 13 → Cond.initialized (kR i) ∈ lw_tbl := by
  intro i hi
  match i, hi with
  | 0, _ => exact k_it0
  | 1, _ => exact k_it1
  | 2, _ => exact k_it2
  | 3, _ => exact k_it3
  | 4, _ => exact k_it4
  | 5, _ => exact k_it5
  | 6, _ => exact k_it6
  | 7, _ => exact k_it7
  | 8, _ => exact k_it8
  | 9, _ => exact k_it9
  | 10, _ => exact k_it10
  | 11, _ => exact k_it11
  | 12, _ => exact k_it12
  | k + 13, h => omega
