def T_0 : u_T := fun k => match k with
  | 0 => ("java/util/AbstractList", "modCount", "I", false)
  | 1 => ("java/util/ArrayList", "elementData", "[Ljava/lang/Object;", false)
  | _ => ("java/util/ArrayList", "size", "I", false)
def ty_0 : Nat → FieldType := fun k => match k with
  | 0 => .int
  | 1 => .array (.object "java/lang/Object")
  | _ => .int
theorem nm_0 : ∀ a, a < 3 → ∀ b, b < 3 → a ≠ b → (T_0 a).2.1 ≠ (T_0 b).2.1 := by decide +kernel
theorem tyok_0 : ∀ k, k < 3 → parseFieldDescriptor (T_0 k).2.2.1 = some (ty_0 k) := by decide +kernel
def T_1 : u_T := fun k => match k with
  | 0 => ("WeaveCore$Agent", "name", "I", true)
  | 1 => ("WeaveCore$Agent", "slot", "I", true)
  | _ => ("WeaveCore$Agent", "history", "Ljava/util/ArrayList;", true)
def ty_1 : Nat → FieldType := fun k => match k with
  | 0 => .int
  | 1 => .int
  | _ => .object "java/util/ArrayList"
theorem nm_1 : ∀ a, a < 3 → ∀ b, b < 3 → a ≠ b → (T_1 a).2.1 ≠ (T_1 b).2.1 := by decide +kernel
theorem tyok_1 : ∀ k, k < 3 → parseFieldDescriptor (T_1 k).2.2.1 = some (ty_1 k) := by decide +kernel
def T_2 : u_T := fun k => match k with
  | 0 => ("WeaveCore$Event", "agent", "LWeaveCore$Agent;", true)
  | 1 => ("WeaveCore$Event", "number", "I", true)
  | 2 => ("WeaveCore$Event", "before", "[I", true)
  | 3 => ("WeaveCore$Event", "arrival", "I", false)
  | 4 => ("WeaveCore$Event", "lengthThen", "I", false)
  | _ => ("WeaveCore$Cut", "other", "LWeaveCore$Cut;", false)
def ty_2 : Nat → FieldType := fun k => match k with
  | 0 => .object "WeaveCore$Agent"
  | 1 => .int
  | 2 => .array .int
  | 3 => .int
  | 4 => .int
  | _ => .object "WeaveCore$Cut"
theorem nm_2 : ∀ a, a < 6 → ∀ b, b < 6 → a ≠ b → (T_2 a).2.1 ≠ (T_2 b).2.1 := by decide +kernel
theorem tyok_2 : ∀ k, k < 6 → parseFieldDescriptor (T_2 k).2.2.1 = some (ty_2 k) := by decide +kernel
def T_3 : u_T := fun k => match k with
  | 0 => ("WeaveCore$Event", "agent", "LWeaveCore$Agent;", true)
  | 1 => ("WeaveCore$Event", "number", "I", true)
  | 2 => ("WeaveCore$Event", "before", "[I", true)
  | 3 => ("WeaveCore$Event", "arrival", "I", false)
  | 4 => ("WeaveCore$Event", "lengthThen", "I", false)
  | 5 => ("WeaveCore$Node", "code", "I", true)
  | 6 => ("WeaveCore$Node", "lefts", "LWeaveCore$Node;", false)
  | 7 => ("WeaveCore$Node", "rights", "LWeaveCore$Node;", false)
  | 8 => ("WeaveCore$Node", "sibling", "LWeaveCore$Node;", false)
  | 9 => ("WeaveCore$Node", "previous", "LWeaveCore$Node;", false)
  | 10 => ("WeaveCore$Node", "next", "LWeaveCore$Node;", false)
  | 11 => ("WeaveCore$Node", "cuts", "LWeaveCore$Cut;", false)
  | _ => ("WeaveCore$Node", "firstCut", "I", false)
def ty_3 : Nat → FieldType := fun k => match k with
  | 0 => .object "WeaveCore$Agent"
  | 1 => .int
  | 2 => .array .int
  | 3 => .int
  | 4 => .int
  | 5 => .int
  | 6 => .object "WeaveCore$Node"
  | 7 => .object "WeaveCore$Node"
  | 8 => .object "WeaveCore$Node"
  | 9 => .object "WeaveCore$Node"
  | 10 => .object "WeaveCore$Node"
  | 11 => .object "WeaveCore$Cut"
  | _ => .int
theorem nm_3 : ∀ a, a < 13 → ∀ b, b < 13 → a ≠ b → (T_3 a).2.1 ≠ (T_3 b).2.1 := by decide +kernel
theorem tyok_3 : ∀ k, k < 13 → parseFieldDescriptor (T_3 k).2.2.1 = some (ty_3 k) := by decide +kernel
def T_4 : u_T := fun k => match k with
  | 0 => ("WeaveCore", "agents", "[LWeaveCore$Agent;", true)
  | 1 => ("WeaveCore", "arrived", "Ljava/util/ArrayList;", true)
  | 2 => ("WeaveCore", "root", "LWeaveCore$Node;", true)
  | 3 => ("WeaveCore", "list", "[LWeaveCore$Event;", true)
  | 4 => ("WeaveCore", "view", "[I", true)
  | 5 => ("WeaveCore", "agentCount", "I", false)
  | 6 => ("WeaveCore", "listCount", "I", false)
  | _ => ("WeaveCore", "textLength", "I", false)
def ty_4 : Nat → FieldType := fun k => match k with
  | 0 => .array (.object "WeaveCore$Agent")
  | 1 => .object "java/util/ArrayList"
  | 2 => .object "WeaveCore$Node"
  | 3 => .array (.object "WeaveCore$Event")
  | 4 => .array .int
  | 5 => .int
  | 6 => .int
  | _ => .int
theorem nm_4 : ∀ a, a < 8 → ∀ b, b < 8 → a ≠ b → (T_4 a).2.1 ≠ (T_4 b).2.1 := by decide +kernel
theorem tyok_4 : ∀ k, k < 8 → parseFieldDescriptor (T_4 k).2.2.1 = some (ty_4 k) := by decide +kernel
def T_5 : u_T := fun k => match k with
  | 0 => ("WeaveCoreModel$Graph", "events", "I", false)
  | 1 => ("WeaveCoreModel$Graph", "agents", "I", false)
  | 2 => ("WeaveCoreModel$Graph", "nodes", "I", false)
  | 3 => ("WeaveCoreModel$Graph", "agent", "[I", true)
  | 4 => ("WeaveCoreModel$Graph", "count", "[I", true)
  | 5 => ("WeaveCoreModel$Graph", "at", "[[I", true)
  | 6 => ("WeaveCoreModel$Graph", "slot", "[I", false)
  | 7 => ("WeaveCoreModel$Graph", "number", "[I", false)
  | 8 => ("WeaveCoreModel$Graph", "past", "[S", false)
  | 9 => ("WeaveCoreModel$Graph", "inserts", "[Z", false)
  | 10 => ("WeaveCoreModel$Graph", "index", "[I", false)
  | 11 => ("WeaveCoreModel$Graph", "character", "[I", false)
  | 12 => ("WeaveCoreModel$Graph", "parent", "[I", false)
  | 13 => ("WeaveCoreModel$Graph", "next", "[I", false)
  | 14 => ("WeaveCoreModel$Graph", "leftChild", "[I", false)
  | 15 => ("WeaveCoreModel$Graph", "rightChild", "[I", false)
  | 16 => ("WeaveCoreModel$Graph", "right", "[Z", false)
  | 17 => ("WeaveCoreModel$Graph", "rootChild", "I", false)
  | 18 => ("WeaveCoreModel$Graph", "target", "[I", false)
  | 19 => ("WeaveCoreModel$Graph", "nextDelete", "[I", false)
  | 20 => ("WeaveCoreModel$Graph", "firstDelete", "[I", false)
  | _ => ("WeaveCoreModel$Graph", "order", "[I", false)
def ty_5 : Nat → FieldType := fun k => match k with
  | 0 => .int
  | 1 => .int
  | 2 => .int
  | 3 => .array .int
  | 4 => .array .int
  | 5 => .array (.array .int)
  | 6 => .array .int
  | 7 => .array .int
  | 8 => .array .short
  | 9 => .array .boolean
  | 10 => .array .int
  | 11 => .array .int
  | 12 => .array .int
  | 13 => .array .int
  | 14 => .array .int
  | 15 => .array .int
  | 16 => .array .boolean
  | 17 => .int
  | 18 => .array .int
  | 19 => .array .int
  | 20 => .array .int
  | _ => .array .int
theorem nm_5 : ∀ a, a < 22 → ∀ b, b < 22 → a ≠ b → (T_5 a).2.1 ≠ (T_5 b).2.1 := by decide +kernel
theorem tyok_5 : ∀ k, k < 22 → parseFieldDescriptor (T_5 k).2.2.1 = some (ty_5 k) := by decide +kernel
def T_6 : u_T := fun k => match k with
  | 0 => ("WeaveCoreModel", "graph", "LWeaveCoreModel$Graph;", true)
  | 1 => ("WeaveCoreModel", "list", "[I", true)
  | 2 => ("WeaveCoreModel", "tops", "[I", true)
  | 3 => ("WeaveCoreModel", "listed", "I", false)
  | 4 => ("WeaveCoreModel", "set", "[S", true)
  | _ => ("WeaveCoreModel", "thrown", "I", false)
def ty_6 : Nat → FieldType := fun k => match k with
  | 0 => .object "WeaveCoreModel$Graph"
  | 1 => .array .int
  | 2 => .array .int
  | 3 => .int
  | 4 => .array .short
  | _ => .int
theorem nm_6 : ∀ a, a < 6 → ∀ b, b < 6 → a ≠ b → (T_6 a).2.1 ≠ (T_6 b).2.1 := by decide +kernel
theorem tyok_6 : ∀ k, k < 6 → parseFieldDescriptor (T_6 k).2.2.1 = some (ty_6 k) := by decide +kernel
/-- the kinds of objects: their place here is the number of the kind -/
abbrev hp_cl : List vw_C := [("java/util/ArrayList", T_0, 3), ("WeaveCore$Agent", T_1, 3), ("WeaveCore$Cut", T_2, 6), ("WeaveCore$Node", T_3, 13), ("WeaveCore", T_4, 8), ("WeaveCoreModel$Graph", T_5, 22), ("WeaveCoreModel", T_6, 6)]
def hp_no : Nat := 7
/-- a kind's fields in the order of its table: the field's number, is it a reference -/
def hp_fd : Nat → List (Nat × Bool) := fun k => match k with
  | 0 => [(1, false), (2, true), (3, false)]
  | 1 => [(4, false), (5, false), (6, true)]
  | 2 => [(7, true), (8, false), (9, true), (10, false), (11, false), (12, true)]
  | 3 => [(7, true), (8, false), (9, true), (10, false), (11, false), (13, false), (14, true), (15, true), (16, true), (17, true), (18, true), (19, true), (20, false)]
  | 4 => [(21, true), (22, true), (23, true), (24, true), (25, true), (26, false), (27, false), (28, false)]
  | 5 => [(29, false), (30, false), (31, false), (32, true), (33, true), (34, true), (35, true), (36, true), (37, true), (38, true), (39, true), (40, true), (41, true), (42, true), (43, true), (44, true), (45, true), (46, false), (47, true), (48, true), (49, true), (50, true)]
  | 6 => [(51, true), (52, true), (53, true), (54, false), (55, true), (56, false)]
  | _ => []
/-- a field: declaring name, name, descriptor, final -/
def hp_dc : Nat → String × String × String × Bool := fun f => match f with
  | 1 => ("java/util/AbstractList", "modCount", "I", false)
  | 2 => ("java/util/ArrayList", "elementData", "[Ljava/lang/Object;", false)
  | 3 => ("java/util/ArrayList", "size", "I", false)
  | 4 => ("WeaveCore$Agent", "name", "I", true)
  | 5 => ("WeaveCore$Agent", "slot", "I", true)
  | 6 => ("WeaveCore$Agent", "history", "Ljava/util/ArrayList;", true)
  | 7 => ("WeaveCore$Event", "agent", "LWeaveCore$Agent;", true)
  | 8 => ("WeaveCore$Event", "number", "I", true)
  | 9 => ("WeaveCore$Event", "before", "[I", true)
  | 10 => ("WeaveCore$Event", "arrival", "I", false)
  | 11 => ("WeaveCore$Event", "lengthThen", "I", false)
  | 12 => ("WeaveCore$Cut", "other", "LWeaveCore$Cut;", false)
  | 13 => ("WeaveCore$Node", "code", "I", true)
  | 14 => ("WeaveCore$Node", "lefts", "LWeaveCore$Node;", false)
  | 15 => ("WeaveCore$Node", "rights", "LWeaveCore$Node;", false)
  | 16 => ("WeaveCore$Node", "sibling", "LWeaveCore$Node;", false)
  | 17 => ("WeaveCore$Node", "previous", "LWeaveCore$Node;", false)
  | 18 => ("WeaveCore$Node", "next", "LWeaveCore$Node;", false)
  | 19 => ("WeaveCore$Node", "cuts", "LWeaveCore$Cut;", false)
  | 20 => ("WeaveCore$Node", "firstCut", "I", false)
  | 21 => ("WeaveCore", "agents", "[LWeaveCore$Agent;", true)
  | 22 => ("WeaveCore", "arrived", "Ljava/util/ArrayList;", true)
  | 23 => ("WeaveCore", "root", "LWeaveCore$Node;", true)
  | 24 => ("WeaveCore", "list", "[LWeaveCore$Event;", true)
  | 25 => ("WeaveCore", "view", "[I", true)
  | 26 => ("WeaveCore", "agentCount", "I", false)
  | 27 => ("WeaveCore", "listCount", "I", false)
  | 28 => ("WeaveCore", "textLength", "I", false)
  | 29 => ("WeaveCoreModel$Graph", "events", "I", false)
  | 30 => ("WeaveCoreModel$Graph", "agents", "I", false)
  | 31 => ("WeaveCoreModel$Graph", "nodes", "I", false)
  | 32 => ("WeaveCoreModel$Graph", "agent", "[I", true)
  | 33 => ("WeaveCoreModel$Graph", "count", "[I", true)
  | 34 => ("WeaveCoreModel$Graph", "at", "[[I", true)
  | 35 => ("WeaveCoreModel$Graph", "slot", "[I", false)
  | 36 => ("WeaveCoreModel$Graph", "number", "[I", false)
  | 37 => ("WeaveCoreModel$Graph", "past", "[S", false)
  | 38 => ("WeaveCoreModel$Graph", "inserts", "[Z", false)
  | 39 => ("WeaveCoreModel$Graph", "index", "[I", false)
  | 40 => ("WeaveCoreModel$Graph", "character", "[I", false)
  | 41 => ("WeaveCoreModel$Graph", "parent", "[I", false)
  | 42 => ("WeaveCoreModel$Graph", "next", "[I", false)
  | 43 => ("WeaveCoreModel$Graph", "leftChild", "[I", false)
  | 44 => ("WeaveCoreModel$Graph", "rightChild", "[I", false)
  | 45 => ("WeaveCoreModel$Graph", "right", "[Z", false)
  | 46 => ("WeaveCoreModel$Graph", "rootChild", "I", false)
  | 47 => ("WeaveCoreModel$Graph", "target", "[I", false)
  | 48 => ("WeaveCoreModel$Graph", "nextDelete", "[I", false)
  | 49 => ("WeaveCoreModel$Graph", "firstDelete", "[I", false)
  | 50 => ("WeaveCoreModel$Graph", "order", "[I", false)
  | 51 => ("WeaveCoreModel", "graph", "LWeaveCoreModel$Graph;", true)
  | 52 => ("WeaveCoreModel", "list", "[I", true)
  | 53 => ("WeaveCoreModel", "tops", "[I", true)
  | 54 => ("WeaveCoreModel", "listed", "I", false)
  | 55 => ("WeaveCoreModel", "set", "[S", true)
  | 56 => ("WeaveCoreModel", "thrown", "I", false)
  | _ => ("", "", "", false)
/-- the kinds of arrays: 100 and on -/
def hp_ty : List FieldType := [.int, .short, .boolean, .long, .object "WeaveCore$Agent", .object "WeaveCore$Event", .object "java/lang/Object", .array .int]
