/-! ===== the two programs' objects by ids; their fields' kinds; words ===== -/
def ocl : List Nat := [12, 11, 9, 8, 1, 0, 3, 1, 0, 5, 5, 10, 4, 5, 2, 6, 6, 6, 6, 6, 6, 7, 7, 7, 7, 7, 7, 8, 1, 0, 3, 8, 1, 0, 3, 8, 1, 0, 3, 8, 1, 0, 3]
/-- the class of an object -/
def oc (o : Nat) : Nat := ocl.getD o 99
def fKL : List (List Nat) := [[0, 0, 1, 1, 1, 1], [0, 0, 0, 0, 0, 0, 0, 1, 1, 1, 1, 1, 1, 1, 1], [7, 7, 0], [0, 0, 0, 0, 0, 1, 1, 1, 1, 1, 1, 1, 1, 1, 1, 1], [7, 1, 0, 0, 0], [1], [0, 1, 1, 1, 1, 1, 0, 4], [7, 7, 0, 0], [7, 7, 7], [1, 0, 0, 0, 0, 0, 0, 0], [1, 0, 0, 0, 0, 0], [7, 7, 5, 0, 7, 6, 7, 7, 7, 7, 8, 1, 1, 1, 1, 1, 1], [2, 0, 0, 1, 1, 1, 1, 0, 0, 0, 1, 1, 1, 1, 0, 0, 0, 0, 0, 0, 0, 1, 0, 4, 0, 4, 1, 1, 1, 3, 1, 1, 1, 1, 1, 1, 1, 1, 1, 0, 1, 1, 1, 1, 1, 1, 3]]
/-- a field's kind: 0 int, 1 int[], 2 byte[], 3 boolean[], 4 long[], 5 Rule[], 6 State[], 7 an object, 8 an object or null -/
def fK (c k : Nat) : Nat := (fKL.getD c []).getD k 0
def aLL : List (List Nat) := [[0, 0, 8, 8, 8, 8], [0, 0, 0, 0, 0, 0, 0, 16, 24, 24, 24, 24, 24, 24, 8], [0, 0, 0], [0, 0, 0, 0, 0, 10, 10, 10, 10, 12, 12, 12, 12, 20, 10, 10], [0, 20480, 0, 0, 0], [32], [0, 12, 12, 12, 12, 400, 0, 64], [0, 0, 0, 0], [0, 0, 0], [400, 0, 0, 0, 0, 0, 0, 0], [16, 0, 0, 0, 0, 0], [0, 0, 6, 0, 0, 4, 0, 0, 0, 0, 0, 16, 16, 16, 16, 20, 64], [400, 0, 0, 2400, 7, 288, 6, 0, 0, 0, 3, 16, 144, 8, 0, 0, 0, 0, 0, 0, 0, 400, 0, 64, 0, 8, 328, 328, 32, 32, 16, 16, 20480, 16, 1440, 1440, 1440, 1440, 1440, 0, 16, 20, 6, 6, 16, 1312, 4]]
def aL (c k : Nat) : Nat := (aLL.getD c []).getD k 0
def nf (c : Nat) : Nat := (fKL.getD c []).length
def lk (o k : Nat) : Nat := if oc o = 8 then o + 1 + k else if oc o = 7 then (if k = 0 then 2 else o - 6) else if oc o = 2 then (if k = 0 then 2 else 7) else if oc o = 4 then 13 else ([2, 7, 0, 0, 3, 0, 8, 9, 10, 11, 12] : List Nat).getD k 0
def el (k i : Nat) : Nat := if k = 2 then 15 + i else 27 + 4 * i
def isA (t : Nat) : Bool := decide (1 ≤ t) && decide (t ≤ 6)
def isNest : Cond → Bool
  | .methodLinkNest .. => true
  | _ => false
/-- the words that every method has, and the nest mates' -/
def gw : List Cond := lw_tbl.filter goodWord
def nw : List Cond := tables_1.filter isNest
/-- a method: name, code, locals, what it returns -/
abbrev MD : Type := MethodName × ByteArray × Nat × Option FieldType
theorem gw_of {w : Cond} {i : Nat} (h : lw_tbl[i]? = some w) (hg : goodWord w = true) : w ∈ gw := List.mem_filter.mpr ⟨List.mem_of_getElem? h, hg⟩
/-- a field's link: its class, its place -/
def Fl (own : String) (idx ci k : Nat) : Prop := ∃ (C : String) (T : u_T) (N : Nat), vwCl[ci]? = some (C, T, N) ∧ N = nf ci ∧ k < N ∧ (∀ w ∈ u_ws C T N, w ∈ gw) ∧ Cond.fieldLink own idx (T k).1 (T k).2.1 (T k).2.2.1 ∈ gw
def Fp (own : String) (idx ci k : Nat) : Prop := ∃ (C : String) (T : u_T) (N : Nat) (ty : Nat → FieldType), vwCl[ci]? = some (C, T, N) ∧ N = nf ci ∧ k < N ∧ (∀ w ∈ u_ws C T N, w ∈ gw) ∧ Cond.fieldLink own idx (T k).1 (T k).2.1 (T k).2.2.1 ∈ gw ∧ (∀ j, j < N → parseFieldDescriptor (T j).2.2.1 = some (ty j)) ∧ (∀ a, a < N → ∀ b, b < N → a ≠ b → (T a).2.1 ≠ (T b).2.1) ∧ (T k).2.2.2 = false ∧ parseFieldDescriptor (T k).2.2.1 = some .int
/-- what is said of a method that is called: instance methods, static ones -/
def Mi (md : MD) (ci na : Nat) : Prop := Cond.instanceMethod md.1 ∈ gw ∧ Cond.selects md.1.cls md.1 md.1 ∈ gw ∧ Cond.initialized md.1.cls ∈ gw ∧ Cond.code md.1 md.2.1 md.2.2.1 md.2.2.2 ∈ gw ∧ (md.1.cls ≠ "java/lang/invoke/MethodHandle" ∧ md.1.cls ≠ "java/lang/invoke/VarHandle") ∧ (parseMethodDescriptor md.1.desc).map (fun d => d.parameters.length) = some na ∧ md.2.2.1 ≤ 100 ∧ ∃ q : vw_C, vwCl[ci]? = some q ∧ q.1 = md.1.cls
def Ms (md : MD) (na : Nat) : Prop := Cond.static md.1 ∈ gw ∧ Cond.initialized md.1.cls ∈ gw ∧ Cond.code md.1 md.2.1 md.2.2.1 md.2.2.2 ∈ gw ∧ (md.1.cls ≠ "java/lang/invoke/MethodHandle" ∧ md.1.cls ≠ "java/lang/invoke/VarHandle") ∧ (parseMethodDescriptor md.1.desc).map (fun d => d.parameters.length) = some na ∧ md.2.2.1 ≤ 100
/-- the String constants: texts, lengths, bytes; which class names which, at which place -/
def strT : List String := ["room", "flight", "passage", "door", "hoist", "person", "if", "take", "ride", "wait", "or", "and", "not", "now", "height", "here", "rode", "home", "top"]
def strL : List Nat := [4, 6, 7, 4, 5, 6, 2, 4, 4, 4, 2, 3, 3, 3, 6, 4, 4, 4, 3]
def strB : List (List Int32) := [[114, 111, 111, 109], [102, 108, 105, 103, 104, 116], [112, 97, 115, 115, 97, 103, 101], [100, 111, 111, 114], [104, 111, 105, 115, 116], [112, 101, 114, 115, 111, 110], [105, 102], [116, 97, 107, 101], [114, 105, 100, 101], [119, 97, 105, 116], [111, 114], [97, 110, 100], [110, 111, 116], [110, 111, 119], [104, 101, 105, 103, 104, 116], [104, 101, 114, 101], [114, 111, 100, 101], [104, 111, 109, 101], [116, 111, 112]]
def strR : List (String × Nat × Nat) := [("DownOnly$HouseReader", 51, 0), ("DownOnly$HouseReader", 64, 1), ("DownOnly$HouseReader", 72, 2), ("DownOnly$HouseReader", 74, 3), ("DownOnly$HouseReader", 79, 4), ("DownOnly$HouseReader", 87, 5), ("DownOnly$RuleReader", 41, 6), ("DownOnly$RuleReader", 67, 7), ("DownOnly$RuleReader", 69, 8), ("DownOnly$RuleReader", 71, 9), ("DownOnly$RuleReader", 95, 11), ("DownOnly$RuleReader", 97, 10), ("DownOnly$RuleReader", 99, 12), ("DownOnly$RuleReader", 141, 13), ("DownOnly$RuleReader", 143, 5), ("DownOnly$RuleReader", 145, 0), ("DownOnly$RuleReader", 147, 14), ("DownOnly$RuleReader", 149, 15), ("DownOnly$RuleReader", 151, 16), ("DownOnly$RuleReader", 153, 17), ("DownOnly$RuleReader", 155, 18)]
