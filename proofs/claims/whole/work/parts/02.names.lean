def R_A : String := "OmegaDesk$Automaton"
def F_A : u_T := fun k => match k with
  | 0 => ("OmegaDesk$Automaton", "size", "I", false)
  | 1 => ("OmegaDesk$Automaton", "goodStates", "I", false)
  | _ => ("OmegaDesk$Automaton", "followers", "[I", true)
def tf_A : Nat → FieldType := fun k => match k with
  | 0 => .int
  | 1 => .int
  | _ => .array .int
def R_D : String := "OmegaDesk"
def F_D : u_T := fun k => match k with
  | 0 => ("OmegaDesk", "automata", "[LOmegaDesk$Automaton;", true)
  | 1 => ("OmegaDesk", "spare", "LOmegaDesk$Automaton;", true)
  | 2 => ("OmegaDesk", "refuter", "LOmegaDesk$Refuter;", true)
  | _ => ("OmegaDesk", "finder", "LOmegaDesk$LassoFinder;", true)
def tf_D : Nat → FieldType := fun k => match k with
  | 0 => .array (.object "OmegaDesk$Automaton")
  | 1 => .object "OmegaDesk$Automaton"
  | 2 => .object "OmegaDesk$Refuter"
  | _ => .object "OmegaDesk$LassoFinder"
def R_R : String := "OmegaDesk$Refuter"
def F_R : u_T := fun k => match k with
  | 0 => ("OmegaDesk$Refuter", "keys", "[I", true)
  | 1 => ("OmegaDesk$Refuter", "seenWays", "[I", true)
  | 2 => ("OmegaDesk$Refuter", "freshWays", "[I", true)
  | 3 => ("OmegaDesk$Refuter", "queue", "[I", true)
  | 4 => ("OmegaDesk$Refuter", "queueStart", "I", false)
  | 5 => ("OmegaDesk$Refuter", "queued", "I", false)
  | _ => ("OmegaDesk$Refuter", "meetings", "[I", true)
def tf_R : Nat → FieldType := fun k => match k with
  | 0 => .array .int
  | 1 => .array .int
  | 2 => .array .int
  | 3 => .array .int
  | 4 => .int
  | 5 => .int
  | _ => .array .int
def R_F : String := "OmegaDesk$LassoFinder"
def F_F : u_T := fun k => match k with
  | 0 => ("OmegaDesk$LassoFinder", "innerWords", "LOmegaDesk$WordTable;", true)
  | 1 => ("OmegaDesk$LassoFinder", "outerWords", "LOmegaDesk$WordTable;", true)
  | 2 => ("OmegaDesk$LassoFinder", "found", "Z", false)
  | 3 => ("OmegaDesk$LassoFinder", "headLength", "I", false)
  | 4 => ("OmegaDesk$LassoFinder", "head", "I", false)
  | 5 => ("OmegaDesk$LassoFinder", "tailLength", "I", false)
  | _ => ("OmegaDesk$LassoFinder", "tail", "I", false)
def tf_F : Nat → FieldType := fun k => match k with
  | 0 => .object "OmegaDesk$WordTable"
  | 1 => .object "OmegaDesk$WordTable"
  | 2 => .boolean
  | 3 => .int
  | 4 => .int
  | 5 => .int
  | _ => .int
def R_T : String := "OmegaDesk$WordTable"
def F_T : u_T := fun k => match k with
  | 0 => ("OmegaDesk$WordTable", "passages", "[I", true)
  | _ => ("OmegaDesk$WordTable", "takenRepeated", "[I", true)
def tf_T : Nat → FieldType := fun k => match k with
  | 0 => .array .int
  | _ => .array .int
def R_M : String := "OmegaDeskModel"
def F_M : u_T := fun k => match k with
  | 0 => ("OmegaDeskModel", "thrown", "I", false)
  | 1 => ("OmegaDeskModel", "to", "[I", true)
  | 2 => ("OmegaDeskModel", "good", "[I", true)
  | 3 => ("OmegaDeskModel", "size", "[I", true)
  | 4 => ("OmegaDeskModel", "found", "Z", false)
  | 5 => ("OmegaDeskModel", "witness", "[I", true)
  | 6 => ("OmegaDeskModel", "seen", "[J", true)
  | 7 => ("OmegaDeskModel", "fresh", "[J", true)
  | 8 => ("OmegaDeskModel", "coming", "[J", true)
  | 9 => ("OmegaDeskModel", "digit", "[I", true)
  | 10 => ("OmegaDeskModel", "after", "[I", true)
  | _ => ("OmegaDeskModel", "beginnings", "[I", true)
def tf_M : Nat → FieldType := fun k => match k with
  | 0 => .int
  | 1 => .array .int
  | 2 => .array .int
  | 3 => .array .int
  | 4 => .boolean
  | 5 => .array .int
  | 6 => .array .long
  | 7 => .array .long
  | 8 => .array .long
  | 9 => .array .int
  | 10 => .array .int
  | _ => .array .int
abbrev classes : List vw_C := [(R_A, F_A, 3), (R_D, F_D, 4), (R_R, F_R, 7), (R_F, F_F, 7), (R_T, F_T, 2), (R_M, F_M, 12)]
theorem nf_A : ∀ a, a < 3 → ∀ b, b < 3 → a ≠ b → (F_A a).2.1 ≠ (F_A b).2.1 := by decide +kernel
theorem tf_A_ok : ∀ k, k < 3 → parseFieldDescriptor (F_A k).2.2.1 = some (tf_A k) := by decide +kernel
theorem nf_D : ∀ a, a < 4 → ∀ b, b < 4 → a ≠ b → (F_D a).2.1 ≠ (F_D b).2.1 := by decide +kernel
theorem tf_D_ok : ∀ k, k < 4 → parseFieldDescriptor (F_D k).2.2.1 = some (tf_D k) := by decide +kernel
theorem nf_R : ∀ a, a < 7 → ∀ b, b < 7 → a ≠ b → (F_R a).2.1 ≠ (F_R b).2.1 := by decide +kernel
theorem tf_R_ok : ∀ k, k < 7 → parseFieldDescriptor (F_R k).2.2.1 = some (tf_R k) := by decide +kernel
theorem nf_F : ∀ a, a < 7 → ∀ b, b < 7 → a ≠ b → (F_F a).2.1 ≠ (F_F b).2.1 := by decide +kernel
theorem tf_F_ok : ∀ k, k < 7 → parseFieldDescriptor (F_F k).2.2.1 = some (tf_F k) := by decide +kernel
theorem nf_T : ∀ a, a < 2 → ∀ b, b < 2 → a ≠ b → (F_T a).2.1 ≠ (F_T b).2.1 := by decide +kernel
theorem tf_T_ok : ∀ k, k < 2 → parseFieldDescriptor (F_T k).2.2.1 = some (tf_T k) := by decide +kernel
theorem nf_M : ∀ a, a < 12 → ∀ b, b < 12 → a ≠ b → (F_M a).2.1 ≠ (F_M b).2.1 := by decide +kernel
theorem tf_M_ok : ∀ k, k < 12 → parseFieldDescriptor (F_M k).2.2.1 = some (tf_M k) := by decide +kernel
def WB : List Cond := lw_tbl.filter goodWord
def NW : List Cond := [(Jvm.Cond.methodLinkNest "OmegaDesk" (15 : Nat) ({ cls := "OmegaDesk$Automaton", name := "<init>", desc := "()V" } : Jvm.MethodName) "OmegaDesk"), (Jvm.Cond.fieldLinkNest "OmegaDesk" (38 : Nat) "OmegaDesk$Automaton" "size" "I" "OmegaDesk"), (Jvm.Cond.fieldLinkNest "OmegaDesk$WordTable" (18 : Nat) "OmegaDesk$Automaton" "size" "I" "OmegaDesk"), (Jvm.Cond.fieldLinkNest "OmegaDesk$Refuter" (75 : Nat) "OmegaDesk$Automaton" "size" "I" "OmegaDesk"), (Jvm.Cond.fieldLinkNest "OmegaDesk$Refuter" (40 : Nat) "OmegaDesk$Automaton" "goodStates" "I" "OmegaDesk"), (Jvm.Cond.methodLinkNest "OmegaDesk" (22 : Nat) ({ cls := "OmegaDesk$Refuter", name := "<init>", desc := "()V" } : Jvm.MethodName) "OmegaDesk"), (Jvm.Cond.methodLinkNest "OmegaDesk" (29 : Nat) ({ cls := "OmegaDesk$LassoFinder", name := "<init>", desc := "()V" } : Jvm.MethodName) "OmegaDesk"), (Jvm.Cond.methodLinkNest "OmegaDesk$LassoFinder" (11 : Nat) ({ cls := "OmegaDesk$WordTable", name := "<init>", desc := "()V" } : Jvm.MethodName) "OmegaDesk"), (Jvm.Cond.fieldLinkNest "OmegaDesk" (126 : Nat) "OmegaDesk$LassoFinder" "found" "Z" "OmegaDesk"), (Jvm.Cond.fieldLinkNest "OmegaDesk" (135 : Nat) "OmegaDesk$LassoFinder" "headLength" "I" "OmegaDesk"), (Jvm.Cond.fieldLinkNest "OmegaDesk" (138 : Nat) "OmegaDesk$LassoFinder" "head" "I" "OmegaDesk"), (Jvm.Cond.fieldLinkNest "OmegaDesk" (141 : Nat) "OmegaDesk$LassoFinder" "tailLength" "I" "OmegaDesk"), (Jvm.Cond.fieldLinkNest "OmegaDesk" (144 : Nat) "OmegaDesk$LassoFinder" "tail" "I" "OmegaDesk"), (Jvm.Cond.castable "java/lang/IllegalArgumentException" "java/lang/IllegalArgumentException"), (Jvm.Cond.castable "java/lang/IllegalStateException" "java/lang/IllegalStateException"), (Jvm.Cond.castable "java/util/NoSuchElementException" "java/util/NoSuchElementException"), (Jvm.Cond.declares ({ cls := "java/lang/RuntimeException", name := "<init>", desc := "()V" } : Jvm.MethodName)), (Jvm.Cond.declares ({ cls := "java/lang/RuntimeException", name := "<init>", desc := "(Ljava/lang/String;)V" } : Jvm.MethodName)), (Jvm.Cond.declares ({ cls := "java/lang/Exception", name := "<init>", desc := "()V" } : Jvm.MethodName)), (Jvm.Cond.declares ({ cls := "java/lang/Exception", name := "<init>", desc := "(Ljava/lang/String;)V" } : Jvm.MethodName)), (Jvm.Cond.declares ({ cls := "java/lang/Throwable", name := "<init>", desc := "()V" } : Jvm.MethodName)), (Jvm.Cond.declares ({ cls := "java/lang/Throwable", name := "<init>", desc := "(Ljava/lang/String;)V" } : Jvm.MethodName))]
def STR : List (String × Nat × String) := [("OmegaDesk", 156, "no such automaton"), ("OmegaDesk", 44, "the automaton has 4 states"), ("OmegaDesk", 151, "no such state"), ("OmegaDesk", 158, "no such letter"), ("OmegaDesk", 70, "two of the automata are the same one"), ("OmegaDesk", 73, "the union would have more than 4 states"), ("OmegaDesk", 90, "a word of the lasso is too short or too long"), ("OmegaDesk", 96, "a number has more bits than its word has letters"), ("OmegaDesk", 111, "the second automaton has 4 states"), ("OmegaDesk", 124, "a witness is asked for with 0 to 3"), ("OmegaDesk", 132, "there is no witness to tell")]
theorem nw_28 : (Jvm.Cond.methodLinkNest "OmegaDesk" (15 : Nat) ({ cls := "OmegaDesk$Automaton", name := "<init>", desc := "()V" } : Jvm.MethodName) "OmegaDesk") ∈ NW := List.mem_of_getElem? (i := 0) rfl
theorem nw_33 : (Jvm.Cond.fieldLinkNest "OmegaDesk" (38 : Nat) "OmegaDesk$Automaton" "size" "I" "OmegaDesk") ∈ NW := List.mem_of_getElem? (i := 1) rfl
theorem nw_34 : (Jvm.Cond.fieldLinkNest "OmegaDesk$WordTable" (18 : Nat) "OmegaDesk$Automaton" "size" "I" "OmegaDesk") ∈ NW := List.mem_of_getElem? (i := 2) rfl
theorem nw_35 : (Jvm.Cond.fieldLinkNest "OmegaDesk$Refuter" (75 : Nat) "OmegaDesk$Automaton" "size" "I" "OmegaDesk") ∈ NW := List.mem_of_getElem? (i := 3) rfl
theorem nw_37 : (Jvm.Cond.fieldLinkNest "OmegaDesk$Refuter" (40 : Nat) "OmegaDesk$Automaton" "goodStates" "I" "OmegaDesk") ∈ NW := List.mem_of_getElem? (i := 4) rfl
theorem nw_49 : (Jvm.Cond.methodLinkNest "OmegaDesk" (22 : Nat) ({ cls := "OmegaDesk$Refuter", name := "<init>", desc := "()V" } : Jvm.MethodName) "OmegaDesk") ∈ NW := List.mem_of_getElem? (i := 5) rfl
theorem nw_77 : (Jvm.Cond.methodLinkNest "OmegaDesk" (29 : Nat) ({ cls := "OmegaDesk$LassoFinder", name := "<init>", desc := "()V" } : Jvm.MethodName) "OmegaDesk") ∈ NW := List.mem_of_getElem? (i := 6) rfl
theorem nw_83 : (Jvm.Cond.methodLinkNest "OmegaDesk$LassoFinder" (11 : Nat) ({ cls := "OmegaDesk$WordTable", name := "<init>", desc := "()V" } : Jvm.MethodName) "OmegaDesk") ∈ NW := List.mem_of_getElem? (i := 7) rfl
theorem nw_97 : (Jvm.Cond.fieldLinkNest "OmegaDesk" (126 : Nat) "OmegaDesk$LassoFinder" "found" "Z" "OmegaDesk") ∈ NW := List.mem_of_getElem? (i := 8) rfl
theorem nw_99 : (Jvm.Cond.fieldLinkNest "OmegaDesk" (135 : Nat) "OmegaDesk$LassoFinder" "headLength" "I" "OmegaDesk") ∈ NW := List.mem_of_getElem? (i := 9) rfl
theorem nw_101 : (Jvm.Cond.fieldLinkNest "OmegaDesk" (138 : Nat) "OmegaDesk$LassoFinder" "head" "I" "OmegaDesk") ∈ NW := List.mem_of_getElem? (i := 10) rfl
theorem nw_103 : (Jvm.Cond.fieldLinkNest "OmegaDesk" (141 : Nat) "OmegaDesk$LassoFinder" "tailLength" "I" "OmegaDesk") ∈ NW := List.mem_of_getElem? (i := 11) rfl
theorem nw_105 : (Jvm.Cond.fieldLinkNest "OmegaDesk" (144 : Nat) "OmegaDesk$LassoFinder" "tail" "I" "OmegaDesk") ∈ NW := List.mem_of_getElem? (i := 12) rfl
theorem nw_149 : (Jvm.Cond.castable "java/lang/IllegalArgumentException" "java/lang/IllegalArgumentException") ∈ NW := List.mem_of_getElem? (i := 13) rfl
theorem nw_217 : (Jvm.Cond.castable "java/lang/IllegalStateException" "java/lang/IllegalStateException") ∈ NW := List.mem_of_getElem? (i := 14) rfl
theorem nw_483 : (Jvm.Cond.castable "java/util/NoSuchElementException" "java/util/NoSuchElementException") ∈ NW := List.mem_of_getElem? (i := 15) rfl
theorem nw_150 : (Jvm.Cond.declares ({ cls := "java/lang/RuntimeException", name := "<init>", desc := "()V" } : Jvm.MethodName)) ∈ NW := List.mem_of_getElem? (i := 16) rfl
theorem nw_151 : (Jvm.Cond.declares ({ cls := "java/lang/RuntimeException", name := "<init>", desc := "(Ljava/lang/String;)V" } : Jvm.MethodName)) ∈ NW := List.mem_of_getElem? (i := 17) rfl
theorem nw_152 : (Jvm.Cond.declares ({ cls := "java/lang/Exception", name := "<init>", desc := "()V" } : Jvm.MethodName)) ∈ NW := List.mem_of_getElem? (i := 18) rfl
theorem nw_153 : (Jvm.Cond.declares ({ cls := "java/lang/Exception", name := "<init>", desc := "(Ljava/lang/String;)V" } : Jvm.MethodName)) ∈ NW := List.mem_of_getElem? (i := 19) rfl
theorem nw_154 : (Jvm.Cond.declares ({ cls := "java/lang/Throwable", name := "<init>", desc := "()V" } : Jvm.MethodName)) ∈ NW := List.mem_of_getElem? (i := 20) rfl
theorem nw_155 : (Jvm.Cond.declares ({ cls := "java/lang/Throwable", name := "<init>", desc := "(Ljava/lang/String;)V" } : Jvm.MethodName)) ∈ NW := List.mem_of_getElem? (i := 21) rfl
