theorem wb_0 : (Jvm.Cond.initialized "OmegaDeskLaw") ∈ WB := List.mem_filter.mpr ⟨List.mem_append_right _ (List.mem_of_getElem? (i := 0) rfl), rfl⟩
theorem wb_1 : (Jvm.Cond.initialized "OmegaDesk") ∈ WB := List.mem_filter.mpr ⟨List.mem_append_right _ (List.mem_of_getElem? (i := 1) rfl), rfl⟩
theorem wb_2 : (Jvm.Cond.initialized "OmegaDesk$Automaton") ∈ WB := List.mem_filter.mpr ⟨List.mem_append_right _ (List.mem_of_getElem? (i := 2) rfl), rfl⟩
theorem wb_3 : (Jvm.Cond.initialized "OmegaDesk$Refuter") ∈ WB := List.mem_filter.mpr ⟨List.mem_append_right _ (List.mem_of_getElem? (i := 3) rfl), rfl⟩
theorem wb_4 : (Jvm.Cond.initialized "OmegaDesk$LassoFinder") ∈ WB := List.mem_filter.mpr ⟨List.mem_append_right _ (List.mem_of_getElem? (i := 4) rfl), rfl⟩
theorem wb_5 : (Jvm.Cond.initialized "OmegaDesk$WordTable") ∈ WB := List.mem_filter.mpr ⟨List.mem_append_right _ (List.mem_of_getElem? (i := 5) rfl), rfl⟩
theorem wb_6 : (Jvm.Cond.initialized "OmegaDeskModel") ∈ WB := List.mem_filter.mpr ⟨List.mem_append_right _ (List.mem_of_getElem? (i := 6) rfl), rfl⟩
theorem wb_7 : (Jvm.Cond.initialized "java/lang/Throwable") ∈ WB := List.mem_filter.mpr ⟨List.mem_append_right _ (List.mem_of_getElem? (i := 7) rfl), rfl⟩
theorem wb_10 : (Jvm.Cond.initialized "java/lang/IllegalArgumentException") ∈ WB := List.mem_filter.mpr ⟨List.mem_append_right _ (List.mem_of_getElem? (i := 10) rfl), rfl⟩
theorem wb_11 : (Jvm.Cond.initialized "java/lang/IllegalStateException") ∈ WB := List.mem_filter.mpr ⟨List.mem_append_right _ (List.mem_of_getElem? (i := 11) rfl), rfl⟩
theorem wb_12 : (Jvm.Cond.initialized "java/util/Arrays") ∈ WB := List.mem_filter.mpr ⟨List.mem_append_right _ (List.mem_of_getElem? (i := 12) rfl), rfl⟩
theorem wb_13 : (Jvm.Cond.initialized "java/lang/System") ∈ WB := List.mem_filter.mpr ⟨List.mem_append_right _ (List.mem_of_getElem? (i := 13) rfl), rfl⟩
theorem wb_14 : (Jvm.Cond.initialized "OmegaDesk$Passage") ∈ WB := List.mem_filter.mpr ⟨List.mem_append_right _ (List.mem_of_getElem? (i := 14) rfl), rfl⟩
theorem wb_15 : (Jvm.Cond.initialized "java/lang/Integer") ∈ WB := List.mem_filter.mpr ⟨List.mem_append_right _ (List.mem_of_getElem? (i := 15) rfl), rfl⟩
theorem wb_16 : (Jvm.Cond.initialized "java/util/NoSuchElementException") ∈ WB := List.mem_filter.mpr ⟨List.mem_append_right _ (List.mem_of_getElem? (i := 16) rfl), rfl⟩
theorem wb_17 : (Jvm.Cond.classLink "OmegaDeskLaw" (8 : Nat) "OmegaDesk") ∈ WB := List.mem_filter.mpr ⟨List.mem_append_right _ (List.mem_of_getElem? (i := 17) rfl), rfl⟩
theorem wb_18 : (Jvm.Cond.instantiable "OmegaDesk" (4 : Nat)) ∈ WB := List.mem_filter.mpr ⟨List.mem_append_right _ (List.mem_of_getElem? (i := 18) rfl), rfl⟩
theorem wb_19 : (Jvm.Cond.methodLink "OmegaDeskLaw" (59 : Nat) ({ cls := "OmegaDesk", name := "<init>", desc := "()V" } : Jvm.MethodName)) ∈ WB := List.mem_filter.mpr ⟨List.mem_append_right _ (List.mem_of_getElem? (i := 19) rfl), rfl⟩
theorem wb_20 : (Jvm.Cond.instanceMethod ({ cls := "OmegaDesk", name := "<init>", desc := "()V" } : Jvm.MethodName)) ∈ WB := List.mem_filter.mpr ⟨List.mem_append_right _ (List.mem_of_getElem? (i := 20) rfl), rfl⟩
theorem wb_21 : (Jvm.Cond.code ({ cls := "OmegaDesk", name := "<init>", desc := "()V" } : Jvm.MethodName) prog_1_method_1_code (2 : Nat) (Option.none : Option Jvm.ClassFile.FieldType)) ∈ WB := List.mem_filter.mpr ⟨List.mem_append_right _ (List.mem_of_getElem? (i := 21) rfl), rfl⟩
theorem wb_22 : (Jvm.Cond.methodLink "OmegaDesk" (1 : Nat) ({ cls := "java/lang/Object", name := "<init>", desc := "()V" } : Jvm.MethodName)) ∈ WB := List.mem_filter.mpr ⟨List.mem_append_right _ (List.mem_of_getElem? (i := 22) rfl), rfl⟩
theorem wb_23 : (Jvm.Cond.instanceMethod ({ cls := "java/lang/Object", name := "<init>", desc := "()V" } : Jvm.MethodName)) ∈ WB := List.mem_filter.mpr ⟨List.mem_append_right _ (List.mem_of_getElem? (i := 23) rfl), rfl⟩
theorem wb_24 : (Jvm.Cond.code ({ cls := "java/lang/Object", name := "<init>", desc := "()V" } : Jvm.MethodName) object_method_1_code (1 : Nat) (Option.none : Option Jvm.ClassFile.FieldType)) ∈ WB := List.mem_filter.mpr ⟨List.mem_append_right _ (List.mem_of_getElem? (i := 24) rfl), rfl⟩
theorem wb_25 : (Jvm.Cond.classLink "OmegaDesk" (9 : Nat) "OmegaDesk$Automaton") ∈ WB := List.mem_filter.mpr ⟨List.mem_append_right _ (List.mem_of_getElem? (i := 25) rfl), rfl⟩
theorem wb_27 : (Jvm.Cond.instantiable "OmegaDesk$Automaton" (3 : Nat)) ∈ WB := List.mem_filter.mpr ⟨List.mem_append_right _ (List.mem_of_getElem? (i := 27) rfl), rfl⟩
theorem wb_29 : (Jvm.Cond.instanceMethod ({ cls := "OmegaDesk$Automaton", name := "<init>", desc := "()V" } : Jvm.MethodName)) ∈ WB := List.mem_filter.mpr ⟨List.mem_append_right _ (List.mem_of_getElem? (i := 29) rfl), rfl⟩
theorem wb_30 : (Jvm.Cond.code ({ cls := "OmegaDesk$Automaton", name := "<init>", desc := "()V" } : Jvm.MethodName) prog_2_method_1_code (1 : Nat) (Option.none : Option Jvm.ClassFile.FieldType)) ∈ WB := List.mem_filter.mpr ⟨List.mem_append_right _ (List.mem_of_getElem? (i := 30) rfl), rfl⟩
theorem wb_31 : (Jvm.Cond.methodLink "OmegaDesk$Automaton" (3 : Nat) ({ cls := "java/lang/Object", name := "<init>", desc := "()V" } : Jvm.MethodName)) ∈ WB := List.mem_filter.mpr ⟨List.mem_append_right _ (List.mem_of_getElem? (i := 31) rfl), rfl⟩
theorem wb_32 : (Jvm.Cond.fieldLink "OmegaDesk$Automaton" (9 : Nat) "OmegaDesk$Automaton" "size" "I") ∈ WB := List.mem_filter.mpr ⟨List.mem_append_right _ (List.mem_of_getElem? (i := 32) rfl), rfl⟩
theorem wb_36 : (Jvm.Cond.fieldLink "OmegaDesk$Automaton" (15 : Nat) "OmegaDesk$Automaton" "goodStates" "I") ∈ WB := List.mem_filter.mpr ⟨List.mem_append_right _ (List.mem_of_getElem? (i := 36) rfl), rfl⟩
theorem wb_38 : (Jvm.Cond.fieldLink "OmegaDesk$Automaton" (18 : Nat) "OmegaDesk$Automaton" "followers" "[I") ∈ WB := List.mem_filter.mpr ⟨List.mem_append_right _ (List.mem_of_getElem? (i := 38) rfl), rfl⟩
theorem wb_46 : (Jvm.Cond.arrayClass Jvm.ClassFile.FieldType.int) ∈ WB := List.mem_filter.mpr ⟨List.mem_append_right _ (List.mem_of_getElem? (i := 46) rfl), rfl⟩
theorem wb_47 : (Jvm.Cond.classLink "OmegaDesk" (20 : Nat) "OmegaDesk$Refuter") ∈ WB := List.mem_filter.mpr ⟨List.mem_append_right _ (List.mem_of_getElem? (i := 47) rfl), rfl⟩
theorem wb_48 : (Jvm.Cond.instantiable "OmegaDesk$Refuter" (7 : Nat)) ∈ WB := List.mem_filter.mpr ⟨List.mem_append_right _ (List.mem_of_getElem? (i := 48) rfl), rfl⟩
theorem wb_50 : (Jvm.Cond.instanceMethod ({ cls := "OmegaDesk$Refuter", name := "<init>", desc := "()V" } : Jvm.MethodName)) ∈ WB := List.mem_filter.mpr ⟨List.mem_append_right _ (List.mem_of_getElem? (i := 50) rfl), rfl⟩
theorem wb_51 : (Jvm.Cond.code ({ cls := "OmegaDesk$Refuter", name := "<init>", desc := "()V" } : Jvm.MethodName) prog_5_method_1_code (1 : Nat) (Option.none : Option Jvm.ClassFile.FieldType)) ∈ WB := List.mem_filter.mpr ⟨List.mem_append_right _ (List.mem_of_getElem? (i := 51) rfl), rfl⟩
theorem wb_52 : (Jvm.Cond.methodLink "OmegaDesk$Refuter" (5 : Nat) ({ cls := "java/lang/Object", name := "<init>", desc := "()V" } : Jvm.MethodName)) ∈ WB := List.mem_filter.mpr ⟨List.mem_append_right _ (List.mem_of_getElem? (i := 52) rfl), rfl⟩
theorem wb_53 : (Jvm.Cond.fieldLink "OmegaDesk$Refuter" (11 : Nat) "OmegaDesk$Refuter" "keys" "[I") ∈ WB := List.mem_filter.mpr ⟨List.mem_append_right _ (List.mem_of_getElem? (i := 53) rfl), rfl⟩
theorem wb_54 : (Jvm.Cond.fieldLink "OmegaDesk$Refuter" (15 : Nat) "OmegaDesk$Refuter" "seenWays" "[I") ∈ WB := List.mem_filter.mpr ⟨List.mem_append_right _ (List.mem_of_getElem? (i := 54) rfl), rfl⟩
theorem wb_55 : (Jvm.Cond.fieldLink "OmegaDesk$Refuter" (18 : Nat) "OmegaDesk$Refuter" "freshWays" "[I") ∈ WB := List.mem_filter.mpr ⟨List.mem_append_right _ (List.mem_of_getElem? (i := 55) rfl), rfl⟩
theorem wb_56 : (Jvm.Cond.fieldLink "OmegaDesk$Refuter" (21 : Nat) "OmegaDesk$Refuter" "queue" "[I") ∈ WB := List.mem_filter.mpr ⟨List.mem_append_right _ (List.mem_of_getElem? (i := 56) rfl), rfl⟩
theorem wb_57 : (Jvm.Cond.fieldLink "OmegaDesk$Refuter" (24 : Nat) "OmegaDesk$Refuter" "queueStart" "I") ∈ WB := List.mem_filter.mpr ⟨List.mem_append_right _ (List.mem_of_getElem? (i := 57) rfl), rfl⟩
theorem wb_58 : (Jvm.Cond.fieldLink "OmegaDesk$Refuter" (28 : Nat) "OmegaDesk$Refuter" "queued" "I") ∈ WB := List.mem_filter.mpr ⟨List.mem_append_right _ (List.mem_of_getElem? (i := 58) rfl), rfl⟩
theorem wb_59 : (Jvm.Cond.fieldLink "OmegaDesk$Refuter" (31 : Nat) "OmegaDesk$Refuter" "meetings" "[I") ∈ WB := List.mem_filter.mpr ⟨List.mem_append_right _ (List.mem_of_getElem? (i := 59) rfl), rfl⟩
theorem wb_75 : (Jvm.Cond.classLink "OmegaDesk" (27 : Nat) "OmegaDesk$LassoFinder") ∈ WB := List.mem_filter.mpr ⟨List.mem_append_right _ (List.mem_of_getElem? (i := 75) rfl), rfl⟩
theorem wb_76 : (Jvm.Cond.instantiable "OmegaDesk$LassoFinder" (7 : Nat)) ∈ WB := List.mem_filter.mpr ⟨List.mem_append_right _ (List.mem_of_getElem? (i := 76) rfl), rfl⟩
theorem wb_78 : (Jvm.Cond.instanceMethod ({ cls := "OmegaDesk$LassoFinder", name := "<init>", desc := "()V" } : Jvm.MethodName)) ∈ WB := List.mem_filter.mpr ⟨List.mem_append_right _ (List.mem_of_getElem? (i := 78) rfl), rfl⟩
theorem wb_79 : (Jvm.Cond.code ({ cls := "OmegaDesk$LassoFinder", name := "<init>", desc := "()V" } : Jvm.MethodName) prog_3_method_1_code (1 : Nat) (Option.none : Option Jvm.ClassFile.FieldType)) ∈ WB := List.mem_filter.mpr ⟨List.mem_append_right _ (List.mem_of_getElem? (i := 79) rfl), rfl⟩
theorem wb_80 : (Jvm.Cond.methodLink "OmegaDesk$LassoFinder" (3 : Nat) ({ cls := "java/lang/Object", name := "<init>", desc := "()V" } : Jvm.MethodName)) ∈ WB := List.mem_filter.mpr ⟨List.mem_append_right _ (List.mem_of_getElem? (i := 80) rfl), rfl⟩
theorem wb_81 : (Jvm.Cond.classLink "OmegaDesk$LassoFinder" (9 : Nat) "OmegaDesk$WordTable") ∈ WB := List.mem_filter.mpr ⟨List.mem_append_right _ (List.mem_of_getElem? (i := 81) rfl), rfl⟩
theorem wb_82 : (Jvm.Cond.instantiable "OmegaDesk$WordTable" (2 : Nat)) ∈ WB := List.mem_filter.mpr ⟨List.mem_append_right _ (List.mem_of_getElem? (i := 82) rfl), rfl⟩
theorem wb_84 : (Jvm.Cond.instanceMethod ({ cls := "OmegaDesk$WordTable", name := "<init>", desc := "()V" } : Jvm.MethodName)) ∈ WB := List.mem_filter.mpr ⟨List.mem_append_right _ (List.mem_of_getElem? (i := 84) rfl), rfl⟩
theorem wb_85 : (Jvm.Cond.code ({ cls := "OmegaDesk$WordTable", name := "<init>", desc := "()V" } : Jvm.MethodName) prog_6_method_1_code (1 : Nat) (Option.none : Option Jvm.ClassFile.FieldType)) ∈ WB := List.mem_filter.mpr ⟨List.mem_append_right _ (List.mem_of_getElem? (i := 85) rfl), rfl⟩
theorem wb_86 : (Jvm.Cond.methodLink "OmegaDesk$WordTable" (3 : Nat) ({ cls := "java/lang/Object", name := "<init>", desc := "()V" } : Jvm.MethodName)) ∈ WB := List.mem_filter.mpr ⟨List.mem_append_right _ (List.mem_of_getElem? (i := 86) rfl), rfl⟩
theorem wb_87 : (Jvm.Cond.fieldLink "OmegaDesk$WordTable" (11 : Nat) "OmegaDesk$WordTable" "passages" "[I") ∈ WB := List.mem_filter.mpr ⟨List.mem_append_right _ (List.mem_of_getElem? (i := 87) rfl), rfl⟩
theorem wb_88 : (Jvm.Cond.fieldLink "OmegaDesk$WordTable" (15 : Nat) "OmegaDesk$WordTable" "takenRepeated" "[I") ∈ WB := List.mem_filter.mpr ⟨List.mem_append_right _ (List.mem_of_getElem? (i := 88) rfl), rfl⟩
theorem wb_94 : (Jvm.Cond.fieldLink "OmegaDesk$LassoFinder" (12 : Nat) "OmegaDesk$LassoFinder" "innerWords" "LOmegaDesk$WordTable;") ∈ WB := List.mem_filter.mpr ⟨List.mem_append_right _ (List.mem_of_getElem? (i := 94) rfl), rfl⟩
theorem wb_95 : (Jvm.Cond.fieldLink "OmegaDesk$LassoFinder" (18 : Nat) "OmegaDesk$LassoFinder" "outerWords" "LOmegaDesk$WordTable;") ∈ WB := List.mem_filter.mpr ⟨List.mem_append_right _ (List.mem_of_getElem? (i := 95) rfl), rfl⟩
theorem wb_96 : (Jvm.Cond.fieldLink "OmegaDesk$LassoFinder" (21 : Nat) "OmegaDesk$LassoFinder" "found" "Z") ∈ WB := List.mem_filter.mpr ⟨List.mem_append_right _ (List.mem_of_getElem? (i := 96) rfl), rfl⟩
theorem wb_98 : (Jvm.Cond.fieldLink "OmegaDesk$LassoFinder" (25 : Nat) "OmegaDesk$LassoFinder" "headLength" "I") ∈ WB := List.mem_filter.mpr ⟨List.mem_append_right _ (List.mem_of_getElem? (i := 98) rfl), rfl⟩
theorem wb_100 : (Jvm.Cond.fieldLink "OmegaDesk$LassoFinder" (29 : Nat) "OmegaDesk$LassoFinder" "head" "I") ∈ WB := List.mem_filter.mpr ⟨List.mem_append_right _ (List.mem_of_getElem? (i := 100) rfl), rfl⟩
theorem wb_102 : (Jvm.Cond.fieldLink "OmegaDesk$LassoFinder" (32 : Nat) "OmegaDesk$LassoFinder" "tailLength" "I") ∈ WB := List.mem_filter.mpr ⟨List.mem_append_right _ (List.mem_of_getElem? (i := 102) rfl), rfl⟩
theorem wb_104 : (Jvm.Cond.fieldLink "OmegaDesk$LassoFinder" (35 : Nat) "OmegaDesk$LassoFinder" "tail" "I") ∈ WB := List.mem_filter.mpr ⟨List.mem_append_right _ (List.mem_of_getElem? (i := 104) rfl), rfl⟩
theorem wb_121 : (Jvm.Cond.fieldLink "OmegaDesk" (11 : Nat) "OmegaDesk" "automata" "[LOmegaDesk$Automaton;") ∈ WB := List.mem_filter.mpr ⟨List.mem_append_right _ (List.mem_of_getElem? (i := 121) rfl), rfl⟩
theorem wb_122 : (Jvm.Cond.fieldLink "OmegaDesk" (16 : Nat) "OmegaDesk" "spare" "LOmegaDesk$Automaton;") ∈ WB := List.mem_filter.mpr ⟨List.mem_append_right _ (List.mem_of_getElem? (i := 122) rfl), rfl⟩
theorem wb_123 : (Jvm.Cond.fieldLink "OmegaDesk" (23 : Nat) "OmegaDesk" "refuter" "LOmegaDesk$Refuter;") ∈ WB := List.mem_filter.mpr ⟨List.mem_append_right _ (List.mem_of_getElem? (i := 123) rfl), rfl⟩
theorem wb_124 : (Jvm.Cond.fieldLink "OmegaDesk" (30 : Nat) "OmegaDesk" "finder" "LOmegaDesk$LassoFinder;") ∈ WB := List.mem_filter.mpr ⟨List.mem_append_right _ (List.mem_of_getElem? (i := 124) rfl), rfl⟩
theorem wb_134 : (Jvm.Cond.methodLink "OmegaDeskLaw" (63 : Nat) ({ cls := "OmegaDeskLaw", name := "state", desc := "(LOmegaDesk;IZ[J)I" } : Jvm.MethodName)) ∈ WB := List.mem_filter.mpr ⟨List.mem_append_right _ (List.mem_of_getElem? (i := 134) rfl), rfl⟩
theorem wb_135 : (Jvm.Cond.static ({ cls := "OmegaDeskLaw", name := "state", desc := "(LOmegaDesk;IZ[J)I" } : Jvm.MethodName)) ∈ WB := List.mem_filter.mpr ⟨List.mem_append_right _ (List.mem_of_getElem? (i := 135) rfl), rfl⟩
theorem wb_136 : (Jvm.Cond.codeWith ({ cls := "OmegaDeskLaw", name := "state", desc := "(LOmegaDesk;IZ[J)I" } : Jvm.MethodName) method_3_code (5 : Nat) (Option.some Jvm.ClassFile.FieldType.int) [((0 : Nat), (10 : Nat), (13 : Nat), (13 : Nat)), ((0 : Nat), (10 : Nat), (17 : Nat), (15 : Nat))]) ∈ WB := List.mem_filter.mpr ⟨List.mem_append_right _ (List.mem_of_getElem? (i := 136) rfl), rfl⟩
theorem wb_137 : (Jvm.Cond.classLink "OmegaDeskLaw" (13 : Nat) "java/lang/IllegalArgumentException") ∈ WB := List.mem_filter.mpr ⟨List.mem_append_right _ (List.mem_of_getElem? (i := 137) rfl), rfl⟩
theorem wb_138 : (Jvm.Cond.classLink "OmegaDeskLaw" (15 : Nat) "java/lang/IllegalStateException") ∈ WB := List.mem_filter.mpr ⟨List.mem_append_right _ (List.mem_of_getElem? (i := 138) rfl), rfl⟩
theorem wb_139 : (Jvm.Cond.methodLink "OmegaDeskLaw" (7 : Nat) ({ cls := "OmegaDesk", name := "state", desc := "(IZ)I" } : Jvm.MethodName)) ∈ WB := List.mem_filter.mpr ⟨List.mem_append_right _ (List.mem_of_getElem? (i := 139) rfl), rfl⟩
theorem wb_140 : (Jvm.Cond.instanceMethod ({ cls := "OmegaDesk", name := "state", desc := "(IZ)I" } : Jvm.MethodName)) ∈ WB := List.mem_filter.mpr ⟨List.mem_append_right _ (List.mem_of_getElem? (i := 140) rfl), rfl⟩
theorem wb_141 : (Jvm.Cond.selects "OmegaDesk" ({ cls := "OmegaDesk", name := "state", desc := "(IZ)I" } : Jvm.MethodName) ({ cls := "OmegaDesk", name := "state", desc := "(IZ)I" } : Jvm.MethodName)) ∈ WB := List.mem_filter.mpr ⟨List.mem_append_right _ (List.mem_of_getElem? (i := 141) rfl), rfl⟩
theorem wb_142 : (Jvm.Cond.code ({ cls := "OmegaDesk", name := "state", desc := "(IZ)I" } : Jvm.MethodName) prog_1_method_2_code (4 : Nat) (Option.some Jvm.ClassFile.FieldType.int)) ∈ WB := List.mem_filter.mpr ⟨List.mem_append_right _ (List.mem_of_getElem? (i := 142) rfl), rfl⟩
theorem wb_143 : (Jvm.Cond.methodLink "OmegaDesk" (34 : Nat) ({ cls := "OmegaDesk", name := "automatonAt", desc := "(I)LOmegaDesk$Automaton;" } : Jvm.MethodName)) ∈ WB := List.mem_filter.mpr ⟨List.mem_append_right _ (List.mem_of_getElem? (i := 143) rfl), rfl⟩
theorem wb_145 : (Jvm.Cond.instanceMethod ({ cls := "OmegaDesk", name := "automatonAt", desc := "(I)LOmegaDesk$Automaton;" } : Jvm.MethodName)) ∈ WB := List.mem_filter.mpr ⟨List.mem_append_right _ (List.mem_of_getElem? (i := 145) rfl), rfl⟩
theorem wb_146 : (Jvm.Cond.code ({ cls := "OmegaDesk", name := "automatonAt", desc := "(I)LOmegaDesk$Automaton;" } : Jvm.MethodName) prog_1_method_14_code (2 : Nat) (Option.some (Jvm.ClassFile.FieldType.object "OmegaDesk$Automaton"))) ∈ WB := List.mem_filter.mpr ⟨List.mem_append_right _ (List.mem_of_getElem? (i := 146) rfl), rfl⟩
theorem wb_147 : (Jvm.Cond.classLink "OmegaDesk" (68 : Nat) "java/lang/IllegalArgumentException") ∈ WB := List.mem_filter.mpr ⟨List.mem_append_right _ (List.mem_of_getElem? (i := 147) rfl), rfl⟩
theorem wb_215 : (Jvm.Cond.classLink "OmegaDesk" (42 : Nat) "java/lang/IllegalStateException") ∈ WB := List.mem_filter.mpr ⟨List.mem_append_right _ (List.mem_of_getElem? (i := 215) rfl), rfl⟩
theorem wb_231 : (Jvm.Cond.methodLink "OmegaDesk" (49 : Nat) ({ cls := "OmegaDesk$Automaton", name := "addState", desc := "(Z)I" } : Jvm.MethodName)) ∈ WB := List.mem_filter.mpr ⟨List.mem_append_right _ (List.mem_of_getElem? (i := 231) rfl), rfl⟩
theorem wb_232 : (Jvm.Cond.instanceMethod ({ cls := "OmegaDesk$Automaton", name := "addState", desc := "(Z)I" } : Jvm.MethodName)) ∈ WB := List.mem_filter.mpr ⟨List.mem_append_right _ (List.mem_of_getElem? (i := 232) rfl), rfl⟩
theorem wb_233 : (Jvm.Cond.selects "OmegaDesk$Automaton" ({ cls := "OmegaDesk$Automaton", name := "addState", desc := "(Z)I" } : Jvm.MethodName) ({ cls := "OmegaDesk$Automaton", name := "addState", desc := "(Z)I" } : Jvm.MethodName)) ∈ WB := List.mem_filter.mpr ⟨List.mem_append_right _ (List.mem_of_getElem? (i := 233) rfl), rfl⟩
theorem wb_234 : (Jvm.Cond.code ({ cls := "OmegaDesk$Automaton", name := "addState", desc := "(Z)I" } : Jvm.MethodName) prog_2_method_7_code (3 : Nat) (Option.some Jvm.ClassFile.FieldType.int)) ∈ WB := List.mem_filter.mpr ⟨List.mem_append_right _ (List.mem_of_getElem? (i := 234) rfl), rfl⟩
theorem wb_235 : (Jvm.Cond.methodLink "OmegaDeskLaw" (73 : Nat) ({ cls := "OmegaDeskLaw", name := "edge", desc := "(LOmegaDesk;IIII[J)I" } : Jvm.MethodName)) ∈ WB := List.mem_filter.mpr ⟨List.mem_append_right _ (List.mem_of_getElem? (i := 235) rfl), rfl⟩
theorem wb_236 : (Jvm.Cond.static ({ cls := "OmegaDeskLaw", name := "edge", desc := "(LOmegaDesk;IIII[J)I" } : Jvm.MethodName)) ∈ WB := List.mem_filter.mpr ⟨List.mem_append_right _ (List.mem_of_getElem? (i := 236) rfl), rfl⟩
theorem wb_237 : (Jvm.Cond.codeWith ({ cls := "OmegaDeskLaw", name := "edge", desc := "(LOmegaDesk;IIII[J)I" } : Jvm.MethodName) method_4_code (7 : Nat) (Option.some Jvm.ClassFile.FieldType.int) [((0 : Nat), (21 : Nat), (24 : Nat), (13 : Nat))]) ∈ WB := List.mem_filter.mpr ⟨List.mem_append_right _ (List.mem_of_getElem? (i := 237) rfl), rfl⟩
theorem wb_238 : (Jvm.Cond.methodLink "OmegaDeskLaw" (17 : Nat) ({ cls := "OmegaDesk", name := "edge", desc := "(IIII)Z" } : Jvm.MethodName)) ∈ WB := List.mem_filter.mpr ⟨List.mem_append_right _ (List.mem_of_getElem? (i := 238) rfl), rfl⟩
theorem wb_239 : (Jvm.Cond.instanceMethod ({ cls := "OmegaDesk", name := "edge", desc := "(IIII)Z" } : Jvm.MethodName)) ∈ WB := List.mem_filter.mpr ⟨List.mem_append_right _ (List.mem_of_getElem? (i := 239) rfl), rfl⟩
theorem wb_240 : (Jvm.Cond.selects "OmegaDesk" ({ cls := "OmegaDesk", name := "edge", desc := "(IIII)Z" } : Jvm.MethodName) ({ cls := "OmegaDesk", name := "edge", desc := "(IIII)Z" } : Jvm.MethodName)) ∈ WB := List.mem_filter.mpr ⟨List.mem_append_right _ (List.mem_of_getElem? (i := 240) rfl), rfl⟩
theorem wb_241 : (Jvm.Cond.code ({ cls := "OmegaDesk", name := "edge", desc := "(IIII)Z" } : Jvm.MethodName) prog_1_method_3_code (7 : Nat) (Option.some Jvm.ClassFile.FieldType.boolean)) ∈ WB := List.mem_filter.mpr ⟨List.mem_append_right _ (List.mem_of_getElem? (i := 241) rfl), rfl⟩
theorem wb_242 : (Jvm.Cond.methodLink "OmegaDesk" (53 : Nat) ({ cls := "OmegaDesk", name := "automatonWithPlaces", desc := "(IIII)LOmegaDesk$Automaton;" } : Jvm.MethodName)) ∈ WB := List.mem_filter.mpr ⟨List.mem_append_right _ (List.mem_of_getElem? (i := 242) rfl), rfl⟩
theorem wb_244 : (Jvm.Cond.instanceMethod ({ cls := "OmegaDesk", name := "automatonWithPlaces", desc := "(IIII)LOmegaDesk$Automaton;" } : Jvm.MethodName)) ∈ WB := List.mem_filter.mpr ⟨List.mem_append_right _ (List.mem_of_getElem? (i := 244) rfl), rfl⟩
theorem wb_245 : (Jvm.Cond.code ({ cls := "OmegaDesk", name := "automatonWithPlaces", desc := "(IIII)LOmegaDesk$Automaton;" } : Jvm.MethodName) prog_1_method_15_code (6 : Nat) (Option.some (Jvm.ClassFile.FieldType.object "OmegaDesk$Automaton"))) ∈ WB := List.mem_filter.mpr ⟨List.mem_append_right _ (List.mem_of_getElem? (i := 245) rfl), rfl⟩
theorem wb_246 : (Jvm.Cond.methodLink "OmegaDesk" (147 : Nat) ({ cls := "OmegaDesk$Automaton", name := "hasState", desc := "(I)Z" } : Jvm.MethodName)) ∈ WB := List.mem_filter.mpr ⟨List.mem_append_right _ (List.mem_of_getElem? (i := 246) rfl), rfl⟩
theorem wb_247 : (Jvm.Cond.instanceMethod ({ cls := "OmegaDesk$Automaton", name := "hasState", desc := "(I)Z" } : Jvm.MethodName)) ∈ WB := List.mem_filter.mpr ⟨List.mem_append_right _ (List.mem_of_getElem? (i := 247) rfl), rfl⟩
theorem wb_248 : (Jvm.Cond.selects "OmegaDesk$Automaton" ({ cls := "OmegaDesk$Automaton", name := "hasState", desc := "(I)Z" } : Jvm.MethodName) ({ cls := "OmegaDesk$Automaton", name := "hasState", desc := "(I)Z" } : Jvm.MethodName)) ∈ WB := List.mem_filter.mpr ⟨List.mem_append_right _ (List.mem_of_getElem? (i := 248) rfl), rfl⟩
theorem wb_249 : (Jvm.Cond.code ({ cls := "OmegaDesk$Automaton", name := "hasState", desc := "(I)Z" } : Jvm.MethodName) prog_2_method_2_code (2 : Nat) (Option.some Jvm.ClassFile.FieldType.boolean)) ∈ WB := List.mem_filter.mpr ⟨List.mem_append_right _ (List.mem_of_getElem? (i := 249) rfl), rfl⟩
theorem wb_252 : (Jvm.Cond.methodLink "OmegaDesk" (57 : Nat) ({ cls := "OmegaDesk$Automaton", name := "joins", desc := "(III)Z" } : Jvm.MethodName)) ∈ WB := List.mem_filter.mpr ⟨List.mem_append_right _ (List.mem_of_getElem? (i := 252) rfl), rfl⟩
theorem wb_253 : (Jvm.Cond.instanceMethod ({ cls := "OmegaDesk$Automaton", name := "joins", desc := "(III)Z" } : Jvm.MethodName)) ∈ WB := List.mem_filter.mpr ⟨List.mem_append_right _ (List.mem_of_getElem? (i := 253) rfl), rfl⟩
theorem wb_254 : (Jvm.Cond.selects "OmegaDesk$Automaton" ({ cls := "OmegaDesk$Automaton", name := "joins", desc := "(III)Z" } : Jvm.MethodName) ({ cls := "OmegaDesk$Automaton", name := "joins", desc := "(III)Z" } : Jvm.MethodName)) ∈ WB := List.mem_filter.mpr ⟨List.mem_append_right _ (List.mem_of_getElem? (i := 254) rfl), rfl⟩
theorem wb_255 : (Jvm.Cond.code ({ cls := "OmegaDesk$Automaton", name := "joins", desc := "(III)Z" } : Jvm.MethodName) prog_2_method_4_code (4 : Nat) (Option.some Jvm.ClassFile.FieldType.boolean)) ∈ WB := List.mem_filter.mpr ⟨List.mem_append_right _ (List.mem_of_getElem? (i := 255) rfl), rfl⟩
theorem wb_256 : (Jvm.Cond.methodLink "OmegaDesk$Automaton" (22 : Nat) ({ cls := "OmegaDesk$Automaton", name := "followersOf", desc := "(II)I" } : Jvm.MethodName)) ∈ WB := List.mem_filter.mpr ⟨List.mem_append_right _ (List.mem_of_getElem? (i := 256) rfl), rfl⟩
theorem wb_257 : (Jvm.Cond.instanceMethod ({ cls := "OmegaDesk$Automaton", name := "followersOf", desc := "(II)I" } : Jvm.MethodName)) ∈ WB := List.mem_filter.mpr ⟨List.mem_append_right _ (List.mem_of_getElem? (i := 257) rfl), rfl⟩
theorem wb_258 : (Jvm.Cond.selects "OmegaDesk$Automaton" ({ cls := "OmegaDesk$Automaton", name := "followersOf", desc := "(II)I" } : Jvm.MethodName) ({ cls := "OmegaDesk$Automaton", name := "followersOf", desc := "(II)I" } : Jvm.MethodName)) ∈ WB := List.mem_filter.mpr ⟨List.mem_append_right _ (List.mem_of_getElem? (i := 258) rfl), rfl⟩
theorem wb_259 : (Jvm.Cond.code ({ cls := "OmegaDesk$Automaton", name := "followersOf", desc := "(II)I" } : Jvm.MethodName) prog_2_method_5_code (3 : Nat) (Option.some Jvm.ClassFile.FieldType.int)) ∈ WB := List.mem_filter.mpr ⟨List.mem_append_right _ (List.mem_of_getElem? (i := 259) rfl), rfl⟩
theorem wb_260 : (Jvm.Cond.methodLink "OmegaDesk" (61 : Nat) ({ cls := "OmegaDesk$Automaton", name := "join", desc := "(III)V" } : Jvm.MethodName)) ∈ WB := List.mem_filter.mpr ⟨List.mem_append_right _ (List.mem_of_getElem? (i := 260) rfl), rfl⟩
theorem wb_261 : (Jvm.Cond.instanceMethod ({ cls := "OmegaDesk$Automaton", name := "join", desc := "(III)V" } : Jvm.MethodName)) ∈ WB := List.mem_filter.mpr ⟨List.mem_append_right _ (List.mem_of_getElem? (i := 261) rfl), rfl⟩
theorem wb_262 : (Jvm.Cond.selects "OmegaDesk$Automaton" ({ cls := "OmegaDesk$Automaton", name := "join", desc := "(III)V" } : Jvm.MethodName) ({ cls := "OmegaDesk$Automaton", name := "join", desc := "(III)V" } : Jvm.MethodName)) ∈ WB := List.mem_filter.mpr ⟨List.mem_append_right _ (List.mem_of_getElem? (i := 262) rfl), rfl⟩
theorem wb_263 : (Jvm.Cond.code ({ cls := "OmegaDesk$Automaton", name := "join", desc := "(III)V" } : Jvm.MethodName) prog_2_method_8_code (5 : Nat) (Option.none : Option Jvm.ClassFile.FieldType)) ∈ WB := List.mem_filter.mpr ⟨List.mem_append_right _ (List.mem_of_getElem? (i := 263) rfl), rfl⟩
theorem wb_264 : (Jvm.Cond.methodLink "OmegaDeskLaw" (77 : Nat) ({ cls := "OmegaDeskLaw", name := "clear", desc := "(LOmegaDesk;I)I" } : Jvm.MethodName)) ∈ WB := List.mem_filter.mpr ⟨List.mem_append_right _ (List.mem_of_getElem? (i := 264) rfl), rfl⟩
theorem wb_265 : (Jvm.Cond.static ({ cls := "OmegaDeskLaw", name := "clear", desc := "(LOmegaDesk;I)I" } : Jvm.MethodName)) ∈ WB := List.mem_filter.mpr ⟨List.mem_append_right _ (List.mem_of_getElem? (i := 265) rfl), rfl⟩
theorem wb_266 : (Jvm.Cond.codeWith ({ cls := "OmegaDeskLaw", name := "clear", desc := "(LOmegaDesk;I)I" } : Jvm.MethodName) method_5_code (3 : Nat) (Option.some Jvm.ClassFile.FieldType.int) [((0 : Nat), (5 : Nat), (8 : Nat), (13 : Nat))]) ∈ WB := List.mem_filter.mpr ⟨List.mem_append_right _ (List.mem_of_getElem? (i := 266) rfl), rfl⟩
theorem wb_267 : (Jvm.Cond.methodLink "OmegaDeskLaw" (21 : Nat) ({ cls := "OmegaDesk", name := "clear", desc := "(I)V" } : Jvm.MethodName)) ∈ WB := List.mem_filter.mpr ⟨List.mem_append_right _ (List.mem_of_getElem? (i := 267) rfl), rfl⟩
theorem wb_268 : (Jvm.Cond.instanceMethod ({ cls := "OmegaDesk", name := "clear", desc := "(I)V" } : Jvm.MethodName)) ∈ WB := List.mem_filter.mpr ⟨List.mem_append_right _ (List.mem_of_getElem? (i := 268) rfl), rfl⟩
theorem wb_269 : (Jvm.Cond.selects "OmegaDesk" ({ cls := "OmegaDesk", name := "clear", desc := "(I)V" } : Jvm.MethodName) ({ cls := "OmegaDesk", name := "clear", desc := "(I)V" } : Jvm.MethodName)) ∈ WB := List.mem_filter.mpr ⟨List.mem_append_right _ (List.mem_of_getElem? (i := 269) rfl), rfl⟩
theorem wb_270 : (Jvm.Cond.code ({ cls := "OmegaDesk", name := "clear", desc := "(I)V" } : Jvm.MethodName) prog_1_method_4_code (2 : Nat) (Option.none : Option Jvm.ClassFile.FieldType)) ∈ WB := List.mem_filter.mpr ⟨List.mem_append_right _ (List.mem_of_getElem? (i := 270) rfl), rfl⟩
theorem wb_271 : (Jvm.Cond.methodLink "OmegaDesk" (65 : Nat) ({ cls := "OmegaDesk$Automaton", name := "wipe", desc := "()V" } : Jvm.MethodName)) ∈ WB := List.mem_filter.mpr ⟨List.mem_append_right _ (List.mem_of_getElem? (i := 271) rfl), rfl⟩
theorem wb_272 : (Jvm.Cond.instanceMethod ({ cls := "OmegaDesk$Automaton", name := "wipe", desc := "()V" } : Jvm.MethodName)) ∈ WB := List.mem_filter.mpr ⟨List.mem_append_right _ (List.mem_of_getElem? (i := 272) rfl), rfl⟩
theorem wb_273 : (Jvm.Cond.selects "OmegaDesk$Automaton" ({ cls := "OmegaDesk$Automaton", name := "wipe", desc := "()V" } : Jvm.MethodName) ({ cls := "OmegaDesk$Automaton", name := "wipe", desc := "()V" } : Jvm.MethodName)) ∈ WB := List.mem_filter.mpr ⟨List.mem_append_right _ (List.mem_of_getElem? (i := 273) rfl), rfl⟩
theorem wb_274 : (Jvm.Cond.code ({ cls := "OmegaDesk$Automaton", name := "wipe", desc := "()V" } : Jvm.MethodName) prog_2_method_6_code (1 : Nat) (Option.none : Option Jvm.ClassFile.FieldType)) ∈ WB := List.mem_filter.mpr ⟨List.mem_append_right _ (List.mem_of_getElem? (i := 274) rfl), rfl⟩
theorem wb_275 : (Jvm.Cond.methodLink "OmegaDesk$Automaton" (26 : Nat) ({ cls := "java/util/Arrays", name := "fill", desc := "([II)V" } : Jvm.MethodName)) ∈ WB := List.mem_filter.mpr ⟨List.mem_append_right _ (List.mem_of_getElem? (i := 275) rfl), rfl⟩
theorem wb_276 : (Jvm.Cond.static ({ cls := "java/util/Arrays", name := "fill", desc := "([II)V" } : Jvm.MethodName)) ∈ WB := List.mem_filter.mpr ⟨List.mem_append_right _ (List.mem_of_getElem? (i := 276) rfl), rfl⟩
theorem wb_277 : (Jvm.Cond.code ({ cls := "java/util/Arrays", name := "fill", desc := "([II)V" } : Jvm.MethodName) prog_17_method_103_code (4 : Nat) (Option.none : Option Jvm.ClassFile.FieldType)) ∈ WB := List.mem_filter.mpr ⟨List.mem_append_right _ (List.mem_of_getElem? (i := 277) rfl), rfl⟩
theorem wb_278 : (Jvm.Cond.methodLink "OmegaDeskLaw" (81 : Nat) ({ cls := "OmegaDeskLaw", name := "unite", desc := "(LOmegaDesk;III[J)I" } : Jvm.MethodName)) ∈ WB := List.mem_filter.mpr ⟨List.mem_append_right _ (List.mem_of_getElem? (i := 278) rfl), rfl⟩
theorem wb_279 : (Jvm.Cond.static ({ cls := "OmegaDeskLaw", name := "unite", desc := "(LOmegaDesk;III[J)I" } : Jvm.MethodName)) ∈ WB := List.mem_filter.mpr ⟨List.mem_append_right _ (List.mem_of_getElem? (i := 279) rfl), rfl⟩
theorem wb_280 : (Jvm.Cond.codeWith ({ cls := "OmegaDeskLaw", name := "unite", desc := "(LOmegaDesk;III[J)I" } : Jvm.MethodName) method_6_code (6 : Nat) (Option.some Jvm.ClassFile.FieldType.int) [((0 : Nat), (12 : Nat), (15 : Nat), (13 : Nat)), ((0 : Nat), (12 : Nat), (19 : Nat), (15 : Nat))]) ∈ WB := List.mem_filter.mpr ⟨List.mem_append_right _ (List.mem_of_getElem? (i := 280) rfl), rfl⟩
theorem wb_281 : (Jvm.Cond.methodLink "OmegaDeskLaw" (25 : Nat) ({ cls := "OmegaDesk", name := "unite", desc := "(III)I" } : Jvm.MethodName)) ∈ WB := List.mem_filter.mpr ⟨List.mem_append_right _ (List.mem_of_getElem? (i := 281) rfl), rfl⟩
theorem wb_282 : (Jvm.Cond.instanceMethod ({ cls := "OmegaDesk", name := "unite", desc := "(III)I" } : Jvm.MethodName)) ∈ WB := List.mem_filter.mpr ⟨List.mem_append_right _ (List.mem_of_getElem? (i := 282) rfl), rfl⟩
theorem wb_283 : (Jvm.Cond.selects "OmegaDesk" ({ cls := "OmegaDesk", name := "unite", desc := "(III)I" } : Jvm.MethodName) ({ cls := "OmegaDesk", name := "unite", desc := "(III)I" } : Jvm.MethodName)) ∈ WB := List.mem_filter.mpr ⟨List.mem_append_right _ (List.mem_of_getElem? (i := 283) rfl), rfl⟩
theorem wb_284 : (Jvm.Cond.code ({ cls := "OmegaDesk", name := "unite", desc := "(III)I" } : Jvm.MethodName) prog_1_method_5_code (7 : Nat) (Option.some Jvm.ClassFile.FieldType.int)) ∈ WB := List.mem_filter.mpr ⟨List.mem_append_right _ (List.mem_of_getElem? (i := 284) rfl), rfl⟩
theorem wb_287 : (Jvm.Cond.methodLink "OmegaDesk" (75 : Nat) ({ cls := "OmegaDesk$Automaton", name := "append", desc := "(LOmegaDesk$Automaton;)V" } : Jvm.MethodName)) ∈ WB := List.mem_filter.mpr ⟨List.mem_append_right _ (List.mem_of_getElem? (i := 287) rfl), rfl⟩
theorem wb_288 : (Jvm.Cond.instanceMethod ({ cls := "OmegaDesk$Automaton", name := "append", desc := "(LOmegaDesk$Automaton;)V" } : Jvm.MethodName)) ∈ WB := List.mem_filter.mpr ⟨List.mem_append_right _ (List.mem_of_getElem? (i := 288) rfl), rfl⟩
theorem wb_289 : (Jvm.Cond.selects "OmegaDesk$Automaton" ({ cls := "OmegaDesk$Automaton", name := "append", desc := "(LOmegaDesk$Automaton;)V" } : Jvm.MethodName) ({ cls := "OmegaDesk$Automaton", name := "append", desc := "(LOmegaDesk$Automaton;)V" } : Jvm.MethodName)) ∈ WB := List.mem_filter.mpr ⟨List.mem_append_right _ (List.mem_of_getElem? (i := 289) rfl), rfl⟩
theorem wb_290 : (Jvm.Cond.code ({ cls := "OmegaDesk$Automaton", name := "append", desc := "(LOmegaDesk$Automaton;)V" } : Jvm.MethodName) prog_2_method_10_code (6 : Nat) (Option.none : Option Jvm.ClassFile.FieldType)) ∈ WB := List.mem_filter.mpr ⟨List.mem_append_right _ (List.mem_of_getElem? (i := 290) rfl), rfl⟩
theorem wb_291 : (Jvm.Cond.methodLink "OmegaDesk$Automaton" (38 : Nat) ({ cls := "OmegaDesk$Automaton", name := "isGood", desc := "(I)Z" } : Jvm.MethodName)) ∈ WB := List.mem_filter.mpr ⟨List.mem_append_right _ (List.mem_of_getElem? (i := 291) rfl), rfl⟩
theorem wb_292 : (Jvm.Cond.instanceMethod ({ cls := "OmegaDesk$Automaton", name := "isGood", desc := "(I)Z" } : Jvm.MethodName)) ∈ WB := List.mem_filter.mpr ⟨List.mem_append_right _ (List.mem_of_getElem? (i := 292) rfl), rfl⟩
theorem wb_293 : (Jvm.Cond.selects "OmegaDesk$Automaton" ({ cls := "OmegaDesk$Automaton", name := "isGood", desc := "(I)Z" } : Jvm.MethodName) ({ cls := "OmegaDesk$Automaton", name := "isGood", desc := "(I)Z" } : Jvm.MethodName)) ∈ WB := List.mem_filter.mpr ⟨List.mem_append_right _ (List.mem_of_getElem? (i := 293) rfl), rfl⟩
theorem wb_294 : (Jvm.Cond.code ({ cls := "OmegaDesk$Automaton", name := "isGood", desc := "(I)Z" } : Jvm.MethodName) prog_2_method_3_code (2 : Nat) (Option.some Jvm.ClassFile.FieldType.boolean)) ∈ WB := List.mem_filter.mpr ⟨List.mem_append_right _ (List.mem_of_getElem? (i := 294) rfl), rfl⟩
theorem wb_295 : (Jvm.Cond.methodLink "OmegaDesk$Automaton" (42 : Nat) ({ cls := "OmegaDesk$Automaton", name := "addState", desc := "(Z)I" } : Jvm.MethodName)) ∈ WB := List.mem_filter.mpr ⟨List.mem_append_right _ (List.mem_of_getElem? (i := 295) rfl), rfl⟩
theorem wb_296 : (Jvm.Cond.methodLink "OmegaDesk$Automaton" (46 : Nat) ({ cls := "OmegaDesk$Automaton", name := "joinAll", desc := "(III)V" } : Jvm.MethodName)) ∈ WB := List.mem_filter.mpr ⟨List.mem_append_right _ (List.mem_of_getElem? (i := 296) rfl), rfl⟩
theorem wb_298 : (Jvm.Cond.instanceMethod ({ cls := "OmegaDesk$Automaton", name := "joinAll", desc := "(III)V" } : Jvm.MethodName)) ∈ WB := List.mem_filter.mpr ⟨List.mem_append_right _ (List.mem_of_getElem? (i := 298) rfl), rfl⟩
theorem wb_299 : (Jvm.Cond.code ({ cls := "OmegaDesk$Automaton", name := "joinAll", desc := "(III)V" } : Jvm.MethodName) prog_2_method_11_code (5 : Nat) (Option.none : Option Jvm.ClassFile.FieldType)) ∈ WB := List.mem_filter.mpr ⟨List.mem_append_right _ (List.mem_of_getElem? (i := 299) rfl), rfl⟩
theorem wb_300 : (Jvm.Cond.methodLink "OmegaDesk$Automaton" (50 : Nat) ({ cls := "OmegaDesk$Automaton", name := "join", desc := "(III)V" } : Jvm.MethodName)) ∈ WB := List.mem_filter.mpr ⟨List.mem_append_right _ (List.mem_of_getElem? (i := 300) rfl), rfl⟩
set_option maxRecDepth 20000 in
theorem wb_301 : (Jvm.Cond.methodLink "OmegaDeskLaw" (85 : Nat) ({ cls := "OmegaDeskLaw", name := "trim", desc := "(LOmegaDesk;I[J)I" } : Jvm.MethodName)) ∈ WB := List.mem_filter.mpr ⟨List.mem_append_right _ (List.mem_of_getElem? (i := 301) rfl), rfl⟩
set_option maxRecDepth 20000 in
theorem wb_302 : (Jvm.Cond.static ({ cls := "OmegaDeskLaw", name := "trim", desc := "(LOmegaDesk;I[J)I" } : Jvm.MethodName)) ∈ WB := List.mem_filter.mpr ⟨List.mem_append_right _ (List.mem_of_getElem? (i := 302) rfl), rfl⟩
set_option maxRecDepth 20000 in
theorem wb_303 : (Jvm.Cond.codeWith ({ cls := "OmegaDeskLaw", name := "trim", desc := "(LOmegaDesk;I[J)I" } : Jvm.MethodName) method_7_code (4 : Nat) (Option.some Jvm.ClassFile.FieldType.int) [((0 : Nat), (9 : Nat), (12 : Nat), (13 : Nat))]) ∈ WB := List.mem_filter.mpr ⟨List.mem_append_right _ (List.mem_of_getElem? (i := 303) rfl), rfl⟩
set_option maxRecDepth 20000 in
theorem wb_304 : (Jvm.Cond.methodLink "OmegaDeskLaw" (29 : Nat) ({ cls := "OmegaDesk", name := "trim", desc := "(I)I" } : Jvm.MethodName)) ∈ WB := List.mem_filter.mpr ⟨List.mem_append_right _ (List.mem_of_getElem? (i := 304) rfl), rfl⟩
set_option maxRecDepth 20000 in
theorem wb_305 : (Jvm.Cond.instanceMethod ({ cls := "OmegaDesk", name := "trim", desc := "(I)I" } : Jvm.MethodName)) ∈ WB := List.mem_filter.mpr ⟨List.mem_append_right _ (List.mem_of_getElem? (i := 305) rfl), rfl⟩
set_option maxRecDepth 20000 in
theorem wb_306 : (Jvm.Cond.selects "OmegaDesk" ({ cls := "OmegaDesk", name := "trim", desc := "(I)I" } : Jvm.MethodName) ({ cls := "OmegaDesk", name := "trim", desc := "(I)I" } : Jvm.MethodName)) ∈ WB := List.mem_filter.mpr ⟨List.mem_append_right _ (List.mem_of_getElem? (i := 306) rfl), rfl⟩
set_option maxRecDepth 20000 in
theorem wb_307 : (Jvm.Cond.code ({ cls := "OmegaDesk", name := "trim", desc := "(I)I" } : Jvm.MethodName) prog_1_method_6_code (3 : Nat) (Option.some Jvm.ClassFile.FieldType.int)) ∈ WB := List.mem_filter.mpr ⟨List.mem_append_right _ (List.mem_of_getElem? (i := 307) rfl), rfl⟩
set_option maxRecDepth 20000 in
theorem wb_308 : (Jvm.Cond.methodLink "OmegaDesk" (79 : Nat) ({ cls := "OmegaDesk$Automaton", name := "copy", desc := "(LOmegaDesk$Automaton;)V" } : Jvm.MethodName)) ∈ WB := List.mem_filter.mpr ⟨List.mem_append_right _ (List.mem_of_getElem? (i := 308) rfl), rfl⟩
set_option maxRecDepth 20000 in
theorem wb_309 : (Jvm.Cond.instanceMethod ({ cls := "OmegaDesk$Automaton", name := "copy", desc := "(LOmegaDesk$Automaton;)V" } : Jvm.MethodName)) ∈ WB := List.mem_filter.mpr ⟨List.mem_append_right _ (List.mem_of_getElem? (i := 309) rfl), rfl⟩
set_option maxRecDepth 20000 in
theorem wb_310 : (Jvm.Cond.selects "OmegaDesk$Automaton" ({ cls := "OmegaDesk$Automaton", name := "copy", desc := "(LOmegaDesk$Automaton;)V" } : Jvm.MethodName) ({ cls := "OmegaDesk$Automaton", name := "copy", desc := "(LOmegaDesk$Automaton;)V" } : Jvm.MethodName)) ∈ WB := List.mem_filter.mpr ⟨List.mem_append_right _ (List.mem_of_getElem? (i := 310) rfl), rfl⟩
set_option maxRecDepth 20000 in
theorem wb_311 : (Jvm.Cond.code ({ cls := "OmegaDesk$Automaton", name := "copy", desc := "(LOmegaDesk$Automaton;)V" } : Jvm.MethodName) prog_2_method_9_code (2 : Nat) (Option.none : Option Jvm.ClassFile.FieldType)) ∈ WB := List.mem_filter.mpr ⟨List.mem_append_right _ (List.mem_of_getElem? (i := 311) rfl), rfl⟩
set_option maxRecDepth 20000 in
theorem wb_312 : (Jvm.Cond.methodLink "OmegaDesk$Automaton" (32 : Nat) ({ cls := "java/lang/System", name := "arraycopy", desc := "(Ljava/lang/Object;ILjava/lang/Object;II)V" } : Jvm.MethodName)) ∈ WB := List.mem_filter.mpr ⟨List.mem_append_right _ (List.mem_of_getElem? (i := 312) rfl), rfl⟩
set_option maxRecDepth 20000 in
theorem wb_313 : (Jvm.Cond.static ({ cls := "java/lang/System", name := "arraycopy", desc := "(Ljava/lang/Object;ILjava/lang/Object;II)V" } : Jvm.MethodName)) ∈ WB := List.mem_filter.mpr ⟨List.mem_append_right _ (List.mem_of_getElem? (i := 313) rfl), rfl⟩
set_option maxRecDepth 20000 in
theorem wb_314 : (Jvm.Cond.native ({ cls := "java/lang/System", name := "arraycopy", desc := "(Ljava/lang/Object;ILjava/lang/Object;II)V" } : Jvm.MethodName)) ∈ WB := List.mem_filter.mpr ⟨List.mem_append_right _ (List.mem_of_getElem? (i := 314) rfl), rfl⟩
set_option maxRecDepth 20000 in
theorem wb_315 : (Jvm.Cond.methodLink "OmegaDesk" (82 : Nat) ({ cls := "OmegaDesk$Automaton", name := "usefulStates", desc := "()I" } : Jvm.MethodName)) ∈ WB := List.mem_filter.mpr ⟨List.mem_append_right _ (List.mem_of_getElem? (i := 315) rfl), rfl⟩
set_option maxRecDepth 20000 in
theorem wb_316 : (Jvm.Cond.instanceMethod ({ cls := "OmegaDesk$Automaton", name := "usefulStates", desc := "()I" } : Jvm.MethodName)) ∈ WB := List.mem_filter.mpr ⟨List.mem_append_right _ (List.mem_of_getElem? (i := 316) rfl), rfl⟩
set_option maxRecDepth 20000 in
theorem wb_317 : (Jvm.Cond.selects "OmegaDesk$Automaton" ({ cls := "OmegaDesk$Automaton", name := "usefulStates", desc := "()I" } : Jvm.MethodName) ({ cls := "OmegaDesk$Automaton", name := "usefulStates", desc := "()I" } : Jvm.MethodName)) ∈ WB := List.mem_filter.mpr ⟨List.mem_append_right _ (List.mem_of_getElem? (i := 317) rfl), rfl⟩
set_option maxRecDepth 20000 in
theorem wb_318 : (Jvm.Cond.code ({ cls := "OmegaDesk$Automaton", name := "usefulStates", desc := "()I" } : Jvm.MethodName) prog_2_method_15_code (4 : Nat) (Option.some Jvm.ClassFile.FieldType.int)) ∈ WB := List.mem_filter.mpr ⟨List.mem_append_right _ (List.mem_of_getElem? (i := 318) rfl), rfl⟩
set_option maxRecDepth 20000 in
theorem wb_319 : (Jvm.Cond.methodLink "OmegaDesk$Automaton" (68 : Nat) ({ cls := "OmegaDesk$Automaton", name := "emptyPassage", desc := "(I)I" } : Jvm.MethodName)) ∈ WB := List.mem_filter.mpr ⟨List.mem_append_right _ (List.mem_of_getElem? (i := 319) rfl), rfl⟩
set_option maxRecDepth 20000 in
theorem wb_320 : (Jvm.Cond.instanceMethod ({ cls := "OmegaDesk$Automaton", name := "emptyPassage", desc := "(I)I" } : Jvm.MethodName)) ∈ WB := List.mem_filter.mpr ⟨List.mem_append_right _ (List.mem_of_getElem? (i := 320) rfl), rfl⟩
set_option maxRecDepth 20000 in
theorem wb_321 : (Jvm.Cond.selects "OmegaDesk$Automaton" ({ cls := "OmegaDesk$Automaton", name := "emptyPassage", desc := "(I)I" } : Jvm.MethodName) ({ cls := "OmegaDesk$Automaton", name := "emptyPassage", desc := "(I)I" } : Jvm.MethodName)) ∈ WB := List.mem_filter.mpr ⟨List.mem_append_right _ (List.mem_of_getElem? (i := 321) rfl), rfl⟩
set_option maxRecDepth 20000 in
theorem wb_322 : (Jvm.Cond.code ({ cls := "OmegaDesk$Automaton", name := "emptyPassage", desc := "(I)I" } : Jvm.MethodName) prog_2_method_16_code (4 : Nat) (Option.some Jvm.ClassFile.FieldType.int)) ∈ WB := List.mem_filter.mpr ⟨List.mem_append_right _ (List.mem_of_getElem? (i := 322) rfl), rfl⟩
set_option maxRecDepth 20000 in
theorem wb_323 : (Jvm.Cond.methodLink "OmegaDesk$Automaton" (71 : Nat) ({ cls := "OmegaDesk$Automaton", name := "longerPassage", desc := "(II)I" } : Jvm.MethodName)) ∈ WB := List.mem_filter.mpr ⟨List.mem_append_right _ (List.mem_of_getElem? (i := 323) rfl), rfl⟩
set_option maxRecDepth 20000 in
theorem wb_324 : (Jvm.Cond.instanceMethod ({ cls := "OmegaDesk$Automaton", name := "longerPassage", desc := "(II)I" } : Jvm.MethodName)) ∈ WB := List.mem_filter.mpr ⟨List.mem_append_right _ (List.mem_of_getElem? (i := 324) rfl), rfl⟩
set_option maxRecDepth 20000 in
theorem wb_325 : (Jvm.Cond.selects "OmegaDesk$Automaton" ({ cls := "OmegaDesk$Automaton", name := "longerPassage", desc := "(II)I" } : Jvm.MethodName) ({ cls := "OmegaDesk$Automaton", name := "longerPassage", desc := "(II)I" } : Jvm.MethodName)) ∈ WB := List.mem_filter.mpr ⟨List.mem_append_right _ (List.mem_of_getElem? (i := 325) rfl), rfl⟩
set_option maxRecDepth 20000 in
theorem wb_326 : (Jvm.Cond.code ({ cls := "OmegaDesk$Automaton", name := "longerPassage", desc := "(II)I" } : Jvm.MethodName) prog_2_method_17_code (7 : Nat) (Option.some Jvm.ClassFile.FieldType.int)) ∈ WB := List.mem_filter.mpr ⟨List.mem_append_right _ (List.mem_of_getElem? (i := 326) rfl), rfl⟩
set_option maxRecDepth 20000 in
theorem wb_327 : (Jvm.Cond.methodLink "OmegaDesk$Automaton" (85 : Nat) ({ cls := "OmegaDesk$Passage", name := "ends", desc := "(II)I" } : Jvm.MethodName)) ∈ WB := List.mem_filter.mpr ⟨List.mem_append_right _ (List.mem_of_getElem? (i := 327) rfl), rfl⟩
set_option maxRecDepth 20000 in
theorem wb_328 : (Jvm.Cond.static ({ cls := "OmegaDesk$Passage", name := "ends", desc := "(II)I" } : Jvm.MethodName)) ∈ WB := List.mem_filter.mpr ⟨List.mem_append_right _ (List.mem_of_getElem? (i := 328) rfl), rfl⟩
set_option maxRecDepth 20000 in
theorem wb_329 : (Jvm.Cond.code ({ cls := "OmegaDesk$Passage", name := "ends", desc := "(II)I" } : Jvm.MethodName) prog_4_method_2_code (2 : Nat) (Option.some Jvm.ClassFile.FieldType.int)) ∈ WB := List.mem_filter.mpr ⟨List.mem_append_right _ (List.mem_of_getElem? (i := 329) rfl), rfl⟩
set_option maxRecDepth 20000 in
theorem wb_330 : (Jvm.Cond.methodLink "OmegaDesk$Automaton" (88 : Nat) ({ cls := "OmegaDesk$Passage", name := "goodEnds", desc := "(II)I" } : Jvm.MethodName)) ∈ WB := List.mem_filter.mpr ⟨List.mem_append_right _ (List.mem_of_getElem? (i := 330) rfl), rfl⟩
set_option maxRecDepth 20000 in
theorem wb_331 : (Jvm.Cond.static ({ cls := "OmegaDesk$Passage", name := "goodEnds", desc := "(II)I" } : Jvm.MethodName)) ∈ WB := List.mem_filter.mpr ⟨List.mem_append_right _ (List.mem_of_getElem? (i := 331) rfl), rfl⟩
set_option maxRecDepth 20000 in
theorem wb_332 : (Jvm.Cond.code ({ cls := "OmegaDesk$Passage", name := "goodEnds", desc := "(II)I" } : Jvm.MethodName) prog_4_method_3_code (2 : Nat) (Option.some Jvm.ClassFile.FieldType.int)) ∈ WB := List.mem_filter.mpr ⟨List.mem_append_right _ (List.mem_of_getElem? (i := 332) rfl), rfl⟩
set_option maxRecDepth 20000 in
theorem wb_333 : (Jvm.Cond.methodLink "OmegaDesk$Automaton" (74 : Nat) ({ cls := "OmegaDesk$Passage", name := "chained", desc := "(I)I" } : Jvm.MethodName)) ∈ WB := List.mem_filter.mpr ⟨List.mem_append_right _ (List.mem_of_getElem? (i := 333) rfl), rfl⟩
set_option maxRecDepth 20000 in
theorem wb_334 : (Jvm.Cond.static ({ cls := "OmegaDesk$Passage", name := "chained", desc := "(I)I" } : Jvm.MethodName)) ∈ WB := List.mem_filter.mpr ⟨List.mem_append_right _ (List.mem_of_getElem? (i := 334) rfl), rfl⟩
set_option maxRecDepth 20000 in
theorem wb_335 : (Jvm.Cond.code ({ cls := "OmegaDesk$Passage", name := "chained", desc := "(I)I" } : Jvm.MethodName) prog_4_method_5_code (4 : Nat) (Option.some Jvm.ClassFile.FieldType.int)) ∈ WB := List.mem_filter.mpr ⟨List.mem_append_right _ (List.mem_of_getElem? (i := 335) rfl), rfl⟩
set_option maxRecDepth 20000 in
theorem wb_336 : (Jvm.Cond.methodLink "OmegaDesk$Passage" (11 : Nat) ({ cls := "OmegaDesk$Passage", name := "ends", desc := "(II)I" } : Jvm.MethodName)) ∈ WB := List.mem_filter.mpr ⟨List.mem_append_right _ (List.mem_of_getElem? (i := 336) rfl), rfl⟩
set_option maxRecDepth 20000 in
theorem wb_337 : (Jvm.Cond.methodLink "OmegaDesk$Automaton" (79 : Nat) ({ cls := "OmegaDesk$Passage", name := "fromStart", desc := "(I)I" } : Jvm.MethodName)) ∈ WB := List.mem_filter.mpr ⟨List.mem_append_right _ (List.mem_of_getElem? (i := 337) rfl), rfl⟩
set_option maxRecDepth 20000 in
theorem wb_338 : (Jvm.Cond.static ({ cls := "OmegaDesk$Passage", name := "fromStart", desc := "(I)I" } : Jvm.MethodName)) ∈ WB := List.mem_filter.mpr ⟨List.mem_append_right _ (List.mem_of_getElem? (i := 338) rfl), rfl⟩
set_option maxRecDepth 20000 in
theorem wb_339 : (Jvm.Cond.code ({ cls := "OmegaDesk$Passage", name := "fromStart", desc := "(I)I" } : Jvm.MethodName) prog_4_method_4_code (1 : Nat) (Option.some Jvm.ClassFile.FieldType.int)) ∈ WB := List.mem_filter.mpr ⟨List.mem_append_right _ (List.mem_of_getElem? (i := 339) rfl), rfl⟩
set_option maxRecDepth 20000 in
theorem wb_340 : (Jvm.Cond.methodLink "OmegaDesk$Automaton" (82 : Nat) ({ cls := "OmegaDesk$Passage", name := "takenRepeated", desc := "(I)I" } : Jvm.MethodName)) ∈ WB := List.mem_filter.mpr ⟨List.mem_append_right _ (List.mem_of_getElem? (i := 340) rfl), rfl⟩
set_option maxRecDepth 20000 in
theorem wb_341 : (Jvm.Cond.static ({ cls := "OmegaDesk$Passage", name := "takenRepeated", desc := "(I)I" } : Jvm.MethodName)) ∈ WB := List.mem_filter.mpr ⟨List.mem_append_right _ (List.mem_of_getElem? (i := 341) rfl), rfl⟩
set_option maxRecDepth 20000 in
theorem wb_342 : (Jvm.Cond.code ({ cls := "OmegaDesk$Passage", name := "takenRepeated", desc := "(I)I" } : Jvm.MethodName) prog_4_method_6_code (5 : Nat) (Option.some Jvm.ClassFile.FieldType.int)) ∈ WB := List.mem_filter.mpr ⟨List.mem_append_right _ (List.mem_of_getElem? (i := 342) rfl), rfl⟩
set_option maxRecDepth 20000 in
theorem wb_343 : (Jvm.Cond.constant "OmegaDesk$Passage" (15 : Nat) (-252645136 : Int32)) ∈ WB := List.mem_filter.mpr ⟨List.mem_append_right _ (List.mem_of_getElem? (i := 343) rfl), rfl⟩
set_option maxRecDepth 20000 in
theorem wb_344 : (Jvm.Cond.methodLink "OmegaDesk$Passage" (16 : Nat) ({ cls := "OmegaDesk$Passage", name := "chained", desc := "(I)I" } : Jvm.MethodName)) ∈ WB := List.mem_filter.mpr ⟨List.mem_append_right _ (List.mem_of_getElem? (i := 344) rfl), rfl⟩
set_option maxRecDepth 20000 in
theorem wb_345 : (Jvm.Cond.methodLink "OmegaDesk$Passage" (20 : Nat) ({ cls := "OmegaDesk$Passage", name := "goodEnds", desc := "(II)I" } : Jvm.MethodName)) ∈ WB := List.mem_filter.mpr ⟨List.mem_append_right _ (List.mem_of_getElem? (i := 345) rfl), rfl⟩
set_option maxRecDepth 20000 in
theorem wb_346 : (Jvm.Cond.methodLink "OmegaDesk$Passage" (23 : Nat) ({ cls := "OmegaDesk$Passage", name := "comesBack", desc := "(III)Z" } : Jvm.MethodName)) ∈ WB := List.mem_filter.mpr ⟨List.mem_append_right _ (List.mem_of_getElem? (i := 346) rfl), rfl⟩
set_option maxRecDepth 20000 in
theorem wb_347 : (Jvm.Cond.static ({ cls := "OmegaDesk$Passage", name := "comesBack", desc := "(III)Z" } : Jvm.MethodName)) ∈ WB := List.mem_filter.mpr ⟨List.mem_append_right _ (List.mem_of_getElem? (i := 347) rfl), rfl⟩
set_option maxRecDepth 20000 in
theorem wb_348 : (Jvm.Cond.code ({ cls := "OmegaDesk$Passage", name := "comesBack", desc := "(III)Z" } : Jvm.MethodName) prog_4_method_7_code (4 : Nat) (Option.some Jvm.ClassFile.FieldType.boolean)) ∈ WB := List.mem_filter.mpr ⟨List.mem_append_right _ (List.mem_of_getElem? (i := 348) rfl), rfl⟩
set_option maxRecDepth 20000 in
theorem wb_349 : (Jvm.Cond.methodLink "OmegaDesk" (86 : Nat) ({ cls := "OmegaDesk$Automaton", name := "becomePart", desc := "(LOmegaDesk$Automaton;I)V" } : Jvm.MethodName)) ∈ WB := List.mem_filter.mpr ⟨List.mem_append_right _ (List.mem_of_getElem? (i := 349) rfl), rfl⟩
set_option maxRecDepth 20000 in
theorem wb_350 : (Jvm.Cond.instanceMethod ({ cls := "OmegaDesk$Automaton", name := "becomePart", desc := "(LOmegaDesk$Automaton;I)V" } : Jvm.MethodName)) ∈ WB := List.mem_filter.mpr ⟨List.mem_append_right _ (List.mem_of_getElem? (i := 350) rfl), rfl⟩
set_option maxRecDepth 20000 in
theorem wb_351 : (Jvm.Cond.selects "OmegaDesk$Automaton" ({ cls := "OmegaDesk$Automaton", name := "becomePart", desc := "(LOmegaDesk$Automaton;I)V" } : Jvm.MethodName) ({ cls := "OmegaDesk$Automaton", name := "becomePart", desc := "(LOmegaDesk$Automaton;I)V" } : Jvm.MethodName)) ∈ WB := List.mem_filter.mpr ⟨List.mem_append_right _ (List.mem_of_getElem? (i := 351) rfl), rfl⟩
set_option maxRecDepth 20000 in
theorem wb_352 : (Jvm.Cond.code ({ cls := "OmegaDesk$Automaton", name := "becomePart", desc := "(LOmegaDesk$Automaton;I)V" } : Jvm.MethodName) prog_2_method_12_code (6 : Nat) (Option.none : Option Jvm.ClassFile.FieldType)) ∈ WB := List.mem_filter.mpr ⟨List.mem_append_right _ (List.mem_of_getElem? (i := 352) rfl), rfl⟩
set_option maxRecDepth 20000 in
theorem wb_353 : (Jvm.Cond.methodLink "OmegaDesk$Automaton" (53 : Nat) ({ cls := "OmegaDesk$Automaton", name := "wipe", desc := "()V" } : Jvm.MethodName)) ∈ WB := List.mem_filter.mpr ⟨List.mem_append_right _ (List.mem_of_getElem? (i := 353) rfl), rfl⟩
set_option maxRecDepth 20000 in
theorem wb_354 : (Jvm.Cond.methodLink "OmegaDesk$Automaton" (56 : Nat) ({ cls := "OmegaDesk$Automaton", name := "placeAmong", desc := "(II)I" } : Jvm.MethodName)) ∈ WB := List.mem_filter.mpr ⟨List.mem_append_right _ (List.mem_of_getElem? (i := 354) rfl), rfl⟩
set_option maxRecDepth 20000 in
theorem wb_355 : (Jvm.Cond.static ({ cls := "OmegaDesk$Automaton", name := "placeAmong", desc := "(II)I" } : Jvm.MethodName)) ∈ WB := List.mem_filter.mpr ⟨List.mem_append_right _ (List.mem_of_getElem? (i := 355) rfl), rfl⟩
set_option maxRecDepth 20000 in
theorem wb_356 : (Jvm.Cond.code ({ cls := "OmegaDesk$Automaton", name := "placeAmong", desc := "(II)I" } : Jvm.MethodName) prog_2_method_14_code (2 : Nat) (Option.some Jvm.ClassFile.FieldType.int)) ∈ WB := List.mem_filter.mpr ⟨List.mem_append_right _ (List.mem_of_getElem? (i := 356) rfl), rfl⟩
set_option maxRecDepth 20000 in
theorem wb_357 : (Jvm.Cond.methodLink "OmegaDesk$Automaton" (62 : Nat) ({ cls := "java/lang/Integer", name := "bitCount", desc := "(I)I" } : Jvm.MethodName)) ∈ WB := List.mem_filter.mpr ⟨List.mem_append_right _ (List.mem_of_getElem? (i := 357) rfl), rfl⟩
set_option maxRecDepth 20000 in
theorem wb_358 : (Jvm.Cond.static ({ cls := "java/lang/Integer", name := "bitCount", desc := "(I)I" } : Jvm.MethodName)) ∈ WB := List.mem_filter.mpr ⟨List.mem_append_right _ (List.mem_of_getElem? (i := 358) rfl), rfl⟩
set_option maxRecDepth 20000 in
theorem wb_359 : (Jvm.Cond.code ({ cls := "java/lang/Integer", name := "bitCount", desc := "(I)I" } : Jvm.MethodName) prog_12_method_49_code (1 : Nat) (Option.some Jvm.ClassFile.FieldType.int)) ∈ WB := List.mem_filter.mpr ⟨List.mem_append_right _ (List.mem_of_getElem? (i := 359) rfl), rfl⟩
set_option maxRecDepth 20000 in
theorem wb_360 : (Jvm.Cond.constant "java/lang/Integer" (265 : Nat) (1431655765 : Int32)) ∈ WB := List.mem_filter.mpr ⟨List.mem_append_right _ (List.mem_of_getElem? (i := 360) rfl), rfl⟩
set_option maxRecDepth 20000 in
theorem wb_361 : (Jvm.Cond.constant "java/lang/Integer" (266 : Nat) (858993459 : Int32)) ∈ WB := List.mem_filter.mpr ⟨List.mem_append_right _ (List.mem_of_getElem? (i := 361) rfl), rfl⟩
set_option maxRecDepth 20000 in
theorem wb_362 : (Jvm.Cond.constant "java/lang/Integer" (267 : Nat) (252645135 : Int32)) ∈ WB := List.mem_filter.mpr ⟨List.mem_append_right _ (List.mem_of_getElem? (i := 362) rfl), rfl⟩
set_option maxRecDepth 20000 in
theorem wb_363 : (Jvm.Cond.methodLink "OmegaDesk$Automaton" (59 : Nat) ({ cls := "OmegaDesk$Automaton", name := "packed", desc := "(II)I" } : Jvm.MethodName)) ∈ WB := List.mem_filter.mpr ⟨List.mem_append_right _ (List.mem_of_getElem? (i := 363) rfl), rfl⟩
set_option maxRecDepth 20000 in
theorem wb_364 : (Jvm.Cond.static ({ cls := "OmegaDesk$Automaton", name := "packed", desc := "(II)I" } : Jvm.MethodName)) ∈ WB := List.mem_filter.mpr ⟨List.mem_append_right _ (List.mem_of_getElem? (i := 364) rfl), rfl⟩
set_option maxRecDepth 20000 in
theorem wb_365 : (Jvm.Cond.code ({ cls := "OmegaDesk$Automaton", name := "packed", desc := "(II)I" } : Jvm.MethodName) prog_2_method_13_code (4 : Nat) (Option.some Jvm.ClassFile.FieldType.int)) ∈ WB := List.mem_filter.mpr ⟨List.mem_append_right _ (List.mem_of_getElem? (i := 365) rfl), rfl⟩
set_option maxRecDepth 20000 in
theorem wb_366 : (Jvm.Cond.methodLink "OmegaDeskLaw" (89 : Nat) ({ cls := "OmegaDeskLaw", name := "empty", desc := "(LOmegaDesk;I[J)I" } : Jvm.MethodName)) ∈ WB := List.mem_filter.mpr ⟨List.mem_append_right _ (List.mem_of_getElem? (i := 366) rfl), rfl⟩
set_option maxRecDepth 20000 in
theorem wb_367 : (Jvm.Cond.static ({ cls := "OmegaDeskLaw", name := "empty", desc := "(LOmegaDesk;I[J)I" } : Jvm.MethodName)) ∈ WB := List.mem_filter.mpr ⟨List.mem_append_right _ (List.mem_of_getElem? (i := 367) rfl), rfl⟩
set_option maxRecDepth 20000 in
theorem wb_368 : (Jvm.Cond.codeWith ({ cls := "OmegaDeskLaw", name := "empty", desc := "(LOmegaDesk;I[J)I" } : Jvm.MethodName) method_8_code (4 : Nat) (Option.some Jvm.ClassFile.FieldType.int) [((0 : Nat), (16 : Nat), (19 : Nat), (13 : Nat))]) ∈ WB := List.mem_filter.mpr ⟨List.mem_append_right _ (List.mem_of_getElem? (i := 368) rfl), rfl⟩
set_option maxRecDepth 20000 in
theorem wb_369 : (Jvm.Cond.methodLink "OmegaDeskLaw" (33 : Nat) ({ cls := "OmegaDesk", name := "empty", desc := "(I)Z" } : Jvm.MethodName)) ∈ WB := List.mem_filter.mpr ⟨List.mem_append_right _ (List.mem_of_getElem? (i := 369) rfl), rfl⟩
set_option maxRecDepth 20000 in
theorem wb_370 : (Jvm.Cond.instanceMethod ({ cls := "OmegaDesk", name := "empty", desc := "(I)Z" } : Jvm.MethodName)) ∈ WB := List.mem_filter.mpr ⟨List.mem_append_right _ (List.mem_of_getElem? (i := 370) rfl), rfl⟩
set_option maxRecDepth 20000 in
theorem wb_371 : (Jvm.Cond.selects "OmegaDesk" ({ cls := "OmegaDesk", name := "empty", desc := "(I)Z" } : Jvm.MethodName) ({ cls := "OmegaDesk", name := "empty", desc := "(I)Z" } : Jvm.MethodName)) ∈ WB := List.mem_filter.mpr ⟨List.mem_append_right _ (List.mem_of_getElem? (i := 371) rfl), rfl⟩
set_option maxRecDepth 20000 in
theorem wb_372 : (Jvm.Cond.code ({ cls := "OmegaDesk", name := "empty", desc := "(I)Z" } : Jvm.MethodName) prog_1_method_7_code (2 : Nat) (Option.some Jvm.ClassFile.FieldType.boolean)) ∈ WB := List.mem_filter.mpr ⟨List.mem_append_right _ (List.mem_of_getElem? (i := 372) rfl), rfl⟩
set_option maxRecDepth 20000 in
theorem wb_373 : (Jvm.Cond.methodLink "OmegaDeskLaw" (92 : Nat) ({ cls := "OmegaDeskLaw", name := "takes", desc := "(LOmegaDesk;IIIII[J)I" } : Jvm.MethodName)) ∈ WB := List.mem_filter.mpr ⟨List.mem_append_right _ (List.mem_of_getElem? (i := 373) rfl), rfl⟩
set_option maxRecDepth 20000 in
theorem wb_374 : (Jvm.Cond.static ({ cls := "OmegaDeskLaw", name := "takes", desc := "(LOmegaDesk;IIIII[J)I" } : Jvm.MethodName)) ∈ WB := List.mem_filter.mpr ⟨List.mem_append_right _ (List.mem_of_getElem? (i := 374) rfl), rfl⟩
set_option maxRecDepth 20000 in
theorem wb_375 : (Jvm.Cond.codeWith ({ cls := "OmegaDeskLaw", name := "takes", desc := "(LOmegaDesk;IIIII[J)I" } : Jvm.MethodName) method_9_code (8 : Nat) (Option.some Jvm.ClassFile.FieldType.int) [((0 : Nat), (23 : Nat), (26 : Nat), (13 : Nat))]) ∈ WB := List.mem_filter.mpr ⟨List.mem_append_right _ (List.mem_of_getElem? (i := 375) rfl), rfl⟩
set_option maxRecDepth 20000 in
theorem wb_376 : (Jvm.Cond.methodLink "OmegaDeskLaw" (37 : Nat) ({ cls := "OmegaDesk", name := "takes", desc := "(IIIII)Z" } : Jvm.MethodName)) ∈ WB := List.mem_filter.mpr ⟨List.mem_append_right _ (List.mem_of_getElem? (i := 376) rfl), rfl⟩
set_option maxRecDepth 20000 in
theorem wb_377 : (Jvm.Cond.instanceMethod ({ cls := "OmegaDesk", name := "takes", desc := "(IIIII)Z" } : Jvm.MethodName)) ∈ WB := List.mem_filter.mpr ⟨List.mem_append_right _ (List.mem_of_getElem? (i := 377) rfl), rfl⟩
set_option maxRecDepth 20000 in
theorem wb_378 : (Jvm.Cond.selects "OmegaDesk" ({ cls := "OmegaDesk", name := "takes", desc := "(IIIII)Z" } : Jvm.MethodName) ({ cls := "OmegaDesk", name := "takes", desc := "(IIIII)Z" } : Jvm.MethodName)) ∈ WB := List.mem_filter.mpr ⟨List.mem_append_right _ (List.mem_of_getElem? (i := 378) rfl), rfl⟩
set_option maxRecDepth 20000 in
theorem wb_379 : (Jvm.Cond.code ({ cls := "OmegaDesk", name := "takes", desc := "(IIIII)Z" } : Jvm.MethodName) prog_1_method_8_code (9 : Nat) (Option.some Jvm.ClassFile.FieldType.boolean)) ∈ WB := List.mem_filter.mpr ⟨List.mem_append_right _ (List.mem_of_getElem? (i := 379) rfl), rfl⟩
set_option maxRecDepth 20000 in
theorem wb_381 : (Jvm.Cond.methodLink "OmegaDesk" (92 : Nat) ({ cls := "OmegaDesk", name := "isWord", desc := "(II)Z" } : Jvm.MethodName)) ∈ WB := List.mem_filter.mpr ⟨List.mem_append_right _ (List.mem_of_getElem? (i := 381) rfl), rfl⟩
set_option maxRecDepth 20000 in
theorem wb_382 : (Jvm.Cond.static ({ cls := "OmegaDesk", name := "isWord", desc := "(II)Z" } : Jvm.MethodName)) ∈ WB := List.mem_filter.mpr ⟨List.mem_append_right _ (List.mem_of_getElem? (i := 382) rfl), rfl⟩
set_option maxRecDepth 20000 in
theorem wb_383 : (Jvm.Cond.code ({ cls := "OmegaDesk", name := "isWord", desc := "(II)Z" } : Jvm.MethodName) prog_1_method_16_code (2 : Nat) (Option.some Jvm.ClassFile.FieldType.boolean)) ∈ WB := List.mem_filter.mpr ⟨List.mem_append_right _ (List.mem_of_getElem? (i := 383) rfl), rfl⟩
set_option maxRecDepth 20000 in
theorem wb_385 : (Jvm.Cond.methodLink "OmegaDesk" (98 : Nat) ({ cls := "OmegaDesk$Automaton", name := "passageOf", desc := "(II)I" } : Jvm.MethodName)) ∈ WB := List.mem_filter.mpr ⟨List.mem_append_right _ (List.mem_of_getElem? (i := 385) rfl), rfl⟩
set_option maxRecDepth 20000 in
theorem wb_386 : (Jvm.Cond.instanceMethod ({ cls := "OmegaDesk$Automaton", name := "passageOf", desc := "(II)I" } : Jvm.MethodName)) ∈ WB := List.mem_filter.mpr ⟨List.mem_append_right _ (List.mem_of_getElem? (i := 386) rfl), rfl⟩
set_option maxRecDepth 20000 in
theorem wb_387 : (Jvm.Cond.selects "OmegaDesk$Automaton" ({ cls := "OmegaDesk$Automaton", name := "passageOf", desc := "(II)I" } : Jvm.MethodName) ({ cls := "OmegaDesk$Automaton", name := "passageOf", desc := "(II)I" } : Jvm.MethodName)) ∈ WB := List.mem_filter.mpr ⟨List.mem_append_right _ (List.mem_of_getElem? (i := 387) rfl), rfl⟩
set_option maxRecDepth 20000 in
theorem wb_388 : (Jvm.Cond.code ({ cls := "OmegaDesk$Automaton", name := "passageOf", desc := "(II)I" } : Jvm.MethodName) prog_2_method_18_code (5 : Nat) (Option.some Jvm.ClassFile.FieldType.int)) ∈ WB := List.mem_filter.mpr ⟨List.mem_append_right _ (List.mem_of_getElem? (i := 388) rfl), rfl⟩
set_option maxRecDepth 20000 in
theorem wb_389 : (Jvm.Cond.methodLink "OmegaDesk" (102 : Nat) ({ cls := "OmegaDesk$Passage", name := "fromStart", desc := "(I)I" } : Jvm.MethodName)) ∈ WB := List.mem_filter.mpr ⟨List.mem_append_right _ (List.mem_of_getElem? (i := 389) rfl), rfl⟩
set_option maxRecDepth 20000 in
theorem wb_390 : (Jvm.Cond.methodLink "OmegaDesk" (108 : Nat) ({ cls := "OmegaDesk$Passage", name := "takenRepeated", desc := "(I)I" } : Jvm.MethodName)) ∈ WB := List.mem_filter.mpr ⟨List.mem_append_right _ (List.mem_of_getElem? (i := 390) rfl), rfl⟩
set_option maxRecDepth 20000 in
theorem wb_391 : (Jvm.Cond.methodLink "OmegaDeskLaw" (96 : Nat) ({ cls := "OmegaDeskLaw", name := "included", desc := "(LOmegaDesk;II[J)I" } : Jvm.MethodName)) ∈ WB := List.mem_filter.mpr ⟨List.mem_append_right _ (List.mem_of_getElem? (i := 391) rfl), rfl⟩
set_option maxRecDepth 20000 in
theorem wb_392 : (Jvm.Cond.static ({ cls := "OmegaDeskLaw", name := "included", desc := "(LOmegaDesk;II[J)I" } : Jvm.MethodName)) ∈ WB := List.mem_filter.mpr ⟨List.mem_append_right _ (List.mem_of_getElem? (i := 392) rfl), rfl⟩
set_option maxRecDepth 20000 in
theorem wb_393 : (Jvm.Cond.codeWith ({ cls := "OmegaDeskLaw", name := "included", desc := "(LOmegaDesk;II[J)I" } : Jvm.MethodName) method_10_code (5 : Nat) (Option.some Jvm.ClassFile.FieldType.int) [((0 : Nat), (17 : Nat), (20 : Nat), (13 : Nat)), ((0 : Nat), (17 : Nat), (24 : Nat), (15 : Nat))]) ∈ WB := List.mem_filter.mpr ⟨List.mem_append_right _ (List.mem_of_getElem? (i := 393) rfl), rfl⟩
set_option maxRecDepth 20000 in
theorem wb_394 : (Jvm.Cond.methodLink "OmegaDeskLaw" (41 : Nat) ({ cls := "OmegaDesk", name := "included", desc := "(II)Z" } : Jvm.MethodName)) ∈ WB := List.mem_filter.mpr ⟨List.mem_append_right _ (List.mem_of_getElem? (i := 394) rfl), rfl⟩
set_option maxRecDepth 20000 in
theorem wb_395 : (Jvm.Cond.instanceMethod ({ cls := "OmegaDesk", name := "included", desc := "(II)Z" } : Jvm.MethodName)) ∈ WB := List.mem_filter.mpr ⟨List.mem_append_right _ (List.mem_of_getElem? (i := 395) rfl), rfl⟩
set_option maxRecDepth 20000 in
theorem wb_396 : (Jvm.Cond.selects "OmegaDesk" ({ cls := "OmegaDesk", name := "included", desc := "(II)Z" } : Jvm.MethodName) ({ cls := "OmegaDesk", name := "included", desc := "(II)Z" } : Jvm.MethodName)) ∈ WB := List.mem_filter.mpr ⟨List.mem_append_right _ (List.mem_of_getElem? (i := 396) rfl), rfl⟩
set_option maxRecDepth 20000 in
theorem wb_397 : (Jvm.Cond.code ({ cls := "OmegaDesk", name := "included", desc := "(II)Z" } : Jvm.MethodName) prog_1_method_9_code (5 : Nat) (Option.some Jvm.ClassFile.FieldType.boolean)) ∈ WB := List.mem_filter.mpr ⟨List.mem_append_right _ (List.mem_of_getElem? (i := 397) rfl), rfl⟩
set_option maxRecDepth 20000 in
theorem wb_399 : (Jvm.Cond.methodLink "OmegaDesk" (113 : Nat) ({ cls := "OmegaDesk$Refuter", name := "refutes", desc := "(LOmegaDesk$Automaton;LOmegaDesk$Automaton;)Z" } : Jvm.MethodName)) ∈ WB := List.mem_filter.mpr ⟨List.mem_append_right _ (List.mem_of_getElem? (i := 399) rfl), rfl⟩
set_option maxRecDepth 20000 in
theorem wb_400 : (Jvm.Cond.instanceMethod ({ cls := "OmegaDesk$Refuter", name := "refutes", desc := "(LOmegaDesk$Automaton;LOmegaDesk$Automaton;)Z" } : Jvm.MethodName)) ∈ WB := List.mem_filter.mpr ⟨List.mem_append_right _ (List.mem_of_getElem? (i := 400) rfl), rfl⟩
set_option maxRecDepth 20000 in
theorem wb_401 : (Jvm.Cond.selects "OmegaDesk$Refuter" ({ cls := "OmegaDesk$Refuter", name := "refutes", desc := "(LOmegaDesk$Automaton;LOmegaDesk$Automaton;)Z" } : Jvm.MethodName) ({ cls := "OmegaDesk$Refuter", name := "refutes", desc := "(LOmegaDesk$Automaton;LOmegaDesk$Automaton;)Z" } : Jvm.MethodName)) ∈ WB := List.mem_filter.mpr ⟨List.mem_append_right _ (List.mem_of_getElem? (i := 401) rfl), rfl⟩
set_option maxRecDepth 20000 in
theorem wb_402 : (Jvm.Cond.code ({ cls := "OmegaDesk$Refuter", name := "refutes", desc := "(LOmegaDesk$Automaton;LOmegaDesk$Automaton;)Z" } : Jvm.MethodName) prog_5_method_2_code (11 : Nat) (Option.some Jvm.ClassFile.FieldType.boolean)) ∈ WB := List.mem_filter.mpr ⟨List.mem_append_right _ (List.mem_of_getElem? (i := 402) rfl), rfl⟩
set_option maxRecDepth 20000 in
theorem wb_403 : (Jvm.Cond.methodLink "OmegaDesk$Refuter" (34 : Nat) ({ cls := "OmegaDesk$Automaton", name := "usefulStates", desc := "()I" } : Jvm.MethodName)) ∈ WB := List.mem_filter.mpr ⟨List.mem_append_right _ (List.mem_of_getElem? (i := 403) rfl), rfl⟩
set_option maxRecDepth 20000 in
theorem wb_404 : (Jvm.Cond.methodLink "OmegaDesk$Refuter" (43 : Nat) ({ cls := "OmegaDesk$Refuter", name := "reset", desc := "()V" } : Jvm.MethodName)) ∈ WB := List.mem_filter.mpr ⟨List.mem_append_right _ (List.mem_of_getElem? (i := 404) rfl), rfl⟩
set_option maxRecDepth 20000 in
theorem wb_406 : (Jvm.Cond.instanceMethod ({ cls := "OmegaDesk$Refuter", name := "reset", desc := "()V" } : Jvm.MethodName)) ∈ WB := List.mem_filter.mpr ⟨List.mem_append_right _ (List.mem_of_getElem? (i := 406) rfl), rfl⟩
set_option maxRecDepth 20000 in
theorem wb_407 : (Jvm.Cond.code ({ cls := "OmegaDesk$Refuter", name := "reset", desc := "()V" } : Jvm.MethodName) prog_5_method_3_code (1 : Nat) (Option.none : Option Jvm.ClassFile.FieldType)) ∈ WB := List.mem_filter.mpr ⟨List.mem_append_right _ (List.mem_of_getElem? (i := 407) rfl), rfl⟩
set_option maxRecDepth 20000 in
theorem wb_408 : (Jvm.Cond.methodLink "OmegaDesk$Refuter" (69 : Nat) ({ cls := "java/util/Arrays", name := "fill", desc := "([II)V" } : Jvm.MethodName)) ∈ WB := List.mem_filter.mpr ⟨List.mem_append_right _ (List.mem_of_getElem? (i := 408) rfl), rfl⟩
set_option maxRecDepth 20000 in
theorem wb_409 : (Jvm.Cond.methodLink "OmegaDesk$Refuter" (46 : Nat) ({ cls := "OmegaDesk$Refuter", name := "findMeetings", desc := "(LOmegaDesk$Automaton;LOmegaDesk$Automaton;)V" } : Jvm.MethodName)) ∈ WB := List.mem_filter.mpr ⟨List.mem_append_right _ (List.mem_of_getElem? (i := 409) rfl), rfl⟩
set_option maxRecDepth 20000 in
theorem wb_411 : (Jvm.Cond.instanceMethod ({ cls := "OmegaDesk$Refuter", name := "findMeetings", desc := "(LOmegaDesk$Automaton;LOmegaDesk$Automaton;)V" } : Jvm.MethodName)) ∈ WB := List.mem_filter.mpr ⟨List.mem_append_right _ (List.mem_of_getElem? (i := 411) rfl), rfl⟩
set_option maxRecDepth 20000 in
theorem wb_412 : (Jvm.Cond.code ({ cls := "OmegaDesk$Refuter", name := "findMeetings", desc := "(LOmegaDesk$Automaton;LOmegaDesk$Automaton;)V" } : Jvm.MethodName) prog_5_method_4_code (8 : Nat) (Option.none : Option Jvm.ClassFile.FieldType)) ∈ WB := List.mem_filter.mpr ⟨List.mem_append_right _ (List.mem_of_getElem? (i := 412) rfl), rfl⟩
set_option maxRecDepth 20000 in
theorem wb_413 : (Jvm.Cond.methodLink "OmegaDesk$Refuter" (78 : Nat) ({ cls := "OmegaDesk$Refuter", name := "spreadMeeting", desc := "(LOmegaDesk$Automaton;LOmegaDesk$Automaton;II)Z" } : Jvm.MethodName)) ∈ WB := List.mem_filter.mpr ⟨List.mem_append_right _ (List.mem_of_getElem? (i := 413) rfl), rfl⟩
set_option maxRecDepth 20000 in
theorem wb_415 : (Jvm.Cond.instanceMethod ({ cls := "OmegaDesk$Refuter", name := "spreadMeeting", desc := "(LOmegaDesk$Automaton;LOmegaDesk$Automaton;II)Z" } : Jvm.MethodName)) ∈ WB := List.mem_filter.mpr ⟨List.mem_append_right _ (List.mem_of_getElem? (i := 415) rfl), rfl⟩
set_option maxRecDepth 20000 in
theorem wb_416 : (Jvm.Cond.code ({ cls := "OmegaDesk$Refuter", name := "spreadMeeting", desc := "(LOmegaDesk$Automaton;LOmegaDesk$Automaton;II)Z" } : Jvm.MethodName) prog_5_method_5_code (10 : Nat) (Option.some Jvm.ClassFile.FieldType.boolean)) ∈ WB := List.mem_filter.mpr ⟨List.mem_append_right _ (List.mem_of_getElem? (i := 416) rfl), rfl⟩
set_option maxRecDepth 20000 in
theorem wb_417 : (Jvm.Cond.methodLink "OmegaDesk$Refuter" (82 : Nat) ({ cls := "OmegaDesk$Automaton", name := "followersOf", desc := "(II)I" } : Jvm.MethodName)) ∈ WB := List.mem_filter.mpr ⟨List.mem_append_right _ (List.mem_of_getElem? (i := 417) rfl), rfl⟩
set_option maxRecDepth 20000 in
theorem wb_418 : (Jvm.Cond.methodLink "OmegaDesk$Refuter" (50 : Nat) ({ cls := "OmegaDesk$Automaton", name := "emptyPassage", desc := "(I)I" } : Jvm.MethodName)) ∈ WB := List.mem_filter.mpr ⟨List.mem_append_right _ (List.mem_of_getElem? (i := 418) rfl), rfl⟩
set_option maxRecDepth 20000 in
theorem wb_419 : (Jvm.Cond.methodLink "OmegaDesk$Refuter" (54 : Nat) ({ cls := "OmegaDesk$Refuter", name := "offer", desc := "(II)I" } : Jvm.MethodName)) ∈ WB := List.mem_filter.mpr ⟨List.mem_append_right _ (List.mem_of_getElem? (i := 419) rfl), rfl⟩
set_option maxRecDepth 20000 in
theorem wb_421 : (Jvm.Cond.instanceMethod ({ cls := "OmegaDesk$Refuter", name := "offer", desc := "(II)I" } : Jvm.MethodName)) ∈ WB := List.mem_filter.mpr ⟨List.mem_append_right _ (List.mem_of_getElem? (i := 421) rfl), rfl⟩
set_option maxRecDepth 20000 in
theorem wb_422 : (Jvm.Cond.code ({ cls := "OmegaDesk$Refuter", name := "offer", desc := "(II)I" } : Jvm.MethodName) prog_5_method_6_code (5 : Nat) (Option.some Jvm.ClassFile.FieldType.int)) ∈ WB := List.mem_filter.mpr ⟨List.mem_append_right _ (List.mem_of_getElem? (i := 422) rfl), rfl⟩
set_option maxRecDepth 20000 in
theorem wb_423 : (Jvm.Cond.methodLink "OmegaDesk$Refuter" (85 : Nat) ({ cls := "OmegaDesk$Refuter", name := "slotOf", desc := "(I)I" } : Jvm.MethodName)) ∈ WB := List.mem_filter.mpr ⟨List.mem_append_right _ (List.mem_of_getElem? (i := 423) rfl), rfl⟩
set_option maxRecDepth 20000 in
theorem wb_425 : (Jvm.Cond.instanceMethod ({ cls := "OmegaDesk$Refuter", name := "slotOf", desc := "(I)I" } : Jvm.MethodName)) ∈ WB := List.mem_filter.mpr ⟨List.mem_append_right _ (List.mem_of_getElem? (i := 425) rfl), rfl⟩
set_option maxRecDepth 20000 in
theorem wb_426 : (Jvm.Cond.code ({ cls := "OmegaDesk$Refuter", name := "slotOf", desc := "(I)I" } : Jvm.MethodName) prog_5_method_7_code (4 : Nat) (Option.some Jvm.ClassFile.FieldType.int)) ∈ WB := List.mem_filter.mpr ⟨List.mem_append_right _ (List.mem_of_getElem? (i := 426) rfl), rfl⟩
set_option maxRecDepth 20000 in
theorem wb_427 : (Jvm.Cond.constant "OmegaDesk$Refuter" (92 : Nat) (-1640531535 : Int32)) ∈ WB := List.mem_filter.mpr ⟨List.mem_append_right _ (List.mem_of_getElem? (i := 427) rfl), rfl⟩
set_option maxRecDepth 20000 in
theorem wb_428 : (Jvm.Cond.methodLink "OmegaDesk$Refuter" (88 : Nat) ({ cls := "OmegaDesk$Refuter", name := "enqueue", desc := "(I)V" } : Jvm.MethodName)) ∈ WB := List.mem_filter.mpr ⟨List.mem_append_right _ (List.mem_of_getElem? (i := 428) rfl), rfl⟩
set_option maxRecDepth 20000 in
theorem wb_430 : (Jvm.Cond.instanceMethod ({ cls := "OmegaDesk$Refuter", name := "enqueue", desc := "(I)V" } : Jvm.MethodName)) ∈ WB := List.mem_filter.mpr ⟨List.mem_append_right _ (List.mem_of_getElem? (i := 430) rfl), rfl⟩
set_option maxRecDepth 20000 in
theorem wb_431 : (Jvm.Cond.code ({ cls := "OmegaDesk$Refuter", name := "enqueue", desc := "(I)V" } : Jvm.MethodName) prog_5_method_8_code (2 : Nat) (Option.none : Option Jvm.ClassFile.FieldType)) ∈ WB := List.mem_filter.mpr ⟨List.mem_append_right _ (List.mem_of_getElem? (i := 431) rfl), rfl⟩
set_option maxRecDepth 20000 in
theorem wb_432 : (Jvm.Cond.constant "OmegaDesk$Refuter" (58 : Nat) (32768 : Int32)) ∈ WB := List.mem_filter.mpr ⟨List.mem_append_right _ (List.mem_of_getElem? (i := 432) rfl), rfl⟩
set_option maxRecDepth 20000 in
theorem wb_433 : (Jvm.Cond.methodLink "OmegaDesk$Refuter" (59 : Nat) ({ cls := "OmegaDesk$Refuter", name := "nextQueued", desc := "()I" } : Jvm.MethodName)) ∈ WB := List.mem_filter.mpr ⟨List.mem_append_right _ (List.mem_of_getElem? (i := 433) rfl), rfl⟩
set_option maxRecDepth 20000 in
theorem wb_435 : (Jvm.Cond.instanceMethod ({ cls := "OmegaDesk$Refuter", name := "nextQueued", desc := "()I" } : Jvm.MethodName)) ∈ WB := List.mem_filter.mpr ⟨List.mem_append_right _ (List.mem_of_getElem? (i := 435) rfl), rfl⟩
set_option maxRecDepth 20000 in
theorem wb_436 : (Jvm.Cond.code ({ cls := "OmegaDesk$Refuter", name := "nextQueued", desc := "()I" } : Jvm.MethodName) prog_5_method_9_code (2 : Nat) (Option.some Jvm.ClassFile.FieldType.int)) ∈ WB := List.mem_filter.mpr ⟨List.mem_append_right _ (List.mem_of_getElem? (i := 436) rfl), rfl⟩
set_option maxRecDepth 20000 in
theorem wb_437 : (Jvm.Cond.methodLink "OmegaDesk$Refuter" (62 : Nat) ({ cls := "OmegaDesk$Automaton", name := "longerPassage", desc := "(II)I" } : Jvm.MethodName)) ∈ WB := List.mem_filter.mpr ⟨List.mem_append_right _ (List.mem_of_getElem? (i := 437) rfl), rfl⟩
set_option maxRecDepth 20000 in
theorem wb_438 : (Jvm.Cond.methodLink "OmegaDesk$Refuter" (65 : Nat) ({ cls := "OmegaDesk$Refuter", name := "refutesWith", desc := "(II)Z" } : Jvm.MethodName)) ∈ WB := List.mem_filter.mpr ⟨List.mem_append_right _ (List.mem_of_getElem? (i := 438) rfl), rfl⟩
set_option maxRecDepth 20000 in
theorem wb_440 : (Jvm.Cond.instanceMethod ({ cls := "OmegaDesk$Refuter", name := "refutesWith", desc := "(II)Z" } : Jvm.MethodName)) ∈ WB := List.mem_filter.mpr ⟨List.mem_append_right _ (List.mem_of_getElem? (i := 440) rfl), rfl⟩
set_option maxRecDepth 20000 in
theorem wb_441 : (Jvm.Cond.code ({ cls := "OmegaDesk$Refuter", name := "refutesWith", desc := "(II)Z" } : Jvm.MethodName) prog_5_method_10_code (6 : Nat) (Option.some Jvm.ClassFile.FieldType.boolean)) ∈ WB := List.mem_filter.mpr ⟨List.mem_append_right _ (List.mem_of_getElem? (i := 441) rfl), rfl⟩
set_option maxRecDepth 20000 in
theorem wb_442 : (Jvm.Cond.methodLink "OmegaDesk$Refuter" (93 : Nat) ({ cls := "OmegaDesk$Passage", name := "goodEnds", desc := "(II)I" } : Jvm.MethodName)) ∈ WB := List.mem_filter.mpr ⟨List.mem_append_right _ (List.mem_of_getElem? (i := 442) rfl), rfl⟩
set_option maxRecDepth 20000 in
theorem wb_443 : (Jvm.Cond.methodLink "OmegaDesk$Refuter" (98 : Nat) ({ cls := "OmegaDesk$Passage", name := "takenRepeated", desc := "(I)I" } : Jvm.MethodName)) ∈ WB := List.mem_filter.mpr ⟨List.mem_append_right _ (List.mem_of_getElem? (i := 443) rfl), rfl⟩
set_option maxRecDepth 20000 in
theorem wb_444 : (Jvm.Cond.methodLink "OmegaDesk" (117 : Nat) ({ cls := "OmegaDesk$LassoFinder", name := "forget", desc := "()V" } : Jvm.MethodName)) ∈ WB := List.mem_filter.mpr ⟨List.mem_append_right _ (List.mem_of_getElem? (i := 444) rfl), rfl⟩
set_option maxRecDepth 20000 in
theorem wb_445 : (Jvm.Cond.instanceMethod ({ cls := "OmegaDesk$LassoFinder", name := "forget", desc := "()V" } : Jvm.MethodName)) ∈ WB := List.mem_filter.mpr ⟨List.mem_append_right _ (List.mem_of_getElem? (i := 445) rfl), rfl⟩
set_option maxRecDepth 20000 in
theorem wb_446 : (Jvm.Cond.selects "OmegaDesk$LassoFinder" ({ cls := "OmegaDesk$LassoFinder", name := "forget", desc := "()V" } : Jvm.MethodName) ({ cls := "OmegaDesk$LassoFinder", name := "forget", desc := "()V" } : Jvm.MethodName)) ∈ WB := List.mem_filter.mpr ⟨List.mem_append_right _ (List.mem_of_getElem? (i := 446) rfl), rfl⟩
set_option maxRecDepth 20000 in
theorem wb_447 : (Jvm.Cond.code ({ cls := "OmegaDesk$LassoFinder", name := "forget", desc := "()V" } : Jvm.MethodName) prog_3_method_2_code (1 : Nat) (Option.none : Option Jvm.ClassFile.FieldType)) ∈ WB := List.mem_filter.mpr ⟨List.mem_append_right _ (List.mem_of_getElem? (i := 447) rfl), rfl⟩
set_option maxRecDepth 20000 in
theorem wb_448 : (Jvm.Cond.methodLink "OmegaDesk" (120 : Nat) ({ cls := "OmegaDesk$LassoFinder", name := "search", desc := "(LOmegaDesk$Automaton;LOmegaDesk$Automaton;)V" } : Jvm.MethodName)) ∈ WB := List.mem_filter.mpr ⟨List.mem_append_right _ (List.mem_of_getElem? (i := 448) rfl), rfl⟩
set_option maxRecDepth 20000 in
theorem wb_449 : (Jvm.Cond.instanceMethod ({ cls := "OmegaDesk$LassoFinder", name := "search", desc := "(LOmegaDesk$Automaton;LOmegaDesk$Automaton;)V" } : Jvm.MethodName)) ∈ WB := List.mem_filter.mpr ⟨List.mem_append_right _ (List.mem_of_getElem? (i := 449) rfl), rfl⟩
set_option maxRecDepth 20000 in
theorem wb_450 : (Jvm.Cond.selects "OmegaDesk$LassoFinder" ({ cls := "OmegaDesk$LassoFinder", name := "search", desc := "(LOmegaDesk$Automaton;LOmegaDesk$Automaton;)V" } : Jvm.MethodName) ({ cls := "OmegaDesk$LassoFinder", name := "search", desc := "(LOmegaDesk$Automaton;LOmegaDesk$Automaton;)V" } : Jvm.MethodName)) ∈ WB := List.mem_filter.mpr ⟨List.mem_append_right _ (List.mem_of_getElem? (i := 450) rfl), rfl⟩
set_option maxRecDepth 20000 in
theorem wb_451 : (Jvm.Cond.code ({ cls := "OmegaDesk$LassoFinder", name := "search", desc := "(LOmegaDesk$Automaton;LOmegaDesk$Automaton;)V" } : Jvm.MethodName) prog_3_method_3_code (5 : Nat) (Option.none : Option Jvm.ClassFile.FieldType)) ∈ WB := List.mem_filter.mpr ⟨List.mem_append_right _ (List.mem_of_getElem? (i := 451) rfl), rfl⟩
set_option maxRecDepth 20000 in
theorem wb_452 : (Jvm.Cond.methodLink "OmegaDesk$LassoFinder" (38 : Nat) ({ cls := "OmegaDesk$WordTable", name := "begin", desc := "(LOmegaDesk$Automaton;)V" } : Jvm.MethodName)) ∈ WB := List.mem_filter.mpr ⟨List.mem_append_right _ (List.mem_of_getElem? (i := 452) rfl), rfl⟩
set_option maxRecDepth 20000 in
theorem wb_453 : (Jvm.Cond.instanceMethod ({ cls := "OmegaDesk$WordTable", name := "begin", desc := "(LOmegaDesk$Automaton;)V" } : Jvm.MethodName)) ∈ WB := List.mem_filter.mpr ⟨List.mem_append_right _ (List.mem_of_getElem? (i := 453) rfl), rfl⟩
set_option maxRecDepth 20000 in
theorem wb_454 : (Jvm.Cond.selects "OmegaDesk$WordTable" ({ cls := "OmegaDesk$WordTable", name := "begin", desc := "(LOmegaDesk$Automaton;)V" } : Jvm.MethodName) ({ cls := "OmegaDesk$WordTable", name := "begin", desc := "(LOmegaDesk$Automaton;)V" } : Jvm.MethodName)) ∈ WB := List.mem_filter.mpr ⟨List.mem_append_right _ (List.mem_of_getElem? (i := 454) rfl), rfl⟩
set_option maxRecDepth 20000 in
theorem wb_455 : (Jvm.Cond.code ({ cls := "OmegaDesk$WordTable", name := "begin", desc := "(LOmegaDesk$Automaton;)V" } : Jvm.MethodName) prog_6_method_2_code (2 : Nat) (Option.none : Option Jvm.ClassFile.FieldType)) ∈ WB := List.mem_filter.mpr ⟨List.mem_append_right _ (List.mem_of_getElem? (i := 455) rfl), rfl⟩
set_option maxRecDepth 20000 in
theorem wb_456 : (Jvm.Cond.methodLink "OmegaDesk$WordTable" (24 : Nat) ({ cls := "OmegaDesk$Automaton", name := "emptyPassage", desc := "(I)I" } : Jvm.MethodName)) ∈ WB := List.mem_filter.mpr ⟨List.mem_append_right _ (List.mem_of_getElem? (i := 456) rfl), rfl⟩
set_option maxRecDepth 20000 in
theorem wb_457 : (Jvm.Cond.methodLink "OmegaDesk$LassoFinder" (42 : Nat) ({ cls := "OmegaDesk$WordTable", name := "addWords", desc := "(LOmegaDesk$Automaton;I)V" } : Jvm.MethodName)) ∈ WB := List.mem_filter.mpr ⟨List.mem_append_right _ (List.mem_of_getElem? (i := 457) rfl), rfl⟩
set_option maxRecDepth 20000 in
theorem wb_458 : (Jvm.Cond.instanceMethod ({ cls := "OmegaDesk$WordTable", name := "addWords", desc := "(LOmegaDesk$Automaton;I)V" } : Jvm.MethodName)) ∈ WB := List.mem_filter.mpr ⟨List.mem_append_right _ (List.mem_of_getElem? (i := 458) rfl), rfl⟩
set_option maxRecDepth 20000 in
theorem wb_459 : (Jvm.Cond.selects "OmegaDesk$WordTable" ({ cls := "OmegaDesk$WordTable", name := "addWords", desc := "(LOmegaDesk$Automaton;I)V" } : Jvm.MethodName) ({ cls := "OmegaDesk$WordTable", name := "addWords", desc := "(LOmegaDesk$Automaton;I)V" } : Jvm.MethodName)) ∈ WB := List.mem_filter.mpr ⟨List.mem_append_right _ (List.mem_of_getElem? (i := 459) rfl), rfl⟩
set_option maxRecDepth 20000 in
theorem wb_460 : (Jvm.Cond.code ({ cls := "OmegaDesk$WordTable", name := "addWords", desc := "(LOmegaDesk$Automaton;I)V" } : Jvm.MethodName) prog_6_method_3_code (5 : Nat) (Option.none : Option Jvm.ClassFile.FieldType)) ∈ WB := List.mem_filter.mpr ⟨List.mem_append_right _ (List.mem_of_getElem? (i := 460) rfl), rfl⟩
set_option maxRecDepth 20000 in
theorem wb_461 : (Jvm.Cond.methodLink "OmegaDesk$WordTable" (28 : Nat) ({ cls := "OmegaDesk$Automaton", name := "longerPassage", desc := "(II)I" } : Jvm.MethodName)) ∈ WB := List.mem_filter.mpr ⟨List.mem_append_right _ (List.mem_of_getElem? (i := 461) rfl), rfl⟩
set_option maxRecDepth 20000 in
theorem wb_462 : (Jvm.Cond.methodLink "OmegaDesk$WordTable" (32 : Nat) ({ cls := "OmegaDesk$Passage", name := "takenRepeated", desc := "(I)I" } : Jvm.MethodName)) ∈ WB := List.mem_filter.mpr ⟨List.mem_append_right _ (List.mem_of_getElem? (i := 462) rfl), rfl⟩
set_option maxRecDepth 20000 in
theorem wb_463 : (Jvm.Cond.methodLink "OmegaDesk$LassoFinder" (46 : Nat) ({ cls := "OmegaDesk$LassoFinder", name := "searchSplit", desc := "(II)V" } : Jvm.MethodName)) ∈ WB := List.mem_filter.mpr ⟨List.mem_append_right _ (List.mem_of_getElem? (i := 463) rfl), rfl⟩
set_option maxRecDepth 20000 in
theorem wb_465 : (Jvm.Cond.instanceMethod ({ cls := "OmegaDesk$LassoFinder", name := "searchSplit", desc := "(II)V" } : Jvm.MethodName)) ∈ WB := List.mem_filter.mpr ⟨List.mem_append_right _ (List.mem_of_getElem? (i := 465) rfl), rfl⟩
set_option maxRecDepth 20000 in
theorem wb_466 : (Jvm.Cond.code ({ cls := "OmegaDesk$LassoFinder", name := "searchSplit", desc := "(II)V" } : Jvm.MethodName) prog_3_method_4_code (7 : Nat) (Option.none : Option Jvm.ClassFile.FieldType)) ∈ WB := List.mem_filter.mpr ⟨List.mem_append_right _ (List.mem_of_getElem? (i := 466) rfl), rfl⟩
set_option maxRecDepth 20000 in
theorem wb_467 : (Jvm.Cond.methodLink "OmegaDesk$LassoFinder" (50 : Nat) ({ cls := "OmegaDesk$WordTable", name := "takesLasso", desc := "(II)Z" } : Jvm.MethodName)) ∈ WB := List.mem_filter.mpr ⟨List.mem_append_right _ (List.mem_of_getElem? (i := 467) rfl), rfl⟩
set_option maxRecDepth 20000 in
theorem wb_468 : (Jvm.Cond.instanceMethod ({ cls := "OmegaDesk$WordTable", name := "takesLasso", desc := "(II)Z" } : Jvm.MethodName)) ∈ WB := List.mem_filter.mpr ⟨List.mem_append_right _ (List.mem_of_getElem? (i := 468) rfl), rfl⟩
set_option maxRecDepth 20000 in
theorem wb_469 : (Jvm.Cond.selects "OmegaDesk$WordTable" ({ cls := "OmegaDesk$WordTable", name := "takesLasso", desc := "(II)Z" } : Jvm.MethodName) ({ cls := "OmegaDesk$WordTable", name := "takesLasso", desc := "(II)Z" } : Jvm.MethodName)) ∈ WB := List.mem_filter.mpr ⟨List.mem_append_right _ (List.mem_of_getElem? (i := 469) rfl), rfl⟩
set_option maxRecDepth 20000 in
theorem wb_470 : (Jvm.Cond.code ({ cls := "OmegaDesk$WordTable", name := "takesLasso", desc := "(II)Z" } : Jvm.MethodName) prog_6_method_4_code (3 : Nat) (Option.some Jvm.ClassFile.FieldType.boolean)) ∈ WB := List.mem_filter.mpr ⟨List.mem_append_right _ (List.mem_of_getElem? (i := 470) rfl), rfl⟩
set_option maxRecDepth 20000 in
theorem wb_471 : (Jvm.Cond.methodLink "OmegaDesk$WordTable" (36 : Nat) ({ cls := "OmegaDesk$Passage", name := "fromStart", desc := "(I)I" } : Jvm.MethodName)) ∈ WB := List.mem_filter.mpr ⟨List.mem_append_right _ (List.mem_of_getElem? (i := 471) rfl), rfl⟩
set_option maxRecDepth 20000 in
theorem wb_472 : (Jvm.Cond.methodLink "OmegaDeskLaw" (100 : Nat) ({ cls := "OmegaDeskLaw", name := "witness", desc := "(LOmegaDesk;I[J)I" } : Jvm.MethodName)) ∈ WB := List.mem_filter.mpr ⟨List.mem_append_right _ (List.mem_of_getElem? (i := 472) rfl), rfl⟩
set_option maxRecDepth 20000 in
theorem wb_473 : (Jvm.Cond.static ({ cls := "OmegaDeskLaw", name := "witness", desc := "(LOmegaDesk;I[J)I" } : Jvm.MethodName)) ∈ WB := List.mem_filter.mpr ⟨List.mem_append_right _ (List.mem_of_getElem? (i := 473) rfl), rfl⟩
set_option maxRecDepth 20000 in
theorem wb_474 : (Jvm.Cond.codeWith ({ cls := "OmegaDeskLaw", name := "witness", desc := "(LOmegaDesk;I[J)I" } : Jvm.MethodName) method_11_code (4 : Nat) (Option.some Jvm.ClassFile.FieldType.int) [((0 : Nat), (9 : Nat), (12 : Nat), (13 : Nat)), ((0 : Nat), (9 : Nat), (15 : Nat), (48 : Nat))]) ∈ WB := List.mem_filter.mpr ⟨List.mem_append_right _ (List.mem_of_getElem? (i := 474) rfl), rfl⟩
set_option maxRecDepth 20000 in
theorem wb_475 : (Jvm.Cond.classLink "OmegaDeskLaw" (48 : Nat) "java/util/NoSuchElementException") ∈ WB := List.mem_filter.mpr ⟨List.mem_append_right _ (List.mem_of_getElem? (i := 475) rfl), rfl⟩
set_option maxRecDepth 20000 in
theorem wb_476 : (Jvm.Cond.methodLink "OmegaDeskLaw" (45 : Nat) ({ cls := "OmegaDesk", name := "witness", desc := "(I)I" } : Jvm.MethodName)) ∈ WB := List.mem_filter.mpr ⟨List.mem_append_right _ (List.mem_of_getElem? (i := 476) rfl), rfl⟩
set_option maxRecDepth 20000 in
theorem wb_477 : (Jvm.Cond.instanceMethod ({ cls := "OmegaDesk", name := "witness", desc := "(I)I" } : Jvm.MethodName)) ∈ WB := List.mem_filter.mpr ⟨List.mem_append_right _ (List.mem_of_getElem? (i := 477) rfl), rfl⟩
set_option maxRecDepth 20000 in
theorem wb_478 : (Jvm.Cond.selects "OmegaDesk" ({ cls := "OmegaDesk", name := "witness", desc := "(I)I" } : Jvm.MethodName) ({ cls := "OmegaDesk", name := "witness", desc := "(I)I" } : Jvm.MethodName)) ∈ WB := List.mem_filter.mpr ⟨List.mem_append_right _ (List.mem_of_getElem? (i := 478) rfl), rfl⟩
set_option maxRecDepth 20000 in
theorem wb_479 : (Jvm.Cond.code ({ cls := "OmegaDesk", name := "witness", desc := "(I)I" } : Jvm.MethodName) prog_1_method_10_code (2 : Nat) (Option.some Jvm.ClassFile.FieldType.int)) ∈ WB := List.mem_filter.mpr ⟨List.mem_append_right _ (List.mem_of_getElem? (i := 479) rfl), rfl⟩
set_option maxRecDepth 20000 in
theorem wb_481 : (Jvm.Cond.classLink "OmegaDesk" (130 : Nat) "java/util/NoSuchElementException") ∈ WB := List.mem_filter.mpr ⟨List.mem_append_right _ (List.mem_of_getElem? (i := 481) rfl), rfl⟩
set_option maxRecDepth 20000 in
theorem wb_497 : (Jvm.Cond.methodLink "OmegaDeskLaw" (103 : Nat) ({ cls := "OmegaDeskLaw", name := "states", desc := "(LOmegaDesk;I[J)I" } : Jvm.MethodName)) ∈ WB := List.mem_filter.mpr ⟨List.mem_append_right _ (List.mem_of_getElem? (i := 497) rfl), rfl⟩
set_option maxRecDepth 20000 in
theorem wb_498 : (Jvm.Cond.static ({ cls := "OmegaDeskLaw", name := "states", desc := "(LOmegaDesk;I[J)I" } : Jvm.MethodName)) ∈ WB := List.mem_filter.mpr ⟨List.mem_append_right _ (List.mem_of_getElem? (i := 498) rfl), rfl⟩
set_option maxRecDepth 20000 in
theorem wb_499 : (Jvm.Cond.codeWith ({ cls := "OmegaDeskLaw", name := "states", desc := "(LOmegaDesk;I[J)I" } : Jvm.MethodName) method_12_code (4 : Nat) (Option.some Jvm.ClassFile.FieldType.int) [((0 : Nat), (9 : Nat), (12 : Nat), (13 : Nat))]) ∈ WB := List.mem_filter.mpr ⟨List.mem_append_right _ (List.mem_of_getElem? (i := 499) rfl), rfl⟩
set_option maxRecDepth 20000 in
theorem wb_500 : (Jvm.Cond.methodLink "OmegaDeskLaw" (50 : Nat) ({ cls := "OmegaDesk", name := "states", desc := "(I)I" } : Jvm.MethodName)) ∈ WB := List.mem_filter.mpr ⟨List.mem_append_right _ (List.mem_of_getElem? (i := 500) rfl), rfl⟩
set_option maxRecDepth 20000 in
theorem wb_501 : (Jvm.Cond.instanceMethod ({ cls := "OmegaDesk", name := "states", desc := "(I)I" } : Jvm.MethodName)) ∈ WB := List.mem_filter.mpr ⟨List.mem_append_right _ (List.mem_of_getElem? (i := 501) rfl), rfl⟩
set_option maxRecDepth 20000 in
theorem wb_502 : (Jvm.Cond.selects "OmegaDesk" ({ cls := "OmegaDesk", name := "states", desc := "(I)I" } : Jvm.MethodName) ({ cls := "OmegaDesk", name := "states", desc := "(I)I" } : Jvm.MethodName)) ∈ WB := List.mem_filter.mpr ⟨List.mem_append_right _ (List.mem_of_getElem? (i := 502) rfl), rfl⟩
set_option maxRecDepth 20000 in
theorem wb_503 : (Jvm.Cond.code ({ cls := "OmegaDesk", name := "states", desc := "(I)I" } : Jvm.MethodName) prog_1_method_11_code (2 : Nat) (Option.some Jvm.ClassFile.FieldType.int)) ∈ WB := List.mem_filter.mpr ⟨List.mem_append_right _ (List.mem_of_getElem? (i := 503) rfl), rfl⟩
set_option maxRecDepth 20000 in
theorem wb_504 : (Jvm.Cond.methodLink "OmegaDeskLaw" (106 : Nat) ({ cls := "OmegaDeskLaw", name := "good", desc := "(LOmegaDesk;II[J)I" } : Jvm.MethodName)) ∈ WB := List.mem_filter.mpr ⟨List.mem_append_right _ (List.mem_of_getElem? (i := 504) rfl), rfl⟩
set_option maxRecDepth 20000 in
theorem wb_505 : (Jvm.Cond.static ({ cls := "OmegaDeskLaw", name := "good", desc := "(LOmegaDesk;II[J)I" } : Jvm.MethodName)) ∈ WB := List.mem_filter.mpr ⟨List.mem_append_right _ (List.mem_of_getElem? (i := 505) rfl), rfl⟩
set_option maxRecDepth 20000 in
theorem wb_506 : (Jvm.Cond.codeWith ({ cls := "OmegaDeskLaw", name := "good", desc := "(LOmegaDesk;II[J)I" } : Jvm.MethodName) method_13_code (5 : Nat) (Option.some Jvm.ClassFile.FieldType.int) [((0 : Nat), (17 : Nat), (20 : Nat), (13 : Nat))]) ∈ WB := List.mem_filter.mpr ⟨List.mem_append_right _ (List.mem_of_getElem? (i := 506) rfl), rfl⟩
set_option maxRecDepth 20000 in
theorem wb_507 : (Jvm.Cond.methodLink "OmegaDeskLaw" (53 : Nat) ({ cls := "OmegaDesk", name := "good", desc := "(II)Z" } : Jvm.MethodName)) ∈ WB := List.mem_filter.mpr ⟨List.mem_append_right _ (List.mem_of_getElem? (i := 507) rfl), rfl⟩
set_option maxRecDepth 20000 in
theorem wb_508 : (Jvm.Cond.instanceMethod ({ cls := "OmegaDesk", name := "good", desc := "(II)Z" } : Jvm.MethodName)) ∈ WB := List.mem_filter.mpr ⟨List.mem_append_right _ (List.mem_of_getElem? (i := 508) rfl), rfl⟩
set_option maxRecDepth 20000 in
theorem wb_509 : (Jvm.Cond.selects "OmegaDesk" ({ cls := "OmegaDesk", name := "good", desc := "(II)Z" } : Jvm.MethodName) ({ cls := "OmegaDesk", name := "good", desc := "(II)Z" } : Jvm.MethodName)) ∈ WB := List.mem_filter.mpr ⟨List.mem_append_right _ (List.mem_of_getElem? (i := 509) rfl), rfl⟩
set_option maxRecDepth 20000 in
theorem wb_510 : (Jvm.Cond.code ({ cls := "OmegaDesk", name := "good", desc := "(II)Z" } : Jvm.MethodName) prog_1_method_12_code (4 : Nat) (Option.some Jvm.ClassFile.FieldType.boolean)) ∈ WB := List.mem_filter.mpr ⟨List.mem_append_right _ (List.mem_of_getElem? (i := 510) rfl), rfl⟩
set_option maxRecDepth 20000 in
theorem wb_511 : (Jvm.Cond.methodLink "OmegaDesk" (153 : Nat) ({ cls := "OmegaDesk$Automaton", name := "isGood", desc := "(I)Z" } : Jvm.MethodName)) ∈ WB := List.mem_filter.mpr ⟨List.mem_append_right _ (List.mem_of_getElem? (i := 511) rfl), rfl⟩
set_option maxRecDepth 20000 in
theorem wb_512 : (Jvm.Cond.methodLink "OmegaDeskLaw" (109 : Nat) ({ cls := "OmegaDeskLaw", name := "has", desc := "(LOmegaDesk;IIII[J)I" } : Jvm.MethodName)) ∈ WB := List.mem_filter.mpr ⟨List.mem_append_right _ (List.mem_of_getElem? (i := 512) rfl), rfl⟩
set_option maxRecDepth 20000 in
theorem wb_513 : (Jvm.Cond.static ({ cls := "OmegaDeskLaw", name := "has", desc := "(LOmegaDesk;IIII[J)I" } : Jvm.MethodName)) ∈ WB := List.mem_filter.mpr ⟨List.mem_append_right _ (List.mem_of_getElem? (i := 513) rfl), rfl⟩
set_option maxRecDepth 20000 in
theorem wb_514 : (Jvm.Cond.codeWith ({ cls := "OmegaDeskLaw", name := "has", desc := "(LOmegaDesk;IIII[J)I" } : Jvm.MethodName) method_14_code (7 : Nat) (Option.some Jvm.ClassFile.FieldType.int) [((0 : Nat), (21 : Nat), (24 : Nat), (13 : Nat))]) ∈ WB := List.mem_filter.mpr ⟨List.mem_append_right _ (List.mem_of_getElem? (i := 514) rfl), rfl⟩
set_option maxRecDepth 20000 in
theorem wb_515 : (Jvm.Cond.methodLink "OmegaDeskLaw" (56 : Nat) ({ cls := "OmegaDesk", name := "has", desc := "(IIII)Z" } : Jvm.MethodName)) ∈ WB := List.mem_filter.mpr ⟨List.mem_append_right _ (List.mem_of_getElem? (i := 515) rfl), rfl⟩
set_option maxRecDepth 20000 in
theorem wb_516 : (Jvm.Cond.instanceMethod ({ cls := "OmegaDesk", name := "has", desc := "(IIII)Z" } : Jvm.MethodName)) ∈ WB := List.mem_filter.mpr ⟨List.mem_append_right _ (List.mem_of_getElem? (i := 516) rfl), rfl⟩
set_option maxRecDepth 20000 in
theorem wb_517 : (Jvm.Cond.selects "OmegaDesk" ({ cls := "OmegaDesk", name := "has", desc := "(IIII)Z" } : Jvm.MethodName) ({ cls := "OmegaDesk", name := "has", desc := "(IIII)Z" } : Jvm.MethodName)) ∈ WB := List.mem_filter.mpr ⟨List.mem_append_right _ (List.mem_of_getElem? (i := 517) rfl), rfl⟩
set_option maxRecDepth 20000 in
theorem wb_518 : (Jvm.Cond.code ({ cls := "OmegaDesk", name := "has", desc := "(IIII)Z" } : Jvm.MethodName) prog_1_method_13_code (5 : Nat) (Option.some Jvm.ClassFile.FieldType.boolean)) ∈ WB := List.mem_filter.mpr ⟨List.mem_append_right _ (List.mem_of_getElem? (i := 518) rfl), rfl⟩
set_option maxRecDepth 20000 in
theorem wb_519 : (Jvm.Cond.classLink "OmegaDeskLaw" (60 : Nat) "OmegaDeskModel") ∈ WB := List.mem_filter.mpr ⟨List.mem_append_right _ (List.mem_of_getElem? (i := 519) rfl), rfl⟩
set_option maxRecDepth 20000 in
theorem wb_520 : (Jvm.Cond.instantiable "OmegaDeskModel" (12 : Nat)) ∈ WB := List.mem_filter.mpr ⟨List.mem_append_right _ (List.mem_of_getElem? (i := 520) rfl), rfl⟩
set_option maxRecDepth 20000 in
theorem wb_521 : (Jvm.Cond.methodLink "OmegaDeskLaw" (62 : Nat) ({ cls := "OmegaDeskModel", name := "<init>", desc := "()V" } : Jvm.MethodName)) ∈ WB := List.mem_filter.mpr ⟨List.mem_append_right _ (List.mem_of_getElem? (i := 521) rfl), rfl⟩
set_option maxRecDepth 20000 in
theorem wb_522 : (Jvm.Cond.instanceMethod ({ cls := "OmegaDeskModel", name := "<init>", desc := "()V" } : Jvm.MethodName)) ∈ WB := List.mem_filter.mpr ⟨List.mem_append_right _ (List.mem_of_getElem? (i := 522) rfl), rfl⟩
set_option maxRecDepth 20000 in
theorem wb_523 : (Jvm.Cond.code ({ cls := "OmegaDeskModel", name := "<init>", desc := "()V" } : Jvm.MethodName) prog_8_method_1_code (1 : Nat) (Option.none : Option Jvm.ClassFile.FieldType)) ∈ WB := List.mem_filter.mpr ⟨List.mem_append_right _ (List.mem_of_getElem? (i := 523) rfl), rfl⟩
set_option maxRecDepth 20000 in
theorem wb_524 : (Jvm.Cond.methodLink "OmegaDeskModel" (1 : Nat) ({ cls := "java/lang/Object", name := "<init>", desc := "()V" } : Jvm.MethodName)) ∈ WB := List.mem_filter.mpr ⟨List.mem_append_right _ (List.mem_of_getElem? (i := 524) rfl), rfl⟩
set_option maxRecDepth 20000 in
theorem wb_525 : (Jvm.Cond.fieldLink "OmegaDeskModel" (41 : Nat) "OmegaDeskModel" "thrown" "I") ∈ WB := List.mem_filter.mpr ⟨List.mem_append_right _ (List.mem_of_getElem? (i := 525) rfl), rfl⟩
set_option maxRecDepth 20000 in
theorem wb_526 : (Jvm.Cond.fieldLink "OmegaDeskModel" (7 : Nat) "OmegaDeskModel" "to" "[I") ∈ WB := List.mem_filter.mpr ⟨List.mem_append_right _ (List.mem_of_getElem? (i := 526) rfl), rfl⟩
set_option maxRecDepth 20000 in
theorem wb_527 : (Jvm.Cond.fieldLink "OmegaDeskModel" (13 : Nat) "OmegaDeskModel" "good" "[I") ∈ WB := List.mem_filter.mpr ⟨List.mem_append_right _ (List.mem_of_getElem? (i := 527) rfl), rfl⟩
set_option maxRecDepth 20000 in
theorem wb_528 : (Jvm.Cond.fieldLink "OmegaDeskModel" (16 : Nat) "OmegaDeskModel" "size" "[I") ∈ WB := List.mem_filter.mpr ⟨List.mem_append_right _ (List.mem_of_getElem? (i := 528) rfl), rfl⟩
set_option maxRecDepth 20000 in
theorem wb_529 : (Jvm.Cond.fieldLink "OmegaDeskModel" (132 : Nat) "OmegaDeskModel" "found" "Z") ∈ WB := List.mem_filter.mpr ⟨List.mem_append_right _ (List.mem_of_getElem? (i := 529) rfl), rfl⟩
set_option maxRecDepth 20000 in
theorem wb_530 : (Jvm.Cond.fieldLink "OmegaDeskModel" (19 : Nat) "OmegaDeskModel" "witness" "[I") ∈ WB := List.mem_filter.mpr ⟨List.mem_append_right _ (List.mem_of_getElem? (i := 530) rfl), rfl⟩
set_option maxRecDepth 20000 in
theorem wb_531 : (Jvm.Cond.fieldLink "OmegaDeskModel" (22 : Nat) "OmegaDeskModel" "seen" "[J") ∈ WB := List.mem_filter.mpr ⟨List.mem_append_right _ (List.mem_of_getElem? (i := 531) rfl), rfl⟩
set_option maxRecDepth 20000 in
theorem wb_532 : (Jvm.Cond.fieldLink "OmegaDeskModel" (26 : Nat) "OmegaDeskModel" "fresh" "[J") ∈ WB := List.mem_filter.mpr ⟨List.mem_append_right _ (List.mem_of_getElem? (i := 532) rfl), rfl⟩
set_option maxRecDepth 20000 in
theorem wb_533 : (Jvm.Cond.fieldLink "OmegaDeskModel" (29 : Nat) "OmegaDeskModel" "coming" "[J") ∈ WB := List.mem_filter.mpr ⟨List.mem_append_right _ (List.mem_of_getElem? (i := 533) rfl), rfl⟩
set_option maxRecDepth 20000 in
theorem wb_534 : (Jvm.Cond.fieldLink "OmegaDeskModel" (32 : Nat) "OmegaDeskModel" "digit" "[I") ∈ WB := List.mem_filter.mpr ⟨List.mem_append_right _ (List.mem_of_getElem? (i := 534) rfl), rfl⟩
set_option maxRecDepth 20000 in
theorem wb_535 : (Jvm.Cond.fieldLink "OmegaDeskModel" (35 : Nat) "OmegaDeskModel" "after" "[I") ∈ WB := List.mem_filter.mpr ⟨List.mem_append_right _ (List.mem_of_getElem? (i := 535) rfl), rfl⟩
set_option maxRecDepth 20000 in
theorem wb_536 : (Jvm.Cond.fieldLink "OmegaDeskModel" (38 : Nat) "OmegaDeskModel" "beginnings" "[I") ∈ WB := List.mem_filter.mpr ⟨List.mem_append_right _ (List.mem_of_getElem? (i := 536) rfl), rfl⟩
set_option maxRecDepth 20000 in
theorem wb_562 : (Jvm.Cond.arrayClass Jvm.ClassFile.FieldType.long) ∈ WB := List.mem_filter.mpr ⟨List.mem_append_right _ (List.mem_of_getElem? (i := 562) rfl), rfl⟩
set_option maxRecDepth 20000 in
theorem wb_563 : (Jvm.Cond.methodLink "OmegaDeskLaw" (69 : Nat) ({ cls := "OmegaDeskModel", name := "thrown", desc := "()I" } : Jvm.MethodName)) ∈ WB := List.mem_filter.mpr ⟨List.mem_append_right _ (List.mem_of_getElem? (i := 563) rfl), rfl⟩
set_option maxRecDepth 20000 in
theorem wb_564 : (Jvm.Cond.instanceMethod ({ cls := "OmegaDeskModel", name := "thrown", desc := "()I" } : Jvm.MethodName)) ∈ WB := List.mem_filter.mpr ⟨List.mem_append_right _ (List.mem_of_getElem? (i := 564) rfl), rfl⟩
set_option maxRecDepth 20000 in
theorem wb_565 : (Jvm.Cond.selects "OmegaDeskModel" ({ cls := "OmegaDeskModel", name := "thrown", desc := "()I" } : Jvm.MethodName) ({ cls := "OmegaDeskModel", name := "thrown", desc := "()I" } : Jvm.MethodName)) ∈ WB := List.mem_filter.mpr ⟨List.mem_append_right _ (List.mem_of_getElem? (i := 565) rfl), rfl⟩
set_option maxRecDepth 20000 in
theorem wb_566 : (Jvm.Cond.code ({ cls := "OmegaDeskModel", name := "thrown", desc := "()I" } : Jvm.MethodName) prog_8_method_2_code (1 : Nat) (Option.some Jvm.ClassFile.FieldType.int)) ∈ WB := List.mem_filter.mpr ⟨List.mem_append_right _ (List.mem_of_getElem? (i := 566) rfl), rfl⟩
set_option maxRecDepth 20000 in
theorem wb_567 : (Jvm.Cond.methodLink "OmegaDeskLaw" (68 : Nat) ({ cls := "OmegaDeskModel", name := "state", desc := "(IZ)I" } : Jvm.MethodName)) ∈ WB := List.mem_filter.mpr ⟨List.mem_append_right _ (List.mem_of_getElem? (i := 567) rfl), rfl⟩
set_option maxRecDepth 20000 in
theorem wb_568 : (Jvm.Cond.instanceMethod ({ cls := "OmegaDeskModel", name := "state", desc := "(IZ)I" } : Jvm.MethodName)) ∈ WB := List.mem_filter.mpr ⟨List.mem_append_right _ (List.mem_of_getElem? (i := 568) rfl), rfl⟩
set_option maxRecDepth 20000 in
theorem wb_569 : (Jvm.Cond.selects "OmegaDeskModel" ({ cls := "OmegaDeskModel", name := "state", desc := "(IZ)I" } : Jvm.MethodName) ({ cls := "OmegaDeskModel", name := "state", desc := "(IZ)I" } : Jvm.MethodName)) ∈ WB := List.mem_filter.mpr ⟨List.mem_append_right _ (List.mem_of_getElem? (i := 569) rfl), rfl⟩
set_option maxRecDepth 20000 in
theorem wb_570 : (Jvm.Cond.code ({ cls := "OmegaDeskModel", name := "state", desc := "(IZ)I" } : Jvm.MethodName) prog_8_method_6_code (3 : Nat) (Option.some Jvm.ClassFile.FieldType.int)) ∈ WB := List.mem_filter.mpr ⟨List.mem_append_right _ (List.mem_of_getElem? (i := 570) rfl), rfl⟩
set_option maxRecDepth 20000 in
theorem wb_571 : (Jvm.Cond.methodLink "OmegaDeskModel" (45 : Nat) ({ cls := "OmegaDeskModel", name := "out", desc := "(II)Z" } : Jvm.MethodName)) ∈ WB := List.mem_filter.mpr ⟨List.mem_append_right _ (List.mem_of_getElem? (i := 571) rfl), rfl⟩
set_option maxRecDepth 20000 in
theorem wb_572 : (Jvm.Cond.static ({ cls := "OmegaDeskModel", name := "out", desc := "(II)Z" } : Jvm.MethodName)) ∈ WB := List.mem_filter.mpr ⟨List.mem_append_right _ (List.mem_of_getElem? (i := 572) rfl), rfl⟩
set_option maxRecDepth 20000 in
theorem wb_573 : (Jvm.Cond.code ({ cls := "OmegaDeskModel", name := "out", desc := "(II)Z" } : Jvm.MethodName) prog_8_method_3_code (2 : Nat) (Option.some Jvm.ClassFile.FieldType.boolean)) ∈ WB := List.mem_filter.mpr ⟨List.mem_append_right _ (List.mem_of_getElem? (i := 573) rfl), rfl⟩
set_option maxRecDepth 20000 in
theorem wb_574 : (Jvm.Cond.methodLink "OmegaDeskModel" (49 : Nat) ({ cls := "OmegaDeskModel", name := "add", desc := "(IZ)V" } : Jvm.MethodName)) ∈ WB := List.mem_filter.mpr ⟨List.mem_append_right _ (List.mem_of_getElem? (i := 574) rfl), rfl⟩
set_option maxRecDepth 20000 in
theorem wb_576 : (Jvm.Cond.instanceMethod ({ cls := "OmegaDeskModel", name := "add", desc := "(IZ)V" } : Jvm.MethodName)) ∈ WB := List.mem_filter.mpr ⟨List.mem_append_right _ (List.mem_of_getElem? (i := 576) rfl), rfl⟩
set_option maxRecDepth 20000 in
theorem wb_577 : (Jvm.Cond.code ({ cls := "OmegaDeskModel", name := "add", desc := "(IZ)V" } : Jvm.MethodName) prog_8_method_5_code (3 : Nat) (Option.none : Option Jvm.ClassFile.FieldType)) ∈ WB := List.mem_filter.mpr ⟨List.mem_append_right _ (List.mem_of_getElem? (i := 577) rfl), rfl⟩
set_option maxRecDepth 20000 in
theorem wb_578 : (Jvm.Cond.methodLink "OmegaDeskLaw" (76 : Nat) ({ cls := "OmegaDeskModel", name := "edge", desc := "(IIII)Z" } : Jvm.MethodName)) ∈ WB := List.mem_filter.mpr ⟨List.mem_append_right _ (List.mem_of_getElem? (i := 578) rfl), rfl⟩
set_option maxRecDepth 20000 in
theorem wb_579 : (Jvm.Cond.instanceMethod ({ cls := "OmegaDeskModel", name := "edge", desc := "(IIII)Z" } : Jvm.MethodName)) ∈ WB := List.mem_filter.mpr ⟨List.mem_append_right _ (List.mem_of_getElem? (i := 579) rfl), rfl⟩
set_option maxRecDepth 20000 in
theorem wb_580 : (Jvm.Cond.selects "OmegaDeskModel" ({ cls := "OmegaDeskModel", name := "edge", desc := "(IIII)Z" } : Jvm.MethodName) ({ cls := "OmegaDeskModel", name := "edge", desc := "(IIII)Z" } : Jvm.MethodName)) ∈ WB := List.mem_filter.mpr ⟨List.mem_append_right _ (List.mem_of_getElem? (i := 580) rfl), rfl⟩
set_option maxRecDepth 20000 in
theorem wb_581 : (Jvm.Cond.code ({ cls := "OmegaDeskModel", name := "edge", desc := "(IIII)Z" } : Jvm.MethodName) prog_8_method_8_code (7 : Nat) (Option.some Jvm.ClassFile.FieldType.boolean)) ∈ WB := List.mem_filter.mpr ⟨List.mem_append_right _ (List.mem_of_getElem? (i := 581) rfl), rfl⟩
set_option maxRecDepth 20000 in
theorem wb_582 : (Jvm.Cond.methodLink "OmegaDeskModel" (53 : Nat) ({ cls := "OmegaDeskModel", name := "isEdge", desc := "(IIII)Z" } : Jvm.MethodName)) ∈ WB := List.mem_filter.mpr ⟨List.mem_append_right _ (List.mem_of_getElem? (i := 582) rfl), rfl⟩
set_option maxRecDepth 20000 in
theorem wb_584 : (Jvm.Cond.instanceMethod ({ cls := "OmegaDeskModel", name := "isEdge", desc := "(IIII)Z" } : Jvm.MethodName)) ∈ WB := List.mem_filter.mpr ⟨List.mem_append_right _ (List.mem_of_getElem? (i := 584) rfl), rfl⟩
set_option maxRecDepth 20000 in
theorem wb_585 : (Jvm.Cond.code ({ cls := "OmegaDeskModel", name := "isEdge", desc := "(IIII)Z" } : Jvm.MethodName) prog_8_method_7_code (5 : Nat) (Option.some Jvm.ClassFile.FieldType.boolean)) ∈ WB := List.mem_filter.mpr ⟨List.mem_append_right _ (List.mem_of_getElem? (i := 585) rfl), rfl⟩
set_option maxRecDepth 20000 in
theorem wb_586 : (Jvm.Cond.methodLink "OmegaDeskLaw" (80 : Nat) ({ cls := "OmegaDeskModel", name := "clear", desc := "(I)V" } : Jvm.MethodName)) ∈ WB := List.mem_filter.mpr ⟨List.mem_append_right _ (List.mem_of_getElem? (i := 586) rfl), rfl⟩
set_option maxRecDepth 20000 in
theorem wb_587 : (Jvm.Cond.instanceMethod ({ cls := "OmegaDeskModel", name := "clear", desc := "(I)V" } : Jvm.MethodName)) ∈ WB := List.mem_filter.mpr ⟨List.mem_append_right _ (List.mem_of_getElem? (i := 587) rfl), rfl⟩
set_option maxRecDepth 20000 in
theorem wb_588 : (Jvm.Cond.selects "OmegaDeskModel" ({ cls := "OmegaDeskModel", name := "clear", desc := "(I)V" } : Jvm.MethodName) ({ cls := "OmegaDeskModel", name := "clear", desc := "(I)V" } : Jvm.MethodName)) ∈ WB := List.mem_filter.mpr ⟨List.mem_append_right _ (List.mem_of_getElem? (i := 588) rfl), rfl⟩
set_option maxRecDepth 20000 in
theorem wb_589 : (Jvm.Cond.code ({ cls := "OmegaDeskModel", name := "clear", desc := "(I)V" } : Jvm.MethodName) prog_8_method_9_code (2 : Nat) (Option.none : Option Jvm.ClassFile.FieldType)) ∈ WB := List.mem_filter.mpr ⟨List.mem_append_right _ (List.mem_of_getElem? (i := 589) rfl), rfl⟩
set_option maxRecDepth 20000 in
theorem wb_590 : (Jvm.Cond.methodLink "OmegaDeskLaw" (84 : Nat) ({ cls := "OmegaDeskModel", name := "unite", desc := "(III)I" } : Jvm.MethodName)) ∈ WB := List.mem_filter.mpr ⟨List.mem_append_right _ (List.mem_of_getElem? (i := 590) rfl), rfl⟩
set_option maxRecDepth 20000 in
theorem wb_591 : (Jvm.Cond.instanceMethod ({ cls := "OmegaDeskModel", name := "unite", desc := "(III)I" } : Jvm.MethodName)) ∈ WB := List.mem_filter.mpr ⟨List.mem_append_right _ (List.mem_of_getElem? (i := 591) rfl), rfl⟩
set_option maxRecDepth 20000 in
theorem wb_592 : (Jvm.Cond.selects "OmegaDeskModel" ({ cls := "OmegaDeskModel", name := "unite", desc := "(III)I" } : Jvm.MethodName) ({ cls := "OmegaDeskModel", name := "unite", desc := "(III)I" } : Jvm.MethodName)) ∈ WB := List.mem_filter.mpr ⟨List.mem_append_right _ (List.mem_of_getElem? (i := 592) rfl), rfl⟩
set_option maxRecDepth 20000 in
theorem wb_593 : (Jvm.Cond.code ({ cls := "OmegaDeskModel", name := "unite", desc := "(III)I" } : Jvm.MethodName) prog_8_method_11_code (5 : Nat) (Option.some Jvm.ClassFile.FieldType.int)) ∈ WB := List.mem_filter.mpr ⟨List.mem_append_right _ (List.mem_of_getElem? (i := 593) rfl), rfl⟩
set_option maxRecDepth 20000 in
theorem wb_594 : (Jvm.Cond.methodLink "OmegaDeskModel" (57 : Nat) ({ cls := "OmegaDeskModel", name := "append", desc := "(II)V" } : Jvm.MethodName)) ∈ WB := List.mem_filter.mpr ⟨List.mem_append_right _ (List.mem_of_getElem? (i := 594) rfl), rfl⟩
set_option maxRecDepth 20000 in
theorem wb_596 : (Jvm.Cond.instanceMethod ({ cls := "OmegaDeskModel", name := "append", desc := "(II)V" } : Jvm.MethodName)) ∈ WB := List.mem_filter.mpr ⟨List.mem_append_right _ (List.mem_of_getElem? (i := 596) rfl), rfl⟩
set_option maxRecDepth 20000 in
theorem wb_597 : (Jvm.Cond.code ({ cls := "OmegaDeskModel", name := "append", desc := "(II)V" } : Jvm.MethodName) prog_8_method_10_code (7 : Nat) (Option.none : Option Jvm.ClassFile.FieldType)) ∈ WB := List.mem_filter.mpr ⟨List.mem_append_right _ (List.mem_of_getElem? (i := 597) rfl), rfl⟩
set_option maxRecDepth 20000 in
theorem wb_598 : (Jvm.Cond.methodLink "OmegaDeskLaw" (88 : Nat) ({ cls := "OmegaDeskModel", name := "trim", desc := "(I)I" } : Jvm.MethodName)) ∈ WB := List.mem_filter.mpr ⟨List.mem_append_right _ (List.mem_of_getElem? (i := 598) rfl), rfl⟩
set_option maxRecDepth 20000 in
theorem wb_599 : (Jvm.Cond.instanceMethod ({ cls := "OmegaDeskModel", name := "trim", desc := "(I)I" } : Jvm.MethodName)) ∈ WB := List.mem_filter.mpr ⟨List.mem_append_right _ (List.mem_of_getElem? (i := 599) rfl), rfl⟩
set_option maxRecDepth 20000 in
theorem wb_600 : (Jvm.Cond.selects "OmegaDeskModel" ({ cls := "OmegaDeskModel", name := "trim", desc := "(I)I" } : Jvm.MethodName) ({ cls := "OmegaDeskModel", name := "trim", desc := "(I)I" } : Jvm.MethodName)) ∈ WB := List.mem_filter.mpr ⟨List.mem_append_right _ (List.mem_of_getElem? (i := 600) rfl), rfl⟩
set_option maxRecDepth 20000 in
theorem wb_601 : (Jvm.Cond.code ({ cls := "OmegaDeskModel", name := "trim", desc := "(I)I" } : Jvm.MethodName) prog_8_method_15_code (11 : Nat) (Option.some Jvm.ClassFile.FieldType.int)) ∈ WB := List.mem_filter.mpr ⟨List.mem_append_right _ (List.mem_of_getElem? (i := 601) rfl), rfl⟩
set_option maxRecDepth 20000 in
theorem wb_602 : (Jvm.Cond.methodLink "OmegaDeskModel" (68 : Nat) ({ cls := "OmegaDeskModel", name := "living", desc := "(I)I" } : Jvm.MethodName)) ∈ WB := List.mem_filter.mpr ⟨List.mem_append_right _ (List.mem_of_getElem? (i := 602) rfl), rfl⟩
set_option maxRecDepth 20000 in
theorem wb_604 : (Jvm.Cond.instanceMethod ({ cls := "OmegaDeskModel", name := "living", desc := "(I)I" } : Jvm.MethodName)) ∈ WB := List.mem_filter.mpr ⟨List.mem_append_right _ (List.mem_of_getElem? (i := 604) rfl), rfl⟩
set_option maxRecDepth 20000 in
theorem wb_605 : (Jvm.Cond.code ({ cls := "OmegaDeskModel", name := "living", desc := "(I)I" } : Jvm.MethodName) prog_8_method_14_code (4 : Nat) (Option.some Jvm.ClassFile.FieldType.int)) ∈ WB := List.mem_filter.mpr ⟨List.mem_append_right _ (List.mem_of_getElem? (i := 605) rfl), rfl⟩
set_option maxRecDepth 20000 in
theorem wb_606 : (Jvm.Cond.methodLink "OmegaDeskModel" (65 : Nat) ({ cls := "OmegaDeskModel", name := "alive", desc := "(II)Z" } : Jvm.MethodName)) ∈ WB := List.mem_filter.mpr ⟨List.mem_append_right _ (List.mem_of_getElem? (i := 606) rfl), rfl⟩
set_option maxRecDepth 20000 in
theorem wb_608 : (Jvm.Cond.instanceMethod ({ cls := "OmegaDeskModel", name := "alive", desc := "(II)Z" } : Jvm.MethodName)) ∈ WB := List.mem_filter.mpr ⟨List.mem_append_right _ (List.mem_of_getElem? (i := 608) rfl), rfl⟩
set_option maxRecDepth 20000 in
theorem wb_609 : (Jvm.Cond.code ({ cls := "OmegaDeskModel", name := "alive", desc := "(II)Z" } : Jvm.MethodName) prog_8_method_13_code (7 : Nat) (Option.some Jvm.ClassFile.FieldType.boolean)) ∈ WB := List.mem_filter.mpr ⟨List.mem_append_right _ (List.mem_of_getElem? (i := 609) rfl), rfl⟩
set_option maxRecDepth 20000 in
theorem wb_610 : (Jvm.Cond.methodLink "OmegaDeskModel" (61 : Nat) ({ cls := "OmegaDeskModel", name := "ahead", desc := "(II)I" } : Jvm.MethodName)) ∈ WB := List.mem_filter.mpr ⟨List.mem_append_right _ (List.mem_of_getElem? (i := 610) rfl), rfl⟩
set_option maxRecDepth 20000 in
theorem wb_612 : (Jvm.Cond.instanceMethod ({ cls := "OmegaDeskModel", name := "ahead", desc := "(II)I" } : Jvm.MethodName)) ∈ WB := List.mem_filter.mpr ⟨List.mem_append_right _ (List.mem_of_getElem? (i := 612) rfl), rfl⟩
set_option maxRecDepth 20000 in
theorem wb_613 : (Jvm.Cond.code ({ cls := "OmegaDeskModel", name := "ahead", desc := "(II)I" } : Jvm.MethodName) prog_8_method_12_code (6 : Nat) (Option.some Jvm.ClassFile.FieldType.int)) ∈ WB := List.mem_filter.mpr ⟨List.mem_append_right _ (List.mem_of_getElem? (i := 613) rfl), rfl⟩
set_option maxRecDepth 20000 in
theorem wb_614 : (Jvm.Cond.methodLink "OmegaDeskLaw" (91 : Nat) ({ cls := "OmegaDeskModel", name := "empty", desc := "(I)Z" } : Jvm.MethodName)) ∈ WB := List.mem_filter.mpr ⟨List.mem_append_right _ (List.mem_of_getElem? (i := 614) rfl), rfl⟩
set_option maxRecDepth 20000 in
theorem wb_615 : (Jvm.Cond.instanceMethod ({ cls := "OmegaDeskModel", name := "empty", desc := "(I)Z" } : Jvm.MethodName)) ∈ WB := List.mem_filter.mpr ⟨List.mem_append_right _ (List.mem_of_getElem? (i := 615) rfl), rfl⟩
set_option maxRecDepth 20000 in
theorem wb_616 : (Jvm.Cond.selects "OmegaDeskModel" ({ cls := "OmegaDeskModel", name := "empty", desc := "(I)Z" } : Jvm.MethodName) ({ cls := "OmegaDeskModel", name := "empty", desc := "(I)Z" } : Jvm.MethodName)) ∈ WB := List.mem_filter.mpr ⟨List.mem_append_right _ (List.mem_of_getElem? (i := 616) rfl), rfl⟩
set_option maxRecDepth 20000 in
theorem wb_617 : (Jvm.Cond.code ({ cls := "OmegaDeskModel", name := "empty", desc := "(I)Z" } : Jvm.MethodName) prog_8_method_16_code (2 : Nat) (Option.some Jvm.ClassFile.FieldType.boolean)) ∈ WB := List.mem_filter.mpr ⟨List.mem_append_right _ (List.mem_of_getElem? (i := 617) rfl), rfl⟩
set_option maxRecDepth 20000 in
theorem wb_618 : (Jvm.Cond.methodLink "OmegaDeskLaw" (95 : Nat) ({ cls := "OmegaDeskModel", name := "takes", desc := "(IIIII)Z" } : Jvm.MethodName)) ∈ WB := List.mem_filter.mpr ⟨List.mem_append_right _ (List.mem_of_getElem? (i := 618) rfl), rfl⟩
set_option maxRecDepth 20000 in
theorem wb_619 : (Jvm.Cond.instanceMethod ({ cls := "OmegaDeskModel", name := "takes", desc := "(IIIII)Z" } : Jvm.MethodName)) ∈ WB := List.mem_filter.mpr ⟨List.mem_append_right _ (List.mem_of_getElem? (i := 619) rfl), rfl⟩
set_option maxRecDepth 20000 in
theorem wb_620 : (Jvm.Cond.selects "OmegaDeskModel" ({ cls := "OmegaDeskModel", name := "takes", desc := "(IIIII)Z" } : Jvm.MethodName) ({ cls := "OmegaDeskModel", name := "takes", desc := "(IIIII)Z" } : Jvm.MethodName)) ∈ WB := List.mem_filter.mpr ⟨List.mem_append_right _ (List.mem_of_getElem? (i := 620) rfl), rfl⟩
set_option maxRecDepth 20000 in
theorem wb_621 : (Jvm.Cond.code ({ cls := "OmegaDeskModel", name := "takes", desc := "(IIIII)Z" } : Jvm.MethodName) prog_8_method_22_code (6 : Nat) (Option.some Jvm.ClassFile.FieldType.boolean)) ∈ WB := List.mem_filter.mpr ⟨List.mem_append_right _ (List.mem_of_getElem? (i := 621) rfl), rfl⟩
set_option maxRecDepth 20000 in
theorem wb_622 : (Jvm.Cond.methodLink "OmegaDeskModel" (85 : Nat) ({ cls := "OmegaDeskModel", name := "isWord", desc := "(III)Z" } : Jvm.MethodName)) ∈ WB := List.mem_filter.mpr ⟨List.mem_append_right _ (List.mem_of_getElem? (i := 622) rfl), rfl⟩
set_option maxRecDepth 20000 in
theorem wb_623 : (Jvm.Cond.static ({ cls := "OmegaDeskModel", name := "isWord", desc := "(III)Z" } : Jvm.MethodName)) ∈ WB := List.mem_filter.mpr ⟨List.mem_append_right _ (List.mem_of_getElem? (i := 623) rfl), rfl⟩
set_option maxRecDepth 20000 in
theorem wb_624 : (Jvm.Cond.code ({ cls := "OmegaDeskModel", name := "isWord", desc := "(III)Z" } : Jvm.MethodName) prog_8_method_21_code (3 : Nat) (Option.some Jvm.ClassFile.FieldType.boolean)) ∈ WB := List.mem_filter.mpr ⟨List.mem_append_right _ (List.mem_of_getElem? (i := 624) rfl), rfl⟩
set_option maxRecDepth 20000 in
theorem wb_625 : (Jvm.Cond.methodLink "OmegaDeskModel" (89 : Nat) ({ cls := "OmegaDeskModel", name := "lasso", desc := "(IIIII)Z" } : Jvm.MethodName)) ∈ WB := List.mem_filter.mpr ⟨List.mem_append_right _ (List.mem_of_getElem? (i := 625) rfl), rfl⟩
set_option maxRecDepth 20000 in
theorem wb_627 : (Jvm.Cond.instanceMethod ({ cls := "OmegaDeskModel", name := "lasso", desc := "(IIIII)Z" } : Jvm.MethodName)) ∈ WB := List.mem_filter.mpr ⟨List.mem_append_right _ (List.mem_of_getElem? (i := 627) rfl), rfl⟩
set_option maxRecDepth 20000 in
theorem wb_628 : (Jvm.Cond.code ({ cls := "OmegaDeskModel", name := "lasso", desc := "(IIIII)Z" } : Jvm.MethodName) prog_8_method_20_code (13 : Nat) (Option.some Jvm.ClassFile.FieldType.boolean)) ∈ WB := List.mem_filter.mpr ⟨List.mem_append_right _ (List.mem_of_getElem? (i := 628) rfl), rfl⟩
set_option maxRecDepth 20000 in
theorem wb_629 : (Jvm.Cond.methodLink "OmegaDeskModel" (82 : Nat) ({ cls := "OmegaDeskModel", name := "allBehind", desc := "(IJIIII)J" } : Jvm.MethodName)) ∈ WB := List.mem_filter.mpr ⟨List.mem_append_right _ (List.mem_of_getElem? (i := 629) rfl), rfl⟩
set_option maxRecDepth 20000 in
theorem wb_631 : (Jvm.Cond.instanceMethod ({ cls := "OmegaDeskModel", name := "allBehind", desc := "(IJIIII)J" } : Jvm.MethodName)) ∈ WB := List.mem_filter.mpr ⟨List.mem_append_right _ (List.mem_of_getElem? (i := 631) rfl), rfl⟩
set_option maxRecDepth 20000 in
theorem wb_632 : (Jvm.Cond.code ({ cls := "OmegaDeskModel", name := "allBehind", desc := "(IJIIII)J" } : Jvm.MethodName) prog_8_method_19_code (12 : Nat) (Option.some Jvm.ClassFile.FieldType.long)) ∈ WB := List.mem_filter.mpr ⟨List.mem_append_right _ (List.mem_of_getElem? (i := 632) rfl), rfl⟩
set_option maxRecDepth 20000 in
theorem wb_633 : (Jvm.Cond.methodLink "OmegaDeskModel" (78 : Nat) ({ cls := "OmegaDeskModel", name := "behind", desc := "(IJIIII)J" } : Jvm.MethodName)) ∈ WB := List.mem_filter.mpr ⟨List.mem_append_right _ (List.mem_of_getElem? (i := 633) rfl), rfl⟩
set_option maxRecDepth 20000 in
theorem wb_635 : (Jvm.Cond.instanceMethod ({ cls := "OmegaDeskModel", name := "behind", desc := "(IJIIII)J" } : Jvm.MethodName)) ∈ WB := List.mem_filter.mpr ⟨List.mem_append_right _ (List.mem_of_getElem? (i := 635) rfl), rfl⟩
set_option maxRecDepth 20000 in
theorem wb_636 : (Jvm.Cond.code ({ cls := "OmegaDeskModel", name := "behind", desc := "(IJIIII)J" } : Jvm.MethodName) prog_8_method_18_code (15 : Nat) (Option.some Jvm.ClassFile.FieldType.long)) ∈ WB := List.mem_filter.mpr ⟨List.mem_append_right _ (List.mem_of_getElem? (i := 636) rfl), rfl⟩
set_option maxRecDepth 20000 in
theorem wb_637 : (Jvm.Cond.constantLong "OmegaDeskModel" (72 : Nat) (15 : Int64)) ∈ WB := List.mem_filter.mpr ⟨List.mem_append_right _ (List.mem_of_getElem? (i := 637) rfl), rfl⟩
set_option maxRecDepth 20000 in
theorem wb_638 : (Jvm.Cond.methodLink "OmegaDeskModel" (74 : Nat) ({ cls := "OmegaDeskModel", name := "letter", desc := "(IIIII)I" } : Jvm.MethodName)) ∈ WB := List.mem_filter.mpr ⟨List.mem_append_right _ (List.mem_of_getElem? (i := 638) rfl), rfl⟩
set_option maxRecDepth 20000 in
theorem wb_639 : (Jvm.Cond.static ({ cls := "OmegaDeskModel", name := "letter", desc := "(IIIII)I" } : Jvm.MethodName)) ∈ WB := List.mem_filter.mpr ⟨List.mem_append_right _ (List.mem_of_getElem? (i := 639) rfl), rfl⟩
set_option maxRecDepth 20000 in
theorem wb_640 : (Jvm.Cond.code ({ cls := "OmegaDeskModel", name := "letter", desc := "(IIIII)I" } : Jvm.MethodName) prog_8_method_17_code (5 : Nat) (Option.some Jvm.ClassFile.FieldType.int)) ∈ WB := List.mem_filter.mpr ⟨List.mem_append_right _ (List.mem_of_getElem? (i := 640) rfl), rfl⟩
set_option maxRecDepth 20000 in
theorem wb_641 : (Jvm.Cond.methodLink "OmegaDeskLaw" (99 : Nat) ({ cls := "OmegaDeskModel", name := "included", desc := "(II)Z" } : Jvm.MethodName)) ∈ WB := List.mem_filter.mpr ⟨List.mem_append_right _ (List.mem_of_getElem? (i := 641) rfl), rfl⟩
set_option maxRecDepth 20000 in
theorem wb_642 : (Jvm.Cond.instanceMethod ({ cls := "OmegaDeskModel", name := "included", desc := "(II)Z" } : Jvm.MethodName)) ∈ WB := List.mem_filter.mpr ⟨List.mem_append_right _ (List.mem_of_getElem? (i := 642) rfl), rfl⟩
set_option maxRecDepth 20000 in
theorem wb_643 : (Jvm.Cond.selects "OmegaDeskModel" ({ cls := "OmegaDeskModel", name := "included", desc := "(II)Z" } : Jvm.MethodName) ({ cls := "OmegaDeskModel", name := "included", desc := "(II)Z" } : Jvm.MethodName)) ∈ WB := List.mem_filter.mpr ⟨List.mem_append_right _ (List.mem_of_getElem? (i := 643) rfl), rfl⟩
set_option maxRecDepth 20000 in
theorem wb_644 : (Jvm.Cond.code ({ cls := "OmegaDeskModel", name := "included", desc := "(II)Z" } : Jvm.MethodName) prog_8_method_36_code (4 : Nat) (Option.some Jvm.ClassFile.FieldType.boolean)) ∈ WB := List.mem_filter.mpr ⟨List.mem_append_right _ (List.mem_of_getElem? (i := 644) rfl), rfl⟩
set_option maxRecDepth 20000 in
theorem wb_645 : (Jvm.Cond.methodLink "OmegaDeskModel" (136 : Nat) ({ cls := "OmegaDeskModel", name := "differs", desc := "(II)Z" } : Jvm.MethodName)) ∈ WB := List.mem_filter.mpr ⟨List.mem_append_right _ (List.mem_of_getElem? (i := 645) rfl), rfl⟩
set_option maxRecDepth 20000 in
theorem wb_647 : (Jvm.Cond.instanceMethod ({ cls := "OmegaDeskModel", name := "differs", desc := "(II)Z" } : Jvm.MethodName)) ∈ WB := List.mem_filter.mpr ⟨List.mem_append_right _ (List.mem_of_getElem? (i := 647) rfl), rfl⟩
set_option maxRecDepth 20000 in
theorem wb_648 : (Jvm.Cond.code ({ cls := "OmegaDeskModel", name := "differs", desc := "(II)Z" } : Jvm.MethodName) prog_8_method_33_code (6 : Nat) (Option.some Jvm.ClassFile.FieldType.boolean)) ∈ WB := List.mem_filter.mpr ⟨List.mem_append_right _ (List.mem_of_getElem? (i := 648) rfl), rfl⟩
set_option maxRecDepth 20000 in
theorem wb_649 : (Jvm.Cond.methodLink "OmegaDeskModel" (116 : Nat) ({ cls := "OmegaDeskModel", name := "begin", desc := "(II)V" } : Jvm.MethodName)) ∈ WB := List.mem_filter.mpr ⟨List.mem_append_right _ (List.mem_of_getElem? (i := 649) rfl), rfl⟩
set_option maxRecDepth 20000 in
theorem wb_651 : (Jvm.Cond.instanceMethod ({ cls := "OmegaDeskModel", name := "begin", desc := "(II)V" } : Jvm.MethodName)) ∈ WB := List.mem_filter.mpr ⟨List.mem_append_right _ (List.mem_of_getElem? (i := 651) rfl), rfl⟩
set_option maxRecDepth 20000 in
theorem wb_652 : (Jvm.Cond.code ({ cls := "OmegaDeskModel", name := "begin", desc := "(II)V" } : Jvm.MethodName) prog_8_method_25_code (6 : Nat) (Option.none : Option Jvm.ClassFile.FieldType)) ∈ WB := List.mem_filter.mpr ⟨List.mem_append_right _ (List.mem_of_getElem? (i := 652) rfl), rfl⟩
set_option maxRecDepth 20000 in
theorem wb_653 : (Jvm.Cond.methodLink "OmegaDeskModel" (93 : Nat) ({ cls := "OmegaDeskModel", name := "goOn", desc := "(IIII)Z" } : Jvm.MethodName)) ∈ WB := List.mem_filter.mpr ⟨List.mem_append_right _ (List.mem_of_getElem? (i := 653) rfl), rfl⟩
set_option maxRecDepth 20000 in
theorem wb_655 : (Jvm.Cond.instanceMethod ({ cls := "OmegaDeskModel", name := "goOn", desc := "(IIII)Z" } : Jvm.MethodName)) ∈ WB := List.mem_filter.mpr ⟨List.mem_append_right _ (List.mem_of_getElem? (i := 655) rfl), rfl⟩
set_option maxRecDepth 20000 in
theorem wb_656 : (Jvm.Cond.code ({ cls := "OmegaDeskModel", name := "goOn", desc := "(IIII)Z" } : Jvm.MethodName) prog_8_method_26_code (10 : Nat) (Option.some Jvm.ClassFile.FieldType.boolean)) ∈ WB := List.mem_filter.mpr ⟨List.mem_append_right _ (List.mem_of_getElem? (i := 656) rfl), rfl⟩
set_option maxRecDepth 20000 in
theorem wb_657 : (Jvm.Cond.methodLink "OmegaDeskModel" (119 : Nat) ({ cls := "OmegaDeskModel", name := "gather", desc := "(III)V" } : Jvm.MethodName)) ∈ WB := List.mem_filter.mpr ⟨List.mem_append_right _ (List.mem_of_getElem? (i := 657) rfl), rfl⟩
set_option maxRecDepth 20000 in
theorem wb_659 : (Jvm.Cond.instanceMethod ({ cls := "OmegaDeskModel", name := "gather", desc := "(III)V" } : Jvm.MethodName)) ∈ WB := List.mem_filter.mpr ⟨List.mem_append_right _ (List.mem_of_getElem? (i := 659) rfl), rfl⟩
set_option maxRecDepth 20000 in
theorem wb_660 : (Jvm.Cond.code ({ cls := "OmegaDeskModel", name := "gather", desc := "(III)V" } : Jvm.MethodName) prog_8_method_29_code (8 : Nat) (Option.none : Option Jvm.ClassFile.FieldType)) ∈ WB := List.mem_filter.mpr ⟨List.mem_append_right _ (List.mem_of_getElem? (i := 660) rfl), rfl⟩
set_option maxRecDepth 20000 in
theorem wb_661 : (Jvm.Cond.methodLink "OmegaDeskModel" (96 : Nat) ({ cls := "OmegaDeskModel", name := "power", desc := "(I)I" } : Jvm.MethodName)) ∈ WB := List.mem_filter.mpr ⟨List.mem_append_right _ (List.mem_of_getElem? (i := 661) rfl), rfl⟩
set_option maxRecDepth 20000 in
theorem wb_662 : (Jvm.Cond.static ({ cls := "OmegaDeskModel", name := "power", desc := "(I)I" } : Jvm.MethodName)) ∈ WB := List.mem_filter.mpr ⟨List.mem_append_right _ (List.mem_of_getElem? (i := 662) rfl), rfl⟩
set_option maxRecDepth 20000 in
theorem wb_663 : (Jvm.Cond.code ({ cls := "OmegaDeskModel", name := "power", desc := "(I)I" } : Jvm.MethodName) prog_8_method_30_code (3 : Nat) (Option.some Jvm.ClassFile.FieldType.int)) ∈ WB := List.mem_filter.mpr ⟨List.mem_append_right _ (List.mem_of_getElem? (i := 663) rfl), rfl⟩
set_option maxRecDepth 20000 in
theorem wb_664 : (Jvm.Cond.methodLink "OmegaDeskModel" (99 : Nat) ({ cls := "OmegaDeskModel", name := "mark", desc := "([JI)V" } : Jvm.MethodName)) ∈ WB := List.mem_filter.mpr ⟨List.mem_append_right _ (List.mem_of_getElem? (i := 664) rfl), rfl⟩
set_option maxRecDepth 20000 in
theorem wb_665 : (Jvm.Cond.static ({ cls := "OmegaDeskModel", name := "mark", desc := "([JI)V" } : Jvm.MethodName)) ∈ WB := List.mem_filter.mpr ⟨List.mem_append_right _ (List.mem_of_getElem? (i := 665) rfl), rfl⟩
set_option maxRecDepth 20000 in
theorem wb_666 : (Jvm.Cond.code ({ cls := "OmegaDeskModel", name := "mark", desc := "([JI)V" } : Jvm.MethodName) prog_8_method_24_code (2 : Nat) (Option.none : Option Jvm.ClassFile.FieldType)) ∈ WB := List.mem_filter.mpr ⟨List.mem_append_right _ (List.mem_of_getElem? (i := 666) rfl), rfl⟩
set_option maxRecDepth 20000 in
theorem wb_667 : (Jvm.Cond.methodLink "OmegaDeskModel" (103 : Nat) ({ cls := "OmegaDeskModel", name := "lead", desc := "(III)V" } : Jvm.MethodName)) ∈ WB := List.mem_filter.mpr ⟨List.mem_append_right _ (List.mem_of_getElem? (i := 667) rfl), rfl⟩
set_option maxRecDepth 20000 in
theorem wb_669 : (Jvm.Cond.instanceMethod ({ cls := "OmegaDeskModel", name := "lead", desc := "(III)V" } : Jvm.MethodName)) ∈ WB := List.mem_filter.mpr ⟨List.mem_append_right _ (List.mem_of_getElem? (i := 669) rfl), rfl⟩
set_option maxRecDepth 20000 in
theorem wb_670 : (Jvm.Cond.code ({ cls := "OmegaDeskModel", name := "lead", desc := "(III)V" } : Jvm.MethodName) prog_8_method_31_code (11 : Nat) (Option.none : Option Jvm.ClassFile.FieldType)) ∈ WB := List.mem_filter.mpr ⟨List.mem_append_right _ (List.mem_of_getElem? (i := 670) rfl), rfl⟩
set_option maxRecDepth 20000 in
theorem wb_671 : (Jvm.Cond.methodLink "OmegaDeskModel" (109 : Nat) ({ cls := "OmegaDeskModel", name := "spread", desc := "(I)V" } : Jvm.MethodName)) ∈ WB := List.mem_filter.mpr ⟨List.mem_append_right _ (List.mem_of_getElem? (i := 671) rfl), rfl⟩
set_option maxRecDepth 20000 in
theorem wb_673 : (Jvm.Cond.instanceMethod ({ cls := "OmegaDeskModel", name := "spread", desc := "(I)V" } : Jvm.MethodName)) ∈ WB := List.mem_filter.mpr ⟨List.mem_append_right _ (List.mem_of_getElem? (i := 673) rfl), rfl⟩
set_option maxRecDepth 20000 in
theorem wb_674 : (Jvm.Cond.code ({ cls := "OmegaDeskModel", name := "spread", desc := "(I)V" } : Jvm.MethodName) prog_8_method_27_code (4 : Nat) (Option.none : Option Jvm.ClassFile.FieldType)) ∈ WB := List.mem_filter.mpr ⟨List.mem_append_right _ (List.mem_of_getElem? (i := 674) rfl), rfl⟩
set_option maxRecDepth 20000 in
theorem wb_675 : (Jvm.Cond.methodLink "OmegaDeskModel" (113 : Nat) ({ cls := "OmegaDeskModel", name := "longer", desc := "(II)I" } : Jvm.MethodName)) ∈ WB := List.mem_filter.mpr ⟨List.mem_append_right _ (List.mem_of_getElem? (i := 675) rfl), rfl⟩
set_option maxRecDepth 20000 in
theorem wb_677 : (Jvm.Cond.instanceMethod ({ cls := "OmegaDeskModel", name := "longer", desc := "(II)I" } : Jvm.MethodName)) ∈ WB := List.mem_filter.mpr ⟨List.mem_append_right _ (List.mem_of_getElem? (i := 677) rfl), rfl⟩
set_option maxRecDepth 20000 in
theorem wb_678 : (Jvm.Cond.code ({ cls := "OmegaDeskModel", name := "longer", desc := "(II)I" } : Jvm.MethodName) prog_8_method_28_code (9 : Nat) (Option.some Jvm.ClassFile.FieldType.int)) ∈ WB := List.mem_filter.mpr ⟨List.mem_append_right _ (List.mem_of_getElem? (i := 678) rfl), rfl⟩
set_option maxRecDepth 20000 in
theorem wb_679 : (Jvm.Cond.constantLong "OmegaDeskModel" (107 : Nat) (-1 : Int64)) ∈ WB := List.mem_filter.mpr ⟨List.mem_append_right _ (List.mem_of_getElem? (i := 679) rfl), rfl⟩
set_option maxRecDepth 20000 in
theorem wb_680 : (Jvm.Cond.methodLink "OmegaDeskModel" (122 : Nat) ({ cls := "OmegaDeskModel", name := "bit", desc := "([JI)Z" } : Jvm.MethodName)) ∈ WB := List.mem_filter.mpr ⟨List.mem_append_right _ (List.mem_of_getElem? (i := 680) rfl), rfl⟩
set_option maxRecDepth 20000 in
theorem wb_681 : (Jvm.Cond.static ({ cls := "OmegaDeskModel", name := "bit", desc := "([JI)Z" } : Jvm.MethodName)) ∈ WB := List.mem_filter.mpr ⟨List.mem_append_right _ (List.mem_of_getElem? (i := 681) rfl), rfl⟩
set_option maxRecDepth 20000 in
theorem wb_682 : (Jvm.Cond.code ({ cls := "OmegaDeskModel", name := "bit", desc := "([JI)Z" } : Jvm.MethodName) prog_8_method_23_code (2 : Nat) (Option.some Jvm.ClassFile.FieldType.boolean)) ∈ WB := List.mem_filter.mpr ⟨List.mem_append_right _ (List.mem_of_getElem? (i := 682) rfl), rfl⟩
set_option maxRecDepth 20000 in
theorem wb_683 : (Jvm.Cond.methodLink "OmegaDeskModel" (126 : Nat) ({ cls := "OmegaDeskModel", name := "taken", desc := "(II)I" } : Jvm.MethodName)) ∈ WB := List.mem_filter.mpr ⟨List.mem_append_right _ (List.mem_of_getElem? (i := 683) rfl), rfl⟩
set_option maxRecDepth 20000 in
theorem wb_685 : (Jvm.Cond.instanceMethod ({ cls := "OmegaDeskModel", name := "taken", desc := "(II)I" } : Jvm.MethodName)) ∈ WB := List.mem_filter.mpr ⟨List.mem_append_right _ (List.mem_of_getElem? (i := 685) rfl), rfl⟩
set_option maxRecDepth 20000 in
theorem wb_686 : (Jvm.Cond.code ({ cls := "OmegaDeskModel", name := "taken", desc := "(II)I" } : Jvm.MethodName) prog_8_method_32_code (10 : Nat) (Option.some Jvm.ClassFile.FieldType.int)) ∈ WB := List.mem_filter.mpr ⟨List.mem_append_right _ (List.mem_of_getElem? (i := 686) rfl), rfl⟩
set_option maxRecDepth 20000 in
theorem wb_687 : (Jvm.Cond.methodLink "OmegaDeskModel" (129 : Nat) ({ cls := "OmegaDeskModel", name := "misses", desc := "(II)Z" } : Jvm.MethodName)) ∈ WB := List.mem_filter.mpr ⟨List.mem_append_right _ (List.mem_of_getElem? (i := 687) rfl), rfl⟩
set_option maxRecDepth 20000 in
theorem wb_688 : (Jvm.Cond.static ({ cls := "OmegaDeskModel", name := "misses", desc := "(II)Z" } : Jvm.MethodName)) ∈ WB := List.mem_filter.mpr ⟨List.mem_append_right _ (List.mem_of_getElem? (i := 688) rfl), rfl⟩
set_option maxRecDepth 20000 in
theorem wb_689 : (Jvm.Cond.code ({ cls := "OmegaDeskModel", name := "misses", desc := "(II)Z" } : Jvm.MethodName) prog_8_method_34_code (3 : Nat) (Option.some Jvm.ClassFile.FieldType.boolean)) ∈ WB := List.mem_filter.mpr ⟨List.mem_append_right _ (List.mem_of_getElem? (i := 689) rfl), rfl⟩
set_option maxRecDepth 20000 in
theorem wb_690 : (Jvm.Cond.methodLink "OmegaDeskModel" (139 : Nat) ({ cls := "OmegaDeskModel", name := "look", desc := "(III)Z" } : Jvm.MethodName)) ∈ WB := List.mem_filter.mpr ⟨List.mem_append_right _ (List.mem_of_getElem? (i := 690) rfl), rfl⟩
set_option maxRecDepth 20000 in
theorem wb_692 : (Jvm.Cond.instanceMethod ({ cls := "OmegaDeskModel", name := "look", desc := "(III)Z" } : Jvm.MethodName)) ∈ WB := List.mem_filter.mpr ⟨List.mem_append_right _ (List.mem_of_getElem? (i := 692) rfl), rfl⟩
set_option maxRecDepth 20000 in
theorem wb_693 : (Jvm.Cond.code ({ cls := "OmegaDeskModel", name := "look", desc := "(III)Z" } : Jvm.MethodName) prog_8_method_35_code (9 : Nat) (Option.some Jvm.ClassFile.FieldType.boolean)) ∈ WB := List.mem_filter.mpr ⟨List.mem_append_right _ (List.mem_of_getElem? (i := 693) rfl), rfl⟩
set_option maxRecDepth 20000 in
theorem wb_694 : (Jvm.Cond.methodLink "OmegaDeskLaw" (102 : Nat) ({ cls := "OmegaDeskModel", name := "witness", desc := "(I)I" } : Jvm.MethodName)) ∈ WB := List.mem_filter.mpr ⟨List.mem_append_right _ (List.mem_of_getElem? (i := 694) rfl), rfl⟩
set_option maxRecDepth 20000 in
theorem wb_695 : (Jvm.Cond.instanceMethod ({ cls := "OmegaDeskModel", name := "witness", desc := "(I)I" } : Jvm.MethodName)) ∈ WB := List.mem_filter.mpr ⟨List.mem_append_right _ (List.mem_of_getElem? (i := 695) rfl), rfl⟩
set_option maxRecDepth 20000 in
theorem wb_696 : (Jvm.Cond.selects "OmegaDeskModel" ({ cls := "OmegaDeskModel", name := "witness", desc := "(I)I" } : Jvm.MethodName) ({ cls := "OmegaDeskModel", name := "witness", desc := "(I)I" } : Jvm.MethodName)) ∈ WB := List.mem_filter.mpr ⟨List.mem_append_right _ (List.mem_of_getElem? (i := 696) rfl), rfl⟩
set_option maxRecDepth 20000 in
theorem wb_697 : (Jvm.Cond.code ({ cls := "OmegaDeskModel", name := "witness", desc := "(I)I" } : Jvm.MethodName) prog_8_method_37_code (2 : Nat) (Option.some Jvm.ClassFile.FieldType.int)) ∈ WB := List.mem_filter.mpr ⟨List.mem_append_right _ (List.mem_of_getElem? (i := 697) rfl), rfl⟩
set_option maxRecDepth 20000 in
theorem wb_698 : (Jvm.Cond.methodLink "OmegaDeskLaw" (105 : Nat) ({ cls := "OmegaDeskModel", name := "states", desc := "(I)I" } : Jvm.MethodName)) ∈ WB := List.mem_filter.mpr ⟨List.mem_append_right _ (List.mem_of_getElem? (i := 698) rfl), rfl⟩
set_option maxRecDepth 20000 in
theorem wb_699 : (Jvm.Cond.instanceMethod ({ cls := "OmegaDeskModel", name := "states", desc := "(I)I" } : Jvm.MethodName)) ∈ WB := List.mem_filter.mpr ⟨List.mem_append_right _ (List.mem_of_getElem? (i := 699) rfl), rfl⟩
set_option maxRecDepth 20000 in
theorem wb_700 : (Jvm.Cond.selects "OmegaDeskModel" ({ cls := "OmegaDeskModel", name := "states", desc := "(I)I" } : Jvm.MethodName) ({ cls := "OmegaDeskModel", name := "states", desc := "(I)I" } : Jvm.MethodName)) ∈ WB := List.mem_filter.mpr ⟨List.mem_append_right _ (List.mem_of_getElem? (i := 700) rfl), rfl⟩
set_option maxRecDepth 20000 in
theorem wb_701 : (Jvm.Cond.code ({ cls := "OmegaDeskModel", name := "states", desc := "(I)I" } : Jvm.MethodName) prog_8_method_38_code (2 : Nat) (Option.some Jvm.ClassFile.FieldType.int)) ∈ WB := List.mem_filter.mpr ⟨List.mem_append_right _ (List.mem_of_getElem? (i := 701) rfl), rfl⟩
set_option maxRecDepth 20000 in
theorem wb_702 : (Jvm.Cond.methodLink "OmegaDeskModel" (142 : Nat) ({ cls := "OmegaDeskModel", name := "fail", desc := "(I)I" } : Jvm.MethodName)) ∈ WB := List.mem_filter.mpr ⟨List.mem_append_right _ (List.mem_of_getElem? (i := 702) rfl), rfl⟩
set_option maxRecDepth 20000 in
theorem wb_704 : (Jvm.Cond.instanceMethod ({ cls := "OmegaDeskModel", name := "fail", desc := "(I)I" } : Jvm.MethodName)) ∈ WB := List.mem_filter.mpr ⟨List.mem_append_right _ (List.mem_of_getElem? (i := 704) rfl), rfl⟩
set_option maxRecDepth 20000 in
theorem wb_705 : (Jvm.Cond.code ({ cls := "OmegaDeskModel", name := "fail", desc := "(I)I" } : Jvm.MethodName) prog_8_method_4_code (2 : Nat) (Option.some Jvm.ClassFile.FieldType.int)) ∈ WB := List.mem_filter.mpr ⟨List.mem_append_right _ (List.mem_of_getElem? (i := 705) rfl), rfl⟩
set_option maxRecDepth 20000 in
theorem wb_706 : (Jvm.Cond.methodLink "OmegaDeskLaw" (108 : Nat) ({ cls := "OmegaDeskModel", name := "good", desc := "(II)Z" } : Jvm.MethodName)) ∈ WB := List.mem_filter.mpr ⟨List.mem_append_right _ (List.mem_of_getElem? (i := 706) rfl), rfl⟩
set_option maxRecDepth 20000 in
theorem wb_707 : (Jvm.Cond.instanceMethod ({ cls := "OmegaDeskModel", name := "good", desc := "(II)Z" } : Jvm.MethodName)) ∈ WB := List.mem_filter.mpr ⟨List.mem_append_right _ (List.mem_of_getElem? (i := 707) rfl), rfl⟩
set_option maxRecDepth 20000 in
theorem wb_708 : (Jvm.Cond.selects "OmegaDeskModel" ({ cls := "OmegaDeskModel", name := "good", desc := "(II)Z" } : Jvm.MethodName) ({ cls := "OmegaDeskModel", name := "good", desc := "(II)Z" } : Jvm.MethodName)) ∈ WB := List.mem_filter.mpr ⟨List.mem_append_right _ (List.mem_of_getElem? (i := 708) rfl), rfl⟩
set_option maxRecDepth 20000 in
theorem wb_709 : (Jvm.Cond.code ({ cls := "OmegaDeskModel", name := "good", desc := "(II)Z" } : Jvm.MethodName) prog_8_method_39_code (3 : Nat) (Option.some Jvm.ClassFile.FieldType.boolean)) ∈ WB := List.mem_filter.mpr ⟨List.mem_append_right _ (List.mem_of_getElem? (i := 709) rfl), rfl⟩
set_option maxRecDepth 20000 in
theorem wb_710 : (Jvm.Cond.methodLink "OmegaDeskLaw" (111 : Nat) ({ cls := "OmegaDeskModel", name := "has", desc := "(IIII)Z" } : Jvm.MethodName)) ∈ WB := List.mem_filter.mpr ⟨List.mem_append_right _ (List.mem_of_getElem? (i := 710) rfl), rfl⟩
set_option maxRecDepth 20000 in
theorem wb_711 : (Jvm.Cond.instanceMethod ({ cls := "OmegaDeskModel", name := "has", desc := "(IIII)Z" } : Jvm.MethodName)) ∈ WB := List.mem_filter.mpr ⟨List.mem_append_right _ (List.mem_of_getElem? (i := 711) rfl), rfl⟩
set_option maxRecDepth 20000 in
theorem wb_712 : (Jvm.Cond.selects "OmegaDeskModel" ({ cls := "OmegaDeskModel", name := "has", desc := "(IIII)Z" } : Jvm.MethodName) ({ cls := "OmegaDeskModel", name := "has", desc := "(IIII)Z" } : Jvm.MethodName)) ∈ WB := List.mem_filter.mpr ⟨List.mem_append_right _ (List.mem_of_getElem? (i := 712) rfl), rfl⟩
set_option maxRecDepth 20000 in
theorem wb_713 : (Jvm.Cond.code ({ cls := "OmegaDeskModel", name := "has", desc := "(IIII)Z" } : Jvm.MethodName) prog_8_method_40_code (5 : Nat) (Option.some Jvm.ClassFile.FieldType.boolean)) ∈ WB := List.mem_filter.mpr ⟨List.mem_append_right _ (List.mem_of_getElem? (i := 713) rfl), rfl⟩
set_option maxRecDepth 20000 in
theorem uw_A : ∀ w ∈ u_ws R_A F_A 3, w ∈ WB := by
  intro w hw
  obtain ⟨k, hk, rfl⟩ := List.mem_map.mp hw
  have hk := List.mem_range.mp hk
  rcases (show k = 0 ∨ k = 1 ∨ k = 2 by omega) with rfl | rfl | rfl
  · exact List.mem_filter.mpr ⟨List.mem_append_right _ (List.mem_of_getElem? (i := 39) rfl), rfl⟩
  · exact List.mem_filter.mpr ⟨List.mem_append_right _ (List.mem_of_getElem? (i := 41) rfl), rfl⟩
  · exact List.mem_filter.mpr ⟨List.mem_append_right _ (List.mem_of_getElem? (i := 43) rfl), rfl⟩
set_option maxRecDepth 20000 in
theorem uw_D : ∀ w ∈ u_ws R_D F_D 4, w ∈ WB := by
  intro w hw
  obtain ⟨k, hk, rfl⟩ := List.mem_map.mp hw
  have hk := List.mem_range.mp hk
  rcases (show k = 0 ∨ k = 1 ∨ k = 2 ∨ k = 3 by omega) with rfl | rfl | rfl | rfl
  · exact List.mem_filter.mpr ⟨List.mem_append_right _ (List.mem_of_getElem? (i := 125) rfl), rfl⟩
  · exact List.mem_filter.mpr ⟨List.mem_append_right _ (List.mem_of_getElem? (i := 127) rfl), rfl⟩
  · exact List.mem_filter.mpr ⟨List.mem_append_right _ (List.mem_of_getElem? (i := 129) rfl), rfl⟩
  · exact List.mem_filter.mpr ⟨List.mem_append_right _ (List.mem_of_getElem? (i := 131) rfl), rfl⟩
set_option maxRecDepth 20000 in
theorem uw_R : ∀ w ∈ u_ws R_R F_R 7, w ∈ WB := by
  intro w hw
  obtain ⟨k, hk, rfl⟩ := List.mem_map.mp hw
  have hk := List.mem_range.mp hk
  rcases (show k = 0 ∨ k = 1 ∨ k = 2 ∨ k = 3 ∨ k = 4 ∨ k = 5 ∨ k = 6 by omega) with rfl | rfl | rfl | rfl | rfl | rfl | rfl
  · exact List.mem_filter.mpr ⟨List.mem_append_right _ (List.mem_of_getElem? (i := 60) rfl), rfl⟩
  · exact List.mem_filter.mpr ⟨List.mem_append_right _ (List.mem_of_getElem? (i := 62) rfl), rfl⟩
  · exact List.mem_filter.mpr ⟨List.mem_append_right _ (List.mem_of_getElem? (i := 64) rfl), rfl⟩
  · exact List.mem_filter.mpr ⟨List.mem_append_right _ (List.mem_of_getElem? (i := 66) rfl), rfl⟩
  · exact List.mem_filter.mpr ⟨List.mem_append_right _ (List.mem_of_getElem? (i := 68) rfl), rfl⟩
  · exact List.mem_filter.mpr ⟨List.mem_append_right _ (List.mem_of_getElem? (i := 70) rfl), rfl⟩
  · exact List.mem_filter.mpr ⟨List.mem_append_right _ (List.mem_of_getElem? (i := 72) rfl), rfl⟩
set_option maxRecDepth 20000 in
theorem uw_F : ∀ w ∈ u_ws R_F F_F 7, w ∈ WB := by
  intro w hw
  obtain ⟨k, hk, rfl⟩ := List.mem_map.mp hw
  have hk := List.mem_range.mp hk
  rcases (show k = 0 ∨ k = 1 ∨ k = 2 ∨ k = 3 ∨ k = 4 ∨ k = 5 ∨ k = 6 by omega) with rfl | rfl | rfl | rfl | rfl | rfl | rfl
  · exact List.mem_filter.mpr ⟨List.mem_append_right _ (List.mem_of_getElem? (i := 106) rfl), rfl⟩
  · exact List.mem_filter.mpr ⟨List.mem_append_right _ (List.mem_of_getElem? (i := 108) rfl), rfl⟩
  · exact List.mem_filter.mpr ⟨List.mem_append_right _ (List.mem_of_getElem? (i := 110) rfl), rfl⟩
  · exact List.mem_filter.mpr ⟨List.mem_append_right _ (List.mem_of_getElem? (i := 112) rfl), rfl⟩
  · exact List.mem_filter.mpr ⟨List.mem_append_right _ (List.mem_of_getElem? (i := 114) rfl), rfl⟩
  · exact List.mem_filter.mpr ⟨List.mem_append_right _ (List.mem_of_getElem? (i := 116) rfl), rfl⟩
  · exact List.mem_filter.mpr ⟨List.mem_append_right _ (List.mem_of_getElem? (i := 118) rfl), rfl⟩
set_option maxRecDepth 20000 in
theorem uw_T : ∀ w ∈ u_ws R_T F_T 2, w ∈ WB := by
  intro w hw
  obtain ⟨k, hk, rfl⟩ := List.mem_map.mp hw
  have hk := List.mem_range.mp hk
  rcases (show k = 0 ∨ k = 1 by omega) with rfl | rfl
  · exact List.mem_filter.mpr ⟨List.mem_append_right _ (List.mem_of_getElem? (i := 89) rfl), rfl⟩
  · exact List.mem_filter.mpr ⟨List.mem_append_right _ (List.mem_of_getElem? (i := 91) rfl), rfl⟩
set_option maxRecDepth 20000 in
theorem uw_M : ∀ w ∈ u_ws R_M F_M 12, w ∈ WB := by
  intro w hw
  obtain ⟨k, hk, rfl⟩ := List.mem_map.mp hw
  have hk := List.mem_range.mp hk
  rcases (show k = 0 ∨ k = 1 ∨ k = 2 ∨ k = 3 ∨ k = 4 ∨ k = 5 ∨ k = 6 ∨ k = 7 ∨ k = 8 ∨ k = 9 ∨ k = 10 ∨ k = 11 by omega) with rfl | rfl | rfl | rfl | rfl | rfl | rfl | rfl | rfl | rfl | rfl | rfl
  · exact List.mem_filter.mpr ⟨List.mem_append_right _ (List.mem_of_getElem? (i := 537) rfl), rfl⟩
  · exact List.mem_filter.mpr ⟨List.mem_append_right _ (List.mem_of_getElem? (i := 539) rfl), rfl⟩
  · exact List.mem_filter.mpr ⟨List.mem_append_right _ (List.mem_of_getElem? (i := 541) rfl), rfl⟩
  · exact List.mem_filter.mpr ⟨List.mem_append_right _ (List.mem_of_getElem? (i := 543) rfl), rfl⟩
  · exact List.mem_filter.mpr ⟨List.mem_append_right _ (List.mem_of_getElem? (i := 545) rfl), rfl⟩
  · exact List.mem_filter.mpr ⟨List.mem_append_right _ (List.mem_of_getElem? (i := 547) rfl), rfl⟩
  · exact List.mem_filter.mpr ⟨List.mem_append_right _ (List.mem_of_getElem? (i := 549) rfl), rfl⟩
  · exact List.mem_filter.mpr ⟨List.mem_append_right _ (List.mem_of_getElem? (i := 551) rfl), rfl⟩
  · exact List.mem_filter.mpr ⟨List.mem_append_right _ (List.mem_of_getElem? (i := 553) rfl), rfl⟩
  · exact List.mem_filter.mpr ⟨List.mem_append_right _ (List.mem_of_getElem? (i := 555) rfl), rfl⟩
  · exact List.mem_filter.mpr ⟨List.mem_append_right _ (List.mem_of_getElem? (i := 557) rfl), rfl⟩
  · exact List.mem_filter.mpr ⟨List.mem_append_right _ (List.mem_of_getElem? (i := 559) rfl), rfl⟩
theorem ws_D_automatonAt : Cond.selects "OmegaDesk" ⟨"OmegaDesk", "automatonAt", "(I)LOmegaDesk$Automaton;"⟩ ⟨"OmegaDesk", "automatonAt", "(I)LOmegaDesk$Automaton;"⟩ ∈ WB := List.mem_filter.mpr ⟨List.mem_append_left _ (List.mem_of_getElem? (i := 0) rfl), rfl⟩
theorem ws_D_automatonWithPlaces : Cond.selects "OmegaDesk" ⟨"OmegaDesk", "automatonWithPlaces", "(IIII)LOmegaDesk$Automaton;"⟩ ⟨"OmegaDesk", "automatonWithPlaces", "(IIII)LOmegaDesk$Automaton;"⟩ ∈ WB := List.mem_filter.mpr ⟨List.mem_append_left _ (List.mem_of_getElem? (i := 2) rfl), rfl⟩
theorem ws_A_joinAll : Cond.selects "OmegaDesk$Automaton" ⟨"OmegaDesk$Automaton", "joinAll", "(III)V"⟩ ⟨"OmegaDesk$Automaton", "joinAll", "(III)V"⟩ ∈ WB := List.mem_filter.mpr ⟨List.mem_append_left _ (List.mem_of_getElem? (i := 3) rfl), rfl⟩
theorem ws_R_reset : Cond.selects "OmegaDesk$Refuter" ⟨"OmegaDesk$Refuter", "reset", "()V"⟩ ⟨"OmegaDesk$Refuter", "reset", "()V"⟩ ∈ WB := List.mem_filter.mpr ⟨List.mem_append_left _ (List.mem_of_getElem? (i := 4) rfl), rfl⟩
theorem ws_R_findMeetings : Cond.selects "OmegaDesk$Refuter" ⟨"OmegaDesk$Refuter", "findMeetings", "(LOmegaDesk$Automaton;LOmegaDesk$Automaton;)V"⟩ ⟨"OmegaDesk$Refuter", "findMeetings", "(LOmegaDesk$Automaton;LOmegaDesk$Automaton;)V"⟩ ∈ WB := List.mem_filter.mpr ⟨List.mem_append_left _ (List.mem_of_getElem? (i := 5) rfl), rfl⟩
theorem ws_R_spreadMeeting : Cond.selects "OmegaDesk$Refuter" ⟨"OmegaDesk$Refuter", "spreadMeeting", "(LOmegaDesk$Automaton;LOmegaDesk$Automaton;II)Z"⟩ ⟨"OmegaDesk$Refuter", "spreadMeeting", "(LOmegaDesk$Automaton;LOmegaDesk$Automaton;II)Z"⟩ ∈ WB := List.mem_filter.mpr ⟨List.mem_append_left _ (List.mem_of_getElem? (i := 6) rfl), rfl⟩
theorem ws_R_offer : Cond.selects "OmegaDesk$Refuter" ⟨"OmegaDesk$Refuter", "offer", "(II)I"⟩ ⟨"OmegaDesk$Refuter", "offer", "(II)I"⟩ ∈ WB := List.mem_filter.mpr ⟨List.mem_append_left _ (List.mem_of_getElem? (i := 7) rfl), rfl⟩
theorem ws_R_slotOf : Cond.selects "OmegaDesk$Refuter" ⟨"OmegaDesk$Refuter", "slotOf", "(I)I"⟩ ⟨"OmegaDesk$Refuter", "slotOf", "(I)I"⟩ ∈ WB := List.mem_filter.mpr ⟨List.mem_append_left _ (List.mem_of_getElem? (i := 8) rfl), rfl⟩
theorem ws_R_enqueue : Cond.selects "OmegaDesk$Refuter" ⟨"OmegaDesk$Refuter", "enqueue", "(I)V"⟩ ⟨"OmegaDesk$Refuter", "enqueue", "(I)V"⟩ ∈ WB := List.mem_filter.mpr ⟨List.mem_append_left _ (List.mem_of_getElem? (i := 9) rfl), rfl⟩
theorem ws_R_nextQueued : Cond.selects "OmegaDesk$Refuter" ⟨"OmegaDesk$Refuter", "nextQueued", "()I"⟩ ⟨"OmegaDesk$Refuter", "nextQueued", "()I"⟩ ∈ WB := List.mem_filter.mpr ⟨List.mem_append_left _ (List.mem_of_getElem? (i := 10) rfl), rfl⟩
theorem ws_R_refutesWith : Cond.selects "OmegaDesk$Refuter" ⟨"OmegaDesk$Refuter", "refutesWith", "(II)Z"⟩ ⟨"OmegaDesk$Refuter", "refutesWith", "(II)Z"⟩ ∈ WB := List.mem_filter.mpr ⟨List.mem_append_left _ (List.mem_of_getElem? (i := 11) rfl), rfl⟩
theorem ws_F_searchSplit : Cond.selects "OmegaDesk$LassoFinder" ⟨"OmegaDesk$LassoFinder", "searchSplit", "(II)V"⟩ ⟨"OmegaDesk$LassoFinder", "searchSplit", "(II)V"⟩ ∈ WB := List.mem_filter.mpr ⟨List.mem_append_left _ (List.mem_of_getElem? (i := 12) rfl), rfl⟩
theorem ws_M_add : Cond.selects "OmegaDeskModel" ⟨"OmegaDeskModel", "add", "(IZ)V"⟩ ⟨"OmegaDeskModel", "add", "(IZ)V"⟩ ∈ WB := List.mem_filter.mpr ⟨List.mem_append_left _ (List.mem_of_getElem? (i := 13) rfl), rfl⟩
theorem ws_M_isEdge : Cond.selects "OmegaDeskModel" ⟨"OmegaDeskModel", "isEdge", "(IIII)Z"⟩ ⟨"OmegaDeskModel", "isEdge", "(IIII)Z"⟩ ∈ WB := List.mem_filter.mpr ⟨List.mem_append_left _ (List.mem_of_getElem? (i := 14) rfl), rfl⟩
theorem ws_M_append : Cond.selects "OmegaDeskModel" ⟨"OmegaDeskModel", "append", "(II)V"⟩ ⟨"OmegaDeskModel", "append", "(II)V"⟩ ∈ WB := List.mem_filter.mpr ⟨List.mem_append_left _ (List.mem_of_getElem? (i := 15) rfl), rfl⟩
theorem ws_M_living : Cond.selects "OmegaDeskModel" ⟨"OmegaDeskModel", "living", "(I)I"⟩ ⟨"OmegaDeskModel", "living", "(I)I"⟩ ∈ WB := List.mem_filter.mpr ⟨List.mem_append_left _ (List.mem_of_getElem? (i := 16) rfl), rfl⟩
theorem ws_M_alive : Cond.selects "OmegaDeskModel" ⟨"OmegaDeskModel", "alive", "(II)Z"⟩ ⟨"OmegaDeskModel", "alive", "(II)Z"⟩ ∈ WB := List.mem_filter.mpr ⟨List.mem_append_left _ (List.mem_of_getElem? (i := 17) rfl), rfl⟩
theorem ws_M_ahead : Cond.selects "OmegaDeskModel" ⟨"OmegaDeskModel", "ahead", "(II)I"⟩ ⟨"OmegaDeskModel", "ahead", "(II)I"⟩ ∈ WB := List.mem_filter.mpr ⟨List.mem_append_left _ (List.mem_of_getElem? (i := 18) rfl), rfl⟩
theorem ws_M_lasso : Cond.selects "OmegaDeskModel" ⟨"OmegaDeskModel", "lasso", "(IIIII)Z"⟩ ⟨"OmegaDeskModel", "lasso", "(IIIII)Z"⟩ ∈ WB := List.mem_filter.mpr ⟨List.mem_append_left _ (List.mem_of_getElem? (i := 19) rfl), rfl⟩
theorem ws_M_allBehind : Cond.selects "OmegaDeskModel" ⟨"OmegaDeskModel", "allBehind", "(IJIIII)J"⟩ ⟨"OmegaDeskModel", "allBehind", "(IJIIII)J"⟩ ∈ WB := List.mem_filter.mpr ⟨List.mem_append_left _ (List.mem_of_getElem? (i := 20) rfl), rfl⟩
theorem ws_M_behind : Cond.selects "OmegaDeskModel" ⟨"OmegaDeskModel", "behind", "(IJIIII)J"⟩ ⟨"OmegaDeskModel", "behind", "(IJIIII)J"⟩ ∈ WB := List.mem_filter.mpr ⟨List.mem_append_left _ (List.mem_of_getElem? (i := 21) rfl), rfl⟩
theorem ws_M_differs : Cond.selects "OmegaDeskModel" ⟨"OmegaDeskModel", "differs", "(II)Z"⟩ ⟨"OmegaDeskModel", "differs", "(II)Z"⟩ ∈ WB := List.mem_filter.mpr ⟨List.mem_append_left _ (List.mem_of_getElem? (i := 22) rfl), rfl⟩
theorem ws_M_begin : Cond.selects "OmegaDeskModel" ⟨"OmegaDeskModel", "begin", "(II)V"⟩ ⟨"OmegaDeskModel", "begin", "(II)V"⟩ ∈ WB := List.mem_filter.mpr ⟨List.mem_append_left _ (List.mem_of_getElem? (i := 23) rfl), rfl⟩
theorem ws_M_goOn : Cond.selects "OmegaDeskModel" ⟨"OmegaDeskModel", "goOn", "(IIII)Z"⟩ ⟨"OmegaDeskModel", "goOn", "(IIII)Z"⟩ ∈ WB := List.mem_filter.mpr ⟨List.mem_append_left _ (List.mem_of_getElem? (i := 24) rfl), rfl⟩
theorem ws_M_gather : Cond.selects "OmegaDeskModel" ⟨"OmegaDeskModel", "gather", "(III)V"⟩ ⟨"OmegaDeskModel", "gather", "(III)V"⟩ ∈ WB := List.mem_filter.mpr ⟨List.mem_append_left _ (List.mem_of_getElem? (i := 25) rfl), rfl⟩
theorem ws_M_lead : Cond.selects "OmegaDeskModel" ⟨"OmegaDeskModel", "lead", "(III)V"⟩ ⟨"OmegaDeskModel", "lead", "(III)V"⟩ ∈ WB := List.mem_filter.mpr ⟨List.mem_append_left _ (List.mem_of_getElem? (i := 26) rfl), rfl⟩
theorem ws_M_spread : Cond.selects "OmegaDeskModel" ⟨"OmegaDeskModel", "spread", "(I)V"⟩ ⟨"OmegaDeskModel", "spread", "(I)V"⟩ ∈ WB := List.mem_filter.mpr ⟨List.mem_append_left _ (List.mem_of_getElem? (i := 27) rfl), rfl⟩
theorem ws_M_longer : Cond.selects "OmegaDeskModel" ⟨"OmegaDeskModel", "longer", "(II)I"⟩ ⟨"OmegaDeskModel", "longer", "(II)I"⟩ ∈ WB := List.mem_filter.mpr ⟨List.mem_append_left _ (List.mem_of_getElem? (i := 28) rfl), rfl⟩
theorem ws_M_taken : Cond.selects "OmegaDeskModel" ⟨"OmegaDeskModel", "taken", "(II)I"⟩ ⟨"OmegaDeskModel", "taken", "(II)I"⟩ ∈ WB := List.mem_filter.mpr ⟨List.mem_append_left _ (List.mem_of_getElem? (i := 29) rfl), rfl⟩
theorem ws_M_look : Cond.selects "OmegaDeskModel" ⟨"OmegaDeskModel", "look", "(III)Z"⟩ ⟨"OmegaDeskModel", "look", "(III)Z"⟩ ∈ WB := List.mem_filter.mpr ⟨List.mem_append_left _ (List.mem_of_getElem? (i := 30) rfl), rfl⟩
theorem ws_M_fail : Cond.selects "OmegaDeskModel" ⟨"OmegaDeskModel", "fail", "(I)I"⟩ ⟨"OmegaDeskModel", "fail", "(I)I"⟩ ∈ WB := List.mem_filter.mpr ⟨List.mem_append_left _ (List.mem_of_getElem? (i := 31) rfl), rfl⟩
