section
-- ===== PART A: goes FIRST, ahead of the names: the tables' words, and 'selects' of the private methods out of them =====
/-- a private method of a class that the tables say can be made, by its rows of tables_1 -/
def lw_okq (q : MethodName × Nat) : Prop := (q.1.cls ≠ "java/lang/invoke/MethodHandle" ∧ q.1.cls ≠ "java/lang/invoke/VarHandle") ∧ Cond.instantiable q.1.cls q.2 ∈ tables_1 ∧ Cond.privateMethod q.1 ∈ tables_1 ∧ Cond.instanceMethod q.1 ∈ tables_1
theorem lw_p0 : lw_okq (⟨"OmegaDesk", "automatonAt", "(I)LOmegaDesk$Automaton;"⟩, 4) := ⟨⟨by decide +kernel, by decide +kernel⟩, List.mem_of_getElem? (i := 18) (by decide +kernel), List.mem_of_getElem? (i := 144) (by decide +kernel), List.mem_of_getElem? (i := 145) (by decide +kernel)⟩
theorem lw_p1 : lw_okq (⟨"java/lang/Throwable", "fillInStackTrace", "(I)Ljava/lang/Throwable;"⟩, 6) := ⟨⟨by decide +kernel, by decide +kernel⟩, List.mem_of_getElem? (i := 186) (by decide +kernel), List.mem_of_getElem? (i := 184) (by decide +kernel), List.mem_of_getElem? (i := 185) (by decide +kernel)⟩
theorem lw_p2 : lw_okq (⟨"OmegaDesk", "automatonWithPlaces", "(IIII)LOmegaDesk$Automaton;"⟩, 4) := ⟨⟨by decide +kernel, by decide +kernel⟩, List.mem_of_getElem? (i := 18) (by decide +kernel), List.mem_of_getElem? (i := 243) (by decide +kernel), List.mem_of_getElem? (i := 244) (by decide +kernel)⟩
theorem lw_p3 : lw_okq (⟨"OmegaDesk$Automaton", "joinAll", "(III)V"⟩, 3) := ⟨⟨by decide +kernel, by decide +kernel⟩, List.mem_of_getElem? (i := 27) (by decide +kernel), List.mem_of_getElem? (i := 297) (by decide +kernel), List.mem_of_getElem? (i := 298) (by decide +kernel)⟩
theorem lw_p4 : lw_okq (⟨"OmegaDesk$Refuter", "reset", "()V"⟩, 7) := ⟨⟨by decide +kernel, by decide +kernel⟩, List.mem_of_getElem? (i := 48) (by decide +kernel), List.mem_of_getElem? (i := 405) (by decide +kernel), List.mem_of_getElem? (i := 406) (by decide +kernel)⟩
theorem lw_p5 : lw_okq (⟨"OmegaDesk$Refuter", "findMeetings", "(LOmegaDesk$Automaton;LOmegaDesk$Automaton;)V"⟩, 7) := ⟨⟨by decide +kernel, by decide +kernel⟩, List.mem_of_getElem? (i := 48) (by decide +kernel), List.mem_of_getElem? (i := 410) (by decide +kernel), List.mem_of_getElem? (i := 411) (by decide +kernel)⟩
theorem lw_p6 : lw_okq (⟨"OmegaDesk$Refuter", "spreadMeeting", "(LOmegaDesk$Automaton;LOmegaDesk$Automaton;II)Z"⟩, 7) := ⟨⟨by decide +kernel, by decide +kernel⟩, List.mem_of_getElem? (i := 48) (by decide +kernel), List.mem_of_getElem? (i := 414) (by decide +kernel), List.mem_of_getElem? (i := 415) (by decide +kernel)⟩
theorem lw_p7 : lw_okq (⟨"OmegaDesk$Refuter", "offer", "(II)I"⟩, 7) := ⟨⟨by decide +kernel, by decide +kernel⟩, List.mem_of_getElem? (i := 48) (by decide +kernel), List.mem_of_getElem? (i := 420) (by decide +kernel), List.mem_of_getElem? (i := 421) (by decide +kernel)⟩
theorem lw_p8 : lw_okq (⟨"OmegaDesk$Refuter", "slotOf", "(I)I"⟩, 7) := ⟨⟨by decide +kernel, by decide +kernel⟩, List.mem_of_getElem? (i := 48) (by decide +kernel), List.mem_of_getElem? (i := 424) (by decide +kernel), List.mem_of_getElem? (i := 425) (by decide +kernel)⟩
theorem lw_p9 : lw_okq (⟨"OmegaDesk$Refuter", "enqueue", "(I)V"⟩, 7) := ⟨⟨by decide +kernel, by decide +kernel⟩, List.mem_of_getElem? (i := 48) (by decide +kernel), List.mem_of_getElem? (i := 429) (by decide +kernel), List.mem_of_getElem? (i := 430) (by decide +kernel)⟩
theorem lw_p10 : lw_okq (⟨"OmegaDesk$Refuter", "nextQueued", "()I"⟩, 7) := ⟨⟨by decide +kernel, by decide +kernel⟩, List.mem_of_getElem? (i := 48) (by decide +kernel), List.mem_of_getElem? (i := 434) (by decide +kernel), List.mem_of_getElem? (i := 435) (by decide +kernel)⟩
theorem lw_p11 : lw_okq (⟨"OmegaDesk$Refuter", "refutesWith", "(II)Z"⟩, 7) := ⟨⟨by decide +kernel, by decide +kernel⟩, List.mem_of_getElem? (i := 48) (by decide +kernel), List.mem_of_getElem? (i := 439) (by decide +kernel), List.mem_of_getElem? (i := 440) (by decide +kernel)⟩
theorem lw_p12 : lw_okq (⟨"OmegaDesk$LassoFinder", "searchSplit", "(II)V"⟩, 7) := ⟨⟨by decide +kernel, by decide +kernel⟩, List.mem_of_getElem? (i := 76) (by decide +kernel), List.mem_of_getElem? (i := 464) (by decide +kernel), List.mem_of_getElem? (i := 465) (by decide +kernel)⟩
theorem lw_p13 : lw_okq (⟨"OmegaDeskModel", "add", "(IZ)V"⟩, 12) := ⟨⟨by decide +kernel, by decide +kernel⟩, List.mem_of_getElem? (i := 520) (by decide +kernel), List.mem_of_getElem? (i := 575) (by decide +kernel), List.mem_of_getElem? (i := 576) (by decide +kernel)⟩
theorem lw_p14 : lw_okq (⟨"OmegaDeskModel", "isEdge", "(IIII)Z"⟩, 12) := ⟨⟨by decide +kernel, by decide +kernel⟩, List.mem_of_getElem? (i := 520) (by decide +kernel), List.mem_of_getElem? (i := 583) (by decide +kernel), List.mem_of_getElem? (i := 584) (by decide +kernel)⟩
theorem lw_p15 : lw_okq (⟨"OmegaDeskModel", "append", "(II)V"⟩, 12) := ⟨⟨by decide +kernel, by decide +kernel⟩, List.mem_of_getElem? (i := 520) (by decide +kernel), List.mem_of_getElem? (i := 595) (by decide +kernel), List.mem_of_getElem? (i := 596) (by decide +kernel)⟩
def lw_privs_1 : List (MethodName × Nat) := [(⟨"OmegaDesk", "automatonAt", "(I)LOmegaDesk$Automaton;"⟩, 4), (⟨"java/lang/Throwable", "fillInStackTrace", "(I)Ljava/lang/Throwable;"⟩, 6), (⟨"OmegaDesk", "automatonWithPlaces", "(IIII)LOmegaDesk$Automaton;"⟩, 4), (⟨"OmegaDesk$Automaton", "joinAll", "(III)V"⟩, 3), (⟨"OmegaDesk$Refuter", "reset", "()V"⟩, 7), (⟨"OmegaDesk$Refuter", "findMeetings", "(LOmegaDesk$Automaton;LOmegaDesk$Automaton;)V"⟩, 7), (⟨"OmegaDesk$Refuter", "spreadMeeting", "(LOmegaDesk$Automaton;LOmegaDesk$Automaton;II)Z"⟩, 7), (⟨"OmegaDesk$Refuter", "offer", "(II)I"⟩, 7), (⟨"OmegaDesk$Refuter", "slotOf", "(I)I"⟩, 7), (⟨"OmegaDesk$Refuter", "enqueue", "(I)V"⟩, 7), (⟨"OmegaDesk$Refuter", "nextQueued", "()I"⟩, 7), (⟨"OmegaDesk$Refuter", "refutesWith", "(II)Z"⟩, 7), (⟨"OmegaDesk$LassoFinder", "searchSplit", "(II)V"⟩, 7), (⟨"OmegaDeskModel", "add", "(IZ)V"⟩, 12), (⟨"OmegaDeskModel", "isEdge", "(IIII)Z"⟩, 12), (⟨"OmegaDeskModel", "append", "(II)V"⟩, 12)]
theorem lw_r1 : ∀ q ∈ lw_privs_1, lw_okq q := List.forall_mem_cons.mpr ⟨lw_p0, List.forall_mem_cons.mpr ⟨lw_p1, List.forall_mem_cons.mpr ⟨lw_p2, List.forall_mem_cons.mpr ⟨lw_p3, List.forall_mem_cons.mpr ⟨lw_p4, List.forall_mem_cons.mpr ⟨lw_p5, List.forall_mem_cons.mpr ⟨lw_p6, List.forall_mem_cons.mpr ⟨lw_p7, List.forall_mem_cons.mpr ⟨lw_p8, List.forall_mem_cons.mpr ⟨lw_p9, List.forall_mem_cons.mpr ⟨lw_p10, List.forall_mem_cons.mpr ⟨lw_p11, List.forall_mem_cons.mpr ⟨lw_p12, List.forall_mem_cons.mpr ⟨lw_p13, List.forall_mem_cons.mpr ⟨lw_p14, List.forall_mem_cons.mpr ⟨lw_p15, fun _ h => absurd h List.not_mem_nil⟩⟩⟩⟩⟩⟩⟩⟩⟩⟩⟩⟩⟩⟩⟩⟩
theorem lw_p16 : lw_okq (⟨"OmegaDeskModel", "living", "(I)I"⟩, 12) := ⟨⟨by decide +kernel, by decide +kernel⟩, List.mem_of_getElem? (i := 520) (by decide +kernel), List.mem_of_getElem? (i := 603) (by decide +kernel), List.mem_of_getElem? (i := 604) (by decide +kernel)⟩
theorem lw_p17 : lw_okq (⟨"OmegaDeskModel", "alive", "(II)Z"⟩, 12) := ⟨⟨by decide +kernel, by decide +kernel⟩, List.mem_of_getElem? (i := 520) (by decide +kernel), List.mem_of_getElem? (i := 607) (by decide +kernel), List.mem_of_getElem? (i := 608) (by decide +kernel)⟩
theorem lw_p18 : lw_okq (⟨"OmegaDeskModel", "ahead", "(II)I"⟩, 12) := ⟨⟨by decide +kernel, by decide +kernel⟩, List.mem_of_getElem? (i := 520) (by decide +kernel), List.mem_of_getElem? (i := 611) (by decide +kernel), List.mem_of_getElem? (i := 612) (by decide +kernel)⟩
theorem lw_p19 : lw_okq (⟨"OmegaDeskModel", "lasso", "(IIIII)Z"⟩, 12) := ⟨⟨by decide +kernel, by decide +kernel⟩, List.mem_of_getElem? (i := 520) (by decide +kernel), List.mem_of_getElem? (i := 626) (by decide +kernel), List.mem_of_getElem? (i := 627) (by decide +kernel)⟩
theorem lw_p20 : lw_okq (⟨"OmegaDeskModel", "allBehind", "(IJIIII)J"⟩, 12) := ⟨⟨by decide +kernel, by decide +kernel⟩, List.mem_of_getElem? (i := 520) (by decide +kernel), List.mem_of_getElem? (i := 630) (by decide +kernel), List.mem_of_getElem? (i := 631) (by decide +kernel)⟩
theorem lw_p21 : lw_okq (⟨"OmegaDeskModel", "behind", "(IJIIII)J"⟩, 12) := ⟨⟨by decide +kernel, by decide +kernel⟩, List.mem_of_getElem? (i := 520) (by decide +kernel), List.mem_of_getElem? (i := 634) (by decide +kernel), List.mem_of_getElem? (i := 635) (by decide +kernel)⟩
theorem lw_p22 : lw_okq (⟨"OmegaDeskModel", "differs", "(II)Z"⟩, 12) := ⟨⟨by decide +kernel, by decide +kernel⟩, List.mem_of_getElem? (i := 520) (by decide +kernel), List.mem_of_getElem? (i := 646) (by decide +kernel), List.mem_of_getElem? (i := 647) (by decide +kernel)⟩
theorem lw_p23 : lw_okq (⟨"OmegaDeskModel", "begin", "(II)V"⟩, 12) := ⟨⟨by decide +kernel, by decide +kernel⟩, List.mem_of_getElem? (i := 520) (by decide +kernel), List.mem_of_getElem? (i := 650) (by decide +kernel), List.mem_of_getElem? (i := 651) (by decide +kernel)⟩
theorem lw_p24 : lw_okq (⟨"OmegaDeskModel", "goOn", "(IIII)Z"⟩, 12) := ⟨⟨by decide +kernel, by decide +kernel⟩, List.mem_of_getElem? (i := 520) (by decide +kernel), List.mem_of_getElem? (i := 654) (by decide +kernel), List.mem_of_getElem? (i := 655) (by decide +kernel)⟩
theorem lw_p25 : lw_okq (⟨"OmegaDeskModel", "gather", "(III)V"⟩, 12) := ⟨⟨by decide +kernel, by decide +kernel⟩, List.mem_of_getElem? (i := 520) (by decide +kernel), List.mem_of_getElem? (i := 658) (by decide +kernel), List.mem_of_getElem? (i := 659) (by decide +kernel)⟩
theorem lw_p26 : lw_okq (⟨"OmegaDeskModel", "lead", "(III)V"⟩, 12) := ⟨⟨by decide +kernel, by decide +kernel⟩, List.mem_of_getElem? (i := 520) (by decide +kernel), List.mem_of_getElem? (i := 668) (by decide +kernel), List.mem_of_getElem? (i := 669) (by decide +kernel)⟩
theorem lw_p27 : lw_okq (⟨"OmegaDeskModel", "spread", "(I)V"⟩, 12) := ⟨⟨by decide +kernel, by decide +kernel⟩, List.mem_of_getElem? (i := 520) (by decide +kernel), List.mem_of_getElem? (i := 672) (by decide +kernel), List.mem_of_getElem? (i := 673) (by decide +kernel)⟩
theorem lw_p28 : lw_okq (⟨"OmegaDeskModel", "longer", "(II)I"⟩, 12) := ⟨⟨by decide +kernel, by decide +kernel⟩, List.mem_of_getElem? (i := 520) (by decide +kernel), List.mem_of_getElem? (i := 676) (by decide +kernel), List.mem_of_getElem? (i := 677) (by decide +kernel)⟩
theorem lw_p29 : lw_okq (⟨"OmegaDeskModel", "taken", "(II)I"⟩, 12) := ⟨⟨by decide +kernel, by decide +kernel⟩, List.mem_of_getElem? (i := 520) (by decide +kernel), List.mem_of_getElem? (i := 684) (by decide +kernel), List.mem_of_getElem? (i := 685) (by decide +kernel)⟩
theorem lw_p30 : lw_okq (⟨"OmegaDeskModel", "look", "(III)Z"⟩, 12) := ⟨⟨by decide +kernel, by decide +kernel⟩, List.mem_of_getElem? (i := 520) (by decide +kernel), List.mem_of_getElem? (i := 691) (by decide +kernel), List.mem_of_getElem? (i := 692) (by decide +kernel)⟩
theorem lw_p31 : lw_okq (⟨"OmegaDeskModel", "fail", "(I)I"⟩, 12) := ⟨⟨by decide +kernel, by decide +kernel⟩, List.mem_of_getElem? (i := 520) (by decide +kernel), List.mem_of_getElem? (i := 703) (by decide +kernel), List.mem_of_getElem? (i := 704) (by decide +kernel)⟩
def lw_privs_2 : List (MethodName × Nat) := [(⟨"OmegaDeskModel", "living", "(I)I"⟩, 12), (⟨"OmegaDeskModel", "alive", "(II)Z"⟩, 12), (⟨"OmegaDeskModel", "ahead", "(II)I"⟩, 12), (⟨"OmegaDeskModel", "lasso", "(IIIII)Z"⟩, 12), (⟨"OmegaDeskModel", "allBehind", "(IJIIII)J"⟩, 12), (⟨"OmegaDeskModel", "behind", "(IJIIII)J"⟩, 12), (⟨"OmegaDeskModel", "differs", "(II)Z"⟩, 12), (⟨"OmegaDeskModel", "begin", "(II)V"⟩, 12), (⟨"OmegaDeskModel", "goOn", "(IIII)Z"⟩, 12), (⟨"OmegaDeskModel", "gather", "(III)V"⟩, 12), (⟨"OmegaDeskModel", "lead", "(III)V"⟩, 12), (⟨"OmegaDeskModel", "spread", "(I)V"⟩, 12), (⟨"OmegaDeskModel", "longer", "(II)I"⟩, 12), (⟨"OmegaDeskModel", "taken", "(II)I"⟩, 12), (⟨"OmegaDeskModel", "look", "(III)Z"⟩, 12), (⟨"OmegaDeskModel", "fail", "(I)I"⟩, 12)]
theorem lw_r2 : ∀ q ∈ lw_privs_2, lw_okq q := List.forall_mem_cons.mpr ⟨lw_p16, List.forall_mem_cons.mpr ⟨lw_p17, List.forall_mem_cons.mpr ⟨lw_p18, List.forall_mem_cons.mpr ⟨lw_p19, List.forall_mem_cons.mpr ⟨lw_p20, List.forall_mem_cons.mpr ⟨lw_p21, List.forall_mem_cons.mpr ⟨lw_p22, List.forall_mem_cons.mpr ⟨lw_p23, List.forall_mem_cons.mpr ⟨lw_p24, List.forall_mem_cons.mpr ⟨lw_p25, List.forall_mem_cons.mpr ⟨lw_p26, List.forall_mem_cons.mpr ⟨lw_p27, List.forall_mem_cons.mpr ⟨lw_p28, List.forall_mem_cons.mpr ⟨lw_p29, List.forall_mem_cons.mpr ⟨lw_p30, List.forall_mem_cons.mpr ⟨lw_p31, fun _ h => absurd h List.not_mem_nil⟩⟩⟩⟩⟩⟩⟩⟩⟩⟩⟩⟩⟩⟩⟩⟩
def lw_privs : List (MethodName × Nat) := lw_privs_1 ++ (lw_privs_2)
def lw_tbl : List Cond := k2_sels lw_privs ++ tables_1
theorem lw_privs_ok : ∀ q ∈ lw_privs, lw_okq q := by
  show ∀ q ∈ lw_privs_1 ++ (lw_privs_2), lw_okq q
  exact List.forall_mem_append.mpr ⟨lw_r1, lw_r2⟩
end
section
def R_A : String := "OmegaDesk$Automaton"
def F_A : u_T := fun k => match k with
  | 0 => ("OmegaDesk$Automaton", "size", "I", false)
  | 1 => ("OmegaDesk$Automaton", "goodStates", "I", false)
  | _ => ("OmegaDesk$Automaton", "followers", "[I", true)
def tf_A : Nat → FieldType := fun k => match k with
  | 0 => .int
  | 1 => .int
  | _ => .array .int
def R_D : String := "OmegaDesk"
def F_D : u_T := fun k => match k with
  | 0 => ("OmegaDesk", "automata", "[LOmegaDesk$Automaton;", true)
  | 1 => ("OmegaDesk", "spare", "LOmegaDesk$Automaton;", true)
  | 2 => ("OmegaDesk", "refuter", "LOmegaDesk$Refuter;", true)
  | _ => ("OmegaDesk", "finder", "LOmegaDesk$LassoFinder;", true)
def tf_D : Nat → FieldType := fun k => match k with
  | 0 => .array (.object "OmegaDesk$Automaton")
  | 1 => .object "OmegaDesk$Automaton"
  | 2 => .object "OmegaDesk$Refuter"
  | _ => .object "OmegaDesk$LassoFinder"
def R_R : String := "OmegaDesk$Refuter"
def F_R : u_T := fun k => match k with
  | 0 => ("OmegaDesk$Refuter", "keys", "[I", true)
  | 1 => ("OmegaDesk$Refuter", "seenWays", "[I", true)
  | 2 => ("OmegaDesk$Refuter", "freshWays", "[I", true)
  | 3 => ("OmegaDesk$Refuter", "queue", "[I", true)
  | 4 => ("OmegaDesk$Refuter", "queueStart", "I", false)
  | 5 => ("OmegaDesk$Refuter", "queued", "I", false)
  | _ => ("OmegaDesk$Refuter", "meetings", "[I", true)
def tf_R : Nat → FieldType := fun k => match k with
  | 0 => .array .int
  | 1 => .array .int
  | 2 => .array .int
  | 3 => .array .int
  | 4 => .int
  | 5 => .int
  | _ => .array .int
def R_F : String := "OmegaDesk$LassoFinder"
def F_F : u_T := fun k => match k with
  | 0 => ("OmegaDesk$LassoFinder", "innerWords", "LOmegaDesk$WordTable;", true)
  | 1 => ("OmegaDesk$LassoFinder", "outerWords", "LOmegaDesk$WordTable;", true)
  | 2 => ("OmegaDesk$LassoFinder", "found", "Z", false)
  | 3 => ("OmegaDesk$LassoFinder", "headLength", "I", false)
  | 4 => ("OmegaDesk$LassoFinder", "head", "I", false)
  | 5 => ("OmegaDesk$LassoFinder", "tailLength", "I", false)
  | _ => ("OmegaDesk$LassoFinder", "tail", "I", false)
def tf_F : Nat → FieldType := fun k => match k with
  | 0 => .object "OmegaDesk$WordTable"
  | 1 => .object "OmegaDesk$WordTable"
  | 2 => .boolean
  | 3 => .int
  | 4 => .int
  | 5 => .int
  | _ => .int
def R_T : String := "OmegaDesk$WordTable"
def F_T : u_T := fun k => match k with
  | 0 => ("OmegaDesk$WordTable", "passages", "[I", true)
  | _ => ("OmegaDesk$WordTable", "takenRepeated", "[I", true)
def tf_T : Nat → FieldType := fun k => match k with
  | 0 => .array .int
  | _ => .array .int
def R_M : String := "OmegaDeskModel"
def F_M : u_T := fun k => match k with
  | 0 => ("OmegaDeskModel", "thrown", "I", false)
  | 1 => ("OmegaDeskModel", "to", "[I", true)
  | 2 => ("OmegaDeskModel", "good", "[I", true)
  | 3 => ("OmegaDeskModel", "size", "[I", true)
  | 4 => ("OmegaDeskModel", "found", "Z", false)
  | 5 => ("OmegaDeskModel", "witness", "[I", true)
  | 6 => ("OmegaDeskModel", "seen", "[J", true)
  | 7 => ("OmegaDeskModel", "fresh", "[J", true)
  | 8 => ("OmegaDeskModel", "coming", "[J", true)
  | 9 => ("OmegaDeskModel", "digit", "[I", true)
  | 10 => ("OmegaDeskModel", "after", "[I", true)
  | _ => ("OmegaDeskModel", "beginnings", "[I", true)
def tf_M : Nat → FieldType := fun k => match k with
  | 0 => .int
  | 1 => .array .int
  | 2 => .array .int
  | 3 => .array .int
  | 4 => .boolean
  | 5 => .array .int
  | 6 => .array .long
  | 7 => .array .long
  | 8 => .array .long
  | 9 => .array .int
  | 10 => .array .int
  | _ => .array .int
abbrev classes : List vw_C := [(R_A, F_A, 3), (R_D, F_D, 4), (R_R, F_R, 7), (R_F, F_F, 7), (R_T, F_T, 2), (R_M, F_M, 12)]
theorem nf_A : ∀ a, a < 3 → ∀ b, b < 3 → a ≠ b → (F_A a).2.1 ≠ (F_A b).2.1 := by decide +kernel
theorem tf_A_ok : ∀ k, k < 3 → parseFieldDescriptor (F_A k).2.2.1 = some (tf_A k) := by decide +kernel
theorem nf_D : ∀ a, a < 4 → ∀ b, b < 4 → a ≠ b → (F_D a).2.1 ≠ (F_D b).2.1 := by decide +kernel
theorem tf_D_ok : ∀ k, k < 4 → parseFieldDescriptor (F_D k).2.2.1 = some (tf_D k) := by decide +kernel
theorem nf_R : ∀ a, a < 7 → ∀ b, b < 7 → a ≠ b → (F_R a).2.1 ≠ (F_R b).2.1 := by decide +kernel
theorem tf_R_ok : ∀ k, k < 7 → parseFieldDescriptor (F_R k).2.2.1 = some (tf_R k) := by decide +kernel
theorem nf_F : ∀ a, a < 7 → ∀ b, b < 7 → a ≠ b → (F_F a).2.1 ≠ (F_F b).2.1 := by decide +kernel
theorem tf_F_ok : ∀ k, k < 7 → parseFieldDescriptor (F_F k).2.2.1 = some (tf_F k) := by decide +kernel
theorem nf_T : ∀ a, a < 2 → ∀ b, b < 2 → a ≠ b → (F_T a).2.1 ≠ (F_T b).2.1 := by decide +kernel
theorem tf_T_ok : ∀ k, k < 2 → parseFieldDescriptor (F_T k).2.2.1 = some (tf_T k) := by decide +kernel
theorem nf_M : ∀ a, a < 12 → ∀ b, b < 12 → a ≠ b → (F_M a).2.1 ≠ (F_M b).2.1 := by decide +kernel
theorem tf_M_ok : ∀ k, k < 12 → parseFieldDescriptor (F_M k).2.2.1 = some (tf_M k) := by decide +kernel
def WB : List Cond := lw_tbl.filter goodWord
def NW : List Cond := [(Jvm.Cond.methodLinkNest "OmegaDesk" (15 : Nat) ({ cls := "OmegaDesk$Automaton", name := "<init>", desc := "()V" } : Jvm.MethodName) "OmegaDesk"), (Jvm.Cond.fieldLinkNest "OmegaDesk" (38 : Nat) "OmegaDesk$Automaton" "size" "I" "OmegaDesk"), (Jvm.Cond.fieldLinkNest "OmegaDesk$WordTable" (18 : Nat) "OmegaDesk$Automaton" "size" "I" "OmegaDesk"), (Jvm.Cond.fieldLinkNest "OmegaDesk$Refuter" (75 : Nat) "OmegaDesk$Automaton" "size" "I" "OmegaDesk"), (Jvm.Cond.fieldLinkNest "OmegaDesk$Refuter" (40 : Nat) "OmegaDesk$Automaton" "goodStates" "I" "OmegaDesk"), (Jvm.Cond.methodLinkNest "OmegaDesk" (22 : Nat) ({ cls := "OmegaDesk$Refuter", name := "<init>", desc := "()V" } : Jvm.MethodName) "OmegaDesk"), (Jvm.Cond.methodLinkNest "OmegaDesk" (29 : Nat) ({ cls := "OmegaDesk$LassoFinder", name := "<init>", desc := "()V" } : Jvm.MethodName) "OmegaDesk"), (Jvm.Cond.methodLinkNest "OmegaDesk$LassoFinder" (11 : Nat) ({ cls := "OmegaDesk$WordTable", name := "<init>", desc := "()V" } : Jvm.MethodName) "OmegaDesk"), (Jvm.Cond.fieldLinkNest "OmegaDesk" (126 : Nat) "OmegaDesk$LassoFinder" "found" "Z" "OmegaDesk"), (Jvm.Cond.fieldLinkNest "OmegaDesk" (135 : Nat) "OmegaDesk$LassoFinder" "headLength" "I" "OmegaDesk"), (Jvm.Cond.fieldLinkNest "OmegaDesk" (138 : Nat) "OmegaDesk$LassoFinder" "head" "I" "OmegaDesk"), (Jvm.Cond.fieldLinkNest "OmegaDesk" (141 : Nat) "OmegaDesk$LassoFinder" "tailLength" "I" "OmegaDesk"), (Jvm.Cond.fieldLinkNest "OmegaDesk" (144 : Nat) "OmegaDesk$LassoFinder" "tail" "I" "OmegaDesk"), (Jvm.Cond.castable "java/lang/IllegalArgumentException" "java/lang/IllegalArgumentException"), (Jvm.Cond.castable "java/lang/IllegalStateException" "java/lang/IllegalStateException"), (Jvm.Cond.castable "java/util/NoSuchElementException" "java/util/NoSuchElementException"), (Jvm.Cond.declares ({ cls := "java/lang/RuntimeException", name := "<init>", desc := "()V" } : Jvm.MethodName)), (Jvm.Cond.declares ({ cls := "java/lang/RuntimeException", name := "<init>", desc := "(Ljava/lang/String;)V" } : Jvm.MethodName)), (Jvm.Cond.declares ({ cls := "java/lang/Exception", name := "<init>", desc := "()V" } : Jvm.MethodName)), (Jvm.Cond.declares ({ cls := "java/lang/Exception", name := "<init>", desc := "(Ljava/lang/String;)V" } : Jvm.MethodName)), (Jvm.Cond.declares ({ cls := "java/lang/Throwable", name := "<init>", desc := "()V" } : Jvm.MethodName)), (Jvm.Cond.declares ({ cls := "java/lang/Throwable", name := "<init>", desc := "(Ljava/lang/String;)V" } : Jvm.MethodName))]
def STR : List (String × Nat × String) := [("OmegaDesk", 156, "no such automaton"), ("OmegaDesk", 44, "the automaton has 4 states"), ("OmegaDesk", 151, "no such state"), ("OmegaDesk", 158, "no such letter"), ("OmegaDesk", 70, "two of the automata are the same one"), ("OmegaDesk", 73, "the union would have more than 4 states"), ("OmegaDesk", 90, "a word of the lasso is too short or too long"), ("OmegaDesk", 96, "a number has more bits than its word has letters"), ("OmegaDesk", 111, "the second automaton has 4 states"), ("OmegaDesk", 124, "a witness is asked for with 0 to 3"), ("OmegaDesk", 132, "there is no witness to tell")]
theorem nw_28 : (Jvm.Cond.methodLinkNest "OmegaDesk" (15 : Nat) ({ cls := "OmegaDesk$Automaton", name := "<init>", desc := "()V" } : Jvm.MethodName) "OmegaDesk") ∈ NW := List.mem_of_getElem? (i := 0) rfl
theorem nw_33 : (Jvm.Cond.fieldLinkNest "OmegaDesk" (38 : Nat) "OmegaDesk$Automaton" "size" "I" "OmegaDesk") ∈ NW := List.mem_of_getElem? (i := 1) rfl
theorem nw_34 : (Jvm.Cond.fieldLinkNest "OmegaDesk$WordTable" (18 : Nat) "OmegaDesk$Automaton" "size" "I" "OmegaDesk") ∈ NW := List.mem_of_getElem? (i := 2) rfl
theorem nw_35 : (Jvm.Cond.fieldLinkNest "OmegaDesk$Refuter" (75 : Nat) "OmegaDesk$Automaton" "size" "I" "OmegaDesk") ∈ NW := List.mem_of_getElem? (i := 3) rfl
theorem nw_37 : (Jvm.Cond.fieldLinkNest "OmegaDesk$Refuter" (40 : Nat) "OmegaDesk$Automaton" "goodStates" "I" "OmegaDesk") ∈ NW := List.mem_of_getElem? (i := 4) rfl
theorem nw_49 : (Jvm.Cond.methodLinkNest "OmegaDesk" (22 : Nat) ({ cls := "OmegaDesk$Refuter", name := "<init>", desc := "()V" } : Jvm.MethodName) "OmegaDesk") ∈ NW := List.mem_of_getElem? (i := 5) rfl
theorem nw_77 : (Jvm.Cond.methodLinkNest "OmegaDesk" (29 : Nat) ({ cls := "OmegaDesk$LassoFinder", name := "<init>", desc := "()V" } : Jvm.MethodName) "OmegaDesk") ∈ NW := List.mem_of_getElem? (i := 6) rfl
theorem nw_83 : (Jvm.Cond.methodLinkNest "OmegaDesk$LassoFinder" (11 : Nat) ({ cls := "OmegaDesk$WordTable", name := "<init>", desc := "()V" } : Jvm.MethodName) "OmegaDesk") ∈ NW := List.mem_of_getElem? (i := 7) rfl
theorem nw_97 : (Jvm.Cond.fieldLinkNest "OmegaDesk" (126 : Nat) "OmegaDesk$LassoFinder" "found" "Z" "OmegaDesk") ∈ NW := List.mem_of_getElem? (i := 8) rfl
theorem nw_99 : (Jvm.Cond.fieldLinkNest "OmegaDesk" (135 : Nat) "OmegaDesk$LassoFinder" "headLength" "I" "OmegaDesk") ∈ NW := List.mem_of_getElem? (i := 9) rfl
theorem nw_101 : (Jvm.Cond.fieldLinkNest "OmegaDesk" (138 : Nat) "OmegaDesk$LassoFinder" "head" "I" "OmegaDesk") ∈ NW := List.mem_of_getElem? (i := 10) rfl
theorem nw_103 : (Jvm.Cond.fieldLinkNest "OmegaDesk" (141 : Nat) "OmegaDesk$LassoFinder" "tailLength" "I" "OmegaDesk") ∈ NW := List.mem_of_getElem? (i := 11) rfl
theorem nw_105 : (Jvm.Cond.fieldLinkNest "OmegaDesk" (144 : Nat) "OmegaDesk$LassoFinder" "tail" "I" "OmegaDesk") ∈ NW := List.mem_of_getElem? (i := 12) rfl
theorem nw_149 : (Jvm.Cond.castable "java/lang/IllegalArgumentException" "java/lang/IllegalArgumentException") ∈ NW := List.mem_of_getElem? (i := 13) rfl
theorem nw_217 : (Jvm.Cond.castable "java/lang/IllegalStateException" "java/lang/IllegalStateException") ∈ NW := List.mem_of_getElem? (i := 14) rfl
theorem nw_483 : (Jvm.Cond.castable "java/util/NoSuchElementException" "java/util/NoSuchElementException") ∈ NW := List.mem_of_getElem? (i := 15) rfl
theorem nw_150 : (Jvm.Cond.declares ({ cls := "java/lang/RuntimeException", name := "<init>", desc := "()V" } : Jvm.MethodName)) ∈ NW := List.mem_of_getElem? (i := 16) rfl
theorem nw_151 : (Jvm.Cond.declares ({ cls := "java/lang/RuntimeException", name := "<init>", desc := "(Ljava/lang/String;)V" } : Jvm.MethodName)) ∈ NW := List.mem_of_getElem? (i := 17) rfl
theorem nw_152 : (Jvm.Cond.declares ({ cls := "java/lang/Exception", name := "<init>", desc := "()V" } : Jvm.MethodName)) ∈ NW := List.mem_of_getElem? (i := 18) rfl
theorem nw_153 : (Jvm.Cond.declares ({ cls := "java/lang/Exception", name := "<init>", desc := "(Ljava/lang/String;)V" } : Jvm.MethodName)) ∈ NW := List.mem_of_getElem? (i := 19) rfl
theorem nw_154 : (Jvm.Cond.declares ({ cls := "java/lang/Throwable", name := "<init>", desc := "()V" } : Jvm.MethodName)) ∈ NW := List.mem_of_getElem? (i := 20) rfl
theorem nw_155 : (Jvm.Cond.declares ({ cls := "java/lang/Throwable", name := "<init>", desc := "(Ljava/lang/String;)V" } : Jvm.MethodName)) ∈ NW := List.mem_of_getElem? (i := 21) rfl
end
section
theorem wb_0 : (Jvm.Cond.initialized "OmegaDeskLaw") ∈ WB := List.mem_filter.mpr ⟨List.mem_append_right _ (List.mem_of_getElem? (i := 0) rfl), rfl⟩
theorem wb_1 : (Jvm.Cond.initialized "OmegaDesk") ∈ WB := List.mem_filter.mpr ⟨List.mem_append_right _ (List.mem_of_getElem? (i := 1) rfl), rfl⟩
theorem wb_2 : (Jvm.Cond.initialized "OmegaDesk$Automaton") ∈ WB := List.mem_filter.mpr ⟨List.mem_append_right _ (List.mem_of_getElem? (i := 2) rfl), rfl⟩
theorem wb_3 : (Jvm.Cond.initialized "OmegaDesk$Refuter") ∈ WB := List.mem_filter.mpr ⟨List.mem_append_right _ (List.mem_of_getElem? (i := 3) rfl), rfl⟩
theorem wb_4 : (Jvm.Cond.initialized "OmegaDesk$LassoFinder") ∈ WB := List.mem_filter.mpr ⟨List.mem_append_right _ (List.mem_of_getElem? (i := 4) rfl), rfl⟩
theorem wb_5 : (Jvm.Cond.initialized "OmegaDesk$WordTable") ∈ WB := List.mem_filter.mpr ⟨List.mem_append_right _ (List.mem_of_getElem? (i := 5) rfl), rfl⟩
theorem wb_6 : (Jvm.Cond.initialized "OmegaDeskModel") ∈ WB := List.mem_filter.mpr ⟨List.mem_append_right _ (List.mem_of_getElem? (i := 6) rfl), rfl⟩
theorem wb_7 : (Jvm.Cond.initialized "java/lang/Throwable") ∈ WB := List.mem_filter.mpr ⟨List.mem_append_right _ (List.mem_of_getElem? (i := 7) rfl), rfl⟩
theorem wb_10 : (Jvm.Cond.initialized "java/lang/IllegalArgumentException") ∈ WB := List.mem_filter.mpr ⟨List.mem_append_right _ (List.mem_of_getElem? (i := 10) rfl), rfl⟩
theorem wb_11 : (Jvm.Cond.initialized "java/lang/IllegalStateException") ∈ WB := List.mem_filter.mpr ⟨List.mem_append_right _ (List.mem_of_getElem? (i := 11) rfl), rfl⟩
theorem wb_12 : (Jvm.Cond.initialized "java/util/Arrays") ∈ WB := List.mem_filter.mpr ⟨List.mem_append_right _ (List.mem_of_getElem? (i := 12) rfl), rfl⟩
theorem wb_13 : (Jvm.Cond.initialized "java/lang/System") ∈ WB := List.mem_filter.mpr ⟨List.mem_append_right _ (List.mem_of_getElem? (i := 13) rfl), rfl⟩
theorem wb_14 : (Jvm.Cond.initialized "OmegaDesk$Passage") ∈ WB := List.mem_filter.mpr ⟨List.mem_append_right _ (List.mem_of_getElem? (i := 14) rfl), rfl⟩
theorem wb_15 : (Jvm.Cond.initialized "java/lang/Integer") ∈ WB := List.mem_filter.mpr ⟨List.mem_append_right _ (List.mem_of_getElem? (i := 15) rfl), rfl⟩
theorem wb_16 : (Jvm.Cond.initialized "java/util/NoSuchElementException") ∈ WB := List.mem_filter.mpr ⟨List.mem_append_right _ (List.mem_of_getElem? (i := 16) rfl), rfl⟩
theorem wb_17 : (Jvm.Cond.classLink "OmegaDeskLaw" (8 : Nat) "OmegaDesk") ∈ WB := List.mem_filter.mpr ⟨List.mem_append_right _ (List.mem_of_getElem? (i := 17) rfl), rfl⟩
theorem wb_18 : (Jvm.Cond.instantiable "OmegaDesk" (4 : Nat)) ∈ WB := List.mem_filter.mpr ⟨List.mem_append_right _ (List.mem_of_getElem? (i := 18) rfl), rfl⟩
theorem wb_19 : (Jvm.Cond.methodLink "OmegaDeskLaw" (59 : Nat) ({ cls := "OmegaDesk", name := "<init>", desc := "()V" } : Jvm.MethodName)) ∈ WB := List.mem_filter.mpr ⟨List.mem_append_right _ (List.mem_of_getElem? (i := 19) rfl), rfl⟩
theorem wb_20 : (Jvm.Cond.instanceMethod ({ cls := "OmegaDesk", name := "<init>", desc := "()V" } : Jvm.MethodName)) ∈ WB := List.mem_filter.mpr ⟨List.mem_append_right _ (List.mem_of_getElem? (i := 20) rfl), rfl⟩
theorem wb_21 : (Jvm.Cond.code ({ cls := "OmegaDesk", name := "<init>", desc := "()V" } : Jvm.MethodName) prog_1_method_1_code (2 : Nat) (Option.none : Option Jvm.ClassFile.FieldType)) ∈ WB := List.mem_filter.mpr ⟨List.mem_append_right _ (List.mem_of_getElem? (i := 21) rfl), rfl⟩
theorem wb_22 : (Jvm.Cond.methodLink "OmegaDesk" (1 : Nat) ({ cls := "java/lang/Object", name := "<init>", desc := "()V" } : Jvm.MethodName)) ∈ WB := List.mem_filter.mpr ⟨List.mem_append_right _ (List.mem_of_getElem? (i := 22) rfl), rfl⟩
theorem wb_23 : (Jvm.Cond.instanceMethod ({ cls := "java/lang/Object", name := "<init>", desc := "()V" } : Jvm.MethodName)) ∈ WB := List.mem_filter.mpr ⟨List.mem_append_right _ (List.mem_of_getElem? (i := 23) rfl), rfl⟩
theorem wb_24 : (Jvm.Cond.code ({ cls := "java/lang/Object", name := "<init>", desc := "()V" } : Jvm.MethodName) object_method_1_code (1 : Nat) (Option.none : Option Jvm.ClassFile.FieldType)) ∈ WB := List.mem_filter.mpr ⟨List.mem_append_right _ (List.mem_of_getElem? (i := 24) rfl), rfl⟩
theorem wb_25 : (Jvm.Cond.classLink "OmegaDesk" (9 : Nat) "OmegaDesk$Automaton") ∈ WB := List.mem_filter.mpr ⟨List.mem_append_right _ (List.mem_of_getElem? (i := 25) rfl), rfl⟩
theorem wb_27 : (Jvm.Cond.instantiable "OmegaDesk$Automaton" (3 : Nat)) ∈ WB := List.mem_filter.mpr ⟨List.mem_append_right _ (List.mem_of_getElem? (i := 27) rfl), rfl⟩
theorem wb_29 : (Jvm.Cond.instanceMethod ({ cls := "OmegaDesk$Automaton", name := "<init>", desc := "()V" } : Jvm.MethodName)) ∈ WB := List.mem_filter.mpr ⟨List.mem_append_right _ (List.mem_of_getElem? (i := 29) rfl), rfl⟩
theorem wb_30 : (Jvm.Cond.code ({ cls := "OmegaDesk$Automaton", name := "<init>", desc := "()V" } : Jvm.MethodName) prog_2_method_1_code (1 : Nat) (Option.none : Option Jvm.ClassFile.FieldType)) ∈ WB := List.mem_filter.mpr ⟨List.mem_append_right _ (List.mem_of_getElem? (i := 30) rfl), rfl⟩
theorem wb_31 : (Jvm.Cond.methodLink "OmegaDesk$Automaton" (3 : Nat) ({ cls := "java/lang/Object", name := "<init>", desc := "()V" } : Jvm.MethodName)) ∈ WB := List.mem_filter.mpr ⟨List.mem_append_right _ (List.mem_of_getElem? (i := 31) rfl), rfl⟩
theorem wb_32 : (Jvm.Cond.fieldLink "OmegaDesk$Automaton" (9 : Nat) "OmegaDesk$Automaton" "size" "I") ∈ WB := List.mem_filter.mpr ⟨List.mem_append_right _ (List.mem_of_getElem? (i := 32) rfl), rfl⟩
theorem wb_36 : (Jvm.Cond.fieldLink "OmegaDesk$Automaton" (15 : Nat) "OmegaDesk$Automaton" "goodStates" "I") ∈ WB := List.mem_filter.mpr ⟨List.mem_append_right _ (List.mem_of_getElem? (i := 36) rfl), rfl⟩
theorem wb_38 : (Jvm.Cond.fieldLink "OmegaDesk$Automaton" (18 : Nat) "OmegaDesk$Automaton" "followers" "[I") ∈ WB := List.mem_filter.mpr ⟨List.mem_append_right _ (List.mem_of_getElem? (i := 38) rfl), rfl⟩
theorem wb_46 : (Jvm.Cond.arrayClass Jvm.ClassFile.FieldType.int) ∈ WB := List.mem_filter.mpr ⟨List.mem_append_right _ (List.mem_of_getElem? (i := 46) rfl), rfl⟩
theorem wb_47 : (Jvm.Cond.classLink "OmegaDesk" (20 : Nat) "OmegaDesk$Refuter") ∈ WB := List.mem_filter.mpr ⟨List.mem_append_right _ (List.mem_of_getElem? (i := 47) rfl), rfl⟩
theorem wb_48 : (Jvm.Cond.instantiable "OmegaDesk$Refuter" (7 : Nat)) ∈ WB := List.mem_filter.mpr ⟨List.mem_append_right _ (List.mem_of_getElem? (i := 48) rfl), rfl⟩
theorem wb_50 : (Jvm.Cond.instanceMethod ({ cls := "OmegaDesk$Refuter", name := "<init>", desc := "()V" } : Jvm.MethodName)) ∈ WB := List.mem_filter.mpr ⟨List.mem_append_right _ (List.mem_of_getElem? (i := 50) rfl), rfl⟩
theorem wb_51 : (Jvm.Cond.code ({ cls := "OmegaDesk$Refuter", name := "<init>", desc := "()V" } : Jvm.MethodName) prog_5_method_1_code (1 : Nat) (Option.none : Option Jvm.ClassFile.FieldType)) ∈ WB := List.mem_filter.mpr ⟨List.mem_append_right _ (List.mem_of_getElem? (i := 51) rfl), rfl⟩
theorem wb_52 : (Jvm.Cond.methodLink "OmegaDesk$Refuter" (5 : Nat) ({ cls := "java/lang/Object", name := "<init>", desc := "()V" } : Jvm.MethodName)) ∈ WB := List.mem_filter.mpr ⟨List.mem_append_right _ (List.mem_of_getElem? (i := 52) rfl), rfl⟩
theorem wb_53 : (Jvm.Cond.fieldLink "OmegaDesk$Refuter" (11 : Nat) "OmegaDesk$Refuter" "keys" "[I") ∈ WB := List.mem_filter.mpr ⟨List.mem_append_right _ (List.mem_of_getElem? (i := 53) rfl), rfl⟩
theorem wb_54 : (Jvm.Cond.fieldLink "OmegaDesk$Refuter" (15 : Nat) "OmegaDesk$Refuter" "seenWays" "[I") ∈ WB := List.mem_filter.mpr ⟨List.mem_append_right _ (List.mem_of_getElem? (i := 54) rfl), rfl⟩
theorem wb_55 : (Jvm.Cond.fieldLink "OmegaDesk$Refuter" (18 : Nat) "OmegaDesk$Refuter" "freshWays" "[I") ∈ WB := List.mem_filter.mpr ⟨List.mem_append_right _ (List.mem_of_getElem? (i := 55) rfl), rfl⟩
theorem wb_56 : (Jvm.Cond.fieldLink "OmegaDesk$Refuter" (21 : Nat) "OmegaDesk$Refuter" "queue" "[I") ∈ WB := List.mem_filter.mpr ⟨List.mem_append_right _ (List.mem_of_getElem? (i := 56) rfl), rfl⟩
theorem wb_57 : (Jvm.Cond.fieldLink "OmegaDesk$Refuter" (24 : Nat) "OmegaDesk$Refuter" "queueStart" "I") ∈ WB := List.mem_filter.mpr ⟨List.mem_append_right _ (List.mem_of_getElem? (i := 57) rfl), rfl⟩
theorem wb_58 : (Jvm.Cond.fieldLink "OmegaDesk$Refuter" (28 : Nat) "OmegaDesk$Refuter" "queued" "I") ∈ WB := List.mem_filter.mpr ⟨List.mem_append_right _ (List.mem_of_getElem? (i := 58) rfl), rfl⟩
theorem wb_59 : (Jvm.Cond.fieldLink "OmegaDesk$Refuter" (31 : Nat) "OmegaDesk$Refuter" "meetings" "[I") ∈ WB := List.mem_filter.mpr ⟨List.mem_append_right _ (List.mem_of_getElem? (i := 59) rfl), rfl⟩
theorem wb_75 : (Jvm.Cond.classLink "OmegaDesk" (27 : Nat) "OmegaDesk$LassoFinder") ∈ WB := List.mem_filter.mpr ⟨List.mem_append_right _ (List.mem_of_getElem? (i := 75) rfl), rfl⟩
theorem wb_76 : (Jvm.Cond.instantiable "OmegaDesk$LassoFinder" (7 : Nat)) ∈ WB := List.mem_filter.mpr ⟨List.mem_append_right _ (List.mem_of_getElem? (i := 76) rfl), rfl⟩
theorem wb_78 : (Jvm.Cond.instanceMethod ({ cls := "OmegaDesk$LassoFinder", name := "<init>", desc := "()V" } : Jvm.MethodName)) ∈ WB := List.mem_filter.mpr ⟨List.mem_append_right _ (List.mem_of_getElem? (i := 78) rfl), rfl⟩
theorem wb_79 : (Jvm.Cond.code ({ cls := "OmegaDesk$LassoFinder", name := "<init>", desc := "()V" } : Jvm.MethodName) prog_3_method_1_code (1 : Nat) (Option.none : Option Jvm.ClassFile.FieldType)) ∈ WB := List.mem_filter.mpr ⟨List.mem_append_right _ (List.mem_of_getElem? (i := 79) rfl), rfl⟩
theorem wb_80 : (Jvm.Cond.methodLink "OmegaDesk$LassoFinder" (3 : Nat) ({ cls := "java/lang/Object", name := "<init>", desc := "()V" } : Jvm.MethodName)) ∈ WB := List.mem_filter.mpr ⟨List.mem_append_right _ (List.mem_of_getElem? (i := 80) rfl), rfl⟩
theorem wb_81 : (Jvm.Cond.classLink "OmegaDesk$LassoFinder" (9 : Nat) "OmegaDesk$WordTable") ∈ WB := List.mem_filter.mpr ⟨List.mem_append_right _ (List.mem_of_getElem? (i := 81) rfl), rfl⟩
theorem wb_82 : (Jvm.Cond.instantiable "OmegaDesk$WordTable" (2 : Nat)) ∈ WB := List.mem_filter.mpr ⟨List.mem_append_right _ (List.mem_of_getElem? (i := 82) rfl), rfl⟩
theorem wb_84 : (Jvm.Cond.instanceMethod ({ cls := "OmegaDesk$WordTable", name := "<init>", desc := "()V" } : Jvm.MethodName)) ∈ WB := List.mem_filter.mpr ⟨List.mem_append_right _ (List.mem_of_getElem? (i := 84) rfl), rfl⟩
theorem wb_85 : (Jvm.Cond.code ({ cls := "OmegaDesk$WordTable", name := "<init>", desc := "()V" } : Jvm.MethodName) prog_6_method_1_code (1 : Nat) (Option.none : Option Jvm.ClassFile.FieldType)) ∈ WB := List.mem_filter.mpr ⟨List.mem_append_right _ (List.mem_of_getElem? (i := 85) rfl), rfl⟩
theorem wb_86 : (Jvm.Cond.methodLink "OmegaDesk$WordTable" (3 : Nat) ({ cls := "java/lang/Object", name := "<init>", desc := "()V" } : Jvm.MethodName)) ∈ WB := List.mem_filter.mpr ⟨List.mem_append_right _ (List.mem_of_getElem? (i := 86) rfl), rfl⟩
theorem wb_87 : (Jvm.Cond.fieldLink "OmegaDesk$WordTable" (11 : Nat) "OmegaDesk$WordTable" "passages" "[I") ∈ WB := List.mem_filter.mpr ⟨List.mem_append_right _ (List.mem_of_getElem? (i := 87) rfl), rfl⟩
theorem wb_88 : (Jvm.Cond.fieldLink "OmegaDesk$WordTable" (15 : Nat) "OmegaDesk$WordTable" "takenRepeated" "[I") ∈ WB := List.mem_filter.mpr ⟨List.mem_append_right _ (List.mem_of_getElem? (i := 88) rfl), rfl⟩
theorem wb_94 : (Jvm.Cond.fieldLink "OmegaDesk$LassoFinder" (12 : Nat) "OmegaDesk$LassoFinder" "innerWords" "LOmegaDesk$WordTable;") ∈ WB := List.mem_filter.mpr ⟨List.mem_append_right _ (List.mem_of_getElem? (i := 94) rfl), rfl⟩
theorem wb_95 : (Jvm.Cond.fieldLink "OmegaDesk$LassoFinder" (18 : Nat) "OmegaDesk$LassoFinder" "outerWords" "LOmegaDesk$WordTable;") ∈ WB := List.mem_filter.mpr ⟨List.mem_append_right _ (List.mem_of_getElem? (i := 95) rfl), rfl⟩
theorem wb_96 : (Jvm.Cond.fieldLink "OmegaDesk$LassoFinder" (21 : Nat) "OmegaDesk$LassoFinder" "found" "Z") ∈ WB := List.mem_filter.mpr ⟨List.mem_append_right _ (List.mem_of_getElem? (i := 96) rfl), rfl⟩
theorem wb_98 : (Jvm.Cond.fieldLink "OmegaDesk$LassoFinder" (25 : Nat) "OmegaDesk$LassoFinder" "headLength" "I") ∈ WB := List.mem_filter.mpr ⟨List.mem_append_right _ (List.mem_of_getElem? (i := 98) rfl), rfl⟩
theorem wb_100 : (Jvm.Cond.fieldLink "OmegaDesk$LassoFinder" (29 : Nat) "OmegaDesk$LassoFinder" "head" "I") ∈ WB := List.mem_filter.mpr ⟨List.mem_append_right _ (List.mem_of_getElem? (i := 100) rfl), rfl⟩
theorem wb_102 : (Jvm.Cond.fieldLink "OmegaDesk$LassoFinder" (32 : Nat) "OmegaDesk$LassoFinder" "tailLength" "I") ∈ WB := List.mem_filter.mpr ⟨List.mem_append_right _ (List.mem_of_getElem? (i := 102) rfl), rfl⟩
theorem wb_104 : (Jvm.Cond.fieldLink "OmegaDesk$LassoFinder" (35 : Nat) "OmegaDesk$LassoFinder" "tail" "I") ∈ WB := List.mem_filter.mpr ⟨List.mem_append_right _ (List.mem_of_getElem? (i := 104) rfl), rfl⟩
theorem wb_121 : (Jvm.Cond.fieldLink "OmegaDesk" (11 : Nat) "OmegaDesk" "automata" "[LOmegaDesk$Automaton;") ∈ WB := List.mem_filter.mpr ⟨List.mem_append_right _ (List.mem_of_getElem? (i := 121) rfl), rfl⟩
theorem wb_122 : (Jvm.Cond.fieldLink "OmegaDesk" (16 : Nat) "OmegaDesk" "spare" "LOmegaDesk$Automaton;") ∈ WB := List.mem_filter.mpr ⟨List.mem_append_right _ (List.mem_of_getElem? (i := 122) rfl), rfl⟩
theorem wb_123 : (Jvm.Cond.fieldLink "OmegaDesk" (23 : Nat) "OmegaDesk" "refuter" "LOmegaDesk$Refuter;") ∈ WB := List.mem_filter.mpr ⟨List.mem_append_right _ (List.mem_of_getElem? (i := 123) rfl), rfl⟩
theorem wb_124 : (Jvm.Cond.fieldLink "OmegaDesk" (30 : Nat) "OmegaDesk" "finder" "LOmegaDesk$LassoFinder;") ∈ WB := List.mem_filter.mpr ⟨List.mem_append_right _ (List.mem_of_getElem? (i := 124) rfl), rfl⟩
theorem wb_134 : (Jvm.Cond.methodLink "OmegaDeskLaw" (63 : Nat) ({ cls := "OmegaDeskLaw", name := "state", desc := "(LOmegaDesk;IZ[J)I" } : Jvm.MethodName)) ∈ WB := List.mem_filter.mpr ⟨List.mem_append_right _ (List.mem_of_getElem? (i := 134) rfl), rfl⟩
theorem wb_135 : (Jvm.Cond.static ({ cls := "OmegaDeskLaw", name := "state", desc := "(LOmegaDesk;IZ[J)I" } : Jvm.MethodName)) ∈ WB := List.mem_filter.mpr ⟨List.mem_append_right _ (List.mem_of_getElem? (i := 135) rfl), rfl⟩
theorem wb_136 : (Jvm.Cond.codeWith ({ cls := "OmegaDeskLaw", name := "state", desc := "(LOmegaDesk;IZ[J)I" } : Jvm.MethodName) method_3_code (5 : Nat) (Option.some Jvm.ClassFile.FieldType.int) [((0 : Nat), (10 : Nat), (13 : Nat), (13 : Nat)), ((0 : Nat), (10 : Nat), (17 : Nat), (15 : Nat))]) ∈ WB := List.mem_filter.mpr ⟨List.mem_append_right _ (List.mem_of_getElem? (i := 136) rfl), rfl⟩
theorem wb_137 : (Jvm.Cond.classLink "OmegaDeskLaw" (13 : Nat) "java/lang/IllegalArgumentException") ∈ WB := List.mem_filter.mpr ⟨List.mem_append_right _ (List.mem_of_getElem? (i := 137) rfl), rfl⟩
theorem wb_138 : (Jvm.Cond.classLink "OmegaDeskLaw" (15 : Nat) "java/lang/IllegalStateException") ∈ WB := List.mem_filter.mpr ⟨List.mem_append_right _ (List.mem_of_getElem? (i := 138) rfl), rfl⟩
theorem wb_139 : (Jvm.Cond.methodLink "OmegaDeskLaw" (7 : Nat) ({ cls := "OmegaDesk", name := "state", desc := "(IZ)I" } : Jvm.MethodName)) ∈ WB := List.mem_filter.mpr ⟨List.mem_append_right _ (List.mem_of_getElem? (i := 139) rfl), rfl⟩
theorem wb_140 : (Jvm.Cond.instanceMethod ({ cls := "OmegaDesk", name := "state", desc := "(IZ)I" } : Jvm.MethodName)) ∈ WB := List.mem_filter.mpr ⟨List.mem_append_right _ (List.mem_of_getElem? (i := 140) rfl), rfl⟩
theorem wb_141 : (Jvm.Cond.selects "OmegaDesk" ({ cls := "OmegaDesk", name := "state", desc := "(IZ)I" } : Jvm.MethodName) ({ cls := "OmegaDesk", name := "state", desc := "(IZ)I" } : Jvm.MethodName)) ∈ WB := List.mem_filter.mpr ⟨List.mem_append_right _ (List.mem_of_getElem? (i := 141) rfl), rfl⟩
theorem wb_142 : (Jvm.Cond.code ({ cls := "OmegaDesk", name := "state", desc := "(IZ)I" } : Jvm.MethodName) prog_1_method_2_code (4 : Nat) (Option.some Jvm.ClassFile.FieldType.int)) ∈ WB := List.mem_filter.mpr ⟨List.mem_append_right _ (List.mem_of_getElem? (i := 142) rfl), rfl⟩
theorem wb_143 : (Jvm.Cond.methodLink "OmegaDesk" (34 : Nat) ({ cls := "OmegaDesk", name := "automatonAt", desc := "(I)LOmegaDesk$Automaton;" } : Jvm.MethodName)) ∈ WB := List.mem_filter.mpr ⟨List.mem_append_right _ (List.mem_of_getElem? (i := 143) rfl), rfl⟩
theorem wb_145 : (Jvm.Cond.instanceMethod ({ cls := "OmegaDesk", name := "automatonAt", desc := "(I)LOmegaDesk$Automaton;" } : Jvm.MethodName)) ∈ WB := List.mem_filter.mpr ⟨List.mem_append_right _ (List.mem_of_getElem? (i := 145) rfl), rfl⟩
theorem wb_146 : (Jvm.Cond.code ({ cls := "OmegaDesk", name := "automatonAt", desc := "(I)LOmegaDesk$Automaton;" } : Jvm.MethodName) prog_1_method_14_code (2 : Nat) (Option.some (Jvm.ClassFile.FieldType.object "OmegaDesk$Automaton"))) ∈ WB := List.mem_filter.mpr ⟨List.mem_append_right _ (List.mem_of_getElem? (i := 146) rfl), rfl⟩
theorem wb_147 : (Jvm.Cond.classLink "OmegaDesk" (68 : Nat) "java/lang/IllegalArgumentException") ∈ WB := List.mem_filter.mpr ⟨List.mem_append_right _ (List.mem_of_getElem? (i := 147) rfl), rfl⟩
theorem wb_215 : (Jvm.Cond.classLink "OmegaDesk" (42 : Nat) "java/lang/IllegalStateException") ∈ WB := List.mem_filter.mpr ⟨List.mem_append_right _ (List.mem_of_getElem? (i := 215) rfl), rfl⟩
theorem wb_231 : (Jvm.Cond.methodLink "OmegaDesk" (49 : Nat) ({ cls := "OmegaDesk$Automaton", name := "addState", desc := "(Z)I" } : Jvm.MethodName)) ∈ WB := List.mem_filter.mpr ⟨List.mem_append_right _ (List.mem_of_getElem? (i := 231) rfl), rfl⟩
theorem wb_232 : (Jvm.Cond.instanceMethod ({ cls := "OmegaDesk$Automaton", name := "addState", desc := "(Z)I" } : Jvm.MethodName)) ∈ WB := List.mem_filter.mpr ⟨List.mem_append_right _ (List.mem_of_getElem? (i := 232) rfl), rfl⟩
theorem wb_233 : (Jvm.Cond.selects "OmegaDesk$Automaton" ({ cls := "OmegaDesk$Automaton", name := "addState", desc := "(Z)I" } : Jvm.MethodName) ({ cls := "OmegaDesk$Automaton", name := "addState", desc := "(Z)I" } : Jvm.MethodName)) ∈ WB := List.mem_filter.mpr ⟨List.mem_append_right _ (List.mem_of_getElem? (i := 233) rfl), rfl⟩
theorem wb_234 : (Jvm.Cond.code ({ cls := "OmegaDesk$Automaton", name := "addState", desc := "(Z)I" } : Jvm.MethodName) prog_2_method_7_code (3 : Nat) (Option.some Jvm.ClassFile.FieldType.int)) ∈ WB := List.mem_filter.mpr ⟨List.mem_append_right _ (List.mem_of_getElem? (i := 234) rfl), rfl⟩
theorem wb_235 : (Jvm.Cond.methodLink "OmegaDeskLaw" (73 : Nat) ({ cls := "OmegaDeskLaw", name := "edge", desc := "(LOmegaDesk;IIII[J)I" } : Jvm.MethodName)) ∈ WB := List.mem_filter.mpr ⟨List.mem_append_right _ (List.mem_of_getElem? (i := 235) rfl), rfl⟩
theorem wb_236 : (Jvm.Cond.static ({ cls := "OmegaDeskLaw", name := "edge", desc := "(LOmegaDesk;IIII[J)I" } : Jvm.MethodName)) ∈ WB := List.mem_filter.mpr ⟨List.mem_append_right _ (List.mem_of_getElem? (i := 236) rfl), rfl⟩
theorem wb_237 : (Jvm.Cond.codeWith ({ cls := "OmegaDeskLaw", name := "edge", desc := "(LOmegaDesk;IIII[J)I" } : Jvm.MethodName) method_4_code (7 : Nat) (Option.some Jvm.ClassFile.FieldType.int) [((0 : Nat), (21 : Nat), (24 : Nat), (13 : Nat))]) ∈ WB := List.mem_filter.mpr ⟨List.mem_append_right _ (List.mem_of_getElem? (i := 237) rfl), rfl⟩
theorem wb_238 : (Jvm.Cond.methodLink "OmegaDeskLaw" (17 : Nat) ({ cls := "OmegaDesk", name := "edge", desc := "(IIII)Z" } : Jvm.MethodName)) ∈ WB := List.mem_filter.mpr ⟨List.mem_append_right _ (List.mem_of_getElem? (i := 238) rfl), rfl⟩
theorem wb_239 : (Jvm.Cond.instanceMethod ({ cls := "OmegaDesk", name := "edge", desc := "(IIII)Z" } : Jvm.MethodName)) ∈ WB := List.mem_filter.mpr ⟨List.mem_append_right _ (List.mem_of_getElem? (i := 239) rfl), rfl⟩
theorem wb_240 : (Jvm.Cond.selects "OmegaDesk" ({ cls := "OmegaDesk", name := "edge", desc := "(IIII)Z" } : Jvm.MethodName) ({ cls := "OmegaDesk", name := "edge", desc := "(IIII)Z" } : Jvm.MethodName)) ∈ WB := List.mem_filter.mpr ⟨List.mem_append_right _ (List.mem_of_getElem? (i := 240) rfl), rfl⟩
theorem wb_241 : (Jvm.Cond.code ({ cls := "OmegaDesk", name := "edge", desc := "(IIII)Z" } : Jvm.MethodName) prog_1_method_3_code (7 : Nat) (Option.some Jvm.ClassFile.FieldType.boolean)) ∈ WB := List.mem_filter.mpr ⟨List.mem_append_right _ (List.mem_of_getElem? (i := 241) rfl), rfl⟩
theorem wb_242 : (Jvm.Cond.methodLink "OmegaDesk" (53 : Nat) ({ cls := "OmegaDesk", name := "automatonWithPlaces", desc := "(IIII)LOmegaDesk$Automaton;" } : Jvm.MethodName)) ∈ WB := List.mem_filter.mpr ⟨List.mem_append_right _ (List.mem_of_getElem? (i := 242) rfl), rfl⟩
theorem wb_244 : (Jvm.Cond.instanceMethod ({ cls := "OmegaDesk", name := "automatonWithPlaces", desc := "(IIII)LOmegaDesk$Automaton;" } : Jvm.MethodName)) ∈ WB := List.mem_filter.mpr ⟨List.mem_append_right _ (List.mem_of_getElem? (i := 244) rfl), rfl⟩
theorem wb_245 : (Jvm.Cond.code ({ cls := "OmegaDesk", name := "automatonWithPlaces", desc := "(IIII)LOmegaDesk$Automaton;" } : Jvm.MethodName) prog_1_method_15_code (6 : Nat) (Option.some (Jvm.ClassFile.FieldType.object "OmegaDesk$Automaton"))) ∈ WB := List.mem_filter.mpr ⟨List.mem_append_right _ (List.mem_of_getElem? (i := 245) rfl), rfl⟩
theorem wb_246 : (Jvm.Cond.methodLink "OmegaDesk" (147 : Nat) ({ cls := "OmegaDesk$Automaton", name := "hasState", desc := "(I)Z" } : Jvm.MethodName)) ∈ WB := List.mem_filter.mpr ⟨List.mem_append_right _ (List.mem_of_getElem? (i := 246) rfl), rfl⟩
theorem wb_247 : (Jvm.Cond.instanceMethod ({ cls := "OmegaDesk$Automaton", name := "hasState", desc := "(I)Z" } : Jvm.MethodName)) ∈ WB := List.mem_filter.mpr ⟨List.mem_append_right _ (List.mem_of_getElem? (i := 247) rfl), rfl⟩
theorem wb_248 : (Jvm.Cond.selects "OmegaDesk$Automaton" ({ cls := "OmegaDesk$Automaton", name := "hasState", desc := "(I)Z" } : Jvm.MethodName) ({ cls := "OmegaDesk$Automaton", name := "hasState", desc := "(I)Z" } : Jvm.MethodName)) ∈ WB := List.mem_filter.mpr ⟨List.mem_append_right _ (List.mem_of_getElem? (i := 248) rfl), rfl⟩
theorem wb_249 : (Jvm.Cond.code ({ cls := "OmegaDesk$Automaton", name := "hasState", desc := "(I)Z" } : Jvm.MethodName) prog_2_method_2_code (2 : Nat) (Option.some Jvm.ClassFile.FieldType.boolean)) ∈ WB := List.mem_filter.mpr ⟨List.mem_append_right _ (List.mem_of_getElem? (i := 249) rfl), rfl⟩
theorem wb_252 : (Jvm.Cond.methodLink "OmegaDesk" (57 : Nat) ({ cls := "OmegaDesk$Automaton", name := "joins", desc := "(III)Z" } : Jvm.MethodName)) ∈ WB := List.mem_filter.mpr ⟨List.mem_append_right _ (List.mem_of_getElem? (i := 252) rfl), rfl⟩
theorem wb_253 : (Jvm.Cond.instanceMethod ({ cls := "OmegaDesk$Automaton", name := "joins", desc := "(III)Z" } : Jvm.MethodName)) ∈ WB := List.mem_filter.mpr ⟨List.mem_append_right _ (List.mem_of_getElem? (i := 253) rfl), rfl⟩
theorem wb_254 : (Jvm.Cond.selects "OmegaDesk$Automaton" ({ cls := "OmegaDesk$Automaton", name := "joins", desc := "(III)Z" } : Jvm.MethodName) ({ cls := "OmegaDesk$Automaton", name := "joins", desc := "(III)Z" } : Jvm.MethodName)) ∈ WB := List.mem_filter.mpr ⟨List.mem_append_right _ (List.mem_of_getElem? (i := 254) rfl), rfl⟩
theorem wb_255 : (Jvm.Cond.code ({ cls := "OmegaDesk$Automaton", name := "joins", desc := "(III)Z" } : Jvm.MethodName) prog_2_method_4_code (4 : Nat) (Option.some Jvm.ClassFile.FieldType.boolean)) ∈ WB := List.mem_filter.mpr ⟨List.mem_append_right _ (List.mem_of_getElem? (i := 255) rfl), rfl⟩
theorem wb_256 : (Jvm.Cond.methodLink "OmegaDesk$Automaton" (22 : Nat) ({ cls := "OmegaDesk$Automaton", name := "followersOf", desc := "(II)I" } : Jvm.MethodName)) ∈ WB := List.mem_filter.mpr ⟨List.mem_append_right _ (List.mem_of_getElem? (i := 256) rfl), rfl⟩
theorem wb_257 : (Jvm.Cond.instanceMethod ({ cls := "OmegaDesk$Automaton", name := "followersOf", desc := "(II)I" } : Jvm.MethodName)) ∈ WB := List.mem_filter.mpr ⟨List.mem_append_right _ (List.mem_of_getElem? (i := 257) rfl), rfl⟩
theorem wb_258 : (Jvm.Cond.selects "OmegaDesk$Automaton" ({ cls := "OmegaDesk$Automaton", name := "followersOf", desc := "(II)I" } : Jvm.MethodName) ({ cls := "OmegaDesk$Automaton", name := "followersOf", desc := "(II)I" } : Jvm.MethodName)) ∈ WB := List.mem_filter.mpr ⟨List.mem_append_right _ (List.mem_of_getElem? (i := 258) rfl), rfl⟩
theorem wb_259 : (Jvm.Cond.code ({ cls := "OmegaDesk$Automaton", name := "followersOf", desc := "(II)I" } : Jvm.MethodName) prog_2_method_5_code (3 : Nat) (Option.some Jvm.ClassFile.FieldType.int)) ∈ WB := List.mem_filter.mpr ⟨List.mem_append_right _ (List.mem_of_getElem? (i := 259) rfl), rfl⟩
theorem wb_260 : (Jvm.Cond.methodLink "OmegaDesk" (61 : Nat) ({ cls := "OmegaDesk$Automaton", name := "join", desc := "(III)V" } : Jvm.MethodName)) ∈ WB := List.mem_filter.mpr ⟨List.mem_append_right _ (List.mem_of_getElem? (i := 260) rfl), rfl⟩
theorem wb_261 : (Jvm.Cond.instanceMethod ({ cls := "OmegaDesk$Automaton", name := "join", desc := "(III)V" } : Jvm.MethodName)) ∈ WB := List.mem_filter.mpr ⟨List.mem_append_right _ (List.mem_of_getElem? (i := 261) rfl), rfl⟩
theorem wb_262 : (Jvm.Cond.selects "OmegaDesk$Automaton" ({ cls := "OmegaDesk$Automaton", name := "join", desc := "(III)V" } : Jvm.MethodName) ({ cls := "OmegaDesk$Automaton", name := "join", desc := "(III)V" } : Jvm.MethodName)) ∈ WB := List.mem_filter.mpr ⟨List.mem_append_right _ (List.mem_of_getElem? (i := 262) rfl), rfl⟩
theorem wb_263 : (Jvm.Cond.code ({ cls := "OmegaDesk$Automaton", name := "join", desc := "(III)V" } : Jvm.MethodName) prog_2_method_8_code (5 : Nat) (Option.none : Option Jvm.ClassFile.FieldType)) ∈ WB := List.mem_filter.mpr ⟨List.mem_append_right _ (List.mem_of_getElem? (i := 263) rfl), rfl⟩
theorem wb_264 : (Jvm.Cond.methodLink "OmegaDeskLaw" (77 : Nat) ({ cls := "OmegaDeskLaw", name := "clear", desc := "(LOmegaDesk;I)I" } : Jvm.MethodName)) ∈ WB := List.mem_filter.mpr ⟨List.mem_append_right _ (List.mem_of_getElem? (i := 264) rfl), rfl⟩
theorem wb_265 : (Jvm.Cond.static ({ cls := "OmegaDeskLaw", name := "clear", desc := "(LOmegaDesk;I)I" } : Jvm.MethodName)) ∈ WB := List.mem_filter.mpr ⟨List.mem_append_right _ (List.mem_of_getElem? (i := 265) rfl), rfl⟩
theorem wb_266 : (Jvm.Cond.codeWith ({ cls := "OmegaDeskLaw", name := "clear", desc := "(LOmegaDesk;I)I" } : Jvm.MethodName) method_5_code (3 : Nat) (Option.some Jvm.ClassFile.FieldType.int) [((0 : Nat), (5 : Nat), (8 : Nat), (13 : Nat))]) ∈ WB := List.mem_filter.mpr ⟨List.mem_append_right _ (List.mem_of_getElem? (i := 266) rfl), rfl⟩
theorem wb_267 : (Jvm.Cond.methodLink "OmegaDeskLaw" (21 : Nat) ({ cls := "OmegaDesk", name := "clear", desc := "(I)V" } : Jvm.MethodName)) ∈ WB := List.mem_filter.mpr ⟨List.mem_append_right _ (List.mem_of_getElem? (i := 267) rfl), rfl⟩
theorem wb_268 : (Jvm.Cond.instanceMethod ({ cls := "OmegaDesk", name := "clear", desc := "(I)V" } : Jvm.MethodName)) ∈ WB := List.mem_filter.mpr ⟨List.mem_append_right _ (List.mem_of_getElem? (i := 268) rfl), rfl⟩
theorem wb_269 : (Jvm.Cond.selects "OmegaDesk" ({ cls := "OmegaDesk", name := "clear", desc := "(I)V" } : Jvm.MethodName) ({ cls := "OmegaDesk", name := "clear", desc := "(I)V" } : Jvm.MethodName)) ∈ WB := List.mem_filter.mpr ⟨List.mem_append_right _ (List.mem_of_getElem? (i := 269) rfl), rfl⟩
theorem wb_270 : (Jvm.Cond.code ({ cls := "OmegaDesk", name := "clear", desc := "(I)V" } : Jvm.MethodName) prog_1_method_4_code (2 : Nat) (Option.none : Option Jvm.ClassFile.FieldType)) ∈ WB := List.mem_filter.mpr ⟨List.mem_append_right _ (List.mem_of_getElem? (i := 270) rfl), rfl⟩
theorem wb_271 : (Jvm.Cond.methodLink "OmegaDesk" (65 : Nat) ({ cls := "OmegaDesk$Automaton", name := "wipe", desc := "()V" } : Jvm.MethodName)) ∈ WB := List.mem_filter.mpr ⟨List.mem_append_right _ (List.mem_of_getElem? (i := 271) rfl), rfl⟩
theorem wb_272 : (Jvm.Cond.instanceMethod ({ cls := "OmegaDesk$Automaton", name := "wipe", desc := "()V" } : Jvm.MethodName)) ∈ WB := List.mem_filter.mpr ⟨List.mem_append_right _ (List.mem_of_getElem? (i := 272) rfl), rfl⟩
theorem wb_273 : (Jvm.Cond.selects "OmegaDesk$Automaton" ({ cls := "OmegaDesk$Automaton", name := "wipe", desc := "()V" } : Jvm.MethodName) ({ cls := "OmegaDesk$Automaton", name := "wipe", desc := "()V" } : Jvm.MethodName)) ∈ WB := List.mem_filter.mpr ⟨List.mem_append_right _ (List.mem_of_getElem? (i := 273) rfl), rfl⟩
theorem wb_274 : (Jvm.Cond.code ({ cls := "OmegaDesk$Automaton", name := "wipe", desc := "()V" } : Jvm.MethodName) prog_2_method_6_code (1 : Nat) (Option.none : Option Jvm.ClassFile.FieldType)) ∈ WB := List.mem_filter.mpr ⟨List.mem_append_right _ (List.mem_of_getElem? (i := 274) rfl), rfl⟩
theorem wb_275 : (Jvm.Cond.methodLink "OmegaDesk$Automaton" (26 : Nat) ({ cls := "java/util/Arrays", name := "fill", desc := "([II)V" } : Jvm.MethodName)) ∈ WB := List.mem_filter.mpr ⟨List.mem_append_right _ (List.mem_of_getElem? (i := 275) rfl), rfl⟩
theorem wb_276 : (Jvm.Cond.static ({ cls := "java/util/Arrays", name := "fill", desc := "([II)V" } : Jvm.MethodName)) ∈ WB := List.mem_filter.mpr ⟨List.mem_append_right _ (List.mem_of_getElem? (i := 276) rfl), rfl⟩
theorem wb_277 : (Jvm.Cond.code ({ cls := "java/util/Arrays", name := "fill", desc := "([II)V" } : Jvm.MethodName) prog_17_method_103_code (4 : Nat) (Option.none : Option Jvm.ClassFile.FieldType)) ∈ WB := List.mem_filter.mpr ⟨List.mem_append_right _ (List.mem_of_getElem? (i := 277) rfl), rfl⟩
theorem wb_278 : (Jvm.Cond.methodLink "OmegaDeskLaw" (81 : Nat) ({ cls := "OmegaDeskLaw", name := "unite", desc := "(LOmegaDesk;III[J)I" } : Jvm.MethodName)) ∈ WB := List.mem_filter.mpr ⟨List.mem_append_right _ (List.mem_of_getElem? (i := 278) rfl), rfl⟩
theorem wb_279 : (Jvm.Cond.static ({ cls := "OmegaDeskLaw", name := "unite", desc := "(LOmegaDesk;III[J)I" } : Jvm.MethodName)) ∈ WB := List.mem_filter.mpr ⟨List.mem_append_right _ (List.mem_of_getElem? (i := 279) rfl), rfl⟩
theorem wb_280 : (Jvm.Cond.codeWith ({ cls := "OmegaDeskLaw", name := "unite", desc := "(LOmegaDesk;III[J)I" } : Jvm.MethodName) method_6_code (6 : Nat) (Option.some Jvm.ClassFile.FieldType.int) [((0 : Nat), (12 : Nat), (15 : Nat), (13 : Nat)), ((0 : Nat), (12 : Nat), (19 : Nat), (15 : Nat))]) ∈ WB := List.mem_filter.mpr ⟨List.mem_append_right _ (List.mem_of_getElem? (i := 280) rfl), rfl⟩
theorem wb_281 : (Jvm.Cond.methodLink "OmegaDeskLaw" (25 : Nat) ({ cls := "OmegaDesk", name := "unite", desc := "(III)I" } : Jvm.MethodName)) ∈ WB := List.mem_filter.mpr ⟨List.mem_append_right _ (List.mem_of_getElem? (i := 281) rfl), rfl⟩
theorem wb_282 : (Jvm.Cond.instanceMethod ({ cls := "OmegaDesk", name := "unite", desc := "(III)I" } : Jvm.MethodName)) ∈ WB := List.mem_filter.mpr ⟨List.mem_append_right _ (List.mem_of_getElem? (i := 282) rfl), rfl⟩
theorem wb_283 : (Jvm.Cond.selects "OmegaDesk" ({ cls := "OmegaDesk", name := "unite", desc := "(III)I" } : Jvm.MethodName) ({ cls := "OmegaDesk", name := "unite", desc := "(III)I" } : Jvm.MethodName)) ∈ WB := List.mem_filter.mpr ⟨List.mem_append_right _ (List.mem_of_getElem? (i := 283) rfl), rfl⟩
theorem wb_284 : (Jvm.Cond.code ({ cls := "OmegaDesk", name := "unite", desc := "(III)I" } : Jvm.MethodName) prog_1_method_5_code (7 : Nat) (Option.some Jvm.ClassFile.FieldType.int)) ∈ WB := List.mem_filter.mpr ⟨List.mem_append_right _ (List.mem_of_getElem? (i := 284) rfl), rfl⟩
theorem wb_287 : (Jvm.Cond.methodLink "OmegaDesk" (75 : Nat) ({ cls := "OmegaDesk$Automaton", name := "append", desc := "(LOmegaDesk$Automaton;)V" } : Jvm.MethodName)) ∈ WB := List.mem_filter.mpr ⟨List.mem_append_right _ (List.mem_of_getElem? (i := 287) rfl), rfl⟩
theorem wb_288 : (Jvm.Cond.instanceMethod ({ cls := "OmegaDesk$Automaton", name := "append", desc := "(LOmegaDesk$Automaton;)V" } : Jvm.MethodName)) ∈ WB := List.mem_filter.mpr ⟨List.mem_append_right _ (List.mem_of_getElem? (i := 288) rfl), rfl⟩
theorem wb_289 : (Jvm.Cond.selects "OmegaDesk$Automaton" ({ cls := "OmegaDesk$Automaton", name := "append", desc := "(LOmegaDesk$Automaton;)V" } : Jvm.MethodName) ({ cls := "OmegaDesk$Automaton", name := "append", desc := "(LOmegaDesk$Automaton;)V" } : Jvm.MethodName)) ∈ WB := List.mem_filter.mpr ⟨List.mem_append_right _ (List.mem_of_getElem? (i := 289) rfl), rfl⟩
theorem wb_290 : (Jvm.Cond.code ({ cls := "OmegaDesk$Automaton", name := "append", desc := "(LOmegaDesk$Automaton;)V" } : Jvm.MethodName) prog_2_method_10_code (6 : Nat) (Option.none : Option Jvm.ClassFile.FieldType)) ∈ WB := List.mem_filter.mpr ⟨List.mem_append_right _ (List.mem_of_getElem? (i := 290) rfl), rfl⟩
theorem wb_291 : (Jvm.Cond.methodLink "OmegaDesk$Automaton" (38 : Nat) ({ cls := "OmegaDesk$Automaton", name := "isGood", desc := "(I)Z" } : Jvm.MethodName)) ∈ WB := List.mem_filter.mpr ⟨List.mem_append_right _ (List.mem_of_getElem? (i := 291) rfl), rfl⟩
theorem wb_292 : (Jvm.Cond.instanceMethod ({ cls := "OmegaDesk$Automaton", name := "isGood", desc := "(I)Z" } : Jvm.MethodName)) ∈ WB := List.mem_filter.mpr ⟨List.mem_append_right _ (List.mem_of_getElem? (i := 292) rfl), rfl⟩
theorem wb_293 : (Jvm.Cond.selects "OmegaDesk$Automaton" ({ cls := "OmegaDesk$Automaton", name := "isGood", desc := "(I)Z" } : Jvm.MethodName) ({ cls := "OmegaDesk$Automaton", name := "isGood", desc := "(I)Z" } : Jvm.MethodName)) ∈ WB := List.mem_filter.mpr ⟨List.mem_append_right _ (List.mem_of_getElem? (i := 293) rfl), rfl⟩
theorem wb_294 : (Jvm.Cond.code ({ cls := "OmegaDesk$Automaton", name := "isGood", desc := "(I)Z" } : Jvm.MethodName) prog_2_method_3_code (2 : Nat) (Option.some Jvm.ClassFile.FieldType.boolean)) ∈ WB := List.mem_filter.mpr ⟨List.mem_append_right _ (List.mem_of_getElem? (i := 294) rfl), rfl⟩
theorem wb_295 : (Jvm.Cond.methodLink "OmegaDesk$Automaton" (42 : Nat) ({ cls := "OmegaDesk$Automaton", name := "addState", desc := "(Z)I" } : Jvm.MethodName)) ∈ WB := List.mem_filter.mpr ⟨List.mem_append_right _ (List.mem_of_getElem? (i := 295) rfl), rfl⟩
theorem wb_296 : (Jvm.Cond.methodLink "OmegaDesk$Automaton" (46 : Nat) ({ cls := "OmegaDesk$Automaton", name := "joinAll", desc := "(III)V" } : Jvm.MethodName)) ∈ WB := List.mem_filter.mpr ⟨List.mem_append_right _ (List.mem_of_getElem? (i := 296) rfl), rfl⟩
theorem wb_298 : (Jvm.Cond.instanceMethod ({ cls := "OmegaDesk$Automaton", name := "joinAll", desc := "(III)V" } : Jvm.MethodName)) ∈ WB := List.mem_filter.mpr ⟨List.mem_append_right _ (List.mem_of_getElem? (i := 298) rfl), rfl⟩
theorem wb_299 : (Jvm.Cond.code ({ cls := "OmegaDesk$Automaton", name := "joinAll", desc := "(III)V" } : Jvm.MethodName) prog_2_method_11_code (5 : Nat) (Option.none : Option Jvm.ClassFile.FieldType)) ∈ WB := List.mem_filter.mpr ⟨List.mem_append_right _ (List.mem_of_getElem? (i := 299) rfl), rfl⟩
theorem wb_300 : (Jvm.Cond.methodLink "OmegaDesk$Automaton" (50 : Nat) ({ cls := "OmegaDesk$Automaton", name := "join", desc := "(III)V" } : Jvm.MethodName)) ∈ WB := List.mem_filter.mpr ⟨List.mem_append_right _ (List.mem_of_getElem? (i := 300) rfl), rfl⟩
set_option maxRecDepth 20000 in
theorem wb_301 : (Jvm.Cond.methodLink "OmegaDeskLaw" (85 : Nat) ({ cls := "OmegaDeskLaw", name := "trim", desc := "(LOmegaDesk;I[J)I" } : Jvm.MethodName)) ∈ WB := List.mem_filter.mpr ⟨List.mem_append_right _ (List.mem_of_getElem? (i := 301) rfl), rfl⟩
set_option maxRecDepth 20000 in
theorem wb_302 : (Jvm.Cond.static ({ cls := "OmegaDeskLaw", name := "trim", desc := "(LOmegaDesk;I[J)I" } : Jvm.MethodName)) ∈ WB := List.mem_filter.mpr ⟨List.mem_append_right _ (List.mem_of_getElem? (i := 302) rfl), rfl⟩
set_option maxRecDepth 20000 in
theorem wb_303 : (Jvm.Cond.codeWith ({ cls := "OmegaDeskLaw", name := "trim", desc := "(LOmegaDesk;I[J)I" } : Jvm.MethodName) method_7_code (4 : Nat) (Option.some Jvm.ClassFile.FieldType.int) [((0 : Nat), (9 : Nat), (12 : Nat), (13 : Nat))]) ∈ WB := List.mem_filter.mpr ⟨List.mem_append_right _ (List.mem_of_getElem? (i := 303) rfl), rfl⟩
set_option maxRecDepth 20000 in
theorem wb_304 : (Jvm.Cond.methodLink "OmegaDeskLaw" (29 : Nat) ({ cls := "OmegaDesk", name := "trim", desc := "(I)I" } : Jvm.MethodName)) ∈ WB := List.mem_filter.mpr ⟨List.mem_append_right _ (List.mem_of_getElem? (i := 304) rfl), rfl⟩
set_option maxRecDepth 20000 in
theorem wb_305 : (Jvm.Cond.instanceMethod ({ cls := "OmegaDesk", name := "trim", desc := "(I)I" } : Jvm.MethodName)) ∈ WB := List.mem_filter.mpr ⟨List.mem_append_right _ (List.mem_of_getElem? (i := 305) rfl), rfl⟩
set_option maxRecDepth 20000 in
theorem wb_306 : (Jvm.Cond.selects "OmegaDesk" ({ cls := "OmegaDesk", name := "trim", desc := "(I)I" } : Jvm.MethodName) ({ cls := "OmegaDesk", name := "trim", desc := "(I)I" } : Jvm.MethodName)) ∈ WB := List.mem_filter.mpr ⟨List.mem_append_right _ (List.mem_of_getElem? (i := 306) rfl), rfl⟩
set_option maxRecDepth 20000 in
theorem wb_307 : (Jvm.Cond.code ({ cls := "OmegaDesk", name := "trim", desc := "(I)I" } : Jvm.MethodName) prog_1_method_6_code (3 : Nat) (Option.some Jvm.ClassFile.FieldType.int)) ∈ WB := List.mem_filter.mpr ⟨List.mem_append_right _ (List.mem_of_getElem? (i := 307) rfl), rfl⟩
set_option maxRecDepth 20000 in
theorem wb_308 : (Jvm.Cond.methodLink "OmegaDesk" (79 : Nat) ({ cls := "OmegaDesk$Automaton", name := "copy", desc := "(LOmegaDesk$Automaton;)V" } : Jvm.MethodName)) ∈ WB := List.mem_filter.mpr ⟨List.mem_append_right _ (List.mem_of_getElem? (i := 308) rfl), rfl⟩
set_option maxRecDepth 20000 in
theorem wb_309 : (Jvm.Cond.instanceMethod ({ cls := "OmegaDesk$Automaton", name := "copy", desc := "(LOmegaDesk$Automaton;)V" } : Jvm.MethodName)) ∈ WB := List.mem_filter.mpr ⟨List.mem_append_right _ (List.mem_of_getElem? (i := 309) rfl), rfl⟩
set_option maxRecDepth 20000 in
theorem wb_310 : (Jvm.Cond.selects "OmegaDesk$Automaton" ({ cls := "OmegaDesk$Automaton", name := "copy", desc := "(LOmegaDesk$Automaton;)V" } : Jvm.MethodName) ({ cls := "OmegaDesk$Automaton", name := "copy", desc := "(LOmegaDesk$Automaton;)V" } : Jvm.MethodName)) ∈ WB := List.mem_filter.mpr ⟨List.mem_append_right _ (List.mem_of_getElem? (i := 310) rfl), rfl⟩
set_option maxRecDepth 20000 in
theorem wb_311 : (Jvm.Cond.code ({ cls := "OmegaDesk$Automaton", name := "copy", desc := "(LOmegaDesk$Automaton;)V" } : Jvm.MethodName) prog_2_method_9_code (2 : Nat) (Option.none : Option Jvm.ClassFile.FieldType)) ∈ WB := List.mem_filter.mpr ⟨List.mem_append_right _ (List.mem_of_getElem? (i := 311) rfl), rfl⟩
set_option maxRecDepth 20000 in
theorem wb_312 : (Jvm.Cond.methodLink "OmegaDesk$Automaton" (32 : Nat) ({ cls := "java/lang/System", name := "arraycopy", desc := "(Ljava/lang/Object;ILjava/lang/Object;II)V" } : Jvm.MethodName)) ∈ WB := List.mem_filter.mpr ⟨List.mem_append_right _ (List.mem_of_getElem? (i := 312) rfl), rfl⟩
set_option maxRecDepth 20000 in
theorem wb_313 : (Jvm.Cond.static ({ cls := "java/lang/System", name := "arraycopy", desc := "(Ljava/lang/Object;ILjava/lang/Object;II)V" } : Jvm.MethodName)) ∈ WB := List.mem_filter.mpr ⟨List.mem_append_right _ (List.mem_of_getElem? (i := 313) rfl), rfl⟩
set_option maxRecDepth 20000 in
theorem wb_314 : (Jvm.Cond.native ({ cls := "java/lang/System", name := "arraycopy", desc := "(Ljava/lang/Object;ILjava/lang/Object;II)V" } : Jvm.MethodName)) ∈ WB := List.mem_filter.mpr ⟨List.mem_append_right _ (List.mem_of_getElem? (i := 314) rfl), rfl⟩
set_option maxRecDepth 20000 in
theorem wb_315 : (Jvm.Cond.methodLink "OmegaDesk" (82 : Nat) ({ cls := "OmegaDesk$Automaton", name := "usefulStates", desc := "()I" } : Jvm.MethodName)) ∈ WB := List.mem_filter.mpr ⟨List.mem_append_right _ (List.mem_of_getElem? (i := 315) rfl), rfl⟩
set_option maxRecDepth 20000 in
theorem wb_316 : (Jvm.Cond.instanceMethod ({ cls := "OmegaDesk$Automaton", name := "usefulStates", desc := "()I" } : Jvm.MethodName)) ∈ WB := List.mem_filter.mpr ⟨List.mem_append_right _ (List.mem_of_getElem? (i := 316) rfl), rfl⟩
set_option maxRecDepth 20000 in
theorem wb_317 : (Jvm.Cond.selects "OmegaDesk$Automaton" ({ cls := "OmegaDesk$Automaton", name := "usefulStates", desc := "()I" } : Jvm.MethodName) ({ cls := "OmegaDesk$Automaton", name := "usefulStates", desc := "()I" } : Jvm.MethodName)) ∈ WB := List.mem_filter.mpr ⟨List.mem_append_right _ (List.mem_of_getElem? (i := 317) rfl), rfl⟩
set_option maxRecDepth 20000 in
theorem wb_318 : (Jvm.Cond.code ({ cls := "OmegaDesk$Automaton", name := "usefulStates", desc := "()I" } : Jvm.MethodName) prog_2_method_15_code (4 : Nat) (Option.some Jvm.ClassFile.FieldType.int)) ∈ WB := List.mem_filter.mpr ⟨List.mem_append_right _ (List.mem_of_getElem? (i := 318) rfl), rfl⟩
set_option maxRecDepth 20000 in
theorem wb_319 : (Jvm.Cond.methodLink "OmegaDesk$Automaton" (68 : Nat) ({ cls := "OmegaDesk$Automaton", name := "emptyPassage", desc := "(I)I" } : Jvm.MethodName)) ∈ WB := List.mem_filter.mpr ⟨List.mem_append_right _ (List.mem_of_getElem? (i := 319) rfl), rfl⟩
set_option maxRecDepth 20000 in
theorem wb_320 : (Jvm.Cond.instanceMethod ({ cls := "OmegaDesk$Automaton", name := "emptyPassage", desc := "(I)I" } : Jvm.MethodName)) ∈ WB := List.mem_filter.mpr ⟨List.mem_append_right _ (List.mem_of_getElem? (i := 320) rfl), rfl⟩
set_option maxRecDepth 20000 in
theorem wb_321 : (Jvm.Cond.selects "OmegaDesk$Automaton" ({ cls := "OmegaDesk$Automaton", name := "emptyPassage", desc := "(I)I" } : Jvm.MethodName) ({ cls := "OmegaDesk$Automaton", name := "emptyPassage", desc := "(I)I" } : Jvm.MethodName)) ∈ WB := List.mem_filter.mpr ⟨List.mem_append_right _ (List.mem_of_getElem? (i := 321) rfl), rfl⟩
set_option maxRecDepth 20000 in
theorem wb_322 : (Jvm.Cond.code ({ cls := "OmegaDesk$Automaton", name := "emptyPassage", desc := "(I)I" } : Jvm.MethodName) prog_2_method_16_code (4 : Nat) (Option.some Jvm.ClassFile.FieldType.int)) ∈ WB := List.mem_filter.mpr ⟨List.mem_append_right _ (List.mem_of_getElem? (i := 322) rfl), rfl⟩
set_option maxRecDepth 20000 in
theorem wb_323 : (Jvm.Cond.methodLink "OmegaDesk$Automaton" (71 : Nat) ({ cls := "OmegaDesk$Automaton", name := "longerPassage", desc := "(II)I" } : Jvm.MethodName)) ∈ WB := List.mem_filter.mpr ⟨List.mem_append_right _ (List.mem_of_getElem? (i := 323) rfl), rfl⟩
set_option maxRecDepth 20000 in
theorem wb_324 : (Jvm.Cond.instanceMethod ({ cls := "OmegaDesk$Automaton", name := "longerPassage", desc := "(II)I" } : Jvm.MethodName)) ∈ WB := List.mem_filter.mpr ⟨List.mem_append_right _ (List.mem_of_getElem? (i := 324) rfl), rfl⟩
set_option maxRecDepth 20000 in
theorem wb_325 : (Jvm.Cond.selects "OmegaDesk$Automaton" ({ cls := "OmegaDesk$Automaton", name := "longerPassage", desc := "(II)I" } : Jvm.MethodName) ({ cls := "OmegaDesk$Automaton", name := "longerPassage", desc := "(II)I" } : Jvm.MethodName)) ∈ WB := List.mem_filter.mpr ⟨List.mem_append_right _ (List.mem_of_getElem? (i := 325) rfl), rfl⟩
set_option maxRecDepth 20000 in
theorem wb_326 : (Jvm.Cond.code ({ cls := "OmegaDesk$Automaton", name := "longerPassage", desc := "(II)I" } : Jvm.MethodName) prog_2_method_17_code (7 : Nat) (Option.some Jvm.ClassFile.FieldType.int)) ∈ WB := List.mem_filter.mpr ⟨List.mem_append_right _ (List.mem_of_getElem? (i := 326) rfl), rfl⟩
set_option maxRecDepth 20000 in
theorem wb_327 : (Jvm.Cond.methodLink "OmegaDesk$Automaton" (85 : Nat) ({ cls := "OmegaDesk$Passage", name := "ends", desc := "(II)I" } : Jvm.MethodName)) ∈ WB := List.mem_filter.mpr ⟨List.mem_append_right _ (List.mem_of_getElem? (i := 327) rfl), rfl⟩
set_option maxRecDepth 20000 in
theorem wb_328 : (Jvm.Cond.static ({ cls := "OmegaDesk$Passage", name := "ends", desc := "(II)I" } : Jvm.MethodName)) ∈ WB := List.mem_filter.mpr ⟨List.mem_append_right _ (List.mem_of_getElem? (i := 328) rfl), rfl⟩
set_option maxRecDepth 20000 in
theorem wb_329 : (Jvm.Cond.code ({ cls := "OmegaDesk$Passage", name := "ends", desc := "(II)I" } : Jvm.MethodName) prog_4_method_2_code (2 : Nat) (Option.some Jvm.ClassFile.FieldType.int)) ∈ WB := List.mem_filter.mpr ⟨List.mem_append_right _ (List.mem_of_getElem? (i := 329) rfl), rfl⟩
set_option maxRecDepth 20000 in
theorem wb_330 : (Jvm.Cond.methodLink "OmegaDesk$Automaton" (88 : Nat) ({ cls := "OmegaDesk$Passage", name := "goodEnds", desc := "(II)I" } : Jvm.MethodName)) ∈ WB := List.mem_filter.mpr ⟨List.mem_append_right _ (List.mem_of_getElem? (i := 330) rfl), rfl⟩
set_option maxRecDepth 20000 in
theorem wb_331 : (Jvm.Cond.static ({ cls := "OmegaDesk$Passage", name := "goodEnds", desc := "(II)I" } : Jvm.MethodName)) ∈ WB := List.mem_filter.mpr ⟨List.mem_append_right _ (List.mem_of_getElem? (i := 331) rfl), rfl⟩
set_option maxRecDepth 20000 in
theorem wb_332 : (Jvm.Cond.code ({ cls := "OmegaDesk$Passage", name := "goodEnds", desc := "(II)I" } : Jvm.MethodName) prog_4_method_3_code (2 : Nat) (Option.some Jvm.ClassFile.FieldType.int)) ∈ WB := List.mem_filter.mpr ⟨List.mem_append_right _ (List.mem_of_getElem? (i := 332) rfl), rfl⟩
set_option maxRecDepth 20000 in
theorem wb_333 : (Jvm.Cond.methodLink "OmegaDesk$Automaton" (74 : Nat) ({ cls := "OmegaDesk$Passage", name := "chained", desc := "(I)I" } : Jvm.MethodName)) ∈ WB := List.mem_filter.mpr ⟨List.mem_append_right _ (List.mem_of_getElem? (i := 333) rfl), rfl⟩
set_option maxRecDepth 20000 in
theorem wb_334 : (Jvm.Cond.static ({ cls := "OmegaDesk$Passage", name := "chained", desc := "(I)I" } : Jvm.MethodName)) ∈ WB := List.mem_filter.mpr ⟨List.mem_append_right _ (List.mem_of_getElem? (i := 334) rfl), rfl⟩
set_option maxRecDepth 20000 in
theorem wb_335 : (Jvm.Cond.code ({ cls := "OmegaDesk$Passage", name := "chained", desc := "(I)I" } : Jvm.MethodName) prog_4_method_5_code (4 : Nat) (Option.some Jvm.ClassFile.FieldType.int)) ∈ WB := List.mem_filter.mpr ⟨List.mem_append_right _ (List.mem_of_getElem? (i := 335) rfl), rfl⟩
set_option maxRecDepth 20000 in
theorem wb_336 : (Jvm.Cond.methodLink "OmegaDesk$Passage" (11 : Nat) ({ cls := "OmegaDesk$Passage", name := "ends", desc := "(II)I" } : Jvm.MethodName)) ∈ WB := List.mem_filter.mpr ⟨List.mem_append_right _ (List.mem_of_getElem? (i := 336) rfl), rfl⟩
set_option maxRecDepth 20000 in
theorem wb_337 : (Jvm.Cond.methodLink "OmegaDesk$Automaton" (79 : Nat) ({ cls := "OmegaDesk$Passage", name := "fromStart", desc := "(I)I" } : Jvm.MethodName)) ∈ WB := List.mem_filter.mpr ⟨List.mem_append_right _ (List.mem_of_getElem? (i := 337) rfl), rfl⟩
set_option maxRecDepth 20000 in
theorem wb_338 : (Jvm.Cond.static ({ cls := "OmegaDesk$Passage", name := "fromStart", desc := "(I)I" } : Jvm.MethodName)) ∈ WB := List.mem_filter.mpr ⟨List.mem_append_right _ (List.mem_of_getElem? (i := 338) rfl), rfl⟩
set_option maxRecDepth 20000 in
theorem wb_339 : (Jvm.Cond.code ({ cls := "OmegaDesk$Passage", name := "fromStart", desc := "(I)I" } : Jvm.MethodName) prog_4_method_4_code (1 : Nat) (Option.some Jvm.ClassFile.FieldType.int)) ∈ WB := List.mem_filter.mpr ⟨List.mem_append_right _ (List.mem_of_getElem? (i := 339) rfl), rfl⟩
set_option maxRecDepth 20000 in
theorem wb_340 : (Jvm.Cond.methodLink "OmegaDesk$Automaton" (82 : Nat) ({ cls := "OmegaDesk$Passage", name := "takenRepeated", desc := "(I)I" } : Jvm.MethodName)) ∈ WB := List.mem_filter.mpr ⟨List.mem_append_right _ (List.mem_of_getElem? (i := 340) rfl), rfl⟩
set_option maxRecDepth 20000 in
theorem wb_341 : (Jvm.Cond.static ({ cls := "OmegaDesk$Passage", name := "takenRepeated", desc := "(I)I" } : Jvm.MethodName)) ∈ WB := List.mem_filter.mpr ⟨List.mem_append_right _ (List.mem_of_getElem? (i := 341) rfl), rfl⟩
set_option maxRecDepth 20000 in
theorem wb_342 : (Jvm.Cond.code ({ cls := "OmegaDesk$Passage", name := "takenRepeated", desc := "(I)I" } : Jvm.MethodName) prog_4_method_6_code (5 : Nat) (Option.some Jvm.ClassFile.FieldType.int)) ∈ WB := List.mem_filter.mpr ⟨List.mem_append_right _ (List.mem_of_getElem? (i := 342) rfl), rfl⟩
set_option maxRecDepth 20000 in
theorem wb_343 : (Jvm.Cond.constant "OmegaDesk$Passage" (15 : Nat) (-252645136 : Int32)) ∈ WB := List.mem_filter.mpr ⟨List.mem_append_right _ (List.mem_of_getElem? (i := 343) rfl), rfl⟩
set_option maxRecDepth 20000 in
theorem wb_344 : (Jvm.Cond.methodLink "OmegaDesk$Passage" (16 : Nat) ({ cls := "OmegaDesk$Passage", name := "chained", desc := "(I)I" } : Jvm.MethodName)) ∈ WB := List.mem_filter.mpr ⟨List.mem_append_right _ (List.mem_of_getElem? (i := 344) rfl), rfl⟩
set_option maxRecDepth 20000 in
theorem wb_345 : (Jvm.Cond.methodLink "OmegaDesk$Passage" (20 : Nat) ({ cls := "OmegaDesk$Passage", name := "goodEnds", desc := "(II)I" } : Jvm.MethodName)) ∈ WB := List.mem_filter.mpr ⟨List.mem_append_right _ (List.mem_of_getElem? (i := 345) rfl), rfl⟩
set_option maxRecDepth 20000 in
theorem wb_346 : (Jvm.Cond.methodLink "OmegaDesk$Passage" (23 : Nat) ({ cls := "OmegaDesk$Passage", name := "comesBack", desc := "(III)Z" } : Jvm.MethodName)) ∈ WB := List.mem_filter.mpr ⟨List.mem_append_right _ (List.mem_of_getElem? (i := 346) rfl), rfl⟩
set_option maxRecDepth 20000 in
theorem wb_347 : (Jvm.Cond.static ({ cls := "OmegaDesk$Passage", name := "comesBack", desc := "(III)Z" } : Jvm.MethodName)) ∈ WB := List.mem_filter.mpr ⟨List.mem_append_right _ (List.mem_of_getElem? (i := 347) rfl), rfl⟩
set_option maxRecDepth 20000 in
theorem wb_348 : (Jvm.Cond.code ({ cls := "OmegaDesk$Passage", name := "comesBack", desc := "(III)Z" } : Jvm.MethodName) prog_4_method_7_code (4 : Nat) (Option.some Jvm.ClassFile.FieldType.boolean)) ∈ WB := List.mem_filter.mpr ⟨List.mem_append_right _ (List.mem_of_getElem? (i := 348) rfl), rfl⟩
set_option maxRecDepth 20000 in
theorem wb_349 : (Jvm.Cond.methodLink "OmegaDesk" (86 : Nat) ({ cls := "OmegaDesk$Automaton", name := "becomePart", desc := "(LOmegaDesk$Automaton;I)V" } : Jvm.MethodName)) ∈ WB := List.mem_filter.mpr ⟨List.mem_append_right _ (List.mem_of_getElem? (i := 349) rfl), rfl⟩
set_option maxRecDepth 20000 in
theorem wb_350 : (Jvm.Cond.instanceMethod ({ cls := "OmegaDesk$Automaton", name := "becomePart", desc := "(LOmegaDesk$Automaton;I)V" } : Jvm.MethodName)) ∈ WB := List.mem_filter.mpr ⟨List.mem_append_right _ (List.mem_of_getElem? (i := 350) rfl), rfl⟩
set_option maxRecDepth 20000 in
theorem wb_351 : (Jvm.Cond.selects "OmegaDesk$Automaton" ({ cls := "OmegaDesk$Automaton", name := "becomePart", desc := "(LOmegaDesk$Automaton;I)V" } : Jvm.MethodName) ({ cls := "OmegaDesk$Automaton", name := "becomePart", desc := "(LOmegaDesk$Automaton;I)V" } : Jvm.MethodName)) ∈ WB := List.mem_filter.mpr ⟨List.mem_append_right _ (List.mem_of_getElem? (i := 351) rfl), rfl⟩
set_option maxRecDepth 20000 in
theorem wb_352 : (Jvm.Cond.code ({ cls := "OmegaDesk$Automaton", name := "becomePart", desc := "(LOmegaDesk$Automaton;I)V" } : Jvm.MethodName) prog_2_method_12_code (6 : Nat) (Option.none : Option Jvm.ClassFile.FieldType)) ∈ WB := List.mem_filter.mpr ⟨List.mem_append_right _ (List.mem_of_getElem? (i := 352) rfl), rfl⟩
set_option maxRecDepth 20000 in
theorem wb_353 : (Jvm.Cond.methodLink "OmegaDesk$Automaton" (53 : Nat) ({ cls := "OmegaDesk$Automaton", name := "wipe", desc := "()V" } : Jvm.MethodName)) ∈ WB := List.mem_filter.mpr ⟨List.mem_append_right _ (List.mem_of_getElem? (i := 353) rfl), rfl⟩
set_option maxRecDepth 20000 in
theorem wb_354 : (Jvm.Cond.methodLink "OmegaDesk$Automaton" (56 : Nat) ({ cls := "OmegaDesk$Automaton", name := "placeAmong", desc := "(II)I" } : Jvm.MethodName)) ∈ WB := List.mem_filter.mpr ⟨List.mem_append_right _ (List.mem_of_getElem? (i := 354) rfl), rfl⟩
set_option maxRecDepth 20000 in
theorem wb_355 : (Jvm.Cond.static ({ cls := "OmegaDesk$Automaton", name := "placeAmong", desc := "(II)I" } : Jvm.MethodName)) ∈ WB := List.mem_filter.mpr ⟨List.mem_append_right _ (List.mem_of_getElem? (i := 355) rfl), rfl⟩
set_option maxRecDepth 20000 in
theorem wb_356 : (Jvm.Cond.code ({ cls := "OmegaDesk$Automaton", name := "placeAmong", desc := "(II)I" } : Jvm.MethodName) prog_2_method_14_code (2 : Nat) (Option.some Jvm.ClassFile.FieldType.int)) ∈ WB := List.mem_filter.mpr ⟨List.mem_append_right _ (List.mem_of_getElem? (i := 356) rfl), rfl⟩
set_option maxRecDepth 20000 in
theorem wb_357 : (Jvm.Cond.methodLink "OmegaDesk$Automaton" (62 : Nat) ({ cls := "java/lang/Integer", name := "bitCount", desc := "(I)I" } : Jvm.MethodName)) ∈ WB := List.mem_filter.mpr ⟨List.mem_append_right _ (List.mem_of_getElem? (i := 357) rfl), rfl⟩
set_option maxRecDepth 20000 in
theorem wb_358 : (Jvm.Cond.static ({ cls := "java/lang/Integer", name := "bitCount", desc := "(I)I" } : Jvm.MethodName)) ∈ WB := List.mem_filter.mpr ⟨List.mem_append_right _ (List.mem_of_getElem? (i := 358) rfl), rfl⟩
set_option maxRecDepth 20000 in
theorem wb_359 : (Jvm.Cond.code ({ cls := "java/lang/Integer", name := "bitCount", desc := "(I)I" } : Jvm.MethodName) prog_12_method_49_code (1 : Nat) (Option.some Jvm.ClassFile.FieldType.int)) ∈ WB := List.mem_filter.mpr ⟨List.mem_append_right _ (List.mem_of_getElem? (i := 359) rfl), rfl⟩
set_option maxRecDepth 20000 in
theorem wb_360 : (Jvm.Cond.constant "java/lang/Integer" (265 : Nat) (1431655765 : Int32)) ∈ WB := List.mem_filter.mpr ⟨List.mem_append_right _ (List.mem_of_getElem? (i := 360) rfl), rfl⟩
set_option maxRecDepth 20000 in
theorem wb_361 : (Jvm.Cond.constant "java/lang/Integer" (266 : Nat) (858993459 : Int32)) ∈ WB := List.mem_filter.mpr ⟨List.mem_append_right _ (List.mem_of_getElem? (i := 361) rfl), rfl⟩
set_option maxRecDepth 20000 in
theorem wb_362 : (Jvm.Cond.constant "java/lang/Integer" (267 : Nat) (252645135 : Int32)) ∈ WB := List.mem_filter.mpr ⟨List.mem_append_right _ (List.mem_of_getElem? (i := 362) rfl), rfl⟩
set_option maxRecDepth 20000 in
theorem wb_363 : (Jvm.Cond.methodLink "OmegaDesk$Automaton" (59 : Nat) ({ cls := "OmegaDesk$Automaton", name := "packed", desc := "(II)I" } : Jvm.MethodName)) ∈ WB := List.mem_filter.mpr ⟨List.mem_append_right _ (List.mem_of_getElem? (i := 363) rfl), rfl⟩
set_option maxRecDepth 20000 in
theorem wb_364 : (Jvm.Cond.static ({ cls := "OmegaDesk$Automaton", name := "packed", desc := "(II)I" } : Jvm.MethodName)) ∈ WB := List.mem_filter.mpr ⟨List.mem_append_right _ (List.mem_of_getElem? (i := 364) rfl), rfl⟩
set_option maxRecDepth 20000 in
theorem wb_365 : (Jvm.Cond.code ({ cls := "OmegaDesk$Automaton", name := "packed", desc := "(II)I" } : Jvm.MethodName) prog_2_method_13_code (4 : Nat) (Option.some Jvm.ClassFile.FieldType.int)) ∈ WB := List.mem_filter.mpr ⟨List.mem_append_right _ (List.mem_of_getElem? (i := 365) rfl), rfl⟩
set_option maxRecDepth 20000 in
theorem wb_366 : (Jvm.Cond.methodLink "OmegaDeskLaw" (89 : Nat) ({ cls := "OmegaDeskLaw", name := "empty", desc := "(LOmegaDesk;I[J)I" } : Jvm.MethodName)) ∈ WB := List.mem_filter.mpr ⟨List.mem_append_right _ (List.mem_of_getElem? (i := 366) rfl), rfl⟩
set_option maxRecDepth 20000 in
theorem wb_367 : (Jvm.Cond.static ({ cls := "OmegaDeskLaw", name := "empty", desc := "(LOmegaDesk;I[J)I" } : Jvm.MethodName)) ∈ WB := List.mem_filter.mpr ⟨List.mem_append_right _ (List.mem_of_getElem? (i := 367) rfl), rfl⟩
set_option maxRecDepth 20000 in
theorem wb_368 : (Jvm.Cond.codeWith ({ cls := "OmegaDeskLaw", name := "empty", desc := "(LOmegaDesk;I[J)I" } : Jvm.MethodName) method_8_code (4 : Nat) (Option.some Jvm.ClassFile.FieldType.int) [((0 : Nat), (16 : Nat), (19 : Nat), (13 : Nat))]) ∈ WB := List.mem_filter.mpr ⟨List.mem_append_right _ (List.mem_of_getElem? (i := 368) rfl), rfl⟩
set_option maxRecDepth 20000 in
theorem wb_369 : (Jvm.Cond.methodLink "OmegaDeskLaw" (33 : Nat) ({ cls := "OmegaDesk", name := "empty", desc := "(I)Z" } : Jvm.MethodName)) ∈ WB := List.mem_filter.mpr ⟨List.mem_append_right _ (List.mem_of_getElem? (i := 369) rfl), rfl⟩
set_option maxRecDepth 20000 in
theorem wb_370 : (Jvm.Cond.instanceMethod ({ cls := "OmegaDesk", name := "empty", desc := "(I)Z" } : Jvm.MethodName)) ∈ WB := List.mem_filter.mpr ⟨List.mem_append_right _ (List.mem_of_getElem? (i := 370) rfl), rfl⟩
set_option maxRecDepth 20000 in
theorem wb_371 : (Jvm.Cond.selects "OmegaDesk" ({ cls := "OmegaDesk", name := "empty", desc := "(I)Z" } : Jvm.MethodName) ({ cls := "OmegaDesk", name := "empty", desc := "(I)Z" } : Jvm.MethodName)) ∈ WB := List.mem_filter.mpr ⟨List.mem_append_right _ (List.mem_of_getElem? (i := 371) rfl), rfl⟩
set_option maxRecDepth 20000 in
theorem wb_372 : (Jvm.Cond.code ({ cls := "OmegaDesk", name := "empty", desc := "(I)Z" } : Jvm.MethodName) prog_1_method_7_code (2 : Nat) (Option.some Jvm.ClassFile.FieldType.boolean)) ∈ WB := List.mem_filter.mpr ⟨List.mem_append_right _ (List.mem_of_getElem? (i := 372) rfl), rfl⟩
set_option maxRecDepth 20000 in
theorem wb_373 : (Jvm.Cond.methodLink "OmegaDeskLaw" (92 : Nat) ({ cls := "OmegaDeskLaw", name := "takes", desc := "(LOmegaDesk;IIIII[J)I" } : Jvm.MethodName)) ∈ WB := List.mem_filter.mpr ⟨List.mem_append_right _ (List.mem_of_getElem? (i := 373) rfl), rfl⟩
set_option maxRecDepth 20000 in
theorem wb_374 : (Jvm.Cond.static ({ cls := "OmegaDeskLaw", name := "takes", desc := "(LOmegaDesk;IIIII[J)I" } : Jvm.MethodName)) ∈ WB := List.mem_filter.mpr ⟨List.mem_append_right _ (List.mem_of_getElem? (i := 374) rfl), rfl⟩
set_option maxRecDepth 20000 in
theorem wb_375 : (Jvm.Cond.codeWith ({ cls := "OmegaDeskLaw", name := "takes", desc := "(LOmegaDesk;IIIII[J)I" } : Jvm.MethodName) method_9_code (8 : Nat) (Option.some Jvm.ClassFile.FieldType.int) [((0 : Nat), (23 : Nat), (26 : Nat), (13 : Nat))]) ∈ WB := List.mem_filter.mpr ⟨List.mem_append_right _ (List.mem_of_getElem? (i := 375) rfl), rfl⟩
set_option maxRecDepth 20000 in
theorem wb_376 : (Jvm.Cond.methodLink "OmegaDeskLaw" (37 : Nat) ({ cls := "OmegaDesk", name := "takes", desc := "(IIIII)Z" } : Jvm.MethodName)) ∈ WB := List.mem_filter.mpr ⟨List.mem_append_right _ (List.mem_of_getElem? (i := 376) rfl), rfl⟩
set_option maxRecDepth 20000 in
theorem wb_377 : (Jvm.Cond.instanceMethod ({ cls := "OmegaDesk", name := "takes", desc := "(IIIII)Z" } : Jvm.MethodName)) ∈ WB := List.mem_filter.mpr ⟨List.mem_append_right _ (List.mem_of_getElem? (i := 377) rfl), rfl⟩
set_option maxRecDepth 20000 in
theorem wb_378 : (Jvm.Cond.selects "OmegaDesk" ({ cls := "OmegaDesk", name := "takes", desc := "(IIIII)Z" } : Jvm.MethodName) ({ cls := "OmegaDesk", name := "takes", desc := "(IIIII)Z" } : Jvm.MethodName)) ∈ WB := List.mem_filter.mpr ⟨List.mem_append_right _ (List.mem_of_getElem? (i := 378) rfl), rfl⟩
set_option maxRecDepth 20000 in
theorem wb_379 : (Jvm.Cond.code ({ cls := "OmegaDesk", name := "takes", desc := "(IIIII)Z" } : Jvm.MethodName) prog_1_method_8_code (9 : Nat) (Option.some Jvm.ClassFile.FieldType.boolean)) ∈ WB := List.mem_filter.mpr ⟨List.mem_append_right _ (List.mem_of_getElem? (i := 379) rfl), rfl⟩
set_option maxRecDepth 20000 in
theorem wb_381 : (Jvm.Cond.methodLink "OmegaDesk" (92 : Nat) ({ cls := "OmegaDesk", name := "isWord", desc := "(II)Z" } : Jvm.MethodName)) ∈ WB := List.mem_filter.mpr ⟨List.mem_append_right _ (List.mem_of_getElem? (i := 381) rfl), rfl⟩
set_option maxRecDepth 20000 in
theorem wb_382 : (Jvm.Cond.static ({ cls := "OmegaDesk", name := "isWord", desc := "(II)Z" } : Jvm.MethodName)) ∈ WB := List.mem_filter.mpr ⟨List.mem_append_right _ (List.mem_of_getElem? (i := 382) rfl), rfl⟩
set_option maxRecDepth 20000 in
theorem wb_383 : (Jvm.Cond.code ({ cls := "OmegaDesk", name := "isWord", desc := "(II)Z" } : Jvm.MethodName) prog_1_method_16_code (2 : Nat) (Option.some Jvm.ClassFile.FieldType.boolean)) ∈ WB := List.mem_filter.mpr ⟨List.mem_append_right _ (List.mem_of_getElem? (i := 383) rfl), rfl⟩
set_option maxRecDepth 20000 in
theorem wb_385 : (Jvm.Cond.methodLink "OmegaDesk" (98 : Nat) ({ cls := "OmegaDesk$Automaton", name := "passageOf", desc := "(II)I" } : Jvm.MethodName)) ∈ WB := List.mem_filter.mpr ⟨List.mem_append_right _ (List.mem_of_getElem? (i := 385) rfl), rfl⟩
set_option maxRecDepth 20000 in
theorem wb_386 : (Jvm.Cond.instanceMethod ({ cls := "OmegaDesk$Automaton", name := "passageOf", desc := "(II)I" } : Jvm.MethodName)) ∈ WB := List.mem_filter.mpr ⟨List.mem_append_right _ (List.mem_of_getElem? (i := 386) rfl), rfl⟩
set_option maxRecDepth 20000 in
theorem wb_387 : (Jvm.Cond.selects "OmegaDesk$Automaton" ({ cls := "OmegaDesk$Automaton", name := "passageOf", desc := "(II)I" } : Jvm.MethodName) ({ cls := "OmegaDesk$Automaton", name := "passageOf", desc := "(II)I" } : Jvm.MethodName)) ∈ WB := List.mem_filter.mpr ⟨List.mem_append_right _ (List.mem_of_getElem? (i := 387) rfl), rfl⟩
set_option maxRecDepth 20000 in
theorem wb_388 : (Jvm.Cond.code ({ cls := "OmegaDesk$Automaton", name := "passageOf", desc := "(II)I" } : Jvm.MethodName) prog_2_method_18_code (5 : Nat) (Option.some Jvm.ClassFile.FieldType.int)) ∈ WB := List.mem_filter.mpr ⟨List.mem_append_right _ (List.mem_of_getElem? (i := 388) rfl), rfl⟩
set_option maxRecDepth 20000 in
theorem wb_389 : (Jvm.Cond.methodLink "OmegaDesk" (102 : Nat) ({ cls := "OmegaDesk$Passage", name := "fromStart", desc := "(I)I" } : Jvm.MethodName)) ∈ WB := List.mem_filter.mpr ⟨List.mem_append_right _ (List.mem_of_getElem? (i := 389) rfl), rfl⟩
set_option maxRecDepth 20000 in
theorem wb_390 : (Jvm.Cond.methodLink "OmegaDesk" (108 : Nat) ({ cls := "OmegaDesk$Passage", name := "takenRepeated", desc := "(I)I" } : Jvm.MethodName)) ∈ WB := List.mem_filter.mpr ⟨List.mem_append_right _ (List.mem_of_getElem? (i := 390) rfl), rfl⟩
set_option maxRecDepth 20000 in
theorem wb_391 : (Jvm.Cond.methodLink "OmegaDeskLaw" (96 : Nat) ({ cls := "OmegaDeskLaw", name := "included", desc := "(LOmegaDesk;II[J)I" } : Jvm.MethodName)) ∈ WB := List.mem_filter.mpr ⟨List.mem_append_right _ (List.mem_of_getElem? (i := 391) rfl), rfl⟩
set_option maxRecDepth 20000 in
theorem wb_392 : (Jvm.Cond.static ({ cls := "OmegaDeskLaw", name := "included", desc := "(LOmegaDesk;II[J)I" } : Jvm.MethodName)) ∈ WB := List.mem_filter.mpr ⟨List.mem_append_right _ (List.mem_of_getElem? (i := 392) rfl), rfl⟩
set_option maxRecDepth 20000 in
theorem wb_393 : (Jvm.Cond.codeWith ({ cls := "OmegaDeskLaw", name := "included", desc := "(LOmegaDesk;II[J)I" } : Jvm.MethodName) method_10_code (5 : Nat) (Option.some Jvm.ClassFile.FieldType.int) [((0 : Nat), (17 : Nat), (20 : Nat), (13 : Nat)), ((0 : Nat), (17 : Nat), (24 : Nat), (15 : Nat))]) ∈ WB := List.mem_filter.mpr ⟨List.mem_append_right _ (List.mem_of_getElem? (i := 393) rfl), rfl⟩
set_option maxRecDepth 20000 in
theorem wb_394 : (Jvm.Cond.methodLink "OmegaDeskLaw" (41 : Nat) ({ cls := "OmegaDesk", name := "included", desc := "(II)Z" } : Jvm.MethodName)) ∈ WB := List.mem_filter.mpr ⟨List.mem_append_right _ (List.mem_of_getElem? (i := 394) rfl), rfl⟩
set_option maxRecDepth 20000 in
theorem wb_395 : (Jvm.Cond.instanceMethod ({ cls := "OmegaDesk", name := "included", desc := "(II)Z" } : Jvm.MethodName)) ∈ WB := List.mem_filter.mpr ⟨List.mem_append_right _ (List.mem_of_getElem? (i := 395) rfl), rfl⟩
set_option maxRecDepth 20000 in
theorem wb_396 : (Jvm.Cond.selects "OmegaDesk" ({ cls := "OmegaDesk", name := "included", desc := "(II)Z" } : Jvm.MethodName) ({ cls := "OmegaDesk", name := "included", desc := "(II)Z" } : Jvm.MethodName)) ∈ WB := List.mem_filter.mpr ⟨List.mem_append_right _ (List.mem_of_getElem? (i := 396) rfl), rfl⟩
set_option maxRecDepth 20000 in
theorem wb_397 : (Jvm.Cond.code ({ cls := "OmegaDesk", name := "included", desc := "(II)Z" } : Jvm.MethodName) prog_1_method_9_code (5 : Nat) (Option.some Jvm.ClassFile.FieldType.boolean)) ∈ WB := List.mem_filter.mpr ⟨List.mem_append_right _ (List.mem_of_getElem? (i := 397) rfl), rfl⟩
set_option maxRecDepth 20000 in
theorem wb_399 : (Jvm.Cond.methodLink "OmegaDesk" (113 : Nat) ({ cls := "OmegaDesk$Refuter", name := "refutes", desc := "(LOmegaDesk$Automaton;LOmegaDesk$Automaton;)Z" } : Jvm.MethodName)) ∈ WB := List.mem_filter.mpr ⟨List.mem_append_right _ (List.mem_of_getElem? (i := 399) rfl), rfl⟩
set_option maxRecDepth 20000 in
theorem wb_400 : (Jvm.Cond.instanceMethod ({ cls := "OmegaDesk$Refuter", name := "refutes", desc := "(LOmegaDesk$Automaton;LOmegaDesk$Automaton;)Z" } : Jvm.MethodName)) ∈ WB := List.mem_filter.mpr ⟨List.mem_append_right _ (List.mem_of_getElem? (i := 400) rfl), rfl⟩
set_option maxRecDepth 20000 in
theorem wb_401 : (Jvm.Cond.selects "OmegaDesk$Refuter" ({ cls := "OmegaDesk$Refuter", name := "refutes", desc := "(LOmegaDesk$Automaton;LOmegaDesk$Automaton;)Z" } : Jvm.MethodName) ({ cls := "OmegaDesk$Refuter", name := "refutes", desc := "(LOmegaDesk$Automaton;LOmegaDesk$Automaton;)Z" } : Jvm.MethodName)) ∈ WB := List.mem_filter.mpr ⟨List.mem_append_right _ (List.mem_of_getElem? (i := 401) rfl), rfl⟩
set_option maxRecDepth 20000 in
theorem wb_402 : (Jvm.Cond.code ({ cls := "OmegaDesk$Refuter", name := "refutes", desc := "(LOmegaDesk$Automaton;LOmegaDesk$Automaton;)Z" } : Jvm.MethodName) prog_5_method_2_code (11 : Nat) (Option.some Jvm.ClassFile.FieldType.boolean)) ∈ WB := List.mem_filter.mpr ⟨List.mem_append_right _ (List.mem_of_getElem? (i := 402) rfl), rfl⟩
set_option maxRecDepth 20000 in
theorem wb_403 : (Jvm.Cond.methodLink "OmegaDesk$Refuter" (34 : Nat) ({ cls := "OmegaDesk$Automaton", name := "usefulStates", desc := "()I" } : Jvm.MethodName)) ∈ WB := List.mem_filter.mpr ⟨List.mem_append_right _ (List.mem_of_getElem? (i := 403) rfl), rfl⟩
set_option maxRecDepth 20000 in
theorem wb_404 : (Jvm.Cond.methodLink "OmegaDesk$Refuter" (43 : Nat) ({ cls := "OmegaDesk$Refuter", name := "reset", desc := "()V" } : Jvm.MethodName)) ∈ WB := List.mem_filter.mpr ⟨List.mem_append_right _ (List.mem_of_getElem? (i := 404) rfl), rfl⟩
set_option maxRecDepth 20000 in
theorem wb_406 : (Jvm.Cond.instanceMethod ({ cls := "OmegaDesk$Refuter", name := "reset", desc := "()V" } : Jvm.MethodName)) ∈ WB := List.mem_filter.mpr ⟨List.mem_append_right _ (List.mem_of_getElem? (i := 406) rfl), rfl⟩
set_option maxRecDepth 20000 in
theorem wb_407 : (Jvm.Cond.code ({ cls := "OmegaDesk$Refuter", name := "reset", desc := "()V" } : Jvm.MethodName) prog_5_method_3_code (1 : Nat) (Option.none : Option Jvm.ClassFile.FieldType)) ∈ WB := List.mem_filter.mpr ⟨List.mem_append_right _ (List.mem_of_getElem? (i := 407) rfl), rfl⟩
set_option maxRecDepth 20000 in
theorem wb_408 : (Jvm.Cond.methodLink "OmegaDesk$Refuter" (69 : Nat) ({ cls := "java/util/Arrays", name := "fill", desc := "([II)V" } : Jvm.MethodName)) ∈ WB := List.mem_filter.mpr ⟨List.mem_append_right _ (List.mem_of_getElem? (i := 408) rfl), rfl⟩
set_option maxRecDepth 20000 in
theorem wb_409 : (Jvm.Cond.methodLink "OmegaDesk$Refuter" (46 : Nat) ({ cls := "OmegaDesk$Refuter", name := "findMeetings", desc := "(LOmegaDesk$Automaton;LOmegaDesk$Automaton;)V" } : Jvm.MethodName)) ∈ WB := List.mem_filter.mpr ⟨List.mem_append_right _ (List.mem_of_getElem? (i := 409) rfl), rfl⟩
set_option maxRecDepth 20000 in
theorem wb_411 : (Jvm.Cond.instanceMethod ({ cls := "OmegaDesk$Refuter", name := "findMeetings", desc := "(LOmegaDesk$Automaton;LOmegaDesk$Automaton;)V" } : Jvm.MethodName)) ∈ WB := List.mem_filter.mpr ⟨List.mem_append_right _ (List.mem_of_getElem? (i := 411) rfl), rfl⟩
set_option maxRecDepth 20000 in
theorem wb_412 : (Jvm.Cond.code ({ cls := "OmegaDesk$Refuter", name := "findMeetings", desc := "(LOmegaDesk$Automaton;LOmegaDesk$Automaton;)V" } : Jvm.MethodName) prog_5_method_4_code (8 : Nat) (Option.none : Option Jvm.ClassFile.FieldType)) ∈ WB := List.mem_filter.mpr ⟨List.mem_append_right _ (List.mem_of_getElem? (i := 412) rfl), rfl⟩
set_option maxRecDepth 20000 in
theorem wb_413 : (Jvm.Cond.methodLink "OmegaDesk$Refuter" (78 : Nat) ({ cls := "OmegaDesk$Refuter", name := "spreadMeeting", desc := "(LOmegaDesk$Automaton;LOmegaDesk$Automaton;II)Z" } : Jvm.MethodName)) ∈ WB := List.mem_filter.mpr ⟨List.mem_append_right _ (List.mem_of_getElem? (i := 413) rfl), rfl⟩
set_option maxRecDepth 20000 in
theorem wb_415 : (Jvm.Cond.instanceMethod ({ cls := "OmegaDesk$Refuter", name := "spreadMeeting", desc := "(LOmegaDesk$Automaton;LOmegaDesk$Automaton;II)Z" } : Jvm.MethodName)) ∈ WB := List.mem_filter.mpr ⟨List.mem_append_right _ (List.mem_of_getElem? (i := 415) rfl), rfl⟩
set_option maxRecDepth 20000 in
theorem wb_416 : (Jvm.Cond.code ({ cls := "OmegaDesk$Refuter", name := "spreadMeeting", desc := "(LOmegaDesk$Automaton;LOmegaDesk$Automaton;II)Z" } : Jvm.MethodName) prog_5_method_5_code (10 : Nat) (Option.some Jvm.ClassFile.FieldType.boolean)) ∈ WB := List.mem_filter.mpr ⟨List.mem_append_right _ (List.mem_of_getElem? (i := 416) rfl), rfl⟩
set_option maxRecDepth 20000 in
theorem wb_417 : (Jvm.Cond.methodLink "OmegaDesk$Refuter" (82 : Nat) ({ cls := "OmegaDesk$Automaton", name := "followersOf", desc := "(II)I" } : Jvm.MethodName)) ∈ WB := List.mem_filter.mpr ⟨List.mem_append_right _ (List.mem_of_getElem? (i := 417) rfl), rfl⟩
set_option maxRecDepth 20000 in
theorem wb_418 : (Jvm.Cond.methodLink "OmegaDesk$Refuter" (50 : Nat) ({ cls := "OmegaDesk$Automaton", name := "emptyPassage", desc := "(I)I" } : Jvm.MethodName)) ∈ WB := List.mem_filter.mpr ⟨List.mem_append_right _ (List.mem_of_getElem? (i := 418) rfl), rfl⟩
set_option maxRecDepth 20000 in
theorem wb_419 : (Jvm.Cond.methodLink "OmegaDesk$Refuter" (54 : Nat) ({ cls := "OmegaDesk$Refuter", name := "offer", desc := "(II)I" } : Jvm.MethodName)) ∈ WB := List.mem_filter.mpr ⟨List.mem_append_right _ (List.mem_of_getElem? (i := 419) rfl), rfl⟩
set_option maxRecDepth 20000 in
theorem wb_421 : (Jvm.Cond.instanceMethod ({ cls := "OmegaDesk$Refuter", name := "offer", desc := "(II)I" } : Jvm.MethodName)) ∈ WB := List.mem_filter.mpr ⟨List.mem_append_right _ (List.mem_of_getElem? (i := 421) rfl), rfl⟩
set_option maxRecDepth 20000 in
theorem wb_422 : (Jvm.Cond.code ({ cls := "OmegaDesk$Refuter", name := "offer", desc := "(II)I" } : Jvm.MethodName) prog_5_method_6_code (5 : Nat) (Option.some Jvm.ClassFile.FieldType.int)) ∈ WB := List.mem_filter.mpr ⟨List.mem_append_right _ (List.mem_of_getElem? (i := 422) rfl), rfl⟩
set_option maxRecDepth 20000 in
theorem wb_423 : (Jvm.Cond.methodLink "OmegaDesk$Refuter" (85 : Nat) ({ cls := "OmegaDesk$Refuter", name := "slotOf", desc := "(I)I" } : Jvm.MethodName)) ∈ WB := List.mem_filter.mpr ⟨List.mem_append_right _ (List.mem_of_getElem? (i := 423) rfl), rfl⟩
set_option maxRecDepth 20000 in
theorem wb_425 : (Jvm.Cond.instanceMethod ({ cls := "OmegaDesk$Refuter", name := "slotOf", desc := "(I)I" } : Jvm.MethodName)) ∈ WB := List.mem_filter.mpr ⟨List.mem_append_right _ (List.mem_of_getElem? (i := 425) rfl), rfl⟩
set_option maxRecDepth 20000 in
theorem wb_426 : (Jvm.Cond.code ({ cls := "OmegaDesk$Refuter", name := "slotOf", desc := "(I)I" } : Jvm.MethodName) prog_5_method_7_code (4 : Nat) (Option.some Jvm.ClassFile.FieldType.int)) ∈ WB := List.mem_filter.mpr ⟨List.mem_append_right _ (List.mem_of_getElem? (i := 426) rfl), rfl⟩
set_option maxRecDepth 20000 in
theorem wb_427 : (Jvm.Cond.constant "OmegaDesk$Refuter" (92 : Nat) (-1640531535 : Int32)) ∈ WB := List.mem_filter.mpr ⟨List.mem_append_right _ (List.mem_of_getElem? (i := 427) rfl), rfl⟩
set_option maxRecDepth 20000 in
theorem wb_428 : (Jvm.Cond.methodLink "OmegaDesk$Refuter" (88 : Nat) ({ cls := "OmegaDesk$Refuter", name := "enqueue", desc := "(I)V" } : Jvm.MethodName)) ∈ WB := List.mem_filter.mpr ⟨List.mem_append_right _ (List.mem_of_getElem? (i := 428) rfl), rfl⟩
set_option maxRecDepth 20000 in
theorem wb_430 : (Jvm.Cond.instanceMethod ({ cls := "OmegaDesk$Refuter", name := "enqueue", desc := "(I)V" } : Jvm.MethodName)) ∈ WB := List.mem_filter.mpr ⟨List.mem_append_right _ (List.mem_of_getElem? (i := 430) rfl), rfl⟩
set_option maxRecDepth 20000 in
theorem wb_431 : (Jvm.Cond.code ({ cls := "OmegaDesk$Refuter", name := "enqueue", desc := "(I)V" } : Jvm.MethodName) prog_5_method_8_code (2 : Nat) (Option.none : Option Jvm.ClassFile.FieldType)) ∈ WB := List.mem_filter.mpr ⟨List.mem_append_right _ (List.mem_of_getElem? (i := 431) rfl), rfl⟩
set_option maxRecDepth 20000 in
theorem wb_432 : (Jvm.Cond.constant "OmegaDesk$Refuter" (58 : Nat) (32768 : Int32)) ∈ WB := List.mem_filter.mpr ⟨List.mem_append_right _ (List.mem_of_getElem? (i := 432) rfl), rfl⟩
set_option maxRecDepth 20000 in
theorem wb_433 : (Jvm.Cond.methodLink "OmegaDesk$Refuter" (59 : Nat) ({ cls := "OmegaDesk$Refuter", name := "nextQueued", desc := "()I" } : Jvm.MethodName)) ∈ WB := List.mem_filter.mpr ⟨List.mem_append_right _ (List.mem_of_getElem? (i := 433) rfl), rfl⟩
set_option maxRecDepth 20000 in
theorem wb_435 : (Jvm.Cond.instanceMethod ({ cls := "OmegaDesk$Refuter", name := "nextQueued", desc := "()I" } : Jvm.MethodName)) ∈ WB := List.mem_filter.mpr ⟨List.mem_append_right _ (List.mem_of_getElem? (i := 435) rfl), rfl⟩
set_option maxRecDepth 20000 in
theorem wb_436 : (Jvm.Cond.code ({ cls := "OmegaDesk$Refuter", name := "nextQueued", desc := "()I" } : Jvm.MethodName) prog_5_method_9_code (2 : Nat) (Option.some Jvm.ClassFile.FieldType.int)) ∈ WB := List.mem_filter.mpr ⟨List.mem_append_right _ (List.mem_of_getElem? (i := 436) rfl), rfl⟩
set_option maxRecDepth 20000 in
theorem wb_437 : (Jvm.Cond.methodLink "OmegaDesk$Refuter" (62 : Nat) ({ cls := "OmegaDesk$Automaton", name := "longerPassage", desc := "(II)I" } : Jvm.MethodName)) ∈ WB := List.mem_filter.mpr ⟨List.mem_append_right _ (List.mem_of_getElem? (i := 437) rfl), rfl⟩
set_option maxRecDepth 20000 in
theorem wb_438 : (Jvm.Cond.methodLink "OmegaDesk$Refuter" (65 : Nat) ({ cls := "OmegaDesk$Refuter", name := "refutesWith", desc := "(II)Z" } : Jvm.MethodName)) ∈ WB := List.mem_filter.mpr ⟨List.mem_append_right _ (List.mem_of_getElem? (i := 438) rfl), rfl⟩
set_option maxRecDepth 20000 in
theorem wb_440 : (Jvm.Cond.instanceMethod ({ cls := "OmegaDesk$Refuter", name := "refutesWith", desc := "(II)Z" } : Jvm.MethodName)) ∈ WB := List.mem_filter.mpr ⟨List.mem_append_right _ (List.mem_of_getElem? (i := 440) rfl), rfl⟩
set_option maxRecDepth 20000 in
theorem wb_441 : (Jvm.Cond.code ({ cls := "OmegaDesk$Refuter", name := "refutesWith", desc := "(II)Z" } : Jvm.MethodName) prog_5_method_10_code (6 : Nat) (Option.some Jvm.ClassFile.FieldType.boolean)) ∈ WB := List.mem_filter.mpr ⟨List.mem_append_right _ (List.mem_of_getElem? (i := 441) rfl), rfl⟩
set_option maxRecDepth 20000 in
theorem wb_442 : (Jvm.Cond.methodLink "OmegaDesk$Refuter" (93 : Nat) ({ cls := "OmegaDesk$Passage", name := "goodEnds", desc := "(II)I" } : Jvm.MethodName)) ∈ WB := List.mem_filter.mpr ⟨List.mem_append_right _ (List.mem_of_getElem? (i := 442) rfl), rfl⟩
set_option maxRecDepth 20000 in
theorem wb_443 : (Jvm.Cond.methodLink "OmegaDesk$Refuter" (98 : Nat) ({ cls := "OmegaDesk$Passage", name := "takenRepeated", desc := "(I)I" } : Jvm.MethodName)) ∈ WB := List.mem_filter.mpr ⟨List.mem_append_right _ (List.mem_of_getElem? (i := 443) rfl), rfl⟩
set_option maxRecDepth 20000 in
theorem wb_444 : (Jvm.Cond.methodLink "OmegaDesk" (117 : Nat) ({ cls := "OmegaDesk$LassoFinder", name := "forget", desc := "()V" } : Jvm.MethodName)) ∈ WB := List.mem_filter.mpr ⟨List.mem_append_right _ (List.mem_of_getElem? (i := 444) rfl), rfl⟩
set_option maxRecDepth 20000 in
theorem wb_445 : (Jvm.Cond.instanceMethod ({ cls := "OmegaDesk$LassoFinder", name := "forget", desc := "()V" } : Jvm.MethodName)) ∈ WB := List.mem_filter.mpr ⟨List.mem_append_right _ (List.mem_of_getElem? (i := 445) rfl), rfl⟩
set_option maxRecDepth 20000 in
theorem wb_446 : (Jvm.Cond.selects "OmegaDesk$LassoFinder" ({ cls := "OmegaDesk$LassoFinder", name := "forget", desc := "()V" } : Jvm.MethodName) ({ cls := "OmegaDesk$LassoFinder", name := "forget", desc := "()V" } : Jvm.MethodName)) ∈ WB := List.mem_filter.mpr ⟨List.mem_append_right _ (List.mem_of_getElem? (i := 446) rfl), rfl⟩
set_option maxRecDepth 20000 in
theorem wb_447 : (Jvm.Cond.code ({ cls := "OmegaDesk$LassoFinder", name := "forget", desc := "()V" } : Jvm.MethodName) prog_3_method_2_code (1 : Nat) (Option.none : Option Jvm.ClassFile.FieldType)) ∈ WB := List.mem_filter.mpr ⟨List.mem_append_right _ (List.mem_of_getElem? (i := 447) rfl), rfl⟩
set_option maxRecDepth 20000 in
theorem wb_448 : (Jvm.Cond.methodLink "OmegaDesk" (120 : Nat) ({ cls := "OmegaDesk$LassoFinder", name := "search", desc := "(LOmegaDesk$Automaton;LOmegaDesk$Automaton;)V" } : Jvm.MethodName)) ∈ WB := List.mem_filter.mpr ⟨List.mem_append_right _ (List.mem_of_getElem? (i := 448) rfl), rfl⟩
set_option maxRecDepth 20000 in
theorem wb_449 : (Jvm.Cond.instanceMethod ({ cls := "OmegaDesk$LassoFinder", name := "search", desc := "(LOmegaDesk$Automaton;LOmegaDesk$Automaton;)V" } : Jvm.MethodName)) ∈ WB := List.mem_filter.mpr ⟨List.mem_append_right _ (List.mem_of_getElem? (i := 449) rfl), rfl⟩
set_option maxRecDepth 20000 in
theorem wb_450 : (Jvm.Cond.selects "OmegaDesk$LassoFinder" ({ cls := "OmegaDesk$LassoFinder", name := "search", desc := "(LOmegaDesk$Automaton;LOmegaDesk$Automaton;)V" } : Jvm.MethodName) ({ cls := "OmegaDesk$LassoFinder", name := "search", desc := "(LOmegaDesk$Automaton;LOmegaDesk$Automaton;)V" } : Jvm.MethodName)) ∈ WB := List.mem_filter.mpr ⟨List.mem_append_right _ (List.mem_of_getElem? (i := 450) rfl), rfl⟩
set_option maxRecDepth 20000 in
theorem wb_451 : (Jvm.Cond.code ({ cls := "OmegaDesk$LassoFinder", name := "search", desc := "(LOmegaDesk$Automaton;LOmegaDesk$Automaton;)V" } : Jvm.MethodName) prog_3_method_3_code (5 : Nat) (Option.none : Option Jvm.ClassFile.FieldType)) ∈ WB := List.mem_filter.mpr ⟨List.mem_append_right _ (List.mem_of_getElem? (i := 451) rfl), rfl⟩
set_option maxRecDepth 20000 in
theorem wb_452 : (Jvm.Cond.methodLink "OmegaDesk$LassoFinder" (38 : Nat) ({ cls := "OmegaDesk$WordTable", name := "begin", desc := "(LOmegaDesk$Automaton;)V" } : Jvm.MethodName)) ∈ WB := List.mem_filter.mpr ⟨List.mem_append_right _ (List.mem_of_getElem? (i := 452) rfl), rfl⟩
set_option maxRecDepth 20000 in
theorem wb_453 : (Jvm.Cond.instanceMethod ({ cls := "OmegaDesk$WordTable", name := "begin", desc := "(LOmegaDesk$Automaton;)V" } : Jvm.MethodName)) ∈ WB := List.mem_filter.mpr ⟨List.mem_append_right _ (List.mem_of_getElem? (i := 453) rfl), rfl⟩
set_option maxRecDepth 20000 in
theorem wb_454 : (Jvm.Cond.selects "OmegaDesk$WordTable" ({ cls := "OmegaDesk$WordTable", name := "begin", desc := "(LOmegaDesk$Automaton;)V" } : Jvm.MethodName) ({ cls := "OmegaDesk$WordTable", name := "begin", desc := "(LOmegaDesk$Automaton;)V" } : Jvm.MethodName)) ∈ WB := List.mem_filter.mpr ⟨List.mem_append_right _ (List.mem_of_getElem? (i := 454) rfl), rfl⟩
set_option maxRecDepth 20000 in
theorem wb_455 : (Jvm.Cond.code ({ cls := "OmegaDesk$WordTable", name := "begin", desc := "(LOmegaDesk$Automaton;)V" } : Jvm.MethodName) prog_6_method_2_code (2 : Nat) (Option.none : Option Jvm.ClassFile.FieldType)) ∈ WB := List.mem_filter.mpr ⟨List.mem_append_right _ (List.mem_of_getElem? (i := 455) rfl), rfl⟩
set_option maxRecDepth 20000 in
theorem wb_456 : (Jvm.Cond.methodLink "OmegaDesk$WordTable" (24 : Nat) ({ cls := "OmegaDesk$Automaton", name := "emptyPassage", desc := "(I)I" } : Jvm.MethodName)) ∈ WB := List.mem_filter.mpr ⟨List.mem_append_right _ (List.mem_of_getElem? (i := 456) rfl), rfl⟩
set_option maxRecDepth 20000 in
theorem wb_457 : (Jvm.Cond.methodLink "OmegaDesk$LassoFinder" (42 : Nat) ({ cls := "OmegaDesk$WordTable", name := "addWords", desc := "(LOmegaDesk$Automaton;I)V" } : Jvm.MethodName)) ∈ WB := List.mem_filter.mpr ⟨List.mem_append_right _ (List.mem_of_getElem? (i := 457) rfl), rfl⟩
set_option maxRecDepth 20000 in
theorem wb_458 : (Jvm.Cond.instanceMethod ({ cls := "OmegaDesk$WordTable", name := "addWords", desc := "(LOmegaDesk$Automaton;I)V" } : Jvm.MethodName)) ∈ WB := List.mem_filter.mpr ⟨List.mem_append_right _ (List.mem_of_getElem? (i := 458) rfl), rfl⟩
set_option maxRecDepth 20000 in
theorem wb_459 : (Jvm.Cond.selects "OmegaDesk$WordTable" ({ cls := "OmegaDesk$WordTable", name := "addWords", desc := "(LOmegaDesk$Automaton;I)V" } : Jvm.MethodName) ({ cls := "OmegaDesk$WordTable", name := "addWords", desc := "(LOmegaDesk$Automaton;I)V" } : Jvm.MethodName)) ∈ WB := List.mem_filter.mpr ⟨List.mem_append_right _ (List.mem_of_getElem? (i := 459) rfl), rfl⟩
set_option maxRecDepth 20000 in
theorem wb_460 : (Jvm.Cond.code ({ cls := "OmegaDesk$WordTable", name := "addWords", desc := "(LOmegaDesk$Automaton;I)V" } : Jvm.MethodName) prog_6_method_3_code (5 : Nat) (Option.none : Option Jvm.ClassFile.FieldType)) ∈ WB := List.mem_filter.mpr ⟨List.mem_append_right _ (List.mem_of_getElem? (i := 460) rfl), rfl⟩
set_option maxRecDepth 20000 in
theorem wb_461 : (Jvm.Cond.methodLink "OmegaDesk$WordTable" (28 : Nat) ({ cls := "OmegaDesk$Automaton", name := "longerPassage", desc := "(II)I" } : Jvm.MethodName)) ∈ WB := List.mem_filter.mpr ⟨List.mem_append_right _ (List.mem_of_getElem? (i := 461) rfl), rfl⟩
set_option maxRecDepth 20000 in
theorem wb_462 : (Jvm.Cond.methodLink "OmegaDesk$WordTable" (32 : Nat) ({ cls := "OmegaDesk$Passage", name := "takenRepeated", desc := "(I)I" } : Jvm.MethodName)) ∈ WB := List.mem_filter.mpr ⟨List.mem_append_right _ (List.mem_of_getElem? (i := 462) rfl), rfl⟩
set_option maxRecDepth 20000 in
theorem wb_463 : (Jvm.Cond.methodLink "OmegaDesk$LassoFinder" (46 : Nat) ({ cls := "OmegaDesk$LassoFinder", name := "searchSplit", desc := "(II)V" } : Jvm.MethodName)) ∈ WB := List.mem_filter.mpr ⟨List.mem_append_right _ (List.mem_of_getElem? (i := 463) rfl), rfl⟩
set_option maxRecDepth 20000 in
theorem wb_465 : (Jvm.Cond.instanceMethod ({ cls := "OmegaDesk$LassoFinder", name := "searchSplit", desc := "(II)V" } : Jvm.MethodName)) ∈ WB := List.mem_filter.mpr ⟨List.mem_append_right _ (List.mem_of_getElem? (i := 465) rfl), rfl⟩
set_option maxRecDepth 20000 in
theorem wb_466 : (Jvm.Cond.code ({ cls := "OmegaDesk$LassoFinder", name := "searchSplit", desc := "(II)V" } : Jvm.MethodName) prog_3_method_4_code (7 : Nat) (Option.none : Option Jvm.ClassFile.FieldType)) ∈ WB := List.mem_filter.mpr ⟨List.mem_append_right _ (List.mem_of_getElem? (i := 466) rfl), rfl⟩
set_option maxRecDepth 20000 in
theorem wb_467 : (Jvm.Cond.methodLink "OmegaDesk$LassoFinder" (50 : Nat) ({ cls := "OmegaDesk$WordTable", name := "takesLasso", desc := "(II)Z" } : Jvm.MethodName)) ∈ WB := List.mem_filter.mpr ⟨List.mem_append_right _ (List.mem_of_getElem? (i := 467) rfl), rfl⟩
set_option maxRecDepth 20000 in
theorem wb_468 : (Jvm.Cond.instanceMethod ({ cls := "OmegaDesk$WordTable", name := "takesLasso", desc := "(II)Z" } : Jvm.MethodName)) ∈ WB := List.mem_filter.mpr ⟨List.mem_append_right _ (List.mem_of_getElem? (i := 468) rfl), rfl⟩
set_option maxRecDepth 20000 in
theorem wb_469 : (Jvm.Cond.selects "OmegaDesk$WordTable" ({ cls := "OmegaDesk$WordTable", name := "takesLasso", desc := "(II)Z" } : Jvm.MethodName) ({ cls := "OmegaDesk$WordTable", name := "takesLasso", desc := "(II)Z" } : Jvm.MethodName)) ∈ WB := List.mem_filter.mpr ⟨List.mem_append_right _ (List.mem_of_getElem? (i := 469) rfl), rfl⟩
set_option maxRecDepth 20000 in
theorem wb_470 : (Jvm.Cond.code ({ cls := "OmegaDesk$WordTable", name := "takesLasso", desc := "(II)Z" } : Jvm.MethodName) prog_6_method_4_code (3 : Nat) (Option.some Jvm.ClassFile.FieldType.boolean)) ∈ WB := List.mem_filter.mpr ⟨List.mem_append_right _ (List.mem_of_getElem? (i := 470) rfl), rfl⟩
set_option maxRecDepth 20000 in
theorem wb_471 : (Jvm.Cond.methodLink "OmegaDesk$WordTable" (36 : Nat) ({ cls := "OmegaDesk$Passage", name := "fromStart", desc := "(I)I" } : Jvm.MethodName)) ∈ WB := List.mem_filter.mpr ⟨List.mem_append_right _ (List.mem_of_getElem? (i := 471) rfl), rfl⟩
set_option maxRecDepth 20000 in
theorem wb_472 : (Jvm.Cond.methodLink "OmegaDeskLaw" (100 : Nat) ({ cls := "OmegaDeskLaw", name := "witness", desc := "(LOmegaDesk;I[J)I" } : Jvm.MethodName)) ∈ WB := List.mem_filter.mpr ⟨List.mem_append_right _ (List.mem_of_getElem? (i := 472) rfl), rfl⟩
set_option maxRecDepth 20000 in
theorem wb_473 : (Jvm.Cond.static ({ cls := "OmegaDeskLaw", name := "witness", desc := "(LOmegaDesk;I[J)I" } : Jvm.MethodName)) ∈ WB := List.mem_filter.mpr ⟨List.mem_append_right _ (List.mem_of_getElem? (i := 473) rfl), rfl⟩
set_option maxRecDepth 20000 in
theorem wb_474 : (Jvm.Cond.codeWith ({ cls := "OmegaDeskLaw", name := "witness", desc := "(LOmegaDesk;I[J)I" } : Jvm.MethodName) method_11_code (4 : Nat) (Option.some Jvm.ClassFile.FieldType.int) [((0 : Nat), (9 : Nat), (12 : Nat), (13 : Nat)), ((0 : Nat), (9 : Nat), (15 : Nat), (48 : Nat))]) ∈ WB := List.mem_filter.mpr ⟨List.mem_append_right _ (List.mem_of_getElem? (i := 474) rfl), rfl⟩
set_option maxRecDepth 20000 in
theorem wb_475 : (Jvm.Cond.classLink "OmegaDeskLaw" (48 : Nat) "java/util/NoSuchElementException") ∈ WB := List.mem_filter.mpr ⟨List.mem_append_right _ (List.mem_of_getElem? (i := 475) rfl), rfl⟩
set_option maxRecDepth 20000 in
theorem wb_476 : (Jvm.Cond.methodLink "OmegaDeskLaw" (45 : Nat) ({ cls := "OmegaDesk", name := "witness", desc := "(I)I" } : Jvm.MethodName)) ∈ WB := List.mem_filter.mpr ⟨List.mem_append_right _ (List.mem_of_getElem? (i := 476) rfl), rfl⟩
set_option maxRecDepth 20000 in
theorem wb_477 : (Jvm.Cond.instanceMethod ({ cls := "OmegaDesk", name := "witness", desc := "(I)I" } : Jvm.MethodName)) ∈ WB := List.mem_filter.mpr ⟨List.mem_append_right _ (List.mem_of_getElem? (i := 477) rfl), rfl⟩
set_option maxRecDepth 20000 in
theorem wb_478 : (Jvm.Cond.selects "OmegaDesk" ({ cls := "OmegaDesk", name := "witness", desc := "(I)I" } : Jvm.MethodName) ({ cls := "OmegaDesk", name := "witness", desc := "(I)I" } : Jvm.MethodName)) ∈ WB := List.mem_filter.mpr ⟨List.mem_append_right _ (List.mem_of_getElem? (i := 478) rfl), rfl⟩
set_option maxRecDepth 20000 in
theorem wb_479 : (Jvm.Cond.code ({ cls := "OmegaDesk", name := "witness", desc := "(I)I" } : Jvm.MethodName) prog_1_method_10_code (2 : Nat) (Option.some Jvm.ClassFile.FieldType.int)) ∈ WB := List.mem_filter.mpr ⟨List.mem_append_right _ (List.mem_of_getElem? (i := 479) rfl), rfl⟩
set_option maxRecDepth 20000 in
theorem wb_481 : (Jvm.Cond.classLink "OmegaDesk" (130 : Nat) "java/util/NoSuchElementException") ∈ WB := List.mem_filter.mpr ⟨List.mem_append_right _ (List.mem_of_getElem? (i := 481) rfl), rfl⟩
set_option maxRecDepth 20000 in
theorem wb_497 : (Jvm.Cond.methodLink "OmegaDeskLaw" (103 : Nat) ({ cls := "OmegaDeskLaw", name := "states", desc := "(LOmegaDesk;I[J)I" } : Jvm.MethodName)) ∈ WB := List.mem_filter.mpr ⟨List.mem_append_right _ (List.mem_of_getElem? (i := 497) rfl), rfl⟩
set_option maxRecDepth 20000 in
theorem wb_498 : (Jvm.Cond.static ({ cls := "OmegaDeskLaw", name := "states", desc := "(LOmegaDesk;I[J)I" } : Jvm.MethodName)) ∈ WB := List.mem_filter.mpr ⟨List.mem_append_right _ (List.mem_of_getElem? (i := 498) rfl), rfl⟩
set_option maxRecDepth 20000 in
theorem wb_499 : (Jvm.Cond.codeWith ({ cls := "OmegaDeskLaw", name := "states", desc := "(LOmegaDesk;I[J)I" } : Jvm.MethodName) method_12_code (4 : Nat) (Option.some Jvm.ClassFile.FieldType.int) [((0 : Nat), (9 : Nat), (12 : Nat), (13 : Nat))]) ∈ WB := List.mem_filter.mpr ⟨List.mem_append_right _ (List.mem_of_getElem? (i := 499) rfl), rfl⟩
set_option maxRecDepth 20000 in
theorem wb_500 : (Jvm.Cond.methodLink "OmegaDeskLaw" (50 : Nat) ({ cls := "OmegaDesk", name := "states", desc := "(I)I" } : Jvm.MethodName)) ∈ WB := List.mem_filter.mpr ⟨List.mem_append_right _ (List.mem_of_getElem? (i := 500) rfl), rfl⟩
set_option maxRecDepth 20000 in
theorem wb_501 : (Jvm.Cond.instanceMethod ({ cls := "OmegaDesk", name := "states", desc := "(I)I" } : Jvm.MethodName)) ∈ WB := List.mem_filter.mpr ⟨List.mem_append_right _ (List.mem_of_getElem? (i := 501) rfl), rfl⟩
set_option maxRecDepth 20000 in
theorem wb_502 : (Jvm.Cond.selects "OmegaDesk" ({ cls := "OmegaDesk", name := "states", desc := "(I)I" } : Jvm.MethodName) ({ cls := "OmegaDesk", name := "states", desc := "(I)I" } : Jvm.MethodName)) ∈ WB := List.mem_filter.mpr ⟨List.mem_append_right _ (List.mem_of_getElem? (i := 502) rfl), rfl⟩
set_option maxRecDepth 20000 in
theorem wb_503 : (Jvm.Cond.code ({ cls := "OmegaDesk", name := "states", desc := "(I)I" } : Jvm.MethodName) prog_1_method_11_code (2 : Nat) (Option.some Jvm.ClassFile.FieldType.int)) ∈ WB := List.mem_filter.mpr ⟨List.mem_append_right _ (List.mem_of_getElem? (i := 503) rfl), rfl⟩
set_option maxRecDepth 20000 in
theorem wb_504 : (Jvm.Cond.methodLink "OmegaDeskLaw" (106 : Nat) ({ cls := "OmegaDeskLaw", name := "good", desc := "(LOmegaDesk;II[J)I" } : Jvm.MethodName)) ∈ WB := List.mem_filter.mpr ⟨List.mem_append_right _ (List.mem_of_getElem? (i := 504) rfl), rfl⟩
set_option maxRecDepth 20000 in
theorem wb_505 : (Jvm.Cond.static ({ cls := "OmegaDeskLaw", name := "good", desc := "(LOmegaDesk;II[J)I" } : Jvm.MethodName)) ∈ WB := List.mem_filter.mpr ⟨List.mem_append_right _ (List.mem_of_getElem? (i := 505) rfl), rfl⟩
set_option maxRecDepth 20000 in
theorem wb_506 : (Jvm.Cond.codeWith ({ cls := "OmegaDeskLaw", name := "good", desc := "(LOmegaDesk;II[J)I" } : Jvm.MethodName) method_13_code (5 : Nat) (Option.some Jvm.ClassFile.FieldType.int) [((0 : Nat), (17 : Nat), (20 : Nat), (13 : Nat))]) ∈ WB := List.mem_filter.mpr ⟨List.mem_append_right _ (List.mem_of_getElem? (i := 506) rfl), rfl⟩
set_option maxRecDepth 20000 in
theorem wb_507 : (Jvm.Cond.methodLink "OmegaDeskLaw" (53 : Nat) ({ cls := "OmegaDesk", name := "good", desc := "(II)Z" } : Jvm.MethodName)) ∈ WB := List.mem_filter.mpr ⟨List.mem_append_right _ (List.mem_of_getElem? (i := 507) rfl), rfl⟩
set_option maxRecDepth 20000 in
theorem wb_508 : (Jvm.Cond.instanceMethod ({ cls := "OmegaDesk", name := "good", desc := "(II)Z" } : Jvm.MethodName)) ∈ WB := List.mem_filter.mpr ⟨List.mem_append_right _ (List.mem_of_getElem? (i := 508) rfl), rfl⟩
set_option maxRecDepth 20000 in
theorem wb_509 : (Jvm.Cond.selects "OmegaDesk" ({ cls := "OmegaDesk", name := "good", desc := "(II)Z" } : Jvm.MethodName) ({ cls := "OmegaDesk", name := "good", desc := "(II)Z" } : Jvm.MethodName)) ∈ WB := List.mem_filter.mpr ⟨List.mem_append_right _ (List.mem_of_getElem? (i := 509) rfl), rfl⟩
set_option maxRecDepth 20000 in
theorem wb_510 : (Jvm.Cond.code ({ cls := "OmegaDesk", name := "good", desc := "(II)Z" } : Jvm.MethodName) prog_1_method_12_code (4 : Nat) (Option.some Jvm.ClassFile.FieldType.boolean)) ∈ WB := List.mem_filter.mpr ⟨List.mem_append_right _ (List.mem_of_getElem? (i := 510) rfl), rfl⟩
set_option maxRecDepth 20000 in
theorem wb_511 : (Jvm.Cond.methodLink "OmegaDesk" (153 : Nat) ({ cls := "OmegaDesk$Automaton", name := "isGood", desc := "(I)Z" } : Jvm.MethodName)) ∈ WB := List.mem_filter.mpr ⟨List.mem_append_right _ (List.mem_of_getElem? (i := 511) rfl), rfl⟩
set_option maxRecDepth 20000 in
theorem wb_512 : (Jvm.Cond.methodLink "OmegaDeskLaw" (109 : Nat) ({ cls := "OmegaDeskLaw", name := "has", desc := "(LOmegaDesk;IIII[J)I" } : Jvm.MethodName)) ∈ WB := List.mem_filter.mpr ⟨List.mem_append_right _ (List.mem_of_getElem? (i := 512) rfl), rfl⟩
set_option maxRecDepth 20000 in
theorem wb_513 : (Jvm.Cond.static ({ cls := "OmegaDeskLaw", name := "has", desc := "(LOmegaDesk;IIII[J)I" } : Jvm.MethodName)) ∈ WB := List.mem_filter.mpr ⟨List.mem_append_right _ (List.mem_of_getElem? (i := 513) rfl), rfl⟩
set_option maxRecDepth 20000 in
theorem wb_514 : (Jvm.Cond.codeWith ({ cls := "OmegaDeskLaw", name := "has", desc := "(LOmegaDesk;IIII[J)I" } : Jvm.MethodName) method_14_code (7 : Nat) (Option.some Jvm.ClassFile.FieldType.int) [((0 : Nat), (21 : Nat), (24 : Nat), (13 : Nat))]) ∈ WB := List.mem_filter.mpr ⟨List.mem_append_right _ (List.mem_of_getElem? (i := 514) rfl), rfl⟩
set_option maxRecDepth 20000 in
theorem wb_515 : (Jvm.Cond.methodLink "OmegaDeskLaw" (56 : Nat) ({ cls := "OmegaDesk", name := "has", desc := "(IIII)Z" } : Jvm.MethodName)) ∈ WB := List.mem_filter.mpr ⟨List.mem_append_right _ (List.mem_of_getElem? (i := 515) rfl), rfl⟩
set_option maxRecDepth 20000 in
theorem wb_516 : (Jvm.Cond.instanceMethod ({ cls := "OmegaDesk", name := "has", desc := "(IIII)Z" } : Jvm.MethodName)) ∈ WB := List.mem_filter.mpr ⟨List.mem_append_right _ (List.mem_of_getElem? (i := 516) rfl), rfl⟩
set_option maxRecDepth 20000 in
theorem wb_517 : (Jvm.Cond.selects "OmegaDesk" ({ cls := "OmegaDesk", name := "has", desc := "(IIII)Z" } : Jvm.MethodName) ({ cls := "OmegaDesk", name := "has", desc := "(IIII)Z" } : Jvm.MethodName)) ∈ WB := List.mem_filter.mpr ⟨List.mem_append_right _ (List.mem_of_getElem? (i := 517) rfl), rfl⟩
set_option maxRecDepth 20000 in
theorem wb_518 : (Jvm.Cond.code ({ cls := "OmegaDesk", name := "has", desc := "(IIII)Z" } : Jvm.MethodName) prog_1_method_13_code (5 : Nat) (Option.some Jvm.ClassFile.FieldType.boolean)) ∈ WB := List.mem_filter.mpr ⟨List.mem_append_right _ (List.mem_of_getElem? (i := 518) rfl), rfl⟩
set_option maxRecDepth 20000 in
theorem wb_519 : (Jvm.Cond.classLink "OmegaDeskLaw" (60 : Nat) "OmegaDeskModel") ∈ WB := List.mem_filter.mpr ⟨List.mem_append_right _ (List.mem_of_getElem? (i := 519) rfl), rfl⟩
set_option maxRecDepth 20000 in
theorem wb_520 : (Jvm.Cond.instantiable "OmegaDeskModel" (12 : Nat)) ∈ WB := List.mem_filter.mpr ⟨List.mem_append_right _ (List.mem_of_getElem? (i := 520) rfl), rfl⟩
set_option maxRecDepth 20000 in
theorem wb_521 : (Jvm.Cond.methodLink "OmegaDeskLaw" (62 : Nat) ({ cls := "OmegaDeskModel", name := "<init>", desc := "()V" } : Jvm.MethodName)) ∈ WB := List.mem_filter.mpr ⟨List.mem_append_right _ (List.mem_of_getElem? (i := 521) rfl), rfl⟩
set_option maxRecDepth 20000 in
theorem wb_522 : (Jvm.Cond.instanceMethod ({ cls := "OmegaDeskModel", name := "<init>", desc := "()V" } : Jvm.MethodName)) ∈ WB := List.mem_filter.mpr ⟨List.mem_append_right _ (List.mem_of_getElem? (i := 522) rfl), rfl⟩
set_option maxRecDepth 20000 in
theorem wb_523 : (Jvm.Cond.code ({ cls := "OmegaDeskModel", name := "<init>", desc := "()V" } : Jvm.MethodName) prog_8_method_1_code (1 : Nat) (Option.none : Option Jvm.ClassFile.FieldType)) ∈ WB := List.mem_filter.mpr ⟨List.mem_append_right _ (List.mem_of_getElem? (i := 523) rfl), rfl⟩
set_option maxRecDepth 20000 in
theorem wb_524 : (Jvm.Cond.methodLink "OmegaDeskModel" (1 : Nat) ({ cls := "java/lang/Object", name := "<init>", desc := "()V" } : Jvm.MethodName)) ∈ WB := List.mem_filter.mpr ⟨List.mem_append_right _ (List.mem_of_getElem? (i := 524) rfl), rfl⟩
set_option maxRecDepth 20000 in
theorem wb_525 : (Jvm.Cond.fieldLink "OmegaDeskModel" (41 : Nat) "OmegaDeskModel" "thrown" "I") ∈ WB := List.mem_filter.mpr ⟨List.mem_append_right _ (List.mem_of_getElem? (i := 525) rfl), rfl⟩
set_option maxRecDepth 20000 in
theorem wb_526 : (Jvm.Cond.fieldLink "OmegaDeskModel" (7 : Nat) "OmegaDeskModel" "to" "[I") ∈ WB := List.mem_filter.mpr ⟨List.mem_append_right _ (List.mem_of_getElem? (i := 526) rfl), rfl⟩
set_option maxRecDepth 20000 in
theorem wb_527 : (Jvm.Cond.fieldLink "OmegaDeskModel" (13 : Nat) "OmegaDeskModel" "good" "[I") ∈ WB := List.mem_filter.mpr ⟨List.mem_append_right _ (List.mem_of_getElem? (i := 527) rfl), rfl⟩
set_option maxRecDepth 20000 in
theorem wb_528 : (Jvm.Cond.fieldLink "OmegaDeskModel" (16 : Nat) "OmegaDeskModel" "size" "[I") ∈ WB := List.mem_filter.mpr ⟨List.mem_append_right _ (List.mem_of_getElem? (i := 528) rfl), rfl⟩
set_option maxRecDepth 20000 in
theorem wb_529 : (Jvm.Cond.fieldLink "OmegaDeskModel" (132 : Nat) "OmegaDeskModel" "found" "Z") ∈ WB := List.mem_filter.mpr ⟨List.mem_append_right _ (List.mem_of_getElem? (i := 529) rfl), rfl⟩
set_option maxRecDepth 20000 in
theorem wb_530 : (Jvm.Cond.fieldLink "OmegaDeskModel" (19 : Nat) "OmegaDeskModel" "witness" "[I") ∈ WB := List.mem_filter.mpr ⟨List.mem_append_right _ (List.mem_of_getElem? (i := 530) rfl), rfl⟩
set_option maxRecDepth 20000 in
theorem wb_531 : (Jvm.Cond.fieldLink "OmegaDeskModel" (22 : Nat) "OmegaDeskModel" "seen" "[J") ∈ WB := List.mem_filter.mpr ⟨List.mem_append_right _ (List.mem_of_getElem? (i := 531) rfl), rfl⟩
set_option maxRecDepth 20000 in
theorem wb_532 : (Jvm.Cond.fieldLink "OmegaDeskModel" (26 : Nat) "OmegaDeskModel" "fresh" "[J") ∈ WB := List.mem_filter.mpr ⟨List.mem_append_right _ (List.mem_of_getElem? (i := 532) rfl), rfl⟩
set_option maxRecDepth 20000 in
theorem wb_533 : (Jvm.Cond.fieldLink "OmegaDeskModel" (29 : Nat) "OmegaDeskModel" "coming" "[J") ∈ WB := List.mem_filter.mpr ⟨List.mem_append_right _ (List.mem_of_getElem? (i := 533) rfl), rfl⟩
set_option maxRecDepth 20000 in
theorem wb_534 : (Jvm.Cond.fieldLink "OmegaDeskModel" (32 : Nat) "OmegaDeskModel" "digit" "[I") ∈ WB := List.mem_filter.mpr ⟨List.mem_append_right _ (List.mem_of_getElem? (i := 534) rfl), rfl⟩
set_option maxRecDepth 20000 in
theorem wb_535 : (Jvm.Cond.fieldLink "OmegaDeskModel" (35 : Nat) "OmegaDeskModel" "after" "[I") ∈ WB := List.mem_filter.mpr ⟨List.mem_append_right _ (List.mem_of_getElem? (i := 535) rfl), rfl⟩
set_option maxRecDepth 20000 in
theorem wb_536 : (Jvm.Cond.fieldLink "OmegaDeskModel" (38 : Nat) "OmegaDeskModel" "beginnings" "[I") ∈ WB := List.mem_filter.mpr ⟨List.mem_append_right _ (List.mem_of_getElem? (i := 536) rfl), rfl⟩
set_option maxRecDepth 20000 in
theorem wb_562 : (Jvm.Cond.arrayClass Jvm.ClassFile.FieldType.long) ∈ WB := List.mem_filter.mpr ⟨List.mem_append_right _ (List.mem_of_getElem? (i := 562) rfl), rfl⟩
set_option maxRecDepth 20000 in
theorem wb_563 : (Jvm.Cond.methodLink "OmegaDeskLaw" (69 : Nat) ({ cls := "OmegaDeskModel", name := "thrown", desc := "()I" } : Jvm.MethodName)) ∈ WB := List.mem_filter.mpr ⟨List.mem_append_right _ (List.mem_of_getElem? (i := 563) rfl), rfl⟩
set_option maxRecDepth 20000 in
theorem wb_564 : (Jvm.Cond.instanceMethod ({ cls := "OmegaDeskModel", name := "thrown", desc := "()I" } : Jvm.MethodName)) ∈ WB := List.mem_filter.mpr ⟨List.mem_append_right _ (List.mem_of_getElem? (i := 564) rfl), rfl⟩
set_option maxRecDepth 20000 in
theorem wb_565 : (Jvm.Cond.selects "OmegaDeskModel" ({ cls := "OmegaDeskModel", name := "thrown", desc := "()I" } : Jvm.MethodName) ({ cls := "OmegaDeskModel", name := "thrown", desc := "()I" } : Jvm.MethodName)) ∈ WB := List.mem_filter.mpr ⟨List.mem_append_right _ (List.mem_of_getElem? (i := 565) rfl), rfl⟩
set_option maxRecDepth 20000 in
theorem wb_566 : (Jvm.Cond.code ({ cls := "OmegaDeskModel", name := "thrown", desc := "()I" } : Jvm.MethodName) prog_8_method_2_code (1 : Nat) (Option.some Jvm.ClassFile.FieldType.int)) ∈ WB := List.mem_filter.mpr ⟨List.mem_append_right _ (List.mem_of_getElem? (i := 566) rfl), rfl⟩
set_option maxRecDepth 20000 in
theorem wb_567 : (Jvm.Cond.methodLink "OmegaDeskLaw" (68 : Nat) ({ cls := "OmegaDeskModel", name := "state", desc := "(IZ)I" } : Jvm.MethodName)) ∈ WB := List.mem_filter.mpr ⟨List.mem_append_right _ (List.mem_of_getElem? (i := 567) rfl), rfl⟩
set_option maxRecDepth 20000 in
theorem wb_568 : (Jvm.Cond.instanceMethod ({ cls := "OmegaDeskModel", name := "state", desc := "(IZ)I" } : Jvm.MethodName)) ∈ WB := List.mem_filter.mpr ⟨List.mem_append_right _ (List.mem_of_getElem? (i := 568) rfl), rfl⟩
set_option maxRecDepth 20000 in
theorem wb_569 : (Jvm.Cond.selects "OmegaDeskModel" ({ cls := "OmegaDeskModel", name := "state", desc := "(IZ)I" } : Jvm.MethodName) ({ cls := "OmegaDeskModel", name := "state", desc := "(IZ)I" } : Jvm.MethodName)) ∈ WB := List.mem_filter.mpr ⟨List.mem_append_right _ (List.mem_of_getElem? (i := 569) rfl), rfl⟩
set_option maxRecDepth 20000 in
theorem wb_570 : (Jvm.Cond.code ({ cls := "OmegaDeskModel", name := "state", desc := "(IZ)I" } : Jvm.MethodName) prog_8_method_6_code (3 : Nat) (Option.some Jvm.ClassFile.FieldType.int)) ∈ WB := List.mem_filter.mpr ⟨List.mem_append_right _ (List.mem_of_getElem? (i := 570) rfl), rfl⟩
set_option maxRecDepth 20000 in
theorem wb_571 : (Jvm.Cond.methodLink "OmegaDeskModel" (45 : Nat) ({ cls := "OmegaDeskModel", name := "out", desc := "(II)Z" } : Jvm.MethodName)) ∈ WB := List.mem_filter.mpr ⟨List.mem_append_right _ (List.mem_of_getElem? (i := 571) rfl), rfl⟩
set_option maxRecDepth 20000 in
theorem wb_572 : (Jvm.Cond.static ({ cls := "OmegaDeskModel", name := "out", desc := "(II)Z" } : Jvm.MethodName)) ∈ WB := List.mem_filter.mpr ⟨List.mem_append_right _ (List.mem_of_getElem? (i := 572) rfl), rfl⟩
set_option maxRecDepth 20000 in
theorem wb_573 : (Jvm.Cond.code ({ cls := "OmegaDeskModel", name := "out", desc := "(II)Z" } : Jvm.MethodName) prog_8_method_3_code (2 : Nat) (Option.some Jvm.ClassFile.FieldType.boolean)) ∈ WB := List.mem_filter.mpr ⟨List.mem_append_right _ (List.mem_of_getElem? (i := 573) rfl), rfl⟩
set_option maxRecDepth 20000 in
theorem wb_574 : (Jvm.Cond.methodLink "OmegaDeskModel" (49 : Nat) ({ cls := "OmegaDeskModel", name := "add", desc := "(IZ)V" } : Jvm.MethodName)) ∈ WB := List.mem_filter.mpr ⟨List.mem_append_right _ (List.mem_of_getElem? (i := 574) rfl), rfl⟩
set_option maxRecDepth 20000 in
theorem wb_576 : (Jvm.Cond.instanceMethod ({ cls := "OmegaDeskModel", name := "add", desc := "(IZ)V" } : Jvm.MethodName)) ∈ WB := List.mem_filter.mpr ⟨List.mem_append_right _ (List.mem_of_getElem? (i := 576) rfl), rfl⟩
set_option maxRecDepth 20000 in
theorem wb_577 : (Jvm.Cond.code ({ cls := "OmegaDeskModel", name := "add", desc := "(IZ)V" } : Jvm.MethodName) prog_8_method_5_code (3 : Nat) (Option.none : Option Jvm.ClassFile.FieldType)) ∈ WB := List.mem_filter.mpr ⟨List.mem_append_right _ (List.mem_of_getElem? (i := 577) rfl), rfl⟩
set_option maxRecDepth 20000 in
theorem wb_578 : (Jvm.Cond.methodLink "OmegaDeskLaw" (76 : Nat) ({ cls := "OmegaDeskModel", name := "edge", desc := "(IIII)Z" } : Jvm.MethodName)) ∈ WB := List.mem_filter.mpr ⟨List.mem_append_right _ (List.mem_of_getElem? (i := 578) rfl), rfl⟩
set_option maxRecDepth 20000 in
theorem wb_579 : (Jvm.Cond.instanceMethod ({ cls := "OmegaDeskModel", name := "edge", desc := "(IIII)Z" } : Jvm.MethodName)) ∈ WB := List.mem_filter.mpr ⟨List.mem_append_right _ (List.mem_of_getElem? (i := 579) rfl), rfl⟩
set_option maxRecDepth 20000 in
theorem wb_580 : (Jvm.Cond.selects "OmegaDeskModel" ({ cls := "OmegaDeskModel", name := "edge", desc := "(IIII)Z" } : Jvm.MethodName) ({ cls := "OmegaDeskModel", name := "edge", desc := "(IIII)Z" } : Jvm.MethodName)) ∈ WB := List.mem_filter.mpr ⟨List.mem_append_right _ (List.mem_of_getElem? (i := 580) rfl), rfl⟩
set_option maxRecDepth 20000 in
theorem wb_581 : (Jvm.Cond.code ({ cls := "OmegaDeskModel", name := "edge", desc := "(IIII)Z" } : Jvm.MethodName) prog_8_method_8_code (7 : Nat) (Option.some Jvm.ClassFile.FieldType.boolean)) ∈ WB := List.mem_filter.mpr ⟨List.mem_append_right _ (List.mem_of_getElem? (i := 581) rfl), rfl⟩
set_option maxRecDepth 20000 in
theorem wb_582 : (Jvm.Cond.methodLink "OmegaDeskModel" (53 : Nat) ({ cls := "OmegaDeskModel", name := "isEdge", desc := "(IIII)Z" } : Jvm.MethodName)) ∈ WB := List.mem_filter.mpr ⟨List.mem_append_right _ (List.mem_of_getElem? (i := 582) rfl), rfl⟩
set_option maxRecDepth 20000 in
theorem wb_584 : (Jvm.Cond.instanceMethod ({ cls := "OmegaDeskModel", name := "isEdge", desc := "(IIII)Z" } : Jvm.MethodName)) ∈ WB := List.mem_filter.mpr ⟨List.mem_append_right _ (List.mem_of_getElem? (i := 584) rfl), rfl⟩
set_option maxRecDepth 20000 in
theorem wb_585 : (Jvm.Cond.code ({ cls := "OmegaDeskModel", name := "isEdge", desc := "(IIII)Z" } : Jvm.MethodName) prog_8_method_7_code (5 : Nat) (Option.some Jvm.ClassFile.FieldType.boolean)) ∈ WB := List.mem_filter.mpr ⟨List.mem_append_right _ (List.mem_of_getElem? (i := 585) rfl), rfl⟩
set_option maxRecDepth 20000 in
theorem wb_586 : (Jvm.Cond.methodLink "OmegaDeskLaw" (80 : Nat) ({ cls := "OmegaDeskModel", name := "clear", desc := "(I)V" } : Jvm.MethodName)) ∈ WB := List.mem_filter.mpr ⟨List.mem_append_right _ (List.mem_of_getElem? (i := 586) rfl), rfl⟩
set_option maxRecDepth 20000 in
theorem wb_587 : (Jvm.Cond.instanceMethod ({ cls := "OmegaDeskModel", name := "clear", desc := "(I)V" } : Jvm.MethodName)) ∈ WB := List.mem_filter.mpr ⟨List.mem_append_right _ (List.mem_of_getElem? (i := 587) rfl), rfl⟩
set_option maxRecDepth 20000 in
theorem wb_588 : (Jvm.Cond.selects "OmegaDeskModel" ({ cls := "OmegaDeskModel", name := "clear", desc := "(I)V" } : Jvm.MethodName) ({ cls := "OmegaDeskModel", name := "clear", desc := "(I)V" } : Jvm.MethodName)) ∈ WB := List.mem_filter.mpr ⟨List.mem_append_right _ (List.mem_of_getElem? (i := 588) rfl), rfl⟩
set_option maxRecDepth 20000 in
theorem wb_589 : (Jvm.Cond.code ({ cls := "OmegaDeskModel", name := "clear", desc := "(I)V" } : Jvm.MethodName) prog_8_method_9_code (2 : Nat) (Option.none : Option Jvm.ClassFile.FieldType)) ∈ WB := List.mem_filter.mpr ⟨List.mem_append_right _ (List.mem_of_getElem? (i := 589) rfl), rfl⟩
set_option maxRecDepth 20000 in
theorem wb_590 : (Jvm.Cond.methodLink "OmegaDeskLaw" (84 : Nat) ({ cls := "OmegaDeskModel", name := "unite", desc := "(III)I" } : Jvm.MethodName)) ∈ WB := List.mem_filter.mpr ⟨List.mem_append_right _ (List.mem_of_getElem? (i := 590) rfl), rfl⟩
set_option maxRecDepth 20000 in
theorem wb_591 : (Jvm.Cond.instanceMethod ({ cls := "OmegaDeskModel", name := "unite", desc := "(III)I" } : Jvm.MethodName)) ∈ WB := List.mem_filter.mpr ⟨List.mem_append_right _ (List.mem_of_getElem? (i := 591) rfl), rfl⟩
set_option maxRecDepth 20000 in
theorem wb_592 : (Jvm.Cond.selects "OmegaDeskModel" ({ cls := "OmegaDeskModel", name := "unite", desc := "(III)I" } : Jvm.MethodName) ({ cls := "OmegaDeskModel", name := "unite", desc := "(III)I" } : Jvm.MethodName)) ∈ WB := List.mem_filter.mpr ⟨List.mem_append_right _ (List.mem_of_getElem? (i := 592) rfl), rfl⟩
set_option maxRecDepth 20000 in
theorem wb_593 : (Jvm.Cond.code ({ cls := "OmegaDeskModel", name := "unite", desc := "(III)I" } : Jvm.MethodName) prog_8_method_11_code (5 : Nat) (Option.some Jvm.ClassFile.FieldType.int)) ∈ WB := List.mem_filter.mpr ⟨List.mem_append_right _ (List.mem_of_getElem? (i := 593) rfl), rfl⟩
set_option maxRecDepth 20000 in
theorem wb_594 : (Jvm.Cond.methodLink "OmegaDeskModel" (57 : Nat) ({ cls := "OmegaDeskModel", name := "append", desc := "(II)V" } : Jvm.MethodName)) ∈ WB := List.mem_filter.mpr ⟨List.mem_append_right _ (List.mem_of_getElem? (i := 594) rfl), rfl⟩
set_option maxRecDepth 20000 in
theorem wb_596 : (Jvm.Cond.instanceMethod ({ cls := "OmegaDeskModel", name := "append", desc := "(II)V" } : Jvm.MethodName)) ∈ WB := List.mem_filter.mpr ⟨List.mem_append_right _ (List.mem_of_getElem? (i := 596) rfl), rfl⟩
set_option maxRecDepth 20000 in
theorem wb_597 : (Jvm.Cond.code ({ cls := "OmegaDeskModel", name := "append", desc := "(II)V" } : Jvm.MethodName) prog_8_method_10_code (7 : Nat) (Option.none : Option Jvm.ClassFile.FieldType)) ∈ WB := List.mem_filter.mpr ⟨List.mem_append_right _ (List.mem_of_getElem? (i := 597) rfl), rfl⟩
set_option maxRecDepth 20000 in
theorem wb_598 : (Jvm.Cond.methodLink "OmegaDeskLaw" (88 : Nat) ({ cls := "OmegaDeskModel", name := "trim", desc := "(I)I" } : Jvm.MethodName)) ∈ WB := List.mem_filter.mpr ⟨List.mem_append_right _ (List.mem_of_getElem? (i := 598) rfl), rfl⟩
set_option maxRecDepth 20000 in
theorem wb_599 : (Jvm.Cond.instanceMethod ({ cls := "OmegaDeskModel", name := "trim", desc := "(I)I" } : Jvm.MethodName)) ∈ WB := List.mem_filter.mpr ⟨List.mem_append_right _ (List.mem_of_getElem? (i := 599) rfl), rfl⟩
set_option maxRecDepth 20000 in
theorem wb_600 : (Jvm.Cond.selects "OmegaDeskModel" ({ cls := "OmegaDeskModel", name := "trim", desc := "(I)I" } : Jvm.MethodName) ({ cls := "OmegaDeskModel", name := "trim", desc := "(I)I" } : Jvm.MethodName)) ∈ WB := List.mem_filter.mpr ⟨List.mem_append_right _ (List.mem_of_getElem? (i := 600) rfl), rfl⟩
set_option maxRecDepth 20000 in
theorem wb_601 : (Jvm.Cond.code ({ cls := "OmegaDeskModel", name := "trim", desc := "(I)I" } : Jvm.MethodName) prog_8_method_15_code (11 : Nat) (Option.some Jvm.ClassFile.FieldType.int)) ∈ WB := List.mem_filter.mpr ⟨List.mem_append_right _ (List.mem_of_getElem? (i := 601) rfl), rfl⟩
set_option maxRecDepth 20000 in
theorem wb_602 : (Jvm.Cond.methodLink "OmegaDeskModel" (68 : Nat) ({ cls := "OmegaDeskModel", name := "living", desc := "(I)I" } : Jvm.MethodName)) ∈ WB := List.mem_filter.mpr ⟨List.mem_append_right _ (List.mem_of_getElem? (i := 602) rfl), rfl⟩
set_option maxRecDepth 20000 in
theorem wb_604 : (Jvm.Cond.instanceMethod ({ cls := "OmegaDeskModel", name := "living", desc := "(I)I" } : Jvm.MethodName)) ∈ WB := List.mem_filter.mpr ⟨List.mem_append_right _ (List.mem_of_getElem? (i := 604) rfl), rfl⟩
set_option maxRecDepth 20000 in
theorem wb_605 : (Jvm.Cond.code ({ cls := "OmegaDeskModel", name := "living", desc := "(I)I" } : Jvm.MethodName) prog_8_method_14_code (4 : Nat) (Option.some Jvm.ClassFile.FieldType.int)) ∈ WB := List.mem_filter.mpr ⟨List.mem_append_right _ (List.mem_of_getElem? (i := 605) rfl), rfl⟩
set_option maxRecDepth 20000 in
theorem wb_606 : (Jvm.Cond.methodLink "OmegaDeskModel" (65 : Nat) ({ cls := "OmegaDeskModel", name := "alive", desc := "(II)Z" } : Jvm.MethodName)) ∈ WB := List.mem_filter.mpr ⟨List.mem_append_right _ (List.mem_of_getElem? (i := 606) rfl), rfl⟩
set_option maxRecDepth 20000 in
theorem wb_608 : (Jvm.Cond.instanceMethod ({ cls := "OmegaDeskModel", name := "alive", desc := "(II)Z" } : Jvm.MethodName)) ∈ WB := List.mem_filter.mpr ⟨List.mem_append_right _ (List.mem_of_getElem? (i := 608) rfl), rfl⟩
set_option maxRecDepth 20000 in
theorem wb_609 : (Jvm.Cond.code ({ cls := "OmegaDeskModel", name := "alive", desc := "(II)Z" } : Jvm.MethodName) prog_8_method_13_code (7 : Nat) (Option.some Jvm.ClassFile.FieldType.boolean)) ∈ WB := List.mem_filter.mpr ⟨List.mem_append_right _ (List.mem_of_getElem? (i := 609) rfl), rfl⟩
set_option maxRecDepth 20000 in
theorem wb_610 : (Jvm.Cond.methodLink "OmegaDeskModel" (61 : Nat) ({ cls := "OmegaDeskModel", name := "ahead", desc := "(II)I" } : Jvm.MethodName)) ∈ WB := List.mem_filter.mpr ⟨List.mem_append_right _ (List.mem_of_getElem? (i := 610) rfl), rfl⟩
set_option maxRecDepth 20000 in
theorem wb_612 : (Jvm.Cond.instanceMethod ({ cls := "OmegaDeskModel", name := "ahead", desc := "(II)I" } : Jvm.MethodName)) ∈ WB := List.mem_filter.mpr ⟨List.mem_append_right _ (List.mem_of_getElem? (i := 612) rfl), rfl⟩
set_option maxRecDepth 20000 in
theorem wb_613 : (Jvm.Cond.code ({ cls := "OmegaDeskModel", name := "ahead", desc := "(II)I" } : Jvm.MethodName) prog_8_method_12_code (6 : Nat) (Option.some Jvm.ClassFile.FieldType.int)) ∈ WB := List.mem_filter.mpr ⟨List.mem_append_right _ (List.mem_of_getElem? (i := 613) rfl), rfl⟩
set_option maxRecDepth 20000 in
theorem wb_614 : (Jvm.Cond.methodLink "OmegaDeskLaw" (91 : Nat) ({ cls := "OmegaDeskModel", name := "empty", desc := "(I)Z" } : Jvm.MethodName)) ∈ WB := List.mem_filter.mpr ⟨List.mem_append_right _ (List.mem_of_getElem? (i := 614) rfl), rfl⟩
set_option maxRecDepth 20000 in
theorem wb_615 : (Jvm.Cond.instanceMethod ({ cls := "OmegaDeskModel", name := "empty", desc := "(I)Z" } : Jvm.MethodName)) ∈ WB := List.mem_filter.mpr ⟨List.mem_append_right _ (List.mem_of_getElem? (i := 615) rfl), rfl⟩
set_option maxRecDepth 20000 in
theorem wb_616 : (Jvm.Cond.selects "OmegaDeskModel" ({ cls := "OmegaDeskModel", name := "empty", desc := "(I)Z" } : Jvm.MethodName) ({ cls := "OmegaDeskModel", name := "empty", desc := "(I)Z" } : Jvm.MethodName)) ∈ WB := List.mem_filter.mpr ⟨List.mem_append_right _ (List.mem_of_getElem? (i := 616) rfl), rfl⟩
set_option maxRecDepth 20000 in
theorem wb_617 : (Jvm.Cond.code ({ cls := "OmegaDeskModel", name := "empty", desc := "(I)Z" } : Jvm.MethodName) prog_8_method_16_code (2 : Nat) (Option.some Jvm.ClassFile.FieldType.boolean)) ∈ WB := List.mem_filter.mpr ⟨List.mem_append_right _ (List.mem_of_getElem? (i := 617) rfl), rfl⟩
set_option maxRecDepth 20000 in
theorem wb_618 : (Jvm.Cond.methodLink "OmegaDeskLaw" (95 : Nat) ({ cls := "OmegaDeskModel", name := "takes", desc := "(IIIII)Z" } : Jvm.MethodName)) ∈ WB := List.mem_filter.mpr ⟨List.mem_append_right _ (List.mem_of_getElem? (i := 618) rfl), rfl⟩
set_option maxRecDepth 20000 in
theorem wb_619 : (Jvm.Cond.instanceMethod ({ cls := "OmegaDeskModel", name := "takes", desc := "(IIIII)Z" } : Jvm.MethodName)) ∈ WB := List.mem_filter.mpr ⟨List.mem_append_right _ (List.mem_of_getElem? (i := 619) rfl), rfl⟩
set_option maxRecDepth 20000 in
theorem wb_620 : (Jvm.Cond.selects "OmegaDeskModel" ({ cls := "OmegaDeskModel", name := "takes", desc := "(IIIII)Z" } : Jvm.MethodName) ({ cls := "OmegaDeskModel", name := "takes", desc := "(IIIII)Z" } : Jvm.MethodName)) ∈ WB := List.mem_filter.mpr ⟨List.mem_append_right _ (List.mem_of_getElem? (i := 620) rfl), rfl⟩
set_option maxRecDepth 20000 in
theorem wb_621 : (Jvm.Cond.code ({ cls := "OmegaDeskModel", name := "takes", desc := "(IIIII)Z" } : Jvm.MethodName) prog_8_method_22_code (6 : Nat) (Option.some Jvm.ClassFile.FieldType.boolean)) ∈ WB := List.mem_filter.mpr ⟨List.mem_append_right _ (List.mem_of_getElem? (i := 621) rfl), rfl⟩
set_option maxRecDepth 20000 in
theorem wb_622 : (Jvm.Cond.methodLink "OmegaDeskModel" (85 : Nat) ({ cls := "OmegaDeskModel", name := "isWord", desc := "(III)Z" } : Jvm.MethodName)) ∈ WB := List.mem_filter.mpr ⟨List.mem_append_right _ (List.mem_of_getElem? (i := 622) rfl), rfl⟩
set_option maxRecDepth 20000 in
theorem wb_623 : (Jvm.Cond.static ({ cls := "OmegaDeskModel", name := "isWord", desc := "(III)Z" } : Jvm.MethodName)) ∈ WB := List.mem_filter.mpr ⟨List.mem_append_right _ (List.mem_of_getElem? (i := 623) rfl), rfl⟩
set_option maxRecDepth 20000 in
theorem wb_624 : (Jvm.Cond.code ({ cls := "OmegaDeskModel", name := "isWord", desc := "(III)Z" } : Jvm.MethodName) prog_8_method_21_code (3 : Nat) (Option.some Jvm.ClassFile.FieldType.boolean)) ∈ WB := List.mem_filter.mpr ⟨List.mem_append_right _ (List.mem_of_getElem? (i := 624) rfl), rfl⟩
set_option maxRecDepth 20000 in
theorem wb_625 : (Jvm.Cond.methodLink "OmegaDeskModel" (89 : Nat) ({ cls := "OmegaDeskModel", name := "lasso", desc := "(IIIII)Z" } : Jvm.MethodName)) ∈ WB := List.mem_filter.mpr ⟨List.mem_append_right _ (List.mem_of_getElem? (i := 625) rfl), rfl⟩
set_option maxRecDepth 20000 in
theorem wb_627 : (Jvm.Cond.instanceMethod ({ cls := "OmegaDeskModel", name := "lasso", desc := "(IIIII)Z" } : Jvm.MethodName)) ∈ WB := List.mem_filter.mpr ⟨List.mem_append_right _ (List.mem_of_getElem? (i := 627) rfl), rfl⟩
set_option maxRecDepth 20000 in
theorem wb_628 : (Jvm.Cond.code ({ cls := "OmegaDeskModel", name := "lasso", desc := "(IIIII)Z" } : Jvm.MethodName) prog_8_method_20_code (13 : Nat) (Option.some Jvm.ClassFile.FieldType.boolean)) ∈ WB := List.mem_filter.mpr ⟨List.mem_append_right _ (List.mem_of_getElem? (i := 628) rfl), rfl⟩
set_option maxRecDepth 20000 in
theorem wb_629 : (Jvm.Cond.methodLink "OmegaDeskModel" (82 : Nat) ({ cls := "OmegaDeskModel", name := "allBehind", desc := "(IJIIII)J" } : Jvm.MethodName)) ∈ WB := List.mem_filter.mpr ⟨List.mem_append_right _ (List.mem_of_getElem? (i := 629) rfl), rfl⟩
set_option maxRecDepth 20000 in
theorem wb_631 : (Jvm.Cond.instanceMethod ({ cls := "OmegaDeskModel", name := "allBehind", desc := "(IJIIII)J" } : Jvm.MethodName)) ∈ WB := List.mem_filter.mpr ⟨List.mem_append_right _ (List.mem_of_getElem? (i := 631) rfl), rfl⟩
set_option maxRecDepth 20000 in
theorem wb_632 : (Jvm.Cond.code ({ cls := "OmegaDeskModel", name := "allBehind", desc := "(IJIIII)J" } : Jvm.MethodName) prog_8_method_19_code (12 : Nat) (Option.some Jvm.ClassFile.FieldType.long)) ∈ WB := List.mem_filter.mpr ⟨List.mem_append_right _ (List.mem_of_getElem? (i := 632) rfl), rfl⟩
set_option maxRecDepth 20000 in
theorem wb_633 : (Jvm.Cond.methodLink "OmegaDeskModel" (78 : Nat) ({ cls := "OmegaDeskModel", name := "behind", desc := "(IJIIII)J" } : Jvm.MethodName)) ∈ WB := List.mem_filter.mpr ⟨List.mem_append_right _ (List.mem_of_getElem? (i := 633) rfl), rfl⟩
set_option maxRecDepth 20000 in
theorem wb_635 : (Jvm.Cond.instanceMethod ({ cls := "OmegaDeskModel", name := "behind", desc := "(IJIIII)J" } : Jvm.MethodName)) ∈ WB := List.mem_filter.mpr ⟨List.mem_append_right _ (List.mem_of_getElem? (i := 635) rfl), rfl⟩
set_option maxRecDepth 20000 in
theorem wb_636 : (Jvm.Cond.code ({ cls := "OmegaDeskModel", name := "behind", desc := "(IJIIII)J" } : Jvm.MethodName) prog_8_method_18_code (15 : Nat) (Option.some Jvm.ClassFile.FieldType.long)) ∈ WB := List.mem_filter.mpr ⟨List.mem_append_right _ (List.mem_of_getElem? (i := 636) rfl), rfl⟩
set_option maxRecDepth 20000 in
theorem wb_637 : (Jvm.Cond.constantLong "OmegaDeskModel" (72 : Nat) (15 : Int64)) ∈ WB := List.mem_filter.mpr ⟨List.mem_append_right _ (List.mem_of_getElem? (i := 637) rfl), rfl⟩
set_option maxRecDepth 20000 in
theorem wb_638 : (Jvm.Cond.methodLink "OmegaDeskModel" (74 : Nat) ({ cls := "OmegaDeskModel", name := "letter", desc := "(IIIII)I" } : Jvm.MethodName)) ∈ WB := List.mem_filter.mpr ⟨List.mem_append_right _ (List.mem_of_getElem? (i := 638) rfl), rfl⟩
set_option maxRecDepth 20000 in
theorem wb_639 : (Jvm.Cond.static ({ cls := "OmegaDeskModel", name := "letter", desc := "(IIIII)I" } : Jvm.MethodName)) ∈ WB := List.mem_filter.mpr ⟨List.mem_append_right _ (List.mem_of_getElem? (i := 639) rfl), rfl⟩
set_option maxRecDepth 20000 in
theorem wb_640 : (Jvm.Cond.code ({ cls := "OmegaDeskModel", name := "letter", desc := "(IIIII)I" } : Jvm.MethodName) prog_8_method_17_code (5 : Nat) (Option.some Jvm.ClassFile.FieldType.int)) ∈ WB := List.mem_filter.mpr ⟨List.mem_append_right _ (List.mem_of_getElem? (i := 640) rfl), rfl⟩
set_option maxRecDepth 20000 in
theorem wb_641 : (Jvm.Cond.methodLink "OmegaDeskLaw" (99 : Nat) ({ cls := "OmegaDeskModel", name := "included", desc := "(II)Z" } : Jvm.MethodName)) ∈ WB := List.mem_filter.mpr ⟨List.mem_append_right _ (List.mem_of_getElem? (i := 641) rfl), rfl⟩
set_option maxRecDepth 20000 in
theorem wb_642 : (Jvm.Cond.instanceMethod ({ cls := "OmegaDeskModel", name := "included", desc := "(II)Z" } : Jvm.MethodName)) ∈ WB := List.mem_filter.mpr ⟨List.mem_append_right _ (List.mem_of_getElem? (i := 642) rfl), rfl⟩
set_option maxRecDepth 20000 in
theorem wb_643 : (Jvm.Cond.selects "OmegaDeskModel" ({ cls := "OmegaDeskModel", name := "included", desc := "(II)Z" } : Jvm.MethodName) ({ cls := "OmegaDeskModel", name := "included", desc := "(II)Z" } : Jvm.MethodName)) ∈ WB := List.mem_filter.mpr ⟨List.mem_append_right _ (List.mem_of_getElem? (i := 643) rfl), rfl⟩
set_option maxRecDepth 20000 in
theorem wb_644 : (Jvm.Cond.code ({ cls := "OmegaDeskModel", name := "included", desc := "(II)Z" } : Jvm.MethodName) prog_8_method_36_code (4 : Nat) (Option.some Jvm.ClassFile.FieldType.boolean)) ∈ WB := List.mem_filter.mpr ⟨List.mem_append_right _ (List.mem_of_getElem? (i := 644) rfl), rfl⟩
set_option maxRecDepth 20000 in
theorem wb_645 : (Jvm.Cond.methodLink "OmegaDeskModel" (136 : Nat) ({ cls := "OmegaDeskModel", name := "differs", desc := "(II)Z" } : Jvm.MethodName)) ∈ WB := List.mem_filter.mpr ⟨List.mem_append_right _ (List.mem_of_getElem? (i := 645) rfl), rfl⟩
set_option maxRecDepth 20000 in
theorem wb_647 : (Jvm.Cond.instanceMethod ({ cls := "OmegaDeskModel", name := "differs", desc := "(II)Z" } : Jvm.MethodName)) ∈ WB := List.mem_filter.mpr ⟨List.mem_append_right _ (List.mem_of_getElem? (i := 647) rfl), rfl⟩
set_option maxRecDepth 20000 in
theorem wb_648 : (Jvm.Cond.code ({ cls := "OmegaDeskModel", name := "differs", desc := "(II)Z" } : Jvm.MethodName) prog_8_method_33_code (6 : Nat) (Option.some Jvm.ClassFile.FieldType.boolean)) ∈ WB := List.mem_filter.mpr ⟨List.mem_append_right _ (List.mem_of_getElem? (i := 648) rfl), rfl⟩
set_option maxRecDepth 20000 in
theorem wb_649 : (Jvm.Cond.methodLink "OmegaDeskModel" (116 : Nat) ({ cls := "OmegaDeskModel", name := "begin", desc := "(II)V" } : Jvm.MethodName)) ∈ WB := List.mem_filter.mpr ⟨List.mem_append_right _ (List.mem_of_getElem? (i := 649) rfl), rfl⟩
set_option maxRecDepth 20000 in
theorem wb_651 : (Jvm.Cond.instanceMethod ({ cls := "OmegaDeskModel", name := "begin", desc := "(II)V" } : Jvm.MethodName)) ∈ WB := List.mem_filter.mpr ⟨List.mem_append_right _ (List.mem_of_getElem? (i := 651) rfl), rfl⟩
set_option maxRecDepth 20000 in
theorem wb_652 : (Jvm.Cond.code ({ cls := "OmegaDeskModel", name := "begin", desc := "(II)V" } : Jvm.MethodName) prog_8_method_25_code (6 : Nat) (Option.none : Option Jvm.ClassFile.FieldType)) ∈ WB := List.mem_filter.mpr ⟨List.mem_append_right _ (List.mem_of_getElem? (i := 652) rfl), rfl⟩
set_option maxRecDepth 20000 in
theorem wb_653 : (Jvm.Cond.methodLink "OmegaDeskModel" (93 : Nat) ({ cls := "OmegaDeskModel", name := "goOn", desc := "(IIII)Z" } : Jvm.MethodName)) ∈ WB := List.mem_filter.mpr ⟨List.mem_append_right _ (List.mem_of_getElem? (i := 653) rfl), rfl⟩
set_option maxRecDepth 20000 in
theorem wb_655 : (Jvm.Cond.instanceMethod ({ cls := "OmegaDeskModel", name := "goOn", desc := "(IIII)Z" } : Jvm.MethodName)) ∈ WB := List.mem_filter.mpr ⟨List.mem_append_right _ (List.mem_of_getElem? (i := 655) rfl), rfl⟩
set_option maxRecDepth 20000 in
theorem wb_656 : (Jvm.Cond.code ({ cls := "OmegaDeskModel", name := "goOn", desc := "(IIII)Z" } : Jvm.MethodName) prog_8_method_26_code (10 : Nat) (Option.some Jvm.ClassFile.FieldType.boolean)) ∈ WB := List.mem_filter.mpr ⟨List.mem_append_right _ (List.mem_of_getElem? (i := 656) rfl), rfl⟩
set_option maxRecDepth 20000 in
theorem wb_657 : (Jvm.Cond.methodLink "OmegaDeskModel" (119 : Nat) ({ cls := "OmegaDeskModel", name := "gather", desc := "(III)V" } : Jvm.MethodName)) ∈ WB := List.mem_filter.mpr ⟨List.mem_append_right _ (List.mem_of_getElem? (i := 657) rfl), rfl⟩
set_option maxRecDepth 20000 in
theorem wb_659 : (Jvm.Cond.instanceMethod ({ cls := "OmegaDeskModel", name := "gather", desc := "(III)V" } : Jvm.MethodName)) ∈ WB := List.mem_filter.mpr ⟨List.mem_append_right _ (List.mem_of_getElem? (i := 659) rfl), rfl⟩
set_option maxRecDepth 20000 in
theorem wb_660 : (Jvm.Cond.code ({ cls := "OmegaDeskModel", name := "gather", desc := "(III)V" } : Jvm.MethodName) prog_8_method_29_code (8 : Nat) (Option.none : Option Jvm.ClassFile.FieldType)) ∈ WB := List.mem_filter.mpr ⟨List.mem_append_right _ (List.mem_of_getElem? (i := 660) rfl), rfl⟩
set_option maxRecDepth 20000 in
theorem wb_661 : (Jvm.Cond.methodLink "OmegaDeskModel" (96 : Nat) ({ cls := "OmegaDeskModel", name := "power", desc := "(I)I" } : Jvm.MethodName)) ∈ WB := List.mem_filter.mpr ⟨List.mem_append_right _ (List.mem_of_getElem? (i := 661) rfl), rfl⟩
set_option maxRecDepth 20000 in
theorem wb_662 : (Jvm.Cond.static ({ cls := "OmegaDeskModel", name := "power", desc := "(I)I" } : Jvm.MethodName)) ∈ WB := List.mem_filter.mpr ⟨List.mem_append_right _ (List.mem_of_getElem? (i := 662) rfl), rfl⟩
set_option maxRecDepth 20000 in
theorem wb_663 : (Jvm.Cond.code ({ cls := "OmegaDeskModel", name := "power", desc := "(I)I" } : Jvm.MethodName) prog_8_method_30_code (3 : Nat) (Option.some Jvm.ClassFile.FieldType.int)) ∈ WB := List.mem_filter.mpr ⟨List.mem_append_right _ (List.mem_of_getElem? (i := 663) rfl), rfl⟩
set_option maxRecDepth 20000 in
theorem wb_664 : (Jvm.Cond.methodLink "OmegaDeskModel" (99 : Nat) ({ cls := "OmegaDeskModel", name := "mark", desc := "([JI)V" } : Jvm.MethodName)) ∈ WB := List.mem_filter.mpr ⟨List.mem_append_right _ (List.mem_of_getElem? (i := 664) rfl), rfl⟩
set_option maxRecDepth 20000 in
theorem wb_665 : (Jvm.Cond.static ({ cls := "OmegaDeskModel", name := "mark", desc := "([JI)V" } : Jvm.MethodName)) ∈ WB := List.mem_filter.mpr ⟨List.mem_append_right _ (List.mem_of_getElem? (i := 665) rfl), rfl⟩
set_option maxRecDepth 20000 in
theorem wb_666 : (Jvm.Cond.code ({ cls := "OmegaDeskModel", name := "mark", desc := "([JI)V" } : Jvm.MethodName) prog_8_method_24_code (2 : Nat) (Option.none : Option Jvm.ClassFile.FieldType)) ∈ WB := List.mem_filter.mpr ⟨List.mem_append_right _ (List.mem_of_getElem? (i := 666) rfl), rfl⟩
set_option maxRecDepth 20000 in
theorem wb_667 : (Jvm.Cond.methodLink "OmegaDeskModel" (103 : Nat) ({ cls := "OmegaDeskModel", name := "lead", desc := "(III)V" } : Jvm.MethodName)) ∈ WB := List.mem_filter.mpr ⟨List.mem_append_right _ (List.mem_of_getElem? (i := 667) rfl), rfl⟩
set_option maxRecDepth 20000 in
theorem wb_669 : (Jvm.Cond.instanceMethod ({ cls := "OmegaDeskModel", name := "lead", desc := "(III)V" } : Jvm.MethodName)) ∈ WB := List.mem_filter.mpr ⟨List.mem_append_right _ (List.mem_of_getElem? (i := 669) rfl), rfl⟩
set_option maxRecDepth 20000 in
theorem wb_670 : (Jvm.Cond.code ({ cls := "OmegaDeskModel", name := "lead", desc := "(III)V" } : Jvm.MethodName) prog_8_method_31_code (11 : Nat) (Option.none : Option Jvm.ClassFile.FieldType)) ∈ WB := List.mem_filter.mpr ⟨List.mem_append_right _ (List.mem_of_getElem? (i := 670) rfl), rfl⟩
set_option maxRecDepth 20000 in
theorem wb_671 : (Jvm.Cond.methodLink "OmegaDeskModel" (109 : Nat) ({ cls := "OmegaDeskModel", name := "spread", desc := "(I)V" } : Jvm.MethodName)) ∈ WB := List.mem_filter.mpr ⟨List.mem_append_right _ (List.mem_of_getElem? (i := 671) rfl), rfl⟩
set_option maxRecDepth 20000 in
theorem wb_673 : (Jvm.Cond.instanceMethod ({ cls := "OmegaDeskModel", name := "spread", desc := "(I)V" } : Jvm.MethodName)) ∈ WB := List.mem_filter.mpr ⟨List.mem_append_right _ (List.mem_of_getElem? (i := 673) rfl), rfl⟩
set_option maxRecDepth 20000 in
theorem wb_674 : (Jvm.Cond.code ({ cls := "OmegaDeskModel", name := "spread", desc := "(I)V" } : Jvm.MethodName) prog_8_method_27_code (4 : Nat) (Option.none : Option Jvm.ClassFile.FieldType)) ∈ WB := List.mem_filter.mpr ⟨List.mem_append_right _ (List.mem_of_getElem? (i := 674) rfl), rfl⟩
set_option maxRecDepth 20000 in
theorem wb_675 : (Jvm.Cond.methodLink "OmegaDeskModel" (113 : Nat) ({ cls := "OmegaDeskModel", name := "longer", desc := "(II)I" } : Jvm.MethodName)) ∈ WB := List.mem_filter.mpr ⟨List.mem_append_right _ (List.mem_of_getElem? (i := 675) rfl), rfl⟩
set_option maxRecDepth 20000 in
theorem wb_677 : (Jvm.Cond.instanceMethod ({ cls := "OmegaDeskModel", name := "longer", desc := "(II)I" } : Jvm.MethodName)) ∈ WB := List.mem_filter.mpr ⟨List.mem_append_right _ (List.mem_of_getElem? (i := 677) rfl), rfl⟩
set_option maxRecDepth 20000 in
theorem wb_678 : (Jvm.Cond.code ({ cls := "OmegaDeskModel", name := "longer", desc := "(II)I" } : Jvm.MethodName) prog_8_method_28_code (9 : Nat) (Option.some Jvm.ClassFile.FieldType.int)) ∈ WB := List.mem_filter.mpr ⟨List.mem_append_right _ (List.mem_of_getElem? (i := 678) rfl), rfl⟩
set_option maxRecDepth 20000 in
theorem wb_679 : (Jvm.Cond.constantLong "OmegaDeskModel" (107 : Nat) (-1 : Int64)) ∈ WB := List.mem_filter.mpr ⟨List.mem_append_right _ (List.mem_of_getElem? (i := 679) rfl), rfl⟩
set_option maxRecDepth 20000 in
theorem wb_680 : (Jvm.Cond.methodLink "OmegaDeskModel" (122 : Nat) ({ cls := "OmegaDeskModel", name := "bit", desc := "([JI)Z" } : Jvm.MethodName)) ∈ WB := List.mem_filter.mpr ⟨List.mem_append_right _ (List.mem_of_getElem? (i := 680) rfl), rfl⟩
set_option maxRecDepth 20000 in
theorem wb_681 : (Jvm.Cond.static ({ cls := "OmegaDeskModel", name := "bit", desc := "([JI)Z" } : Jvm.MethodName)) ∈ WB := List.mem_filter.mpr ⟨List.mem_append_right _ (List.mem_of_getElem? (i := 681) rfl), rfl⟩
set_option maxRecDepth 20000 in
theorem wb_682 : (Jvm.Cond.code ({ cls := "OmegaDeskModel", name := "bit", desc := "([JI)Z" } : Jvm.MethodName) prog_8_method_23_code (2 : Nat) (Option.some Jvm.ClassFile.FieldType.boolean)) ∈ WB := List.mem_filter.mpr ⟨List.mem_append_right _ (List.mem_of_getElem? (i := 682) rfl), rfl⟩
set_option maxRecDepth 20000 in
theorem wb_683 : (Jvm.Cond.methodLink "OmegaDeskModel" (126 : Nat) ({ cls := "OmegaDeskModel", name := "taken", desc := "(II)I" } : Jvm.MethodName)) ∈ WB := List.mem_filter.mpr ⟨List.mem_append_right _ (List.mem_of_getElem? (i := 683) rfl), rfl⟩
set_option maxRecDepth 20000 in
theorem wb_685 : (Jvm.Cond.instanceMethod ({ cls := "OmegaDeskModel", name := "taken", desc := "(II)I" } : Jvm.MethodName)) ∈ WB := List.mem_filter.mpr ⟨List.mem_append_right _ (List.mem_of_getElem? (i := 685) rfl), rfl⟩
set_option maxRecDepth 20000 in
theorem wb_686 : (Jvm.Cond.code ({ cls := "OmegaDeskModel", name := "taken", desc := "(II)I" } : Jvm.MethodName) prog_8_method_32_code (10 : Nat) (Option.some Jvm.ClassFile.FieldType.int)) ∈ WB := List.mem_filter.mpr ⟨List.mem_append_right _ (List.mem_of_getElem? (i := 686) rfl), rfl⟩
set_option maxRecDepth 20000 in
theorem wb_687 : (Jvm.Cond.methodLink "OmegaDeskModel" (129 : Nat) ({ cls := "OmegaDeskModel", name := "misses", desc := "(II)Z" } : Jvm.MethodName)) ∈ WB := List.mem_filter.mpr ⟨List.mem_append_right _ (List.mem_of_getElem? (i := 687) rfl), rfl⟩
set_option maxRecDepth 20000 in
theorem wb_688 : (Jvm.Cond.static ({ cls := "OmegaDeskModel", name := "misses", desc := "(II)Z" } : Jvm.MethodName)) ∈ WB := List.mem_filter.mpr ⟨List.mem_append_right _ (List.mem_of_getElem? (i := 688) rfl), rfl⟩
set_option maxRecDepth 20000 in
theorem wb_689 : (Jvm.Cond.code ({ cls := "OmegaDeskModel", name := "misses", desc := "(II)Z" } : Jvm.MethodName) prog_8_method_34_code (3 : Nat) (Option.some Jvm.ClassFile.FieldType.boolean)) ∈ WB := List.mem_filter.mpr ⟨List.mem_append_right _ (List.mem_of_getElem? (i := 689) rfl), rfl⟩
set_option maxRecDepth 20000 in
theorem wb_690 : (Jvm.Cond.methodLink "OmegaDeskModel" (139 : Nat) ({ cls := "OmegaDeskModel", name := "look", desc := "(III)Z" } : Jvm.MethodName)) ∈ WB := List.mem_filter.mpr ⟨List.mem_append_right _ (List.mem_of_getElem? (i := 690) rfl), rfl⟩
set_option maxRecDepth 20000 in
theorem wb_692 : (Jvm.Cond.instanceMethod ({ cls := "OmegaDeskModel", name := "look", desc := "(III)Z" } : Jvm.MethodName)) ∈ WB := List.mem_filter.mpr ⟨List.mem_append_right _ (List.mem_of_getElem? (i := 692) rfl), rfl⟩
set_option maxRecDepth 20000 in
theorem wb_693 : (Jvm.Cond.code ({ cls := "OmegaDeskModel", name := "look", desc := "(III)Z" } : Jvm.MethodName) prog_8_method_35_code (9 : Nat) (Option.some Jvm.ClassFile.FieldType.boolean)) ∈ WB := List.mem_filter.mpr ⟨List.mem_append_right _ (List.mem_of_getElem? (i := 693) rfl), rfl⟩
set_option maxRecDepth 20000 in
theorem wb_694 : (Jvm.Cond.methodLink "OmegaDeskLaw" (102 : Nat) ({ cls := "OmegaDeskModel", name := "witness", desc := "(I)I" } : Jvm.MethodName)) ∈ WB := List.mem_filter.mpr ⟨List.mem_append_right _ (List.mem_of_getElem? (i := 694) rfl), rfl⟩
set_option maxRecDepth 20000 in
theorem wb_695 : (Jvm.Cond.instanceMethod ({ cls := "OmegaDeskModel", name := "witness", desc := "(I)I" } : Jvm.MethodName)) ∈ WB := List.mem_filter.mpr ⟨List.mem_append_right _ (List.mem_of_getElem? (i := 695) rfl), rfl⟩
set_option maxRecDepth 20000 in
theorem wb_696 : (Jvm.Cond.selects "OmegaDeskModel" ({ cls := "OmegaDeskModel", name := "witness", desc := "(I)I" } : Jvm.MethodName) ({ cls := "OmegaDeskModel", name := "witness", desc := "(I)I" } : Jvm.MethodName)) ∈ WB := List.mem_filter.mpr ⟨List.mem_append_right _ (List.mem_of_getElem? (i := 696) rfl), rfl⟩
set_option maxRecDepth 20000 in
theorem wb_697 : (Jvm.Cond.code ({ cls := "OmegaDeskModel", name := "witness", desc := "(I)I" } : Jvm.MethodName) prog_8_method_37_code (2 : Nat) (Option.some Jvm.ClassFile.FieldType.int)) ∈ WB := List.mem_filter.mpr ⟨List.mem_append_right _ (List.mem_of_getElem? (i := 697) rfl), rfl⟩
set_option maxRecDepth 20000 in
theorem wb_698 : (Jvm.Cond.methodLink "OmegaDeskLaw" (105 : Nat) ({ cls := "OmegaDeskModel", name := "states", desc := "(I)I" } : Jvm.MethodName)) ∈ WB := List.mem_filter.mpr ⟨List.mem_append_right _ (List.mem_of_getElem? (i := 698) rfl), rfl⟩
set_option maxRecDepth 20000 in
theorem wb_699 : (Jvm.Cond.instanceMethod ({ cls := "OmegaDeskModel", name := "states", desc := "(I)I" } : Jvm.MethodName)) ∈ WB := List.mem_filter.mpr ⟨List.mem_append_right _ (List.mem_of_getElem? (i := 699) rfl), rfl⟩
set_option maxRecDepth 20000 in
theorem wb_700 : (Jvm.Cond.selects "OmegaDeskModel" ({ cls := "OmegaDeskModel", name := "states", desc := "(I)I" } : Jvm.MethodName) ({ cls := "OmegaDeskModel", name := "states", desc := "(I)I" } : Jvm.MethodName)) ∈ WB := List.mem_filter.mpr ⟨List.mem_append_right _ (List.mem_of_getElem? (i := 700) rfl), rfl⟩
set_option maxRecDepth 20000 in
theorem wb_701 : (Jvm.Cond.code ({ cls := "OmegaDeskModel", name := "states", desc := "(I)I" } : Jvm.MethodName) prog_8_method_38_code (2 : Nat) (Option.some Jvm.ClassFile.FieldType.int)) ∈ WB := List.mem_filter.mpr ⟨List.mem_append_right _ (List.mem_of_getElem? (i := 701) rfl), rfl⟩
set_option maxRecDepth 20000 in
theorem wb_702 : (Jvm.Cond.methodLink "OmegaDeskModel" (142 : Nat) ({ cls := "OmegaDeskModel", name := "fail", desc := "(I)I" } : Jvm.MethodName)) ∈ WB := List.mem_filter.mpr ⟨List.mem_append_right _ (List.mem_of_getElem? (i := 702) rfl), rfl⟩
set_option maxRecDepth 20000 in
theorem wb_704 : (Jvm.Cond.instanceMethod ({ cls := "OmegaDeskModel", name := "fail", desc := "(I)I" } : Jvm.MethodName)) ∈ WB := List.mem_filter.mpr ⟨List.mem_append_right _ (List.mem_of_getElem? (i := 704) rfl), rfl⟩
set_option maxRecDepth 20000 in
theorem wb_705 : (Jvm.Cond.code ({ cls := "OmegaDeskModel", name := "fail", desc := "(I)I" } : Jvm.MethodName) prog_8_method_4_code (2 : Nat) (Option.some Jvm.ClassFile.FieldType.int)) ∈ WB := List.mem_filter.mpr ⟨List.mem_append_right _ (List.mem_of_getElem? (i := 705) rfl), rfl⟩
set_option maxRecDepth 20000 in
theorem wb_706 : (Jvm.Cond.methodLink "OmegaDeskLaw" (108 : Nat) ({ cls := "OmegaDeskModel", name := "good", desc := "(II)Z" } : Jvm.MethodName)) ∈ WB := List.mem_filter.mpr ⟨List.mem_append_right _ (List.mem_of_getElem? (i := 706) rfl), rfl⟩
set_option maxRecDepth 20000 in
theorem wb_707 : (Jvm.Cond.instanceMethod ({ cls := "OmegaDeskModel", name := "good", desc := "(II)Z" } : Jvm.MethodName)) ∈ WB := List.mem_filter.mpr ⟨List.mem_append_right _ (List.mem_of_getElem? (i := 707) rfl), rfl⟩
set_option maxRecDepth 20000 in
theorem wb_708 : (Jvm.Cond.selects "OmegaDeskModel" ({ cls := "OmegaDeskModel", name := "good", desc := "(II)Z" } : Jvm.MethodName) ({ cls := "OmegaDeskModel", name := "good", desc := "(II)Z" } : Jvm.MethodName)) ∈ WB := List.mem_filter.mpr ⟨List.mem_append_right _ (List.mem_of_getElem? (i := 708) rfl), rfl⟩
set_option maxRecDepth 20000 in
theorem wb_709 : (Jvm.Cond.code ({ cls := "OmegaDeskModel", name := "good", desc := "(II)Z" } : Jvm.MethodName) prog_8_method_39_code (3 : Nat) (Option.some Jvm.ClassFile.FieldType.boolean)) ∈ WB := List.mem_filter.mpr ⟨List.mem_append_right _ (List.mem_of_getElem? (i := 709) rfl), rfl⟩
set_option maxRecDepth 20000 in
theorem wb_710 : (Jvm.Cond.methodLink "OmegaDeskLaw" (111 : Nat) ({ cls := "OmegaDeskModel", name := "has", desc := "(IIII)Z" } : Jvm.MethodName)) ∈ WB := List.mem_filter.mpr ⟨List.mem_append_right _ (List.mem_of_getElem? (i := 710) rfl), rfl⟩
set_option maxRecDepth 20000 in
theorem wb_711 : (Jvm.Cond.instanceMethod ({ cls := "OmegaDeskModel", name := "has", desc := "(IIII)Z" } : Jvm.MethodName)) ∈ WB := List.mem_filter.mpr ⟨List.mem_append_right _ (List.mem_of_getElem? (i := 711) rfl), rfl⟩
set_option maxRecDepth 20000 in
theorem wb_712 : (Jvm.Cond.selects "OmegaDeskModel" ({ cls := "OmegaDeskModel", name := "has", desc := "(IIII)Z" } : Jvm.MethodName) ({ cls := "OmegaDeskModel", name := "has", desc := "(IIII)Z" } : Jvm.MethodName)) ∈ WB := List.mem_filter.mpr ⟨List.mem_append_right _ (List.mem_of_getElem? (i := 712) rfl), rfl⟩
set_option maxRecDepth 20000 in
theorem wb_713 : (Jvm.Cond.code ({ cls := "OmegaDeskModel", name := "has", desc := "(IIII)Z" } : Jvm.MethodName) prog_8_method_40_code (5 : Nat) (Option.some Jvm.ClassFile.FieldType.boolean)) ∈ WB := List.mem_filter.mpr ⟨List.mem_append_right _ (List.mem_of_getElem? (i := 713) rfl), rfl⟩
set_option maxRecDepth 20000 in
theorem uw_A : ∀ w ∈ u_ws R_A F_A 3, w ∈ WB := by
  intro w hw
  obtain ⟨k, hk, rfl⟩ := List.mem_map.mp hw
  have hk := List.mem_range.mp hk
  rcases (show k = 0 ∨ k = 1 ∨ k = 2 by omega) with rfl | rfl | rfl
  · exact List.mem_filter.mpr ⟨List.mem_append_right _ (List.mem_of_getElem? (i := 39) rfl), rfl⟩
  · exact List.mem_filter.mpr ⟨List.mem_append_right _ (List.mem_of_getElem? (i := 41) rfl), rfl⟩
  · exact List.mem_filter.mpr ⟨List.mem_append_right _ (List.mem_of_getElem? (i := 43) rfl), rfl⟩
set_option maxRecDepth 20000 in
theorem uw_D : ∀ w ∈ u_ws R_D F_D 4, w ∈ WB := by
  intro w hw
  obtain ⟨k, hk, rfl⟩ := List.mem_map.mp hw
  have hk := List.mem_range.mp hk
  rcases (show k = 0 ∨ k = 1 ∨ k = 2 ∨ k = 3 by omega) with rfl | rfl | rfl | rfl
  · exact List.mem_filter.mpr ⟨List.mem_append_right _ (List.mem_of_getElem? (i := 125) rfl), rfl⟩
  · exact List.mem_filter.mpr ⟨List.mem_append_right _ (List.mem_of_getElem? (i := 127) rfl), rfl⟩
  · exact List.mem_filter.mpr ⟨List.mem_append_right _ (List.mem_of_getElem? (i := 129) rfl), rfl⟩
  · exact List.mem_filter.mpr ⟨List.mem_append_right _ (List.mem_of_getElem? (i := 131) rfl), rfl⟩
set_option maxRecDepth 20000 in
theorem uw_R : ∀ w ∈ u_ws R_R F_R 7, w ∈ WB := by
  intro w hw
  obtain ⟨k, hk, rfl⟩ := List.mem_map.mp hw
  have hk := List.mem_range.mp hk
  rcases (show k = 0 ∨ k = 1 ∨ k = 2 ∨ k = 3 ∨ k = 4 ∨ k = 5 ∨ k = 6 by omega) with rfl | rfl | rfl | rfl | rfl | rfl | rfl
  · exact List.mem_filter.mpr ⟨List.mem_append_right _ (List.mem_of_getElem? (i := 60) rfl), rfl⟩
  · exact List.mem_filter.mpr ⟨List.mem_append_right _ (List.mem_of_getElem? (i := 62) rfl), rfl⟩
  · exact List.mem_filter.mpr ⟨List.mem_append_right _ (List.mem_of_getElem? (i := 64) rfl), rfl⟩
  · exact List.mem_filter.mpr ⟨List.mem_append_right _ (List.mem_of_getElem? (i := 66) rfl), rfl⟩
  · exact List.mem_filter.mpr ⟨List.mem_append_right _ (List.mem_of_getElem? (i := 68) rfl), rfl⟩
  · exact List.mem_filter.mpr ⟨List.mem_append_right _ (List.mem_of_getElem? (i := 70) rfl), rfl⟩
  · exact List.mem_filter.mpr ⟨List.mem_append_right _ (List.mem_of_getElem? (i := 72) rfl), rfl⟩
set_option maxRecDepth 20000 in
theorem uw_F : ∀ w ∈ u_ws R_F F_F 7, w ∈ WB := by
  intro w hw
  obtain ⟨k, hk, rfl⟩ := List.mem_map.mp hw
  have hk := List.mem_range.mp hk
  rcases (show k = 0 ∨ k = 1 ∨ k = 2 ∨ k = 3 ∨ k = 4 ∨ k = 5 ∨ k = 6 by omega) with rfl | rfl | rfl | rfl | rfl | rfl | rfl
  · exact List.mem_filter.mpr ⟨List.mem_append_right _ (List.mem_of_getElem? (i := 106) rfl), rfl⟩
  · exact List.mem_filter.mpr ⟨List.mem_append_right _ (List.mem_of_getElem? (i := 108) rfl), rfl⟩
  · exact List.mem_filter.mpr ⟨List.mem_append_right _ (List.mem_of_getElem? (i := 110) rfl), rfl⟩
  · exact List.mem_filter.mpr ⟨List.mem_append_right _ (List.mem_of_getElem? (i := 112) rfl), rfl⟩
  · exact List.mem_filter.mpr ⟨List.mem_append_right _ (List.mem_of_getElem? (i := 114) rfl), rfl⟩
  · exact List.mem_filter.mpr ⟨List.mem_append_right _ (List.mem_of_getElem? (i := 116) rfl), rfl⟩
  · exact List.mem_filter.mpr ⟨List.mem_append_right _ (List.mem_of_getElem? (i := 118) rfl), rfl⟩
set_option maxRecDepth 20000 in
theorem uw_T : ∀ w ∈ u_ws R_T F_T 2, w ∈ WB := by
  intro w hw
  obtain ⟨k, hk, rfl⟩ := List.mem_map.mp hw
  have hk := List.mem_range.mp hk
  rcases (show k = 0 ∨ k = 1 by omega) with rfl | rfl
  · exact List.mem_filter.mpr ⟨List.mem_append_right _ (List.mem_of_getElem? (i := 89) rfl), rfl⟩
  · exact List.mem_filter.mpr ⟨List.mem_append_right _ (List.mem_of_getElem? (i := 91) rfl), rfl⟩
set_option maxRecDepth 20000 in
theorem uw_M : ∀ w ∈ u_ws R_M F_M 12, w ∈ WB := by
  intro w hw
  obtain ⟨k, hk, rfl⟩ := List.mem_map.mp hw
  have hk := List.mem_range.mp hk
  rcases (show k = 0 ∨ k = 1 ∨ k = 2 ∨ k = 3 ∨ k = 4 ∨ k = 5 ∨ k = 6 ∨ k = 7 ∨ k = 8 ∨ k = 9 ∨ k = 10 ∨ k = 11 by omega) with rfl | rfl | rfl | rfl | rfl | rfl | rfl | rfl | rfl | rfl | rfl | rfl
  · exact List.mem_filter.mpr ⟨List.mem_append_right _ (List.mem_of_getElem? (i := 537) rfl), rfl⟩
  · exact List.mem_filter.mpr ⟨List.mem_append_right _ (List.mem_of_getElem? (i := 539) rfl), rfl⟩
  · exact List.mem_filter.mpr ⟨List.mem_append_right _ (List.mem_of_getElem? (i := 541) rfl), rfl⟩
  · exact List.mem_filter.mpr ⟨List.mem_append_right _ (List.mem_of_getElem? (i := 543) rfl), rfl⟩
  · exact List.mem_filter.mpr ⟨List.mem_append_right _ (List.mem_of_getElem? (i := 545) rfl), rfl⟩
  · exact List.mem_filter.mpr ⟨List.mem_append_right _ (List.mem_of_getElem? (i := 547) rfl), rfl⟩
  · exact List.mem_filter.mpr ⟨List.mem_append_right _ (List.mem_of_getElem? (i := 549) rfl), rfl⟩
  · exact List.mem_filter.mpr ⟨List.mem_append_right _ (List.mem_of_getElem? (i := 551) rfl), rfl⟩
  · exact List.mem_filter.mpr ⟨List.mem_append_right _ (List.mem_of_getElem? (i := 553) rfl), rfl⟩
  · exact List.mem_filter.mpr ⟨List.mem_append_right _ (List.mem_of_getElem? (i := 555) rfl), rfl⟩
  · exact List.mem_filter.mpr ⟨List.mem_append_right _ (List.mem_of_getElem? (i := 557) rfl), rfl⟩
  · exact List.mem_filter.mpr ⟨List.mem_append_right _ (List.mem_of_getElem? (i := 559) rfl), rfl⟩
theorem ws_D_automatonAt : Cond.selects "OmegaDesk" ⟨"OmegaDesk", "automatonAt", "(I)LOmegaDesk$Automaton;"⟩ ⟨"OmegaDesk", "automatonAt", "(I)LOmegaDesk$Automaton;"⟩ ∈ WB := List.mem_filter.mpr ⟨List.mem_append_left _ (List.mem_of_getElem? (i := 0) rfl), rfl⟩
theorem ws_D_automatonWithPlaces : Cond.selects "OmegaDesk" ⟨"OmegaDesk", "automatonWithPlaces", "(IIII)LOmegaDesk$Automaton;"⟩ ⟨"OmegaDesk", "automatonWithPlaces", "(IIII)LOmegaDesk$Automaton;"⟩ ∈ WB := List.mem_filter.mpr ⟨List.mem_append_left _ (List.mem_of_getElem? (i := 2) rfl), rfl⟩
theorem ws_A_joinAll : Cond.selects "OmegaDesk$Automaton" ⟨"OmegaDesk$Automaton", "joinAll", "(III)V"⟩ ⟨"OmegaDesk$Automaton", "joinAll", "(III)V"⟩ ∈ WB := List.mem_filter.mpr ⟨List.mem_append_left _ (List.mem_of_getElem? (i := 3) rfl), rfl⟩
theorem ws_R_reset : Cond.selects "OmegaDesk$Refuter" ⟨"OmegaDesk$Refuter", "reset", "()V"⟩ ⟨"OmegaDesk$Refuter", "reset", "()V"⟩ ∈ WB := List.mem_filter.mpr ⟨List.mem_append_left _ (List.mem_of_getElem? (i := 4) rfl), rfl⟩
theorem ws_R_findMeetings : Cond.selects "OmegaDesk$Refuter" ⟨"OmegaDesk$Refuter", "findMeetings", "(LOmegaDesk$Automaton;LOmegaDesk$Automaton;)V"⟩ ⟨"OmegaDesk$Refuter", "findMeetings", "(LOmegaDesk$Automaton;LOmegaDesk$Automaton;)V"⟩ ∈ WB := List.mem_filter.mpr ⟨List.mem_append_left _ (List.mem_of_getElem? (i := 5) rfl), rfl⟩
theorem ws_R_spreadMeeting : Cond.selects "OmegaDesk$Refuter" ⟨"OmegaDesk$Refuter", "spreadMeeting", "(LOmegaDesk$Automaton;LOmegaDesk$Automaton;II)Z"⟩ ⟨"OmegaDesk$Refuter", "spreadMeeting", "(LOmegaDesk$Automaton;LOmegaDesk$Automaton;II)Z"⟩ ∈ WB := List.mem_filter.mpr ⟨List.mem_append_left _ (List.mem_of_getElem? (i := 6) rfl), rfl⟩
theorem ws_R_offer : Cond.selects "OmegaDesk$Refuter" ⟨"OmegaDesk$Refuter", "offer", "(II)I"⟩ ⟨"OmegaDesk$Refuter", "offer", "(II)I"⟩ ∈ WB := List.mem_filter.mpr ⟨List.mem_append_left _ (List.mem_of_getElem? (i := 7) rfl), rfl⟩
theorem ws_R_slotOf : Cond.selects "OmegaDesk$Refuter" ⟨"OmegaDesk$Refuter", "slotOf", "(I)I"⟩ ⟨"OmegaDesk$Refuter", "slotOf", "(I)I"⟩ ∈ WB := List.mem_filter.mpr ⟨List.mem_append_left _ (List.mem_of_getElem? (i := 8) rfl), rfl⟩
theorem ws_R_enqueue : Cond.selects "OmegaDesk$Refuter" ⟨"OmegaDesk$Refuter", "enqueue", "(I)V"⟩ ⟨"OmegaDesk$Refuter", "enqueue", "(I)V"⟩ ∈ WB := List.mem_filter.mpr ⟨List.mem_append_left _ (List.mem_of_getElem? (i := 9) rfl), rfl⟩
theorem ws_R_nextQueued : Cond.selects "OmegaDesk$Refuter" ⟨"OmegaDesk$Refuter", "nextQueued", "()I"⟩ ⟨"OmegaDesk$Refuter", "nextQueued", "()I"⟩ ∈ WB := List.mem_filter.mpr ⟨List.mem_append_left _ (List.mem_of_getElem? (i := 10) rfl), rfl⟩
theorem ws_R_refutesWith : Cond.selects "OmegaDesk$Refuter" ⟨"OmegaDesk$Refuter", "refutesWith", "(II)Z"⟩ ⟨"OmegaDesk$Refuter", "refutesWith", "(II)Z"⟩ ∈ WB := List.mem_filter.mpr ⟨List.mem_append_left _ (List.mem_of_getElem? (i := 11) rfl), rfl⟩
theorem ws_F_searchSplit : Cond.selects "OmegaDesk$LassoFinder" ⟨"OmegaDesk$LassoFinder", "searchSplit", "(II)V"⟩ ⟨"OmegaDesk$LassoFinder", "searchSplit", "(II)V"⟩ ∈ WB := List.mem_filter.mpr ⟨List.mem_append_left _ (List.mem_of_getElem? (i := 12) rfl), rfl⟩
theorem ws_M_add : Cond.selects "OmegaDeskModel" ⟨"OmegaDeskModel", "add", "(IZ)V"⟩ ⟨"OmegaDeskModel", "add", "(IZ)V"⟩ ∈ WB := List.mem_filter.mpr ⟨List.mem_append_left _ (List.mem_of_getElem? (i := 13) rfl), rfl⟩
theorem ws_M_isEdge : Cond.selects "OmegaDeskModel" ⟨"OmegaDeskModel", "isEdge", "(IIII)Z"⟩ ⟨"OmegaDeskModel", "isEdge", "(IIII)Z"⟩ ∈ WB := List.mem_filter.mpr ⟨List.mem_append_left _ (List.mem_of_getElem? (i := 14) rfl), rfl⟩
theorem ws_M_append : Cond.selects "OmegaDeskModel" ⟨"OmegaDeskModel", "append", "(II)V"⟩ ⟨"OmegaDeskModel", "append", "(II)V"⟩ ∈ WB := List.mem_filter.mpr ⟨List.mem_append_left _ (List.mem_of_getElem? (i := 15) rfl), rfl⟩
theorem ws_M_living : Cond.selects "OmegaDeskModel" ⟨"OmegaDeskModel", "living", "(I)I"⟩ ⟨"OmegaDeskModel", "living", "(I)I"⟩ ∈ WB := List.mem_filter.mpr ⟨List.mem_append_left _ (List.mem_of_getElem? (i := 16) rfl), rfl⟩
theorem ws_M_alive : Cond.selects "OmegaDeskModel" ⟨"OmegaDeskModel", "alive", "(II)Z"⟩ ⟨"OmegaDeskModel", "alive", "(II)Z"⟩ ∈ WB := List.mem_filter.mpr ⟨List.mem_append_left _ (List.mem_of_getElem? (i := 17) rfl), rfl⟩
theorem ws_M_ahead : Cond.selects "OmegaDeskModel" ⟨"OmegaDeskModel", "ahead", "(II)I"⟩ ⟨"OmegaDeskModel", "ahead", "(II)I"⟩ ∈ WB := List.mem_filter.mpr ⟨List.mem_append_left _ (List.mem_of_getElem? (i := 18) rfl), rfl⟩
theorem ws_M_lasso : Cond.selects "OmegaDeskModel" ⟨"OmegaDeskModel", "lasso", "(IIIII)Z"⟩ ⟨"OmegaDeskModel", "lasso", "(IIIII)Z"⟩ ∈ WB := List.mem_filter.mpr ⟨List.mem_append_left _ (List.mem_of_getElem? (i := 19) rfl), rfl⟩
theorem ws_M_allBehind : Cond.selects "OmegaDeskModel" ⟨"OmegaDeskModel", "allBehind", "(IJIIII)J"⟩ ⟨"OmegaDeskModel", "allBehind", "(IJIIII)J"⟩ ∈ WB := List.mem_filter.mpr ⟨List.mem_append_left _ (List.mem_of_getElem? (i := 20) rfl), rfl⟩
theorem ws_M_behind : Cond.selects "OmegaDeskModel" ⟨"OmegaDeskModel", "behind", "(IJIIII)J"⟩ ⟨"OmegaDeskModel", "behind", "(IJIIII)J"⟩ ∈ WB := List.mem_filter.mpr ⟨List.mem_append_left _ (List.mem_of_getElem? (i := 21) rfl), rfl⟩
theorem ws_M_differs : Cond.selects "OmegaDeskModel" ⟨"OmegaDeskModel", "differs", "(II)Z"⟩ ⟨"OmegaDeskModel", "differs", "(II)Z"⟩ ∈ WB := List.mem_filter.mpr ⟨List.mem_append_left _ (List.mem_of_getElem? (i := 22) rfl), rfl⟩
theorem ws_M_begin : Cond.selects "OmegaDeskModel" ⟨"OmegaDeskModel", "begin", "(II)V"⟩ ⟨"OmegaDeskModel", "begin", "(II)V"⟩ ∈ WB := List.mem_filter.mpr ⟨List.mem_append_left _ (List.mem_of_getElem? (i := 23) rfl), rfl⟩
theorem ws_M_goOn : Cond.selects "OmegaDeskModel" ⟨"OmegaDeskModel", "goOn", "(IIII)Z"⟩ ⟨"OmegaDeskModel", "goOn", "(IIII)Z"⟩ ∈ WB := List.mem_filter.mpr ⟨List.mem_append_left _ (List.mem_of_getElem? (i := 24) rfl), rfl⟩
theorem ws_M_gather : Cond.selects "OmegaDeskModel" ⟨"OmegaDeskModel", "gather", "(III)V"⟩ ⟨"OmegaDeskModel", "gather", "(III)V"⟩ ∈ WB := List.mem_filter.mpr ⟨List.mem_append_left _ (List.mem_of_getElem? (i := 25) rfl), rfl⟩
theorem ws_M_lead : Cond.selects "OmegaDeskModel" ⟨"OmegaDeskModel", "lead", "(III)V"⟩ ⟨"OmegaDeskModel", "lead", "(III)V"⟩ ∈ WB := List.mem_filter.mpr ⟨List.mem_append_left _ (List.mem_of_getElem? (i := 26) rfl), rfl⟩
theorem ws_M_spread : Cond.selects "OmegaDeskModel" ⟨"OmegaDeskModel", "spread", "(I)V"⟩ ⟨"OmegaDeskModel", "spread", "(I)V"⟩ ∈ WB := List.mem_filter.mpr ⟨List.mem_append_left _ (List.mem_of_getElem? (i := 27) rfl), rfl⟩
theorem ws_M_longer : Cond.selects "OmegaDeskModel" ⟨"OmegaDeskModel", "longer", "(II)I"⟩ ⟨"OmegaDeskModel", "longer", "(II)I"⟩ ∈ WB := List.mem_filter.mpr ⟨List.mem_append_left _ (List.mem_of_getElem? (i := 28) rfl), rfl⟩
theorem ws_M_taken : Cond.selects "OmegaDeskModel" ⟨"OmegaDeskModel", "taken", "(II)I"⟩ ⟨"OmegaDeskModel", "taken", "(II)I"⟩ ∈ WB := List.mem_filter.mpr ⟨List.mem_append_left _ (List.mem_of_getElem? (i := 29) rfl), rfl⟩
theorem ws_M_look : Cond.selects "OmegaDeskModel" ⟨"OmegaDeskModel", "look", "(III)Z"⟩ ⟨"OmegaDeskModel", "look", "(III)Z"⟩ ∈ WB := List.mem_filter.mpr ⟨List.mem_append_left _ (List.mem_of_getElem? (i := 30) rfl), rfl⟩
theorem ws_M_fail : Cond.selects "OmegaDeskModel" ⟨"OmegaDeskModel", "fail", "(I)I"⟩ ⟨"OmegaDeskModel", "fail", "(I)I"⟩ ∈ WB := List.mem_filter.mpr ⟨List.mem_append_left _ (List.mem_of_getElem? (i := 31) rfl), rfl⟩
end
section
/-! ===== BEGIN words of one list among another's, by their places ===== -/
theorem goodIn_r {big : List Cond} (ws : List Cond) (ps : List Nat) (hp : ws = ps.filterMap (fun i => big[i]?)) (h : ws.all goodWord = true) : GoodIn big ws := by
  intro w hw
  have h1 := List.all_eq_true.mp h w hw
  rw [hp] at hw
  obtain ⟨i, -, hi⟩ := List.mem_filterMap.mp hw
  have hm : w ∈ big := by first | exact List.mem_of_getElem? hi | exact List.getElem?_mem hi
  exact ⟨hm, good_of_word h1⟩
theorem goodIn_app {big a b : List Cond} (ha : GoodIn big a) (hb : GoodIn big b) : GoodIn big (a ++ b) := fun w h => (List.mem_append.mp h).elim (ha w) (hb w)
theorem goodIn_ca {big a b : List Cond} {c : Cond} (ha : GoodIn big (c :: a)) (hb : GoodIn big b) : GoodIn big (c :: (a ++ b)) := fun w h => (List.mem_cons.mp h).elim (fun e => ha w (List.mem_cons.mpr (Or.inl e))) (fun h => (List.mem_append.mp h).elim (fun h => ha w (List.mem_cons.mpr (Or.inr h))) (hb w))
theorem goodIn_sub {big ws : List Cond} (hm : ∀ w ∈ ws, w ∈ big) (h : ws.all goodWord = true) : GoodIn big ws := fun w hw => ⟨hm w hw, good_of_word (List.all_eq_true.mp h w hw)⟩
/-! ===== END ===== -/

/-! ===== BEGIN exceptions that leave a method, and their catching by the caller (launches without stack traces) ===== -/
section VXA
/-! The laws vx_back, vx_callV, vx_callS, vx_callSW, vx_throw0, vx_throwS follow proofs of the library, with one case more: JvmDerived/Free/Laws.lean (Back.of_free), Shelf42/LK1.lean (callV, callS), Shelf/KitTraced.lean (throwNew0V, throwNewS). -/
/-- where a method has thrown q: the class by its name, the cell, what was written, the world -/
def vx_T (XC : String → State → State → Prop) (st : State) (q : Addr) (t : State) (mc ms : Nat) (free : Addr → Prop) : Prop :=
  ∃ (E : String) (ce : Cell) (L : List Loc), XC E st t ∧ t.heap[q]? = some ce ∧ ce.vm = .none ∧ st.vm.findClass E = some ce.cls ∧ st.WarmedH t.vm ∧ st.sameButNew ({ t with vm := st.vm } : State) L mc ms ∧ ∀ z ∈ L, free z.base
def vx_Q (Qc : Array Value → State → Outcome → State → Prop) (XC : String → State → State → Prop) (mc ms : Nat) (free : Addr → Prop) : Array Value → State → Outcome → State → Prop := fun a st o t =>
  (Qc a st o t ∧ ∃ L, FrameEnd st o t L mc ms ∧ ∀ q ∈ L, free q.base) ∨ ∃ q, o = .threw q ∧ vx_T XC st q t mc ms free
/-- a callee that returns or throws -/
def vx_Met (l : Launch) (y : MethodName) (ws : List Cond) (rm : Room) (Pc : Array Value → State → Prop) (Qc : Array Value → State → Outcome → State → Prop) (XC : String → State → State → Prop) (mc ms : Nat) (free : Addr → Prop) : Prop :=
  MetFree l y (headSpec ws rm) Pc (fun _ _ _ _ _ => True) (vx_Q Qc XC mc ms free)
def vx_Post (XC : String → State → State → Prop) (mc ms : Nat) (free : Addr → Prop) : Pt → Array Value → Addr → Pt → Prop := fun A a q B =>
  ∃ (g : JFrame) (mk : MethodId) (t : State) (L : List Loc) (E : String) (ce : Cell), B.U.heap = t.heap ∧ B.U.vm = t.vm ∧ XC E (A.U.calling g mk a) t ∧ t.heap[q]? = some ce ∧ ce.vm = .none ∧ A.U.vm.findClass E = some ce.cls ∧ B.locs = A.locs ++ L ∧ (∀ z ∈ L, free z.base) ∧ B.cells = A.cells + mc ∧ B.slots = A.slots + ms
def vx_Back (l : Launch) (R : Room) (p : Program) (e : Env) (below : List Frame) (s : State) (sargs : Array Value) (y : MethodName) (len W9 : Nat)
    (Pre : Pt → Array Value → Prop) (Post : Pt → Array Value → Option Value → Pt → Prop) (PostX : Pt → Array Value → Addr → Pt → Prop) : Prop :=
  ∀ (m : MethodId) (meth : Method) (c : Code) (A : Pt) (g : JFrame) (ig : Instr) (mk : MethodId) (a : Array Value),
    Stand p l e R s m sargs below meth c A.U A.locs A.cells A.slots → g.method = m → g.locals.size = c.maxLocals → decode c.code g.pc = .ok (ig, len) →
    2 * g.monitorRoom + (g.stack.map fun v => v.category).sum ≤ W9 → A.U.methodNamed? y = some mk → Pre A a →
    (∃ (v : Option Value) (B : Pt), Stand p l e R s m sargs below meth c B.U B.locs B.cells B.slots ∧ Post A a v B ∧
      Steps p.tables e below (doInvoke e (A.U.setTop g) [] mk a).1 (B.U.setTop { g with pc := g.pc + len, stack := v.toList ++ g.stack })) ∨
    (∃ (q : Addr) (B : Pt), Stand p l e R s m sargs below meth c B.U B.locs B.cells B.slots ∧ PostX A a q B ∧
      Steps p.tables e below (doInvoke e (A.U.setTop g) [] mk a).1 ((B.U.setTop g).pushFrame (.throwing q)))
section Payer
variable {l : Launch} {R : Room} {p : Program} {e : Env} {below : List Frame} {s : State} {sargs : Array Value} {y : MethodName} {len W9 : Nat}
theorem vx_back {ws : List Cond} {rm : Room} {Pc : Array Value → State → Prop} {Qc : Array Value → State → Outcome → State → Prop} {XC : String → State → State → Prop} {mc ms : Nat} {free : Addr → Prop} {bytes : ByteArray} {maxL : Nat} {ret : Option FieldType}
    (hM : vx_Met l y ws rm Pc Qc XC mc ms free) (hblind : FrameBlind Pc) (hrc : rm.cells = mc) (hrs : rm.slots = ms)
    (hframes : rm.frames + 1 ≤ R.frames) (hlocals : W9 + (maxL + 11) + rm.locals ≤ R.locals)
    (hws : ∀ w ∈ ws, ∀ a' U, s.WarmedH U.vm → w.before a' U = true) (hcode : Cond.code y bytes maxL ret ∈ ws) (hinit : ∀ a' U, s.WarmedH U.vm → (Cond.initialized y.cls).before a' U = true) :
    vx_Back l R p e below s sargs y len W9 (PreOf R mc ms Pc) (PostOf Qc mc ms free) (vx_Post XC mc ms free) := by
  intro m meth c A g ig mk a X hg hsize hdg hW hn hp
  have h1 : (headSpec ws rm).pre.before a A.U = true := atoms_intro fun w hw => hws w hw _ _ X.warmed
  have h2 : (Cond.code y bytes maxL ret).before a A.U = true := hws _ hcode _ _ X.warmed
  have h3 : (Cond.initialized y.cls).before a A.U = true := hinit _ _ X.warmed
  have h4 : A.cells + (headSpec ws rm).room.cells ≤ R.cells := by rw [show (headSpec ws rm).room.cells = mc from hrc]; exact hp.1
  have h5 : A.slots + (headSpec ws rm).room.slots ≤ R.slots := by rw [show (headSpec ws rm).room.slots = ms from hrs]; exact hp.2.1
  have hPc : Pc a (A.U.calling g mk a) := hblind _ _ _ _ hp.2.2
  obtain ⟨U, Ls, c0, s0⟩ := A
  dsimp only [Pt.U, Pt.locs, Pt.cells, Pt.slots] at h1 h2 h3 h4 h5 X hn hPc ⊢
  obtain ⟨methY, cY, hmY, hcY, -, hlY, -, -, -, -⟩ := Cond.code_spec hn h2
  obtain ⟨kY, hkY, -⟩ := className_of_methodNamed hn
  have hinitY : kY.init = .initialized := Cond.initialized_spec (findClass_of_methodNamed hn) hkY h3
  have h : At U g.method c below := by rw [hg]; exact X.here
  have hlocals9 : W9 + (maxL + 11) + (headSpec ws rm).room.locals ≤ R.locals := hlocals
  have happ : (headSpec ws rm).appliesLoose y e.platform (U.calling g mk a) = true :=
    Spec.appliesLoose_calling (g := g) h hdg hn hkY hinitY
      (X.room_calling (g := g) (R' := (headSpec ws rm).room) hsize hmY hcY hframes (by rw [hlY]; omega) h4 h5) h1
  obtain ⟨mid, hmid⟩ := h.above
  have hfr : (U.setTop g).frames = (.java g :: mid) ++ below := by rw [State.frames_setTop' g h.top, hmid]; rfl
  obtain ⟨o, s₂, hsteps, -, hend, hq⟩ := Steps.callFree hM p X.admits X.cas X.clock (acts := []) hfr happ hPc trivial
  have hq' : vx_Q Qc XC mc ms free a (U.calling g mk a) o s₂ := hq
  rw [State.frames_setTop' g h.top] at hend
  obtain ⟨g₀, hg0⟩ := Option.isSome_iff_exists.mp h.top
  obtain ⟨r, hr⟩ := State.topJava?_eq_some.mp hg0
  have hr' : (({ U with heap := s₂.heap, slotsUsed := s₂.slotsUsed } : State).setVm s₂.vm).frames = .java g₀ :: r := hr
  rcases hq' with ⟨hqc, L, hfe, hL⟩ | ⟨q, rfl, E, ce, L, hx, hce, hcv, hcl, hW₂, hsm, hL⟩
  · obtain ⟨⟨v, rfl⟩, hW₂, e2, q2, q3, q4, q5, q6⟩ := id hfe
    have e3 : s₂ = ({ (U.calling g mk a).setFrames s₂.frames with heap := s₂.heap, slotsUsed := s₂.slotsUsed } : State).setVm s₂.vm := by
      have : s₂ = ({ s₂ with vm := (U.calling g mk a).vm } : State).setVm s₂.vm := rfl
      rw [e2] at this
      exact this
    obtain ⟨c₂, i₂, len₂, hc₂, hd₂, hf₂⟩ := hend
    have hW' : U.WarmedH s₂.vm := hW₂
    have hcc : c₂ = c := by
      have h1 : s₂.code? g.method = U.code? g.method := by
        rw [State.code?_eq, State.code?_eq, hW'.alike.method?]
      exact Option.some.inj (hc₂.symm.trans (h1.trans h.code))
    subst hcc
    have hlen : len₂ = len := by rw [hdg] at hd₂; cases hd₂; rfl
    subst hlen
    have hs₂ : s₂ = (({ U with heap := s₂.heap, slotsUsed := s₂.slotsUsed } : State).setVm s₂.vm).setTop { g with pc := g.pc + len₂, stack := v.toList ++ g.stack } := by
      refine e3.trans ?_
      rw [hf₂, State.calling_eq h.top, State.setFrames_setFrames, State.setTop_of_frames _ hr', hr]
      rfl
    have hsame : U.sameButNew ({ U with heap := s₂.heap, slotsUsed := s₂.slotsUsed } : State) L mc ms := by
      refine ⟨?_, q2, q3, q4, q5, q6⟩
      obtain ⟨t, ht, -⟩ := State.frames_cons hr
      show ({ U with heap := s₂.heap, slotsUsed := s₂.slotsUsed } : State) = { U.setFrames U.frames with heap := s₂.heap, slotsUsed := s₂.slotsUsed }
      rw [State.setFrames_self ht]
    subst hg
    refine Or.inl ⟨v, ⟨(({ U with heap := s₂.heap, slotsUsed := s₂.slotsUsed } : State).setVm s₂.vm), Ls ++ L, c0 + mc, s0 + ms⟩,
      ⟨X.admits, X.cas, X.clock, X.frames, X.room, X.hears, X.method, X.code, (X.here.setHeapUsed s₂.heap s₂.slotsUsed).setVm hW'.alike, X.tail, State.WarmedH.trans X.warmed hW', X.limits, X.bytes, X.same.trans (hsame.setVm s.vm)⟩,
      ⟨g, mk, s₂, L, rfl, rfl, hqc, rfl, hL, rfl, rfl⟩, ?_⟩
    show Steps p.tables e below _ ((({ U with heap := s₂.heap, slotsUsed := s₂.slotsUsed } : State).setVm s₂.vm).setTop { g with pc := g.pc + len₂, stack := v.toList ++ g.stack })
    rw [← hs₂]
    exact hsteps
  · obtain ⟨e2, q2, q3, q4, q5, q6⟩ := id hsm
    have e3 : s₂ = ({ (U.calling g mk a).setFrames s₂.frames with heap := s₂.heap, slotsUsed := s₂.slotsUsed } : State).setVm s₂.vm := by
      have : s₂ = ({ s₂ with vm := (U.calling g mk a).vm } : State).setVm s₂.vm := rfl
      rw [e2] at this
      exact this
    have hf₂ : s₂.frames = .throwing q :: .java g :: U.frames.tail := hend
    have hW' : U.WarmedH s₂.vm := hW₂
    have hs₂ : s₂ = ((({ U with heap := s₂.heap, slotsUsed := s₂.slotsUsed } : State).setVm s₂.vm).setTop g).pushFrame (.throwing q) := by
      refine e3.trans ?_
      rw [hf₂, State.calling_eq h.top, State.setFrames_setFrames, State.pushFrame, State.frames_setTop _ hr', State.setTop_of_frames _ hr', State.setFrames_setFrames, hr]
      rfl
    have hsame : U.sameButNew ({ U with heap := s₂.heap, slotsUsed := s₂.slotsUsed } : State) L mc ms := by
      refine ⟨?_, q2, q3, q4, q5, q6⟩
      obtain ⟨t, ht, -⟩ := State.frames_cons hr
      show ({ U with heap := s₂.heap, slotsUsed := s₂.slotsUsed } : State) = { U.setFrames U.frames with heap := s₂.heap, slotsUsed := s₂.slotsUsed }
      rw [State.setFrames_self ht]
    subst hg
    refine Or.inr ⟨q, ⟨(({ U with heap := s₂.heap, slotsUsed := s₂.slotsUsed } : State).setVm s₂.vm), Ls ++ L, c0 + mc, s0 + ms⟩,
      ⟨X.admits, X.cas, X.clock, X.frames, X.room, X.hears, X.method, X.code, (X.here.setHeapUsed s₂.heap s₂.slotsUsed).setVm hW'.alike, X.tail, State.WarmedH.trans X.warmed hW', X.limits, X.bytes, X.same.trans (hsame.setVm s.vm)⟩,
      ⟨g, mk, s₂, L, E, ce, rfl, rfl, hx, hce, hcv, hcl, rfl, hL, rfl, rfl⟩, ?_⟩
    show Steps p.tables e below _ (((({ U with heap := s₂.heap, slotsUsed := s₂.slotsUsed } : State).setVm s₂.vm).setTop g).pushFrame (.throwing q))
    rw [← hs₂]
    exact hsteps
end Payer
section Calls
variable {p : Program} {l : Launch} {e : Env} {R : Room} {s : State} {m : MethodId} {args : Array Value} {below : List Frame} {meth : Method} {c : Code} {T : State} {locs : List Loc} {cells slots : Nat}
theorem vx_callV (X : Stand p l e R s m args below meth c T locs cells slots) (hexec : p.tables.exec = Jvm.exec) {own C : String} {index : Nat} {y : MethodName} {bytes : ByteArray} {maxL : Nat} {ret : Option FieldType}
    (hown : s.vm.findClass own = some m.cls) (hlink : (Cond.methodLink own index y).before args s = true) (hinst : (Cond.instanceMethod y).before args s = true) (hsel : (Cond.selects C y y).before args s = true)
    (hcode : (Cond.code y bytes maxL ret).before args s = true) (hy : y.cls ≠ "java/lang/invoke/MethodHandle" ∧ y.cls ≠ "java/lang/invoke/VarHandle")
    {W9 : Nat} {Pre : Pt → Array Value → Prop} {Post : Pt → Array Value → Option Value → Pt → Prop} {PostX : Pt → Array Value → Addr → Pt → Prop} (hK : vx_Back l R p e below s args y 3 W9 Pre Post PostX)
    {b : Addr} {cellB : Cell} (hcell : T.heap[b]? = some cellB) (hobj : cellB.vm.isStatics = false) (hcls : s.vm.findClass C = some cellB.cls)
    {g : JFrame} (hg : g.method = m) (hsize : g.locals.size = c.maxLocals) {argsL rest : List Value} (hlen : ∀ sig, parseMethodDescriptor y.desc = some sig → argsL.length = sig.parameters.length)
    (hstack : g.stack = argsL.reverse ++ .ref b :: rest) (hW : 2 * g.monitorRoom + (rest.map fun v => v.category).sum ≤ W9) (hdg : decode c.code g.pc = .ok (.invokevirtual index, 3))
    (hpre : ∀ vm₁, s.WarmedH vm₁ → Pre ⟨T.setVm vm₁, locs, cells, slots⟩ (Value.ref b :: argsL).toArray) :
    (∃ (v : Option Value) (vm₁ : Vm) (B : Pt), s.WarmedH vm₁ ∧ Stand p l e R s m args below meth c B.U B.locs B.cells B.slots ∧ Post ⟨T.setVm vm₁, locs, cells, slots⟩ (Value.ref b :: argsL).toArray v B ∧
      ∀ target, Steps p.tables e below (B.U.setTop { g with pc := g.pc + 3, stack := v.toList ++ rest }) target → Steps p.tables e below (T.setTop g) target) ∨
    (∃ (q : Addr) (vm₁ : Vm) (B : Pt), s.WarmedH vm₁ ∧ Stand p l e R s m args below meth c B.U B.locs B.cells B.slots ∧ PostX ⟨T.setVm vm₁, locs, cells, slots⟩ (Value.ref b :: argsL).toArray q B ∧
      Steps p.tables e below (T.setTop g) ((B.U.setTop { g with stack := rest }).pushFrame (.throwing q))) := by
  obtain ⟨mk, methM, hnamed, hmethM, hstM, habM⟩ := Cond.instanceMethod_spec hinst
  obtain ⟨methM', cM, hmethM', -, -, -, -, -, -, hsigM⟩ := Cond.code_spec hnamed hcode
  cases hmethM.symm.trans hmethM'
  obtain ⟨c2, r2, m2, q1, q2, q3, q4, kP, hkP, hkPi⟩ := Cond.selects_spec hsel
  cases hcls.symm.trans q1
  cases (State.methodFound?_of_named hnamed hy).symm.trans q2
  cases hnamed.symm.trans q3
  have hselP : selectMethod e.platform s.vm cellB.cls mk = .method mk := by rw [Launch.admits_selectMethod X.admits]; exact q4
  obtain ⟨vm₁, X₁, hstep₁⟩ := X.invokevirtual hexec hown hlink hnamed hmethM hstM hkP hkPi hy (a := b) (cell := cellB) hcell
    (fun z h => by rw [h] at hobj; cases hobj) hselP hmethM habM hkP hkPi (g := g) hg (argsL := argsL) (rest := rest) (hlen _ hsigM) hstack hdg
  rcases hK m meth c ⟨T.setVm vm₁, locs, cells, slots⟩ { g with stack := rest } (.invokevirtual index) mk (Value.ref b :: argsL).toArray X₁ hg hsize hdg hW (X₁.named hnamed) (hpre vm₁ X₁.warmed) with ⟨v, B, X', hpost, hsteps⟩ | ⟨q, B, X', hpost, hsteps⟩
  · exact Or.inl ⟨v, vm₁, B, X₁.warmed, X', hpost, fun target h => hstep₁ _ fun acts => by rw [doInvoke_state]; exact hsteps.trans h⟩
  · exact Or.inr ⟨q, vm₁, B, X₁.warmed, X', hpost, hstep₁ _ fun acts => by rw [doInvoke_state]; exact hsteps⟩
theorem vx_callS (X : Stand p l e R s m args below meth c T locs cells slots) (hexec : p.tables.exec = Jvm.exec) {own : String} {index : Nat} {y : MethodName} {bytes : ByteArray} {maxL : Nat} {ret : Option FieldType}
    (hown : s.vm.findClass own = some m.cls) (hlink : (Cond.methodLink own index y).before args s = true) (hstat : (Cond.static y).before args s = true) (hinit : (Cond.initialized y.cls).before args s = true)
    (hcode : (Cond.code y bytes maxL ret).before args s = true) (hy : y.cls ≠ "java/lang/invoke/MethodHandle" ∧ y.cls ≠ "java/lang/invoke/VarHandle")
    {W9 : Nat} {Pre : Pt → Array Value → Prop} {Post : Pt → Array Value → Option Value → Pt → Prop} {PostX : Pt → Array Value → Addr → Pt → Prop} (hK : vx_Back l R p e below s args y 3 W9 Pre Post PostX)
    {g : JFrame} (hg : g.method = m) (hsize : g.locals.size = c.maxLocals) {argsL rest : List Value} (hlen : ∀ sig, parseMethodDescriptor y.desc = some sig → argsL.length = sig.parameters.length)
    (hstack : g.stack = argsL.reverse ++ rest) (hW : 2 * g.monitorRoom + (rest.map fun v => v.category).sum ≤ W9) (hdg : decode c.code g.pc = .ok (.invokestatic index, 3))
    (hpre : ∀ vm₁, s.WarmedH vm₁ → Pre ⟨T.setVm vm₁, locs, cells, slots⟩ argsL.toArray) :
    (∃ (v : Option Value) (vm₁ : Vm) (B : Pt), s.WarmedH vm₁ ∧ Stand p l e R s m args below meth c B.U B.locs B.cells B.slots ∧ Post ⟨T.setVm vm₁, locs, cells, slots⟩ argsL.toArray v B ∧
      ∀ target, Steps p.tables e below (B.U.setTop { g with pc := g.pc + 3, stack := v.toList ++ rest }) target → Steps p.tables e below (T.setTop g) target) ∨
    (∃ (q : Addr) (vm₁ : Vm) (B : Pt), s.WarmedH vm₁ ∧ Stand p l e R s m args below meth c B.U B.locs B.cells B.slots ∧ PostX ⟨T.setVm vm₁, locs, cells, slots⟩ argsL.toArray q B ∧
      Steps p.tables e below (T.setTop g) ((B.U.setTop { g with stack := rest }).pushFrame (.throwing q))) := by
  obtain ⟨mk, hnamed⟩ := Cond.code_named hcode
  obtain ⟨methM, cM, hmethM, -, -, -, -, -, -, hsigM⟩ := Cond.code_spec hnamed hcode
  have hstatic : methM.isStatic = true := Cond.static_spec hnamed hmethM hstat
  obtain ⟨kP, hkP, -⟩ := className_of_methodNamed hnamed
  have hinitP : kP.init = .initialized := Cond.initialized_spec (findClass_of_methodNamed hnamed) hkP hinit
  obtain ⟨vm₁, X₁, hstep₁⟩ := X.invokestatic hexec hown hlink hnamed hmethM hstatic hkP hinitP hy (g := g) hg (argsL := argsL) (rest := rest) (hlen _ hsigM) hstack hdg
  rcases hK m meth c ⟨T.setVm vm₁, locs, cells, slots⟩ { g with stack := rest } (.invokestatic index) mk argsL.toArray X₁ hg hsize hdg hW (X₁.named hnamed) (hpre vm₁ X₁.warmed) with ⟨v, B, X', hpost, hsteps⟩ | ⟨q, B, X', hpost, hsteps⟩
  · exact Or.inl ⟨v, vm₁, B, X₁.warmed, X', hpost, fun target h => hstep₁ _ fun acts => by rw [doInvoke_state]; exact hsteps.trans h⟩
  · exact Or.inr ⟨q, vm₁, B, X₁.warmed, X', hpost, hstep₁ _ fun acts => by rw [doInvoke_state]; exact hsteps⟩
end Calls
theorem vx_cls {s : State} {T : State} {vm₁ : Vm} {E : String} {k : ClassId} (hW : s.WarmedH vm₁) (h : (T.setVm vm₁).vm.findClass E = some k) : s.vm.findClass E = some k := by
  have h1 : vm₁.findClass E = some k := h
  rw [hW.alike.findClass] at h1
  exact h1
/-- the method's frame g, with q thrown over it -/
def vx_W (p : Program) (l : Launch) (e : Env) (R : Room) (s : State) (m : MethodId) (args : Array Value) (below : List Frame) (meth : Method) (c : Code) (H : Heap) (locs : List Loc) (cells slots : Nat) (Q : State → Prop) (g : JFrame) (q : Addr) : Prop :=
  ∀ T : State, T.heap = H → Stand p l e R s m args below meth c T locs cells slots → ∃ t, Steps p.tables e below ((T.setTop g).pushFrame (.throwing q)) t ∧ Q t
def vx_Run (p : Program) (l : Launch) (e : Env) (R : Room) (s : State) (m : MethodId) (args : Array Value) (below : List Frame) (meth : Method) (c : Code) (H : Heap) (locs : List Loc) (cells slots mc ms : Nat) (g : JFrame) (rest : List Value) (Qa : State → Outcome → State → Prop) (XC : String → State → State → Prop) (free : Addr → Prop) : Prop :=
  ∀ T : State, T.heap = H → Stand p l e R s m args below meth c T locs cells slots →
    (∃ (v : Option Value) (st₀ t T' : State) (L : List Loc), st₀.heap = H ∧ Stand p l e R s m args below meth c T' (locs ++ L) (cells + mc) (slots + ms) ∧ (∀ q ∈ L, free q.base) ∧ T'.heap = t.heap ∧ T'.vm = t.vm ∧ Qa st₀ (.returned v) t ∧
      Goes p e below T g T' { g with pc := g.pc + 3, stack := v.toList ++ rest }) ∨
    (∃ (q : Addr) (st₀ t T' : State) (L : List Loc) (E : String) (ce : Cell), st₀.heap = H ∧ Stand p l e R s m args below meth c T' (locs ++ L) (cells + mc) (slots + ms) ∧ (∀ z ∈ L, free z.base) ∧ T'.heap = t.heap ∧ T'.vm = t.vm ∧ XC E st₀ t ∧ t.heap[q]? = some ce ∧ ce.vm = .none ∧ s.vm.findClass E = some ce.cls ∧
      Steps p.tables e below (T.setTop g) ((T'.setTop { g with stack := rest }).pushFrame (.throwing q)))
def vx_X {S : Type} (px : S → Prop) (B : String → S → State → Prop) (A : Nat → Prop) : String → State → State → Prop := fun E st t => ∃ u : S, px u ∧ B E u t ∧ va_F A st t
section Runs
variable {p : Program} {l : Launch} {e : Env} {R : Room} {s : State} {m : MethodId} {args : Array Value} {below : List Frame} {meth : Method} {c : Code} {H : Heap} {locs : List Loc} {cells slots : Nat}
variable {y : MethodName} {bytes cc : ByteArray} {maxL nL mc ms n index : Nat} {ret : Option FieldType} {ws : List Cond} {rm : Room} {Pc : Array Value → State → Prop} {Qc : Array Value → State → Outcome → State → Prop} {XC : String → State → State → Prop} {free : Addr → Prop} {Ts : List Cond} {own C : String} {b : Addr} {As rest : List Value} {g : JFrame}
theorem vx_callBack (cb : CallB R s args own index y bytes maxL ret ws rm mc ms n) (hM : vx_Met l y ws rm Pc Qc XC mc ms free) (hbl : FrameBlind Pc) : vx_Back l R p e below s args y 3 8 (PreOf R mc ms Pc) (PostOf Qc mc ms free) (vx_Post XC mc ms free) := by
  obtain ⟨hrc, hrs, hfr, hlo, hws, hcw, -, hini, -⟩ := cb
  exact vx_back (bytes := bytes) (maxL := maxL) (ret := ret) hM hbl hrc hrs hfr hlo hws hcw (fun a' U hW => word_at hW (Or.inl (by first | rfl | simp [Cond.onTables, Cond.keeps, Cond.steady])) hini)
theorem vx_runV (S : CallFix p m c cc nL s args Ts own) (hM : vx_Met l y ws rm Pc Qc XC mc ms free) (cw : CallW R s args own C index y bytes maxL ret ws rm mc ms n) (hp : PreV s H C b Pc As)
    (hg : g.method = m) (hn : As.length = n) (hsize : g.locals.size = nL) (hstack : g.stack = As.reverse ++ .ref b :: rest) (hW : 2 * g.monitorRoom + (rest.map fun v => v.category).sum ≤ 8) (hdg : decode cc g.pc = .ok (.invokevirtual index, 3)) (hf : cells + mc ≤ R.cells ∧ slots + ms ≤ R.slots) :
    vx_Run p l e R s m args below meth c H locs cells slots mc ms g rest (Qc (Value.ref b :: As).toArray) XC free := by
  have hK : vx_Back l R p e below s args y 3 8 (PreOf R mc ms Pc) (PostOf Qc mc ms free) (vx_Post XC mc ms free) := vx_callBack cw.1 hM hp.1
  obtain ⟨⟨-, -, -, -, -, -, hcode, -, hy, hlen, hl⟩, hin, hse⟩ := cw
  obtain ⟨hx, hb, hml, ho, -⟩ := S
  obtain ⟨-, ⟨cellB, hcB, hoB, hclB⟩, hPc⟩ := hp
  intro T hT X
  rcases vx_callV X hx (C := C) (bytes := bytes) (maxL := maxL) (ret := ret) ho hl hin hse hcode hy hK (by rw [hT]; exact hcB) hoB hclB hg (hsize.trans hml.symm) (argsL := As) (rest := rest) (fun sig h => hn.trans (hlen sig h)) hstack hW (by rw [hb]; exact hdg)
    (fun vm₁ hW₁ => ⟨hf.1, hf.2, hPc (T.setVm vm₁) hT hW₁⟩) with ⟨v, vm₁, ⟨U', l2, c2, s2⟩, hW₁, X', ⟨g', mk, t, L, e1, e2, hq, h1, hL, h2, h3⟩, st⟩ | ⟨q, vm₁, ⟨U', l2, c2, s2⟩, hW₁, X', ⟨g', mk, t, L, E, ce, e1, e2, hq, hce, hcv, hcl, h1, hL, h2, h3⟩, st⟩
  · dsimp only [Pt.U, Pt.locs, Pt.cells, Pt.slots] at X' e1 e2 h1 h2 h3 st
    subst h1; subst h2; subst h3
    exact Or.inl ⟨v, (T.setVm vm₁).calling g' mk (Value.ref b :: As).toArray, t, U', L, hT, X', hL, e1, e2, hq, st⟩
  · dsimp only [Pt.U, Pt.locs, Pt.cells, Pt.slots] at X' e1 e2 h1 h2 h3 st hcl
    subst h1; subst h2; subst h3
    exact Or.inr ⟨q, (T.setVm vm₁).calling g' mk (Value.ref b :: As).toArray, t, U', L, E, ce, hT, X', hL, e1, e2, hq, hce, hcv, vx_cls hW₁ hcl, st⟩
theorem vx_runS (S : CallFix p m c cc nL s args Ts own) (hM : vx_Met l y ws rm Pc Qc XC mc ms free) (cw : CallB R s args own index y bytes maxL ret ws rm mc ms n ∧ (Cond.static y).before args s = true) (hp : PreS s H Pc As)
    (hg : g.method = m) (hn : As.length = n) (hsize : g.locals.size = nL) (hstack : g.stack = As.reverse ++ rest) (hW : 2 * g.monitorRoom + (rest.map fun v => v.category).sum ≤ 8) (hdg : decode cc g.pc = .ok (.invokestatic index, 3)) (hf : cells + mc ≤ R.cells ∧ slots + ms ≤ R.slots) :
    vx_Run p l e R s m args below meth c H locs cells slots mc ms g rest (Qc As.toArray) XC free := by
  have hK : vx_Back l R p e below s args y 3 8 (PreOf R mc ms Pc) (PostOf Qc mc ms free) (vx_Post XC mc ms free) := vx_callBack cw.1 hM hp.1
  obtain ⟨⟨-, -, -, -, -, -, hcode, hini, hy, hlen, hl⟩, hstt⟩ := cw
  obtain ⟨hx, hb, hml, ho, -⟩ := S
  intro T hT X
  rcases vx_callS X hx (bytes := bytes) (maxL := maxL) (ret := ret) ho hl hstt hini hcode hy hK hg (hsize.trans hml.symm) (argsL := As) (rest := rest) (fun sig h => hn.trans (hlen sig h)) hstack hW (by rw [hb]; exact hdg)
    (fun vm₁ hW₁ => ⟨hf.1, hf.2, hp.2 (T.setVm vm₁) hT hW₁⟩) with ⟨v, vm₁, ⟨U', l2, c2, s2⟩, hW₁, X', ⟨g', mk, t, L, e1, e2, hq, h1, hL, h2, h3⟩, st⟩ | ⟨q, vm₁, ⟨U', l2, c2, s2⟩, hW₁, X', ⟨g', mk, t, L, E, ce, e1, e2, hq, hce, hcv, hcl, h1, hL, h2, h3⟩, st⟩
  · dsimp only [Pt.U, Pt.locs, Pt.cells, Pt.slots] at X' e1 e2 h1 h2 h3 st
    subst h1; subst h2; subst h3
    exact Or.inl ⟨v, (T.setVm vm₁).calling g' mk As.toArray, t, U', L, hT, X', hL, e1, e2, hq, st⟩
  · dsimp only [Pt.U, Pt.locs, Pt.cells, Pt.slots] at X' e1 e2 h1 h2 h3 st hcl
    subst h1; subst h2; subst h3
    exact Or.inr ⟨q, (T.setVm vm₁).calling g' mk As.toArray, t, U', L, E, ce, hT, X', hL, e1, e2, hq, hce, hcv, vx_cls hW₁ hcl, st⟩
end Runs
section Rows
variable {p : Program} {l : Launch} {e : Env} {R : Room} {s : State} {m : MethodId} {args : Array Value} {below : List Frame} {meth : Method} {c : Code} {H : Heap} {locs : List Loc} {cells slots : Nat} {Q : State → Prop}
variable {mc ms : Nat} {free : Addr → Prop} {A0 A1 : Nat → Prop} {H0 : Heap} {a : Array Value} {pc : Nat} {ls : Array Slot} {st0 rest : List Value}
theorem vx_keep {st₀ t T' : State} {L : List Loc} (h0 : st₀.heap = H) (e1 : T'.heap = t.heap) (hS : va_S A0 H0 H locs) (hA : ∀ q, q < H.size → A1 q → A0 q) (hf : ∀ q, free q → A0 q) (hL : ∀ q ∈ L, free q.base) (hF : va_F A1 st₀ t) :
    H.size ≤ T'.heap.size ∧ (∀ q : Nat, q < H.size → ¬ A1 q → T'.heap[q]? = H[q]?) ∧ va_S A0 H0 T'.heap (locs ++ L) := by
  obtain ⟨hz, hk⟩ := hF
  rw [h0] at hz hk
  exact ⟨by rw [e1]; exact hz, fun q h1 h2 => by rw [e1]; exact hk q h1 h2,
    ⟨Nat.le_trans hS.1 (by rw [e1]; exact hz), fun q h1 h2 => by rw [e1, hk q (Nat.lt_of_lt_of_le h1 hS.1) (fun z => h2 (hA q (Nat.lt_of_lt_of_le h1 hS.1) z))]; exact hS.2.1 q h1 h2, fun q hq => by
      rcases List.mem_append.mp hq with h | h
      · exact hS.2.2 q h
      · exact hf _ (hL q h)⟩⟩
theorem vx_calli {S SX : Type} {post : Int32 → S → Prop} {px : SX → Prop} {B : S → State → Prop} {BX : String → SX → State → Prop} {AX : Nat → Prop} (hr : vx_Run p l e R s m args below meth c H locs cells slots mc ms (F0 m pc ls st0) rest (va_Qi post B A1 a) (vx_X px BX AX) free) (hS : va_S A0 H0 H locs) (hA : ∀ q, q < H.size → A1 q → A0 q) (hf : ∀ q, free q → A0 q) (hAX : ∀ q, q < H.size → AX q → A0 q)
    (kx : ∀ (E : String) (ce : Cell) (q9 : Addr) (u : SX) (t : State) (H1 : Heap) (locs1 : List Loc), t.heap = H1 → s.vm.Alike t.vm → px u → BX E u t → H.size ≤ H1.size → (∀ q : Nat, q < H.size → ¬ AX q → H1[q]? = H[q]?) → va_S A0 H0 H1 locs1 → H1[q9]? = some ce → ce.vm = .none → s.vm.findClass E = some ce.cls → vx_W p l e R s m args below meth c H1 locs1 (cells + mc) (slots + ms) Q (F0 m pc ls rest) q9)
    (kk : ∀ (r : Int32) (u : S) (t : State) (H1 : Heap) (locs1 : List Loc), t.heap = H1 → s.vm.Alike t.vm → post r u → B u t → H.size ≤ H1.size → (∀ q : Nat, q < H.size → ¬ A1 q → H1[q]? = H[q]?) → va_S A0 H0 H1 locs1 → W p l e R s m args below meth c H1 locs1 (cells + mc) (slots + ms) Q (F0 m (pc + 3) ls (.int r :: rest))) : W p l e R s m args below meth c H locs cells slots Q (F0 m pc ls st0) := by
  intro T hT X
  rcases hr T hT X with ⟨v, st₀, t, T', L, h0, X', hL, e1, e2, ⟨⟨r, u, hv, hp, hb⟩, hF⟩, st⟩ | ⟨q, st₀, t, T', L, E, ce, h0, X', hL, e1, e2, ⟨u, hp, hb, hF⟩, hce, hcv, hcl, st⟩
  · cases hv
    obtain ⟨k1, k2, k3⟩ := vx_keep h0 e1 hS hA hf hL hF
    obtain ⟨t2, a1, b1⟩ := kk r u t T'.heap (locs ++ L) e1.symm (by rw [← e2]; exact X'.warmed.alike) hp hb k1 k2 k3 T' rfl X'
    exact ⟨t2, st t2 a1, b1⟩
  · obtain ⟨k1, k2, k3⟩ := vx_keep h0 e1 hS hAX hf hL hF
    obtain ⟨t2, a1, b1⟩ := kx E ce q u t T'.heap (locs ++ L) e1.symm (by rw [← e2]; exact X'.warmed.alike) hp hb k1 k2 k3 (by rw [e1]; exact hce) hcv hcl T' rfl X'
    exact ⟨t2, st.trans a1, b1⟩
theorem vx_calll {S SX : Type} {post : Int64 → S → Prop} {px : SX → Prop} {B : S → State → Prop} {BX : String → SX → State → Prop} {AX : Nat → Prop} (hr : vx_Run p l e R s m args below meth c H locs cells slots mc ms (F0 m pc ls st0) rest (va_Ql post B A1 a) (vx_X px BX AX) free) (hS : va_S A0 H0 H locs) (hA : ∀ q, q < H.size → A1 q → A0 q) (hf : ∀ q, free q → A0 q) (hAX : ∀ q, q < H.size → AX q → A0 q)
    (kx : ∀ (E : String) (ce : Cell) (q9 : Addr) (u : SX) (t : State) (H1 : Heap) (locs1 : List Loc), t.heap = H1 → s.vm.Alike t.vm → px u → BX E u t → H.size ≤ H1.size → (∀ q : Nat, q < H.size → ¬ AX q → H1[q]? = H[q]?) → va_S A0 H0 H1 locs1 → H1[q9]? = some ce → ce.vm = .none → s.vm.findClass E = some ce.cls → vx_W p l e R s m args below meth c H1 locs1 (cells + mc) (slots + ms) Q (F0 m pc ls rest) q9)
    (kk : ∀ (r : Int64) (u : S) (t : State) (H1 : Heap) (locs1 : List Loc), t.heap = H1 → s.vm.Alike t.vm → post r u → B u t → H.size ≤ H1.size → (∀ q : Nat, q < H.size → ¬ A1 q → H1[q]? = H[q]?) → va_S A0 H0 H1 locs1 → W p l e R s m args below meth c H1 locs1 (cells + mc) (slots + ms) Q (F0 m (pc + 3) ls (.long r :: rest))) : W p l e R s m args below meth c H locs cells slots Q (F0 m pc ls st0) := by
  intro T hT X
  rcases hr T hT X with ⟨v, st₀, t, T', L, h0, X', hL, e1, e2, ⟨⟨r, u, hv, hp, hb⟩, hF⟩, st⟩ | ⟨q, st₀, t, T', L, E, ce, h0, X', hL, e1, e2, ⟨u, hp, hb, hF⟩, hce, hcv, hcl, st⟩
  · cases hv
    obtain ⟨k1, k2, k3⟩ := vx_keep h0 e1 hS hA hf hL hF
    obtain ⟨t2, a1, b1⟩ := kk r u t T'.heap (locs ++ L) e1.symm (by rw [← e2]; exact X'.warmed.alike) hp hb k1 k2 k3 T' rfl X'
    exact ⟨t2, st t2 a1, b1⟩
  · obtain ⟨k1, k2, k3⟩ := vx_keep h0 e1 hS hAX hf hL hF
    obtain ⟨t2, a1, b1⟩ := kx E ce q u t T'.heap (locs ++ L) e1.symm (by rw [← e2]; exact X'.warmed.alike) hp hb k1 k2 k3 (by rw [e1]; exact hce) hcv hcl T' rfl X'
    exact ⟨t2, st.trans a1, b1⟩
theorem vx_callf {S SX : Type} {post : UInt32 → S → Prop} {px : SX → Prop} {B : S → State → Prop} {BX : String → SX → State → Prop} {AX : Nat → Prop} (hr : vx_Run p l e R s m args below meth c H locs cells slots mc ms (F0 m pc ls st0) rest (va_Qf post B A1 a) (vx_X px BX AX) free) (hS : va_S A0 H0 H locs) (hA : ∀ q, q < H.size → A1 q → A0 q) (hf : ∀ q, free q → A0 q) (hAX : ∀ q, q < H.size → AX q → A0 q)
    (kx : ∀ (E : String) (ce : Cell) (q9 : Addr) (u : SX) (t : State) (H1 : Heap) (locs1 : List Loc), t.heap = H1 → s.vm.Alike t.vm → px u → BX E u t → H.size ≤ H1.size → (∀ q : Nat, q < H.size → ¬ AX q → H1[q]? = H[q]?) → va_S A0 H0 H1 locs1 → H1[q9]? = some ce → ce.vm = .none → s.vm.findClass E = some ce.cls → vx_W p l e R s m args below meth c H1 locs1 (cells + mc) (slots + ms) Q (F0 m pc ls rest) q9)
    (kk : ∀ (r : UInt32) (u : S) (t : State) (H1 : Heap) (locs1 : List Loc), t.heap = H1 → s.vm.Alike t.vm → post r u → B u t → H.size ≤ H1.size → (∀ q : Nat, q < H.size → ¬ A1 q → H1[q]? = H[q]?) → va_S A0 H0 H1 locs1 → W p l e R s m args below meth c H1 locs1 (cells + mc) (slots + ms) Q (F0 m (pc + 3) ls (.float r :: rest))) : W p l e R s m args below meth c H locs cells slots Q (F0 m pc ls st0) := by
  intro T hT X
  rcases hr T hT X with ⟨v, st₀, t, T', L, h0, X', hL, e1, e2, ⟨⟨r, u, hv, hp, hb⟩, hF⟩, st⟩ | ⟨q, st₀, t, T', L, E, ce, h0, X', hL, e1, e2, ⟨u, hp, hb, hF⟩, hce, hcv, hcl, st⟩
  · cases hv
    obtain ⟨k1, k2, k3⟩ := vx_keep h0 e1 hS hA hf hL hF
    obtain ⟨t2, a1, b1⟩ := kk r u t T'.heap (locs ++ L) e1.symm (by rw [← e2]; exact X'.warmed.alike) hp hb k1 k2 k3 T' rfl X'
    exact ⟨t2, st t2 a1, b1⟩
  · obtain ⟨k1, k2, k3⟩ := vx_keep h0 e1 hS hAX hf hL hF
    obtain ⟨t2, a1, b1⟩ := kx E ce q u t T'.heap (locs ++ L) e1.symm (by rw [← e2]; exact X'.warmed.alike) hp hb k1 k2 k3 (by rw [e1]; exact hce) hcv hcl T' rfl X'
    exact ⟨t2, st.trans a1, b1⟩
theorem vx_calld {S SX : Type} {post : UInt64 → S → Prop} {px : SX → Prop} {B : S → State → Prop} {BX : String → SX → State → Prop} {AX : Nat → Prop} (hr : vx_Run p l e R s m args below meth c H locs cells slots mc ms (F0 m pc ls st0) rest (va_Qd post B A1 a) (vx_X px BX AX) free) (hS : va_S A0 H0 H locs) (hA : ∀ q, q < H.size → A1 q → A0 q) (hf : ∀ q, free q → A0 q) (hAX : ∀ q, q < H.size → AX q → A0 q)
    (kx : ∀ (E : String) (ce : Cell) (q9 : Addr) (u : SX) (t : State) (H1 : Heap) (locs1 : List Loc), t.heap = H1 → s.vm.Alike t.vm → px u → BX E u t → H.size ≤ H1.size → (∀ q : Nat, q < H.size → ¬ AX q → H1[q]? = H[q]?) → va_S A0 H0 H1 locs1 → H1[q9]? = some ce → ce.vm = .none → s.vm.findClass E = some ce.cls → vx_W p l e R s m args below meth c H1 locs1 (cells + mc) (slots + ms) Q (F0 m pc ls rest) q9)
    (kk : ∀ (r : UInt64) (u : S) (t : State) (H1 : Heap) (locs1 : List Loc), t.heap = H1 → s.vm.Alike t.vm → post r u → B u t → H.size ≤ H1.size → (∀ q : Nat, q < H.size → ¬ A1 q → H1[q]? = H[q]?) → va_S A0 H0 H1 locs1 → W p l e R s m args below meth c H1 locs1 (cells + mc) (slots + ms) Q (F0 m (pc + 3) ls (.double r :: rest))) : W p l e R s m args below meth c H locs cells slots Q (F0 m pc ls st0) := by
  intro T hT X
  rcases hr T hT X with ⟨v, st₀, t, T', L, h0, X', hL, e1, e2, ⟨⟨r, u, hv, hp, hb⟩, hF⟩, st⟩ | ⟨q, st₀, t, T', L, E, ce, h0, X', hL, e1, e2, ⟨u, hp, hb, hF⟩, hce, hcv, hcl, st⟩
  · cases hv
    obtain ⟨k1, k2, k3⟩ := vx_keep h0 e1 hS hA hf hL hF
    obtain ⟨t2, a1, b1⟩ := kk r u t T'.heap (locs ++ L) e1.symm (by rw [← e2]; exact X'.warmed.alike) hp hb k1 k2 k3 T' rfl X'
    exact ⟨t2, st t2 a1, b1⟩
  · obtain ⟨k1, k2, k3⟩ := vx_keep h0 e1 hS hAX hf hL hF
    obtain ⟨t2, a1, b1⟩ := kx E ce q u t T'.heap (locs ++ L) e1.symm (by rw [← e2]; exact X'.warmed.alike) hp hb k1 k2 k3 (by rw [e1]; exact hce) hcv hcl T' rfl X'
    exact ⟨t2, st.trans a1, b1⟩
theorem vx_callv {S SX : Type} {post : S → Prop} {px : SX → Prop} {B : S → State → Prop} {BX : String → SX → State → Prop} {AX : Nat → Prop} (hr : vx_Run p l e R s m args below meth c H locs cells slots mc ms (F0 m pc ls st0) rest (va_Qv post B A1 a) (vx_X px BX AX) free) (hS : va_S A0 H0 H locs) (hA : ∀ q, q < H.size → A1 q → A0 q) (hf : ∀ q, free q → A0 q) (hAX : ∀ q, q < H.size → AX q → A0 q)
    (kx : ∀ (E : String) (ce : Cell) (q9 : Addr) (u : SX) (t : State) (H1 : Heap) (locs1 : List Loc), t.heap = H1 → s.vm.Alike t.vm → px u → BX E u t → H.size ≤ H1.size → (∀ q : Nat, q < H.size → ¬ AX q → H1[q]? = H[q]?) → va_S A0 H0 H1 locs1 → H1[q9]? = some ce → ce.vm = .none → s.vm.findClass E = some ce.cls → vx_W p l e R s m args below meth c H1 locs1 (cells + mc) (slots + ms) Q (F0 m pc ls rest) q9)
    (kk : ∀ (u : S) (t : State) (H1 : Heap) (locs1 : List Loc), t.heap = H1 → s.vm.Alike t.vm → post u → B u t → H.size ≤ H1.size → (∀ q : Nat, q < H.size → ¬ A1 q → H1[q]? = H[q]?) → va_S A0 H0 H1 locs1 → W p l e R s m args below meth c H1 locs1 (cells + mc) (slots + ms) Q (F0 m (pc + 3) ls (rest))) : W p l e R s m args below meth c H locs cells slots Q (F0 m pc ls st0) := by
  intro T hT X
  rcases hr T hT X with ⟨v, st₀, t, T', L, h0, X', hL, e1, e2, ⟨⟨u, hv, hp, hb⟩, hF⟩, st⟩ | ⟨q, st₀, t, T', L, E, ce, h0, X', hL, e1, e2, ⟨u, hp, hb, hF⟩, hce, hcv, hcl, st⟩
  · cases hv
    obtain ⟨k1, k2, k3⟩ := vx_keep h0 e1 hS hA hf hL hF
    obtain ⟨t2, a1, b1⟩ := kk u t T'.heap (locs ++ L) e1.symm (by rw [← e2]; exact X'.warmed.alike) hp hb k1 k2 k3 T' rfl X'
    exact ⟨t2, st t2 a1, b1⟩
  · obtain ⟨k1, k2, k3⟩ := vx_keep h0 e1 hS hAX hf hL hF
    obtain ⟨t2, a1, b1⟩ := kx E ce q u t T'.heap (locs ++ L) e1.symm (by rw [← e2]; exact X'.warmed.alike) hp hb k1 k2 k3 (by rw [e1]; exact hce) hcv hcl T' rfl X'
    exact ⟨t2, st.trans a1, b1⟩
/-- caught by the row x of this method's table; the rows ahead don't take it -/
theorem vx_catch {own name : String} {E : String} {ce : Cell} {q : Addr} (hown : s.vm.findClass own = some m.cls) (pre : List ExceptionTableEntry) (x : ExceptionTableEntry) (suf : List ExceptionTableEntry) (hsplit : c.exceptionTable.toList = pre ++ x :: suf)
    (hpass : ∀ z ∈ pre, covers z pc = false ∨ (z.catchType ≠ 0 ∧ ∃ nm : String, (Cond.classLink own z.catchType nm).before args s = true ∧ va_Nc E nm s)) (hx : covers x pc = true) (h0 : x.catchType ≠ 0)
    (hlink : (Cond.classLink own x.catchType name).before args s = true) (hcast : (Cond.castable E name).before args s = true) (hcell : H[q]? = some ce) (hv : ce.vm = .none) (hcl : s.vm.findClass E = some ce.cls)
    (kk : W p l e R s m args below meth c H locs cells slots Q (F0 m x.handlerPc ls [.ref q])) : vx_W p l e R s m args below meth c H locs cells slots Q (F0 m pc ls rest) q := by
  intro T hT X
  have hpl : e.platform.magicAccessors = ({} : Platform).magicAccessors := by rw [X.admits.platform]
  obtain ⟨c3, c4, hc3, hc4, hasg⟩ := Cond.castable_spec hcast
  cases Option.some.inj (hc3.symm.trans hcl)
  obtain ⟨c5, hc5, hcl5⟩ := Cond.classLink_spec hown hlink e.platform hpl
  cases Option.some.inj (hc4.symm.trans hc5)
  obtain ⟨vm', X', st⟩ := X.thenCaughtThrough q (g := F0 m pc ls rest) rfl (Steps.refl _) (by rw [hT]; exact hcell) (by rw [hv]; rfl) (by obtain ⟨k9, h9, -⟩ := Vm.findClass_spec hcl; exact ⟨k9, h9⟩) pre x suf hsplit
    (fun z hz => by
      rcases hpass z hz with h | ⟨hz0, nm, hl1, hn1⟩
      · exact Or.inl h
      · obtain ⟨c6, hc6, hcl6⟩ := Cond.classLink_spec hown hl1 e.platform hpl
        obtain ⟨a8, b8, h1, h2, h3⟩ := hn1
        cases Option.some.inj (h1.symm.trans hcl)
        cases Option.some.inj (h2.symm.trans hc6)
        exact Or.inr ⟨hz0, _, hcl6, h3⟩) hx (Or.inr ⟨h0, c4, hcl5, hasg⟩)
  obtain ⟨t, a1, b1⟩ := kk (T.setVm vm') hT X'
  exact ⟨t, st.trans a1, b1⟩
end Rows
section Ends
variable {p : Program} {l : Launch} {e : Env} {R : Room} {s : State} {m : MethodId} {args : Array Value} {below : List Frame} {meth : Method} {c : Code} {H : Heap} {locs : List Loc} {cells slots : Nat} {Q : State → Prop}
variable {mc ms : Nat} {free : Addr → Prop} {A0 A1 : Nat → Prop} {H0 : Heap} {a : Array Value} {ls : Array Slot} {st0 rest : List Value}
variable {Qc : Array Value → State → Outcome → State → Prop} {XC : String → State → State → Prop}
/-- what a body that may throw owes at its end -/
def vx_MQ (below : List Frame) (Qc : Array Value → State → Outcome → State → Prop) (XC : String → State → State → Prop) (a : Array Value) (s : State) (mc ms : Nat) (free : Addr → Prop) : State → Prop := fun t =>
  ∃ o, t.status = .running ∧ Ended t below o ∧ vx_Q Qc XC mc ms free a s o t
theorem vx_ret {g : JFrame} {mc ms : Nat} (k : W p l e R s m args below meth c H locs cells slots (MQ below Qc args s mc ms free) g) : W p l e R s m args below meth c H locs cells slots (vx_MQ below Qc XC args s mc ms free) g := by
  intro T hT X
  obtain ⟨t, a1, o, b1, b2, b3, b4⟩ := k T hT X
  exact ⟨t, a1, o, b1, b2, Or.inl ⟨b3, b4⟩⟩
/-- not caught here: it goes on to the caller -/
theorem vx_widen {g : JFrame} {q : Addr} {k n : Nat} (h1 : cells ≤ k) (h2 : slots ≤ n) (kk : vx_W p l e R s m args below meth c H locs k n Q g q) : vx_W p l e R s m args below meth c H locs cells slots Q g q := fun T hT X => kk T hT (stand_widen X h1 h2)
theorem vx_out {pc : Nat} {E : String} {ce : Cell} {q : Addr} {mc ms : Nat} (hout : ∀ x ∈ c.exceptionTable.toList, covers x pc = false) (hlocks : meth.locks = false) (hcell : H[q]? = some ce) (hv : ce.vm = .none) (hcl : s.vm.findClass E = some ce.cls)
    (hx : ∀ t : State, t.heap = H → s.vm.Alike t.vm → XC E s t) (hf : ∀ z ∈ locs, free z.base) (hc : cells ≤ mc) (hs : slots ≤ ms) :
    vx_W p l e R s m args below meth c H locs cells slots (vx_MQ below Qc XC args s mc ms free) (F0 m pc ls rest) q := by
  intro T hT X
  obtain ⟨st1, hrun, hend, hW, hsm⟩ := X.leaveThrown q (g := F0 m pc ls rest) rfl rfl rfl hout hlocks
  have hcell9 : (T.setFrames (.throwing q :: below)).heap[q]? = some ce := by
    show T.heap[q]? = some ce
    rw [hT]; exact hcell
  exact ⟨_, st1, .threw q, hrun, hend, Or.inr ⟨q, rfl, E, ce, locs, hx _ hT hW.alike, hcell9, hv, hcl, hW, hsm.mono hc hs, hf⟩⟩
theorem vx_frame {U : State} {k n : Nat} (h : s.sameButNew ({ U with vm := s.vm } : State) locs k n) : s.heap.size ≤ U.heap.size ∧ ∀ q : Nat, q < s.heap.size → (∀ z ∈ locs, z.base ≠ q) → U.heap[q]? = s.heap[q]? := by
  obtain ⟨-, h2, -, -, -, h6⟩ := h
  refine ⟨h2, fun q hq hz => ?_⟩
  obtain ⟨c9, e1, e2, e3, e4⟩ := h6 q _ (Array.getElem?_eq_getElem hq)
  have hs : c9.slots = (s.heap[q]).slots := Array.ext_getElem? fun i => e4 i fun hm => hz _ hm rfl
  have h9 : c9 = s.heap[q] := by
    rw [hs] at e2
    exact e2
  have e5 : U.heap[q]? = some c9 := e1
  rw [e5, h9, Array.getElem?_eq_getElem hq]
/-- the words of a throw but the four that speak of the heap -/
def vx_no (w : Cond) : Bool := decide (w ≠ .isRef (.static Bundle.tN "UNASSIGNED_STACK" Bundle.steD)) && decide (w ≠ .isRef (.static Bundle.tN "SUPPRESSED_SENTINEL" Bundle.listD)) && decide (w ≠ .laysStatic Bundle.tN "UNASSIGNED_STACK" Bundle.steD) && decide (w ≠ .laysStatic Bundle.tN "SUPPRESSED_SENTINEL" Bundle.listD)
def vx_at0 (own : String) (ic : Nat) (X : String) (names : List String) : List Cond := (Bundle.ownAtoms0 own ic X names).filter vx_no
def vx_atS (own : String) (ic : Nat) (X : String) (names : List String) : List Cond := (Bundle.ownAtoms own ic X names).filter vx_no
/-- a word that the tables alone decide, or a good one -/
def vx_ot (w : Cond) : Bool := w.onTables || goodWord w
theorem vx_ot_at {args a' : Array Value} {s U : State} {w : Cond} (hW : s.WarmedH U.vm) (hvm : s.vm = U.vm) (hg : vx_ot w = true) (h : w.before args s = true) : w.before a' U = true := by
  simp only [vx_ot, Bool.or_eq_true] at hg
  rcases hg with hg | hg
  · exact va_tabs hg hvm h
  · exact word_at hW (good_of_word hg) h
/-- a list's words: the good ones out of the method's own list, the others by premises of their own -/
theorem vx_hat {args : Array Value} {s : State} {L B : List Cond} (h1 : ∀ w ∈ L.filter goodWord, w.before args s = true) (h2 : ∀ w ∈ L.filter (fun w => !goodWord w), w ∈ B) (h3 : ∀ w ∈ B, w.before args s = true) : ∀ w ∈ L, w.before args s = true := by
  intro w hw
  by_cases g : goodWord w = true
  · exact h1 w (List.mem_filter.mpr ⟨hw, g⟩)
  · refine h3 w (h2 w (List.mem_filter.mpr ⟨hw, ?_⟩))
    show (!goodWord w) = true
    cases hgw : goodWord w
    · rfl
    · exact absurd hgw g
theorem vx_c {args : Array Value} {s : State} {w : Cond} {B : List Cond} (h : w.before args s = true) (t : ∀ w ∈ B, w.before args s = true) : ∀ w' ∈ w :: B, w'.before args s = true := fun w' h' => (List.mem_cons.mp h').elim (fun e => by rw [e]; exact h) (t w')
theorem vx_n {args : Array Value} {s : State} : ∀ w ∈ ([] : List Cond), w.before args s = true := fun _ h => nomatch h
theorem vx_own {args : Array Value} {s : State} {L : List Cond} (h1 : ∀ w ∈ L.filter vx_no, w.before args s = true)
    (hU : (Cond.isRef (.static Bundle.tN "UNASSIGNED_STACK" Bundle.steD)).before args s = true) (hN : (Cond.isRef (.static Bundle.tN "SUPPRESSED_SENTINEL" Bundle.listD)).before args s = true)
    (lU : (Cond.laysStatic Bundle.tN "UNASSIGNED_STACK" Bundle.steD).before args s = true) (lN : (Cond.laysStatic Bundle.tN "SUPPRESSED_SENTINEL" Bundle.listD).before args s = true) : ∀ w ∈ L, w.before args s = true := by
  intro w hw
  by_cases e1 : w = .isRef (.static Bundle.tN "UNASSIGNED_STACK" Bundle.steD)
  · rw [e1]; exact hU
  · by_cases e2 : w = .isRef (.static Bundle.tN "SUPPRESSED_SENTINEL" Bundle.listD)
    · rw [e2]; exact hN
    · by_cases e3 : w = .laysStatic Bundle.tN "UNASSIGNED_STACK" Bundle.steD
      · rw [e3]; exact lU
      · by_cases e4 : w = .laysStatic Bundle.tN "SUPPRESSED_SENTINEL" Bundle.listD
        · rw [e4]; exact lN
        · exact h1 w (List.mem_filter.mpr ⟨hw, by unfold vx_no; rw [decide_eq_true e1, decide_eq_true e2, decide_eq_true e3, decide_eq_true e4]; rfl⟩)
/-- where a static field lies, its class's statics cell in H -/
def vx_L (C n d : String) (A : Nat → Prop) (U : State) (H : Heap) : Prop := ∃ (c : ClassId) (k : Class) (i : Nat) (f : Field) (a : Nat) (cell : Cell), U.vm.findClass C = some c ∧ U.fieldFound? C n d = some (c, k, i, f) ∧ f.isStatic = true ∧ k.statics = some a ∧ H[a]? = some cell ∧ cell.vm.isStatics = true ∧ cell.cls = c ∧ f.slot < cell.slots.size ∧ k.staticTypes[f.slot]? = some f.type ∧ ¬ A a
theorem vx_L.moved {C n d : String} {A : Nat → Prop} {u U : State} {H : Heap} (hvm : u.vm.Alike U.vm) (h : vx_L C n d A u H) : vx_L C n d A U H := by
  obtain ⟨c, k, i, f, a, cell, h1, h2, h3, h4, h5, h6, h7, h8, h9, h10⟩ := h
  obtain ⟨k', hi', he⟩ := State.fieldFound?_setVm hvm h2
  exact ⟨c, k', i, f, a, cell, by rw [hvm.findClass]; exact h1, hi', h3, by rw [he]; exact h4, h5, h6, h7, h8, by rw [he]; exact h9, h10⟩
theorem vx_L.kept {C n d : String} {A : Nat → Prop} {U : State} {H H1 : Heap} (h : vx_L C n d A U H) (hq : ∀ a : Nat, a < H.size → ¬ A a → H1[a]? = H[a]?) : vx_L C n d A U H1 := by
  obtain ⟨c, k, i, f, a, cell, h1, h2, h3, h4, h5, h6, h7, h8, h9, h10⟩ := h
  exact ⟨c, k, i, f, a, cell, h1, h2, h3, h4, by rw [hq a (Array.getElem?_eq_some_iff.mp h5).1 h10]; exact h5, h6, h7, h8, h9, h10⟩
theorem vx_L.narrow {C n d : String} {A B : Nat → Prop} {U : State} {H : Heap} (h : vx_L C n d A U H) (hAB : ∀ q, B q → A q) : vx_L C n d B U H := by
  obtain ⟨c, k, i, f, a, cell, h1, h2, h3, h4, h5, h6, h7, h8, h9, h10⟩ := h
  exact ⟨c, k, i, f, a, cell, h1, h2, h3, h4, h5, h6, h7, h8, h9, fun z => h10 (hAB _ z)⟩
theorem vx_L.word {C n d : String} {A : Nat → Prop} {s : State} {args : Array Value} (h : vx_L C n d A s s.heap) : (Cond.laysStatic C n d).before args s = true := by
  obtain ⟨c, k, i, f, a, cell, h1, h2, h3, h4, h5, h6, h7, h8, h9, -⟩ := h
  show (Cond.laysStatic C n d).holds args s none s [] = true
  exact Cond.laysStatic_of h1 h2 h3 h4 h5 h6 h7 h8 h9
/-- .. and what it holds: null or some reference -/
def vx_Zq (C n d : String) (A : Nat → Prop) (U : State) (H : Heap) : Prop := va_Zq C n d A U H ∧ vx_L C n d A U H
theorem vx_Zq.moved {C n d : String} {A : Nat → Prop} {u U : State} {H : Heap} (hvm : u.vm.Alike U.vm) (h : vx_Zq C n d A u H) : vx_Zq C n d A U H := ⟨va_Zq.moved hvm h.1, vx_L.moved hvm h.2⟩
theorem vx_Zq.kept {C n d : String} {A : Nat → Prop} {U : State} {H H1 : Heap} (h : vx_Zq C n d A U H) (hq : ∀ a : Nat, a < H.size → ¬ A a → H1[a]? = H[a]?) : vx_Zq C n d A U H1 := ⟨va_Zq.kept h.1 hq, vx_L.kept h.2 hq⟩
theorem vx_Zq.narrow {C n d : String} {A B : Nat → Prop} {U : State} {H : Heap} (h : vx_Zq C n d A U H) (hAB : ∀ q, B q → A q) : vx_Zq C n d B U H := ⟨va_Zq.narrow h.1 hAB, vx_L.narrow h.2 hAB⟩
theorem vx_Zqof {args : Array Value} {s : State} {C n d : String} {A : Nat → Prop} (hl : (Cond.laysStatic C n d).before args s = true) (hini : (Cond.initialized C).before args s = true) (h : (Cond.isRef (.static C n d)).before args s = true) (hA : ∀ a : Nat, a < s.heap.size → ¬ A a) : vx_Zq C n d A s s.heap := by
  refine ⟨va_Zqof hl hini h hA, ?_⟩
  obtain ⟨c, k, i, f, a, cell, h1, h2, h3, h4, h5, h6, h7, h8, h9⟩ := Cond.laysStatic_spec hl
  exact ⟨c, k, i, f, a, cell, h1, h2, h3, h4, h5, h6, h7, h8, h9, hA a (Array.getElem?_eq_some_iff.mp h5).1⟩
theorem vx_isRef {C n d : String} {v : Value} {A : Nat → Prop} {s : State} {args : Array Value} (h : va_Z C n d v A s s.heap) (hv : v.isRef = true) : (Cond.isRef (.static C n d)).before args s = true := by
  obtain ⟨cf, kf, fi, f, a, cell, h1, h2, h3, h4, h5, h6, h7, -⟩ := h
  have he : (Term.static C n d).eval args s none [] s = some v := by
    simp [Term.eval, State.fieldNamed?, h1, h2, h4, h5, h6, h7]
  simp only [Cond.before, Cond.holds, Cond.value, he]
  cases v <;> simp_all [Value.isRef]
theorem vx_isRefq {C n d : String} {A : Nat → Prop} {s : State} {args : Array Value} (h : va_Zq C n d A s s.heap) : (Cond.isRef (.static C n d)).before args s = true := by
  rcases h with h | ⟨t, h⟩
  · exact vx_isRef h rfl
  · exact vx_isRef h rfl
/-- the same frame, seen from here: as if the method were called anew in this heap -/
theorem vx_rebase {T : State} (X : Stand p l e R s m args below meth c T locs cells slots) {R' : Room} (hf : R'.frames ≤ R.frames) (hl : R'.locals ≤ R.locals) (hc : cells + R'.cells ≤ R.cells) (hs : slots + R'.slots ≤ R.slots) :
    Stand p l e R' ((T.setVm s.vm).setFrames (.invoking m args :: below)) m args below meth c T [] 0 0 := by
  have htop : (T.setVm s.vm).topJava?.isSome := X.here.top
  have hF : ((T.setVm s.vm).setFrames (.invoking m args :: below)).frames = .invoking m args :: below := State.frames_setFrames _ (State.cur_lt_of_top htop)
  obtain ⟨g₀, hg0⟩ := Option.isSome_iff_exists.mp htop
  obtain ⟨r, hr⟩ := State.topJava?_eq_some.mp hg0
  have hl9 : e.platform.stackLimits (T.setVm s.vm).me = e.platform.stackLimits s.me := X.limits
  have hb9 : (T.setVm s.vm).me.stackBytes = s.me.stackBytes := X.bytes
  refine ⟨X.admits, X.cas, X.clock, hF, ?_, X.hears, X.method, X.code, X.here, X.tail, X.warmed, ?_, ?_, ?_⟩
  · have h := X.room
    have hU : ((T.setVm s.vm).setFrames (.invoking m args :: below)).localsInUse = s.localsInUse := by
      rw [State.localsInUse_invoking hF (meth := meth) (c := c) X.method X.code, State.localsInUse_invoking X.frames X.method X.code]
    simp only [State.hasRoom, Bool.and_eq_true, decide_eq_true_eq] at h ⊢
    obtain ⟨⟨⟨⟨h1, h2, h3, h4, h5, h6⟩, h7⟩, h8⟩, h9⟩ := h
    rw [X.frames, List.length_cons] at h2 h3
    have q1 := X.heapSize
    have q2 := X.used
    simp only [hF, hU, List.length_cons, State.stackLimits_setFrames, State.stackBytes_setFrames, hl9, hb9]
    refine ⟨⟨⟨⟨by omega, by omega, by omega, by omega, by omega, h6⟩, ?_⟩, ?_⟩, X.book⟩
    · show T.heap.size + R'.cells ≤ e.platform.maxCells
      omega
    · show T.slotsUsed + R'.slots ≤ e.platform.maxSlots
      omega
  · rw [State.stackLimits_setFrames]; rfl
  · rw [State.stackBytes_setFrames]; rfl
  · refine ⟨?_, Nat.le_refl _, Nat.le_refl _, ?_, ?_, fun a c9 h9 => ⟨c9, h9, rfl, rfl, fun _ _ => rfl⟩⟩
    · obtain ⟨t, ht, -⟩ := State.frames_cons hr
      show T.setVm s.vm = { ((T.setVm s.vm).setFrames (.invoking m args :: below)).setFrames (T.setVm s.vm).frames with heap := T.heap, slotsUsed := T.slotsUsed }
      rw [State.setFrames_setFrames, State.setFrames_self ht]
      rfl
    · show T.slotsUsed = T.slotsUsed + ((T.heap.toList.drop T.heap.size).map (·.slots.size)).sum
      rw [List.drop_eq_nil_of_le (Nat.le_of_eq Array.length_toList)]
      rfl
    · show ((T.heap.toList.drop T.heap.size).map (·.slots.size)).sum ≤ 0
      rw [List.drop_eq_nil_of_le (Nat.le_of_eq Array.length_toList)]
      exact Nat.le_refl _
/-- 'throw new E()': new; dup; invokespecial; athrow -/
theorem vx_throw0 {cc : ByteArray} {pc : Nat} (hexec : p.tables.exec = Jvm.exec) (hb : c.code = cc) (hl : l.stackTraces = false) {own cls : String} {names : List String} {ik ic mc ms : Nat} {A : Nat → Prop}
    (hown : s.vm.findClass own = some m.cls) (hcls : Bundle.fit cls = true) (hnames : ∀ n ∈ names, Bundle.fit n = true)
    (hk : (Cond.classLink own ik cls).before args s = true) (hini : (Cond.initialized cls).before args s = true) (hat : ∀ w ∈ vx_at0 own ic cls names, w.before args s = true)
    (hgood : ∀ w ∈ Cond.classLink own ik cls :: Cond.initialized cls :: vx_at0 own ic cls names, vx_ot w = true)
    (hU : vx_Zq Bundle.tN "UNASSIGNED_STACK" Bundle.steD A s s.heap) (hN : vx_Zq Bundle.tN "SUPPRESSED_SENTINEL" Bundle.listD A s s.heap) (hS : va_S A s.heap H locs) (hsize : ls.size = c.maxLocals)
    (d0 : decode cc pc = .ok (.new ik, 3)) (d3 : decode cc (pc + 3) = .ok (.dup, 1)) (d4 : decode cc (pc + 4) = .ok (.invokespecial ic, 3)) (d7 : decode cc (pc + 7) = .ok (.athrow, 1))
    (hout : ∀ x ∈ c.exceptionTable.toList, covers x (pc + 7) = false)
    (hRframes : names.length + 3 < R.frames) (hRlocals : (rest.map fun v => v.category).sum + (13 * (names.length + 1) + 42) ≤ R.locals) (hRcells : cells + 1 ≤ R.cells) (hRslots : slots + 6 ≤ R.slots) (hlocks : meth.locks = false)
    (hx : ∀ t : State, s.vm.Alike t.vm → H.size ≤ t.heap.size → (∀ q : Nat, q < H.size → t.heap[q]? = H[q]?) → XC cls s t)
    (hf : ∀ z ∈ locs, free z.base) (hc : cells + 1 ≤ mc) (hs : slots + 6 ≤ ms) :
    W p l e R s m args below meth c H locs cells slots (vx_MQ below Qc XC args s mc ms free) (F0 m pc ls rest) := by
  intro T hT X
  have htr : e.platform.stackTraces = false := (show e.platform.stackTraces = l.stackTraces by rw [X.admits.platform]).trans hl
  have Y := vx_rebase X (R' := { frames := R.frames, locals := R.locals, cells := 1, slots := 6 }) (Nat.le_refl _) (Nat.le_refl _) hRcells hRslots
  obtain ⟨s', hA⟩ : ∃ z, z = (T.setVm s.vm).setFrames (.invoking m args :: below) := ⟨_, rfl⟩
  rw [← hA] at Y
  have hvm : s'.vm = s.vm := by rw [hA]; rfl
  have hhp : s'.heap = H := by rw [hA]; exact hT
  have hW0 : s.WarmedH s'.vm := by rw [hvm]; exact State.WarmedH.refl s
  have hat' : ∀ w ∈ vx_at0 own ic cls names, w.before args s' = true := fun w hw => vx_ot_at hW0 hvm.symm (hgood w (List.mem_cons_of_mem _ (List.mem_cons_of_mem _ hw))) (hat w hw)
  have hk' : (Cond.classLink own ik cls).before args s' = true := vx_ot_at hW0 hvm.symm (hgood _ List.mem_cons_self) hk
  have hini' : (Cond.initialized cls).before args s' = true := vx_ot_at hW0 hvm.symm (hgood _ (List.mem_cons_of_mem _ List.mem_cons_self)) hini
  have hU' : vx_Zq Bundle.tN "UNASSIGNED_STACK" Bundle.steD A s' s'.heap := by rw [hhp]; exact vx_Zq.moved hW0.alike (hU.kept hS.2.1)
  have hN' : vx_Zq Bundle.tN "SUPPRESSED_SENTINEL" Bundle.listD A s' s'.heap := by rw [hhp]; exact vx_Zq.moved hW0.alike (hN.kept hS.2.1)
  have h : ∀ w ∈ Bundle.ownAtoms0 own ic cls names, w.before args s' = true := vx_own hat' (vx_isRefq hU'.1) (vx_isRefq hN'.1) hU'.2.word hN'.2.word
  have hown' : s'.vm.findClass own = some m.cls := by rw [hvm]; exact hown
  have hins : (Cond.instantiable cls 6).before args s' = true := h _ (by simp [Bundle.ownAtoms0])
  obtain ⟨vm₁, cX, kX, hfX, hkX, -, -, X₁, st1⟩ := Y.newCold hexec (own := own) (C := cls) (index := ik) (n := 6) hown' hk' hins hini'
    (g := F0 m pc ls rest) rfl (by rw [hb]; exact d0) (Nat.le_refl _) (Nat.le_refl _)
  generalize hT1 : (T.setVm vm₁).pushCell { cls := cX, slots := kX.instanceTypes.map defaultValue, vm := .none } = T1 at X₁ st1
  have hcat : (Value.ref T.heap.size).category = 1 := rfl
  have hcellA : T1.heap[T.heap.size]? = some (freshCell cX kX) := by rw [← hT1]; exact State.heap_pushCell_size _ _
  have d3' : decode c.code (pc + 3) = .ok (.dup, 1) := by rw [hb]; exact d3
  obtain ⟨U, hsteps, hrun, hend, hW, hsame, ce, hce, hO⟩ := X₁.ctorThrow0 hexec htr (own := own) (cls := cls) (names := names) (ic := ic) hown' hcls hnames h (fun x hx => nomatch hx) hfX hkX hcellA (by rw [hhp, hT]; exact Nat.le_refl _)
    (g := { method := m, pc := pc + 4, locals := ls, stack := .ref T.heap.size :: .ref T.heap.size :: rest, locked := none }) rfl hsize rfl rfl (rest := rest) rfl
    (by rw [hb]; exact d4) (by rw [hb]; exact d7) hout hRframes (by simp only [List.map_cons, List.sum_cons, hcat]; omega) hlocks
  obtain ⟨f1, f2⟩ := vx_frame hsame
  rw [hhp] at f1 f2
  have hWs : s.WarmedH U.vm := State.WarmedH.trans hW0 hW
  have hcl : s.vm.findClass cls = some ce.cls := by
    have h9 := hO.cls
    rw [hvm] at h9
    exact h9
  have hall : s.sameButNew ({ U with vm := s.vm } : State) locs mc ms := by
    subst hA
    obtain ⟨e1, e2⟩ := hsame
    rw [State.setFrames_setFrames] at e1
    have h2 : (T.setVm s.vm).sameButNew ({ U with vm := s.vm } : State) [] (0 + 1) (0 + 6) := ⟨e1, e2⟩
    have h3 := X.same.trans h2
    rw [List.append_nil] at h3
    exact h3.mono hc hs
  refine ⟨U, ?_, .threw T.heap.size, hrun, hend, Or.inr ⟨T.heap.size, rfl, cls, ce, locs, hx U hWs.alike f1 (fun q hq => f2 q hq (fun z hz => nomatch hz)), hce, hO.vm, hcl, hWs, hall, hf⟩⟩
  refine st1 _ ?_
  show Steps p.tables e below (T1.setTop { method := m, pc := pc + 3, locals := ls, stack := .ref T.heap.size :: rest, locked := none }) _
  jvm_step X₁.here [X₁.here.top, hexec, d3', Value.category]
  exact hsteps
/-- 'throw new E("text")': new; dup; ldc; invokespecial; athrow -/
theorem vx_throwS {cc : ByteArray} {pc : Nat} (hexec : p.tables.exec = Jvm.exec) (hb : c.code = cc) (hl : l.stackTraces = false) {own cls text : String} {names : List String} {ik is ic mc ms sa : Nat} {A : Nat → Prop}
    (hown : s.vm.findClass own = some m.cls) (hcls : Bundle.fit cls = true) (hnames : ∀ n ∈ names, Bundle.fit n = true)
    (hk : (Cond.classLink own ik cls).before args s = true) (hini : (Cond.initialized cls).before args s = true) (hstr : vk_R own is text sa s) (hat : ∀ w ∈ vx_atS own ic cls names, w.before args s = true)
    (hgood : ∀ w ∈ Cond.classLink own ik cls :: Cond.initialized cls :: vx_atS own ic cls names, vx_ot w = true)
    (hU : vx_Zq Bundle.tN "UNASSIGNED_STACK" Bundle.steD A s s.heap) (hN : vx_Zq Bundle.tN "SUPPRESSED_SENTINEL" Bundle.listD A s s.heap) (hS : va_S A s.heap H locs) (hsize : ls.size = c.maxLocals)
    (d0 : decode cc pc = .ok (.new ik, 3)) (d3 : decode cc (pc + 3) = .ok (.dup, 1)) (d4 : decode cc (pc + 4) = .ok (.ldc is, 2)) (d6 : decode cc (pc + 6) = .ok (.invokespecial ic, 3)) (d9 : decode cc (pc + 9) = .ok (.athrow, 1))
    (hout : ∀ x ∈ c.exceptionTable.toList, covers x (pc + 9) = false)
    (hRframes : names.length + 3 < R.frames) (hRlocals : (rest.map fun v => v.category).sum + (13 * (names.length + 1) + 43) ≤ R.locals) (hRcells : cells + 1 ≤ R.cells) (hRslots : slots + 6 ≤ R.slots) (hlocks : meth.locks = false)
    (hx : ∀ t : State, s.vm.Alike t.vm → H.size ≤ t.heap.size → (∀ q : Nat, q < H.size → t.heap[q]? = H[q]?) → XC cls s t)
    (hf : ∀ z ∈ locs, free z.base) (hc : cells + 1 ≤ mc) (hs : slots + 6 ≤ ms) :
    W p l e R s m args below meth c H locs cells slots (vx_MQ below Qc XC args s mc ms free) (F0 m pc ls rest) := by
  intro T hT X
  have htr : e.platform.stackTraces = false := (show e.platform.stackTraces = l.stackTraces by rw [X.admits.platform]).trans hl
  have Y := vx_rebase X (R' := { frames := R.frames, locals := R.locals, cells := 1, slots := 6 }) (Nat.le_refl _) (Nat.le_refl _) hRcells hRslots
  obtain ⟨s', hA⟩ : ∃ z, z = (T.setVm s.vm).setFrames (.invoking m args :: below) := ⟨_, rfl⟩
  rw [← hA] at Y
  have hvm : s'.vm = s.vm := by rw [hA]; rfl
  have hhp : s'.heap = H := by rw [hA]; exact hT
  have hW0 : s.WarmedH s'.vm := by rw [hvm]; exact State.WarmedH.refl s
  have hat' : ∀ w ∈ vx_atS own ic cls names, w.before args s' = true := fun w hw => vx_ot_at hW0 hvm.symm (hgood w (List.mem_cons_of_mem _ (List.mem_cons_of_mem _ hw))) (hat w hw)
  have hk' : (Cond.classLink own ik cls).before args s' = true := vx_ot_at hW0 hvm.symm (hgood _ List.mem_cons_self) hk
  have hini' : (Cond.initialized cls).before args s' = true := vx_ot_at hW0 hvm.symm (hgood _ (List.mem_cons_of_mem _ List.mem_cons_self)) hini
  have hU' : vx_Zq Bundle.tN "UNASSIGNED_STACK" Bundle.steD A s' s'.heap := by rw [hhp]; exact vx_Zq.moved hW0.alike (hU.kept hS.2.1)
  have hN' : vx_Zq Bundle.tN "SUPPRESSED_SENTINEL" Bundle.listD A s' s'.heap := by rw [hhp]; exact vx_Zq.moved hW0.alike (hN.kept hS.2.1)
  have h : ∀ w ∈ Bundle.ownAtoms own ic cls names, w.before args s' = true := vx_own hat' (vx_isRefq hU'.1) (vx_isRefq hN'.1) hU'.2.word hN'.2.word
  have hown' : s'.vm.findClass own = some m.cls := by rw [hvm]; exact hown
  have hins : (Cond.instantiable cls 6).before args s' = true := h _ (by simp [Bundle.ownAtoms])
  obtain ⟨vm₁, cX, kX, hfX, hkX, -, -, X₁, st1⟩ := Y.newCold hexec (own := own) (C := cls) (index := ik) (n := 6) hown' hk' hins hini'
    (g := F0 m pc ls rest) rfl (by rw [hb]; exact d0) (Nat.le_refl _) (Nat.le_refl _)
  generalize hT1 : (T.setVm vm₁).pushCell { cls := cX, slots := kX.instanceTypes.map defaultValue, vm := .none } = T1 at X₁ st1
  have hcat : (Value.ref T.heap.size).category = 1 := rfl
  have hcellA : T1.heap[T.heap.size]? = some (freshCell cX kX) := by rw [← hT1]; exact State.heap_pushCell_size _ _
  have d3' : decode c.code (pc + 3) = .ok (.dup, 1) := by rw [hb]; exact d3
  have d4' : decode c.code (pc + 4) = .ok (.ldc is, 2) := by rw [hb]; exact d4
  have hstr' : vk_R own is text sa s' := vk_R.warm hW0 hstr
  obtain ⟨U, hsteps, hrun, hend, hW, hsame, ce, hce, hO⟩ := X₁.ctorThrowS hexec htr (own := own) (cls := cls) (names := names) (ic := ic) hown' hcls hnames h (fun x hx => nomatch hx) hfX hkX hcellA (by rw [hhp, hT]; exact Nat.le_refl _) (msg := .ref sa) rfl
    (g := { method := m, pc := pc + 6, locals := ls, stack := .ref sa :: .ref T.heap.size :: .ref T.heap.size :: rest, locked := none }) rfl hsize rfl rfl (rest := rest) rfl
    (by rw [hb]; exact d6) (by rw [hb]; exact d9) hout hRframes (by simp only [List.map_cons, List.sum_cons, hcat]; omega) hlocks
  obtain ⟨f1, f2⟩ := vx_frame hsame
  rw [hhp] at f1 f2
  have hWs : s.WarmedH U.vm := State.WarmedH.trans hW0 hW
  have hcl : s.vm.findClass cls = some ce.cls := by
    have h9 := hO.cls
    rw [hvm] at h9
    exact h9
  have hall : s.sameButNew ({ U with vm := s.vm } : State) locs mc ms := by
    subst hA
    obtain ⟨e1, e2⟩ := hsame
    rw [State.setFrames_setFrames] at e1
    have h2 : (T.setVm s.vm).sameButNew ({ U with vm := s.vm } : State) [] (0 + 1) (0 + 6) := ⟨e1, e2⟩
    have h3 := X.same.trans h2
    rw [List.append_nil] at h3
    exact h3.mono hc hs
  refine ⟨U, ?_, .threw T.heap.size, hrun, hend, Or.inr ⟨T.heap.size, rfl, cls, ce, locs, hx U hWs.alike f1 (fun q hq => f2 q hq (fun z hz => nomatch hz)), hce, hO.vm, hcl, hWs, hall, hf⟩⟩
  refine st1 _ ?_
  show Steps p.tables e below (T1.setTop { method := m, pc := pc + 3, locals := ls, stack := .ref T.heap.size :: rest, locked := none }) _
  jvm_step X₁.here [X₁.here.top, hexec, d3', Value.category]
  exact X₁.ldcString hexec (own := own) (text := text) (index := is) (a := sa) hown' hstr'.1 hstr'.2
    (g := { method := m, pc := pc + 4, locals := ls, stack := .ref T.heap.size :: .ref T.heap.size :: rest, locked := none }) rfl d4' _ hsteps
/-- 'throw new E("text")', the text by a wide index -/
theorem vx_throwSW {cc : ByteArray} {pc : Nat} (hexec : p.tables.exec = Jvm.exec) (hb : c.code = cc) (hl : l.stackTraces = false) {own cls text : String} {names : List String} {ik is ic mc ms sa : Nat} {A : Nat → Prop}
    (hown : s.vm.findClass own = some m.cls) (hcls : Bundle.fit cls = true) (hnames : ∀ n ∈ names, Bundle.fit n = true)
    (hk : (Cond.classLink own ik cls).before args s = true) (hini : (Cond.initialized cls).before args s = true) (hstr : vk_R own is text sa s) (hat : ∀ w ∈ vx_atS own ic cls names, w.before args s = true)
    (hgood : ∀ w ∈ Cond.classLink own ik cls :: Cond.initialized cls :: vx_atS own ic cls names, vx_ot w = true)
    (hU : vx_Zq Bundle.tN "UNASSIGNED_STACK" Bundle.steD A s s.heap) (hN : vx_Zq Bundle.tN "SUPPRESSED_SENTINEL" Bundle.listD A s s.heap) (hS : va_S A s.heap H locs) (hsize : ls.size = c.maxLocals)
    (d0 : decode cc pc = .ok (.new ik, 3)) (d3 : decode cc (pc + 3) = .ok (.dup, 1)) (d4 : decode cc (pc + 4) = .ok (.ldc_w is, 3)) (d7 : decode cc (pc + 7) = .ok (.invokespecial ic, 3)) (d10 : decode cc (pc + 10) = .ok (.athrow, 1))
    (hout : ∀ x ∈ c.exceptionTable.toList, covers x (pc + 10) = false)
    (hRframes : names.length + 3 < R.frames) (hRlocals : (rest.map fun v => v.category).sum + (13 * (names.length + 1) + 43) ≤ R.locals) (hRcells : cells + 1 ≤ R.cells) (hRslots : slots + 6 ≤ R.slots) (hlocks : meth.locks = false)
    (hx : ∀ t : State, s.vm.Alike t.vm → H.size ≤ t.heap.size → (∀ q : Nat, q < H.size → t.heap[q]? = H[q]?) → XC cls s t)
    (hf : ∀ z ∈ locs, free z.base) (hc : cells + 1 ≤ mc) (hs : slots + 6 ≤ ms) :
    W p l e R s m args below meth c H locs cells slots (vx_MQ below Qc XC args s mc ms free) (F0 m pc ls rest) := by
  intro T hT X
  have htr : e.platform.stackTraces = false := (show e.platform.stackTraces = l.stackTraces by rw [X.admits.platform]).trans hl
  have Y := vx_rebase X (R' := { frames := R.frames, locals := R.locals, cells := 1, slots := 6 }) (Nat.le_refl _) (Nat.le_refl _) hRcells hRslots
  obtain ⟨s', hA⟩ : ∃ z, z = (T.setVm s.vm).setFrames (.invoking m args :: below) := ⟨_, rfl⟩
  rw [← hA] at Y
  have hvm : s'.vm = s.vm := by rw [hA]; rfl
  have hhp : s'.heap = H := by rw [hA]; exact hT
  have hW0 : s.WarmedH s'.vm := by rw [hvm]; exact State.WarmedH.refl s
  have hat' : ∀ w ∈ vx_atS own ic cls names, w.before args s' = true := fun w hw => vx_ot_at hW0 hvm.symm (hgood w (List.mem_cons_of_mem _ (List.mem_cons_of_mem _ hw))) (hat w hw)
  have hk' : (Cond.classLink own ik cls).before args s' = true := vx_ot_at hW0 hvm.symm (hgood _ List.mem_cons_self) hk
  have hini' : (Cond.initialized cls).before args s' = true := vx_ot_at hW0 hvm.symm (hgood _ (List.mem_cons_of_mem _ List.mem_cons_self)) hini
  have hU' : vx_Zq Bundle.tN "UNASSIGNED_STACK" Bundle.steD A s' s'.heap := by rw [hhp]; exact vx_Zq.moved hW0.alike (hU.kept hS.2.1)
  have hN' : vx_Zq Bundle.tN "SUPPRESSED_SENTINEL" Bundle.listD A s' s'.heap := by rw [hhp]; exact vx_Zq.moved hW0.alike (hN.kept hS.2.1)
  have h : ∀ w ∈ Bundle.ownAtoms own ic cls names, w.before args s' = true := vx_own hat' (vx_isRefq hU'.1) (vx_isRefq hN'.1) hU'.2.word hN'.2.word
  have hown' : s'.vm.findClass own = some m.cls := by rw [hvm]; exact hown
  have hins : (Cond.instantiable cls 6).before args s' = true := h _ (by simp [Bundle.ownAtoms])
  obtain ⟨vm₁, cX, kX, hfX, hkX, -, -, X₁, st1⟩ := Y.newCold hexec (own := own) (C := cls) (index := ik) (n := 6) hown' hk' hins hini'
    (g := F0 m pc ls rest) rfl (by rw [hb]; exact d0) (Nat.le_refl _) (Nat.le_refl _)
  generalize hT1 : (T.setVm vm₁).pushCell { cls := cX, slots := kX.instanceTypes.map defaultValue, vm := .none } = T1 at X₁ st1
  have hcat : (Value.ref T.heap.size).category = 1 := rfl
  have hcellA : T1.heap[T.heap.size]? = some (freshCell cX kX) := by rw [← hT1]; exact State.heap_pushCell_size _ _
  have d3' : decode c.code (pc + 3) = .ok (.dup, 1) := by rw [hb]; exact d3
  have d4' : decode c.code (pc + 4) = .ok (.ldc_w is, 3) := by rw [hb]; exact d4
  have hstr' : vk_R own is text sa s' := vk_R.warm hW0 hstr
  obtain ⟨U, hsteps, hrun, hend, hW, hsame, ce, hce, hO⟩ := X₁.ctorThrowS hexec htr (own := own) (cls := cls) (names := names) (ic := ic) hown' hcls hnames h (fun x hx => nomatch hx) hfX hkX hcellA (by rw [hhp, hT]; exact Nat.le_refl _) (msg := .ref sa) rfl
    (g := { method := m, pc := pc + 7, locals := ls, stack := .ref sa :: .ref T.heap.size :: .ref T.heap.size :: rest, locked := none }) rfl hsize rfl rfl (rest := rest) rfl
    (by rw [hb]; exact d7) (by rw [hb]; exact d10) hout hRframes (by simp only [List.map_cons, List.sum_cons, hcat]; omega) hlocks
  obtain ⟨f1, f2⟩ := vx_frame hsame
  rw [hhp] at f1 f2
  have hWs : s.WarmedH U.vm := State.WarmedH.trans hW0 hW
  have hcl : s.vm.findClass cls = some ce.cls := by
    have h9 := hO.cls
    rw [hvm] at h9
    exact h9
  have hall : s.sameButNew ({ U with vm := s.vm } : State) locs mc ms := by
    subst hA
    obtain ⟨e1, e2⟩ := hsame
    rw [State.setFrames_setFrames] at e1
    have h2 : (T.setVm s.vm).sameButNew ({ U with vm := s.vm } : State) [] (0 + 1) (0 + 6) := ⟨e1, e2⟩
    have h3 := X.same.trans h2
    rw [List.append_nil] at h3
    exact h3.mono hc hs
  refine ⟨U, ?_, .threw T.heap.size, hrun, hend, Or.inr ⟨T.heap.size, rfl, cls, ce, locs, hx U hWs.alike f1 (fun q hq => f2 q hq (fun z hz => nomatch hz)), hce, hO.vm, hcl, hWs, hall, hf⟩⟩
  refine st1 _ ?_
  show Steps p.tables e below (T1.setTop { method := m, pc := pc + 3, locals := ls, stack := .ref T.heap.size :: rest, locked := none }) _
  jvm_step X₁.here [X₁.here.top, hexec, d3', Value.category]
  exact X₁.ldcStringW hexec (own := own) (text := text) (index := is) (a := sa) hown' hstr'.1 hstr'.2
    (g := { method := m, pc := pc + 4, locals := ls, stack := .ref T.heap.size :: .ref T.heap.size :: rest, locked := none }) rfl d4' _ hsteps
end Ends
section Bodies
variable {l : Launch}
theorem vx_ofW {y : MethodName} {ws ws' : List Cond} {rm : Room} {Pc : Array Value → State → Prop} {Qc : Array Value → State → Outcome → State → Prop} {XC : String → State → State → Prop} {mc ms : Nat} {free : Addr → Prop} {cc : ByteArray} {maxL : Nat} {ret : Option FieldType}
    (hy : plainName y.cls = true) (hw : ws = Cond.code y cc maxL ret :: ws')
    (body : ∀ p e s m args below meth c s₁, BodyLoose p l y (headSpec ws rm) cc maxL ret e s m args below meth c s₁ → c.maxLocals = maxL → (∀ x ∈ c.exceptionTable.toList, False) → Pc args s →
      W p l e (headSpec ws rm).room s m args below meth c s.heap [] 0 0 (vx_MQ below Qc XC args s mc ms free) (entryFrame m args maxL)) : vx_Met l y ws rm Pc Qc XC mc ms free := by
  refine MetFree.of_bodyS (code := cc) (maxLocals := maxL) (ret := ret) hy ?_ ?_
  · intro args s m h hn
    obtain ⟨meth, c, h1, h2, h3, h4, h5, h6, -, -⟩ := Cond.code_spec hn (atoms_spec (ws := ws) h _ (by rw [hw]; exact List.mem_cons_self))
    exact ⟨meth, c, h1, h2, h3, h4, h5, h6⟩
  · intro p e s m args below meth c s₁ B hml hP _
    have hh0 : s₁.heap = s.heap := by rw [B.state]; rfl
    have ht : ∀ x ∈ c.exceptionTable.toList, False := by
      obtain ⟨meth9, c9, h1, h2, -, -, -, -, h7, -⟩ := Cond.code_spec B.named (atoms_spec (ws := ws) B.pre _ (by rw [hw]; exact List.mem_cons_self))
      cases Option.some.inj (h1.symm.trans B.method)
      cases Option.some.inj (h2.symm.trans (Stand.of_body B).code)
      intro x hx
      rw [Array.isEmpty_iff.mp h7] at hx
      cases hx
    obtain ⟨t, a1, o, b1, b2, b3⟩ := body p e s m args below meth c s₁ B hml ht hP s₁ hh0 (Stand.of_body B)
    exact ⟨t, o, a1, b1, b2, b3⟩
/-- the table of a body with handlers -/
theorem vx_table {p : Program} {x y : MethodName} {S : Spec} {cc bytes : ByteArray} {maxL maxL' : Nat} {ret ret' : Option FieldType} {e : Env} {s s₁ : State} {m : MethodId} {args : Array Value} {below : List Frame} {meth : Method} {c : Code} {hh : List (Nat × Nat × Nat × Nat)}
    (B : BodyLoose p l y S cc maxL ret e s m args below meth c s₁) (h : (Cond.codeWith y bytes maxL' ret' hh).before args s = true) : c.exceptionTable.toList = tableOf hh := by
  obtain ⟨m9, meth9, c9, hn9, h1, h2, -, -, h6, -⟩ := Cond.codeWith_spec h
  cases Option.some.inj (hn9.symm.trans B.named)
  cases Option.some.inj (h1.symm.trans B.method)
  cases Option.some.inj (h2.symm.trans (Stand.of_body B).code)
  rw [← h6, table_eq]
end Bodies
end VXA
/-! ===== END ===== -/
/-! ===== BEGIN a static call of a method with an exception table ===== -/
section VXS
variable {p : Program} {l : Launch} {e : Env} {R : Room} {s : State} {m : MethodId} {args : Array Value} {below : List Frame} {meth : Method} {c : Code} {T : State} {H : Heap} {locs : List Loc} {cells slots : Nat}
abbrev vx_CSW (R : Room) (s : State) (args : Array Value) (own : String) (index : Nat) (y : MethodName) (bytes : ByteArray) (maxL : Nat) (ret : Option FieldType) (hh : List (Nat × Nat × Nat × Nat)) (ws : List Cond) (rm : Room) (mc ms n : Nat) : Prop :=
  (rm.cells = mc ∧ rm.slots = ms ∧ rm.frames + 1 ≤ R.frames ∧ 8 + (maxL + 11) + rm.locals ≤ R.locals ∧ (∀ w ∈ ws, ∀ (a' : Array Value) (U : State), s.WarmedH U.vm → w.before a' U = true) ∧ Cond.codeWith y bytes maxL ret hh ∈ ws) ∧
  (Cond.codeWith y bytes maxL ret hh).before args s = true ∧ (Cond.initialized y.cls).before args s = true ∧ (y.cls ≠ "java/lang/invoke/MethodHandle" ∧ y.cls ≠ "java/lang/invoke/VarHandle") ∧
  (∀ sig, parseMethodDescriptor y.desc = some sig → n = sig.parameters.length) ∧ (Cond.methodLink own index y).before args s = true ∧ (Cond.static y).before args s = true
theorem vx_cwSW {own : String} {index maxL mc ms : Nat} {y : MethodName} {bytes : ByteArray} {ret : Option FieldType} {hh : List (Nat × Nat × Nat × Nat)} {Ts ws ws' : List Cond} {rm : Room} (n : Nat) (ht : ∀ w ∈ Ts, w.before args s = true) (hT : GoodIn Ts (va_wsS own index y ws)) (hw : ws = Cond.codeWith y bytes maxL ret hh :: ws') (hrc : rm.cells = mc) (hrs : rm.slots = ms)
    (hd : y.cls ≠ "java/lang/invoke/MethodHandle" ∧ y.cls ≠ "java/lang/invoke/VarHandle" ∧ (parseMethodDescriptor y.desc).map (fun d => d.parameters.length) = some n) (hR : rm.frames + 1 ≤ R.frames ∧ 8 + (maxL + 11) + rm.locals ≤ R.locals) :
    vx_CSW R s args own index y bytes maxL ret hh ws rm mc ms n := by
  have ok : ∀ w ∈ va_wsS own index y ws, w.before args s = true := fun w h => ht w (hT w h).1
  have hG : GoodIn Ts ws := fun w h => hT w (by unfold va_wsS; exact List.mem_append_right _ h)
  have hc : Cond.codeWith y bytes maxL ret hh ∈ ws := by rw [hw]; exact List.mem_cons_self
  refine ⟨⟨hrc, hrs, hR.1, hR.2, pay_in ht hG, hc⟩, ht _ (hG _ hc).1, ok _ (by simp [va_wsS]), ⟨hd.1, hd.2.1⟩, fun sig h => ?_, ok _ (by simp [va_wsS]), ok _ (by simp [va_wsS])⟩
  have h2 := hd.2.2
  rw [h] at h2
  exact (Option.some.inj h2).symm
theorem vx_callSW (X : Stand p l e R s m args below meth c T locs cells slots) (hexec : p.tables.exec = Jvm.exec) {own : String} {index : Nat} {y : MethodName} {bytes : ByteArray} {maxL : Nat} {ret : Option FieldType} {hh : List (Nat × Nat × Nat × Nat)}
    (hown : s.vm.findClass own = some m.cls) (hlink : (Cond.methodLink own index y).before args s = true) (hstat : (Cond.static y).before args s = true) (hinit : (Cond.initialized y.cls).before args s = true)
    (hcode : (Cond.codeWith y bytes maxL ret hh).before args s = true) (hy : y.cls ≠ "java/lang/invoke/MethodHandle" ∧ y.cls ≠ "java/lang/invoke/VarHandle")
    {W9 : Nat} {Pre : Pt → Array Value → Prop} {Post : Pt → Array Value → Option Value → Pt → Prop} (hK : Back l R p e below s args y 3 W9 Pre Post)
    {g : JFrame} (hg : g.method = m) (hsize : g.locals.size = c.maxLocals) {argsL rest : List Value} (hlen : ∀ sig, parseMethodDescriptor y.desc = some sig → argsL.length = sig.parameters.length)
    (hstack : g.stack = argsL.reverse ++ rest) (hW : 2 * g.monitorRoom + (rest.map fun v => v.category).sum ≤ W9) (hdg : decode c.code g.pc = .ok (.invokestatic index, 3))
    (hpre : ∀ vm₁, s.WarmedH vm₁ → Pre ⟨T.setVm vm₁, locs, cells, slots⟩ argsL.toArray) :
    ∃ (v : Option Value) (vm₁ : Vm) (B : Pt), s.WarmedH vm₁ ∧ Stand p l e R s m args below meth c B.U B.locs B.cells B.slots ∧ Post ⟨T.setVm vm₁, locs, cells, slots⟩ argsL.toArray v B ∧
      ∀ target, Steps p.tables e below (B.U.setTop { g with pc := g.pc + 3, stack := v.toList ++ rest }) target → Steps p.tables e below (T.setTop g) target := by
  obtain ⟨mk, methM, cM, hnamed, hmethM, -, -, -, -, -, -, hsigM⟩ := Cond.codeWith_spec hcode
  have hstatic : methM.isStatic = true := Cond.static_spec hnamed hmethM hstat
  obtain ⟨kP, hkP, -⟩ := className_of_methodNamed hnamed
  have hinitP : kP.init = .initialized := Cond.initialized_spec (findClass_of_methodNamed hnamed) hkP hinit
  obtain ⟨vm₁, X₁, hstep₁⟩ := X.invokestatic hexec hown hlink hnamed hmethM hstatic hkP hinitP hy (g := g) hg (argsL := argsL) (rest := rest) (hlen _ hsigM) hstack hdg
  obtain ⟨v, B, X', hpost, hsteps⟩ := hK m meth c ⟨T.setVm vm₁, locs, cells, slots⟩ { g with stack := rest } (.invokestatic index) mk argsL.toArray X₁ hg hsize hdg hW (X₁.named hnamed) (hpre vm₁ X₁.warmed)
  exact ⟨v, vm₁, B, X₁.warmed, X', hpost, fun target h => hstep₁ _ fun acts => by rw [doInvoke_state]; exact hsteps.trans h⟩
theorem vx_runSW {y : MethodName} {bytes cc : ByteArray} {maxL nL mc ms n index : Nat} {ret : Option FieldType} {hh : List (Nat × Nat × Nat × Nat)} {ws : List Cond} {rm : Room} {Pc : Array Value → State → Prop} {Qc : Array Value → State → Outcome → State → Prop} {free : Addr → Prop} {Ts : List Cond} {own : String} {As rest : List Value} {g : JFrame}
    (S : CallFix p m c cc nL s args Ts own) (hM : Met l y ws rm Pc Qc mc ms free) (cw : vx_CSW R s args own index y bytes maxL ret hh ws rm mc ms n) (hp : PreS s H Pc As)
    (hg : g.method = m) (hn : As.length = n) (hsize : g.locals.size = nL) (hstack : g.stack = As.reverse ++ rest) (hW : 2 * g.monitorRoom + (rest.map fun v => v.category).sum ≤ 8) (hdg : decode cc g.pc = .ok (.invokestatic index, 3)) (hf : cells + mc ≤ R.cells ∧ slots + ms ≤ R.slots) :
    va_Run p l e R s m args below meth c H locs cells slots mc ms g rest (Qc As.toArray) (free) := by
  obtain ⟨⟨hrc, hrs, hfr, hlo, hws, hcw⟩, hcode, hini, hy, hlen, hl, hstt⟩ := cw
  have hK : Back l R p e below s args y 3 8 (PreOf R mc ms Pc) (PostOf Qc mc ms free) := va_backW (hh := hh) (bytes := bytes) (maxL := maxL) (ret := ret) hM hp.1 hrc hrs hfr hlo hws hcw (fun a' U hW => word_at hW (Or.inl (by first | rfl | simp [Cond.onTables, Cond.keeps, Cond.steady])) hini)
  obtain ⟨hx, hb, hml, ho, -⟩ := S
  intro T hT X
  obtain ⟨v, vm₁, ⟨U', l2, c2, s2⟩, hW₁, X', ⟨g', mk, t, L, e1, e2, hq, h1, hL, h2, h3⟩, st⟩ := vx_callSW X hx (hh := hh) (bytes := bytes) (maxL := maxL) (ret := ret) ho hl hstt hini hcode hy hK hg (hsize.trans hml.symm) (argsL := As) (rest := rest) (fun sig h => hn.trans (hlen sig h)) hstack hW (by rw [hb]; exact hdg)
    (fun vm₁ hW₁ => ⟨hf.1, hf.2, hp.2 (T.setVm vm₁) hT hW₁⟩)
  dsimp only [Pt.U, Pt.locs, Pt.cells, Pt.slots] at X' e1 e2 h1 h2 h3 st
  subst h1; subst h2; subst h3
  exact ⟨v, (T.setVm vm₁).calling g' mk As.toArray, t, U', L, hT, X', hL, e1, e2, hq, st⟩
/-- not caught here, past rows that name other classes: it goes on to the caller -/
theorem vx_outP {p : Program} {l : Launch} {e : Env} {R : Room} {s : State} {m : MethodId} {args : Array Value} {below : List Frame} {meth : Method} {c : Code} {H : Heap} {locs : List Loc} {cells slots : Nat} {free : Addr → Prop} {ls : Array Slot} {rest : List Value} {Qc : Array Value → State → Outcome → State → Prop} {XC : String → State → State → Prop}
    {pc : Nat} {own E : String} {ce : Cell} {q : Addr} {mc ms : Nat} (hown : s.vm.findClass own = some m.cls) (hlocks : meth.locks = false)
    (hpass : ∀ z ∈ c.exceptionTable.toList, covers z pc = false ∨ (z.catchType ≠ 0 ∧ ∃ nm : String, (Cond.classLink own z.catchType nm).before args s = true ∧ va_Nc E nm s)) (hcell : H[q]? = some ce) (hv : ce.vm = .none) (hcl : s.vm.findClass E = some ce.cls)
    (hx : ∀ t : State, t.heap = H → s.vm.Alike t.vm → XC E s t) (hf : ∀ z ∈ locs, free z.base) (hc : cells ≤ mc) (hs : slots ≤ ms) :
    vx_W p l e R s m args below meth c H locs cells slots (vx_MQ below Qc XC args s mc ms free) (F0 m pc ls rest) q := by
  intro T hT X
  have hpl : e.platform.magicAccessors = ({} : Platform).magicAccessors := by rw [X.admits.platform]
  obtain ⟨vm', hW', X', st⟩ := X.outThrough hlocks q (g := F0 m pc ls rest) rfl rfl rfl (cell := ce) (by rw [hT]; exact hcell) (by rw [hv]; rfl)
    (by obtain ⟨k9, h9, -⟩ := Vm.findClass_spec hcl; exact ⟨k9, h9⟩) (fun z hz => by
      rcases hpass z hz with h | ⟨hz0, nm, hl1, hn1⟩
      · exact Or.inl h
      · obtain ⟨c6, hc6, hcl6⟩ := Cond.classLink_spec hown hl1 e.platform hpl
        obtain ⟨a8, b8, h1, h2, h3⟩ := hn1
        cases Option.some.inj (h1.symm.trans hcl)
        cases Option.some.inj (h2.symm.trans hc6)
        exact Or.inr ⟨hz0, _, hcl6, h3⟩)
  obtain ⟨g₀, hfr⟩ := X'.frames_eq
  have hcell9 : ((T.setVm vm').setFrames (.throwing q :: below)).heap[q]? = some ce := by
    show T.heap[q]? = some ce
    rw [hT]; exact hcell
  have hend : Ended ((T.setVm vm').setFrames (.throwing q :: below)) below (.threw q) := State.frames_setFrames _ (State.cur_lt_of_frames hfr)
  refine ⟨(T.setVm vm').setFrames (.throwing q :: below), ?_, .threw q, X'.here.running, hend, Or.inr ⟨q, rfl, E, ce, locs, hx _ hT (X'.ends _).1.alike, hcell9, hv, hcl, (X'.ends _).1, (X'.ends _).2.mono hc hs, hf⟩⟩
  rw [X.pushThrowing_eq]
  exact st
/-- a thing of a world lies in the heap -/
theorem vx_lt {D : va_G} {cl : List vw_C} {ws : va_W} {H1 : Heap} (h : va_P D cl ws H1) {k : Nat} {q : Nat × va_E} (hk : ws[k]? = some q) : q.1 < H1.size := (h k q hk).lt
end VXS
/-! ===== END ===== -/
/-! ===== BEGIN methods with a table of their own: called by a name, returning or throwing ===== -/
section VXH
/-! vx_backW, vx_callVX, vx_callSX, vx_callVW, vx_runVW, vx_runVX, vx_runSX, vx_ofWH follow the same proofs as their sisters above (Free/Laws.lean, Shelf42/LK1.lean); vx_outP calls Shelf42/NT130.lean (outThrough). -/
section
variable {l : Launch} {R : Room} {p : Program} {e : Env} {below : List Frame} {s : State} {sargs : Array Value} {y : MethodName} {len W9 : Nat}
theorem vx_backW {ws : List Cond} {rm : Room} {Pc : Array Value → State → Prop} {Qc : Array Value → State → Outcome → State → Prop} {XC : String → State → State → Prop} {mc ms : Nat} {free : Addr → Prop} {bytes : ByteArray} {maxL : Nat} {ret : Option FieldType} {hh : List (Nat × Nat × Nat × Nat)}
    (hM : vx_Met l y ws rm Pc Qc XC mc ms free) (hblind : FrameBlind Pc) (hrc : rm.cells = mc) (hrs : rm.slots = ms)
    (hframes : rm.frames + 1 ≤ R.frames) (hlocals : W9 + (maxL + 11) + rm.locals ≤ R.locals)
    (hws : ∀ w ∈ ws, ∀ a' U, s.WarmedH U.vm → w.before a' U = true) (hcode : Cond.codeWith y bytes maxL ret hh ∈ ws) (hinit : ∀ a' U, s.WarmedH U.vm → (Cond.initialized y.cls).before a' U = true) :
    vx_Back l R p e below s sargs y len W9 (PreOf R mc ms Pc) (PostOf Qc mc ms free) (vx_Post XC mc ms free) := by
  intro m meth c A g ig mk a X hg hsize hdg hW hn hp
  have h1 : (headSpec ws rm).pre.before a A.U = true := atoms_intro fun w hw => hws w hw _ _ X.warmed
  have h2 : (Cond.codeWith y bytes maxL ret hh).before a A.U = true := hws _ hcode _ _ X.warmed
  have h3 : (Cond.initialized y.cls).before a A.U = true := hinit _ _ X.warmed
  have h4 : A.cells + (headSpec ws rm).room.cells ≤ R.cells := by rw [show (headSpec ws rm).room.cells = mc from hrc]; exact hp.1
  have h5 : A.slots + (headSpec ws rm).room.slots ≤ R.slots := by rw [show (headSpec ws rm).room.slots = ms from hrs]; exact hp.2.1
  have hPc : Pc a (A.U.calling g mk a) := hblind _ _ _ _ hp.2.2
  obtain ⟨U, Ls, c0, s0⟩ := A
  dsimp only [Pt.U, Pt.locs, Pt.cells, Pt.slots] at h1 h2 h3 h4 h5 X hn hPc ⊢
  obtain ⟨m9, methY, cY, hn9, hmY, hcY, -, hlY, -⟩ := Cond.codeWith_spec h2
  cases Option.some.inj (hn9.symm.trans hn)
  obtain ⟨kY, hkY, -⟩ := className_of_methodNamed hn
  have hinitY : kY.init = .initialized := Cond.initialized_spec (findClass_of_methodNamed hn) hkY h3
  have h : At U g.method c below := by rw [hg]; exact X.here
  have hlocals9 : W9 + (maxL + 11) + (headSpec ws rm).room.locals ≤ R.locals := hlocals
  have happ : (headSpec ws rm).appliesLoose y e.platform (U.calling g mk a) = true :=
    Spec.appliesLoose_calling (g := g) h hdg hn hkY hinitY
      (X.room_calling (g := g) (R' := (headSpec ws rm).room) hsize hmY hcY hframes (by rw [hlY]; omega) h4 h5) h1
  obtain ⟨mid, hmid⟩ := h.above
  have hfr : (U.setTop g).frames = (.java g :: mid) ++ below := by rw [State.frames_setTop' g h.top, hmid]; rfl
  obtain ⟨o, s₂, hsteps, -, hend, hq⟩ := Steps.callFree hM p X.admits X.cas X.clock (acts := []) hfr happ hPc trivial
  have hq' : vx_Q Qc XC mc ms free a (U.calling g mk a) o s₂ := hq
  rw [State.frames_setTop' g h.top] at hend
  obtain ⟨g₀, hg0⟩ := Option.isSome_iff_exists.mp h.top
  obtain ⟨r, hr⟩ := State.topJava?_eq_some.mp hg0
  have hr' : (({ U with heap := s₂.heap, slotsUsed := s₂.slotsUsed } : State).setVm s₂.vm).frames = .java g₀ :: r := hr
  rcases hq' with ⟨hqc, L, hfe, hL⟩ | ⟨q, rfl, E, ce, L, hx, hce, hcv, hcl, hW₂, hsm, hL⟩
  · obtain ⟨⟨v, rfl⟩, hW₂, e2, q2, q3, q4, q5, q6⟩ := id hfe
    have e3 : s₂ = ({ (U.calling g mk a).setFrames s₂.frames with heap := s₂.heap, slotsUsed := s₂.slotsUsed } : State).setVm s₂.vm := by
      have : s₂ = ({ s₂ with vm := (U.calling g mk a).vm } : State).setVm s₂.vm := rfl
      rw [e2] at this
      exact this
    obtain ⟨c₂, i₂, len₂, hc₂, hd₂, hf₂⟩ := hend
    have hW' : U.WarmedH s₂.vm := hW₂
    have hcc : c₂ = c := by
      have h1 : s₂.code? g.method = U.code? g.method := by
        rw [State.code?_eq, State.code?_eq, hW'.alike.method?]
      exact Option.some.inj (hc₂.symm.trans (h1.trans h.code))
    subst hcc
    have hlen : len₂ = len := by rw [hdg] at hd₂; cases hd₂; rfl
    subst hlen
    have hs₂ : s₂ = (({ U with heap := s₂.heap, slotsUsed := s₂.slotsUsed } : State).setVm s₂.vm).setTop { g with pc := g.pc + len₂, stack := v.toList ++ g.stack } := by
      refine e3.trans ?_
      rw [hf₂, State.calling_eq h.top, State.setFrames_setFrames, State.setTop_of_frames _ hr', hr]
      rfl
    have hsame : U.sameButNew ({ U with heap := s₂.heap, slotsUsed := s₂.slotsUsed } : State) L mc ms := by
      refine ⟨?_, q2, q3, q4, q5, q6⟩
      obtain ⟨t, ht, -⟩ := State.frames_cons hr
      show ({ U with heap := s₂.heap, slotsUsed := s₂.slotsUsed } : State) = { U.setFrames U.frames with heap := s₂.heap, slotsUsed := s₂.slotsUsed }
      rw [State.setFrames_self ht]
    subst hg
    refine Or.inl ⟨v, ⟨(({ U with heap := s₂.heap, slotsUsed := s₂.slotsUsed } : State).setVm s₂.vm), Ls ++ L, c0 + mc, s0 + ms⟩,
      ⟨X.admits, X.cas, X.clock, X.frames, X.room, X.hears, X.method, X.code, (X.here.setHeapUsed s₂.heap s₂.slotsUsed).setVm hW'.alike, X.tail, State.WarmedH.trans X.warmed hW', X.limits, X.bytes, X.same.trans (hsame.setVm s.vm)⟩,
      ⟨g, mk, s₂, L, rfl, rfl, hqc, rfl, hL, rfl, rfl⟩, ?_⟩
    show Steps p.tables e below _ ((({ U with heap := s₂.heap, slotsUsed := s₂.slotsUsed } : State).setVm s₂.vm).setTop { g with pc := g.pc + len₂, stack := v.toList ++ g.stack })
    rw [← hs₂]
    exact hsteps
  · obtain ⟨e2, q2, q3, q4, q5, q6⟩ := id hsm
    have e3 : s₂ = ({ (U.calling g mk a).setFrames s₂.frames with heap := s₂.heap, slotsUsed := s₂.slotsUsed } : State).setVm s₂.vm := by
      have : s₂ = ({ s₂ with vm := (U.calling g mk a).vm } : State).setVm s₂.vm := rfl
      rw [e2] at this
      exact this
    have hf₂ : s₂.frames = .throwing q :: .java g :: U.frames.tail := hend
    have hW' : U.WarmedH s₂.vm := hW₂
    have hs₂ : s₂ = ((({ U with heap := s₂.heap, slotsUsed := s₂.slotsUsed } : State).setVm s₂.vm).setTop g).pushFrame (.throwing q) := by
      refine e3.trans ?_
      rw [hf₂, State.calling_eq h.top, State.setFrames_setFrames, State.pushFrame, State.frames_setTop _ hr', State.setTop_of_frames _ hr', State.setFrames_setFrames, hr]
      rfl
    have hsame : U.sameButNew ({ U with heap := s₂.heap, slotsUsed := s₂.slotsUsed } : State) L mc ms := by
      refine ⟨?_, q2, q3, q4, q5, q6⟩
      obtain ⟨t, ht, -⟩ := State.frames_cons hr
      show ({ U with heap := s₂.heap, slotsUsed := s₂.slotsUsed } : State) = { U.setFrames U.frames with heap := s₂.heap, slotsUsed := s₂.slotsUsed }
      rw [State.setFrames_self ht]
    subst hg
    refine Or.inr ⟨q, ⟨(({ U with heap := s₂.heap, slotsUsed := s₂.slotsUsed } : State).setVm s₂.vm), Ls ++ L, c0 + mc, s0 + ms⟩,
      ⟨X.admits, X.cas, X.clock, X.frames, X.room, X.hears, X.method, X.code, (X.here.setHeapUsed s₂.heap s₂.slotsUsed).setVm hW'.alike, X.tail, State.WarmedH.trans X.warmed hW', X.limits, X.bytes, X.same.trans (hsame.setVm s.vm)⟩,
      ⟨g, mk, s₂, L, E, ce, rfl, rfl, hx, hce, hcv, hcl, rfl, hL, rfl, rfl⟩, ?_⟩
    show Steps p.tables e below _ (((({ U with heap := s₂.heap, slotsUsed := s₂.slotsUsed } : State).setVm s₂.vm).setTop g).pushFrame (.throwing q))
    rw [← hs₂]
    exact hsteps
end
variable {p : Program} {l : Launch} {e : Env} {R : Room} {s : State} {m : MethodId} {args : Array Value} {below : List Frame} {meth : Method} {c : Code} {T : State} {H : Heap} {locs : List Loc} {cells slots : Nat}
theorem vx_callVX (X : Stand p l e R s m args below meth c T locs cells slots) (hexec : p.tables.exec = Jvm.exec) {own C : String} {index : Nat} {y : MethodName} {bytes : ByteArray} {maxL : Nat} {ret : Option FieldType} {hh : List (Nat × Nat × Nat × Nat)}
    (hown : s.vm.findClass own = some m.cls) (hlink : (Cond.methodLink own index y).before args s = true) (hinst : (Cond.instanceMethod y).before args s = true) (hsel : (Cond.selects C y y).before args s = true)
    (hcode : (Cond.codeWith y bytes maxL ret hh).before args s = true) (hy : y.cls ≠ "java/lang/invoke/MethodHandle" ∧ y.cls ≠ "java/lang/invoke/VarHandle")
    {W9 : Nat} {Pre : Pt → Array Value → Prop} {Post : Pt → Array Value → Option Value → Pt → Prop} {PostX : Pt → Array Value → Addr → Pt → Prop} (hK : vx_Back l R p e below s args y 3 W9 Pre Post PostX)
    {b : Addr} {cellB : Cell} (hcell : T.heap[b]? = some cellB) (hobj : cellB.vm.isStatics = false) (hcls : s.vm.findClass C = some cellB.cls)
    {g : JFrame} (hg : g.method = m) (hsize : g.locals.size = c.maxLocals) {argsL rest : List Value} (hlen : ∀ sig, parseMethodDescriptor y.desc = some sig → argsL.length = sig.parameters.length)
    (hstack : g.stack = argsL.reverse ++ .ref b :: rest) (hW : 2 * g.monitorRoom + (rest.map fun v => v.category).sum ≤ W9) (hdg : decode c.code g.pc = .ok (.invokevirtual index, 3))
    (hpre : ∀ vm₁, s.WarmedH vm₁ → Pre ⟨T.setVm vm₁, locs, cells, slots⟩ (Value.ref b :: argsL).toArray) :
    (∃ (v : Option Value) (vm₁ : Vm) (B : Pt), s.WarmedH vm₁ ∧ Stand p l e R s m args below meth c B.U B.locs B.cells B.slots ∧ Post ⟨T.setVm vm₁, locs, cells, slots⟩ (Value.ref b :: argsL).toArray v B ∧
      ∀ target, Steps p.tables e below (B.U.setTop { g with pc := g.pc + 3, stack := v.toList ++ rest }) target → Steps p.tables e below (T.setTop g) target) ∨
    (∃ (q : Addr) (vm₁ : Vm) (B : Pt), s.WarmedH vm₁ ∧ Stand p l e R s m args below meth c B.U B.locs B.cells B.slots ∧ PostX ⟨T.setVm vm₁, locs, cells, slots⟩ (Value.ref b :: argsL).toArray q B ∧
      Steps p.tables e below (T.setTop g) ((B.U.setTop { g with stack := rest }).pushFrame (.throwing q))) := by
  obtain ⟨mk, methM, hnamed, hmethM, hstM, habM⟩ := Cond.instanceMethod_spec hinst
  obtain ⟨m8, methM', cM, hn8, hmethM', -, -, -, -, -, -, hsigM⟩ := Cond.codeWith_spec hcode
  cases Option.some.inj (hn8.symm.trans hnamed)
  cases hmethM.symm.trans hmethM'
  obtain ⟨c2, r2, m2, q1, q2, q3, q4, kP, hkP, hkPi⟩ := Cond.selects_spec hsel
  cases hcls.symm.trans q1
  cases (State.methodFound?_of_named hnamed hy).symm.trans q2
  cases hnamed.symm.trans q3
  have hselP : selectMethod e.platform s.vm cellB.cls mk = .method mk := by rw [Launch.admits_selectMethod X.admits]; exact q4
  obtain ⟨vm₁, X₁, hstep₁⟩ := X.invokevirtual hexec hown hlink hnamed hmethM hstM hkP hkPi hy (a := b) (cell := cellB) hcell
    (fun z h => by rw [h] at hobj; cases hobj) hselP hmethM habM hkP hkPi (g := g) hg (argsL := argsL) (rest := rest) (hlen _ hsigM) hstack hdg
  rcases hK m meth c ⟨T.setVm vm₁, locs, cells, slots⟩ { g with stack := rest } (.invokevirtual index) mk (Value.ref b :: argsL).toArray X₁ hg hsize hdg hW (X₁.named hnamed) (hpre vm₁ X₁.warmed) with ⟨v, B, X', hpost, hsteps⟩ | ⟨q, B, X', hpost, hsteps⟩
  · exact Or.inl ⟨v, vm₁, B, X₁.warmed, X', hpost, fun target h => hstep₁ _ fun acts => by rw [doInvoke_state]; exact hsteps.trans h⟩
  · exact Or.inr ⟨q, vm₁, B, X₁.warmed, X', hpost, hstep₁ _ fun acts => by rw [doInvoke_state]; exact hsteps⟩
theorem vx_callSX (X : Stand p l e R s m args below meth c T locs cells slots) (hexec : p.tables.exec = Jvm.exec) {own : String} {index : Nat} {y : MethodName} {bytes : ByteArray} {maxL : Nat} {ret : Option FieldType} {hh : List (Nat × Nat × Nat × Nat)}
    (hown : s.vm.findClass own = some m.cls) (hlink : (Cond.methodLink own index y).before args s = true) (hstat : (Cond.static y).before args s = true) (hinit : (Cond.initialized y.cls).before args s = true)
    (hcode : (Cond.codeWith y bytes maxL ret hh).before args s = true) (hy : y.cls ≠ "java/lang/invoke/MethodHandle" ∧ y.cls ≠ "java/lang/invoke/VarHandle")
    {W9 : Nat} {Pre : Pt → Array Value → Prop} {Post : Pt → Array Value → Option Value → Pt → Prop} {PostX : Pt → Array Value → Addr → Pt → Prop} (hK : vx_Back l R p e below s args y 3 W9 Pre Post PostX)
    {g : JFrame} (hg : g.method = m) (hsize : g.locals.size = c.maxLocals) {argsL rest : List Value} (hlen : ∀ sig, parseMethodDescriptor y.desc = some sig → argsL.length = sig.parameters.length)
    (hstack : g.stack = argsL.reverse ++ rest) (hW : 2 * g.monitorRoom + (rest.map fun v => v.category).sum ≤ W9) (hdg : decode c.code g.pc = .ok (.invokestatic index, 3))
    (hpre : ∀ vm₁, s.WarmedH vm₁ → Pre ⟨T.setVm vm₁, locs, cells, slots⟩ argsL.toArray) :
    (∃ (v : Option Value) (vm₁ : Vm) (B : Pt), s.WarmedH vm₁ ∧ Stand p l e R s m args below meth c B.U B.locs B.cells B.slots ∧ Post ⟨T.setVm vm₁, locs, cells, slots⟩ argsL.toArray v B ∧
      ∀ target, Steps p.tables e below (B.U.setTop { g with pc := g.pc + 3, stack := v.toList ++ rest }) target → Steps p.tables e below (T.setTop g) target) ∨
    (∃ (q : Addr) (vm₁ : Vm) (B : Pt), s.WarmedH vm₁ ∧ Stand p l e R s m args below meth c B.U B.locs B.cells B.slots ∧ PostX ⟨T.setVm vm₁, locs, cells, slots⟩ argsL.toArray q B ∧
      Steps p.tables e below (T.setTop g) ((B.U.setTop { g with stack := rest }).pushFrame (.throwing q))) := by
  obtain ⟨mk, methM, cM, hnamed, hmethM, -, -, -, -, -, -, hsigM⟩ := Cond.codeWith_spec hcode
  have hstatic : methM.isStatic = true := Cond.static_spec hnamed hmethM hstat
  obtain ⟨kP, hkP, -⟩ := className_of_methodNamed hnamed
  have hinitP : kP.init = .initialized := Cond.initialized_spec (findClass_of_methodNamed hnamed) hkP hinit
  obtain ⟨vm₁, X₁, hstep₁⟩ := X.invokestatic hexec hown hlink hnamed hmethM hstatic hkP hinitP hy (g := g) hg (argsL := argsL) (rest := rest) (hlen _ hsigM) hstack hdg
  rcases hK m meth c ⟨T.setVm vm₁, locs, cells, slots⟩ { g with stack := rest } (.invokestatic index) mk argsL.toArray X₁ hg hsize hdg hW (X₁.named hnamed) (hpre vm₁ X₁.warmed) with ⟨v, B, X', hpost, hsteps⟩ | ⟨q, B, X', hpost, hsteps⟩
  · exact Or.inl ⟨v, vm₁, B, X₁.warmed, X', hpost, fun target h => hstep₁ _ fun acts => by rw [doInvoke_state]; exact hsteps.trans h⟩
  · exact Or.inr ⟨q, vm₁, B, X₁.warmed, X', hpost, hstep₁ _ fun acts => by rw [doInvoke_state]; exact hsteps⟩
theorem vx_callVW (X : Stand p l e R s m args below meth c T locs cells slots) (hexec : p.tables.exec = Jvm.exec) {own C : String} {index : Nat} {y : MethodName} {bytes : ByteArray} {maxL : Nat} {ret : Option FieldType} {hh : List (Nat × Nat × Nat × Nat)}
    (hown : s.vm.findClass own = some m.cls) (hlink : (Cond.methodLink own index y).before args s = true) (hinst : (Cond.instanceMethod y).before args s = true) (hsel : (Cond.selects C y y).before args s = true)
    (hcode : (Cond.codeWith y bytes maxL ret hh).before args s = true) (hy : y.cls ≠ "java/lang/invoke/MethodHandle" ∧ y.cls ≠ "java/lang/invoke/VarHandle")
    {W9 : Nat} {Pre : Pt → Array Value → Prop} {Post : Pt → Array Value → Option Value → Pt → Prop} (hK : Back l R p e below s args y 3 W9 Pre Post)
    {b : Addr} {cellB : Cell} (hcell : T.heap[b]? = some cellB) (hobj : cellB.vm.isStatics = false) (hcls : s.vm.findClass C = some cellB.cls)
    {g : JFrame} (hg : g.method = m) (hsize : g.locals.size = c.maxLocals) {argsL rest : List Value} (hlen : ∀ sig, parseMethodDescriptor y.desc = some sig → argsL.length = sig.parameters.length)
    (hstack : g.stack = argsL.reverse ++ .ref b :: rest) (hW : 2 * g.monitorRoom + (rest.map fun v => v.category).sum ≤ W9) (hdg : decode c.code g.pc = .ok (.invokevirtual index, 3))
    (hpre : ∀ vm₁, s.WarmedH vm₁ → Pre ⟨T.setVm vm₁, locs, cells, slots⟩ (Value.ref b :: argsL).toArray) :
    ∃ (v : Option Value) (vm₁ : Vm) (B : Pt), s.WarmedH vm₁ ∧ Stand p l e R s m args below meth c B.U B.locs B.cells B.slots ∧ Post ⟨T.setVm vm₁, locs, cells, slots⟩ (Value.ref b :: argsL).toArray v B ∧
      ∀ target, Steps p.tables e below (B.U.setTop { g with pc := g.pc + 3, stack := v.toList ++ rest }) target → Steps p.tables e below (T.setTop g) target := by
  obtain ⟨mk, methM, hnamed, hmethM, hstM, habM⟩ := Cond.instanceMethod_spec hinst
  obtain ⟨m8, methM', cM, hn8, hmethM', -, -, -, -, -, -, hsigM⟩ := Cond.codeWith_spec hcode
  cases Option.some.inj (hn8.symm.trans hnamed)
  cases hmethM.symm.trans hmethM'
  obtain ⟨c2, r2, m2, q1, q2, q3, q4, kP, hkP, hkPi⟩ := Cond.selects_spec hsel
  cases hcls.symm.trans q1
  cases (State.methodFound?_of_named hnamed hy).symm.trans q2
  cases hnamed.symm.trans q3
  have hselP : selectMethod e.platform s.vm cellB.cls mk = .method mk := by rw [Launch.admits_selectMethod X.admits]; exact q4
  obtain ⟨vm₁, X₁, hstep₁⟩ := X.invokevirtual hexec hown hlink hnamed hmethM hstM hkP hkPi hy (a := b) (cell := cellB) hcell
    (fun z h => by rw [h] at hobj; cases hobj) hselP hmethM habM hkP hkPi (g := g) hg (argsL := argsL) (rest := rest) (hlen _ hsigM) hstack hdg
  obtain ⟨v, B, X', hpost, hsteps⟩ := hK m meth c ⟨T.setVm vm₁, locs, cells, slots⟩ { g with stack := rest } (.invokevirtual index) mk (Value.ref b :: argsL).toArray X₁ hg hsize hdg hW (X₁.named hnamed) (hpre vm₁ X₁.warmed)
  exact ⟨v, vm₁, B, X₁.warmed, X', hpost, fun target h => hstep₁ _ fun acts => by rw [doInvoke_state]; exact hsteps.trans h⟩
abbrev vx_CVW (R : Room) (s : State) (args : Array Value) (own C : String) (index : Nat) (y : MethodName) (bytes : ByteArray) (maxL : Nat) (ret : Option FieldType) (hh : List (Nat × Nat × Nat × Nat)) (ws : List Cond) (rm : Room) (mc ms n : Nat) : Prop :=
  (rm.cells = mc ∧ rm.slots = ms ∧ rm.frames + 1 ≤ R.frames ∧ 8 + (maxL + 11) + rm.locals ≤ R.locals ∧ (∀ w ∈ ws, ∀ (a' : Array Value) (U : State), s.WarmedH U.vm → w.before a' U = true) ∧ Cond.codeWith y bytes maxL ret hh ∈ ws) ∧
  (Cond.codeWith y bytes maxL ret hh).before args s = true ∧ (Cond.initialized y.cls).before args s = true ∧ (y.cls ≠ "java/lang/invoke/MethodHandle" ∧ y.cls ≠ "java/lang/invoke/VarHandle") ∧
  (∀ sig, parseMethodDescriptor y.desc = some sig → n = sig.parameters.length) ∧ (Cond.methodLink own index y).before args s = true ∧ (Cond.instanceMethod y).before args s = true ∧ (Cond.selects C y y).before args s = true
theorem vx_cwVW {own C : String} {index maxL mc ms : Nat} {y : MethodName} {bytes : ByteArray} {ret : Option FieldType} {hh : List (Nat × Nat × Nat × Nat)} {Ts ws ws' : List Cond} {rm : Room} (n : Nat) (ht : ∀ w ∈ Ts, w.before args s = true) (hT : GoodIn Ts (wsV own index C y ws)) (hw : ws = Cond.codeWith y bytes maxL ret hh :: ws') (hrc : rm.cells = mc) (hrs : rm.slots = ms)
    (hd : y.cls = C ∧ y.cls ≠ "java/lang/invoke/MethodHandle" ∧ y.cls ≠ "java/lang/invoke/VarHandle" ∧ (parseMethodDescriptor y.desc).map (fun d => d.parameters.length) = some n) (hR : rm.frames + 1 ≤ R.frames ∧ 8 + (maxL + 11) + rm.locals ≤ R.locals) :
    vx_CVW R s args own C index y bytes maxL ret hh ws rm mc ms n := by
  obtain ⟨hC, hd⟩ := hd
  subst hC
  have ok : ∀ w ∈ wsV own index y.cls y ws, w.before args s = true := fun w h => ht w (hT w h).1
  have hG : GoodIn Ts ws := fun w h => hT w (by unfold wsV; exact List.mem_append_right _ h)
  have hc : Cond.codeWith y bytes maxL ret hh ∈ ws := by rw [hw]; exact List.mem_cons_self
  refine ⟨⟨hrc, hrs, hR.1, hR.2, pay_in ht hG, hc⟩, ht _ (hG _ hc).1, ok _ (by simp [wsV]), ⟨hd.1, hd.2.1⟩, fun sig h => ?_, ok _ (by simp [wsV]), ok _ (by simp [wsV]), ok _ (by simp [wsV])⟩
  have h2 := hd.2.2
  rw [h] at h2
  exact (Option.some.inj h2).symm
theorem vx_runVW {y : MethodName} {bytes cc : ByteArray} {maxL nL mc ms n index : Nat} {ret : Option FieldType} {hh : List (Nat × Nat × Nat × Nat)} {ws : List Cond} {rm : Room} {Pc : Array Value → State → Prop} {Qc : Array Value → State → Outcome → State → Prop} {free : Addr → Prop} {Ts : List Cond} {own C : String} {b : Addr} {As rest : List Value} {g : JFrame}
    (S : CallFix p m c cc nL s args Ts own) (hM : Met l y ws rm Pc Qc mc ms free) (cw : vx_CVW R s args own C index y bytes maxL ret hh ws rm mc ms n) (hp : PreV s H C b Pc As)
    (hg : g.method = m) (hn : As.length = n) (hsize : g.locals.size = nL) (hstack : g.stack = As.reverse ++ .ref b :: rest) (hW : 2 * g.monitorRoom + (rest.map fun v => v.category).sum ≤ 8) (hdg : decode cc g.pc = .ok (.invokevirtual index, 3)) (hf : cells + mc ≤ R.cells ∧ slots + ms ≤ R.slots) :
    va_Run p l e R s m args below meth c H locs cells slots mc ms g rest (Qc (Value.ref b :: As).toArray) free := by
  obtain ⟨⟨hrc, hrs, hfr, hlo, hws, hcw⟩, hcode, hini, hy, hlen, hl, hin, hse⟩ := cw
  have hK : Back l R p e below s args y 3 8 (PreOf R mc ms Pc) (PostOf Qc mc ms free) := va_backW (hh := hh) (bytes := bytes) (maxL := maxL) (ret := ret) hM hp.1 hrc hrs hfr hlo hws hcw (fun a' U hW => word_at hW (Or.inl (by first | rfl | simp [Cond.onTables, Cond.keeps, Cond.steady])) hini)
  obtain ⟨hx, hb, hml, ho, -⟩ := S
  obtain ⟨-, ⟨cellB, hcB, hoB, hclB⟩, hPc⟩ := hp
  intro T hT X
  obtain ⟨v, vm₁, ⟨U', l2, c2, s2⟩, hW₁, X', ⟨g', mk, t, L, e1, e2, hq, h1, hL, h2, h3⟩, st⟩ := vx_callVW X hx (C := C) (hh := hh) (bytes := bytes) (maxL := maxL) (ret := ret) ho hl hin hse hcode hy hK (by rw [hT]; exact hcB) hoB hclB hg (hsize.trans hml.symm) (argsL := As) (rest := rest) (fun sig h => hn.trans (hlen sig h)) hstack hW (by rw [hb]; exact hdg)
    (fun vm₁ hW₁ => ⟨hf.1, hf.2, hPc (T.setVm vm₁) hT hW₁⟩)
  dsimp only [Pt.U, Pt.locs, Pt.cells, Pt.slots] at X' e1 e2 h1 h2 h3 st
  subst h1; subst h2; subst h3
  exact ⟨v, (T.setVm vm₁).calling g' mk (Value.ref b :: As).toArray, t, U', L, hT, X', hL, e1, e2, hq, st⟩
section
variable {y : MethodName} {bytes cc : ByteArray} {maxL nL mc ms n index : Nat} {ret : Option FieldType} {ws : List Cond} {rm : Room} {Pc : Array Value → State → Prop} {Qc : Array Value → State → Outcome → State → Prop} {XC : String → State → State → Prop} {free : Addr → Prop} {Ts : List Cond} {own C : String} {b : Addr} {As rest : List Value} {g : JFrame}
theorem vx_runVX {hh : List (Nat × Nat × Nat × Nat)} (S : CallFix p m c cc nL s args Ts own) (hM : vx_Met l y ws rm Pc Qc XC mc ms free) (cw : vx_CVW R s args own C index y bytes maxL ret hh ws rm mc ms n) (hp : PreV s H C b Pc As)
    (hg : g.method = m) (hn : As.length = n) (hsize : g.locals.size = nL) (hstack : g.stack = As.reverse ++ .ref b :: rest) (hW : 2 * g.monitorRoom + (rest.map fun v => v.category).sum ≤ 8) (hdg : decode cc g.pc = .ok (.invokevirtual index, 3)) (hf : cells + mc ≤ R.cells ∧ slots + ms ≤ R.slots) :
    vx_Run p l e R s m args below meth c H locs cells slots mc ms g rest (Qc (Value.ref b :: As).toArray) XC free := by
  obtain ⟨⟨hrc, hrs, hfr, hlo, hws, hcw⟩, hcode, hini, hy, hlen, hl, hin, hse⟩ := cw
  have hK : vx_Back l R p e below s args y 3 8 (PreOf R mc ms Pc) (PostOf Qc mc ms free) (vx_Post XC mc ms free) := vx_backW (hh := hh) (bytes := bytes) (maxL := maxL) (ret := ret) hM hp.1 hrc hrs hfr hlo hws hcw (fun a' U hW => word_at hW (Or.inl (by first | rfl | simp [Cond.onTables, Cond.keeps, Cond.steady])) hini)
  obtain ⟨hx, hb, hml, ho, -⟩ := S
  obtain ⟨-, ⟨cellB, hcB, hoB, hclB⟩, hPc⟩ := hp
  intro T hT X
  rcases vx_callVX X hx (C := C) (hh := hh) (bytes := bytes) (maxL := maxL) (ret := ret) ho hl hin hse hcode hy hK (by rw [hT]; exact hcB) hoB hclB hg (hsize.trans hml.symm) (argsL := As) (rest := rest) (fun sig h => hn.trans (hlen sig h)) hstack hW (by rw [hb]; exact hdg)
    (fun vm₁ hW₁ => ⟨hf.1, hf.2, hPc (T.setVm vm₁) hT hW₁⟩) with ⟨v, vm₁, ⟨U', l2, c2, s2⟩, hW₁, X', ⟨g', mk, t, L, e1, e2, hq, h1, hL, h2, h3⟩, st⟩ | ⟨q, vm₁, ⟨U', l2, c2, s2⟩, hW₁, X', ⟨g', mk, t, L, E, ce, e1, e2, hq, hce, hcv, hcl, h1, hL, h2, h3⟩, st⟩
  · dsimp only [Pt.U, Pt.locs, Pt.cells, Pt.slots] at X' e1 e2 h1 h2 h3 st
    subst h1; subst h2; subst h3
    exact Or.inl ⟨v, (T.setVm vm₁).calling g' mk (Value.ref b :: As).toArray, t, U', L, hT, X', hL, e1, e2, hq, st⟩
  · dsimp only [Pt.U, Pt.locs, Pt.cells, Pt.slots] at X' e1 e2 h1 h2 h3 st hcl
    subst h1; subst h2; subst h3
    exact Or.inr ⟨q, (T.setVm vm₁).calling g' mk (Value.ref b :: As).toArray, t, U', L, E, ce, hT, X', hL, e1, e2, hq, hce, hcv, vx_cls hW₁ hcl, st⟩
theorem vx_runSX {hh : List (Nat × Nat × Nat × Nat)} (S : CallFix p m c cc nL s args Ts own) (hM : vx_Met l y ws rm Pc Qc XC mc ms free) (cw : vx_CSW R s args own index y bytes maxL ret hh ws rm mc ms n) (hp : PreS s H Pc As)
    (hg : g.method = m) (hn : As.length = n) (hsize : g.locals.size = nL) (hstack : g.stack = As.reverse ++ rest) (hW : 2 * g.monitorRoom + (rest.map fun v => v.category).sum ≤ 8) (hdg : decode cc g.pc = .ok (.invokestatic index, 3)) (hf : cells + mc ≤ R.cells ∧ slots + ms ≤ R.slots) :
    vx_Run p l e R s m args below meth c H locs cells slots mc ms g rest (Qc As.toArray) XC free := by
  obtain ⟨⟨hrc, hrs, hfr, hlo, hws, hcw⟩, hcode, hini, hy, hlen, hl, hstt⟩ := cw
  have hK : vx_Back l R p e below s args y 3 8 (PreOf R mc ms Pc) (PostOf Qc mc ms free) (vx_Post XC mc ms free) := vx_backW (hh := hh) (bytes := bytes) (maxL := maxL) (ret := ret) hM hp.1 hrc hrs hfr hlo hws hcw (fun a' U hW => word_at hW (Or.inl (by first | rfl | simp [Cond.onTables, Cond.keeps, Cond.steady])) hini)
  obtain ⟨hx, hb, hml, ho, -⟩ := S
  intro T hT X
  rcases vx_callSX X hx (hh := hh) (bytes := bytes) (maxL := maxL) (ret := ret) ho hl hstt hini hcode hy hK hg (hsize.trans hml.symm) (argsL := As) (rest := rest) (fun sig h => hn.trans (hlen sig h)) hstack hW (by rw [hb]; exact hdg)
    (fun vm₁ hW₁ => ⟨hf.1, hf.2, hp.2 (T.setVm vm₁) hT hW₁⟩) with ⟨v, vm₁, ⟨U', l2, c2, s2⟩, hW₁, X', ⟨g', mk, t, L, e1, e2, hq, h1, hL, h2, h3⟩, st⟩ | ⟨q, vm₁, ⟨U', l2, c2, s2⟩, hW₁, X', ⟨g', mk, t, L, E, ce, e1, e2, hq, hce, hcv, hcl, h1, hL, h2, h3⟩, st⟩
  · dsimp only [Pt.U, Pt.locs, Pt.cells, Pt.slots] at X' e1 e2 h1 h2 h3 st
    subst h1; subst h2; subst h3
    exact Or.inl ⟨v, (T.setVm vm₁).calling g' mk As.toArray, t, U', L, hT, X', hL, e1, e2, hq, st⟩
  · dsimp only [Pt.U, Pt.locs, Pt.cells, Pt.slots] at X' e1 e2 h1 h2 h3 st hcl
    subst h1; subst h2; subst h3
    exact Or.inr ⟨q, (T.setVm vm₁).calling g' mk As.toArray, t, U', L, E, ce, hT, X', hL, e1, e2, hq, hce, hcv, vx_cls hW₁ hcl, st⟩
end
end VXH
theorem vx_ofWH {l : Launch} {y : MethodName} {ws ws' : List Cond} {rm : Room} {Pc : Array Value → State → Prop} {Qc : Array Value → State → Outcome → State → Prop} {XC : String → State → State → Prop} {mc ms : Nat} {free : Addr → Prop} {cc : ByteArray} {maxL : Nat} {ret : Option FieldType} {hh : List (Nat × Nat × Nat × Nat)}
    (hy : plainName y.cls = true) (hw : ws = Cond.codeWith y cc maxL ret hh :: ws')
    (body : ∀ p e s m args below meth c s₁, BodyLoose p l y (headSpec ws rm) cc maxL ret e s m args below meth c s₁ → c.maxLocals = maxL → Pc args s →
      W p l e (headSpec ws rm).room s m args below meth c s.heap [] 0 0 (vx_MQ below Qc XC args s mc ms free) (entryFrame m args maxL)) : vx_Met l y ws rm Pc Qc XC mc ms free := by
  refine MetFree.of_bodyS (code := cc) (maxLocals := maxL) (ret := ret) hy ?_ ?_
  · intro args s m h hn
    obtain ⟨m9, meth, c, hn9, h1, h2, h3, h4, -, h5, h6, -⟩ := Cond.codeWith_spec (atoms_spec (ws := ws) h _ (by rw [hw]; exact List.mem_cons_self))
    cases hn.symm.trans hn9
    exact ⟨meth, c, h1, h2, h3, h4, h5, h6⟩
  · intro p e s m args below meth c s₁ B hml hP _
    have hh0 : s₁.heap = s.heap := by rw [B.state]; rfl
    obtain ⟨t, a1, o, b1, b2, b3⟩ := body p e s m args below meth c s₁ B hml hP s₁ hh0 (Stand.of_body B)
    exact ⟨t, o, a1, b1, b2, b3⟩
/-! ===== END ===== -/
end
section
/-! my own engine: a pure machine over the kit's judgements. A cell has a name (kind, number); a reference is a cell's name; the memory holds ints and longs alone, the shape of the world stands. -/
abbrev PV : Type := Int32 ⊕ (Int64 ⊕ (Nat × Nat))
abbrev Mm : Type := (Nat × Nat → Nat → Int32) × (Nat × Nat → Nat → Int64)
abbrev AD : Type := Nat × Nat → Nat
abbrev Zc : Type := Nat × Nat × Nat
abbrev vi (x : Int32) : PV := Sum.inl x
abbrev vl (x : Int64) : PV := Sum.inr (Sum.inl x)
abbrev vr (k j : Nat) : PV := Sum.inr (Sum.inr (k, j))
def tv (ad : AD) (v : PV) : Value := match v with
  | .inl x => .int x
  | .inr (.inl x) => .long x
  | .inr (.inr c) => .ref (ad c)
def pcat (v : PV) : Nat := match v with
  | .inl _ => 1
  | .inr (.inl _) => 2
  | .inr (.inr _) => 1
theorem tv_cat (ad : AD) (v : PV) : (tv ad v).category = pcat v := by
  rcases v with x | x | x <;> rfl
-- int arrays: 0-6 followers (6: the spare one's), 7 keys, 8 seenWays, 9 freshWays, 10 queue, 11 meetings, 12-15 passages and takenRepeated of the two tables, 16 to, 17 good, 18 size, 19 witness, 20 digit, 21 after, 22 beginnings
def lenI (n : Nat) : Nat := if n < 7 then 32 else if n < 11 then 1024 else if n = 11 then 4 else if n < 16 then 512 else if n = 16 then 48 else if n < 19 then 6 else if n = 19 then 4 else if n < 22 then 9 else 4
-- long arrays: 0 seen, 1 fresh, 2 coming, 3 the law's out
def lenL (n : Nat) : Nat := if n < 3 then 2461 else 1
-- kinds: 0 Automaton, 1 int[], 2 long[], 3 OmegaDesk, 4 Automaton[], 5 Refuter, 6 LassoFinder, 7 WordTable, 8 OmegaDeskModel
def fl (f : Nat → Int32) (c : Nat × Nat) : List PV := match c.1 with
  | 0 => [vi (f 0), vi (f 1), vr 1 c.2]
  | 3 => [vr 4 0, vr 0 6, vr 5 0, vr 6 0]
  | 5 => [vr 1 7, vr 1 8, vr 1 9, vr 1 10, vi (f 4), vi (f 5), vr 1 11]
  | 6 => [vr 7 0, vr 7 1, vi (f 2), vi (f 3), vi (f 4), vi (f 5), vi (f 6)]
  | 7 => [vr 1 (12 + 2 * c.2), vr 1 (13 + 2 * c.2)]
  | _ => [vi (f 0), vr 1 16, vr 1 17, vr 1 18, vi (f 4), vr 1 19, vr 2 0, vr 2 1, vr 2 2, vr 1 20, vr 1 21, vr 1 22]
def cix (k : Nat) : Nat := match k with
  | 0 => 0
  | 3 => 1
  | 5 => 2
  | 6 => 3
  | 7 => 4
  | _ => 5
def smap (ad : AD) (st : List PV) : List Value := st.map (tv ad)
def lmap (ad : AD) (L : List (Nat × PV)) : List (Nat × Value) := L.map (fun q => (q.1, tv ad q.2))
def ent (ad : AD) (z : Zc) (f : Nat → Int32) (g : Nat → Int64) (c : Nat × Nat) : va_E := match c.1 with
  | 1 => .inl (z.1, lenI c.2, .inl f)
  | 2 => .inl (z.2.1, lenL c.2, .inr (.inl g))
  | 4 => .inl (z.2.2, 6, .inr (.inr (.inr (.inr (fun i => some (ad (0, i)))))))
  | k => .inr (cix k, smap ad (fl f c))
def allc : List (Nat × Nat) := [(0, 0), (0, 1), (0, 2), (0, 3), (0, 4), (0, 5), (0, 6), (1, 0), (1, 1), (1, 2), (1, 3), (1, 4), (1, 5), (1, 6), (1, 7), (1, 8), (1, 9), (1, 10), (1, 11), (1, 12), (1, 13), (1, 14), (1, 15), (1, 16), (1, 17), (1, 18), (1, 19), (1, 20), (1, 21), (1, 22), (2, 0), (2, 1), (2, 2), (2, 3), (3, 0), (4, 0), (5, 0), (6, 0), (7, 0), (7, 1), (8, 0)]
def posc (c : Nat × Nat) : Nat := match c.1 with
  | 0 => c.2
  | 1 => 7 + c.2
  | 2 => 30 + c.2
  | 7 => 38 + c.2
  | 8 => 40
  | k => 31 + k
theorem posc_all : ∀ i, i < 41 → (allc[i]?).map posc = some i := by decide
theorem allc_inj {i j : Nat} {c : Nat × Nat} (h1 : allc[i]? = some c) (h2 : allc[j]? = some c) : i = j := by
  have a := posc_all i (List.getElem?_eq_some_iff.mp h1).1
  have b := posc_all j (List.getElem?_eq_some_iff.mp h2).1
  rw [h1] at a
  rw [h2] at b
  exact (Option.some.inj a).symm.trans (Option.some.inj b)
theorem ok0 {j : Nat} (h : j < 7) : (0, j) ∈ allc := by
  rcases (show j = 0 ∨ j = 1 ∨ j = 2 ∨ j = 3 ∨ j = 4 ∨ j = 5 ∨ j = 6 by omega) with rfl | rfl | rfl | rfl | rfl | rfl | rfl <;> decide
theorem ok1 {j : Nat} (h : j < 23) : (1, j) ∈ allc := by
  have hh : ∀ i, i < 23 → (1, i) ∈ allc := by decide
  exact hh j h
theorem ok2 {j : Nat} (h : j < 4) : (2, j) ∈ allc := by
  have hh : ∀ i, i < 4 → (2, i) ∈ allc := by decide
  exact hh j h
theorem ok7 {j : Nat} (h : j < 2) : (7, j) ∈ allc := by
  have hh : ∀ i, i < 2 → (7, i) ∈ allc := by decide
  exact hh j h
def wd (ad : AD) (z : Zc) (M : Mm) : va_W := allc.map (fun c => (ad c, ent ad z (M.1 c) (M.2 c) c))
theorem wd_at {ad : AD} {z : Zc} {M : Mm} {c : Nat × Nat} (h : c ∈ allc) : ∃ q : Nat, (wd ad z M)[q]? = some (ad c, ent ad z (M.1 c) (M.2 c) c) ∧ allc[q]? = some c := by
  obtain ⟨q, hq⟩ := List.getElem?_of_mem h
  exact ⟨q, by simp [wd, hq], hq⟩
theorem wd_set {ad : AD} {z : Zc} {M M' : Mm} {c : Nat × Nat} {q : Nat} (hq : allc[q]? = some c) (h1 : ∀ c', c' ≠ c → M'.1 c' = M.1 c' ∧ M'.2 c' = M.2 c') {e : va_E} (he : e = ent ad z (M'.1 c) (M'.2 c) c) : (wd ad z M).set q (ad c, e) = wd ad z M' := by
  subst he
  apply List.ext_getElem?
  intro i
  by_cases hi : i = q
  · subst hi
    have hl : i < (wd ad z M).length := by
      have := (List.getElem?_eq_some_iff.mp hq).1
      simpa [wd] using this
    rw [List.getElem?_set_self hl]
    simp [wd, hq]
  · rw [List.getElem?_set_ne (Ne.symm hi)]
    simp only [wd, List.getElem?_map]
    cases hc : allc[i]? with
    | none => rfl
    | some c' =>
      have hne : c' ≠ c := by
        intro h
        subst h
        exact hi (allc_inj hc hq)
      obtain ⟨a, b⟩ := h1 c' hne
      show some (ad c', ent ad z (M.1 c') (M.2 c') c') = some (ad c', ent ad z (M'.1 c') (M'.2 c') c')
      rw [a, b]
def uI (M : Mm) (c : Nat × Nat) (k : Nat) (v : Int32) : Mm := (fun c' => if c' = c then upd (M.1 c) k v else M.1 c', M.2)
def uL (M : Mm) (c : Nat × Nat) (k : Nat) (v : Int64) : Mm := (M.1, fun c' => if c' = c then vp_updL (M.2 c) k v else M.2 c')
theorem uI_self (M : Mm) (c : Nat × Nat) (k : Nat) (v : Int32) : (uI M c k v).1 c = upd (M.1 c) k v := if_pos rfl
theorem uI_ne (M : Mm) {c c' : Nat × Nat} (k : Nat) (v : Int32) (h : c' ≠ c) : (uI M c k v).1 c' = M.1 c' := if_neg h
theorem uL_self (M : Mm) (c : Nat × Nat) (k : Nat) (v : Int64) : (uL M c k v).2 c = vp_updL (M.2 c) k v := if_pos rfl
theorem uL_ne (M : Mm) {c c' : Nat × Nat} (k : Nat) (v : Int64) (h : c' ≠ c) : (uL M c k v).2 c' = M.2 c' := if_neg h
abbrev tz (z : Zc) : List (ClassId × FieldType) := [(z.1, .int), (z.2.1, .long), (z.2.2, .object "OmegaDesk$Automaton")]
/-! instruction lengths, a method's table, a method -/
def ilen (i : Jvm.ClassFile.Instr) : Nat := match i with
  | .aload _ | .iload _ | .lload _ | .istore _ | .lstore _ | .astore _ | .bipush _ | .ldc _ | .newarray _ => 2
  | .sipush _ | .ldc_w _ | .ldc2_w _ | .getfield _ | .putfield _ | .getstatic _ | .invokevirtual _ | .invokespecial _ | .invokestatic _ | .new _ | .anewarray _ | .if_icmp _ _ | .ifCond _ _ | .goto _ | .iinc _ _ | .checkcast _ | .instanceof _ | .ifnull _ | .ifnonnull _ | .if_acmp _ _ => 3
  | _ => 1
abbrev Tb : Type := List (Nat × Jvm.ClassFile.Instr × Nat)
def tbq (cc : ByteArray) (q : Nat × Jvm.ClassFile.Instr × Nat) : Bool := match decode cc q.1 with
  | .ok (i, n) => decide (i = q.2.1) && (decide (n = ilen q.2.1) && decide (q.2.2 = q.1 + ilen q.2.1))
  | .error _ => false
def TBk (cc : ByteArray) (tb : Tb) : Prop := tb.all (tbq cc) = true
theorem TBk.at {cc : ByteArray} {tb : Tb} (h : TBk cc tb) {k pc pc' : Nat} {i : Jvm.ClassFile.Instr} (hk : tb[k]? = some (pc, i, pc')) : decode cc pc = .ok (i, ilen i) ∧ pc' = pc + ilen i := by
  have h1 : tbq cc (pc, i, pc') = true := List.all_eq_true.mp h _ (List.mem_of_getElem? hk)
  unfold tbq at h1
  cases hd : decode cc pc with
  | error e => simp only [hd] at h1; cases h1
  | ok r =>
    obtain ⟨i', n⟩ := r
    simp only [hd, Bool.and_eq_true, decide_eq_true_eq] at h1
    obtain ⟨rfl, rfl, e3⟩ := h1
    exact ⟨rfl, e3⟩
abbrev MX : Type := MethodName × ByteArray × Nat × Option FieldType × Room × Tb
abbrev xy (X : MX) : MethodName := X.1
abbrev xc (X : MX) : ByteArray := X.2.1
abbrev xn (X : MX) : Nat := X.2.2.1
abbrev xr (X : MX) : Option FieldType := X.2.2.2.1
abbrev xm (X : MX) : Room := X.2.2.2.2.1
abbrev xt (X : MX) : Tb := X.2.2.2.2.2
def xw (X : MX) : List Cond := Cond.code (xy X) (xc X) (xn X) (xr X) :: WB
/-- what is known of a method once for all -/
def Mk (X : MX) : Prop := TBk (xc X) (xt X) ∧ plainName (xy X).cls = true ∧ Cond.code (xy X) (xc X) (xn X) (xr X) ∈ WB ∧ ((xy X).cls ≠ "java/lang/invoke/MethodHandle" ∧ (xy X).cls ≠ "java/lang/invoke/VarHandle") ∧ (xm X).cells = 0 ∧ (xm X).slots = 0 ∧ Cond.initialized (xy X).cls ∈ WB
theorem gi_of {Y : MX} (hY : Mk Y) : GoodIn WB (xw Y) := by
  intro w hw
  rcases List.mem_cons.mp hw with rfl | hw
  · exact ⟨hY.2.2.1, good_of_word (List.mem_filter.mp hY.2.2.1).2⟩
  · exact ⟨hw, good_of_word (List.mem_filter.mp hw).2⟩
/-- nest mates' links: they stand over the warming of the tables -/
def nestW (w : Cond) : Bool := match w with
  | .fieldLinkNest .. => true
  | .methodLinkNest .. => true
  | .castable .. => true
  | .declares .. => true
  | _ => false
theorem NW_nest : ∀ w ∈ NW, nestW w = true := by
  intro w hw
  have h : NW.all nestW = true := by decide +kernel
  exact List.all_eq_true.mp h w hw
theorem nw_cast {a b : String} {s U : State} (hW : s.WarmedH U.vm) (hZ : va_Nw (.castable a b) s) : va_Nw (.castable a b) U := va_tabs rfl (rfl : (s.setVm U.vm).vm = U.vm) (by rw [Cond.castable_setVm hW.alike]; exact hZ)
theorem nw_warm {s U : State} (hW : s.WarmedH U.vm) (h : ∀ w ∈ NW, va_Nw w s) : ∀ w ∈ NW, va_Nw w U := by
  intro w hw
  have h1 := h w hw
  have h2 := NW_nest w hw
  cases w <;> first | exact va_Nw.warmF hW h1 | exact va_Nw.warmM hW h1 | exact nw_cast hW h1 | exact va_Nw.warmD hW h1 | (exact absurd h2 (by simp [nestW]))
theorem nw_same {s U : State} (hv : s.vm = U.vm) (h : ∀ w ∈ NW, va_Nw w s) : ∀ w ∈ NW, va_Nw w U := by
  intro w hw
  have h1 := h w hw
  have h2 := NW_nest w hw
  cases w <;> first | exact va_Nw.same rfl hv h1 | (exact absurd h2 (by simp [nestW]))
/-- what the throws need: no traces kept, two statics of Throwable, the texts -/
def Exw (l : Launch) (A : Nat → Prop) (U : State) : Prop := l.stackTraces = false ∧ vx_Zq Bundle.tN "UNASSIGNED_STACK" Bundle.steD A U U.heap ∧ vx_Zq Bundle.tN "SUPPRESSED_SENTINEL" Bundle.listD A U U.heap ∧ (∀ q ∈ STR, ∃ sa, vk_R q.1 q.2.1 q.2.2 sa U) ∧ va_Nc "java/lang/IllegalStateException" "java/lang/IllegalArgumentException" U ∧ va_Nc "java/util/NoSuchElementException" "java/lang/IllegalArgumentException" U
abbrev Tgt : Type := (va_G → AD → Zc → State → Array Value → List Frame → (Nat → Prop) → State → Prop) × (AD → State → (Nat → Prop) → Code → Prop)
def gQ (D : va_G) (ad : AD) (z : Zc) (post : Option PV → Mm → Prop) (A : Nat → Prop) : Array Value → State → Outcome → State → Prop := fun _ st oc t =>
  (∃ (r : Option PV) (M' : Mm), oc = .returned (r.map (tv ad)) ∧ post r M' ∧ va_P D classes (wd ad z M') t.heap ∧ va_K D classes (tz z) t ∧ va_D A (wd ad z M')) ∧ va_F A st t
def PreW (l : Launch) (D : va_G) (ad : AD) (z : Zc) (M : Mm) (sz : Nat) (U : State) : Prop := U.heap.size = sz ∧ Exw l (va_A (wd ad z M) sz) U ∧ (∀ w ∈ NW, va_Nw w U) ∧ va_P D classes (wd ad z M) U.heap ∧ va_K D classes (tz z) U ∧ va_D (fun _ => True) (wd ad z M)
/-- the contract of a method of the machine -/
def Ev (l : Launch) (X : MX) (av : List PV) (M : Mm) (post : Option PV → Mm → Prop) : Prop :=
  ∀ (D : va_G) (ad : AD) (z : Zc) (sz : Nat), Met l (xy X) (xw X) (xm X) (va_Pc (smap ad av) (PreW l D ad z M sz)) (gQ D ad z post (va_A (wd ad z M) sz)) 0 0 (va_A (wd ad z M) sz)
def Cx (l : Launch) (X : MX) (tg : Tgt) (cs : Nat × Nat) (D : va_G) (ad : AD) (z : Zc) (p : Program) (s : State) (m : MethodId) (args : Array Value) (meth : Method) (c : Code) (A : Nat → Prop) : Prop :=
  TBk (xc X) (xt X) ∧ CallFix p m c (xc X) (xn X) s args WB (xy X).cls ∧ meth.sig.returnType = xr X ∧ meth.locks = false ∧ (∀ w ∈ NW, va_Nw w s) ∧ va_K D classes (tz z) s ∧ (∀ q, s.heap.size ≤ q → A q) ∧ Exw l A s ∧ (cs.1 ≤ (xm X).cells ∧ cs.2 ≤ (xm X).slots) ∧ tg.2 ad s A c
def Hw (D : va_G) (ad : AD) (z : Zc) (s : State) (A : Nat → Prop) (M : Mm) (H : Heap) (locs : List Loc) : Prop := va_P D classes (wd ad z M) H ∧ va_D A (wd ad z M) ∧ va_S A s.heap H locs
/-- the machine goes on from here to the target -/
def Gx (l : Launch) (X : MX) (tg : Tgt) (cs : Nat × Nat) (pc : Nat) (L : List (Nat × PV)) (st : List PV) (M : Mm) : Prop :=
  ∀ (D : va_G) (ad : AD) (z : Zc) (p : Program) (e : Env) (s : State) (m : MethodId) (args : Array Value) (below : List Frame) (meth : Method) (c : Code) (H : Heap) (locs : List Loc) (ls : Array Slot) (A : Nat → Prop),
    Cx l X tg cs D ad z p s m args meth c A → lv_has ls (xn X) (lmap ad L) → Hw D ad z s A M H locs → W p l e (xm X) s m args below meth c H locs cs.1 cs.2 (tg.1 D ad z s args below A) (F0 m pc ls (smap ad st))
def nT (post : Option PV → Mm → Prop) : Tgt := (fun D ad z s args below A => MQ below (gQ D ad z post A) args s 0 0 A, fun _ _ _ _ => True)
/-- .. to a return with 'post', nothing made -/
abbrev Go (l : Launch) (X : MX) (post : Option PV → Mm → Prop) (pc : Nat) (L : List (Nat × PV)) (st : List PV) (M : Mm) : Prop := Gx l X (nT post) (0, 0) pc L st M
theorem Ev.of {l : Launch} {X : MX} {av : List PV} {M : Mm} {post : Option PV → Mm → Prop} (hX : Mk X) (L : List (Nat × PV)) (hL : ∀ ad : AD, lv_args 0 (smap ad av) = lmap ad L) (hn : ∀ ad : AD, (lg_sl (smap ad av)).length ≤ xn X) (g : Go l X post 0 L [] M) : Ev l X av M post := by
  intro D ad z sz
  refine Met.ofW (cc := xc X) (maxL := xn X) (ret := xr X) hX.2.1 rfl ?_
  intro p e s m args below meth c s₁ B hml hv
  obtain ⟨rfl, hsz, hE, hN, hP, hK, hD0⟩ := hv
  subst hsz
  have hts := atoms_spec (ws := xw X) B.pre
  have hl := lv_entry (smap ad av) (n := xn X) (hn ad)
  rw [lg_entry_eq]
  generalize (lg_sl (smap ad av) ++ List.replicate (xn X - (lg_sl (smap ad av)).length) Slot.unset).toArray = ls at hl ⊢
  rw [hL ad] at hl
  exact g D ad z p e s m _ below meth c s.heap [] ls (va_A (wd ad z M) s.heap.size) ⟨hX.1, ⟨B.exec, B.bytes, hml, findClass_of_methodNamed B.named, fun w hw => hts w (List.mem_cons_of_mem _ hw)⟩, B.returns, B.notSynchronized, hN, hK, fun q h => Or.inr h, hE, ⟨Nat.zero_le _, Nat.zero_le _⟩, trivial⟩ hl ⟨hP, hD0.self, va_S.rf⟩
section EN
variable {l : Launch} {X : MX} {tg : Tgt} {cs : Nat × Nat} {post : Option PV → Mm → Prop} {pc pc' : Nat} {L : List (Nat × PV)} {st : List PV} {M : Mm}
theorem Go.mono {post' : Option PV → Mm → Prop} (h : ∀ r M', post' r M' → post r M') (g : Go l X post' pc L st M) : Go l X post pc L st M := by
  intro D ad z p e s m args below meth c H locs ls A C hl hW T hT S
  obtain ⟨t, a, o, b1, b2, b3, b4⟩ := g D ad z p e s m args below meth c H locs ls A C hl hW T hT S
  obtain ⟨⟨r, M', c1, c2, c3⟩, c4⟩ := b3
  exact ⟨t, a, o, b1, b2, ⟨⟨r, M', c1, h r M' c2, c3⟩, c4⟩, b4⟩
/-- fewer locals, or in another order: by their places -/
theorem go_sub (ks : List Nat) {L' : List (Nat × PV)} (h : ks.filterMap (fun k => L[k]?) = L') (g : Gx l X tg cs pc L' st M) : Gx l X tg cs pc L st M := by
  intro D ad z p e s m args below meth c H locs ls A C hl hW
  refine g D ad z p e s m args below meth c H locs ls A C ⟨hl.1, hl.2.1, fun q hq => hl.2.2 q ?_⟩ hW
  subst h
  obtain ⟨q0, h0, rfl⟩ := List.mem_map.mp hq
  obtain ⟨k, -, hk⟩ := List.mem_filterMap.mp h0
  exact List.mem_map.mpr ⟨q0, List.mem_of_getElem? hk, rfl⟩
theorem go_iadd {x y : Int32} (k : Nat) (hk : (xt X)[k]? = some (pc, .iadd, pc')) (g : Gx l X tg cs pc' L (vi (x + y) :: st) M) : Gx l X tg cs pc L (vi y :: vi x :: st) M := by
  intro D ad z p e s m args below meth c H locs ls A C hl hW
  obtain ⟨d, e1⟩ := C.1.at hk
  subst e1
  exact lv_iadd (x := x) (y := y) (rest := smap ad st) C.2.1.1 C.2.1.2.1 d (g D ad z p e s m args below meth c H locs ls A C hl hW)
theorem go_isub {x y : Int32} (k : Nat) (hk : (xt X)[k]? = some (pc, .isub, pc')) (g : Gx l X tg cs pc' L (vi (x - y) :: st) M) : Gx l X tg cs pc L (vi y :: vi x :: st) M := by
  intro D ad z p e s m args below meth c H locs ls A C hl hW
  obtain ⟨d, e1⟩ := C.1.at hk
  subst e1
  exact lv_isub (x := x) (y := y) (rest := smap ad st) C.2.1.1 C.2.1.2.1 d (g D ad z p e s m args below meth c H locs ls A C hl hW)
theorem go_imul {x y : Int32} (k : Nat) (hk : (xt X)[k]? = some (pc, .imul, pc')) (g : Gx l X tg cs pc' L (vi (x * y) :: st) M) : Gx l X tg cs pc L (vi y :: vi x :: st) M := by
  intro D ad z p e s m args below meth c H locs ls A C hl hW
  obtain ⟨d, e1⟩ := C.1.at hk
  subst e1
  exact lv_imul (x := x) (y := y) (rest := smap ad st) C.2.1.1 C.2.1.2.1 d (g D ad z p e s m args below meth c H locs ls A C hl hW)
theorem go_iand {x y : Int32} (k : Nat) (hk : (xt X)[k]? = some (pc, .iand, pc')) (g : Gx l X tg cs pc' L (vi (x &&& y) :: st) M) : Gx l X tg cs pc L (vi y :: vi x :: st) M := by
  intro D ad z p e s m args below meth c H locs ls A C hl hW
  obtain ⟨d, e1⟩ := C.1.at hk
  subst e1
  exact lv_iand (x := x) (y := y) (rest := smap ad st) C.2.1.1 C.2.1.2.1 d (g D ad z p e s m args below meth c H locs ls A C hl hW)
theorem go_ior {x y : Int32} (k : Nat) (hk : (xt X)[k]? = some (pc, .ior, pc')) (g : Gx l X tg cs pc' L (vi (x ||| y) :: st) M) : Gx l X tg cs pc L (vi y :: vi x :: st) M := by
  intro D ad z p e s m args below meth c H locs ls A C hl hW
  obtain ⟨d, e1⟩ := C.1.at hk
  subst e1
  exact lv_ior (x := x) (y := y) (rest := smap ad st) C.2.1.1 C.2.1.2.1 d (g D ad z p e s m args below meth c H locs ls A C hl hW)
theorem go_ixor {x y : Int32} (k : Nat) (hk : (xt X)[k]? = some (pc, .ixor, pc')) (g : Gx l X tg cs pc' L (vi (x ^^^ y) :: st) M) : Gx l X tg cs pc L (vi y :: vi x :: st) M := by
  intro D ad z p e s m args below meth c H locs ls A C hl hW
  obtain ⟨d, e1⟩ := C.1.at hk
  subst e1
  exact lv_ixor (x := x) (y := y) (rest := smap ad st) C.2.1.1 C.2.1.2.1 d (g D ad z p e s m args below meth c H locs ls A C hl hW)
theorem go_ishl {x y : Int32} (k : Nat) (hk : (xt X)[k]? = some (pc, .ishl, pc')) (g : Gx l X tg cs pc' L (vi (x <<< (y &&& 31)) :: st) M) : Gx l X tg cs pc L (vi y :: vi x :: st) M := by
  intro D ad z p e s m args below meth c H locs ls A C hl hW
  obtain ⟨d, e1⟩ := C.1.at hk
  subst e1
  exact lv_ishl (x := x) (y := y) (rest := smap ad st) C.2.1.1 C.2.1.2.1 d (g D ad z p e s m args below meth c H locs ls A C hl hW)
theorem go_ishr {x y : Int32} (k : Nat) (hk : (xt X)[k]? = some (pc, .ishr, pc')) (g : Gx l X tg cs pc' L (vi (x >>> (y &&& 31)) :: st) M) : Gx l X tg cs pc L (vi y :: vi x :: st) M := by
  intro D ad z p e s m args below meth c H locs ls A C hl hW
  obtain ⟨d, e1⟩ := C.1.at hk
  subst e1
  exact lv_ishr (x := x) (y := y) (rest := smap ad st) C.2.1.1 C.2.1.2.1 d (g D ad z p e s m args below meth c H locs ls A C hl hW)
theorem go_iushr {x y : Int32} (k : Nat) (hk : (xt X)[k]? = some (pc, .iushr, pc')) (g : Gx l X tg cs pc' L (vi ((x.toUInt32 >>> (y.toUInt32 &&& Int32.toUInt32 31)).toInt32) :: st) M) : Gx l X tg cs pc L (vi y :: vi x :: st) M := by
  intro D ad z p e s m args below meth c H locs ls A C hl hW
  obtain ⟨d, e1⟩ := C.1.at hk
  subst e1
  exact lv_iushr (x := x) (y := y) (rest := smap ad st) C.2.1.1 C.2.1.2.1 d rfl (g D ad z p e s m args below meth c H locs ls A C hl hW)
theorem go_idiv {x y : Int32} (k : Nat) (hk : (xt X)[k]? = some (pc, .idiv, pc')) (hne : ¬ y = 0) (g : Gx l X tg cs pc' L (vi (x / y) :: st) M) : Gx l X tg cs pc L (vi y :: vi x :: st) M := by
  intro D ad z p e s m args below meth c H locs ls A C hl hW
  obtain ⟨d, e1⟩ := C.1.at hk
  subst e1
  exact lv_idiv (x := x) (y := y) (rest := smap ad st) C.2.1.1 C.2.1.2.1 d hne (g D ad z p e s m args below meth c H locs ls A C hl hW)
theorem go_irem {x y : Int32} (k : Nat) (hk : (xt X)[k]? = some (pc, .irem, pc')) (hne : ¬ y = 0) (g : Gx l X tg cs pc' L (vi (x - x / y * y) :: st) M) : Gx l X tg cs pc L (vi y :: vi x :: st) M := by
  intro D ad z p e s m args below meth c H locs ls A C hl hW
  obtain ⟨d, e1⟩ := C.1.at hk
  subst e1
  exact lv_irem (x := x) (y := y) (rest := smap ad st) C.2.1.1 C.2.1.2.1 d hne (g D ad z p e s m args below meth c H locs ls A C hl hW)
theorem go_ineg {x : Int32} (k : Nat) (hk : (xt X)[k]? = some (pc, .ineg, pc')) (g : Gx l X tg cs pc' L (vi (-x) :: st) M) : Gx l X tg cs pc L (vi x :: st) M := by
  intro D ad z p e s m args below meth c H locs ls A C hl hW
  obtain ⟨d, e1⟩ := C.1.at hk
  subst e1
  exact lv_ineg (x := x) (rest := smap ad st) C.2.1.1 C.2.1.2.1 d (g D ad z p e s m args below meth c H locs ls A C hl hW)
theorem go_ladd {x y : Int64} (k : Nat) (hk : (xt X)[k]? = some (pc, .ladd, pc')) (g : Gx l X tg cs pc' L (vl (x + y) :: st) M) : Gx l X tg cs pc L (vl y :: vl x :: st) M := by
  intro D ad z p e s m args below meth c H locs ls A C hl hW
  obtain ⟨d, e1⟩ := C.1.at hk
  subst e1
  exact lv_ladd (x := x) (y := y) (rest := smap ad st) C.2.1.1 C.2.1.2.1 d (g D ad z p e s m args below meth c H locs ls A C hl hW)
theorem go_lsub {x y : Int64} (k : Nat) (hk : (xt X)[k]? = some (pc, .lsub, pc')) (g : Gx l X tg cs pc' L (vl (x - y) :: st) M) : Gx l X tg cs pc L (vl y :: vl x :: st) M := by
  intro D ad z p e s m args below meth c H locs ls A C hl hW
  obtain ⟨d, e1⟩ := C.1.at hk
  subst e1
  exact lv_lsub (x := x) (y := y) (rest := smap ad st) C.2.1.1 C.2.1.2.1 d (g D ad z p e s m args below meth c H locs ls A C hl hW)
theorem go_lmul {x y : Int64} (k : Nat) (hk : (xt X)[k]? = some (pc, .lmul, pc')) (g : Gx l X tg cs pc' L (vl (x * y) :: st) M) : Gx l X tg cs pc L (vl y :: vl x :: st) M := by
  intro D ad z p e s m args below meth c H locs ls A C hl hW
  obtain ⟨d, e1⟩ := C.1.at hk
  subst e1
  exact lv_lmul (x := x) (y := y) (rest := smap ad st) C.2.1.1 C.2.1.2.1 d (g D ad z p e s m args below meth c H locs ls A C hl hW)
theorem go_land {x y : Int64} (k : Nat) (hk : (xt X)[k]? = some (pc, .land, pc')) (g : Gx l X tg cs pc' L (vl (x &&& y) :: st) M) : Gx l X tg cs pc L (vl y :: vl x :: st) M := by
  intro D ad z p e s m args below meth c H locs ls A C hl hW
  obtain ⟨d, e1⟩ := C.1.at hk
  subst e1
  exact lv_land (x := x) (y := y) (rest := smap ad st) C.2.1.1 C.2.1.2.1 d (g D ad z p e s m args below meth c H locs ls A C hl hW)
theorem go_lor {x y : Int64} (k : Nat) (hk : (xt X)[k]? = some (pc, .lor, pc')) (g : Gx l X tg cs pc' L (vl (x ||| y) :: st) M) : Gx l X tg cs pc L (vl y :: vl x :: st) M := by
  intro D ad z p e s m args below meth c H locs ls A C hl hW
  obtain ⟨d, e1⟩ := C.1.at hk
  subst e1
  exact lv_lor (x := x) (y := y) (rest := smap ad st) C.2.1.1 C.2.1.2.1 d (g D ad z p e s m args below meth c H locs ls A C hl hW)
theorem go_lxor {x y : Int64} (k : Nat) (hk : (xt X)[k]? = some (pc, .lxor, pc')) (g : Gx l X tg cs pc' L (vl (x ^^^ y) :: st) M) : Gx l X tg cs pc L (vl y :: vl x :: st) M := by
  intro D ad z p e s m args below meth c H locs ls A C hl hW
  obtain ⟨d, e1⟩ := C.1.at hk
  subst e1
  exact lv_lxor (x := x) (y := y) (rest := smap ad st) C.2.1.1 C.2.1.2.1 d (g D ad z p e s m args below meth c H locs ls A C hl hW)
theorem go_lushr {x : Int64} {y : Int32} (k : Nat) (hk : (xt X)[k]? = some (pc, .lushr, pc')) (g : Gx l X tg cs pc' L (vl ((x.toUInt64 >>> (y.toInt64.toUInt64 &&& Int64.toUInt64 63)).toInt64) :: st) M) : Gx l X tg cs pc L (vi y :: vl x :: st) M := by
  intro D ad z p e s m args below meth c H locs ls A C hl hW
  obtain ⟨d, e1⟩ := C.1.at hk
  subst e1
  exact lv_lushr (x := x) (y := y) (rest := smap ad st) C.2.1.1 C.2.1.2.1 d rfl (g D ad z p e s m args below meth c H locs ls A C hl hW)
theorem go_lshl {x : Int64} {y : Int32} (k : Nat) (hk : (xt X)[k]? = some (pc, .lshl, pc')) (g : Gx l X tg cs pc' L (vl (x <<< (y.toInt64 &&& 63)) :: st) M) : Gx l X tg cs pc L (vi y :: vl x :: st) M := by
  intro D ad z p e s m args below meth c H locs ls A C hl hW
  obtain ⟨d, e1⟩ := C.1.at hk
  subst e1
  exact lv_lshl (x := x) (y := y) (rest := smap ad st) C.2.1.1 C.2.1.2.1 d rfl (g D ad z p e s m args below meth c H locs ls A C hl hW)
theorem go_lshr {x : Int64} {y : Int32} (k : Nat) (hk : (xt X)[k]? = some (pc, .lshr, pc')) (g : Gx l X tg cs pc' L (vl (x >>> (y.toInt64 &&& 63)) :: st) M) : Gx l X tg cs pc L (vi y :: vl x :: st) M := by
  intro D ad z p e s m args below meth c H locs ls A C hl hW
  obtain ⟨d, e1⟩ := C.1.at hk
  subst e1
  exact lv_lshr (x := x) (y := y) (rest := smap ad st) C.2.1.1 C.2.1.2.1 d rfl (g D ad z p e s m args below meth c H locs ls A C hl hW)
theorem go_i2l {x : Int32} (k : Nat) (hk : (xt X)[k]? = some (pc, .i2l, pc')) (g : Gx l X tg cs pc' L (vl x.toInt64 :: st) M) : Gx l X tg cs pc L (vi x :: st) M := by
  intro D ad z p e s m args below meth c H locs ls A C hl hW
  obtain ⟨d, e1⟩ := C.1.at hk
  subst e1
  exact lv_i2l (x := x) (rest := smap ad st) C.2.1.1 C.2.1.2.1 d rfl (g D ad z p e s m args below meth c H locs ls A C hl hW)
theorem go_l2i {x : Int64} (k : Nat) (hk : (xt X)[k]? = some (pc, .l2i, pc')) (g : Gx l X tg cs pc' L (vi x.toInt32 :: st) M) : Gx l X tg cs pc L (vl x :: st) M := by
  intro D ad z p e s m args below meth c H locs ls A C hl hW
  obtain ⟨d, e1⟩ := C.1.at hk
  subst e1
  exact lv_l2i (x := x) (rest := smap ad st) C.2.1.1 C.2.1.2.1 d rfl (g D ad z p e s m args below meth c H locs ls A C hl hW)
theorem go_lcmp {x y : Int64} (k : Nat) (hk : (xt X)[k]? = some (pc, .lcmp, pc')) (g : Gx l X tg cs pc' L (vi (lg_cmp x y) :: st) M) : Gx l X tg cs pc L (vl y :: vl x :: st) M := by
  intro D ad z p e s m args below meth c H locs ls A C hl hW
  obtain ⟨d, e1⟩ := C.1.at hk
  subst e1
  exact W.lcmp (x := x) (y := y) (rest := smap ad st) C.2.1.1 C.2.1.2.1 d (g D ad z p e s m args below meth c H locs ls A C hl hW)
theorem go_iconst {n : Int} (v : Int32) (k : Nat) (hk : (xt X)[k]? = some (pc, .iconst n, pc')) (hv : Int32.ofInt n = v) (g : Gx l X tg cs pc' L (vi v :: st) M) : Gx l X tg cs pc L (st) M := by
  intro D ad z p e s m args below meth c H locs ls A C hl hW
  obtain ⟨d, e1⟩ := C.1.at hk
  subst e1
  exact lv_iconst (rest := smap ad st) C.2.1.1 C.2.1.2.1 d hv (g D ad z p e s m args below meth c H locs ls A C hl hW)
theorem go_bipush {n : Int} (v : Int32) (k : Nat) (hk : (xt X)[k]? = some (pc, .bipush n, pc')) (hv : (Int8.ofInt n).toInt32 = v) (g : Gx l X tg cs pc' L (vi v :: st) M) : Gx l X tg cs pc L (st) M := by
  intro D ad z p e s m args below meth c H locs ls A C hl hW
  obtain ⟨d, e1⟩ := C.1.at hk
  subst e1
  exact lv_bipush (rest := smap ad st) C.2.1.1 C.2.1.2.1 d hv (g D ad z p e s m args below meth c H locs ls A C hl hW)
theorem go_sipush {n : Int} (v : Int32) (k : Nat) (hk : (xt X)[k]? = some (pc, .sipush n, pc')) (hv : (Int16.ofInt n).toInt32 = v) (g : Gx l X tg cs pc' L (vi v :: st) M) : Gx l X tg cs pc L (st) M := by
  intro D ad z p e s m args below meth c H locs ls A C hl hW
  obtain ⟨d, e1⟩ := C.1.at hk
  subst e1
  exact lv_sipush (rest := smap ad st) C.2.1.1 C.2.1.2.1 d hv (g D ad z p e s m args below meth c H locs ls A C hl hW)
theorem go_lconst {n : Fin 2} (v : Int64) (k : Nat) (hk : (xt X)[k]? = some (pc, .lconst n, pc')) (hv : Int64.ofNat (n : Nat) = v) (g : Gx l X tg cs pc' L (vl v :: st) M) : Gx l X tg cs pc L (st) M := by
  intro D ad z p e s m args below meth c H locs ls A C hl hW
  obtain ⟨d, e1⟩ := C.1.at hk
  subst e1
  exact lv_lconst (rest := smap ad st) C.2.1.1 C.2.1.2.1 d hv (g D ad z p e s m args below meth c H locs ls A C hl hW)
theorem go_ldc {n : Nat} (v : Int32) (k : Nat) (hk : (xt X)[k]? = some (pc, .ldc n, pc')) (hv : Cond.constant (xy X).cls n v ∈ WB) (g : Gx l X tg cs pc' L (vi v :: st) M) : Gx l X tg cs pc L (st) M := by
  intro D ad z p e s m args below meth c H locs ls A C hl hW
  obtain ⟨d, e1⟩ := C.1.at hk
  subst e1
  exact lv_ldc (rest := smap ad st) C.2.1.1 C.2.1.2.1 C.2.1.2.2.2.1 (C.2.1.2.2.2.2 _ hv) d (g D ad z p e s m args below meth c H locs ls A C hl hW)
theorem go_ldcw {n : Nat} (v : Int32) (k : Nat) (hk : (xt X)[k]? = some (pc, .ldc_w n, pc')) (hv : Cond.constant (xy X).cls n v ∈ WB) (g : Gx l X tg cs pc' L (vi v :: st) M) : Gx l X tg cs pc L (st) M := by
  intro D ad z p e s m args below meth c H locs ls A C hl hW
  obtain ⟨d, e1⟩ := C.1.at hk
  subst e1
  exact lv_ldcw (rest := smap ad st) C.2.1.1 C.2.1.2.1 C.2.1.2.2.2.1 (C.2.1.2.2.2.2 _ hv) d (g D ad z p e s m args below meth c H locs ls A C hl hW)
theorem go_ldc2 {n : Nat} (v : Int64) (k : Nat) (hk : (xt X)[k]? = some (pc, .ldc2_w n, pc')) (hv : Cond.constantLong (xy X).cls n v ∈ WB) (g : Gx l X tg cs pc' L (vl v :: st) M) : Gx l X tg cs pc L (st) M := by
  intro D ad z p e s m args below meth c H locs ls A C hl hW
  obtain ⟨d, e1⟩ := C.1.at hk
  subst e1
  exact lv_ldc2 (rest := smap ad st) C.2.1.1 C.2.1.2.1 C.2.1.2.2.2.1 (C.2.1.2.2.2.2 _ hv) d (g D ad z p e s m args below meth c H locs ls A C hl hW)
theorem lm_at {ad : AD} {ls : Array Slot} {n j i : Nat} {v : PV} (hl : lv_has ls n (lmap ad L)) (hj : L[j]? = some (i, v)) : ls[i]? = some (.val (tv ad v)) := lv_at hl j (by simp [lmap, hj])
theorem go_iload_n {n : Fin 4} {i : Nat} {x : Int32} (k : Nat) (hk : (xt X)[k]? = some (pc, .iload_n n, pc')) (j : Nat) (hj : L[j]? = some (i, vi x)) (hi : (n : Nat) = i) (g : Gx l X tg cs pc' L (vi x :: st) M) : Gx l X tg cs pc L (st) M := by
  intro D ad z p e s m args below meth c H locs ls A C hl hW
  obtain ⟨d, e1⟩ := C.1.at hk
  subst e1
  exact lv_iload_n (rest := smap ad st) C.2.1.1 C.2.1.2.1 d hi (lm_at hl hj) (g D ad z p e s m args below meth c H locs ls A C hl hW)
theorem go_iload {i : Nat} {x : Int32} (k : Nat) (hk : (xt X)[k]? = some (pc, .iload i, pc')) (j : Nat) (hj : L[j]? = some (i, vi x)) (g : Gx l X tg cs pc' L (vi x :: st) M) : Gx l X tg cs pc L (st) M := by
  intro D ad z p e s m args below meth c H locs ls A C hl hW
  obtain ⟨d, e1⟩ := C.1.at hk
  subst e1
  exact lv_iload (rest := smap ad st) C.2.1.1 C.2.1.2.1 d (lm_at hl hj) (g D ad z p e s m args below meth c H locs ls A C hl hW)
theorem go_lload_n {n : Fin 4} {i : Nat} {x : Int64} (k : Nat) (hk : (xt X)[k]? = some (pc, .lload_n n, pc')) (j : Nat) (hj : L[j]? = some (i, vl x)) (hi : (n : Nat) = i) (g : Gx l X tg cs pc' L (vl x :: st) M) : Gx l X tg cs pc L (st) M := by
  intro D ad z p e s m args below meth c H locs ls A C hl hW
  obtain ⟨d, e1⟩ := C.1.at hk
  subst e1
  exact lv_lload_n (rest := smap ad st) C.2.1.1 C.2.1.2.1 d hi (lm_at hl hj) (g D ad z p e s m args below meth c H locs ls A C hl hW)
theorem go_lload {i : Nat} {x : Int64} (k : Nat) (hk : (xt X)[k]? = some (pc, .lload i, pc')) (j : Nat) (hj : L[j]? = some (i, vl x)) (g : Gx l X tg cs pc' L (vl x :: st) M) : Gx l X tg cs pc L (st) M := by
  intro D ad z p e s m args below meth c H locs ls A C hl hW
  obtain ⟨d, e1⟩ := C.1.at hk
  subst e1
  exact lv_lload (rest := smap ad st) C.2.1.1 C.2.1.2.1 d (lm_at hl hj) (g D ad z p e s m args below meth c H locs ls A C hl hW)
theorem go_aload_n {n : Fin 4} {i a b : Nat} (k : Nat) (hk : (xt X)[k]? = some (pc, .aload_n n, pc')) (j : Nat) (hj : L[j]? = some (i, vr a b)) (hi : (n : Nat) = i) (g : Gx l X tg cs pc' L (vr a b :: st) M) : Gx l X tg cs pc L (st) M := by
  intro D ad z p e s m args below meth c H locs ls A C hl hW
  obtain ⟨d, e1⟩ := C.1.at hk
  subst e1
  exact lv_aload_n (rest := smap ad st) C.2.1.1 C.2.1.2.1 d hi (lm_at hl hj) (g D ad z p e s m args below meth c H locs ls A C hl hW)
theorem go_aload {i a b : Nat} (k : Nat) (hk : (xt X)[k]? = some (pc, .aload i, pc')) (j : Nat) (hj : L[j]? = some (i, vr a b)) (g : Gx l X tg cs pc' L (vr a b :: st) M) : Gx l X tg cs pc L (st) M := by
  intro D ad z p e s m args below meth c H locs ls A C hl hW
  obtain ⟨d, e1⟩ := C.1.at hk
  subst e1
  exact lv_aload (rest := smap ad st) C.2.1.1 C.2.1.2.1 d (lm_at hl hj) (g D ad z p e s m args below meth c H locs ls A C hl hW)
/-- a local is set: in its place, or behind; a long takes two places -/
def lclob (i w : Nat) (q : Nat × PV) : Bool := !(q.1 == i) && (!(w == 2 && q.1 == i + 1) && !(q.1 + 1 == i && pcat q.2 == 2))
def lset : List (Nat × PV) → Nat → PV → List (Nat × PV)
  | [], i, v => [(i, v)]
  | q :: L, i, v => if q.1 = i then (i, v) :: L.filter (lclob i (pcat v)) else if lclob i (pcat v) q = true then q :: lset L i v else lset L i v
theorem lset_mem : ∀ (L : List (Nat × PV)) (i : Nat) (v : PV) (q : Nat × PV), q ∈ lset L i v → q = (i, v) ∨ (q ∈ L ∧ lclob i (pcat v) q = true)
  | [], i, v, q, h => Or.inl (by simpa [lset] using h)
  | a :: L, i, v, q, h => by
    unfold lset at h
    by_cases h1 : a.1 = i
    · rw [if_pos h1] at h
      rcases List.mem_cons.mp h with h | h
      · exact Or.inl h
      · exact Or.inr ⟨List.mem_cons_of_mem _ (List.mem_filter.mp h).1, (List.mem_filter.mp h).2⟩
    · rw [if_neg h1] at h
      by_cases h2 : lclob i (pcat v) a = true
      · rw [if_pos h2] at h
        rcases List.mem_cons.mp h with h | h
        · subst h
          exact Or.inr ⟨List.mem_cons_self, h2⟩
        · rcases lset_mem L i v q h with h | h
          · exact Or.inl h
          · exact Or.inr ⟨List.mem_cons_of_mem _ h.1, h.2⟩
      · rw [if_neg h2] at h
        rcases lset_mem L i v q h with h | h
        · exact Or.inl h
        · exact Or.inr ⟨List.mem_cons_of_mem _ h.1, h.2⟩
theorem lset_has {ad : AD} {ls : Array Slot} {n i : Nat} {v : PV} {l1 : List (Nat × Value)} (h : lv_has ls n l1) (h1 : ∀ q, q ∈ L → lclob i (pcat v) q = true → (q.1, tv ad q.2) ∈ l1) (h2 : (i, tv ad v) ∈ l1) : lv_has ls n (lmap ad (lset L i v)) := by
  refine ⟨h.1, h.2.1, fun q hq => h.2.2 q ?_⟩
  obtain ⟨q0, h0, rfl⟩ := List.mem_map.mp hq
  rcases lset_mem L i v q0 h0 with rfl | ⟨a, b⟩
  · exact h2
  · exact h1 q0 a b
theorem lset_1 {ad : AD} {ls : Array Slot} {n i : Nat} {v : PV} (hv : pcat v = 1) (h : lv_has ls n ((i, tv ad v) :: (lmap ad L).filter (fun q => !(q.1 == i) && !(q.1 + 1 == i && q.2.category == 2)))) : lv_has ls n (lmap ad (lset L i v)) := by
  refine lset_has h (fun q hq hc => ?_) List.mem_cons_self
  refine List.mem_cons_of_mem _ (List.mem_filter.mpr ⟨List.mem_map.mpr ⟨q, hq, rfl⟩, ?_⟩)
  rw [hv] at hc
  simp only [lclob, tv_cat] at hc ⊢
  simpa using hc
theorem lset_2 {ad : AD} {ls : Array Slot} {n i : Nat} {v : PV} (hv : pcat v = 2) (h : lv_has ls n ((i, tv ad v) :: (lmap ad L).filter (fun q => !(q.1 == i) && (!(q.1 == i + 1) && !(q.1 + 1 == i && q.2.category == 2))))) : lv_has ls n (lmap ad (lset L i v)) := by
  refine lset_has h (fun q hq hc => ?_) List.mem_cons_self
  refine List.mem_cons_of_mem _ (List.mem_filter.mpr ⟨List.mem_map.mpr ⟨q, hq, rfl⟩, ?_⟩)
  rw [hv] at hc
  simp only [lclob, tv_cat] at hc ⊢
  simpa using hc
theorem go_istore_n {n : Fin 4} {i : Nat} {x : Int32} (k : Nat) (hk : (xt X)[k]? = some (pc, .istore_n n, pc')) (hn : (n : Nat) = i) (hi : i < xn X) (L' : List (Nat × PV)) (hL : lset L i (vi x) = L') (g : Gx l X tg cs pc' L' st M) : Gx l X tg cs pc L (vi x :: st) M := by
  intro D ad z p e s m args below meth c H locs ls A C hl hW
  obtain ⟨d, e1⟩ := C.1.at hk
  subst e1
  subst hL
  exact lv_istore_n (rest := smap ad st) C.2.1.1 C.2.1.2.1 d hn hl hi rfl (fun ls2 h2 => g D ad z p e s m args below meth c H locs ls2 A C (lset_1 rfl h2) hW)
theorem go_istore {i : Nat} {x : Int32} (k : Nat) (hk : (xt X)[k]? = some (pc, .istore i, pc')) (hi : i < xn X) (L' : List (Nat × PV)) (hL : lset L i (vi x) = L') (g : Gx l X tg cs pc' L' st M) : Gx l X tg cs pc L (vi x :: st) M := by
  intro D ad z p e s m args below meth c H locs ls A C hl hW
  obtain ⟨d, e1⟩ := C.1.at hk
  subst e1
  subst hL
  exact lv_istore (rest := smap ad st) C.2.1.1 C.2.1.2.1 d hl hi rfl (fun ls2 h2 => g D ad z p e s m args below meth c H locs ls2 A C (lset_1 rfl h2) hW)
theorem go_lstore_n {n : Fin 4} {i : Nat} {x : Int64} (k : Nat) (hk : (xt X)[k]? = some (pc, .lstore_n n, pc')) (hn : (n : Nat) = i) (hi : i + 1 < xn X) (L' : List (Nat × PV)) (hL : lset L i (vl x) = L') (g : Gx l X tg cs pc' L' st M) : Gx l X tg cs pc L (vl x :: st) M := by
  intro D ad z p e s m args below meth c H locs ls A C hl hW
  obtain ⟨d, e1⟩ := C.1.at hk
  subst e1
  subst hL
  exact lv_lstore_n (rest := smap ad st) C.2.1.1 C.2.1.2.1 d hn hl hi rfl (fun ls2 h2 => g D ad z p e s m args below meth c H locs ls2 A C (lset_2 rfl h2) hW)
theorem go_lstore {i : Nat} {x : Int64} (k : Nat) (hk : (xt X)[k]? = some (pc, .lstore i, pc')) (hi : i + 1 < xn X) (L' : List (Nat × PV)) (hL : lset L i (vl x) = L') (g : Gx l X tg cs pc' L' st M) : Gx l X tg cs pc L (vl x :: st) M := by
  intro D ad z p e s m args below meth c H locs ls A C hl hW
  obtain ⟨d, e1⟩ := C.1.at hk
  subst e1
  subst hL
  exact lv_lstore (rest := smap ad st) C.2.1.1 C.2.1.2.1 d hl hi rfl (fun ls2 h2 => g D ad z p e s m args below meth c H locs ls2 A C (lset_2 rfl h2) hW)
theorem go_astore_n {n : Fin 4} {i : Nat} {a b : Nat} (k : Nat) (hk : (xt X)[k]? = some (pc, .astore_n n, pc')) (hn : (n : Nat) = i) (hi : i < xn X) (L' : List (Nat × PV)) (hL : lset L i (vr a b) = L') (g : Gx l X tg cs pc' L' st M) : Gx l X tg cs pc L (vr a b :: st) M := by
  intro D ad z p e s m args below meth c H locs ls A C hl hW
  obtain ⟨d, e1⟩ := C.1.at hk
  subst e1
  subst hL
  exact lv_astore_n (rest := smap ad st) C.2.1.1 C.2.1.2.1 d hn hl hi rfl (fun ls2 h2 => g D ad z p e s m args below meth c H locs ls2 A C (lset_1 rfl h2) hW)
theorem go_astore {i : Nat} {a b : Nat} (k : Nat) (hk : (xt X)[k]? = some (pc, .astore i, pc')) (hi : i < xn X) (L' : List (Nat × PV)) (hL : lset L i (vr a b) = L') (g : Gx l X tg cs pc' L' st M) : Gx l X tg cs pc L (vr a b :: st) M := by
  intro D ad z p e s m args below meth c H locs ls A C hl hW
  obtain ⟨d, e1⟩ := C.1.at hk
  subst e1
  subst hL
  exact lv_astore (rest := smap ad st) C.2.1.1 C.2.1.2.1 d hl hi rfl (fun ls2 h2 => g D ad z p e s m args below meth c H locs ls2 A C (lset_1 rfl h2) hW)
theorem go_iinc {i : Nat} {n : Int} {x : Int32} (dd : Int32) (k : Nat) (hk : (xt X)[k]? = some (pc, .iinc i n, pc')) (j : Nat) (hj : L[j]? = some (i, vi x)) (hd : Int32.ofInt n = dd) (hi : i < xn X) (L' : List (Nat × PV)) (hL : lset L i (vi (x + dd)) = L') (g : Gx l X tg cs pc' L' st M) : Gx l X tg cs pc L st M := by
  intro D ad z p e s m args below meth c H locs ls A C hl hW
  obtain ⟨d, e1⟩ := C.1.at hk
  subst e1
  subst hL
  subst hd
  exact lv_iinc (rest := smap ad st) C.2.1.1 C.2.1.2.1 d hl (k := j) (x := x) (by simp [lmap, hj, tv]) rfl hi rfl (fun ls2 h2 => g D ad z p e s m args below meth c H locs ls2 A C (lset_1 rfl h2) hW)
theorem sm_cat {ad : AD} {v : PV} {w : Nat} (h : pcat v = w) : (tv ad v).category = w := by rw [tv_cat]; exact h
theorem go_dup {v : PV} (k : Nat) (hk : (xt X)[k]? = some (pc, .dup, pc')) (hv : pcat v = 1) (g : Gx l X tg cs pc' L (v :: v :: st) M) : Gx l X tg cs pc L (v :: st) M := by
  intro D ad z p e s m args below meth c H locs ls A C hl hW
  obtain ⟨d, e1⟩ := C.1.at hk
  subst e1
  exact lv_dup (va := tv ad v) (rest := smap ad st) C.2.1.1 C.2.1.2.1 d (sm_cat hv) (g D ad z p e s m args below meth c H locs ls A C hl hW)
theorem go_pop {v : PV} (k : Nat) (hk : (xt X)[k]? = some (pc, .pop, pc')) (hv : pcat v = 1) (g : Gx l X tg cs pc' L (st) M) : Gx l X tg cs pc L (v :: st) M := by
  intro D ad z p e s m args below meth c H locs ls A C hl hW
  obtain ⟨d, e1⟩ := C.1.at hk
  subst e1
  exact lv_pop (va := tv ad v) (rest := smap ad st) C.2.1.1 C.2.1.2.1 d (sm_cat hv) (g D ad z p e s m args below meth c H locs ls A C hl hW)
theorem go_dup_x1 {v u : PV} (k : Nat) (hk : (xt X)[k]? = some (pc, .dup_x1, pc')) (hv : pcat v = 1) (hu : pcat u = 1) (g : Gx l X tg cs pc' L (v :: u :: v :: st) M) : Gx l X tg cs pc L (v :: u :: st) M := by
  intro D ad z p e s m args below meth c H locs ls A C hl hW
  obtain ⟨d, e1⟩ := C.1.at hk
  subst e1
  exact lv_dup_x1 (va := tv ad v) (vb := tv ad u) (rest := smap ad st) C.2.1.1 C.2.1.2.1 d (sm_cat hv) (sm_cat hu) (g D ad z p e s m args below meth c H locs ls A C hl hW)
theorem go_dup_x2 {v u w : PV} (k : Nat) (hk : (xt X)[k]? = some (pc, .dup_x2, pc')) (hv : pcat v = 1) (hu : pcat u = 1) (hw : pcat w = 1) (g : Gx l X tg cs pc' L (v :: u :: w :: v :: st) M) : Gx l X tg cs pc L (v :: u :: w :: st) M := by
  intro D ad z p e s m args below meth c H locs ls A C hl hW
  obtain ⟨d, e1⟩ := C.1.at hk
  subst e1
  exact lv_dup_x2 (va := tv ad v) (vb := tv ad u) (vd := tv ad w) (rest := smap ad st) C.2.1.1 C.2.1.2.1 d (sm_cat hv) (sm_cat hu) (sm_cat hw) (g D ad z p e s m args below meth c H locs ls A C hl hW)
theorem go_dup2 {v u : PV} (k : Nat) (hk : (xt X)[k]? = some (pc, .dup2, pc')) (hv : pcat v = 1) (hu : pcat u = 1) (g : Gx l X tg cs pc' L (v :: u :: v :: u :: st) M) : Gx l X tg cs pc L (v :: u :: st) M := by
  intro D ad z p e s m args below meth c H locs ls A C hl hW
  obtain ⟨d, e1⟩ := C.1.at hk
  subst e1
  exact lv_dup2_11 (va := tv ad v) (vb := tv ad u) (rest := smap ad st) C.2.1.1 C.2.1.2.1 d (sm_cat hv) (sm_cat hu) (g D ad z p e s m args below meth c H locs ls A C hl hW)
theorem go_dup2l {v : PV} (k : Nat) (hk : (xt X)[k]? = some (pc, .dup2, pc')) (hv : pcat v = 2) (g : Gx l X tg cs pc' L (v :: v :: st) M) : Gx l X tg cs pc L (v :: st) M := by
  intro D ad z p e s m args below meth c H locs ls A C hl hW
  obtain ⟨d, e1⟩ := C.1.at hk
  subst e1
  exact lv_dup2_2 (va := tv ad v) (rest := smap ad st) C.2.1.1 C.2.1.2.1 d (sm_cat hv) (g D ad z p e s m args below meth c H locs ls A C hl hW)
theorem go_pop2l {v : PV} (k : Nat) (hk : (xt X)[k]? = some (pc, .pop2, pc')) (hv : pcat v = 2) (g : Gx l X tg cs pc' L (st) M) : Gx l X tg cs pc L (v :: st) M := by
  intro D ad z p e s m args below meth c H locs ls A C hl hW
  obtain ⟨d, e1⟩ := C.1.at hk
  subst e1
  exact lv_pop2_2 (va := tv ad v) (rest := smap ad st) C.2.1.1 C.2.1.2.1 d (sm_cat hv) (g D ad z p e s m args below meth c H locs ls A C hl hW)
theorem go_if_eq {x : Int32} {off : Int} (tgt : Nat) (k : Nat) (hk : (xt X)[k]? = some (pc, .ifCond .eq off, pc')) (ht : (pc : Int) + off = (tgt : Int)) (kt : x = 0 → Gx l X tg cs tgt L st M) (kf : ¬ x = 0 → Gx l X tg cs pc' L st M) : Gx l X tg cs pc L (vi x :: st) M := by
  intro D ad z p e s m args below meth c H locs ls A C hl hW
  obtain ⟨d, e1⟩ := C.1.at hk
  subst e1
  exact lv_if_eq (rest := smap ad st) C.2.1.1 C.2.1.2.1 d ht (fun h => kt h D ad z p e s m args below meth c H locs ls A C hl hW) (fun h => kf h D ad z p e s m args below meth c H locs ls A C hl hW)
theorem go_icmp_eq {x y : Int32} {off : Int} (tgt : Nat) (k : Nat) (hk : (xt X)[k]? = some (pc, .if_icmp .eq off, pc')) (ht : (pc : Int) + off = (tgt : Int)) (kt : x = y → Gx l X tg cs tgt L st M) (kf : ¬ x = y → Gx l X tg cs pc' L st M) : Gx l X tg cs pc L (vi y :: vi x :: st) M := by
  intro D ad z p e s m args below meth c H locs ls A C hl hW
  obtain ⟨d, e1⟩ := C.1.at hk
  subst e1
  exact lv_icmp_eq (rest := smap ad st) C.2.1.1 C.2.1.2.1 d ht (fun h => kt h D ad z p e s m args below meth c H locs ls A C hl hW) (fun h => kf h D ad z p e s m args below meth c H locs ls A C hl hW)
theorem go_if_ne {x : Int32} {off : Int} (tgt : Nat) (k : Nat) (hk : (xt X)[k]? = some (pc, .ifCond .ne off, pc')) (ht : (pc : Int) + off = (tgt : Int)) (kt : ¬ x = 0 → Gx l X tg cs tgt L st M) (kf : x = 0 → Gx l X tg cs pc' L st M) : Gx l X tg cs pc L (vi x :: st) M := by
  intro D ad z p e s m args below meth c H locs ls A C hl hW
  obtain ⟨d, e1⟩ := C.1.at hk
  subst e1
  exact lv_if_ne (rest := smap ad st) C.2.1.1 C.2.1.2.1 d ht (fun h => kt h D ad z p e s m args below meth c H locs ls A C hl hW) (fun h => kf h D ad z p e s m args below meth c H locs ls A C hl hW)
theorem go_icmp_ne {x y : Int32} {off : Int} (tgt : Nat) (k : Nat) (hk : (xt X)[k]? = some (pc, .if_icmp .ne off, pc')) (ht : (pc : Int) + off = (tgt : Int)) (kt : ¬ x = y → Gx l X tg cs tgt L st M) (kf : x = y → Gx l X tg cs pc' L st M) : Gx l X tg cs pc L (vi y :: vi x :: st) M := by
  intro D ad z p e s m args below meth c H locs ls A C hl hW
  obtain ⟨d, e1⟩ := C.1.at hk
  subst e1
  exact lv_icmp_ne (rest := smap ad st) C.2.1.1 C.2.1.2.1 d ht (fun h => kt h D ad z p e s m args below meth c H locs ls A C hl hW) (fun h => kf h D ad z p e s m args below meth c H locs ls A C hl hW)
theorem go_if_lt {x : Int32} {off : Int} (tgt : Nat) (k : Nat) (hk : (xt X)[k]? = some (pc, .ifCond .lt off, pc')) (ht : (pc : Int) + off = (tgt : Int)) (kt : x < 0 → Gx l X tg cs tgt L st M) (kf : ¬ x < 0 → Gx l X tg cs pc' L st M) : Gx l X tg cs pc L (vi x :: st) M := by
  intro D ad z p e s m args below meth c H locs ls A C hl hW
  obtain ⟨d, e1⟩ := C.1.at hk
  subst e1
  exact lv_if_lt (rest := smap ad st) C.2.1.1 C.2.1.2.1 d ht (fun h => kt h D ad z p e s m args below meth c H locs ls A C hl hW) (fun h => kf h D ad z p e s m args below meth c H locs ls A C hl hW)
theorem go_icmp_lt {x y : Int32} {off : Int} (tgt : Nat) (k : Nat) (hk : (xt X)[k]? = some (pc, .if_icmp .lt off, pc')) (ht : (pc : Int) + off = (tgt : Int)) (kt : x < y → Gx l X tg cs tgt L st M) (kf : ¬ x < y → Gx l X tg cs pc' L st M) : Gx l X tg cs pc L (vi y :: vi x :: st) M := by
  intro D ad z p e s m args below meth c H locs ls A C hl hW
  obtain ⟨d, e1⟩ := C.1.at hk
  subst e1
  exact lv_icmp_lt (rest := smap ad st) C.2.1.1 C.2.1.2.1 d ht (fun h => kt h D ad z p e s m args below meth c H locs ls A C hl hW) (fun h => kf h D ad z p e s m args below meth c H locs ls A C hl hW)
theorem go_if_ge {x : Int32} {off : Int} (tgt : Nat) (k : Nat) (hk : (xt X)[k]? = some (pc, .ifCond .ge off, pc')) (ht : (pc : Int) + off = (tgt : Int)) (kt : 0 ≤ x → Gx l X tg cs tgt L st M) (kf : ¬ 0 ≤ x → Gx l X tg cs pc' L st M) : Gx l X tg cs pc L (vi x :: st) M := by
  intro D ad z p e s m args below meth c H locs ls A C hl hW
  obtain ⟨d, e1⟩ := C.1.at hk
  subst e1
  exact lv_if_ge (rest := smap ad st) C.2.1.1 C.2.1.2.1 d ht (fun h => kt h D ad z p e s m args below meth c H locs ls A C hl hW) (fun h => kf h D ad z p e s m args below meth c H locs ls A C hl hW)
theorem go_icmp_ge {x y : Int32} {off : Int} (tgt : Nat) (k : Nat) (hk : (xt X)[k]? = some (pc, .if_icmp .ge off, pc')) (ht : (pc : Int) + off = (tgt : Int)) (kt : y ≤ x → Gx l X tg cs tgt L st M) (kf : ¬ y ≤ x → Gx l X tg cs pc' L st M) : Gx l X tg cs pc L (vi y :: vi x :: st) M := by
  intro D ad z p e s m args below meth c H locs ls A C hl hW
  obtain ⟨d, e1⟩ := C.1.at hk
  subst e1
  exact lv_icmp_ge (rest := smap ad st) C.2.1.1 C.2.1.2.1 d ht (fun h => kt h D ad z p e s m args below meth c H locs ls A C hl hW) (fun h => kf h D ad z p e s m args below meth c H locs ls A C hl hW)
theorem go_if_gt {x : Int32} {off : Int} (tgt : Nat) (k : Nat) (hk : (xt X)[k]? = some (pc, .ifCond .gt off, pc')) (ht : (pc : Int) + off = (tgt : Int)) (kt : 0 < x → Gx l X tg cs tgt L st M) (kf : ¬ 0 < x → Gx l X tg cs pc' L st M) : Gx l X tg cs pc L (vi x :: st) M := by
  intro D ad z p e s m args below meth c H locs ls A C hl hW
  obtain ⟨d, e1⟩ := C.1.at hk
  subst e1
  exact lv_if_gt (rest := smap ad st) C.2.1.1 C.2.1.2.1 d ht (fun h => kt h D ad z p e s m args below meth c H locs ls A C hl hW) (fun h => kf h D ad z p e s m args below meth c H locs ls A C hl hW)
theorem go_icmp_gt {x y : Int32} {off : Int} (tgt : Nat) (k : Nat) (hk : (xt X)[k]? = some (pc, .if_icmp .gt off, pc')) (ht : (pc : Int) + off = (tgt : Int)) (kt : y < x → Gx l X tg cs tgt L st M) (kf : ¬ y < x → Gx l X tg cs pc' L st M) : Gx l X tg cs pc L (vi y :: vi x :: st) M := by
  intro D ad z p e s m args below meth c H locs ls A C hl hW
  obtain ⟨d, e1⟩ := C.1.at hk
  subst e1
  exact lv_icmp_gt (rest := smap ad st) C.2.1.1 C.2.1.2.1 d ht (fun h => kt h D ad z p e s m args below meth c H locs ls A C hl hW) (fun h => kf h D ad z p e s m args below meth c H locs ls A C hl hW)
theorem go_if_le {x : Int32} {off : Int} (tgt : Nat) (k : Nat) (hk : (xt X)[k]? = some (pc, .ifCond .le off, pc')) (ht : (pc : Int) + off = (tgt : Int)) (kt : x ≤ 0 → Gx l X tg cs tgt L st M) (kf : ¬ x ≤ 0 → Gx l X tg cs pc' L st M) : Gx l X tg cs pc L (vi x :: st) M := by
  intro D ad z p e s m args below meth c H locs ls A C hl hW
  obtain ⟨d, e1⟩ := C.1.at hk
  subst e1
  exact lv_if_le (rest := smap ad st) C.2.1.1 C.2.1.2.1 d ht (fun h => kt h D ad z p e s m args below meth c H locs ls A C hl hW) (fun h => kf h D ad z p e s m args below meth c H locs ls A C hl hW)
theorem go_icmp_le {x y : Int32} {off : Int} (tgt : Nat) (k : Nat) (hk : (xt X)[k]? = some (pc, .if_icmp .le off, pc')) (ht : (pc : Int) + off = (tgt : Int)) (kt : x ≤ y → Gx l X tg cs tgt L st M) (kf : ¬ x ≤ y → Gx l X tg cs pc' L st M) : Gx l X tg cs pc L (vi y :: vi x :: st) M := by
  intro D ad z p e s m args below meth c H locs ls A C hl hW
  obtain ⟨d, e1⟩ := C.1.at hk
  subst e1
  exact lv_icmp_le (rest := smap ad st) C.2.1.1 C.2.1.2.1 d ht (fun h => kt h D ad z p e s m args below meth c H locs ls A C hl hW) (fun h => kf h D ad z p e s m args below meth c H locs ls A C hl hW)
theorem go_goto {off : Int} (tgt : Nat) (k : Nat) (hk : (xt X)[k]? = some (pc, .goto off, pc')) (ht : (pc : Int) + off = (tgt : Int)) (g : Gx l X tg cs tgt L st M) : Gx l X tg cs pc L st M := by
  intro D ad z p e s m args below meth c H locs ls A C hl hW
  obtain ⟨d, e1⟩ := C.1.at hk
  exact lv_goto (rest := smap ad st) C.2.1.1 C.2.1.2.1 d ht (g D ad z p e s m args below meth c H locs ls A C hl hW)
theorem go_iaload {i : Int32} {j : Nat} (k : Nat) (hk : (xt X)[k]? = some (pc, .iaload, pc')) (ho : (1, j) ∈ allc) (hin : vp_in i (lenI j)) (g : Gx l X tg cs pc' L (vi (M.1 (1, j) i.toNatClampNeg) :: st) M) : Gx l X tg cs pc L (vi i :: vr 1 j :: st) M := by
  intro D ad z p e s m args below meth c H locs ls A C hl hW
  obtain ⟨d, e1⟩ := C.1.at hk
  subst e1
  obtain ⟨q, hq, -⟩ := wd_at (ad := ad) (z := z) (M := M) ho
  exact va_iald (rest := smap ad st) C.2.1.1 C.2.1.2.1 C.2.2.2.2.2.1 hW.1 q 0 hq rfl hin d (g D ad z p e s m args below meth c H locs ls A C hl hW)
theorem go_laload {i : Int32} {j : Nat} (k : Nat) (hk : (xt X)[k]? = some (pc, .laload, pc')) (ho : (2, j) ∈ allc) (hin : vp_in i (lenL j)) (g : Gx l X tg cs pc' L (vl (M.2 (2, j) i.toNatClampNeg) :: st) M) : Gx l X tg cs pc L (vi i :: vr 2 j :: st) M := by
  intro D ad z p e s m args below meth c H locs ls A C hl hW
  obtain ⟨d, e1⟩ := C.1.at hk
  subst e1
  obtain ⟨q, hq, -⟩ := wd_at (ad := ad) (z := z) (M := M) ho
  exact va_lald (rest := smap ad st) C.2.1.1 C.2.1.2.1 C.2.2.2.2.2.1 hW.1 q 1 hq rfl hin d (g D ad z p e s m args below meth c H locs ls A C hl hW)
theorem go_aaload {i : Int32} (k : Nat) (hk : (xt X)[k]? = some (pc, .aaload, pc')) (hin : vp_in i 6) (g : Gx l X tg cs pc' L (vr 0 i.toNatClampNeg :: st) M) : Gx l X tg cs pc L (vi i :: vr 4 0 :: st) M := by
  intro D ad z p e s m args below meth c H locs ls A C hl hW
  obtain ⟨d, e1⟩ := C.1.at hk
  subst e1
  obtain ⟨q, hq, -⟩ := wd_at (ad := ad) (z := z) (M := M) (c := (4, 0)) (by decide)
  exact va_aldq (rest := smap ad st) C.2.1.1 C.2.1.2.1 C.2.2.2.2.2.1 hW.1 q 2 hq rfl hin d (g D ad z p e s m args below meth c H locs ls A C hl hW)
theorem go_arraylength {j : Nat} (v : Int32) (k : Nat) (hk : (xt X)[k]? = some (pc, .arraylength, pc')) (ho : (1, j) ∈ allc) (hv : Int32.ofNat (lenI j) = v) (g : Gx l X tg cs pc' L (vi v :: st) M) : Gx l X tg cs pc L (vr 1 j :: st) M := by
  intro D ad z p e s m args below meth c H locs ls A C hl hW
  obtain ⟨d, e1⟩ := C.1.at hk
  subst e1
  obtain ⟨q, hq, -⟩ := wd_at (ad := ad) (z := z) (M := M) ho
  exact va_alen (rest := smap ad st) C.2.1.1 C.2.1.2.1 C.2.2.2.2.2.1 hW.1 q 0 hq (ty := .int) rfl hv d (g D ad z p e s m args below meth c H locs ls A C hl hW)
theorem Hw.set {D : va_G} {ad : AD} {z : Zc} {s : State} {A : Nat → Prop} {M' : Mm} {H1 : Heap} {locs1 : List Loc} {c : Nat × Nat} {q : Nat} (hq : allc[q]? = some c) (h1 : ∀ c', c' ≠ c → M'.1 c' = M.1 c' ∧ M'.2 c' = M.2 c') {e : va_E} (he : e = ent ad z (M'.1 c) (M'.2 c) c) (hP : va_P D classes ((wd ad z M).set q (ad c, e)) H1) (hD : va_D A ((wd ad z M).set q (ad c, e))) (hS : va_S A s.heap H1 locs1) : Hw D ad z s A M' H1 locs1 := by
  rw [wd_set hq h1 he] at hP hD
  exact ⟨hP, hD, hS⟩
theorem go_iastore {i x : Int32} {j : Nat} (k : Nat) (hk : (xt X)[k]? = some (pc, .iastore, pc')) (ho : (1, j) ∈ allc) (hin : vp_in i (lenI j)) (g : Gx l X tg cs pc' L st (uI M (1, j) i.toNatClampNeg x)) : Gx l X tg cs pc L (vi x :: vi i :: vr 1 j :: st) M := by
  intro D ad z p e s m args below meth c H locs ls A C hl hW
  obtain ⟨d, e1⟩ := C.1.at hk
  subst e1
  obtain ⟨q, hq, hq2⟩ := wd_at (ad := ad) (z := z) (M := M) ho
  exact va_iast (rest := smap ad st) C.2.1.1 C.2.1.2.1 C.2.2.2.2.2.1 hW.1 hW.2.1 hW.2.2 q 0 hq rfl hin d (fun H1 locs1 h1 h2 h3 => g D ad z p e s m args below meth c H1 locs1 ls A C hl (Hw.set hq2 (fun c' hc => ⟨uI_ne M _ _ hc, rfl⟩) (by rw [uI_self]; rfl) h1 h2 h3))
theorem go_lastore {i : Int32} {x : Int64} {j : Nat} (k : Nat) (hk : (xt X)[k]? = some (pc, .lastore, pc')) (ho : (2, j) ∈ allc) (hin : vp_in i (lenL j)) (g : Gx l X tg cs pc' L st (uL M (2, j) i.toNatClampNeg x)) : Gx l X tg cs pc L (vl x :: vi i :: vr 2 j :: st) M := by
  intro D ad z p e s m args below meth c H locs ls A C hl hW
  obtain ⟨d, e1⟩ := C.1.at hk
  subst e1
  obtain ⟨q, hq, hq2⟩ := wd_at (ad := ad) (z := z) (M := M) ho
  exact va_last (rest := smap ad st) C.2.1.1 C.2.1.2.1 C.2.2.2.2.2.1 hW.1 hW.2.1 hW.2.2 q 1 hq rfl hin d (fun H1 locs1 h1 h2 h3 => g D ad z p e s m args below meth c H1 locs1 ls A C hl (Hw.set (M := M) (M' := uL M (2, j) i.toNatClampNeg x) hq2 (fun c' hc => ⟨rfl, uL_ne M _ _ hc⟩) (by rw [uL_self]; rfl) h1 h2 h3))
/-- a field of the class of kind kd, as the class 'own' links it -/
def FG (own : String) (idx kd slot : Nat) : Prop := ∃ (C : String) (T : u_T) (N : Nat), classes[cix kd]? = some (C, T, N) ∧ slot < N ∧ (∀ w ∈ u_ws C T N, w ∈ WB) ∧ (Cond.fieldLink own idx (T slot).1 (T slot).2.1 (T slot).2.2.1 ∈ WB ∨ ∃ host, Cond.fieldLinkNest own idx (T slot).1 (T slot).2.1 (T slot).2.2.1 host ∈ NW)
/-- .. that may be written, of the type ty -/
def FP (own : String) (idx kd slot : Nat) (ty : FieldType) : Prop := ∃ (C : String) (T : u_T) (N : Nat) (ty0 : Nat → FieldType), classes[cix kd]? = some (C, T, N) ∧ slot < N ∧ (∀ w ∈ u_ws C T N, w ∈ WB) ∧ (Cond.fieldLink own idx (T slot).1 (T slot).2.1 (T slot).2.2.1 ∈ WB ∨ ∃ host, Cond.fieldLinkNest own idx (T slot).1 (T slot).2.1 (T slot).2.2.1 host ∈ NW) ∧ (∀ k, k < N → parseFieldDescriptor (T k).2.2.1 = some (ty0 k)) ∧ (∀ a, a < N → ∀ b, b < N → a ≠ b → (T a).2.1 ≠ (T b).2.1) ∧ (T slot).2.2.2 = false ∧ parseFieldDescriptor (T slot).2.2.1 = some ty
def objk (kd : Nat) : Bool := match kd with
  | 1 => false
  | 2 => false
  | 4 => false
  | _ => true
theorem ent_obj {ad : AD} {z : Zc} {f : Nat → Int32} {g : Nat → Int64} {kd j : Nat} (h : objk kd = true) : ent ad z f g (kd, j) = .inr (cix kd, smap ad (fl f (kd, j))) := by
  match kd, h with
  | 0, _ => rfl
  | 3, _ => rfl
  | n + 5, _ => rfl
theorem go_getfield {idx kd j : Nat} (slot : Nat) (v : PV) (k : Nat) (hk : (xt X)[k]? = some (pc, .getfield idx, pc')) (ho : (kd, j) ∈ allc) (hb : objk kd = true) (hf : FG (xy X).cls idx kd slot) (hv : (fl (M.1 (kd, j)) (kd, j))[slot]? = some v) (g : Gx l X tg cs pc' L (v :: st) M) : Gx l X tg cs pc L (vr kd j :: st) M := by
  intro D ad z p e s m args below meth c H locs ls A C hl hW
  obtain ⟨d, e1⟩ := C.1.at hk
  subst e1
  obtain ⟨q, hq, -⟩ := wd_at (ad := ad) (z := z) (M := M) ho
  rw [ent_obj hb] at hq
  obtain ⟨Cn, T, N, h1, h2, h3, h4⟩ := hf
  have hv2 : (smap ad (fl (M.1 (kd, j)) (kd, j)))[slot]? = some (tv ad v) := by simp [smap, hv]
  rcases h4 with h4 | ⟨host, h4⟩
  · exact va_get (rest := smap ad st) C.2.1.1 C.2.1.2.1 C.2.1.2.2.2.2 h3 C.2.1.2.2.2.1 C.2.2.2.2.2.1 hW.1 q hq h1 slot h2 (C.2.1.2.2.2.2 _ h4) (fun _ h9 => h9) hv2 d (g D ad z p e s m args below meth c H locs ls A C hl hW)
  · exact va_getN (rest := smap ad st) C.2.1.1 C.2.1.2.1 C.2.1.2.2.2.2 h3 C.2.1.2.2.2.1 C.2.2.2.2.2.1 hW.1 q hq h1 slot h2 (va_Nw.use rfl (C.2.2.2.2.1 _ h4)) (fun _ h9 => h9) hv2 d (g D ad z p e s m args below meth c H locs ls A C hl hW)
theorem go_putfield {idx kd j : Nat} {x : Int32} (slot : Nat) (ty : FieldType) (k : Nat) (hk : (xt X)[k]? = some (pc, .putfield idx, pc')) (ho : (kd, j) ∈ allc) (hb : objk kd = true) (hf : FP (xy X).cls idx kd slot ty) (hn : narrow ty (.int x) = .int x) (ht : fits ty (.int x) = true) (hlen : slot < (fl (M.1 (kd, j)) (kd, j)).length) (hs : fl (upd (M.1 (kd, j)) slot x) (kd, j) = (fl (M.1 (kd, j)) (kd, j)).set slot (vi x)) (g : Gx l X tg cs pc' L st (uI M (kd, j) slot x)) : Gx l X tg cs pc L (vi x :: vr kd j :: st) M := by
  intro D ad z p e s m args below meth c H locs ls A C hl hW
  obtain ⟨d, e1⟩ := C.1.at hk
  subst e1
  obtain ⟨q, hq, hq2⟩ := wd_at (ad := ad) (z := z) (M := M) ho
  rw [ent_obj hb] at hq
  obtain ⟨Cn, T, N, ty0, h1, h2, h3, h4, h5, h6, h7, h8⟩ := hf
  have hlen2 : slot < (smap ad (fl (M.1 (kd, j)) (kd, j))).length := by simpa [smap] using hlen
  have key : Sum.inr (cix kd, (smap ad (fl (M.1 (kd, j)) (kd, j))).set slot (.int x)) = ent ad z ((uI M (kd, j) slot x).1 (kd, j)) ((uI M (kd, j) slot x).2 (kd, j)) (kd, j) := by
    rw [uI_self, ent_obj hb, hs]
    simp [smap, List.map_set, tv]
  rcases h4 with h4 | ⟨host, h4⟩
  · exact va_put (rest := smap ad st) C.2.1.1 C.2.1.2.1 C.2.1.2.2.2.2 h3 ty0 h5 h6 C.2.1.2.2.2.1 C.2.2.2.2.2.1 hW.1 hW.2.1 hW.2.2 q hq h1 slot h2 (C.2.1.2.2.2.2 _ h4) (fun _ h9 => h9) h7 h8 hn ht hlen2 d (fun H1 locs1 g1 g2 g3 => g D ad z p e s m args below meth c H1 locs1 ls A C hl (Hw.set hq2 (fun c' hc => ⟨uI_ne M _ _ hc, rfl⟩) key g1 g2 g3))
  · exact va_putN (rest := smap ad st) C.2.1.1 C.2.1.2.1 C.2.1.2.2.2.2 h3 ty0 h5 h6 C.2.1.2.2.2.1 C.2.2.2.2.2.1 hW.1 hW.2.1 hW.2.2 q hq h1 slot h2 (va_Nw.use rfl (C.2.2.2.2.1 _ h4)) (fun _ h9 => h9) h7 h8 hn ht hlen2 d (fun H1 locs1 g1 g2 g3 => g D ad z p e s m args below meth c H1 locs1 ls A C hl (Hw.set hq2 (fun c' hc => ⟨uI_ne M _ _ hc, rfl⟩) key g1 g2 g3))
/-- a call site: how 'own' links the method -/
def CL (own : String) (idx : Nat) (Y : MX) : Prop := Cond.methodLink own idx (xy Y) ∈ WB ∨ ∃ host, Cond.methodLinkNest own idx (xy Y) host ∈ NW
def CS (own : String) (idx : Nat) (Y : MX) (n : Nat) : Prop := CL own idx Y ∧ Cond.static (xy Y) ∈ WB ∧ (parseMethodDescriptor (xy Y).desc).map (fun d => d.parameters.length) = some n
def CV (own : String) (idx : Nat) (Y : MX) (n kd : Nat) : Prop := CL own idx Y ∧ (Cond.instanceMethod (xy Y) ∈ WB ∧ Cond.selects (xy Y).cls (xy Y) (xy Y) ∈ WB) ∧ (parseMethodDescriptor (xy Y).desc).map (fun d => d.parameters.length) = some n ∧ ∃ (T : u_T) (N : Nat), classes[cix kd]? = some ((xy Y).cls, T, N)
def Rm (X Y : MX) : Prop := (xm Y).frames + 1 ≤ (xm X).frames ∧ 8 + (xn Y + 11) + (xm Y).locals ≤ (xm X).locals
theorem preW_blind {l : Launch} {D : va_G} {ad : AD} {z : Zc} {M : Mm} {sz : Nat} {av : List Value} : FrameBlind (va_Pc av (PreW l D ad z M sz)) := by
  intro a U g mk q
  obtain ⟨q0, q1, ⟨x1, x2, x3, x4, x5, x6⟩, q2, q3, q4, q5⟩ := q
  exact ⟨q0, q1, ⟨x1, vx_Zq.moved (u := U) (U := U.calling g mk a) (Vm.Alike.refl U.vm) x2, vx_Zq.moved (u := U) (U := U.calling g mk a) (Vm.Alike.refl U.vm) x3, fun q hq => (x4 q hq).elim fun sa h => ⟨sa, vk_R.same (u := U) (U := U.calling g mk a) rfl h⟩, va_Nc.moved (u := U) (U := U.calling g mk a) (Vm.Alike.refl U.vm) x5, va_Nc.moved (u := U) (U := U.calling g mk a) (Vm.Alike.refl U.vm) x6⟩, nw_same (s := U) (U := U.calling g mk a) rfl q2, q3, va_K.moved (u := U) (U := U.calling g mk a) (Vm.Alike.refl U.vm) q4, q5⟩
theorem exw_at {A B : Nat → Prop} {s U : State} {H : Heap} {locs : List Loc} (h : Exw l A s) (hAB : ∀ q, B q → A q) (hS : va_S A s.heap H locs) (hU : U.heap = H) (hWa : s.WarmedH U.vm) : Exw l B U := by
  obtain ⟨x1, x2, x3, x4, x5, x6⟩ := h
  have hk : ∀ a : Nat, a < s.heap.size → ¬ A a → U.heap[a]? = s.heap[a]? := fun a h1 h2 => by rw [hU]; exact hS.2.1 a h1 h2
  exact ⟨x1, vx_Zq.narrow (vx_Zq.moved hWa.alike (vx_Zq.kept x2 hk)) hAB, vx_Zq.narrow (vx_Zq.moved hWa.alike (vx_Zq.kept x3 hk)) hAB, fun q hq => (x4 q hq).elim fun sa h => ⟨sa, vk_R.warm hWa h⟩, va_Nc.moved hWa.alike x5, va_Nc.moved hWa.alike x6⟩
theorem wd_A {D : va_G} {ad : AD} {z : Zc} {s : State} {A : Nat → Prop} {H : Heap} {locs : List Loc} (hA : ∀ q, s.heap.size ≤ q → A q) (hW : Hw D ad z s A M H locs) : ∀ q, va_A (wd ad z M) H.size q → A q := by
  intro q h
  rcases h with ⟨k, e, h⟩ | h
  · exact hW.2.1.2 k _ h
  · exact hA q (Nat.le_trans hW.2.2.1 h)
theorem preW_at {D : va_G} {ad : AD} {z : Zc} {p : Program} {s : State} {m : MethodId} {args : Array Value} {meth : Method} {c : Code} {A : Nat → Prop} {H : Heap} {locs : List Loc} (C : Cx l X tg cs D ad z p s m args meth c A) (hW : Hw D ad z s A M H locs) {U : State} (hU : U.heap = H) (hWa : s.WarmedH U.vm) : PreW l D ad z M H.size U :=
  ⟨by rw [hU], exw_at C.2.2.2.2.2.2.2.1 (wd_A C.2.2.2.2.2.2.1 hW) hW.2.2 hU hWa, nw_warm hWa C.2.2.2.2.1, by rw [hU]; exact hW.1, va_K.moved hWa.alike C.2.2.2.2.2.1, hW.2.1.weaken (fun _ _ _ _ => trivial)⟩
/-- behind a call -/
theorem go_ret {D : va_G} {ad : AD} {z : Zc} {p : Program} {e : Env} {s : State} {m : MethodId} {args : Array Value} {below : List Frame} {meth : Method} {c : Code} {H : Heap} {locs : List Loc} {ls : Array Slot} {A : Nat → Prop} {postY : Option PV → Mm → Prop} {stk : List Value} {a : Array Value} (C : Cx l X tg cs D ad z p s m args meth c A) (hl : lv_has ls (xn X) (lmap ad L)) (hW : Hw D ad z s A M H locs)
    (hr : va_Run p l e (xm X) s m args below meth c H locs cs.1 cs.2 0 0 (F0 m pc ls stk) (smap ad st) (gQ D ad z postY (va_A (wd ad z M) H.size) a) (va_A (wd ad z M) H.size))
    (g : ∀ r M', postY r M' → Gx l X tg cs (pc + 3) L (r.toList ++ st) M') : W p l e (xm X) s m args below meth c H locs cs.1 cs.2 (tg.1 D ad z s args below A) (F0 m pc ls stk) := by
  have hF := wd_A C.2.2.2.2.2.2.1 hW
  intro T hT S
  obtain ⟨v, st0, t, T', Lc, h0, S', hL, e1, e2, ⟨⟨r, M', hv, hp, hP1, hK1, hD1⟩, hz, hk⟩, sp⟩ := hr T hT S
  have hv2 : v = r.map (tv ad) := by injection hv
  subst hv2
  rw [h0] at hz hk
  have hS := hW.2.2
  obtain ⟨t2, a1, b1⟩ := g r M' hp D ad z p e s m args below meth c T'.heap (locs ++ Lc) ls A C hl
    ⟨by rw [e1]; exact hP1, hD1.weaken (fun _ _ _ h => hF _ h), ⟨Nat.le_trans hS.1 (by rw [e1]; exact hz), fun q h1 h2 => by rw [e1, hk q (Nat.lt_of_lt_of_le h1 hS.1) (fun y => h2 (hF q y))]; exact hS.2.1 q h1 h2, fun q hq => by
      rcases List.mem_append.mp hq with h | h
      · exact hS.2.2 q h
      · exact hF _ (hL q h)⟩⟩ T' rfl S'
  have e3 : smap ad (r.toList ++ st) = (r.map (tv ad)).toList ++ smap ad st := by cases r <;> simp [smap]
  rw [e3] at a1
  exact ⟨t2, sp t2 a1, b1⟩
theorem pcat_sum {ad : AD} {w : Nat} (h : (st.map pcat).sum ≤ w) : ((smap ad st).map fun v => v.category).sum ≤ w := by
  have e : (smap ad st).map (fun v => v.category) = st.map pcat := by simp [smap, tv_cat]
  rw [e]
  exact h
theorem go_callS {Y : MX} {postY : Option PV → Mm → Prop} {idx n : Nat} (av : List PV) (k : Nat) (hk : (xt X)[k]? = some (pc, .invokestatic idx, pc')) (E : Ev l Y av M postY) (hY : Mk Y) (ca : CS (xy X).cls idx Y n) (hn : av.length = n) (hR : Rm X Y) (hst : (st.map pcat).sum ≤ 8) {stk : List PV} (hs : stk = av.reverse ++ st) (g : ∀ r M', postY r M' → Gx l X tg cs pc' L (r.toList ++ st) M') : Gx l X tg cs pc L stk M := by
  intro D ad z p e s m args below meth c H locs ls A C hl hW
  obtain ⟨d, e1⟩ := C.1.at hk
  subst e1
  obtain ⟨c1, c2, c3⟩ := ca
  have hts := C.2.1.2.2.2.2
  have hst2 : (F0 m pc ls (smap ad stk)).stack = (smap ad av).reverse ++ smap ad st := by subst hs; simp [smap]
  have ht : ∀ w, w ∈ WB → w.before args s = true := fun w hw => hts w hw
  have hd := hY.2.2.2.1
  refine go_ret (postY := postY) (a := (smap ad av).toArray) C hl hW ?_ g
  rcases c1 with c1 | ⟨host, c1⟩
  · exact va_runS (n := n) (index := idx) C.2.1 (E D ad z H.size) ⟨callB_of n hts (gi_of hY) rfl hY.2.2.2.2.1 hY.2.2.2.2.2.1 (ht _ hY.2.2.2.2.2.2) (ht _ c1) ⟨hd.1, hd.2, c3⟩ hR, ht _ c2⟩ ⟨preW_blind, fun U hU hWa => ⟨rfl, preW_at C hW hU hWa⟩⟩ rfl (by simpa [smap] using hn) hl.1 hst2 (lv_room (pcat_sum hst)) d C.2.2.2.2.2.2.2.2.1
  · exact va_runSN (n := n) (index := idx) (host := host) C.2.1 (E D ad z H.size) ⟨va_cnB n hts (gi_of hY) rfl hY.2.2.2.2.1 hY.2.2.2.2.2.1 (C.2.2.2.2.1 _ c1) (ht _ hY.2.2.2.2.2.2) ⟨hd.1, hd.2, c3⟩ hR, ht _ c2, trivial⟩ ⟨preW_blind, fun U hU hWa => ⟨rfl, preW_at C hW hU hWa⟩⟩ rfl (by simpa [smap] using hn) hl.1 hst2 (lv_room (pcat_sum hst)) d C.2.2.2.2.2.2.2.2.1
theorem go_callV {Y : MX} {postY : Option PV → Mm → Prop} {idx n kd j : Nat} (av : List PV) (k : Nat) (hk : (xt X)[k]? = some (pc, .invokevirtual idx, pc')) (E : Ev l Y (vr kd j :: av) M postY) (hY : Mk Y) (ho : (kd, j) ∈ allc) (hb : objk kd = true) (ca : CV (xy X).cls idx Y n kd) (hn : av.length = n) (hR : Rm X Y) (hst : (st.map pcat).sum ≤ 8) {stk : List PV} (hs : stk = av.reverse ++ vr kd j :: st) (g : ∀ r M', postY r M' → Gx l X tg cs pc' L (r.toList ++ st) M') : Gx l X tg cs pc L stk M := by
  intro D ad z p e s m args below meth c H locs ls A C hl hW
  obtain ⟨d, e1⟩ := C.1.at hk
  subst e1
  obtain ⟨c1, ⟨c2, c2b⟩, c3, T, N, c4⟩ := ca
  have hts := C.2.1.2.2.2.2
  have hst2 : (F0 m pc ls (smap ad stk)).stack = (smap ad av).reverse ++ .ref (ad (kd, j)) :: smap ad st := by subst hs; simp [smap, tv]
  have ht : ∀ w, w ∈ WB → w.before args s = true := fun w hw => hts w hw
  have hd := hY.2.2.2.1
  obtain ⟨q, hq, -⟩ := wd_at (ad := ad) (z := z) (M := M) ho
  rw [ent_obj hb] at hq
  have hrc := va_recv C.2.2.2.2.2.1 hW.1 c4 hq
  refine go_ret (postY := postY) (a := (Value.ref (ad (kd, j)) :: smap ad av).toArray) C hl hW ?_ g
  rcases c1 with c1 | ⟨host, c1⟩
  · exact va_runV (n := n) (index := idx) (C := (xy Y).cls) (b := ad (kd, j)) C.2.1 (E D ad z H.size) ⟨callB_of n hts (gi_of hY) rfl hY.2.2.2.2.1 hY.2.2.2.2.2.1 (ht _ hY.2.2.2.2.2.2) (ht _ c1) ⟨hd.1, hd.2, c3⟩ hR, ht _ c2, ht _ c2b⟩ ⟨preW_blind, hrc, fun U hU hWa => ⟨rfl, preW_at C hW hU hWa⟩⟩ rfl (by simpa [smap] using hn) hl.1 hst2 (lv_room (pcat_sum hst)) d C.2.2.2.2.2.2.2.2.1
  · exact va_runVN (n := n) (index := idx) (C := (xy Y).cls) (host := host) (b := ad (kd, j)) C.2.1 (E D ad z H.size) ⟨va_cnB n hts (gi_of hY) rfl hY.2.2.2.2.1 hY.2.2.2.2.2.1 (C.2.2.2.2.1 _ c1) (ht _ hY.2.2.2.2.2.2) ⟨hd.1, hd.2, c3⟩ hR, ht _ c2, ht _ c2b⟩ ⟨preW_blind, hrc, fun U hU hWa => ⟨rfl, preW_at C hW hU hWa⟩⟩ rfl (by simpa [smap] using hn) hl.1 hst2 (lv_room (pcat_sum hst)) d C.2.2.2.2.2.2.2.2.1
theorem go_callS1 {Y : MX} {r : Option PV} {M1 : Mm} {idx n : Nat} (av : List PV) (k : Nat) (hk : (xt X)[k]? = some (pc, .invokestatic idx, pc')) (E : Ev l Y av M (fun v M2 => v = r ∧ M2 = M1)) (hY : Mk Y) (ca : CS (xy X).cls idx Y n) (hn : av.length = n) (hR : Rm X Y) (hst : (st.map pcat).sum ≤ 8) {stk : List PV} (hs : stk = av.reverse ++ st) (g : Gx l X tg cs pc' L (r.toList ++ st) M1) : Gx l X tg cs pc L stk M :=
  go_callS av k hk E hY ca hn hR hst hs (fun _ _ h => by rw [h.1, h.2]; exact g)
theorem go_callV1 {Y : MX} {r : Option PV} {M1 : Mm} {idx n kd j : Nat} (av : List PV) (k : Nat) (hk : (xt X)[k]? = some (pc, .invokevirtual idx, pc')) (E : Ev l Y (vr kd j :: av) M (fun v M2 => v = r ∧ M2 = M1)) (hY : Mk Y) (ho : (kd, j) ∈ allc) (hb : objk kd = true) (ca : CV (xy X).cls idx Y n kd) (hn : av.length = n) (hR : Rm X Y) (hst : (st.map pcat).sum ≤ 8) {stk : List PV} (hs : stk = av.reverse ++ vr kd j :: st) (g : Gx l X tg cs pc' L (r.toList ++ st) M1) : Gx l X tg cs pc L stk M :=
  go_callV av k hk E hY ho hb ca hn hR hst hs (fun _ _ h => by rw [h.1, h.2]; exact g)
def uC (M : Mm) (i j : Nat) : Mm := (fun c => if c = (1, j) then va_cpy (M.1 (1, i)) (M.1 (1, j)) 0 0 32 else M.1 c, M.2)
def ACo (own : String) (idx : Nat) : Prop := Cond.methodLink own idx arraycopyName ∈ WB ∧ Cond.native arraycopyName ∈ WB ∧ Cond.static arraycopyName ∈ WB ∧ Cond.initialized "java/lang/System" ∈ WB
theorem go_arraycopy {idx i j : Nat} (k : Nat) (hk : (xt X)[k]? = some (pc, .invokestatic idx, pc')) (hf : ACo (xy X).cls idx) (hi : i < 7) (hj : j < 7) (hfr : 1 ≤ (xm X).frames) (hlo : 0 + (nativeFrameWords "java/lang/System" "arraycopy" 5 + 11) ≤ (xm X).locals) (g : Gx l X tg cs pc' L [] (uC M i j)) : Gx l X tg cs pc L [vi 32, vi 0, vr 1 j, vi 0, vr 1 i] M := by
  intro D ad z p e s m args below meth c H locs ls A C hl hW
  obtain ⟨d, e1⟩ := C.1.at hk
  subst e1
  obtain ⟨q0, hq0, -⟩ := wd_at (ad := ad) (z := z) (M := M) (c := (1, i)) (ok1 (by omega))
  obtain ⟨q1, hq1, hq2⟩ := wd_at (ad := ad) (z := z) (M := M) (c := (1, j)) (ok1 (by omega))
  have hli : lenI i = 32 := if_pos hi
  have hlj : lenI j = 32 := if_pos hj
  have ht : ∀ w, w ∈ WB → w.before args s = true := fun w hw => C.2.1.2.2.2.2 w hw
  have e32 : (32 : Int32).toNatClampNeg = 32 := by decide
  have e0 : (0 : Int32).toNatClampNeg = 0 := by decide
  refine va_copyi (rest := []) (sp := 0) (dp := 0) (n := 32) (ty := .int) C.2.1.1 C.2.1.2.1 (C.2.1.2.2.1.trans hl.1.symm) C.2.1.2.2.2.1 (ht _ hf.1) (ht _ hf.2.1) (ht _ hf.2.2.1) (ht _ hf.2.2.2) C.2.2.2.2.2.1 hW.1 hW.2.1 hW.2.2 q0 q1 0 0 hq0 hq1 rfl rfl rfl (by decide) (by decide) (by decide) (by rw [e32, e0, hli]; omega) (by rw [e32, e0, hlj]; omega) (fun _ _ => rfl) hfr hlo d (fun H1 locs1 g1 g2 g3 => g D ad z p e s m args below meth c H1 locs1 ls A C hl (Hw.set hq2 (fun c' hc => ⟨if_neg hc, rfl⟩) ?_ g1 g2 g3))
  show _ = ent ad z (if (1, j) = (1, j) then va_cpy (M.1 (1, i)) (M.1 (1, j)) 0 0 32 else M.1 (1, j)) (M.2 (1, j)) (1, j)
  rw [if_pos rfl]
  rfl
theorem ret_q {post : Option PV → Mm → Prop} {D : va_G} {ad : AD} {z : Zc} {p : Program} {s : State} {m : MethodId} {args : Array Value} {meth : Method} {c : Code} {H : Heap} {locs : List Loc} {A : Nat → Prop} (C : Cx l X tg cs D ad z p s m args meth c A) (hW : Hw D ad z s A M H locs) (r : Option PV) (hp : post r M) {t : State} (ht : t.heap = H) (hWa : s.WarmedH t.vm) (a : Array Value) : gQ D ad z post A a s (.returned (r.map (tv ad))) t :=
  ⟨⟨r, M, rfl, hp, by rw [ht]; exact hW.1, va_K.moved hWa.alike C.2.2.2.2.2.1, hW.2.1⟩, hW.2.2.F ht⟩
theorem go_ireturn {x : Int32} {ty : FieldType} (k : Nat) (hk : (xt X)[k]? = some (pc, .ireturn, pc')) (hr : xr X = some ty) (hn : narrow ty (.int x) = .int x) (hp : post (some (vi x)) M) : Go l X post pc L [vi x] M := by
  intro D ad z p e s m args below meth c H locs ls A C hl hW
  obtain ⟨d, e1⟩ := C.1.at hk
  exact W.zret (v := x) (ty := ty) C.2.1.1 C.2.1.2.1 (C.2.2.1.trans hr) hn (fun t ht hWa => ret_q C hW (some (vi x)) hp ht hWa _) hW.2.2.2.2 d C.2.2.2.1
theorem go_lreturn {x : Int64} (k : Nat) (hk : (xt X)[k]? = some (pc, .lreturn, pc')) (hr : xr X = some .long) (hp : post (some (vl x)) M) : Go l X post pc L [vl x] M := by
  intro D ad z p e s m args below meth c H locs ls A C hl hW
  obtain ⟨d, e1⟩ := C.1.at hk
  exact W.lret (v := x) C.2.1.1 C.2.1.2.1 (C.2.2.1.trans hr) (fun t ht hWa => ret_q C hW (some (vl x)) hp ht hWa _) hW.2.2.2.2 d C.2.2.2.1
theorem go_areturn {a b : Nat} {rt : FieldType} (k : Nat) (hk : (xt X)[k]? = some (pc, .areturn, pc')) (hr : xr X = some rt) (hrt : (∃ n, rt = .object n) ∨ ∃ t, rt = .array t) (hp : post (some (vr a b)) M) : Go l X post pc L [vr a b] M := by
  intro D ad z p e s m args below meth c H locs ls A C hl hW
  obtain ⟨d, e1⟩ := C.1.at hk
  exact W.aret (v := .ref (ad (a, b))) C.2.1.1 C.2.1.2.1 (C.2.2.1.trans hr) hrt (Or.inr ⟨_, rfl⟩) (fun t ht hWa => ret_q C hW (some (vr a b)) hp ht hWa _) hW.2.2.2.2 d C.2.2.2.1
theorem go_return (k : Nat) (hk : (xt X)[k]? = some (pc, .return_, pc')) (hr : xr X = none) (hp : post none M) : Go l X post pc L [] M := by
  intro D ad z p e s m args below meth c H locs ls A C hl hW
  obtain ⟨d, e1⟩ := C.1.at hk
  exact W.vret C.2.1.1 C.2.1.2.1 (C.2.2.1.trans hr) (fun t ht hWa => ret_q C hW none hp ht hWa _) hW.2.2.2.2 d C.2.2.2.1
end EN
/-! what the mirrors are made of -/
def bd {α β : Type} (o : Option α) (f : α → Option β) : Option β := match o with
  | none => none
  | some a => f a
theorem bd_inv {α β : Type} {o : Option α} {f : α → Option β} {r : β} (h : bd o f = some r) : ∃ a, o = some a ∧ f a = some r := by
  cases o with
  | none => cases h
  | some a => exact ⟨a, rfl, h⟩
theorem bd_some {α β : Type} (a : α) (f : α → Option β) : bd (some a) f = f a := rfl
theorem bd_of {α β : Type} {o : Option α} {f : α → Option β} {a : α} (h : o = some a) : bd o f = f a := by subst h; rfl
def ck {β : Type} (b : Bool) (x : Option β) : Option β := if b = true then x else none
theorem ck_inv {β : Type} {b : Bool} {x : Option β} {r : β} (h : ck b x = some r) : b = true ∧ x = some r := by
  cases b with
  | false => cases h
  | true => exact ⟨rfl, h⟩
theorem ck_of {β : Type} {b : Bool} {x : Option β} (h : b = true) : ck b x = x := by subst h; rfl
def smr {α β γ : Type} (q : α ⊕ β) (g : β → Option γ) (f : α → Option γ) : Option γ := match q with
  | .inl a => f a
  | .inr b => g b
theorem smr_l {α β γ : Type} {a : α} {g : β → Option γ} {f : α → Option γ} {r : Option γ} (h : smr (.inl a) g f = r) : f a = r := h
theorem smr_r {α β γ : Type} {b : β} {g : β → Option γ} {f : α → Option γ} {r : Option γ} (h : smr (.inr b) g f = r) : g b = r := h
def lpq {σ ρ : Type} (f : σ → Option ρ) (q : σ ⊕ ρ) : Option ρ := match q with
  | .inl s => f s
  | .inr r => some r
theorem lpq_r {σ ρ : Type} {f : σ → Option ρ} {r r2 : ρ} (h : lpq f (.inr r) = some r2) : r = r2 := Option.some.inj h
def lpN {σ ρ : Type} (b : σ → Option (σ ⊕ ρ)) : Nat → σ → Option ρ
  | 0, _ => none
  | n + 1, s => bd (b s) (lpq (lpN b n))
theorem lpN_0 {σ ρ : Type} {b : σ → Option (σ ⊕ ρ)} {s : σ} {r : ρ} (h : lpN b 0 s = some r) : False := by
  simp [lpN] at h
theorem lpN_inv {σ ρ : Type} {b : σ → Option (σ ⊕ ρ)} {n : Nat} {s : σ} {r : ρ} (h : lpN b (n + 1) s = some r) : ∃ q, b s = some q ∧ lpq (lpN b n) q = some r := bd_inv h
def lp {σ ρ : Type} (b : σ → Option (σ ⊕ ρ)) (s : σ) : Option ρ := lpN b 1000000 s
theorem ite_t {α : Type} {p : Prop} {i : Decidable p} {a b r : α} (c : p) (h : @ite α p i a b = r) : a = r := by rw [if_pos c] at h; exact h
theorem ite_f {α : Type} {p : Prop} {i : Decidable p} {a b r : α} (c : ¬ p) (h : @ite α p i a b = r) : b = r := by rw [if_neg c] at h; exact h
def inb (i : Int32) (n : Nat) : Bool := !(decide (i < 0) || decide (n ≤ i.toNatClampNeg))
theorem inb_vp {i : Int32} {n : Nat} (h : inb i n = true) : vp_in i n := by
  simp only [inb, Bool.not_eq_true', Bool.or_eq_false_iff, decide_eq_false_iff_not] at h
  intro q
  rcases q with q | q
  · exact h.1 q
  · exact h.2 q
theorem vp_inb {i : Int32} {n : Nat} (h : vp_in i n) : inb i n = true := by
  simp only [inb, Bool.not_eq_true', Bool.or_eq_false_iff, decide_eq_false_iff_not]
  exact ⟨fun q => h (Or.inl q), fun q => h (Or.inr q)⟩
def bI (b : Bool) : Int32 := match b with
  | true => 1
  | false => 0
theorem nbI (b : Bool) : narrow .boolean (.int (bI b)) = .int (bI b) := by cases b <;> rfl
def isb (x : Int32) : Bool := decide (x = 0) || decide (x = 1)
def tb (x : Int32) : Bool := !decide (x = 0)
theorem isb_e {x : Int32} (h : isb x = true) : bI (tb x) = x := by
  simp only [isb, Bool.or_eq_true, decide_eq_true_eq] at h
  rcases h with rfl | rfl <;> rfl
theorem isb_n {x : Int32} (h : isb x = true) : narrow .boolean (.int x) = .int x := by
  simp only [isb, Bool.or_eq_true, decide_eq_true_eq] at h
  rcases h with rfl | rfl <;> rfl
theorem pz {post : Option PV → Mm → Prop} {x y : Int32} {M : Mm} (e : x = y) (h : post (some (vi x)) M) : post (some (vi y)) M := e ▸ h
end
section
/-! methods that may throw, and their callers -/
theorem fbI (b : Bool) : fits .boolean (.int (bI b)) = true := by cases b <;> rfl
def gX (D : va_G) (ad : AD) (z : Zc) (xp : String → Mm → Prop) (A : Nat → Prop) : String → State → State → Prop := fun E st t =>
  (∃ M' : Mm, xp E M' ∧ va_P D classes (wd ad z M') t.heap ∧ va_K D classes (tz z) t ∧ va_D A (wd ad z M')) ∧ va_F A st t
def xTk (post : Option PV → Mm → Prop) (xp : String → Mm → Prop) (mc ms : Nat) (K : AD → State → (Nat → Prop) → Code → Prop) : Tgt := (fun D ad z s args below A => vx_MQ below (gQ D ad z post A) (gX D ad z xp A) args s mc ms A, K)
def noTab : AD → State → (Nat → Prop) → Code → Prop := fun _ _ _ c => ∀ x ∈ c.exceptionTable.toList, False
def hasTab (hh : List (Nat × Nat × Nat × Nat)) : AD → State → (Nat → Prop) → Code → Prop := fun _ _ _ c => c.exceptionTable.toList = tableOf hh
def MkX (X : MX) : Prop := TBk (xc X) (xt X) ∧ plainName (xy X).cls = true ∧ Cond.code (xy X) (xc X) (xn X) (xr X) ∈ WB ∧ ((xy X).cls ≠ "java/lang/invoke/MethodHandle" ∧ (xy X).cls ≠ "java/lang/invoke/VarHandle") ∧ Cond.initialized (xy X).cls ∈ WB
def xwW (X : MX) (hh : List (Nat × Nat × Nat × Nat)) : List Cond := Cond.codeWith (xy X) (xc X) (xn X) (xr X) hh :: WB
def MkW (X : MX) (hh : List (Nat × Nat × Nat × Nat)) : Prop := TBk (xc X) (xt X) ∧ plainName (xy X).cls = true ∧ Cond.codeWith (xy X) (xc X) (xn X) (xr X) hh ∈ WB ∧ ((xy X).cls ≠ "java/lang/invoke/MethodHandle" ∧ (xy X).cls ≠ "java/lang/invoke/VarHandle") ∧ Cond.initialized (xy X).cls ∈ WB
theorem gi_ofX {Y : MX} (hY : MkX Y) : GoodIn WB (xw Y) := by
  intro w hw
  rcases List.mem_cons.mp hw with rfl | hw
  · exact ⟨hY.2.2.1, good_of_word (List.mem_filter.mp hY.2.2.1).2⟩
  · exact ⟨hw, good_of_word (List.mem_filter.mp hw).2⟩
theorem gi_ofW {Y : MX} {hh : List (Nat × Nat × Nat × Nat)} (hY : MkW Y hh) : GoodIn WB (xwW Y hh) := by
  intro w hw
  rcases List.mem_cons.mp hw with rfl | hw
  · exact ⟨hY.2.2.1, good_of_word (List.mem_filter.mp hY.2.2.1).2⟩
  · exact ⟨hw, good_of_word (List.mem_filter.mp hw).2⟩
/-- the contract of a method that may throw -/
def EvX (l : Launch) (X : MX) (av : List PV) (M : Mm) (post : Option PV → Mm → Prop) (xp : String → Mm → Prop) : Prop :=
  ∀ (D : va_G) (ad : AD) (z : Zc) (sz : Nat), vx_Met l (xy X) (xw X) (xm X) (va_Pc (smap ad av) (PreW l D ad z M sz)) (gQ D ad z post (va_A (wd ad z M) sz)) (gX D ad z xp (va_A (wd ad z M) sz)) (xm X).cells (xm X).slots (va_A (wd ad z M) sz)
/-- .. of one with a table of its own, that throws nothing -/
def EvW (l : Launch) (X : MX) (hh : List (Nat × Nat × Nat × Nat)) (av : List PV) (M : Mm) (post : Option PV → Mm → Prop) : Prop :=
  ∀ (D : va_G) (ad : AD) (z : Zc) (sz : Nat), vx_Met l (xy X) (xwW X hh) (xm X) (va_Pc (smap ad av) (PreW l D ad z M sz)) (gQ D ad z post (va_A (wd ad z M) sz)) (gX D ad z (fun _ _ => False) (va_A (wd ad z M) sz)) (xm X).cells (xm X).slots (va_A (wd ad z M) sz)
theorem EvX.of {l : Launch} {X : MX} {av : List PV} {M : Mm} {post : Option PV → Mm → Prop} {xp : String → Mm → Prop} (hX : MkX X) (L : List (Nat × PV)) (hL : ∀ ad : AD, lv_args 0 (smap ad av) = lmap ad L) (hn : ∀ ad : AD, (lg_sl (smap ad av)).length ≤ xn X) (g : Gx l X (xTk post xp (xm X).cells (xm X).slots noTab) (0, 0) 0 L [] M) : EvX l X av M post xp := by
  intro D ad z sz
  refine vx_ofW (cc := xc X) (maxL := xn X) (ret := xr X) hX.2.1 rfl ?_
  intro p e s m args below meth c s₁ B hml htab hv
  obtain ⟨rfl, hsz, hE, hN, hP, hK, hD0⟩ := hv
  subst hsz
  have hts := atoms_spec (ws := xw X) B.pre
  have hl := lv_entry (smap ad av) (n := xn X) (hn ad)
  rw [lg_entry_eq]
  generalize (lg_sl (smap ad av) ++ List.replicate (xn X - (lg_sl (smap ad av)).length) Slot.unset).toArray = ls at hl ⊢
  rw [hL ad] at hl
  exact g D ad z p e s m _ below meth c s.heap [] ls (va_A (wd ad z M) s.heap.size) ⟨hX.1, ⟨B.exec, B.bytes, hml, findClass_of_methodNamed B.named, fun w hw => hts w (List.mem_cons_of_mem _ hw)⟩, B.returns, B.notSynchronized, hN, hK, fun q h => Or.inr h, hE, ⟨Nat.zero_le _, Nat.zero_le _⟩, htab⟩ hl ⟨hP, hD0.self, va_S.rf⟩
theorem EvW.of {l : Launch} {X : MX} {hh : List (Nat × Nat × Nat × Nat)} {av : List PV} {M : Mm} {post : Option PV → Mm → Prop} (hX : MkW X hh) (L : List (Nat × PV)) (hL : ∀ ad : AD, lv_args 0 (smap ad av) = lmap ad L) (hn : ∀ ad : AD, (lg_sl (smap ad av)).length ≤ xn X) (g : Gx l X (xTk post (fun _ _ => False) (xm X).cells (xm X).slots (hasTab hh)) (0, 0) 0 L [] M) : EvW l X hh av M post := by
  intro D ad z sz
  refine vx_ofWH (cc := xc X) (maxL := xn X) (ret := xr X) (hh := hh) hX.2.1 rfl ?_
  intro p e s m args below meth c s₁ B hml hv
  obtain ⟨rfl, hsz, hE, hN, hP, hK, hD0⟩ := hv
  subst hsz
  have hts := atoms_spec (ws := xwW X hh) B.pre
  have htab := vx_table (x := xy X) B (hts _ List.mem_cons_self)
  have hl := lv_entry (smap ad av) (n := xn X) (hn ad)
  rw [lg_entry_eq]
  generalize (lg_sl (smap ad av) ++ List.replicate (xn X - (lg_sl (smap ad av)).length) Slot.unset).toArray = ls at hl ⊢
  rw [hL ad] at hl
  exact g D ad z p e s m _ below meth c s.heap [] ls (va_A (wd ad z M) s.heap.size) ⟨hX.1, ⟨B.exec, B.bytes, hml, findClass_of_methodNamed B.named, fun w hw => hts w (List.mem_cons_of_mem _ hw)⟩, B.returns, B.notSynchronized, hN, hK, fun q h => Or.inr h, hE, ⟨Nat.zero_le _, Nat.zero_le _⟩, htab⟩ hl ⟨hP, hD0.self, va_S.rf⟩
/-- the machine goes on with a throwable of class E -/
def Gt (l : Launch) (X : MX) (tg : Tgt) (cs : Nat × Nat) (pc : Nat) (L : List (Nat × PV)) (st : List PV) (E : String) (M : Mm) : Prop :=
  ∀ (D : va_G) (ad : AD) (z : Zc) (p : Program) (e : Env) (s : State) (m : MethodId) (args : Array Value) (below : List Frame) (meth : Method) (c : Code) (H : Heap) (locs : List Loc) (ls : Array Slot) (A : Nat → Prop) (q : Addr) (ce : Cell),
    Cx l X tg cs D ad z p s m args meth c A → lv_has ls (xn X) (lmap ad L) → Hw D ad z s A M H locs → H[q]? = some ce → ce.vm = .none → s.vm.findClass E = some ce.cls → vx_W p l e (xm X) s m args below meth c H locs cs.1 cs.2 (tg.1 D ad z s args below A) (F0 m pc ls (smap ad st)) q
section TH
variable {l : Launch} {X : MX} {tg : Tgt} {cs : Nat × Nat} {post : Option PV → Mm → Prop} {xp : String → Mm → Prop} {K : AD → State → (Nat → Prop) → Code → Prop} {mc ms : Nat} {pc pc' : Nat} {L : List (Nat × PV)} {st : List PV} {M : Mm}
theorem cx_room {D : va_G} {ad : AD} {z : Zc} {p : Program} {s : State} {m : MethodId} {args : Array Value} {meth : Method} {c : Code} {A : Nat → Prop} (C : Cx l X tg cs D ad z p s m args meth c A) {cs' : Nat × Nat} (h : cs'.1 ≤ (xm X).cells ∧ cs'.2 ≤ (xm X).slots) : Cx l X tg cs' D ad z p s m args meth c A :=
  ⟨C.1, C.2.1, C.2.2.1, C.2.2.2.1, C.2.2.2.2.1, C.2.2.2.2.2.1, C.2.2.2.2.2.2.1, C.2.2.2.2.2.2.2.1, h, C.2.2.2.2.2.2.2.2.2⟩
theorem go_xret {x : PV} (k : Nat) {ty : FieldType} {v : Int32} (hx : x = vi v) (hk : (xt X)[k]? = some (pc, .ireturn, pc')) (hr : xr X = some ty) (hn : narrow ty (.int v) = .int v) (hc : cs.1 ≤ mc ∧ cs.2 ≤ ms) (hp : post (some x) M) : Gx l X (xTk post xp mc ms K) cs pc L [x] M := by
  subst hx
  intro D ad z p e s m args below meth c H locs ls A C hl hW
  obtain ⟨d, e1⟩ := C.1.at hk
  exact W.widen hc.1 hc.2 (vx_ret (W.zret (v := v) (ty := ty) C.2.1.1 C.2.1.2.1 (C.2.2.1.trans hr) hn (fun t ht hWa => ret_q C hW (some (vi v)) hp ht hWa _) hW.2.2.2.2 d C.2.2.2.1))
theorem go_xareturn {a b : Nat} {rt : FieldType} (k : Nat) (hk : (xt X)[k]? = some (pc, .areturn, pc')) (hr : xr X = some rt) (hrt : (∃ n, rt = .object n) ∨ ∃ t, rt = .array t) (hc : cs.1 ≤ mc ∧ cs.2 ≤ ms) (hp : post (some (vr a b)) M) : Gx l X (xTk post xp mc ms K) cs pc L [vr a b] M := by
  intro D ad z p e s m args below meth c H locs ls A C hl hW
  obtain ⟨d, e1⟩ := C.1.at hk
  exact W.widen hc.1 hc.2 (vx_ret (W.aret (v := .ref (ad (a, b))) C.2.1.1 C.2.1.2.1 (C.2.2.1.trans hr) hrt (Or.inr ⟨_, rfl⟩) (fun t ht hWa => ret_q C hW (some (vr a b)) hp ht hWa _) hW.2.2.2.2 d C.2.2.2.1))
theorem go_xreturn (k : Nat) (hk : (xt X)[k]? = some (pc, .return_, pc')) (hr : xr X = none) (hc : cs.1 ≤ mc ∧ cs.2 ≤ ms) (hp : post none M) : Gx l X (xTk post xp mc ms K) cs pc L [] M := by
  intro D ad z p e s m args below meth c H locs ls A C hl hW
  obtain ⟨d, e1⟩ := C.1.at hk
  exact W.widen hc.1 hc.2 (vx_ret (W.vret C.2.1.1 C.2.1.2.1 (C.2.2.1.trans hr) (fun t ht hWa => ret_q C hW none hp ht hWa _) hW.2.2.2.2 d C.2.2.2.1))
def xnA : List String := ["java/lang/RuntimeException", "java/lang/Exception"]
/-- what a throw site asks of the tables -/
def ATS (own : String) (ik ic : Nat) (E : String) : Prop := Cond.classLink own ik E ∈ WB ∧ Cond.initialized E ∈ WB ∧ (vx_atS own ic E xnA).all (fun w => if goodWord w = true then decide (w ∈ WB) else decide (w ∈ NW)) = true ∧ (Cond.classLink own ik E :: Cond.initialized E :: vx_atS own ic E xnA).all vx_ot = true ∧ Bundle.fit E = true
theorem gx_end {D : va_G} {ad : AD} {z : Zc} {p : Program} {s : State} {m : MethodId} {args : Array Value} {meth : Method} {c : Code} {A : Nat → Prop} {H : Heap} {locs : List Loc} {E : String} (C : Cx l X tg cs D ad z p s m args meth c A) (hW : Hw D ad z s A M H locs) (hx : xp E M) {t : State} (hv : s.vm.Alike t.vm) (h1 : H.size ≤ t.heap.size) (h2 : ∀ q : Nat, q < H.size → t.heap[q]? = H[q]?) : gX D ad z xp A E s t :=
  ⟨⟨M, hx, va_P.kept hW.1 (fun k q hk => h2 q.1 (hW.1 k q hk).lt), va_K.moved hv C.2.2.2.2.2.1, hW.2.1⟩, Nat.le_trans hW.2.2.1 h1, fun q a b => by rw [h2 q (Nat.lt_of_lt_of_le a hW.2.2.1)]; exact hW.2.2.2.1 q a b⟩
theorem go_throw {ik is ic p1 p2 p3 p4 p5 : Nat} {E text : String} (k : Nat) (k0 : (xt X)[k]? = some (pc, .new ik, p1)) (k1 : (xt X)[k + 1]? = some (p1, .dup, p2)) (k2 : (xt X)[k + 2]? = some (p2, .ldc is, p3)) (k3 : (xt X)[k + 3]? = some (p3, .invokespecial ic, p4)) (k4 : (xt X)[k + 4]? = some (p4, .athrow, p5))
    (ha : ATS (xy X).cls ik ic E) (hs : ((xy X).cls, is, text) ∈ STR) (hRf : 5 < (xm X).frames) (hRl : (st.map pcat).sum + 82 ≤ (xm X).locals) (hc : cs.1 + 1 ≤ mc ∧ cs.2 + 6 ≤ ms) (hR : mc ≤ (xm X).cells ∧ ms ≤ (xm X).slots) (hx : xp E M) : Gx l X (xTk post xp mc ms noTab) cs pc L st M := by
  intro D ad z p e s m args below meth c H locs ls A C hl hW
  obtain ⟨d0, e0⟩ := C.1.at k0
  subst e0
  obtain ⟨d1, e1⟩ := C.1.at k1
  subst e1
  obtain ⟨d2, e2⟩ := C.1.at k2
  subst e2
  obtain ⟨d3, e3⟩ := C.1.at k3
  subst e3
  obtain ⟨d4, -⟩ := C.1.at k4
  obtain ⟨x1, x2, x3, x4, -⟩ := C.2.2.2.2.2.2.2.1
  obtain ⟨sa, hsa⟩ := x4 _ hs
  have htab : ∀ x ∈ c.exceptionTable.toList, False := C.2.2.2.2.2.2.2.2.2
  have hts := C.2.1.2.2.2.2
  have hat : ∀ w ∈ vx_atS (xy X).cls ic E xnA, w.before args s = true := by
    intro w hw
    have h9 := List.all_eq_true.mp ha.2.2.1 w hw
    by_cases hg : goodWord w = true
    · rw [if_pos hg] at h9
      exact hts w (of_decide_eq_true h9)
    · rw [if_neg hg] at h9
      have hn := of_decide_eq_true h9
      have hq := NW_nest w hn
      have hz := C.2.2.2.2.1 w hn
      exact va_Nw.use (by cases w <;> first | rfl | (exact absurd hq (by simp [nestW]))) hz
  exact vx_throwS (is := is) (ic := ic) (ik := ik) (text := text) (cls := E) (names := xnA) C.2.1.1 C.2.1.2.1 x1 C.2.1.2.2.2.1 ha.2.2.2.2 (by decide) (hts _ ha.1) (hts _ ha.2.1) hsa hat (fun w hw => List.all_eq_true.mp ha.2.2.2.1 w hw) x2 x3 hW.2.2 (hl.1.trans C.2.1.2.2.1.symm) d0 d1 d2 d3 d4 (fun x h => (htab x h).elim) (by show 2 + 3 < _; exact hRf) (by have := pcat_sum (ad := ad) (st := st) (w := (st.map pcat).sum) (Nat.le_refl _); show _ + (13 * (2 + 1) + 43) ≤ _; omega) (by omega) (by omega) C.2.2.2.1 (fun t hv h1 h2 => gx_end C hW hx hv h1 h2) hW.2.2.2.2 hc.1 hc.2
theorem gt_out {E : String} (hc : cs.1 ≤ mc ∧ cs.2 ≤ ms) (hx : xp E M) : Gt l X (xTk post xp mc ms noTab) cs pc L st E M := by
  intro D ad z p e s m args below meth c H locs ls A q ce C hl hW h1 h2 h3
  have htab : ∀ x ∈ c.exceptionTable.toList, False := C.2.2.2.2.2.2.2.2.2
  exact vx_out (fun x h => (htab x h).elim) C.2.2.2.1 h1 h2 h3 (fun t ht hv => gx_end C hW hx hv (by rw [ht]; exact Nat.le_refl _) (fun q _ => by rw [ht])) hW.2.2.2.2 hc.1 hc.2
/-- behind a call of a method that may throw -/
theorem go_retX {D : va_G} {ad : AD} {z : Zc} {p : Program} {e : Env} {s : State} {m : MethodId} {args : Array Value} {below : List Frame} {meth : Method} {c : Code} {H : Heap} {locs : List Loc} {ls : Array Slot} {A : Nat → Prop} {postY : Option PV → Mm → Prop} {xpY : String → Mm → Prop} {stk : List Value} {a : Array Value} {yc ys : Nat} (C : Cx l X tg cs D ad z p s m args meth c A) (hl : lv_has ls (xn X) (lmap ad L)) (hW : Hw D ad z s A M H locs) (hcs : cs.1 + yc ≤ (xm X).cells ∧ cs.2 + ys ≤ (xm X).slots)
    (hr : vx_Run p l e (xm X) s m args below meth c H locs cs.1 cs.2 yc ys (F0 m pc ls stk) (smap ad st) (gQ D ad z postY (va_A (wd ad z M) H.size) a) (gX D ad z xpY (va_A (wd ad z M) H.size)) (va_A (wd ad z M) H.size))
    (g : ∀ r M', postY r M' → Gx l X tg (cs.1 + yc, cs.2 + ys) (pc + 3) L (r.toList ++ st) M') (gx : ∀ E M', xpY E M' → Gt l X tg (cs.1 + yc, cs.2 + ys) pc L st E M') : W p l e (xm X) s m args below meth c H locs cs.1 cs.2 (tg.1 D ad z s args below A) (F0 m pc ls stk) := by
  have hF := wd_A C.2.2.2.2.2.2.1 hW
  have C' : Cx l X tg (cs.1 + yc, cs.2 + ys) D ad z p s m args meth c A := cx_room C hcs
  intro T hT S
  rcases hr T hT S with ⟨v, st0, t, T', Lc, h0, S', hL, e1, e2, ⟨⟨r, M', hv, hp, hP1, hK1, hD1⟩, hFr⟩, sp⟩ | ⟨q, st0, t, T', Lc, E, ce, h0, S', hL, e1, e2, ⟨⟨M', hp, hP1, hK1, hD1⟩, hFr⟩, hce, hcv, hcl, sp⟩
  · have hv2 : v = r.map (tv ad) := by injection hv
    subst hv2
    obtain ⟨-, -, k3⟩ := vx_keep h0 e1 hW.2.2 (fun q _ h => hF q h) hF hL hFr
    obtain ⟨t2, a1, b1⟩ := g r M' hp D ad z p e s m args below meth c T'.heap (locs ++ Lc) ls A C' hl ⟨by rw [e1]; exact hP1, hD1.weaken (fun _ _ _ h => hF _ h), k3⟩ T' rfl S'
    have e3 : smap ad (r.toList ++ st) = (r.map (tv ad)).toList ++ smap ad st := by cases r <;> simp [smap]
    rw [e3] at a1
    exact ⟨t2, sp t2 a1, b1⟩
  · obtain ⟨-, -, k3⟩ := vx_keep h0 e1 hW.2.2 (fun q _ h => hF q h) hF hL hFr
    obtain ⟨t2, a1, b1⟩ := gx E M' hp D ad z p e s m args below meth c T'.heap (locs ++ Lc) ls A q ce C' hl ⟨by rw [e1]; exact hP1, hD1.weaken (fun _ _ _ h => hF _ h), k3⟩ (by rw [e1]; exact hce) hcv hcl T' rfl S'
    exact ⟨t2, sp.trans a1, b1⟩
theorem go_callX {Y : MX} {postY : Option PV → Mm → Prop} {xpY : String → Mm → Prop} {idx n kd j : Nat} (av : List PV) (k : Nat) (hk : (xt X)[k]? = some (pc, .invokevirtual idx, pc')) (E : EvX l Y (vr kd j :: av) M postY xpY) (hY : MkX Y) (ho : (kd, j) ∈ allc) (hb : objk kd = true) (ca : CV (xy X).cls idx Y n kd) (hlk : Cond.methodLink (xy X).cls idx (xy Y) ∈ WB) (hn : av.length = n) (hR : Rm X Y) (hcs : cs.1 + (xm Y).cells ≤ (xm X).cells ∧ cs.2 + (xm Y).slots ≤ (xm X).slots) (hst : (st.map pcat).sum ≤ 8) {stk : List PV} (hs : stk = av.reverse ++ vr kd j :: st) (g : ∀ r M', postY r M' → Gx l X tg (cs.1 + (xm Y).cells, cs.2 + (xm Y).slots) pc' L (r.toList ++ st) M') (gx : ∀ E M', xpY E M' → Gt l X tg (cs.1 + (xm Y).cells, cs.2 + (xm Y).slots) pc L st E M') : Gx l X tg cs pc L stk M := by
  intro D ad z p e s m args below meth c H locs ls A C hl hW
  obtain ⟨d, e1⟩ := C.1.at hk
  subst e1
  obtain ⟨-, ⟨c2, c2b⟩, c3, T, N, c4⟩ := ca
  have hts := C.2.1.2.2.2.2
  have hst2 : (F0 m pc ls (smap ad stk)).stack = (smap ad av).reverse ++ .ref (ad (kd, j)) :: smap ad st := by subst hs; simp [smap, tv]
  have hd := hY.2.2.2.1
  obtain ⟨q, hq, -⟩ := wd_at (ad := ad) (z := z) (M := M) ho
  rw [ent_obj hb] at hq
  have hrc := va_recv C.2.2.2.2.2.1 hW.1 c4 hq
  refine go_retX (postY := postY) (xpY := xpY) (a := (Value.ref (ad (kd, j)) :: smap ad av).toArray) C hl hW hcs ?_ g gx
  exact vx_runV (n := n) (index := idx) (C := (xy Y).cls) (b := ad (kd, j)) C.2.1 (E D ad z H.size) ⟨callB_of n hts (gi_ofX hY) rfl rfl rfl (hts _ hY.2.2.2.2) (hts _ hlk) ⟨hd.1, hd.2, c3⟩ hR, hts _ c2, hts _ c2b⟩ ⟨preW_blind, hrc, fun U hU hWa => ⟨rfl, preW_at C hW hU hWa⟩⟩ rfl (by simpa [smap] using hn) hl.1 hst2 (lv_room (pcat_sum hst)) d hcs
/-- .. when it is known that it returns -/
theorem go_callXn {Y : MX} {r : Option PV} {M1 : Mm} {xpY : String → Mm → Prop} {idx n kd j : Nat} (av : List PV) (k : Nat) (hk : (xt X)[k]? = some (pc, .invokevirtual idx, pc')) (E : EvX l Y (vr kd j :: av) M (fun v M2 => v = r ∧ M2 = M1) xpY) (hxp : ∀ E M2, ¬ xpY E M2) (hY : MkX Y) (ho : (kd, j) ∈ allc) (hb : objk kd = true) (ca : CV (xy X).cls idx Y n kd) (hlk : Cond.methodLink (xy X).cls idx (xy Y) ∈ WB) (hn : av.length = n) (hR : Rm X Y) (hcs : cs.1 + (xm Y).cells ≤ (xm X).cells ∧ cs.2 + (xm Y).slots ≤ (xm X).slots) (hst : (st.map pcat).sum ≤ 8) {stk : List PV} (hs : stk = av.reverse ++ vr kd j :: st) (cs' : Nat × Nat) (hcs' : (cs.1 + (xm Y).cells, cs.2 + (xm Y).slots) = cs') (g : Gx l X tg cs' pc' L (r.toList ++ st) M1) : Gx l X tg cs pc L stk M := by
  subst hcs'
  exact go_callX av k hk E hY ho hb ca hlk hn hR hcs hst hs (fun _ _ h => by rw [h.1, h.2]; exact g) (fun E M2 h => (hxp E M2 h).elim)
/-- .. when it is known that it throws -/
theorem go_callXt {Y : MX} {postY : Option PV → Mm → Prop} {E0 : String} {M1 : Mm} {idx n kd j : Nat} (av : List PV) (k : Nat) (hk : (xt X)[k]? = some (pc, .invokevirtual idx, pc')) (E : EvX l Y (vr kd j :: av) M postY (fun E M2 => E = E0 ∧ M2 = M1)) (hpn : ∀ v M2, ¬ postY v M2) (hY : MkX Y) (ho : (kd, j) ∈ allc) (hb : objk kd = true) (ca : CV (xy X).cls idx Y n kd) (hlk : Cond.methodLink (xy X).cls idx (xy Y) ∈ WB) (hn : av.length = n) (hR : Rm X Y) (hcs : cs.1 + (xm Y).cells ≤ (xm X).cells ∧ cs.2 + (xm Y).slots ≤ (xm X).slots) (hst : (st.map pcat).sum ≤ 8) {stk : List PV} (hs : stk = av.reverse ++ vr kd j :: st) (cs' : Nat × Nat) (hcs' : (cs.1 + (xm Y).cells, cs.2 + (xm Y).slots) = cs') (g : Gt l X tg cs' pc L st E0 M1) : Gx l X tg cs pc L stk M := by
  subst hcs'
  exact go_callX av k hk E hY ho hb ca hlk hn hR hcs hst hs (fun v M2 h => (hpn v M2 h).elim) (fun E M2 h => by rw [h.1, h.2]; exact g)
/-- a catch that returns a constant: astore; iconst; ireturn -/
theorem gt_catch {hh : List (Nat × Nat × Nat × Nat)} {E : String} {hpc q1 q2 q3 i : Nat} {n : Int} {v : Int32} (n0 : Nat) (x : ExceptionTableEntry) (hx : (tableOf hh)[n0]? = some x) (hcv : covers x pc = true) (ht0 : x.catchType ≠ 0) (hlk : Cond.classLink (xy X).cls x.catchType E ∈ WB) (hcast : Cond.castable E E ∈ NW) (hhp : x.handlerPc = hpc)
    (hpre : ∀ y ∈ (tableOf hh).take n0, y.catchType ≠ 0 ∧ ∃ nm : String, Cond.classLink (xy X).cls y.catchType nm ∈ WB ∧ ((E = "java/lang/IllegalStateException" ∧ nm = "java/lang/IllegalArgumentException") ∨ (E = "java/util/NoSuchElementException" ∧ nm = "java/lang/IllegalArgumentException")))
    (k : Nat) (hk0 : (∃ f : Fin 4, (f : Nat) = i ∧ (xt X)[k]? = some (hpc, .astore_n f, q1)) ∨ (xt X)[k]? = some (hpc, .astore i, q1)) (hi : i < xn X) (hk1 : (xt X)[k + 1]? = some (q1, .iconst n, q2)) (hv : Int32.ofInt n = v) (hk2 : (xt X)[k + 2]? = some (q2, .ireturn, q3)) (hr : xr X = some .int) (hc : cs.1 ≤ mc ∧ cs.2 ≤ ms) (hp : post (some (vi v)) M) : Gt l X (xTk post xp mc ms (hasTab hh)) cs pc L st E M := by
  intro D ad z p e s m args below meth c H locs ls A q ce C hl hW h1 h2 h3
  have htab : c.exceptionTable.toList = tableOf hh := C.2.2.2.2.2.2.2.2.2
  have hts := C.2.1.2.2.2.2
  have hN := C.2.2.2.2.2.2.2.1.2.2.2.2
  have hlt := (List.getElem?_eq_some_iff.mp hx).1
  have hsplit : c.exceptionTable.toList = (tableOf hh).take n0 ++ x :: (tableOf hh).drop (n0 + 1) := by
    rw [htab]
    have e1 := List.take_append_drop n0 (tableOf hh)
    rw [List.drop_eq_getElem_cons hlt] at e1
    have e2 : (tableOf hh)[n0] = x := (List.getElem?_eq_some_iff.mp hx).2
    rw [e2] at e1
    exact e1.symm
  refine vx_catch (name := E) C.2.1.2.2.2.1 _ x _ hsplit (fun y hy => ?_) hcv ht0 (hts _ hlk) (va_Nw.use rfl (C.2.2.2.2.1 _ hcast)) h1 h2 h3 ?_
  · obtain ⟨a, nm, b, cc⟩ := hpre y hy
    refine Or.inr ⟨a, nm, hts _ b, ?_⟩
    rcases cc with ⟨rfl, rfl⟩ | ⟨rfl, rfl⟩
    · exact hN.1
    · exact hN.2
  · rw [hhp]
    obtain ⟨d1, e1⟩ := C.1.at hk1
    subst e1
    obtain ⟨d2, -⟩ := C.1.at hk2
    have fin : ∀ ls2 : Array Slot, W p l e (xm X) s m args below meth c H locs cs.1 cs.2 ((xTk post xp mc ms (hasTab hh)).1 D ad z s args below A) (F0 m q1 ls2 []) := by
      intro ls2
      refine lv_iconst (rest := []) C.2.1.1 C.2.1.2.1 d1 hv ?_
      exact W.widen hc.1 hc.2 (vx_ret (W.zret (v := v) (ty := .int) C.2.1.1 C.2.1.2.1 (C.2.2.1.trans hr) rfl (fun t ht hWa => ret_q C hW (some (vi v)) hp ht hWa _) hW.2.2.2.2 d2 C.2.2.2.1))
    rcases hk0 with ⟨f, hf, hk0⟩ | hk0
    · obtain ⟨d0, e0⟩ := C.1.at hk0
      subst e0
      exact lv_astore_n (rest := []) C.2.1.1 C.2.1.2.1 d0 hf hl hi rfl (fun ls2 _ => fin ls2)
    · obtain ⟨d0, e0⟩ := C.1.at hk0
      subst e0
      exact lv_astore (rest := []) C.2.1.1 C.2.1.2.1 d0 hl hi rfl (fun ls2 _ => fin ls2)
/-- a static call of a method with a table of its own -/
theorem go_callW {Y : MX} {hh : List (Nat × Nat × Nat × Nat)} {r : Option PV} {M1 : Mm} {idx n : Nat} (av : List PV) (k : Nat) (hk : (xt X)[k]? = some (pc, .invokestatic idx, pc')) (E : EvW l Y hh av M (fun v M2 => v = r ∧ M2 = M1)) (hY : MkW Y hh) (hlk : Cond.methodLink (xy X).cls idx (xy Y) ∈ WB) (hsta : Cond.static (xy Y) ∈ WB) (hpd : (parseMethodDescriptor (xy Y).desc).map (fun d => d.parameters.length) = some n) (hn : av.length = n) (hR : Rm X Y) (hcs : cs.1 + (xm Y).cells ≤ (xm X).cells ∧ cs.2 + (xm Y).slots ≤ (xm X).slots) (hst : (st.map pcat).sum ≤ 8) {stk : List PV} (hs : stk = av.reverse ++ st) (cs' : Nat × Nat) (hcs' : (cs.1 + (xm Y).cells, cs.2 + (xm Y).slots) = cs') (g : Gx l X tg cs' pc' L (r.toList ++ st) M1) : Gx l X tg cs pc L stk M := by
  subst hcs'
  intro D ad z p e s m args below meth c H locs ls A C hl hW
  obtain ⟨d, e1⟩ := C.1.at hk
  subst e1
  have hts := C.2.1.2.2.2.2
  have hst2 : (F0 m pc ls (smap ad stk)).stack = (smap ad av).reverse ++ smap ad st := by subst hs; simp [smap]
  have hd := hY.2.2.2.1
  refine go_retX (postY := fun v M2 => v = r ∧ M2 = M1) (xpY := fun _ _ => False) (a := (smap ad av).toArray) C hl hW hcs ?_ (fun _ _ h => by rw [h.1, h.2]; exact g) (fun _ _ h => h.elim)
  have hc : Cond.codeWith (xy Y) (xc Y) (xn Y) (xr Y) hh ∈ xwW Y hh := List.mem_cons_self
  refine vx_runSX (hh := hh) (n := n) (index := idx) C.2.1 (E D ad z H.size) ⟨⟨rfl, rfl, hR.1, hR.2, pay_in hts (gi_ofW hY), hc⟩, hts _ hY.2.2.1, hts _ hY.2.2.2.2, ⟨hd.1, hd.2⟩, fun sig h => ?_, hts _ hlk, hts _ hsta⟩ ⟨preW_blind, fun U hU hWa => ⟨rfl, preW_at C hW hU hWa⟩⟩ rfl (by simpa [smap] using hn) hl.1 hst2 (lv_room (pcat_sum hst)) d hcs
  rw [h] at hpd
  exact (Option.some.inj hpd).symm
/-- a switch over 0, 1, 2 -/
theorem go_switch3 {x : Int32} {o0 o1 o2 dflt : Int} {len : Nat} (t0 t1 t2 td : Nat) (hd : decode (xc X) pc = .ok (.tableswitch dflt 0 2 #[o0, o1, o2], len)) (h0 : (pc : Int) + o0 = (t0 : Int)) (h1 : (pc : Int) + o1 = (t1 : Int)) (h2 : (pc : Int) + o2 = (t2 : Int)) (h3 : (pc : Int) + dflt = (td : Int)) (g0 : x = 0 → Gx l X tg cs t0 L st M) (g1 : x = 1 → Gx l X tg cs t1 L st M) (g2 : x = 2 → Gx l X tg cs t2 L st M) (g3 : ¬ x = 0 → ¬ x = 1 → ¬ x = 2 → Gx l X tg cs td L st M) : Gx l X tg cs pc L (vi x :: st) M := by
  intro D ad z p e s m args below meth c H locs ls A C hl hW
  by_cases e0 : x = 0
  · subst e0
    exact lv_tableIn (rest := smap ad st) C.2.1.1 C.2.1.2.1 hd (by decide) (by decide) (off := o0) rfl h0 (g0 rfl D ad z p e s m args below meth c H locs ls A C hl hW)
  · by_cases e1 : x = 1
    · subst e1
      exact lv_tableIn (rest := smap ad st) C.2.1.1 C.2.1.2.1 hd (by decide) (by decide) (off := o1) rfl h1 (g1 rfl D ad z p e s m args below meth c H locs ls A C hl hW)
    · by_cases e2 : x = 2
      · subst e2
        exact lv_tableIn (rest := smap ad st) C.2.1.1 C.2.1.2.1 hd (by decide) (by decide) (off := o2) rfl h2 (g2 rfl D ad z p e s m args below meth c H locs ls A C hl hW)
      · refine lv_tableOut (rest := smap ad st) C.2.1.1 C.2.1.2.1 hd ?_ h3 (g3 e0 e1 e2 D ad z p e s m args below meth c H locs ls A C hl hW)
        have a0 := lv_neT e0 (a := 0) (by decide)
        have a1 := lv_neT e1 (a := 1) (by decide)
        have a2 := lv_neT e2 (a := 2) (by decide)
        omega
end TH
def xnm (n : Nat) : String := match n with
  | 1 => "java/lang/IllegalArgumentException"
  | 2 => "java/lang/IllegalStateException"
  | _ => "java/util/NoSuchElementException"
end
section
/-! NoSuchElementException: its constructor's link to the one above has another place than the usual one, so its chain is put together here -/
def nseC : String := "java/util/NoSuchElementException"
def rteC : String := "java/lang/RuntimeException"
def nse13 : ByteArray := ⟨#[0x2a, 0x2b, 0xb7, 0x00, 0x0d, 0xb1]⟩
def nseAt (own : String) (ic : Nat) : List Cond :=
  Bundle.throwableAtoms ++ Bundle.throwableSAtoms ++ Bundle.passSAtoms nseC rteC 13 nse13 ++ Bundle.chainSAtoms rteC ["java/lang/Exception"] ++
  [.methodLink own ic (Bundle.initS nseC), .instantiable nseC 6, .castable nseC nseC, .selects nseC Bundle.tFill0 Bundle.tFill0, .selects nseC Bundle.tFill Bundle.tFill,
   .lays nseC Bundle.tN "cause" "Ljava/lang/Throwable;", .lays nseC Bundle.tN "stackTrace" Bundle.steD, .lays nseC Bundle.tN "suppressedExceptions" Bundle.listD, .lays nseC Bundle.tN "detailMessage" "Ljava/lang/String;",
   .isRef (.static Bundle.tN "UNASSIGNED_STACK" Bundle.steD), .isRef (.static Bundle.tN "SUPPRESSED_SENTINEL" Bundle.listD),
   .fieldLink Bundle.tN 198 Bundle.tN "backtrace" "Ljava/lang/Object;", .lays Bundle.tN Bundle.tN "backtrace" "Ljava/lang/Object;", .lays nseC Bundle.tN "backtrace" "Ljava/lang/Object;"]
theorem n13_0 : decode nse13 0 = .ok (.aload_n 0, 1) := by decide +kernel
theorem n13_1 : decode nse13 1 = .ok (.aload_n 1, 1) := by decide +kernel
theorem n13_2 : decode nse13 2 = .ok (.invokespecial 13, 3) := by decide +kernel
theorem n13_5 : decode nse13 5 = .ok (.return_, 1) := by decide +kernel
theorem nse_chain {args : Array Value} {s : State} {pl : Platform} (hpl : pl.magicAccessors = ({} : Platform).magicAccessors) {top : MethodId} (htop : s.methodNamed? (Bundle.initS Bundle.tN) = some top) {own : String} {ic : Nat} (h : ∀ w ∈ nseAt own ic, w.before args s = true) :
    ∃ (P1 : PassC) (Ps : List PassC), Ps.length = 2 ∧ P1.LinksS pl s ∧ (∀ P, P ∈ Ps → P.LinksS pl s) ∧ s.methodNamed? (Bundle.initS nseC) = some P1.m ∧ P1.sup = firstOf top (Ps.map (·.toPassT)) ∧ PassesOn top (Ps.map (·.toPassT)) := by
  obtain ⟨P, L, hm, hs⟩ := PassC.ofS_atoms (args := args) (s := s) hpl (X := nseC) (Y := rteC) (by decide) (by decide) n13_0 n13_1 n13_2 n13_5 (fun c hc => h c (by simp only [nseAt, List.mem_append]; exact Or.inl (Or.inl (Or.inr hc))))
  obtain ⟨P', Ps, hlen, L', hL, hm', hsup, hpass⟩ := Bundle.chainS (args := args) hpl htop ["java/lang/Exception"] rteC (by decide) (by decide) (fun c hc => h c (by simp only [nseAt, List.mem_append]; exact Or.inl (Or.inr hc)))
  refine ⟨P, P' :: Ps, by simp [hlen], L, ?_, hm, Option.some.inj (hs.symm.trans hm'), hsup, hpass⟩
  intro Q hQ
  rcases List.mem_cons.mp hQ with rfl | hQ
  · exact L'
  · exact hL Q hQ
section NSE
variable {p : Program} {l : Launch} {e : Env} {R : Room} {s : State} {m₀ : MethodId} {args : Array Value} {below : List Frame} {meth : Method} {c : Code} {W9 : State} {locs : List Loc} {cells slots : Nat}
set_option maxHeartbeats 2000000 in
theorem nse_ctor (X : Stand p l e R s m₀ args below meth c W9 locs cells slots) (hexec : p.tables.exec = Jvm.exec) (htr : e.platform.stackTraces = false) {own : String} {ic : Nat} (hown : s.vm.findClass own = some m₀.cls)
    (h : ∀ a ∈ nseAt own ic, a.before args s = true) (hlocs : ∀ x ∈ locs, ∀ cell, s.heap[x.base]? = some cell → cell.vm.isStatics = false)
    {a : Addr} {cX : ClassId} {kX : Class} (hfoundX : s.vm.findClass nseC = some cX) (hkX : s.vm.classes[cX]? = some kX) (hcell : W9.heap[a]? = some (freshCell cX kX)) (hnew : s.heap.size ≤ a) {msg : Value} (hmsg : msg.isRef = true)
    {g : JFrame} (hg : g.method = m₀) (hsize : g.locals.size = c.maxLocals) (hlocked : g.locked = none) (hentered : g.entered = []) {rest : List Value} (hstack : g.stack = msg :: .ref a :: .ref a :: rest)
    (hd6 : decode c.code g.pc = .ok (.invokespecial ic, 3)) (hd9 : decode c.code (g.pc + 3) = .ok (.athrow, 1)) (hout : ∀ x ∈ c.exceptionTable.toList, covers x (g.pc + 3) = false)
    (hRframes : 2 + 3 < R.frames) (hRlocals : 2 * g.monitorRoom + ((Value.ref a :: rest).map fun v => v.category).sum + (13 * (2 + 1) + 42) ≤ R.locals) (hlocks : meth.locks = false) :
    ∃ U : State, Steps p.tables e below (W9.setTop g) U ∧ U.status = .running ∧ Ended U below (.threw a) ∧ s.WarmedH U.vm ∧ s.sameButNew ({ U with vm := s.vm } : State) locs cells slots ∧ ∃ ce, U.heap[a]? = some ce ∧ s.vm.findClass nseC = some ce.cls ∧ ce.vm = .none := by
  have howns : e.platform.frameOwnsMonitors = true := by rw [X.admits.platform]
  have hfin : e.platform.finalization = false := by rw [X.admits.platform]
  have hpl : e.platform.magicAccessors = ({} : Platform).magicAccessors := by rw [X.admits.platform]
  have a' : ∀ x, x ∈ nseAt own ic → x.holds args s none s [] = true := fun x hx => h x hx
  obtain ⟨T, Z0, L, -, Y⟩ := ThrowableC.of_atoms (args := args) howns hfin hpl (fun x hx => h x (by simp [nseAt, hx]))
  obtain ⟨Z, M, LZ, LM, hnZ⟩ := Init0T.ofS_atoms (args := args) hpl L Y (fun x hx => h x (by simp [nseAt, hx]))
  obtain ⟨P1, Ps, hlen, L1, hL, hP1m, hlink1, hlink⟩ := nse_chain (args := args) hpl hnZ h
  have hfound : s.vm.findClass nseC = some P1.m.cls := findClass_of_methodNamed hP1m
  cases Option.some.inj (hfoundX.symm.trans hfound)
  obtain ⟨c1, kX', hc1, hk, hord, -, -, hn6⟩ := Cond.instantiable_spec (a' (.instantiable nseC 6) (by simp [nseAt]))
  cases Option.some.inj (hc1.symm.trans hfound)
  cases Option.some.inj (hkX.symm.trans hk)
  have hsel0 : selectMethod e.platform s.vm P1.m.cls T.fill0 = .method T.fill0 := by
    obtain ⟨c2, r2, m2, q1, q2, q3, q4, -⟩ := Cond.selects_spec (a' (.selects nseC Bundle.tFill0 Bundle.tFill0) (by simp [nseAt]))
    cases Option.some.inj (q1.symm.trans hfound)
    cases Option.some.inj (q2.symm.trans (State.methodFound?_of_named Y.fill0 (by decide)))
    cases Option.some.inj (q3.symm.trans Y.fill0)
    rw [Launch.admits_selectMethod X.admits]; exact q4
  have hselF : selectMethod e.platform s.vm P1.m.cls T.fill = .method T.fill := by
    obtain ⟨c2, r2, m2, q1, q2, q3, q4, -⟩ := Cond.selects_spec (a' (.selects nseC Bundle.tFill Bundle.tFill) (by simp [nseAt]))
    cases Option.some.inj (q1.symm.trans hfound)
    cases Option.some.inj (q2.symm.trans (State.methodFound?_of_named Y.fill (by decide)))
    cases Option.some.inj (q3.symm.trans Y.fill)
    rw [Launch.admits_selectMethod X.admits]; exact q4
  obtain ⟨cellS0, hcS0, hiss⟩ := Y.statics
  obtain ⟨u0, hu0⟩ := Cond.staticRefV Y.unassigned L.unassignedStatic L.statics hcS0 hiss (a' (.isRef (.static Bundle.tN "UNASSIGNED_STACK" Bundle.steD)) (by simp [nseAt]))
  obtain ⟨sen, hsen⟩ := Cond.staticRefV Y.sentinel L.sentinelStatic L.statics hcS0 hiss (a' (.isRef (.static Bundle.tN "SUPPRESSED_SENTINEL" Bundle.listD)) (by simp [nseAt]))
  obtain ⟨ci198, i198, fB, hk198, hg198, ha198, hsB, -, hnB, htB, hffB⟩ := Cond.ownField (t := .object "java/lang/Object") Y.found L.cls (by decide +kernel) (a' (.fieldLink Bundle.tN 198 Bundle.tN "backtrace" "Ljava/lang/Object;") (by simp [nseAt])) (a' (.lays Bundle.tN Bundle.tN "backtrace" "Ljava/lang/Object;") (by simp [nseAt])) e.platform hpl
  obtain ⟨cellS, hcS', heS, -, hkeep⟩ := X.same.2.2.2.2.2 T.aS cellS0 hcS0
  have hcellS : W9.heap[T.aS]? = some cellS := hcS'
  have hout' : ∀ i, (⟨T.aS, i⟩ : Loc) ∉ locs := fun i hmem => by
    have := hlocs _ hmem cellS0 hcS0
    rw [hiss] at this; cases this
  have hknownS : cellS.vm ≠ .unknown := by
    rw [heS]; intro hu
    rw [show cellS0.vm = .unknown from hu] at hiss
    cases hiss
  have hneS : T.aS ≠ a := Nat.ne_of_lt (Nat.lt_of_lt_of_le (Array.getElem?_eq_some_iff.mp hcS0).1 hnew)
  obtain ⟨iM, hffM⟩ := Y.msg
  obtain ⟨tyC, dC, hdC, hdnC⟩ := Cond.laysAt hfound hk Y.cause (a' (.lays nseC Bundle.tN "cause" "Ljava/lang/Throwable;") (by simp [nseAt]))
  obtain ⟨tyS, dS, hdS, hdnS⟩ := Cond.laysAt hfound hk Y.stack (a' (.lays nseC Bundle.tN "stackTrace" Bundle.steD) (by simp [nseAt]))
  obtain ⟨tyP, dP, hdP, hdnP⟩ := Cond.laysAt hfound hk Y.supp (a' (.lays nseC Bundle.tN "suppressedExceptions" Bundle.listD) (by simp [nseAt]))
  obtain ⟨tyM, dM, hdM, hdnM⟩ := Cond.laysAt hfound hk hffM (a' (.lays nseC Bundle.tN "detailMessage" "Ljava/lang/String;") (by simp [nseAt]))
  obtain ⟨tyB, dB, hdB, hdnB⟩ := Cond.laysAt hfound hk hffB (a' (.lays nseC Bundle.tN "backtrace" "Ljava/lang/Object;") (by simp [nseAt]))
  have bC := Cond.laysApart hdB hdC hdnB hdnC (by rw [hnB, Y.causeName]; decide)
  have bS := Cond.laysApart hdB hdS hdnB hdnS (by rw [hnB, Y.stackName]; decide)
  have bP := Cond.laysApart hdB hdP hdnB hdnP (by rw [hnB, Y.suppName]; decide)
  have hskip : SkipFacts T e.platform s (fun u => u) u0 ((preparedCellV T.toThrowableT (freshCell P1.m.cls kX) a u0 sen).withEntry W9.cur) :=
    ⟨{ ci198 := ci198, i198 := i198, fBack := fB }, ⟨hk198, hg198, ha198, hsB⟩, by
      have := fresh_default (c := P1.m.cls) tyB
      rw [htB] at this
      simpa [preparedCellV, Cell.setSlot, Cell.withEntry, Array.getElem?_setIfInBounds, bC, bS, bP, bC.symm, bS.symm, bP.symm, defaultValue] using this, fun _ _ => rfl⟩
  obtain ⟨tm, methC, cdC, kC, vm₁, hnC, -, -, -, -, -, -, -, hW₁, st1⟩ := Steps.initColdS (tb := p.tables) (e := e) (below := below) (s := s) (U := W9) X.here hexec X.warmed hpl hown (t := Bundle.initS nseC) rfl rfl (by decide)
    (a' (.methodLink own ic (Bundle.initS nseC)) (by simp [nseAt])) (h (.instanceMethod (Bundle.initS nseC)) (by simp [nseAt, Bundle.passSAtoms])) (bytes := nse13) (maxL := 2) (h (.code (Bundle.initS nseC) nse13 2 none) (by simp [nseAt, Bundle.passSAtoms]))
    (f := g) hg (a := a) (msg := msg) (rest := .ref a :: rest) hstack hd6
  cases Option.some.inj (hnC.symm.trans hP1m)
  have X₁ := X.noted hW₁
  obtain ⟨vm₂, X₂, st2⟩ := X₁.ctorMessageOffV hexec (g := { g with stack := .ref a :: rest }) hg hsize T L Z LZ M LM (P1 :: Ps)
    (fun P hP => by rcases List.mem_cons.mp hP with rfl | hP; exact L1; exact hL P hP) ⟨hlink1, hlink⟩ (u0 := u0) (sen := sen) (self := a) hmsg (cell := freshCell P1.m.cls kX) (cellS := cellS)
    hcell (fun _ => by simp) (by simp) rfl rfl hsel0 hselF hcellS hneS hknownS (by rw [hkeep _ (hout' _)]; exact hu0) (by rw [hkeep _ (hout' _)]; exact hsen)
    (Takes.of_laid hk hord tyC (by rw [Y.causeType]; rfl)) (Takes.of_laid hk hord tyS (by rw [Y.stackType]; exact fits_refV_array _ u0)) (Takes.of_laid hk hord tyP (by rw [Y.suppType]; exact fits_refV_object _ sen))
    (Takes.of_laid hk hord tyM (by rw [Y.msgType]; exact fits_refV_object _ ⟨msg, hmsg⟩)) Y.objLocals hskip htr [] hd6
    (by simp only [List.length_cons, hlen]; omega) (by simp only [List.length_cons, hlen]; exact hRlocals)
  obtain ⟨hwalk, hrun, hended, hWU, hsame⟩ := X₂.athrowLeaves hexec (g := { g with stack := .ref a :: rest, pc := g.pc + 3 }) hg hlocked hentered hout (a := a) (rest := rest) rfl hd9
  have hlt : a < ((W9.setVm vm₁).setVm vm₂).heap.size := (Array.getElem?_eq_some_iff.mp hcell).1
  have hU := heapAt_setCell_self (s := (W9.setVm vm₁).setVm vm₂) (plainBareV T.toThrowableT (freshCell P1.m.cls kX) a u0 sen msg) hlt
  refine ⟨_, st1 _ (fun acts => ?_), hrun, hended, hWU, hsame.weaken (fun y hy hlt' => ?_) (Nat.le_refl _) (Nat.le_refl _), _, hU, hfound, rfl⟩
  · rw [doInvoke_state]
    exact st2 _ hwalk
  · rcases List.mem_append.mp hy with h1 | h1
    · exact h1
    · exfalso
      have hb : y.base = a := by
        simp only [List.mem_cons, List.not_mem_nil, or_false] at h1
        rcases h1 with rfl | rfl | rfl | rfl | rfl <;> rfl
      rw [hb] at hlt'
      exact Nat.not_lt.mpr hnew hlt'
end NSE
/-- what a throw site of NoSuchElementException asks of the tables -/
def ATN (own : String) (ik ic : Nat) : Prop := Cond.classLink own ik nseC ∈ WB ∧ Cond.initialized nseC ∈ WB ∧ ((nseAt own ic).filter vx_no).all (fun w => if goodWord w = true then decide (w ∈ WB) else decide (w ∈ NW)) = true ∧ (Cond.classLink own ik nseC :: Cond.initialized nseC :: (nseAt own ic).filter vx_no).all vx_ot = true
section TN
variable {l : Launch} {X : MX} {cs : Nat × Nat} {post : Option PV → Mm → Prop} {xp : String → Mm → Prop} {mc ms : Nat} {pc : Nat} {L : List (Nat × PV)} {st : List PV} {M : Mm}
set_option maxHeartbeats 1000000 in
theorem go_throwN {ik is ic p1 p2 p3 p4 p5 : Nat} {text : String} (k : Nat) (k0 : (xt X)[k]? = some (pc, .new ik, p1)) (k1 : (xt X)[k + 1]? = some (p1, .dup, p2)) (k2 : (xt X)[k + 2]? = some (p2, .ldc is, p3)) (k3 : (xt X)[k + 3]? = some (p3, .invokespecial ic, p4)) (k4 : (xt X)[k + 4]? = some (p4, .athrow, p5))
    (ha : ATN (xy X).cls ik ic) (hs : ((xy X).cls, is, text) ∈ STR) (hRf : 5 < (xm X).frames) (hRl : (st.map pcat).sum + 82 ≤ (xm X).locals) (hc : cs.1 + 1 ≤ mc ∧ cs.2 + 6 ≤ ms) (hR : mc ≤ (xm X).cells ∧ ms ≤ (xm X).slots) (hx : xp "java/util/NoSuchElementException" M) : Gx l X (xTk post xp mc ms noTab) cs pc L st M := by
  intro D ad z p e s m args below meth c H locs ls A C hl hW
  obtain ⟨d0, e0⟩ := C.1.at k0
  subst e0
  obtain ⟨d1, e1⟩ := C.1.at k1
  subst e1
  obtain ⟨d2, e2⟩ := C.1.at k2
  subst e2
  obtain ⟨d3, e3⟩ := C.1.at k3
  subst e3
  obtain ⟨d4, -⟩ := C.1.at k4
  obtain ⟨x1, x2, x3, x4, -⟩ := C.2.2.2.2.2.2.2.1
  obtain ⟨sa, hsa⟩ := x4 _ hs
  have htab : ∀ x ∈ c.exceptionTable.toList, False := C.2.2.2.2.2.2.2.2.2
  have hts := C.2.1.2.2.2.2
  have hb := C.2.1.2.1
  have hexec := C.2.1.1
  have hat : ∀ w ∈ (nseAt (xy X).cls ic).filter vx_no, w.before args s = true := by
    intro w hw
    have h9 := List.all_eq_true.mp ha.2.2.1 w hw
    by_cases hg : goodWord w = true
    · rw [if_pos hg] at h9
      exact hts w (of_decide_eq_true h9)
    · rw [if_neg hg] at h9
      have hn := of_decide_eq_true h9
      have hq := NW_nest w hn
      have hz := C.2.2.2.2.1 w hn
      exact va_Nw.use (by cases w <;> first | rfl | (exact absurd hq (by simp [nestW]))) hz
  have hgood : ∀ w ∈ Cond.classLink (xy X).cls ik nseC :: Cond.initialized nseC :: (nseAt (xy X).cls ic).filter vx_no, vx_ot w = true := fun w hw => List.all_eq_true.mp ha.2.2.2 w hw
  intro T hT S
  have htr : e.platform.stackTraces = false := (show e.platform.stackTraces = l.stackTraces by rw [S.admits.platform]).trans x1
  have Y := vx_rebase S (R' := { frames := (xm X).frames, locals := (xm X).locals, cells := 1, slots := 6 }) (Nat.le_refl _) (Nat.le_refl _) (by show cs.1 + 1 ≤ _; omega) (by show cs.2 + 6 ≤ _; omega)
  obtain ⟨s', hA⟩ : ∃ z, z = (T.setVm s.vm).setFrames (.invoking m args :: below) := ⟨_, rfl⟩
  rw [← hA] at Y
  have hvm : s'.vm = s.vm := by rw [hA]; rfl
  have hhp : s'.heap = H := by rw [hA]; exact hT
  have hW0 : s.WarmedH s'.vm := by rw [hvm]; exact State.WarmedH.refl s
  have hat' : ∀ w ∈ (nseAt (xy X).cls ic).filter vx_no, w.before args s' = true := fun w hw => vx_ot_at hW0 hvm.symm (hgood w (List.mem_cons_of_mem _ (List.mem_cons_of_mem _ hw))) (hat w hw)
  have hk' : (Cond.classLink (xy X).cls ik nseC).before args s' = true := vx_ot_at hW0 hvm.symm (hgood _ List.mem_cons_self) (hts _ ha.1)
  have hini' : (Cond.initialized nseC).before args s' = true := vx_ot_at hW0 hvm.symm (hgood _ (List.mem_cons_of_mem _ List.mem_cons_self)) (hts _ ha.2.1)
  have hU' : vx_Zq Bundle.tN "UNASSIGNED_STACK" Bundle.steD A s' s'.heap := by rw [hhp]; exact vx_Zq.moved hW0.alike (x2.kept hW.2.2.2.1)
  have hN' : vx_Zq Bundle.tN "SUPPRESSED_SENTINEL" Bundle.listD A s' s'.heap := by rw [hhp]; exact vx_Zq.moved hW0.alike (x3.kept hW.2.2.2.1)
  have h : ∀ w ∈ nseAt (xy X).cls ic, w.before args s' = true := vx_own hat' (vx_isRefq hU'.1) (vx_isRefq hN'.1) hU'.2.word hN'.2.word
  have hown' : s'.vm.findClass (xy X).cls = some m.cls := by rw [hvm]; exact C.2.1.2.2.2.1
  have hins : (Cond.instantiable nseC 6).before args s' = true := h _ (by simp [nseAt])
  obtain ⟨vm₁, cX, kX, hfX, hkX, -, -, X₁, st1⟩ := Y.newCold hexec (own := (xy X).cls) (C := nseC) (index := ik) (n := 6) hown' hk' hins hini'
    (g := F0 m pc ls (smap ad st)) rfl (by rw [hb]; exact d0) (Nat.le_refl _) (Nat.le_refl _)
  generalize hT1 : (T.setVm vm₁).pushCell { cls := cX, slots := kX.instanceTypes.map defaultValue, vm := .none } = T1 at X₁ st1
  have hcat : (Value.ref T.heap.size).category = 1 := rfl
  have hcellA : T1.heap[T.heap.size]? = some (freshCell cX kX) := by rw [← hT1]; exact State.heap_pushCell_size _ _
  have d3' : decode c.code (pc + 3) = .ok (.dup, 1) := by rw [hb]; exact d1
  have d4' : decode c.code (pc + 4) = .ok (.ldc is, 2) := by rw [hb]; exact d2
  have hstr' : vk_R (xy X).cls is text sa s' := vk_R.warm hW0 hsa
  have hsum := pcat_sum (ad := ad) (st := st) (w := (st.map pcat).sum) (Nat.le_refl _)
  obtain ⟨U, hsteps, hrun, hend, hWm, hsame, ce, hce, hO, hO2⟩ := nse_ctor X₁ hexec htr (own := (xy X).cls) (ic := ic) hown' h (fun x hx => nomatch hx) hfX hkX hcellA (by rw [hhp, hT]; exact Nat.le_refl _) (msg := .ref sa) rfl
    (g := { method := m, pc := pc + 6, locals := ls, stack := .ref sa :: .ref T.heap.size :: .ref T.heap.size :: smap ad st, locked := none }) rfl (hl.1.trans C.2.1.2.2.1.symm) rfl rfl (rest := smap ad st) rfl
    (by rw [hb]; exact d3) (by rw [hb]; exact d4) (fun x hx => (htab x hx).elim) hRf (by simp only [List.map_cons, List.sum_cons, hcat]; show 0 + (1 + _) + _ ≤ (xm X).locals; omega) C.2.2.2.1
  obtain ⟨f1, f2⟩ := vx_frame hsame
  rw [hhp] at f1 f2
  have hWs : s.WarmedH U.vm := State.WarmedH.trans hW0 hWm
  have hcl : s.vm.findClass nseC = some ce.cls := by
    have h9 := hO
    rw [hvm] at h9
    exact h9
  have hall : s.sameButNew ({ U with vm := s.vm } : State) locs mc ms := by
    subst hA
    obtain ⟨e1, e2⟩ := hsame
    rw [State.setFrames_setFrames] at e1
    have h2 : (T.setVm s.vm).sameButNew ({ U with vm := s.vm } : State) [] (0 + 1) (0 + 6) := ⟨e1, e2⟩
    have h3 := S.same.trans h2
    rw [List.append_nil] at h3
    exact h3.mono hc.1 hc.2
  refine ⟨U, ?_, .threw T.heap.size, hrun, hend, Or.inr ⟨T.heap.size, rfl, nseC, ce, locs, gx_end C hW hx hWs.alike f1 (fun q hq => f2 q hq (fun z hz => nomatch hz)), hce, hO2, hcl, hWs, hall, hW.2.2.2.2⟩⟩
  refine st1 _ ?_
  show Steps p.tables e below (T1.setTop { method := m, pc := pc + 3, locals := ls, stack := .ref T.heap.size :: smap ad st, locked := none }) _
  jvm_step X₁.here [X₁.here.top, hexec, d3', Value.category]
  exact X₁.ldcString hexec (own := (xy X).cls) (text := text) (index := is) (a := sa) hown' hstr'.1 hstr'.2
    (g := { method := m, pc := pc + 4, locals := ls, stack := .ref T.heap.size :: .ref T.heap.size :: smap ad st, locked := none }) rfl d4' _ hsteps
end TN
end
