section
-- ===== PART A: goes FIRST, ahead of the names: the tables' words, and 'selects' of the private methods out of them =====
/-- a private method of a class that the tables say can be made, by its rows of tables_1 -/
def lw_okq (q : MethodName × Nat) : Prop := (q.1.cls ≠ "java/lang/invoke/MethodHandle" ∧ q.1.cls ≠ "java/lang/invoke/VarHandle") ∧ Cond.instantiable q.1.cls q.2 ∈ tables_1 ∧ Cond.privateMethod q.1 ∈ tables_1 ∧ Cond.instanceMethod q.1 ∈ tables_1
theorem lw_p0 : lw_okq (⟨"OmegaDesk", "automatonAt", "(I)LOmegaDesk$Automaton;"⟩, 4) := ⟨⟨by decide +kernel, by decide +kernel⟩, List.mem_of_getElem? (i := 18) (by decide +kernel), List.mem_of_getElem? (i := 144) (by decide +kernel), List.mem_of_getElem? (i := 145) (by decide +kernel)⟩
theorem lw_p1 : lw_okq (⟨"java/lang/Throwable", "fillInStackTrace", "(I)Ljava/lang/Throwable;"⟩, 6) := ⟨⟨by decide +kernel, by decide +kernel⟩, List.mem_of_getElem? (i := 186) (by decide +kernel), List.mem_of_getElem? (i := 184) (by decide +kernel), List.mem_of_getElem? (i := 185) (by decide +kernel)⟩
theorem lw_p2 : lw_okq (⟨"OmegaDesk", "automatonWithPlaces", "(IIII)LOmegaDesk$Automaton;"⟩, 4) := ⟨⟨by decide +kernel, by decide +kernel⟩, List.mem_of_getElem? (i := 18) (by decide +kernel), List.mem_of_getElem? (i := 243) (by decide +kernel), List.mem_of_getElem? (i := 244) (by decide +kernel)⟩
theorem lw_p3 : lw_okq (⟨"OmegaDesk$Automaton", "joinAll", "(III)V"⟩, 3) := ⟨⟨by decide +kernel, by decide +kernel⟩, List.mem_of_getElem? (i := 27) (by decide +kernel), List.mem_of_getElem? (i := 297) (by decide +kernel), List.mem_of_getElem? (i := 298) (by decide +kernel)⟩
theorem lw_p4 : lw_okq (⟨"OmegaDesk$Refuter", "reset", "()V"⟩, 7) := ⟨⟨by decide +kernel, by decide +kernel⟩, List.mem_of_getElem? (i := 48) (by decide +kernel), List.mem_of_getElem? (i := 405) (by decide +kernel), List.mem_of_getElem? (i := 406) (by decide +kernel)⟩
theorem lw_p5 : lw_okq (⟨"OmegaDesk$Refuter", "findMeetings", "(LOmegaDesk$Automaton;LOmegaDesk$Automaton;)V"⟩, 7) := ⟨⟨by decide +kernel, by decide +kernel⟩, List.mem_of_getElem? (i := 48) (by decide +kernel), List.mem_of_getElem? (i := 410) (by decide +kernel), List.mem_of_getElem? (i := 411) (by decide +kernel)⟩
theorem lw_p6 : lw_okq (⟨"OmegaDesk$Refuter", "spreadMeeting", "(LOmegaDesk$Automaton;LOmegaDesk$Automaton;II)Z"⟩, 7) := ⟨⟨by decide +kernel, by decide +kernel⟩, List.mem_of_getElem? (i := 48) (by decide +kernel), List.mem_of_getElem? (i := 414) (by decide +kernel), List.mem_of_getElem? (i := 415) (by decide +kernel)⟩
theorem lw_p7 : lw_okq (⟨"OmegaDesk$Refuter", "offer", "(II)I"⟩, 7) := ⟨⟨by decide +kernel, by decide +kernel⟩, List.mem_of_getElem? (i := 48) (by decide +kernel), List.mem_of_getElem? (i := 420) (by decide +kernel), List.mem_of_getElem? (i := 421) (by decide +kernel)⟩
theorem lw_p8 : lw_okq (⟨"OmegaDesk$Refuter", "slotOf", "(I)I"⟩, 7) := ⟨⟨by decide +kernel, by decide +kernel⟩, List.mem_of_getElem? (i := 48) (by decide +kernel), List.mem_of_getElem? (i := 424) (by decide +kernel), List.mem_of_getElem? (i := 425) (by decide +kernel)⟩
theorem lw_p9 : lw_okq (⟨"OmegaDesk$Refuter", "enqueue", "(I)V"⟩, 7) := ⟨⟨by decide +kernel, by decide +kernel⟩, List.mem_of_getElem? (i := 48) (by decide +kernel), List.mem_of_getElem? (i := 429) (by decide +kernel), List.mem_of_getElem? (i := 430) (by decide +kernel)⟩
theorem lw_p10 : lw_okq (⟨"OmegaDesk$Refuter", "nextQueued", "()I"⟩, 7) := ⟨⟨by decide +kernel, by decide +kernel⟩, List.mem_of_getElem? (i := 48) (by decide +kernel), List.mem_of_getElem? (i := 434) (by decide +kernel), List.mem_of_getElem? (i := 435) (by decide +kernel)⟩
theorem lw_p11 : lw_okq (⟨"OmegaDesk$Refuter", "refutesWith", "(II)Z"⟩, 7) := ⟨⟨by decide +kernel, by decide +kernel⟩, List.mem_of_getElem? (i := 48) (by decide +kernel), List.mem_of_getElem? (i := 439) (by decide +kernel), List.mem_of_getElem? (i := 440) (by decide +kernel)⟩
theorem lw_p12 : lw_okq (⟨"OmegaDesk$LassoFinder", "searchSplit", "(II)V"⟩, 7) := ⟨⟨by decide +kernel, by decide +kernel⟩, List.mem_of_getElem? (i := 76) (by decide +kernel), List.mem_of_getElem? (i := 464) (by decide +kernel), List.mem_of_getElem? (i := 465) (by decide +kernel)⟩
theorem lw_p13 : lw_okq (⟨"OmegaDeskModel", "add", "(IZ)V"⟩, 12) := ⟨⟨by decide +kernel, by decide +kernel⟩, List.mem_of_getElem? (i := 520) (by decide +kernel), List.mem_of_getElem? (i := 575) (by decide +kernel), List.mem_of_getElem? (i := 576) (by decide +kernel)⟩
theorem lw_p14 : lw_okq (⟨"OmegaDeskModel", "isEdge", "(IIII)Z"⟩, 12) := ⟨⟨by decide +kernel, by decide +kernel⟩, List.mem_of_getElem? (i := 520) (by decide +kernel), List.mem_of_getElem? (i := 583) (by decide +kernel), List.mem_of_getElem? (i := 584) (by decide +kernel)⟩
theorem lw_p15 : lw_okq (⟨"OmegaDeskModel", "append", "(II)V"⟩, 12) := ⟨⟨by decide +kernel, by decide +kernel⟩, List.mem_of_getElem? (i := 520) (by decide +kernel), List.mem_of_getElem? (i := 595) (by decide +kernel), List.mem_of_getElem? (i := 596) (by decide +kernel)⟩
def lw_privs_1 : List (MethodName × Nat) := [(⟨"OmegaDesk", "automatonAt", "(I)LOmegaDesk$Automaton;"⟩, 4), (⟨"java/lang/Throwable", "fillInStackTrace", "(I)Ljava/lang/Throwable;"⟩, 6), (⟨"OmegaDesk", "automatonWithPlaces", "(IIII)LOmegaDesk$Automaton;"⟩, 4), (⟨"OmegaDesk$Automaton", "joinAll", "(III)V"⟩, 3), (⟨"OmegaDesk$Refuter", "reset", "()V"⟩, 7), (⟨"OmegaDesk$Refuter", "findMeetings", "(LOmegaDesk$Automaton;LOmegaDesk$Automaton;)V"⟩, 7), (⟨"OmegaDesk$Refuter", "spreadMeeting", "(LOmegaDesk$Automaton;LOmegaDesk$Automaton;II)Z"⟩, 7), (⟨"OmegaDesk$Refuter", "offer", "(II)I"⟩, 7), (⟨"OmegaDesk$Refuter", "slotOf", "(I)I"⟩, 7), (⟨"OmegaDesk$Refuter", "enqueue", "(I)V"⟩, 7), (⟨"OmegaDesk$Refuter", "nextQueued", "()I"⟩, 7), (⟨"OmegaDesk$Refuter", "refutesWith", "(II)Z"⟩, 7), (⟨"OmegaDesk$LassoFinder", "searchSplit", "(II)V"⟩, 7), (⟨"OmegaDeskModel", "add", "(IZ)V"⟩, 12), (⟨"OmegaDeskModel", "isEdge", "(IIII)Z"⟩, 12), (⟨"OmegaDeskModel", "append", "(II)V"⟩, 12)]
theorem lw_r1 : ∀ q ∈ lw_privs_1, lw_okq q := List.forall_mem_cons.mpr ⟨lw_p0, List.forall_mem_cons.mpr ⟨lw_p1, List.forall_mem_cons.mpr ⟨lw_p2, List.forall_mem_cons.mpr ⟨lw_p3, List.forall_mem_cons.mpr ⟨lw_p4, List.forall_mem_cons.mpr ⟨lw_p5, List.forall_mem_cons.mpr ⟨lw_p6, List.forall_mem_cons.mpr ⟨lw_p7, List.forall_mem_cons.mpr ⟨lw_p8, List.forall_mem_cons.mpr ⟨lw_p9, List.forall_mem_cons.mpr ⟨lw_p10, List.forall_mem_cons.mpr ⟨lw_p11, List.forall_mem_cons.mpr ⟨lw_p12, List.forall_mem_cons.mpr ⟨lw_p13, List.forall_mem_cons.mpr ⟨lw_p14, List.forall_mem_cons.mpr ⟨lw_p15, fun _ h => absurd h List.not_mem_nil⟩⟩⟩⟩⟩⟩⟩⟩⟩⟩⟩⟩⟩⟩⟩⟩
theorem lw_p16 : lw_okq (⟨"OmegaDeskModel", "living", "(I)I"⟩, 12) := ⟨⟨by decide +kernel, by decide +kernel⟩, List.mem_of_getElem? (i := 520) (by decide +kernel), List.mem_of_getElem? (i := 603) (by decide +kernel), List.mem_of_getElem? (i := 604) (by decide +kernel)⟩
theorem lw_p17 : lw_okq (⟨"OmegaDeskModel", "alive", "(II)Z"⟩, 12) := ⟨⟨by decide +kernel, by decide +kernel⟩, List.mem_of_getElem? (i := 520) (by decide +kernel), List.mem_of_getElem? (i := 607) (by decide +kernel), List.mem_of_getElem? (i := 608) (by decide +kernel)⟩
theorem lw_p18 : lw_okq (⟨"OmegaDeskModel", "ahead", "(II)I"⟩, 12) := ⟨⟨by decide +kernel, by decide +kernel⟩, List.mem_of_getElem? (i := 520) (by decide +kernel), List.mem_of_getElem? (i := 611) (by decide +kernel), List.mem_of_getElem? (i := 612) (by decide +kernel)⟩
theorem lw_p19 : lw_okq (⟨"OmegaDeskModel", "lasso", "(IIIII)Z"⟩, 12) := ⟨⟨by decide +kernel, by decide +kernel⟩, List.mem_of_getElem? (i := 520) (by decide +kernel), List.mem_of_getElem? (i := 626) (by decide +kernel), List.mem_of_getElem? (i := 627) (by decide +kernel)⟩
theorem lw_p20 : lw_okq (⟨"OmegaDeskModel", "allBehind", "(IJIIII)J"⟩, 12) := ⟨⟨by decide +kernel, by decide +kernel⟩, List.mem_of_getElem? (i := 520) (by decide +kernel), List.mem_of_getElem? (i := 630) (by decide +kernel), List.mem_of_getElem? (i := 631) (by decide +kernel)⟩
theorem lw_p21 : lw_okq (⟨"OmegaDeskModel", "behind", "(IJIIII)J"⟩, 12) := ⟨⟨by decide +kernel, by decide +kernel⟩, List.mem_of_getElem? (i := 520) (by decide +kernel), List.mem_of_getElem? (i := 634) (by decide +kernel), List.mem_of_getElem? (i := 635) (by decide +kernel)⟩
theorem lw_p22 : lw_okq (⟨"OmegaDeskModel", "differs", "(II)Z"⟩, 12) := ⟨⟨by decide +kernel, by decide +kernel⟩, List.mem_of_getElem? (i := 520) (by decide +kernel), List.mem_of_getElem? (i := 646) (by decide +kernel), List.mem_of_getElem? (i := 647) (by decide +kernel)⟩
theorem lw_p23 : lw_okq (⟨"OmegaDeskModel", "begin", "(II)V"⟩, 12) := ⟨⟨by decide +kernel, by decide +kernel⟩, List.mem_of_getElem? (i := 520) (by decide +kernel), List.mem_of_getElem? (i := 650) (by decide +kernel), List.mem_of_getElem? (i := 651) (by decide +kernel)⟩
theorem lw_p24 : lw_okq (⟨"OmegaDeskModel", "goOn", "(IIII)Z"⟩, 12) := ⟨⟨by decide +kernel, by decide +kernel⟩, List.mem_of_getElem? (i := 520) (by decide +kernel), List.mem_of_getElem? (i := 654) (by decide +kernel), List.mem_of_getElem? (i := 655) (by decide +kernel)⟩
theorem lw_p25 : lw_okq (⟨"OmegaDeskModel", "gather", "(III)V"⟩, 12) := ⟨⟨by decide +kernel, by decide +kernel⟩, List.mem_of_getElem? (i := 520) (by decide +kernel), List.mem_of_getElem? (i := 658) (by decide +kernel), List.mem_of_getElem? (i := 659) (by decide +kernel)⟩
theorem lw_p26 : lw_okq (⟨"OmegaDeskModel", "lead", "(III)V"⟩, 12) := ⟨⟨by decide +kernel, by decide +kernel⟩, List.mem_of_getElem? (i := 520) (by decide +kernel), List.mem_of_getElem? (i := 668) (by decide +kernel), List.mem_of_getElem? (i := 669) (by decide +kernel)⟩
theorem lw_p27 : lw_okq (⟨"OmegaDeskModel", "spread", "(I)V"⟩, 12) := ⟨⟨by decide +kernel, by decide +kernel⟩, List.mem_of_getElem? (i := 520) (by decide +kernel), List.mem_of_getElem? (i := 672) (by decide +kernel), List.mem_of_getElem? (i := 673) (by decide +kernel)⟩
theorem lw_p28 : lw_okq (⟨"OmegaDeskModel", "longer", "(II)I"⟩, 12) := ⟨⟨by decide +kernel, by decide +kernel⟩, List.mem_of_getElem? (i := 520) (by decide +kernel), List.mem_of_getElem? (i := 676) (by decide +kernel), List.mem_of_getElem? (i := 677) (by decide +kernel)⟩
theorem lw_p29 : lw_okq (⟨"OmegaDeskModel", "taken", "(II)I"⟩, 12) := ⟨⟨by decide +kernel, by decide +kernel⟩, List.mem_of_getElem? (i := 520) (by decide +kernel), List.mem_of_getElem? (i := 684) (by decide +kernel), List.mem_of_getElem? (i := 685) (by decide +kernel)⟩
theorem lw_p30 : lw_okq (⟨"OmegaDeskModel", "look", "(III)Z"⟩, 12) := ⟨⟨by decide +kernel, by decide +kernel⟩, List.mem_of_getElem? (i := 520) (by decide +kernel), List.mem_of_getElem? (i := 691) (by decide +kernel), List.mem_of_getElem? (i := 692) (by decide +kernel)⟩
theorem lw_p31 : lw_okq (⟨"OmegaDeskModel", "fail", "(I)I"⟩, 12) := ⟨⟨by decide +kernel, by decide +kernel⟩, List.mem_of_getElem? (i := 520) (by decide +kernel), List.mem_of_getElem? (i := 703) (by decide +kernel), List.mem_of_getElem? (i := 704) (by decide +kernel)⟩
def lw_privs_2 : List (MethodName × Nat) := [(⟨"OmegaDeskModel", "living", "(I)I"⟩, 12), (⟨"OmegaDeskModel", "alive", "(II)Z"⟩, 12), (⟨"OmegaDeskModel", "ahead", "(II)I"⟩, 12), (⟨"OmegaDeskModel", "lasso", "(IIIII)Z"⟩, 12), (⟨"OmegaDeskModel", "allBehind", "(IJIIII)J"⟩, 12), (⟨"OmegaDeskModel", "behind", "(IJIIII)J"⟩, 12), (⟨"OmegaDeskModel", "differs", "(II)Z"⟩, 12), (⟨"OmegaDeskModel", "begin", "(II)V"⟩, 12), (⟨"OmegaDeskModel", "goOn", "(IIII)Z"⟩, 12), (⟨"OmegaDeskModel", "gather", "(III)V"⟩, 12), (⟨"OmegaDeskModel", "lead", "(III)V"⟩, 12), (⟨"OmegaDeskModel", "spread", "(I)V"⟩, 12), (⟨"OmegaDeskModel", "longer", "(II)I"⟩, 12), (⟨"OmegaDeskModel", "taken", "(II)I"⟩, 12), (⟨"OmegaDeskModel", "look", "(III)Z"⟩, 12), (⟨"OmegaDeskModel", "fail", "(I)I"⟩, 12)]
theorem lw_r2 : ∀ q ∈ lw_privs_2, lw_okq q := List.forall_mem_cons.mpr ⟨lw_p16, List.forall_mem_cons.mpr ⟨lw_p17, List.forall_mem_cons.mpr ⟨lw_p18, List.forall_mem_cons.mpr ⟨lw_p19, List.forall_mem_cons.mpr ⟨lw_p20, List.forall_mem_cons.mpr ⟨lw_p21, List.forall_mem_cons.mpr ⟨lw_p22, List.forall_mem_cons.mpr ⟨lw_p23, List.forall_mem_cons.mpr ⟨lw_p24, List.forall_mem_cons.mpr ⟨lw_p25, List.forall_mem_cons.mpr ⟨lw_p26, List.forall_mem_cons.mpr ⟨lw_p27, List.forall_mem_cons.mpr ⟨lw_p28, List.forall_mem_cons.mpr ⟨lw_p29, List.forall_mem_cons.mpr ⟨lw_p30, List.forall_mem_cons.mpr ⟨lw_p31, fun _ h => absurd h List.not_mem_nil⟩⟩⟩⟩⟩⟩⟩⟩⟩⟩⟩⟩⟩⟩⟩⟩
def lw_privs : List (MethodName × Nat) := lw_privs_1 ++ (lw_privs_2)
def lw_tbl : List Cond := k2_sels lw_privs ++ tables_1
theorem lw_privs_ok : ∀ q ∈ lw_privs, lw_okq q := by
  show ∀ q ∈ lw_privs_1 ++ (lw_privs_2), lw_okq q
  exact List.forall_mem_append.mpr ⟨lw_r1, lw_r2⟩
end
section
def R_A : String := "OmegaDesk$Automaton"
def F_A : u_T := fun k => match k with
  | 0 => ("OmegaDesk$Automaton", "size", "I", false)
  | 1 => ("OmegaDesk$Automaton", "goodStates", "I", false)
  | _ => ("OmegaDesk$Automaton", "followers", "[I", true)
def tf_A : Nat → FieldType := fun k => match k with
  | 0 => .int
  | 1 => .int
  | _ => .array .int
def R_D : String := "OmegaDesk"
def F_D : u_T := fun k => match k with
  | 0 => ("OmegaDesk", "automata", "[LOmegaDesk$Automaton;", true)
  | 1 => ("OmegaDesk", "spare", "LOmegaDesk$Automaton;", true)
  | 2 => ("OmegaDesk", "refuter", "LOmegaDesk$Refuter;", true)
  | _ => ("OmegaDesk", "finder", "LOmegaDesk$LassoFinder;", true)
def tf_D : Nat → FieldType := fun k => match k with
  | 0 => .array (.object "OmegaDesk$Automaton")
  | 1 => .object "OmegaDesk$Automaton"
  | 2 => .object "OmegaDesk$Refuter"
  | _ => .object "OmegaDesk$LassoFinder"
def R_R : String := "OmegaDesk$Refuter"
def F_R : u_T := fun k => match k with
  | 0 => ("OmegaDesk$Refuter", "keys", "[I", true)
  | 1 => ("OmegaDesk$Refuter", "seenWays", "[I", true)
  | 2 => ("OmegaDesk$Refuter", "freshWays", "[I", true)
  | 3 => ("OmegaDesk$Refuter", "queue", "[I", true)
  | 4 => ("OmegaDesk$Refuter", "queueStart", "I", false)
  | 5 => ("OmegaDesk$Refuter", "queued", "I", false)
  | _ => ("OmegaDesk$Refuter", "meetings", "[I", true)
def tf_R : Nat → FieldType := fun k => match k with
  | 0 => .array .int
  | 1 => .array .int
  | 2 => .array .int
  | 3 => .array .int
  | 4 => .int
  | 5 => .int
  | _ => .array .int
def R_F : String := "OmegaDesk$LassoFinder"
def F_F : u_T := fun k => match k with
  | 0 => ("OmegaDesk$LassoFinder", "innerWords", "LOmegaDesk$WordTable;", true)
  | 1 => ("OmegaDesk$LassoFinder", "outerWords", "LOmegaDesk$WordTable;", true)
  | 2 => ("OmegaDesk$LassoFinder", "found", "Z", false)
  | 3 => ("OmegaDesk$LassoFinder", "headLength", "I", false)
  | 4 => ("OmegaDesk$LassoFinder", "head", "I", false)
  | 5 => ("OmegaDesk$LassoFinder", "tailLength", "I", false)
  | _ => ("OmegaDesk$LassoFinder", "tail", "I", false)
def tf_F : Nat → FieldType := fun k => match k with
  | 0 => .object "OmegaDesk$WordTable"
  | 1 => .object "OmegaDesk$WordTable"
  | 2 => .boolean
  | 3 => .int
  | 4 => .int
  | 5 => .int
  | _ => .int
def R_T : String := "OmegaDesk$WordTable"
def F_T : u_T := fun k => match k with
  | 0 => ("OmegaDesk$WordTable", "passages", "[I", true)
  | _ => ("OmegaDesk$WordTable", "takenRepeated", "[I", true)
def tf_T : Nat → FieldType := fun k => match k with
  | 0 => .array .int
  | _ => .array .int
def R_M : String := "OmegaDeskModel"
def F_M : u_T := fun k => match k with
  | 0 => ("OmegaDeskModel", "thrown", "I", false)
  | 1 => ("OmegaDeskModel", "to", "[I", true)
  | 2 => ("OmegaDeskModel", "good", "[I", true)
  | 3 => ("OmegaDeskModel", "size", "[I", true)
  | 4 => ("OmegaDeskModel", "found", "Z", false)
  | 5 => ("OmegaDeskModel", "witness", "[I", true)
  | 6 => ("OmegaDeskModel", "seen", "[J", true)
  | 7 => ("OmegaDeskModel", "fresh", "[J", true)
  | 8 => ("OmegaDeskModel", "coming", "[J", true)
  | 9 => ("OmegaDeskModel", "digit", "[I", true)
  | 10 => ("OmegaDeskModel", "after", "[I", true)
  | _ => ("OmegaDeskModel", "beginnings", "[I", true)
def tf_M : Nat → FieldType := fun k => match k with
  | 0 => .int
  | 1 => .array .int
  | 2 => .array .int
  | 3 => .array .int
  | 4 => .boolean
  | 5 => .array .int
  | 6 => .array .long
  | 7 => .array .long
  | 8 => .array .long
  | 9 => .array .int
  | 10 => .array .int
  | _ => .array .int
abbrev classes : List vw_C := [(R_A, F_A, 3), (R_D, F_D, 4), (R_R, F_R, 7), (R_F, F_F, 7), (R_T, F_T, 2), (R_M, F_M, 12)]
theorem nf_A : ∀ a, a < 3 → ∀ b, b < 3 → a ≠ b → (F_A a).2.1 ≠ (F_A b).2.1 := by decide +kernel
theorem tf_A_ok : ∀ k, k < 3 → parseFieldDescriptor (F_A k).2.2.1 = some (tf_A k) := by decide +kernel
theorem nf_D : ∀ a, a < 4 → ∀ b, b < 4 → a ≠ b → (F_D a).2.1 ≠ (F_D b).2.1 := by decide +kernel
theorem tf_D_ok : ∀ k, k < 4 → parseFieldDescriptor (F_D k).2.2.1 = some (tf_D k) := by decide +kernel
theorem nf_R : ∀ a, a < 7 → ∀ b, b < 7 → a ≠ b → (F_R a).2.1 ≠ (F_R b).2.1 := by decide +kernel
theorem tf_R_ok : ∀ k, k < 7 → parseFieldDescriptor (F_R k).2.2.1 = some (tf_R k) := by decide +kernel
theorem nf_F : ∀ a, a < 7 → ∀ b, b < 7 → a ≠ b → (F_F a).2.1 ≠ (F_F b).2.1 := by decide +kernel
theorem tf_F_ok : ∀ k, k < 7 → parseFieldDescriptor (F_F k).2.2.1 = some (tf_F k) := by decide +kernel
theorem nf_T : ∀ a, a < 2 → ∀ b, b < 2 → a ≠ b → (F_T a).2.1 ≠ (F_T b).2.1 := by decide +kernel
theorem tf_T_ok : ∀ k, k < 2 → parseFieldDescriptor (F_T k).2.2.1 = some (tf_T k) := by decide +kernel
theorem nf_M : ∀ a, a < 12 → ∀ b, b < 12 → a ≠ b → (F_M a).2.1 ≠ (F_M b).2.1 := by decide +kernel
theorem tf_M_ok : ∀ k, k < 12 → parseFieldDescriptor (F_M k).2.2.1 = some (tf_M k) := by decide +kernel
def WB : List Cond := lw_tbl.filter goodWord
def NW : List Cond := [(Jvm.Cond.methodLinkNest "OmegaDesk" (15 : Nat) ({ cls := "OmegaDesk$Automaton", name := "<init>", desc := "()V" } : Jvm.MethodName) "OmegaDesk"), (Jvm.Cond.fieldLinkNest "OmegaDesk" (38 : Nat) "OmegaDesk$Automaton" "size" "I" "OmegaDesk"), (Jvm.Cond.fieldLinkNest "OmegaDesk$WordTable" (18 : Nat) "OmegaDesk$Automaton" "size" "I" "OmegaDesk"), (Jvm.Cond.fieldLinkNest "OmegaDesk$Refuter" (75 : Nat) "OmegaDesk$Automaton" "size" "I" "OmegaDesk"), (Jvm.Cond.fieldLinkNest "OmegaDesk$Refuter" (40 : Nat) "OmegaDesk$Automaton" "goodStates" "I" "OmegaDesk"), (Jvm.Cond.methodLinkNest "OmegaDesk" (22 : Nat) ({ cls := "OmegaDesk$Refuter", name := "<init>", desc := "()V" } : Jvm.MethodName) "OmegaDesk"), (Jvm.Cond.methodLinkNest "OmegaDesk" (29 : Nat) ({ cls := "OmegaDesk$LassoFinder", name := "<init>", desc := "()V" } : Jvm.MethodName) "OmegaDesk"), (Jvm.Cond.methodLinkNest "OmegaDesk$LassoFinder" (11 : Nat) ({ cls := "OmegaDesk$WordTable", name := "<init>", desc := "()V" } : Jvm.MethodName) "OmegaDesk"), (Jvm.Cond.fieldLinkNest "OmegaDesk" (126 : Nat) "OmegaDesk$LassoFinder" "found" "Z" "OmegaDesk"), (Jvm.Cond.fieldLinkNest "OmegaDesk" (135 : Nat) "OmegaDesk$LassoFinder" "headLength" "I" "OmegaDesk"), (Jvm.Cond.fieldLinkNest "OmegaDesk" (138 : Nat) "OmegaDesk$LassoFinder" "head" "I" "OmegaDesk"), (Jvm.Cond.fieldLinkNest "OmegaDesk" (141 : Nat) "OmegaDesk$LassoFinder" "tailLength" "I" "OmegaDesk"), (Jvm.Cond.fieldLinkNest "OmegaDesk" (144 : Nat) "OmegaDesk$LassoFinder" "tail" "I" "OmegaDesk")]
theorem nw_28 : (Jvm.Cond.methodLinkNest "OmegaDesk" (15 : Nat) ({ cls := "OmegaDesk$Automaton", name := "<init>", desc := "()V" } : Jvm.MethodName) "OmegaDesk") ∈ NW := List.mem_of_getElem? (i := 0) rfl
theorem nw_33 : (Jvm.Cond.fieldLinkNest "OmegaDesk" (38 : Nat) "OmegaDesk$Automaton" "size" "I" "OmegaDesk") ∈ NW := List.mem_of_getElem? (i := 1) rfl
theorem nw_34 : (Jvm.Cond.fieldLinkNest "OmegaDesk$WordTable" (18 : Nat) "OmegaDesk$Automaton" "size" "I" "OmegaDesk") ∈ NW := List.mem_of_getElem? (i := 2) rfl
theorem nw_35 : (Jvm.Cond.fieldLinkNest "OmegaDesk$Refuter" (75 : Nat) "OmegaDesk$Automaton" "size" "I" "OmegaDesk") ∈ NW := List.mem_of_getElem? (i := 3) rfl
theorem nw_37 : (Jvm.Cond.fieldLinkNest "OmegaDesk$Refuter" (40 : Nat) "OmegaDesk$Automaton" "goodStates" "I" "OmegaDesk") ∈ NW := List.mem_of_getElem? (i := 4) rfl
theorem nw_49 : (Jvm.Cond.methodLinkNest "OmegaDesk" (22 : Nat) ({ cls := "OmegaDesk$Refuter", name := "<init>", desc := "()V" } : Jvm.MethodName) "OmegaDesk") ∈ NW := List.mem_of_getElem? (i := 5) rfl
theorem nw_77 : (Jvm.Cond.methodLinkNest "OmegaDesk" (29 : Nat) ({ cls := "OmegaDesk$LassoFinder", name := "<init>", desc := "()V" } : Jvm.MethodName) "OmegaDesk") ∈ NW := List.mem_of_getElem? (i := 6) rfl
theorem nw_83 : (Jvm.Cond.methodLinkNest "OmegaDesk$LassoFinder" (11 : Nat) ({ cls := "OmegaDesk$WordTable", name := "<init>", desc := "()V" } : Jvm.MethodName) "OmegaDesk") ∈ NW := List.mem_of_getElem? (i := 7) rfl
theorem nw_97 : (Jvm.Cond.fieldLinkNest "OmegaDesk" (126 : Nat) "OmegaDesk$LassoFinder" "found" "Z" "OmegaDesk") ∈ NW := List.mem_of_getElem? (i := 8) rfl
theorem nw_99 : (Jvm.Cond.fieldLinkNest "OmegaDesk" (135 : Nat) "OmegaDesk$LassoFinder" "headLength" "I" "OmegaDesk") ∈ NW := List.mem_of_getElem? (i := 9) rfl
theorem nw_101 : (Jvm.Cond.fieldLinkNest "OmegaDesk" (138 : Nat) "OmegaDesk$LassoFinder" "head" "I" "OmegaDesk") ∈ NW := List.mem_of_getElem? (i := 10) rfl
theorem nw_103 : (Jvm.Cond.fieldLinkNest "OmegaDesk" (141 : Nat) "OmegaDesk$LassoFinder" "tailLength" "I" "OmegaDesk") ∈ NW := List.mem_of_getElem? (i := 11) rfl
theorem nw_105 : (Jvm.Cond.fieldLinkNest "OmegaDesk" (144 : Nat) "OmegaDesk$LassoFinder" "tail" "I" "OmegaDesk") ∈ NW := List.mem_of_getElem? (i := 12) rfl
end
section
theorem wb_1 : (Jvm.Cond.initialized "OmegaDesk") ∈ WB := List.mem_filter.mpr ⟨List.mem_append_right _ (List.mem_of_getElem? (i := 1) rfl), rfl⟩
theorem wb_2 : (Jvm.Cond.initialized "OmegaDesk$Automaton") ∈ WB := List.mem_filter.mpr ⟨List.mem_append_right _ (List.mem_of_getElem? (i := 2) rfl), rfl⟩
theorem wb_3 : (Jvm.Cond.initialized "OmegaDesk$Refuter") ∈ WB := List.mem_filter.mpr ⟨List.mem_append_right _ (List.mem_of_getElem? (i := 3) rfl), rfl⟩
theorem wb_4 : (Jvm.Cond.initialized "OmegaDesk$LassoFinder") ∈ WB := List.mem_filter.mpr ⟨List.mem_append_right _ (List.mem_of_getElem? (i := 4) rfl), rfl⟩
theorem wb_5 : (Jvm.Cond.initialized "OmegaDesk$WordTable") ∈ WB := List.mem_filter.mpr ⟨List.mem_append_right _ (List.mem_of_getElem? (i := 5) rfl), rfl⟩
theorem wb_6 : (Jvm.Cond.initialized "OmegaDeskModel") ∈ WB := List.mem_filter.mpr ⟨List.mem_append_right _ (List.mem_of_getElem? (i := 6) rfl), rfl⟩
theorem wb_12 : (Jvm.Cond.initialized "java/util/Arrays") ∈ WB := List.mem_filter.mpr ⟨List.mem_append_right _ (List.mem_of_getElem? (i := 12) rfl), rfl⟩
theorem wb_13 : (Jvm.Cond.initialized "java/lang/System") ∈ WB := List.mem_filter.mpr ⟨List.mem_append_right _ (List.mem_of_getElem? (i := 13) rfl), rfl⟩
theorem wb_14 : (Jvm.Cond.initialized "OmegaDesk$Passage") ∈ WB := List.mem_filter.mpr ⟨List.mem_append_right _ (List.mem_of_getElem? (i := 14) rfl), rfl⟩
theorem wb_15 : (Jvm.Cond.initialized "java/lang/Integer") ∈ WB := List.mem_filter.mpr ⟨List.mem_append_right _ (List.mem_of_getElem? (i := 15) rfl), rfl⟩
theorem wb_32 : (Jvm.Cond.fieldLink "OmegaDesk$Automaton" (9 : Nat) "OmegaDesk$Automaton" "size" "I") ∈ WB := List.mem_filter.mpr ⟨List.mem_append_right _ (List.mem_of_getElem? (i := 32) rfl), rfl⟩
theorem wb_36 : (Jvm.Cond.fieldLink "OmegaDesk$Automaton" (15 : Nat) "OmegaDesk$Automaton" "goodStates" "I") ∈ WB := List.mem_filter.mpr ⟨List.mem_append_right _ (List.mem_of_getElem? (i := 36) rfl), rfl⟩
theorem wb_38 : (Jvm.Cond.fieldLink "OmegaDesk$Automaton" (18 : Nat) "OmegaDesk$Automaton" "followers" "[I") ∈ WB := List.mem_filter.mpr ⟨List.mem_append_right _ (List.mem_of_getElem? (i := 38) rfl), rfl⟩
theorem wb_53 : (Jvm.Cond.fieldLink "OmegaDesk$Refuter" (11 : Nat) "OmegaDesk$Refuter" "keys" "[I") ∈ WB := List.mem_filter.mpr ⟨List.mem_append_right _ (List.mem_of_getElem? (i := 53) rfl), rfl⟩
theorem wb_54 : (Jvm.Cond.fieldLink "OmegaDesk$Refuter" (15 : Nat) "OmegaDesk$Refuter" "seenWays" "[I") ∈ WB := List.mem_filter.mpr ⟨List.mem_append_right _ (List.mem_of_getElem? (i := 54) rfl), rfl⟩
theorem wb_55 : (Jvm.Cond.fieldLink "OmegaDesk$Refuter" (18 : Nat) "OmegaDesk$Refuter" "freshWays" "[I") ∈ WB := List.mem_filter.mpr ⟨List.mem_append_right _ (List.mem_of_getElem? (i := 55) rfl), rfl⟩
theorem wb_56 : (Jvm.Cond.fieldLink "OmegaDesk$Refuter" (21 : Nat) "OmegaDesk$Refuter" "queue" "[I") ∈ WB := List.mem_filter.mpr ⟨List.mem_append_right _ (List.mem_of_getElem? (i := 56) rfl), rfl⟩
theorem wb_57 : (Jvm.Cond.fieldLink "OmegaDesk$Refuter" (24 : Nat) "OmegaDesk$Refuter" "queueStart" "I") ∈ WB := List.mem_filter.mpr ⟨List.mem_append_right _ (List.mem_of_getElem? (i := 57) rfl), rfl⟩
theorem wb_58 : (Jvm.Cond.fieldLink "OmegaDesk$Refuter" (28 : Nat) "OmegaDesk$Refuter" "queued" "I") ∈ WB := List.mem_filter.mpr ⟨List.mem_append_right _ (List.mem_of_getElem? (i := 58) rfl), rfl⟩
theorem wb_59 : (Jvm.Cond.fieldLink "OmegaDesk$Refuter" (31 : Nat) "OmegaDesk$Refuter" "meetings" "[I") ∈ WB := List.mem_filter.mpr ⟨List.mem_append_right _ (List.mem_of_getElem? (i := 59) rfl), rfl⟩
theorem wb_87 : (Jvm.Cond.fieldLink "OmegaDesk$WordTable" (11 : Nat) "OmegaDesk$WordTable" "passages" "[I") ∈ WB := List.mem_filter.mpr ⟨List.mem_append_right _ (List.mem_of_getElem? (i := 87) rfl), rfl⟩
theorem wb_88 : (Jvm.Cond.fieldLink "OmegaDesk$WordTable" (15 : Nat) "OmegaDesk$WordTable" "takenRepeated" "[I") ∈ WB := List.mem_filter.mpr ⟨List.mem_append_right _ (List.mem_of_getElem? (i := 88) rfl), rfl⟩
theorem wb_94 : (Jvm.Cond.fieldLink "OmegaDesk$LassoFinder" (12 : Nat) "OmegaDesk$LassoFinder" "innerWords" "LOmegaDesk$WordTable;") ∈ WB := List.mem_filter.mpr ⟨List.mem_append_right _ (List.mem_of_getElem? (i := 94) rfl), rfl⟩
theorem wb_95 : (Jvm.Cond.fieldLink "OmegaDesk$LassoFinder" (18 : Nat) "OmegaDesk$LassoFinder" "outerWords" "LOmegaDesk$WordTable;") ∈ WB := List.mem_filter.mpr ⟨List.mem_append_right _ (List.mem_of_getElem? (i := 95) rfl), rfl⟩
theorem wb_96 : (Jvm.Cond.fieldLink "OmegaDesk$LassoFinder" (21 : Nat) "OmegaDesk$LassoFinder" "found" "Z") ∈ WB := List.mem_filter.mpr ⟨List.mem_append_right _ (List.mem_of_getElem? (i := 96) rfl), rfl⟩
theorem wb_98 : (Jvm.Cond.fieldLink "OmegaDesk$LassoFinder" (25 : Nat) "OmegaDesk$LassoFinder" "headLength" "I") ∈ WB := List.mem_filter.mpr ⟨List.mem_append_right _ (List.mem_of_getElem? (i := 98) rfl), rfl⟩
theorem wb_100 : (Jvm.Cond.fieldLink "OmegaDesk$LassoFinder" (29 : Nat) "OmegaDesk$LassoFinder" "head" "I") ∈ WB := List.mem_filter.mpr ⟨List.mem_append_right _ (List.mem_of_getElem? (i := 100) rfl), rfl⟩
theorem wb_102 : (Jvm.Cond.fieldLink "OmegaDesk$LassoFinder" (32 : Nat) "OmegaDesk$LassoFinder" "tailLength" "I") ∈ WB := List.mem_filter.mpr ⟨List.mem_append_right _ (List.mem_of_getElem? (i := 102) rfl), rfl⟩
theorem wb_104 : (Jvm.Cond.fieldLink "OmegaDesk$LassoFinder" (35 : Nat) "OmegaDesk$LassoFinder" "tail" "I") ∈ WB := List.mem_filter.mpr ⟨List.mem_append_right _ (List.mem_of_getElem? (i := 104) rfl), rfl⟩
theorem wb_232 : (Jvm.Cond.instanceMethod ({ cls := "OmegaDesk$Automaton", name := "addState", desc := "(Z)I" } : Jvm.MethodName)) ∈ WB := List.mem_filter.mpr ⟨List.mem_append_right _ (List.mem_of_getElem? (i := 232) rfl), rfl⟩
theorem wb_233 : (Jvm.Cond.selects "OmegaDesk$Automaton" ({ cls := "OmegaDesk$Automaton", name := "addState", desc := "(Z)I" } : Jvm.MethodName) ({ cls := "OmegaDesk$Automaton", name := "addState", desc := "(Z)I" } : Jvm.MethodName)) ∈ WB := List.mem_filter.mpr ⟨List.mem_append_right _ (List.mem_of_getElem? (i := 233) rfl), rfl⟩
theorem wb_234 : (Jvm.Cond.code ({ cls := "OmegaDesk$Automaton", name := "addState", desc := "(Z)I" } : Jvm.MethodName) prog_2_method_7_code (3 : Nat) (Option.some Jvm.ClassFile.FieldType.int)) ∈ WB := List.mem_filter.mpr ⟨List.mem_append_right _ (List.mem_of_getElem? (i := 234) rfl), rfl⟩
theorem wb_249 : (Jvm.Cond.code ({ cls := "OmegaDesk$Automaton", name := "hasState", desc := "(I)Z" } : Jvm.MethodName) prog_2_method_2_code (2 : Nat) (Option.some Jvm.ClassFile.FieldType.boolean)) ∈ WB := List.mem_filter.mpr ⟨List.mem_append_right _ (List.mem_of_getElem? (i := 249) rfl), rfl⟩
theorem wb_255 : (Jvm.Cond.code ({ cls := "OmegaDesk$Automaton", name := "joins", desc := "(III)Z" } : Jvm.MethodName) prog_2_method_4_code (4 : Nat) (Option.some Jvm.ClassFile.FieldType.boolean)) ∈ WB := List.mem_filter.mpr ⟨List.mem_append_right _ (List.mem_of_getElem? (i := 255) rfl), rfl⟩
theorem wb_256 : (Jvm.Cond.methodLink "OmegaDesk$Automaton" (22 : Nat) ({ cls := "OmegaDesk$Automaton", name := "followersOf", desc := "(II)I" } : Jvm.MethodName)) ∈ WB := List.mem_filter.mpr ⟨List.mem_append_right _ (List.mem_of_getElem? (i := 256) rfl), rfl⟩
theorem wb_257 : (Jvm.Cond.instanceMethod ({ cls := "OmegaDesk$Automaton", name := "followersOf", desc := "(II)I" } : Jvm.MethodName)) ∈ WB := List.mem_filter.mpr ⟨List.mem_append_right _ (List.mem_of_getElem? (i := 257) rfl), rfl⟩
theorem wb_258 : (Jvm.Cond.selects "OmegaDesk$Automaton" ({ cls := "OmegaDesk$Automaton", name := "followersOf", desc := "(II)I" } : Jvm.MethodName) ({ cls := "OmegaDesk$Automaton", name := "followersOf", desc := "(II)I" } : Jvm.MethodName)) ∈ WB := List.mem_filter.mpr ⟨List.mem_append_right _ (List.mem_of_getElem? (i := 258) rfl), rfl⟩
theorem wb_259 : (Jvm.Cond.code ({ cls := "OmegaDesk$Automaton", name := "followersOf", desc := "(II)I" } : Jvm.MethodName) prog_2_method_5_code (3 : Nat) (Option.some Jvm.ClassFile.FieldType.int)) ∈ WB := List.mem_filter.mpr ⟨List.mem_append_right _ (List.mem_of_getElem? (i := 259) rfl), rfl⟩
theorem wb_261 : (Jvm.Cond.instanceMethod ({ cls := "OmegaDesk$Automaton", name := "join", desc := "(III)V" } : Jvm.MethodName)) ∈ WB := List.mem_filter.mpr ⟨List.mem_append_right _ (List.mem_of_getElem? (i := 261) rfl), rfl⟩
theorem wb_262 : (Jvm.Cond.selects "OmegaDesk$Automaton" ({ cls := "OmegaDesk$Automaton", name := "join", desc := "(III)V" } : Jvm.MethodName) ({ cls := "OmegaDesk$Automaton", name := "join", desc := "(III)V" } : Jvm.MethodName)) ∈ WB := List.mem_filter.mpr ⟨List.mem_append_right _ (List.mem_of_getElem? (i := 262) rfl), rfl⟩
theorem wb_263 : (Jvm.Cond.code ({ cls := "OmegaDesk$Automaton", name := "join", desc := "(III)V" } : Jvm.MethodName) prog_2_method_8_code (5 : Nat) (Option.none : Option Jvm.ClassFile.FieldType)) ∈ WB := List.mem_filter.mpr ⟨List.mem_append_right _ (List.mem_of_getElem? (i := 263) rfl), rfl⟩
theorem wb_272 : (Jvm.Cond.instanceMethod ({ cls := "OmegaDesk$Automaton", name := "wipe", desc := "()V" } : Jvm.MethodName)) ∈ WB := List.mem_filter.mpr ⟨List.mem_append_right _ (List.mem_of_getElem? (i := 272) rfl), rfl⟩
theorem wb_273 : (Jvm.Cond.selects "OmegaDesk$Automaton" ({ cls := "OmegaDesk$Automaton", name := "wipe", desc := "()V" } : Jvm.MethodName) ({ cls := "OmegaDesk$Automaton", name := "wipe", desc := "()V" } : Jvm.MethodName)) ∈ WB := List.mem_filter.mpr ⟨List.mem_append_right _ (List.mem_of_getElem? (i := 273) rfl), rfl⟩
theorem wb_274 : (Jvm.Cond.code ({ cls := "OmegaDesk$Automaton", name := "wipe", desc := "()V" } : Jvm.MethodName) prog_2_method_6_code (1 : Nat) (Option.none : Option Jvm.ClassFile.FieldType)) ∈ WB := List.mem_filter.mpr ⟨List.mem_append_right _ (List.mem_of_getElem? (i := 274) rfl), rfl⟩
theorem wb_275 : (Jvm.Cond.methodLink "OmegaDesk$Automaton" (26 : Nat) ({ cls := "java/util/Arrays", name := "fill", desc := "([II)V" } : Jvm.MethodName)) ∈ WB := List.mem_filter.mpr ⟨List.mem_append_right _ (List.mem_of_getElem? (i := 275) rfl), rfl⟩
theorem wb_276 : (Jvm.Cond.static ({ cls := "java/util/Arrays", name := "fill", desc := "([II)V" } : Jvm.MethodName)) ∈ WB := List.mem_filter.mpr ⟨List.mem_append_right _ (List.mem_of_getElem? (i := 276) rfl), rfl⟩
theorem wb_277 : (Jvm.Cond.code ({ cls := "java/util/Arrays", name := "fill", desc := "([II)V" } : Jvm.MethodName) prog_17_method_103_code (4 : Nat) (Option.none : Option Jvm.ClassFile.FieldType)) ∈ WB := List.mem_filter.mpr ⟨List.mem_append_right _ (List.mem_of_getElem? (i := 277) rfl), rfl⟩
theorem wb_290 : (Jvm.Cond.code ({ cls := "OmegaDesk$Automaton", name := "append", desc := "(LOmegaDesk$Automaton;)V" } : Jvm.MethodName) prog_2_method_10_code (6 : Nat) (Option.none : Option Jvm.ClassFile.FieldType)) ∈ WB := List.mem_filter.mpr ⟨List.mem_append_right _ (List.mem_of_getElem? (i := 290) rfl), rfl⟩
theorem wb_291 : (Jvm.Cond.methodLink "OmegaDesk$Automaton" (38 : Nat) ({ cls := "OmegaDesk$Automaton", name := "isGood", desc := "(I)Z" } : Jvm.MethodName)) ∈ WB := List.mem_filter.mpr ⟨List.mem_append_right _ (List.mem_of_getElem? (i := 291) rfl), rfl⟩
theorem wb_292 : (Jvm.Cond.instanceMethod ({ cls := "OmegaDesk$Automaton", name := "isGood", desc := "(I)Z" } : Jvm.MethodName)) ∈ WB := List.mem_filter.mpr ⟨List.mem_append_right _ (List.mem_of_getElem? (i := 292) rfl), rfl⟩
theorem wb_293 : (Jvm.Cond.selects "OmegaDesk$Automaton" ({ cls := "OmegaDesk$Automaton", name := "isGood", desc := "(I)Z" } : Jvm.MethodName) ({ cls := "OmegaDesk$Automaton", name := "isGood", desc := "(I)Z" } : Jvm.MethodName)) ∈ WB := List.mem_filter.mpr ⟨List.mem_append_right _ (List.mem_of_getElem? (i := 293) rfl), rfl⟩
theorem wb_294 : (Jvm.Cond.code ({ cls := "OmegaDesk$Automaton", name := "isGood", desc := "(I)Z" } : Jvm.MethodName) prog_2_method_3_code (2 : Nat) (Option.some Jvm.ClassFile.FieldType.boolean)) ∈ WB := List.mem_filter.mpr ⟨List.mem_append_right _ (List.mem_of_getElem? (i := 294) rfl), rfl⟩
theorem wb_295 : (Jvm.Cond.methodLink "OmegaDesk$Automaton" (42 : Nat) ({ cls := "OmegaDesk$Automaton", name := "addState", desc := "(Z)I" } : Jvm.MethodName)) ∈ WB := List.mem_filter.mpr ⟨List.mem_append_right _ (List.mem_of_getElem? (i := 295) rfl), rfl⟩
theorem wb_296 : (Jvm.Cond.methodLink "OmegaDesk$Automaton" (46 : Nat) ({ cls := "OmegaDesk$Automaton", name := "joinAll", desc := "(III)V" } : Jvm.MethodName)) ∈ WB := List.mem_filter.mpr ⟨List.mem_append_right _ (List.mem_of_getElem? (i := 296) rfl), rfl⟩
theorem wb_298 : (Jvm.Cond.instanceMethod ({ cls := "OmegaDesk$Automaton", name := "joinAll", desc := "(III)V" } : Jvm.MethodName)) ∈ WB := List.mem_filter.mpr ⟨List.mem_append_right _ (List.mem_of_getElem? (i := 298) rfl), rfl⟩
theorem wb_299 : (Jvm.Cond.code ({ cls := "OmegaDesk$Automaton", name := "joinAll", desc := "(III)V" } : Jvm.MethodName) prog_2_method_11_code (5 : Nat) (Option.none : Option Jvm.ClassFile.FieldType)) ∈ WB := List.mem_filter.mpr ⟨List.mem_append_right _ (List.mem_of_getElem? (i := 299) rfl), rfl⟩
theorem wb_300 : (Jvm.Cond.methodLink "OmegaDesk$Automaton" (50 : Nat) ({ cls := "OmegaDesk$Automaton", name := "join", desc := "(III)V" } : Jvm.MethodName)) ∈ WB := List.mem_filter.mpr ⟨List.mem_append_right _ (List.mem_of_getElem? (i := 300) rfl), rfl⟩
set_option maxRecDepth 20000 in
theorem wb_311 : (Jvm.Cond.code ({ cls := "OmegaDesk$Automaton", name := "copy", desc := "(LOmegaDesk$Automaton;)V" } : Jvm.MethodName) prog_2_method_9_code (2 : Nat) (Option.none : Option Jvm.ClassFile.FieldType)) ∈ WB := List.mem_filter.mpr ⟨List.mem_append_right _ (List.mem_of_getElem? (i := 311) rfl), rfl⟩
set_option maxRecDepth 20000 in
theorem wb_312 : (Jvm.Cond.methodLink "OmegaDesk$Automaton" (32 : Nat) ({ cls := "java/lang/System", name := "arraycopy", desc := "(Ljava/lang/Object;ILjava/lang/Object;II)V" } : Jvm.MethodName)) ∈ WB := List.mem_filter.mpr ⟨List.mem_append_right _ (List.mem_of_getElem? (i := 312) rfl), rfl⟩
set_option maxRecDepth 20000 in
theorem wb_313 : (Jvm.Cond.static ({ cls := "java/lang/System", name := "arraycopy", desc := "(Ljava/lang/Object;ILjava/lang/Object;II)V" } : Jvm.MethodName)) ∈ WB := List.mem_filter.mpr ⟨List.mem_append_right _ (List.mem_of_getElem? (i := 313) rfl), rfl⟩
set_option maxRecDepth 20000 in
theorem wb_314 : (Jvm.Cond.native ({ cls := "java/lang/System", name := "arraycopy", desc := "(Ljava/lang/Object;ILjava/lang/Object;II)V" } : Jvm.MethodName)) ∈ WB := List.mem_filter.mpr ⟨List.mem_append_right _ (List.mem_of_getElem? (i := 314) rfl), rfl⟩
set_option maxRecDepth 20000 in
theorem wb_316 : (Jvm.Cond.instanceMethod ({ cls := "OmegaDesk$Automaton", name := "usefulStates", desc := "()I" } : Jvm.MethodName)) ∈ WB := List.mem_filter.mpr ⟨List.mem_append_right _ (List.mem_of_getElem? (i := 316) rfl), rfl⟩
set_option maxRecDepth 20000 in
theorem wb_317 : (Jvm.Cond.selects "OmegaDesk$Automaton" ({ cls := "OmegaDesk$Automaton", name := "usefulStates", desc := "()I" } : Jvm.MethodName) ({ cls := "OmegaDesk$Automaton", name := "usefulStates", desc := "()I" } : Jvm.MethodName)) ∈ WB := List.mem_filter.mpr ⟨List.mem_append_right _ (List.mem_of_getElem? (i := 317) rfl), rfl⟩
set_option maxRecDepth 20000 in
theorem wb_318 : (Jvm.Cond.code ({ cls := "OmegaDesk$Automaton", name := "usefulStates", desc := "()I" } : Jvm.MethodName) prog_2_method_15_code (4 : Nat) (Option.some Jvm.ClassFile.FieldType.int)) ∈ WB := List.mem_filter.mpr ⟨List.mem_append_right _ (List.mem_of_getElem? (i := 318) rfl), rfl⟩
set_option maxRecDepth 20000 in
theorem wb_319 : (Jvm.Cond.methodLink "OmegaDesk$Automaton" (68 : Nat) ({ cls := "OmegaDesk$Automaton", name := "emptyPassage", desc := "(I)I" } : Jvm.MethodName)) ∈ WB := List.mem_filter.mpr ⟨List.mem_append_right _ (List.mem_of_getElem? (i := 319) rfl), rfl⟩
set_option maxRecDepth 20000 in
theorem wb_320 : (Jvm.Cond.instanceMethod ({ cls := "OmegaDesk$Automaton", name := "emptyPassage", desc := "(I)I" } : Jvm.MethodName)) ∈ WB := List.mem_filter.mpr ⟨List.mem_append_right _ (List.mem_of_getElem? (i := 320) rfl), rfl⟩
set_option maxRecDepth 20000 in
theorem wb_321 : (Jvm.Cond.selects "OmegaDesk$Automaton" ({ cls := "OmegaDesk$Automaton", name := "emptyPassage", desc := "(I)I" } : Jvm.MethodName) ({ cls := "OmegaDesk$Automaton", name := "emptyPassage", desc := "(I)I" } : Jvm.MethodName)) ∈ WB := List.mem_filter.mpr ⟨List.mem_append_right _ (List.mem_of_getElem? (i := 321) rfl), rfl⟩
set_option maxRecDepth 20000 in
theorem wb_322 : (Jvm.Cond.code ({ cls := "OmegaDesk$Automaton", name := "emptyPassage", desc := "(I)I" } : Jvm.MethodName) prog_2_method_16_code (4 : Nat) (Option.some Jvm.ClassFile.FieldType.int)) ∈ WB := List.mem_filter.mpr ⟨List.mem_append_right _ (List.mem_of_getElem? (i := 322) rfl), rfl⟩
set_option maxRecDepth 20000 in
theorem wb_323 : (Jvm.Cond.methodLink "OmegaDesk$Automaton" (71 : Nat) ({ cls := "OmegaDesk$Automaton", name := "longerPassage", desc := "(II)I" } : Jvm.MethodName)) ∈ WB := List.mem_filter.mpr ⟨List.mem_append_right _ (List.mem_of_getElem? (i := 323) rfl), rfl⟩
set_option maxRecDepth 20000 in
theorem wb_324 : (Jvm.Cond.instanceMethod ({ cls := "OmegaDesk$Automaton", name := "longerPassage", desc := "(II)I" } : Jvm.MethodName)) ∈ WB := List.mem_filter.mpr ⟨List.mem_append_right _ (List.mem_of_getElem? (i := 324) rfl), rfl⟩
set_option maxRecDepth 20000 in
theorem wb_325 : (Jvm.Cond.selects "OmegaDesk$Automaton" ({ cls := "OmegaDesk$Automaton", name := "longerPassage", desc := "(II)I" } : Jvm.MethodName) ({ cls := "OmegaDesk$Automaton", name := "longerPassage", desc := "(II)I" } : Jvm.MethodName)) ∈ WB := List.mem_filter.mpr ⟨List.mem_append_right _ (List.mem_of_getElem? (i := 325) rfl), rfl⟩
set_option maxRecDepth 20000 in
theorem wb_326 : (Jvm.Cond.code ({ cls := "OmegaDesk$Automaton", name := "longerPassage", desc := "(II)I" } : Jvm.MethodName) prog_2_method_17_code (7 : Nat) (Option.some Jvm.ClassFile.FieldType.int)) ∈ WB := List.mem_filter.mpr ⟨List.mem_append_right _ (List.mem_of_getElem? (i := 326) rfl), rfl⟩
set_option maxRecDepth 20000 in
theorem wb_327 : (Jvm.Cond.methodLink "OmegaDesk$Automaton" (85 : Nat) ({ cls := "OmegaDesk$Passage", name := "ends", desc := "(II)I" } : Jvm.MethodName)) ∈ WB := List.mem_filter.mpr ⟨List.mem_append_right _ (List.mem_of_getElem? (i := 327) rfl), rfl⟩
set_option maxRecDepth 20000 in
theorem wb_328 : (Jvm.Cond.static ({ cls := "OmegaDesk$Passage", name := "ends", desc := "(II)I" } : Jvm.MethodName)) ∈ WB := List.mem_filter.mpr ⟨List.mem_append_right _ (List.mem_of_getElem? (i := 328) rfl), rfl⟩
set_option maxRecDepth 20000 in
theorem wb_329 : (Jvm.Cond.code ({ cls := "OmegaDesk$Passage", name := "ends", desc := "(II)I" } : Jvm.MethodName) prog_4_method_2_code (2 : Nat) (Option.some Jvm.ClassFile.FieldType.int)) ∈ WB := List.mem_filter.mpr ⟨List.mem_append_right _ (List.mem_of_getElem? (i := 329) rfl), rfl⟩
set_option maxRecDepth 20000 in
theorem wb_330 : (Jvm.Cond.methodLink "OmegaDesk$Automaton" (88 : Nat) ({ cls := "OmegaDesk$Passage", name := "goodEnds", desc := "(II)I" } : Jvm.MethodName)) ∈ WB := List.mem_filter.mpr ⟨List.mem_append_right _ (List.mem_of_getElem? (i := 330) rfl), rfl⟩
set_option maxRecDepth 20000 in
theorem wb_331 : (Jvm.Cond.static ({ cls := "OmegaDesk$Passage", name := "goodEnds", desc := "(II)I" } : Jvm.MethodName)) ∈ WB := List.mem_filter.mpr ⟨List.mem_append_right _ (List.mem_of_getElem? (i := 331) rfl), rfl⟩
set_option maxRecDepth 20000 in
theorem wb_332 : (Jvm.Cond.code ({ cls := "OmegaDesk$Passage", name := "goodEnds", desc := "(II)I" } : Jvm.MethodName) prog_4_method_3_code (2 : Nat) (Option.some Jvm.ClassFile.FieldType.int)) ∈ WB := List.mem_filter.mpr ⟨List.mem_append_right _ (List.mem_of_getElem? (i := 332) rfl), rfl⟩
set_option maxRecDepth 20000 in
theorem wb_333 : (Jvm.Cond.methodLink "OmegaDesk$Automaton" (74 : Nat) ({ cls := "OmegaDesk$Passage", name := "chained", desc := "(I)I" } : Jvm.MethodName)) ∈ WB := List.mem_filter.mpr ⟨List.mem_append_right _ (List.mem_of_getElem? (i := 333) rfl), rfl⟩
set_option maxRecDepth 20000 in
theorem wb_334 : (Jvm.Cond.static ({ cls := "OmegaDesk$Passage", name := "chained", desc := "(I)I" } : Jvm.MethodName)) ∈ WB := List.mem_filter.mpr ⟨List.mem_append_right _ (List.mem_of_getElem? (i := 334) rfl), rfl⟩
set_option maxRecDepth 20000 in
theorem wb_335 : (Jvm.Cond.code ({ cls := "OmegaDesk$Passage", name := "chained", desc := "(I)I" } : Jvm.MethodName) prog_4_method_5_code (4 : Nat) (Option.some Jvm.ClassFile.FieldType.int)) ∈ WB := List.mem_filter.mpr ⟨List.mem_append_right _ (List.mem_of_getElem? (i := 335) rfl), rfl⟩
set_option maxRecDepth 20000 in
theorem wb_336 : (Jvm.Cond.methodLink "OmegaDesk$Passage" (11 : Nat) ({ cls := "OmegaDesk$Passage", name := "ends", desc := "(II)I" } : Jvm.MethodName)) ∈ WB := List.mem_filter.mpr ⟨List.mem_append_right _ (List.mem_of_getElem? (i := 336) rfl), rfl⟩
set_option maxRecDepth 20000 in
theorem wb_337 : (Jvm.Cond.methodLink "OmegaDesk$Automaton" (79 : Nat) ({ cls := "OmegaDesk$Passage", name := "fromStart", desc := "(I)I" } : Jvm.MethodName)) ∈ WB := List.mem_filter.mpr ⟨List.mem_append_right _ (List.mem_of_getElem? (i := 337) rfl), rfl⟩
set_option maxRecDepth 20000 in
theorem wb_338 : (Jvm.Cond.static ({ cls := "OmegaDesk$Passage", name := "fromStart", desc := "(I)I" } : Jvm.MethodName)) ∈ WB := List.mem_filter.mpr ⟨List.mem_append_right _ (List.mem_of_getElem? (i := 338) rfl), rfl⟩
set_option maxRecDepth 20000 in
theorem wb_339 : (Jvm.Cond.code ({ cls := "OmegaDesk$Passage", name := "fromStart", desc := "(I)I" } : Jvm.MethodName) prog_4_method_4_code (1 : Nat) (Option.some Jvm.ClassFile.FieldType.int)) ∈ WB := List.mem_filter.mpr ⟨List.mem_append_right _ (List.mem_of_getElem? (i := 339) rfl), rfl⟩
set_option maxRecDepth 20000 in
theorem wb_340 : (Jvm.Cond.methodLink "OmegaDesk$Automaton" (82 : Nat) ({ cls := "OmegaDesk$Passage", name := "takenRepeated", desc := "(I)I" } : Jvm.MethodName)) ∈ WB := List.mem_filter.mpr ⟨List.mem_append_right _ (List.mem_of_getElem? (i := 340) rfl), rfl⟩
set_option maxRecDepth 20000 in
theorem wb_341 : (Jvm.Cond.static ({ cls := "OmegaDesk$Passage", name := "takenRepeated", desc := "(I)I" } : Jvm.MethodName)) ∈ WB := List.mem_filter.mpr ⟨List.mem_append_right _ (List.mem_of_getElem? (i := 341) rfl), rfl⟩
set_option maxRecDepth 20000 in
theorem wb_342 : (Jvm.Cond.code ({ cls := "OmegaDesk$Passage", name := "takenRepeated", desc := "(I)I" } : Jvm.MethodName) prog_4_method_6_code (5 : Nat) (Option.some Jvm.ClassFile.FieldType.int)) ∈ WB := List.mem_filter.mpr ⟨List.mem_append_right _ (List.mem_of_getElem? (i := 342) rfl), rfl⟩
set_option maxRecDepth 20000 in
theorem wb_343 : (Jvm.Cond.constant "OmegaDesk$Passage" (15 : Nat) (-252645136 : Int32)) ∈ WB := List.mem_filter.mpr ⟨List.mem_append_right _ (List.mem_of_getElem? (i := 343) rfl), rfl⟩
set_option maxRecDepth 20000 in
theorem wb_344 : (Jvm.Cond.methodLink "OmegaDesk$Passage" (16 : Nat) ({ cls := "OmegaDesk$Passage", name := "chained", desc := "(I)I" } : Jvm.MethodName)) ∈ WB := List.mem_filter.mpr ⟨List.mem_append_right _ (List.mem_of_getElem? (i := 344) rfl), rfl⟩
set_option maxRecDepth 20000 in
theorem wb_345 : (Jvm.Cond.methodLink "OmegaDesk$Passage" (20 : Nat) ({ cls := "OmegaDesk$Passage", name := "goodEnds", desc := "(II)I" } : Jvm.MethodName)) ∈ WB := List.mem_filter.mpr ⟨List.mem_append_right _ (List.mem_of_getElem? (i := 345) rfl), rfl⟩
set_option maxRecDepth 20000 in
theorem wb_346 : (Jvm.Cond.methodLink "OmegaDesk$Passage" (23 : Nat) ({ cls := "OmegaDesk$Passage", name := "comesBack", desc := "(III)Z" } : Jvm.MethodName)) ∈ WB := List.mem_filter.mpr ⟨List.mem_append_right _ (List.mem_of_getElem? (i := 346) rfl), rfl⟩
set_option maxRecDepth 20000 in
theorem wb_347 : (Jvm.Cond.static ({ cls := "OmegaDesk$Passage", name := "comesBack", desc := "(III)Z" } : Jvm.MethodName)) ∈ WB := List.mem_filter.mpr ⟨List.mem_append_right _ (List.mem_of_getElem? (i := 347) rfl), rfl⟩
set_option maxRecDepth 20000 in
theorem wb_348 : (Jvm.Cond.code ({ cls := "OmegaDesk$Passage", name := "comesBack", desc := "(III)Z" } : Jvm.MethodName) prog_4_method_7_code (4 : Nat) (Option.some Jvm.ClassFile.FieldType.boolean)) ∈ WB := List.mem_filter.mpr ⟨List.mem_append_right _ (List.mem_of_getElem? (i := 348) rfl), rfl⟩
set_option maxRecDepth 20000 in
theorem wb_352 : (Jvm.Cond.code ({ cls := "OmegaDesk$Automaton", name := "becomePart", desc := "(LOmegaDesk$Automaton;I)V" } : Jvm.MethodName) prog_2_method_12_code (6 : Nat) (Option.none : Option Jvm.ClassFile.FieldType)) ∈ WB := List.mem_filter.mpr ⟨List.mem_append_right _ (List.mem_of_getElem? (i := 352) rfl), rfl⟩
set_option maxRecDepth 20000 in
theorem wb_353 : (Jvm.Cond.methodLink "OmegaDesk$Automaton" (53 : Nat) ({ cls := "OmegaDesk$Automaton", name := "wipe", desc := "()V" } : Jvm.MethodName)) ∈ WB := List.mem_filter.mpr ⟨List.mem_append_right _ (List.mem_of_getElem? (i := 353) rfl), rfl⟩
set_option maxRecDepth 20000 in
theorem wb_354 : (Jvm.Cond.methodLink "OmegaDesk$Automaton" (56 : Nat) ({ cls := "OmegaDesk$Automaton", name := "placeAmong", desc := "(II)I" } : Jvm.MethodName)) ∈ WB := List.mem_filter.mpr ⟨List.mem_append_right _ (List.mem_of_getElem? (i := 354) rfl), rfl⟩
set_option maxRecDepth 20000 in
theorem wb_355 : (Jvm.Cond.static ({ cls := "OmegaDesk$Automaton", name := "placeAmong", desc := "(II)I" } : Jvm.MethodName)) ∈ WB := List.mem_filter.mpr ⟨List.mem_append_right _ (List.mem_of_getElem? (i := 355) rfl), rfl⟩
set_option maxRecDepth 20000 in
theorem wb_356 : (Jvm.Cond.code ({ cls := "OmegaDesk$Automaton", name := "placeAmong", desc := "(II)I" } : Jvm.MethodName) prog_2_method_14_code (2 : Nat) (Option.some Jvm.ClassFile.FieldType.int)) ∈ WB := List.mem_filter.mpr ⟨List.mem_append_right _ (List.mem_of_getElem? (i := 356) rfl), rfl⟩
set_option maxRecDepth 20000 in
theorem wb_357 : (Jvm.Cond.methodLink "OmegaDesk$Automaton" (62 : Nat) ({ cls := "java/lang/Integer", name := "bitCount", desc := "(I)I" } : Jvm.MethodName)) ∈ WB := List.mem_filter.mpr ⟨List.mem_append_right _ (List.mem_of_getElem? (i := 357) rfl), rfl⟩
set_option maxRecDepth 20000 in
theorem wb_358 : (Jvm.Cond.static ({ cls := "java/lang/Integer", name := "bitCount", desc := "(I)I" } : Jvm.MethodName)) ∈ WB := List.mem_filter.mpr ⟨List.mem_append_right _ (List.mem_of_getElem? (i := 358) rfl), rfl⟩
set_option maxRecDepth 20000 in
theorem wb_359 : (Jvm.Cond.code ({ cls := "java/lang/Integer", name := "bitCount", desc := "(I)I" } : Jvm.MethodName) prog_12_method_49_code (1 : Nat) (Option.some Jvm.ClassFile.FieldType.int)) ∈ WB := List.mem_filter.mpr ⟨List.mem_append_right _ (List.mem_of_getElem? (i := 359) rfl), rfl⟩
set_option maxRecDepth 20000 in
theorem wb_360 : (Jvm.Cond.constant "java/lang/Integer" (265 : Nat) (1431655765 : Int32)) ∈ WB := List.mem_filter.mpr ⟨List.mem_append_right _ (List.mem_of_getElem? (i := 360) rfl), rfl⟩
set_option maxRecDepth 20000 in
theorem wb_361 : (Jvm.Cond.constant "java/lang/Integer" (266 : Nat) (858993459 : Int32)) ∈ WB := List.mem_filter.mpr ⟨List.mem_append_right _ (List.mem_of_getElem? (i := 361) rfl), rfl⟩
set_option maxRecDepth 20000 in
theorem wb_362 : (Jvm.Cond.constant "java/lang/Integer" (267 : Nat) (252645135 : Int32)) ∈ WB := List.mem_filter.mpr ⟨List.mem_append_right _ (List.mem_of_getElem? (i := 362) rfl), rfl⟩
set_option maxRecDepth 20000 in
theorem wb_363 : (Jvm.Cond.methodLink "OmegaDesk$Automaton" (59 : Nat) ({ cls := "OmegaDesk$Automaton", name := "packed", desc := "(II)I" } : Jvm.MethodName)) ∈ WB := List.mem_filter.mpr ⟨List.mem_append_right _ (List.mem_of_getElem? (i := 363) rfl), rfl⟩
set_option maxRecDepth 20000 in
theorem wb_364 : (Jvm.Cond.static ({ cls := "OmegaDesk$Automaton", name := "packed", desc := "(II)I" } : Jvm.MethodName)) ∈ WB := List.mem_filter.mpr ⟨List.mem_append_right _ (List.mem_of_getElem? (i := 364) rfl), rfl⟩
set_option maxRecDepth 20000 in
theorem wb_365 : (Jvm.Cond.code ({ cls := "OmegaDesk$Automaton", name := "packed", desc := "(II)I" } : Jvm.MethodName) prog_2_method_13_code (4 : Nat) (Option.some Jvm.ClassFile.FieldType.int)) ∈ WB := List.mem_filter.mpr ⟨List.mem_append_right _ (List.mem_of_getElem? (i := 365) rfl), rfl⟩
set_option maxRecDepth 20000 in
theorem wb_383 : (Jvm.Cond.code ({ cls := "OmegaDesk", name := "isWord", desc := "(II)Z" } : Jvm.MethodName) prog_1_method_16_code (2 : Nat) (Option.some Jvm.ClassFile.FieldType.boolean)) ∈ WB := List.mem_filter.mpr ⟨List.mem_append_right _ (List.mem_of_getElem? (i := 383) rfl), rfl⟩
set_option maxRecDepth 20000 in
theorem wb_388 : (Jvm.Cond.code ({ cls := "OmegaDesk$Automaton", name := "passageOf", desc := "(II)I" } : Jvm.MethodName) prog_2_method_18_code (5 : Nat) (Option.some Jvm.ClassFile.FieldType.int)) ∈ WB := List.mem_filter.mpr ⟨List.mem_append_right _ (List.mem_of_getElem? (i := 388) rfl), rfl⟩
set_option maxRecDepth 20000 in
theorem wb_402 : (Jvm.Cond.code ({ cls := "OmegaDesk$Refuter", name := "refutes", desc := "(LOmegaDesk$Automaton;LOmegaDesk$Automaton;)Z" } : Jvm.MethodName) prog_5_method_2_code (11 : Nat) (Option.some Jvm.ClassFile.FieldType.boolean)) ∈ WB := List.mem_filter.mpr ⟨List.mem_append_right _ (List.mem_of_getElem? (i := 402) rfl), rfl⟩
set_option maxRecDepth 20000 in
theorem wb_403 : (Jvm.Cond.methodLink "OmegaDesk$Refuter" (34 : Nat) ({ cls := "OmegaDesk$Automaton", name := "usefulStates", desc := "()I" } : Jvm.MethodName)) ∈ WB := List.mem_filter.mpr ⟨List.mem_append_right _ (List.mem_of_getElem? (i := 403) rfl), rfl⟩
set_option maxRecDepth 20000 in
theorem wb_404 : (Jvm.Cond.methodLink "OmegaDesk$Refuter" (43 : Nat) ({ cls := "OmegaDesk$Refuter", name := "reset", desc := "()V" } : Jvm.MethodName)) ∈ WB := List.mem_filter.mpr ⟨List.mem_append_right _ (List.mem_of_getElem? (i := 404) rfl), rfl⟩
set_option maxRecDepth 20000 in
theorem wb_406 : (Jvm.Cond.instanceMethod ({ cls := "OmegaDesk$Refuter", name := "reset", desc := "()V" } : Jvm.MethodName)) ∈ WB := List.mem_filter.mpr ⟨List.mem_append_right _ (List.mem_of_getElem? (i := 406) rfl), rfl⟩
set_option maxRecDepth 20000 in
theorem wb_407 : (Jvm.Cond.code ({ cls := "OmegaDesk$Refuter", name := "reset", desc := "()V" } : Jvm.MethodName) prog_5_method_3_code (1 : Nat) (Option.none : Option Jvm.ClassFile.FieldType)) ∈ WB := List.mem_filter.mpr ⟨List.mem_append_right _ (List.mem_of_getElem? (i := 407) rfl), rfl⟩
set_option maxRecDepth 20000 in
theorem wb_408 : (Jvm.Cond.methodLink "OmegaDesk$Refuter" (69 : Nat) ({ cls := "java/util/Arrays", name := "fill", desc := "([II)V" } : Jvm.MethodName)) ∈ WB := List.mem_filter.mpr ⟨List.mem_append_right _ (List.mem_of_getElem? (i := 408) rfl), rfl⟩
set_option maxRecDepth 20000 in
theorem wb_409 : (Jvm.Cond.methodLink "OmegaDesk$Refuter" (46 : Nat) ({ cls := "OmegaDesk$Refuter", name := "findMeetings", desc := "(LOmegaDesk$Automaton;LOmegaDesk$Automaton;)V" } : Jvm.MethodName)) ∈ WB := List.mem_filter.mpr ⟨List.mem_append_right _ (List.mem_of_getElem? (i := 409) rfl), rfl⟩
set_option maxRecDepth 20000 in
theorem wb_411 : (Jvm.Cond.instanceMethod ({ cls := "OmegaDesk$Refuter", name := "findMeetings", desc := "(LOmegaDesk$Automaton;LOmegaDesk$Automaton;)V" } : Jvm.MethodName)) ∈ WB := List.mem_filter.mpr ⟨List.mem_append_right _ (List.mem_of_getElem? (i := 411) rfl), rfl⟩
set_option maxRecDepth 20000 in
theorem wb_412 : (Jvm.Cond.code ({ cls := "OmegaDesk$Refuter", name := "findMeetings", desc := "(LOmegaDesk$Automaton;LOmegaDesk$Automaton;)V" } : Jvm.MethodName) prog_5_method_4_code (8 : Nat) (Option.none : Option Jvm.ClassFile.FieldType)) ∈ WB := List.mem_filter.mpr ⟨List.mem_append_right _ (List.mem_of_getElem? (i := 412) rfl), rfl⟩
set_option maxRecDepth 20000 in
theorem wb_413 : (Jvm.Cond.methodLink "OmegaDesk$Refuter" (78 : Nat) ({ cls := "OmegaDesk$Refuter", name := "spreadMeeting", desc := "(LOmegaDesk$Automaton;LOmegaDesk$Automaton;II)Z" } : Jvm.MethodName)) ∈ WB := List.mem_filter.mpr ⟨List.mem_append_right _ (List.mem_of_getElem? (i := 413) rfl), rfl⟩
set_option maxRecDepth 20000 in
theorem wb_415 : (Jvm.Cond.instanceMethod ({ cls := "OmegaDesk$Refuter", name := "spreadMeeting", desc := "(LOmegaDesk$Automaton;LOmegaDesk$Automaton;II)Z" } : Jvm.MethodName)) ∈ WB := List.mem_filter.mpr ⟨List.mem_append_right _ (List.mem_of_getElem? (i := 415) rfl), rfl⟩
set_option maxRecDepth 20000 in
theorem wb_416 : (Jvm.Cond.code ({ cls := "OmegaDesk$Refuter", name := "spreadMeeting", desc := "(LOmegaDesk$Automaton;LOmegaDesk$Automaton;II)Z" } : Jvm.MethodName) prog_5_method_5_code (10 : Nat) (Option.some Jvm.ClassFile.FieldType.boolean)) ∈ WB := List.mem_filter.mpr ⟨List.mem_append_right _ (List.mem_of_getElem? (i := 416) rfl), rfl⟩
set_option maxRecDepth 20000 in
theorem wb_417 : (Jvm.Cond.methodLink "OmegaDesk$Refuter" (82 : Nat) ({ cls := "OmegaDesk$Automaton", name := "followersOf", desc := "(II)I" } : Jvm.MethodName)) ∈ WB := List.mem_filter.mpr ⟨List.mem_append_right _ (List.mem_of_getElem? (i := 417) rfl), rfl⟩
set_option maxRecDepth 20000 in
theorem wb_418 : (Jvm.Cond.methodLink "OmegaDesk$Refuter" (50 : Nat) ({ cls := "OmegaDesk$Automaton", name := "emptyPassage", desc := "(I)I" } : Jvm.MethodName)) ∈ WB := List.mem_filter.mpr ⟨List.mem_append_right _ (List.mem_of_getElem? (i := 418) rfl), rfl⟩
set_option maxRecDepth 20000 in
theorem wb_419 : (Jvm.Cond.methodLink "OmegaDesk$Refuter" (54 : Nat) ({ cls := "OmegaDesk$Refuter", name := "offer", desc := "(II)I" } : Jvm.MethodName)) ∈ WB := List.mem_filter.mpr ⟨List.mem_append_right _ (List.mem_of_getElem? (i := 419) rfl), rfl⟩
set_option maxRecDepth 20000 in
theorem wb_421 : (Jvm.Cond.instanceMethod ({ cls := "OmegaDesk$Refuter", name := "offer", desc := "(II)I" } : Jvm.MethodName)) ∈ WB := List.mem_filter.mpr ⟨List.mem_append_right _ (List.mem_of_getElem? (i := 421) rfl), rfl⟩
set_option maxRecDepth 20000 in
theorem wb_422 : (Jvm.Cond.code ({ cls := "OmegaDesk$Refuter", name := "offer", desc := "(II)I" } : Jvm.MethodName) prog_5_method_6_code (5 : Nat) (Option.some Jvm.ClassFile.FieldType.int)) ∈ WB := List.mem_filter.mpr ⟨List.mem_append_right _ (List.mem_of_getElem? (i := 422) rfl), rfl⟩
set_option maxRecDepth 20000 in
theorem wb_423 : (Jvm.Cond.methodLink "OmegaDesk$Refuter" (85 : Nat) ({ cls := "OmegaDesk$Refuter", name := "slotOf", desc := "(I)I" } : Jvm.MethodName)) ∈ WB := List.mem_filter.mpr ⟨List.mem_append_right _ (List.mem_of_getElem? (i := 423) rfl), rfl⟩
set_option maxRecDepth 20000 in
theorem wb_425 : (Jvm.Cond.instanceMethod ({ cls := "OmegaDesk$Refuter", name := "slotOf", desc := "(I)I" } : Jvm.MethodName)) ∈ WB := List.mem_filter.mpr ⟨List.mem_append_right _ (List.mem_of_getElem? (i := 425) rfl), rfl⟩
set_option maxRecDepth 20000 in
theorem wb_426 : (Jvm.Cond.code ({ cls := "OmegaDesk$Refuter", name := "slotOf", desc := "(I)I" } : Jvm.MethodName) prog_5_method_7_code (4 : Nat) (Option.some Jvm.ClassFile.FieldType.int)) ∈ WB := List.mem_filter.mpr ⟨List.mem_append_right _ (List.mem_of_getElem? (i := 426) rfl), rfl⟩
set_option maxRecDepth 20000 in
theorem wb_427 : (Jvm.Cond.constant "OmegaDesk$Refuter" (92 : Nat) (-1640531535 : Int32)) ∈ WB := List.mem_filter.mpr ⟨List.mem_append_right _ (List.mem_of_getElem? (i := 427) rfl), rfl⟩
set_option maxRecDepth 20000 in
theorem wb_428 : (Jvm.Cond.methodLink "OmegaDesk$Refuter" (88 : Nat) ({ cls := "OmegaDesk$Refuter", name := "enqueue", desc := "(I)V" } : Jvm.MethodName)) ∈ WB := List.mem_filter.mpr ⟨List.mem_append_right _ (List.mem_of_getElem? (i := 428) rfl), rfl⟩
set_option maxRecDepth 20000 in
theorem wb_430 : (Jvm.Cond.instanceMethod ({ cls := "OmegaDesk$Refuter", name := "enqueue", desc := "(I)V" } : Jvm.MethodName)) ∈ WB := List.mem_filter.mpr ⟨List.mem_append_right _ (List.mem_of_getElem? (i := 430) rfl), rfl⟩
set_option maxRecDepth 20000 in
theorem wb_431 : (Jvm.Cond.code ({ cls := "OmegaDesk$Refuter", name := "enqueue", desc := "(I)V" } : Jvm.MethodName) prog_5_method_8_code (2 : Nat) (Option.none : Option Jvm.ClassFile.FieldType)) ∈ WB := List.mem_filter.mpr ⟨List.mem_append_right _ (List.mem_of_getElem? (i := 431) rfl), rfl⟩
set_option maxRecDepth 20000 in
theorem wb_432 : (Jvm.Cond.constant "OmegaDesk$Refuter" (58 : Nat) (32768 : Int32)) ∈ WB := List.mem_filter.mpr ⟨List.mem_append_right _ (List.mem_of_getElem? (i := 432) rfl), rfl⟩
set_option maxRecDepth 20000 in
theorem wb_433 : (Jvm.Cond.methodLink "OmegaDesk$Refuter" (59 : Nat) ({ cls := "OmegaDesk$Refuter", name := "nextQueued", desc := "()I" } : Jvm.MethodName)) ∈ WB := List.mem_filter.mpr ⟨List.mem_append_right _ (List.mem_of_getElem? (i := 433) rfl), rfl⟩
set_option maxRecDepth 20000 in
theorem wb_435 : (Jvm.Cond.instanceMethod ({ cls := "OmegaDesk$Refuter", name := "nextQueued", desc := "()I" } : Jvm.MethodName)) ∈ WB := List.mem_filter.mpr ⟨List.mem_append_right _ (List.mem_of_getElem? (i := 435) rfl), rfl⟩
set_option maxRecDepth 20000 in
theorem wb_436 : (Jvm.Cond.code ({ cls := "OmegaDesk$Refuter", name := "nextQueued", desc := "()I" } : Jvm.MethodName) prog_5_method_9_code (2 : Nat) (Option.some Jvm.ClassFile.FieldType.int)) ∈ WB := List.mem_filter.mpr ⟨List.mem_append_right _ (List.mem_of_getElem? (i := 436) rfl), rfl⟩
set_option maxRecDepth 20000 in
theorem wb_437 : (Jvm.Cond.methodLink "OmegaDesk$Refuter" (62 : Nat) ({ cls := "OmegaDesk$Automaton", name := "longerPassage", desc := "(II)I" } : Jvm.MethodName)) ∈ WB := List.mem_filter.mpr ⟨List.mem_append_right _ (List.mem_of_getElem? (i := 437) rfl), rfl⟩
set_option maxRecDepth 20000 in
theorem wb_438 : (Jvm.Cond.methodLink "OmegaDesk$Refuter" (65 : Nat) ({ cls := "OmegaDesk$Refuter", name := "refutesWith", desc := "(II)Z" } : Jvm.MethodName)) ∈ WB := List.mem_filter.mpr ⟨List.mem_append_right _ (List.mem_of_getElem? (i := 438) rfl), rfl⟩
set_option maxRecDepth 20000 in
theorem wb_440 : (Jvm.Cond.instanceMethod ({ cls := "OmegaDesk$Refuter", name := "refutesWith", desc := "(II)Z" } : Jvm.MethodName)) ∈ WB := List.mem_filter.mpr ⟨List.mem_append_right _ (List.mem_of_getElem? (i := 440) rfl), rfl⟩
set_option maxRecDepth 20000 in
theorem wb_441 : (Jvm.Cond.code ({ cls := "OmegaDesk$Refuter", name := "refutesWith", desc := "(II)Z" } : Jvm.MethodName) prog_5_method_10_code (6 : Nat) (Option.some Jvm.ClassFile.FieldType.boolean)) ∈ WB := List.mem_filter.mpr ⟨List.mem_append_right _ (List.mem_of_getElem? (i := 441) rfl), rfl⟩
set_option maxRecDepth 20000 in
theorem wb_442 : (Jvm.Cond.methodLink "OmegaDesk$Refuter" (93 : Nat) ({ cls := "OmegaDesk$Passage", name := "goodEnds", desc := "(II)I" } : Jvm.MethodName)) ∈ WB := List.mem_filter.mpr ⟨List.mem_append_right _ (List.mem_of_getElem? (i := 442) rfl), rfl⟩
set_option maxRecDepth 20000 in
theorem wb_443 : (Jvm.Cond.methodLink "OmegaDesk$Refuter" (98 : Nat) ({ cls := "OmegaDesk$Passage", name := "takenRepeated", desc := "(I)I" } : Jvm.MethodName)) ∈ WB := List.mem_filter.mpr ⟨List.mem_append_right _ (List.mem_of_getElem? (i := 443) rfl), rfl⟩
set_option maxRecDepth 20000 in
theorem wb_447 : (Jvm.Cond.code ({ cls := "OmegaDesk$LassoFinder", name := "forget", desc := "()V" } : Jvm.MethodName) prog_3_method_2_code (1 : Nat) (Option.none : Option Jvm.ClassFile.FieldType)) ∈ WB := List.mem_filter.mpr ⟨List.mem_append_right _ (List.mem_of_getElem? (i := 447) rfl), rfl⟩
set_option maxRecDepth 20000 in
theorem wb_451 : (Jvm.Cond.code ({ cls := "OmegaDesk$LassoFinder", name := "search", desc := "(LOmegaDesk$Automaton;LOmegaDesk$Automaton;)V" } : Jvm.MethodName) prog_3_method_3_code (5 : Nat) (Option.none : Option Jvm.ClassFile.FieldType)) ∈ WB := List.mem_filter.mpr ⟨List.mem_append_right _ (List.mem_of_getElem? (i := 451) rfl), rfl⟩
set_option maxRecDepth 20000 in
theorem wb_452 : (Jvm.Cond.methodLink "OmegaDesk$LassoFinder" (38 : Nat) ({ cls := "OmegaDesk$WordTable", name := "begin", desc := "(LOmegaDesk$Automaton;)V" } : Jvm.MethodName)) ∈ WB := List.mem_filter.mpr ⟨List.mem_append_right _ (List.mem_of_getElem? (i := 452) rfl), rfl⟩
set_option maxRecDepth 20000 in
theorem wb_453 : (Jvm.Cond.instanceMethod ({ cls := "OmegaDesk$WordTable", name := "begin", desc := "(LOmegaDesk$Automaton;)V" } : Jvm.MethodName)) ∈ WB := List.mem_filter.mpr ⟨List.mem_append_right _ (List.mem_of_getElem? (i := 453) rfl), rfl⟩
set_option maxRecDepth 20000 in
theorem wb_454 : (Jvm.Cond.selects "OmegaDesk$WordTable" ({ cls := "OmegaDesk$WordTable", name := "begin", desc := "(LOmegaDesk$Automaton;)V" } : Jvm.MethodName) ({ cls := "OmegaDesk$WordTable", name := "begin", desc := "(LOmegaDesk$Automaton;)V" } : Jvm.MethodName)) ∈ WB := List.mem_filter.mpr ⟨List.mem_append_right _ (List.mem_of_getElem? (i := 454) rfl), rfl⟩
set_option maxRecDepth 20000 in
theorem wb_455 : (Jvm.Cond.code ({ cls := "OmegaDesk$WordTable", name := "begin", desc := "(LOmegaDesk$Automaton;)V" } : Jvm.MethodName) prog_6_method_2_code (2 : Nat) (Option.none : Option Jvm.ClassFile.FieldType)) ∈ WB := List.mem_filter.mpr ⟨List.mem_append_right _ (List.mem_of_getElem? (i := 455) rfl), rfl⟩
set_option maxRecDepth 20000 in
theorem wb_456 : (Jvm.Cond.methodLink "OmegaDesk$WordTable" (24 : Nat) ({ cls := "OmegaDesk$Automaton", name := "emptyPassage", desc := "(I)I" } : Jvm.MethodName)) ∈ WB := List.mem_filter.mpr ⟨List.mem_append_right _ (List.mem_of_getElem? (i := 456) rfl), rfl⟩
set_option maxRecDepth 20000 in
theorem wb_457 : (Jvm.Cond.methodLink "OmegaDesk$LassoFinder" (42 : Nat) ({ cls := "OmegaDesk$WordTable", name := "addWords", desc := "(LOmegaDesk$Automaton;I)V" } : Jvm.MethodName)) ∈ WB := List.mem_filter.mpr ⟨List.mem_append_right _ (List.mem_of_getElem? (i := 457) rfl), rfl⟩
set_option maxRecDepth 20000 in
theorem wb_458 : (Jvm.Cond.instanceMethod ({ cls := "OmegaDesk$WordTable", name := "addWords", desc := "(LOmegaDesk$Automaton;I)V" } : Jvm.MethodName)) ∈ WB := List.mem_filter.mpr ⟨List.mem_append_right _ (List.mem_of_getElem? (i := 458) rfl), rfl⟩
set_option maxRecDepth 20000 in
theorem wb_459 : (Jvm.Cond.selects "OmegaDesk$WordTable" ({ cls := "OmegaDesk$WordTable", name := "addWords", desc := "(LOmegaDesk$Automaton;I)V" } : Jvm.MethodName) ({ cls := "OmegaDesk$WordTable", name := "addWords", desc := "(LOmegaDesk$Automaton;I)V" } : Jvm.MethodName)) ∈ WB := List.mem_filter.mpr ⟨List.mem_append_right _ (List.mem_of_getElem? (i := 459) rfl), rfl⟩
set_option maxRecDepth 20000 in
theorem wb_460 : (Jvm.Cond.code ({ cls := "OmegaDesk$WordTable", name := "addWords", desc := "(LOmegaDesk$Automaton;I)V" } : Jvm.MethodName) prog_6_method_3_code (5 : Nat) (Option.none : Option Jvm.ClassFile.FieldType)) ∈ WB := List.mem_filter.mpr ⟨List.mem_append_right _ (List.mem_of_getElem? (i := 460) rfl), rfl⟩
set_option maxRecDepth 20000 in
theorem wb_461 : (Jvm.Cond.methodLink "OmegaDesk$WordTable" (28 : Nat) ({ cls := "OmegaDesk$Automaton", name := "longerPassage", desc := "(II)I" } : Jvm.MethodName)) ∈ WB := List.mem_filter.mpr ⟨List.mem_append_right _ (List.mem_of_getElem? (i := 461) rfl), rfl⟩
set_option maxRecDepth 20000 in
theorem wb_462 : (Jvm.Cond.methodLink "OmegaDesk$WordTable" (32 : Nat) ({ cls := "OmegaDesk$Passage", name := "takenRepeated", desc := "(I)I" } : Jvm.MethodName)) ∈ WB := List.mem_filter.mpr ⟨List.mem_append_right _ (List.mem_of_getElem? (i := 462) rfl), rfl⟩
set_option maxRecDepth 20000 in
theorem wb_463 : (Jvm.Cond.methodLink "OmegaDesk$LassoFinder" (46 : Nat) ({ cls := "OmegaDesk$LassoFinder", name := "searchSplit", desc := "(II)V" } : Jvm.MethodName)) ∈ WB := List.mem_filter.mpr ⟨List.mem_append_right _ (List.mem_of_getElem? (i := 463) rfl), rfl⟩
set_option maxRecDepth 20000 in
theorem wb_465 : (Jvm.Cond.instanceMethod ({ cls := "OmegaDesk$LassoFinder", name := "searchSplit", desc := "(II)V" } : Jvm.MethodName)) ∈ WB := List.mem_filter.mpr ⟨List.mem_append_right _ (List.mem_of_getElem? (i := 465) rfl), rfl⟩
set_option maxRecDepth 20000 in
theorem wb_466 : (Jvm.Cond.code ({ cls := "OmegaDesk$LassoFinder", name := "searchSplit", desc := "(II)V" } : Jvm.MethodName) prog_3_method_4_code (7 : Nat) (Option.none : Option Jvm.ClassFile.FieldType)) ∈ WB := List.mem_filter.mpr ⟨List.mem_append_right _ (List.mem_of_getElem? (i := 466) rfl), rfl⟩
set_option maxRecDepth 20000 in
theorem wb_467 : (Jvm.Cond.methodLink "OmegaDesk$LassoFinder" (50 : Nat) ({ cls := "OmegaDesk$WordTable", name := "takesLasso", desc := "(II)Z" } : Jvm.MethodName)) ∈ WB := List.mem_filter.mpr ⟨List.mem_append_right _ (List.mem_of_getElem? (i := 467) rfl), rfl⟩
set_option maxRecDepth 20000 in
theorem wb_468 : (Jvm.Cond.instanceMethod ({ cls := "OmegaDesk$WordTable", name := "takesLasso", desc := "(II)Z" } : Jvm.MethodName)) ∈ WB := List.mem_filter.mpr ⟨List.mem_append_right _ (List.mem_of_getElem? (i := 468) rfl), rfl⟩
set_option maxRecDepth 20000 in
theorem wb_469 : (Jvm.Cond.selects "OmegaDesk$WordTable" ({ cls := "OmegaDesk$WordTable", name := "takesLasso", desc := "(II)Z" } : Jvm.MethodName) ({ cls := "OmegaDesk$WordTable", name := "takesLasso", desc := "(II)Z" } : Jvm.MethodName)) ∈ WB := List.mem_filter.mpr ⟨List.mem_append_right _ (List.mem_of_getElem? (i := 469) rfl), rfl⟩
set_option maxRecDepth 20000 in
theorem wb_470 : (Jvm.Cond.code ({ cls := "OmegaDesk$WordTable", name := "takesLasso", desc := "(II)Z" } : Jvm.MethodName) prog_6_method_4_code (3 : Nat) (Option.some Jvm.ClassFile.FieldType.boolean)) ∈ WB := List.mem_filter.mpr ⟨List.mem_append_right _ (List.mem_of_getElem? (i := 470) rfl), rfl⟩
set_option maxRecDepth 20000 in
theorem wb_471 : (Jvm.Cond.methodLink "OmegaDesk$WordTable" (36 : Nat) ({ cls := "OmegaDesk$Passage", name := "fromStart", desc := "(I)I" } : Jvm.MethodName)) ∈ WB := List.mem_filter.mpr ⟨List.mem_append_right _ (List.mem_of_getElem? (i := 471) rfl), rfl⟩
set_option maxRecDepth 20000 in
theorem wb_525 : (Jvm.Cond.fieldLink "OmegaDeskModel" (41 : Nat) "OmegaDeskModel" "thrown" "I") ∈ WB := List.mem_filter.mpr ⟨List.mem_append_right _ (List.mem_of_getElem? (i := 525) rfl), rfl⟩
set_option maxRecDepth 20000 in
theorem wb_526 : (Jvm.Cond.fieldLink "OmegaDeskModel" (7 : Nat) "OmegaDeskModel" "to" "[I") ∈ WB := List.mem_filter.mpr ⟨List.mem_append_right _ (List.mem_of_getElem? (i := 526) rfl), rfl⟩
set_option maxRecDepth 20000 in
theorem wb_527 : (Jvm.Cond.fieldLink "OmegaDeskModel" (13 : Nat) "OmegaDeskModel" "good" "[I") ∈ WB := List.mem_filter.mpr ⟨List.mem_append_right _ (List.mem_of_getElem? (i := 527) rfl), rfl⟩
set_option maxRecDepth 20000 in
theorem wb_528 : (Jvm.Cond.fieldLink "OmegaDeskModel" (16 : Nat) "OmegaDeskModel" "size" "[I") ∈ WB := List.mem_filter.mpr ⟨List.mem_append_right _ (List.mem_of_getElem? (i := 528) rfl), rfl⟩
set_option maxRecDepth 20000 in
theorem wb_529 : (Jvm.Cond.fieldLink "OmegaDeskModel" (132 : Nat) "OmegaDeskModel" "found" "Z") ∈ WB := List.mem_filter.mpr ⟨List.mem_append_right _ (List.mem_of_getElem? (i := 529) rfl), rfl⟩
set_option maxRecDepth 20000 in
theorem wb_530 : (Jvm.Cond.fieldLink "OmegaDeskModel" (19 : Nat) "OmegaDeskModel" "witness" "[I") ∈ WB := List.mem_filter.mpr ⟨List.mem_append_right _ (List.mem_of_getElem? (i := 530) rfl), rfl⟩
set_option maxRecDepth 20000 in
theorem wb_531 : (Jvm.Cond.fieldLink "OmegaDeskModel" (22 : Nat) "OmegaDeskModel" "seen" "[J") ∈ WB := List.mem_filter.mpr ⟨List.mem_append_right _ (List.mem_of_getElem? (i := 531) rfl), rfl⟩
set_option maxRecDepth 20000 in
theorem wb_532 : (Jvm.Cond.fieldLink "OmegaDeskModel" (26 : Nat) "OmegaDeskModel" "fresh" "[J") ∈ WB := List.mem_filter.mpr ⟨List.mem_append_right _ (List.mem_of_getElem? (i := 532) rfl), rfl⟩
set_option maxRecDepth 20000 in
theorem wb_533 : (Jvm.Cond.fieldLink "OmegaDeskModel" (29 : Nat) "OmegaDeskModel" "coming" "[J") ∈ WB := List.mem_filter.mpr ⟨List.mem_append_right _ (List.mem_of_getElem? (i := 533) rfl), rfl⟩
set_option maxRecDepth 20000 in
theorem wb_534 : (Jvm.Cond.fieldLink "OmegaDeskModel" (32 : Nat) "OmegaDeskModel" "digit" "[I") ∈ WB := List.mem_filter.mpr ⟨List.mem_append_right _ (List.mem_of_getElem? (i := 534) rfl), rfl⟩
set_option maxRecDepth 20000 in
theorem wb_535 : (Jvm.Cond.fieldLink "OmegaDeskModel" (35 : Nat) "OmegaDeskModel" "after" "[I") ∈ WB := List.mem_filter.mpr ⟨List.mem_append_right _ (List.mem_of_getElem? (i := 535) rfl), rfl⟩
set_option maxRecDepth 20000 in
theorem wb_536 : (Jvm.Cond.fieldLink "OmegaDeskModel" (38 : Nat) "OmegaDeskModel" "beginnings" "[I") ∈ WB := List.mem_filter.mpr ⟨List.mem_append_right _ (List.mem_of_getElem? (i := 536) rfl), rfl⟩
set_option maxRecDepth 20000 in
theorem wb_566 : (Jvm.Cond.code ({ cls := "OmegaDeskModel", name := "thrown", desc := "()I" } : Jvm.MethodName) prog_8_method_2_code (1 : Nat) (Option.some Jvm.ClassFile.FieldType.int)) ∈ WB := List.mem_filter.mpr ⟨List.mem_append_right _ (List.mem_of_getElem? (i := 566) rfl), rfl⟩
set_option maxRecDepth 20000 in
theorem wb_570 : (Jvm.Cond.code ({ cls := "OmegaDeskModel", name := "state", desc := "(IZ)I" } : Jvm.MethodName) prog_8_method_6_code (3 : Nat) (Option.some Jvm.ClassFile.FieldType.int)) ∈ WB := List.mem_filter.mpr ⟨List.mem_append_right _ (List.mem_of_getElem? (i := 570) rfl), rfl⟩
set_option maxRecDepth 20000 in
theorem wb_571 : (Jvm.Cond.methodLink "OmegaDeskModel" (45 : Nat) ({ cls := "OmegaDeskModel", name := "out", desc := "(II)Z" } : Jvm.MethodName)) ∈ WB := List.mem_filter.mpr ⟨List.mem_append_right _ (List.mem_of_getElem? (i := 571) rfl), rfl⟩
set_option maxRecDepth 20000 in
theorem wb_572 : (Jvm.Cond.static ({ cls := "OmegaDeskModel", name := "out", desc := "(II)Z" } : Jvm.MethodName)) ∈ WB := List.mem_filter.mpr ⟨List.mem_append_right _ (List.mem_of_getElem? (i := 572) rfl), rfl⟩
set_option maxRecDepth 20000 in
theorem wb_573 : (Jvm.Cond.code ({ cls := "OmegaDeskModel", name := "out", desc := "(II)Z" } : Jvm.MethodName) prog_8_method_3_code (2 : Nat) (Option.some Jvm.ClassFile.FieldType.boolean)) ∈ WB := List.mem_filter.mpr ⟨List.mem_append_right _ (List.mem_of_getElem? (i := 573) rfl), rfl⟩
set_option maxRecDepth 20000 in
theorem wb_574 : (Jvm.Cond.methodLink "OmegaDeskModel" (49 : Nat) ({ cls := "OmegaDeskModel", name := "add", desc := "(IZ)V" } : Jvm.MethodName)) ∈ WB := List.mem_filter.mpr ⟨List.mem_append_right _ (List.mem_of_getElem? (i := 574) rfl), rfl⟩
set_option maxRecDepth 20000 in
theorem wb_576 : (Jvm.Cond.instanceMethod ({ cls := "OmegaDeskModel", name := "add", desc := "(IZ)V" } : Jvm.MethodName)) ∈ WB := List.mem_filter.mpr ⟨List.mem_append_right _ (List.mem_of_getElem? (i := 576) rfl), rfl⟩
set_option maxRecDepth 20000 in
theorem wb_577 : (Jvm.Cond.code ({ cls := "OmegaDeskModel", name := "add", desc := "(IZ)V" } : Jvm.MethodName) prog_8_method_5_code (3 : Nat) (Option.none : Option Jvm.ClassFile.FieldType)) ∈ WB := List.mem_filter.mpr ⟨List.mem_append_right _ (List.mem_of_getElem? (i := 577) rfl), rfl⟩
set_option maxRecDepth 20000 in
theorem wb_581 : (Jvm.Cond.code ({ cls := "OmegaDeskModel", name := "edge", desc := "(IIII)Z" } : Jvm.MethodName) prog_8_method_8_code (7 : Nat) (Option.some Jvm.ClassFile.FieldType.boolean)) ∈ WB := List.mem_filter.mpr ⟨List.mem_append_right _ (List.mem_of_getElem? (i := 581) rfl), rfl⟩
set_option maxRecDepth 20000 in
theorem wb_582 : (Jvm.Cond.methodLink "OmegaDeskModel" (53 : Nat) ({ cls := "OmegaDeskModel", name := "isEdge", desc := "(IIII)Z" } : Jvm.MethodName)) ∈ WB := List.mem_filter.mpr ⟨List.mem_append_right _ (List.mem_of_getElem? (i := 582) rfl), rfl⟩
set_option maxRecDepth 20000 in
theorem wb_584 : (Jvm.Cond.instanceMethod ({ cls := "OmegaDeskModel", name := "isEdge", desc := "(IIII)Z" } : Jvm.MethodName)) ∈ WB := List.mem_filter.mpr ⟨List.mem_append_right _ (List.mem_of_getElem? (i := 584) rfl), rfl⟩
set_option maxRecDepth 20000 in
theorem wb_585 : (Jvm.Cond.code ({ cls := "OmegaDeskModel", name := "isEdge", desc := "(IIII)Z" } : Jvm.MethodName) prog_8_method_7_code (5 : Nat) (Option.some Jvm.ClassFile.FieldType.boolean)) ∈ WB := List.mem_filter.mpr ⟨List.mem_append_right _ (List.mem_of_getElem? (i := 585) rfl), rfl⟩
set_option maxRecDepth 20000 in
theorem wb_589 : (Jvm.Cond.code ({ cls := "OmegaDeskModel", name := "clear", desc := "(I)V" } : Jvm.MethodName) prog_8_method_9_code (2 : Nat) (Option.none : Option Jvm.ClassFile.FieldType)) ∈ WB := List.mem_filter.mpr ⟨List.mem_append_right _ (List.mem_of_getElem? (i := 589) rfl), rfl⟩
set_option maxRecDepth 20000 in
theorem wb_593 : (Jvm.Cond.code ({ cls := "OmegaDeskModel", name := "unite", desc := "(III)I" } : Jvm.MethodName) prog_8_method_11_code (5 : Nat) (Option.some Jvm.ClassFile.FieldType.int)) ∈ WB := List.mem_filter.mpr ⟨List.mem_append_right _ (List.mem_of_getElem? (i := 593) rfl), rfl⟩
set_option maxRecDepth 20000 in
theorem wb_594 : (Jvm.Cond.methodLink "OmegaDeskModel" (57 : Nat) ({ cls := "OmegaDeskModel", name := "append", desc := "(II)V" } : Jvm.MethodName)) ∈ WB := List.mem_filter.mpr ⟨List.mem_append_right _ (List.mem_of_getElem? (i := 594) rfl), rfl⟩
set_option maxRecDepth 20000 in
theorem wb_596 : (Jvm.Cond.instanceMethod ({ cls := "OmegaDeskModel", name := "append", desc := "(II)V" } : Jvm.MethodName)) ∈ WB := List.mem_filter.mpr ⟨List.mem_append_right _ (List.mem_of_getElem? (i := 596) rfl), rfl⟩
set_option maxRecDepth 20000 in
theorem wb_597 : (Jvm.Cond.code ({ cls := "OmegaDeskModel", name := "append", desc := "(II)V" } : Jvm.MethodName) prog_8_method_10_code (7 : Nat) (Option.none : Option Jvm.ClassFile.FieldType)) ∈ WB := List.mem_filter.mpr ⟨List.mem_append_right _ (List.mem_of_getElem? (i := 597) rfl), rfl⟩
set_option maxRecDepth 20000 in
theorem wb_601 : (Jvm.Cond.code ({ cls := "OmegaDeskModel", name := "trim", desc := "(I)I" } : Jvm.MethodName) prog_8_method_15_code (11 : Nat) (Option.some Jvm.ClassFile.FieldType.int)) ∈ WB := List.mem_filter.mpr ⟨List.mem_append_right _ (List.mem_of_getElem? (i := 601) rfl), rfl⟩
set_option maxRecDepth 20000 in
theorem wb_602 : (Jvm.Cond.methodLink "OmegaDeskModel" (68 : Nat) ({ cls := "OmegaDeskModel", name := "living", desc := "(I)I" } : Jvm.MethodName)) ∈ WB := List.mem_filter.mpr ⟨List.mem_append_right _ (List.mem_of_getElem? (i := 602) rfl), rfl⟩
set_option maxRecDepth 20000 in
theorem wb_604 : (Jvm.Cond.instanceMethod ({ cls := "OmegaDeskModel", name := "living", desc := "(I)I" } : Jvm.MethodName)) ∈ WB := List.mem_filter.mpr ⟨List.mem_append_right _ (List.mem_of_getElem? (i := 604) rfl), rfl⟩
set_option maxRecDepth 20000 in
theorem wb_605 : (Jvm.Cond.code ({ cls := "OmegaDeskModel", name := "living", desc := "(I)I" } : Jvm.MethodName) prog_8_method_14_code (4 : Nat) (Option.some Jvm.ClassFile.FieldType.int)) ∈ WB := List.mem_filter.mpr ⟨List.mem_append_right _ (List.mem_of_getElem? (i := 605) rfl), rfl⟩
set_option maxRecDepth 20000 in
theorem wb_606 : (Jvm.Cond.methodLink "OmegaDeskModel" (65 : Nat) ({ cls := "OmegaDeskModel", name := "alive", desc := "(II)Z" } : Jvm.MethodName)) ∈ WB := List.mem_filter.mpr ⟨List.mem_append_right _ (List.mem_of_getElem? (i := 606) rfl), rfl⟩
set_option maxRecDepth 20000 in
theorem wb_608 : (Jvm.Cond.instanceMethod ({ cls := "OmegaDeskModel", name := "alive", desc := "(II)Z" } : Jvm.MethodName)) ∈ WB := List.mem_filter.mpr ⟨List.mem_append_right _ (List.mem_of_getElem? (i := 608) rfl), rfl⟩
set_option maxRecDepth 20000 in
theorem wb_609 : (Jvm.Cond.code ({ cls := "OmegaDeskModel", name := "alive", desc := "(II)Z" } : Jvm.MethodName) prog_8_method_13_code (7 : Nat) (Option.some Jvm.ClassFile.FieldType.boolean)) ∈ WB := List.mem_filter.mpr ⟨List.mem_append_right _ (List.mem_of_getElem? (i := 609) rfl), rfl⟩
set_option maxRecDepth 20000 in
theorem wb_610 : (Jvm.Cond.methodLink "OmegaDeskModel" (61 : Nat) ({ cls := "OmegaDeskModel", name := "ahead", desc := "(II)I" } : Jvm.MethodName)) ∈ WB := List.mem_filter.mpr ⟨List.mem_append_right _ (List.mem_of_getElem? (i := 610) rfl), rfl⟩
set_option maxRecDepth 20000 in
theorem wb_612 : (Jvm.Cond.instanceMethod ({ cls := "OmegaDeskModel", name := "ahead", desc := "(II)I" } : Jvm.MethodName)) ∈ WB := List.mem_filter.mpr ⟨List.mem_append_right _ (List.mem_of_getElem? (i := 612) rfl), rfl⟩
set_option maxRecDepth 20000 in
theorem wb_613 : (Jvm.Cond.code ({ cls := "OmegaDeskModel", name := "ahead", desc := "(II)I" } : Jvm.MethodName) prog_8_method_12_code (6 : Nat) (Option.some Jvm.ClassFile.FieldType.int)) ∈ WB := List.mem_filter.mpr ⟨List.mem_append_right _ (List.mem_of_getElem? (i := 613) rfl), rfl⟩
set_option maxRecDepth 20000 in
theorem wb_617 : (Jvm.Cond.code ({ cls := "OmegaDeskModel", name := "empty", desc := "(I)Z" } : Jvm.MethodName) prog_8_method_16_code (2 : Nat) (Option.some Jvm.ClassFile.FieldType.boolean)) ∈ WB := List.mem_filter.mpr ⟨List.mem_append_right _ (List.mem_of_getElem? (i := 617) rfl), rfl⟩
set_option maxRecDepth 20000 in
theorem wb_621 : (Jvm.Cond.code ({ cls := "OmegaDeskModel", name := "takes", desc := "(IIIII)Z" } : Jvm.MethodName) prog_8_method_22_code (6 : Nat) (Option.some Jvm.ClassFile.FieldType.boolean)) ∈ WB := List.mem_filter.mpr ⟨List.mem_append_right _ (List.mem_of_getElem? (i := 621) rfl), rfl⟩
set_option maxRecDepth 20000 in
theorem wb_622 : (Jvm.Cond.methodLink "OmegaDeskModel" (85 : Nat) ({ cls := "OmegaDeskModel", name := "isWord", desc := "(III)Z" } : Jvm.MethodName)) ∈ WB := List.mem_filter.mpr ⟨List.mem_append_right _ (List.mem_of_getElem? (i := 622) rfl), rfl⟩
set_option maxRecDepth 20000 in
theorem wb_623 : (Jvm.Cond.static ({ cls := "OmegaDeskModel", name := "isWord", desc := "(III)Z" } : Jvm.MethodName)) ∈ WB := List.mem_filter.mpr ⟨List.mem_append_right _ (List.mem_of_getElem? (i := 623) rfl), rfl⟩
set_option maxRecDepth 20000 in
theorem wb_624 : (Jvm.Cond.code ({ cls := "OmegaDeskModel", name := "isWord", desc := "(III)Z" } : Jvm.MethodName) prog_8_method_21_code (3 : Nat) (Option.some Jvm.ClassFile.FieldType.boolean)) ∈ WB := List.mem_filter.mpr ⟨List.mem_append_right _ (List.mem_of_getElem? (i := 624) rfl), rfl⟩
set_option maxRecDepth 20000 in
theorem wb_625 : (Jvm.Cond.methodLink "OmegaDeskModel" (89 : Nat) ({ cls := "OmegaDeskModel", name := "lasso", desc := "(IIIII)Z" } : Jvm.MethodName)) ∈ WB := List.mem_filter.mpr ⟨List.mem_append_right _ (List.mem_of_getElem? (i := 625) rfl), rfl⟩
set_option maxRecDepth 20000 in
theorem wb_627 : (Jvm.Cond.instanceMethod ({ cls := "OmegaDeskModel", name := "lasso", desc := "(IIIII)Z" } : Jvm.MethodName)) ∈ WB := List.mem_filter.mpr ⟨List.mem_append_right _ (List.mem_of_getElem? (i := 627) rfl), rfl⟩
set_option maxRecDepth 20000 in
theorem wb_628 : (Jvm.Cond.code ({ cls := "OmegaDeskModel", name := "lasso", desc := "(IIIII)Z" } : Jvm.MethodName) prog_8_method_20_code (13 : Nat) (Option.some Jvm.ClassFile.FieldType.boolean)) ∈ WB := List.mem_filter.mpr ⟨List.mem_append_right _ (List.mem_of_getElem? (i := 628) rfl), rfl⟩
set_option maxRecDepth 20000 in
theorem wb_629 : (Jvm.Cond.methodLink "OmegaDeskModel" (82 : Nat) ({ cls := "OmegaDeskModel", name := "allBehind", desc := "(IJIIII)J" } : Jvm.MethodName)) ∈ WB := List.mem_filter.mpr ⟨List.mem_append_right _ (List.mem_of_getElem? (i := 629) rfl), rfl⟩
set_option maxRecDepth 20000 in
theorem wb_631 : (Jvm.Cond.instanceMethod ({ cls := "OmegaDeskModel", name := "allBehind", desc := "(IJIIII)J" } : Jvm.MethodName)) ∈ WB := List.mem_filter.mpr ⟨List.mem_append_right _ (List.mem_of_getElem? (i := 631) rfl), rfl⟩
set_option maxRecDepth 20000 in
theorem wb_632 : (Jvm.Cond.code ({ cls := "OmegaDeskModel", name := "allBehind", desc := "(IJIIII)J" } : Jvm.MethodName) prog_8_method_19_code (12 : Nat) (Option.some Jvm.ClassFile.FieldType.long)) ∈ WB := List.mem_filter.mpr ⟨List.mem_append_right _ (List.mem_of_getElem? (i := 632) rfl), rfl⟩
set_option maxRecDepth 20000 in
theorem wb_633 : (Jvm.Cond.methodLink "OmegaDeskModel" (78 : Nat) ({ cls := "OmegaDeskModel", name := "behind", desc := "(IJIIII)J" } : Jvm.MethodName)) ∈ WB := List.mem_filter.mpr ⟨List.mem_append_right _ (List.mem_of_getElem? (i := 633) rfl), rfl⟩
set_option maxRecDepth 20000 in
theorem wb_635 : (Jvm.Cond.instanceMethod ({ cls := "OmegaDeskModel", name := "behind", desc := "(IJIIII)J" } : Jvm.MethodName)) ∈ WB := List.mem_filter.mpr ⟨List.mem_append_right _ (List.mem_of_getElem? (i := 635) rfl), rfl⟩
set_option maxRecDepth 20000 in
theorem wb_636 : (Jvm.Cond.code ({ cls := "OmegaDeskModel", name := "behind", desc := "(IJIIII)J" } : Jvm.MethodName) prog_8_method_18_code (15 : Nat) (Option.some Jvm.ClassFile.FieldType.long)) ∈ WB := List.mem_filter.mpr ⟨List.mem_append_right _ (List.mem_of_getElem? (i := 636) rfl), rfl⟩
set_option maxRecDepth 20000 in
theorem wb_637 : (Jvm.Cond.constantLong "OmegaDeskModel" (72 : Nat) (15 : Int64)) ∈ WB := List.mem_filter.mpr ⟨List.mem_append_right _ (List.mem_of_getElem? (i := 637) rfl), rfl⟩
set_option maxRecDepth 20000 in
theorem wb_638 : (Jvm.Cond.methodLink "OmegaDeskModel" (74 : Nat) ({ cls := "OmegaDeskModel", name := "letter", desc := "(IIIII)I" } : Jvm.MethodName)) ∈ WB := List.mem_filter.mpr ⟨List.mem_append_right _ (List.mem_of_getElem? (i := 638) rfl), rfl⟩
set_option maxRecDepth 20000 in
theorem wb_639 : (Jvm.Cond.static ({ cls := "OmegaDeskModel", name := "letter", desc := "(IIIII)I" } : Jvm.MethodName)) ∈ WB := List.mem_filter.mpr ⟨List.mem_append_right _ (List.mem_of_getElem? (i := 639) rfl), rfl⟩
set_option maxRecDepth 20000 in
theorem wb_640 : (Jvm.Cond.code ({ cls := "OmegaDeskModel", name := "letter", desc := "(IIIII)I" } : Jvm.MethodName) prog_8_method_17_code (5 : Nat) (Option.some Jvm.ClassFile.FieldType.int)) ∈ WB := List.mem_filter.mpr ⟨List.mem_append_right _ (List.mem_of_getElem? (i := 640) rfl), rfl⟩
set_option maxRecDepth 20000 in
theorem wb_644 : (Jvm.Cond.code ({ cls := "OmegaDeskModel", name := "included", desc := "(II)Z" } : Jvm.MethodName) prog_8_method_36_code (4 : Nat) (Option.some Jvm.ClassFile.FieldType.boolean)) ∈ WB := List.mem_filter.mpr ⟨List.mem_append_right _ (List.mem_of_getElem? (i := 644) rfl), rfl⟩
set_option maxRecDepth 20000 in
theorem wb_645 : (Jvm.Cond.methodLink "OmegaDeskModel" (136 : Nat) ({ cls := "OmegaDeskModel", name := "differs", desc := "(II)Z" } : Jvm.MethodName)) ∈ WB := List.mem_filter.mpr ⟨List.mem_append_right _ (List.mem_of_getElem? (i := 645) rfl), rfl⟩
set_option maxRecDepth 20000 in
theorem wb_647 : (Jvm.Cond.instanceMethod ({ cls := "OmegaDeskModel", name := "differs", desc := "(II)Z" } : Jvm.MethodName)) ∈ WB := List.mem_filter.mpr ⟨List.mem_append_right _ (List.mem_of_getElem? (i := 647) rfl), rfl⟩
set_option maxRecDepth 20000 in
theorem wb_648 : (Jvm.Cond.code ({ cls := "OmegaDeskModel", name := "differs", desc := "(II)Z" } : Jvm.MethodName) prog_8_method_33_code (6 : Nat) (Option.some Jvm.ClassFile.FieldType.boolean)) ∈ WB := List.mem_filter.mpr ⟨List.mem_append_right _ (List.mem_of_getElem? (i := 648) rfl), rfl⟩
set_option maxRecDepth 20000 in
theorem wb_649 : (Jvm.Cond.methodLink "OmegaDeskModel" (116 : Nat) ({ cls := "OmegaDeskModel", name := "begin", desc := "(II)V" } : Jvm.MethodName)) ∈ WB := List.mem_filter.mpr ⟨List.mem_append_right _ (List.mem_of_getElem? (i := 649) rfl), rfl⟩
set_option maxRecDepth 20000 in
theorem wb_651 : (Jvm.Cond.instanceMethod ({ cls := "OmegaDeskModel", name := "begin", desc := "(II)V" } : Jvm.MethodName)) ∈ WB := List.mem_filter.mpr ⟨List.mem_append_right _ (List.mem_of_getElem? (i := 651) rfl), rfl⟩
set_option maxRecDepth 20000 in
theorem wb_652 : (Jvm.Cond.code ({ cls := "OmegaDeskModel", name := "begin", desc := "(II)V" } : Jvm.MethodName) prog_8_method_25_code (6 : Nat) (Option.none : Option Jvm.ClassFile.FieldType)) ∈ WB := List.mem_filter.mpr ⟨List.mem_append_right _ (List.mem_of_getElem? (i := 652) rfl), rfl⟩
set_option maxRecDepth 20000 in
theorem wb_653 : (Jvm.Cond.methodLink "OmegaDeskModel" (93 : Nat) ({ cls := "OmegaDeskModel", name := "goOn", desc := "(IIII)Z" } : Jvm.MethodName)) ∈ WB := List.mem_filter.mpr ⟨List.mem_append_right _ (List.mem_of_getElem? (i := 653) rfl), rfl⟩
set_option maxRecDepth 20000 in
theorem wb_655 : (Jvm.Cond.instanceMethod ({ cls := "OmegaDeskModel", name := "goOn", desc := "(IIII)Z" } : Jvm.MethodName)) ∈ WB := List.mem_filter.mpr ⟨List.mem_append_right _ (List.mem_of_getElem? (i := 655) rfl), rfl⟩
set_option maxRecDepth 20000 in
theorem wb_656 : (Jvm.Cond.code ({ cls := "OmegaDeskModel", name := "goOn", desc := "(IIII)Z" } : Jvm.MethodName) prog_8_method_26_code (10 : Nat) (Option.some Jvm.ClassFile.FieldType.boolean)) ∈ WB := List.mem_filter.mpr ⟨List.mem_append_right _ (List.mem_of_getElem? (i := 656) rfl), rfl⟩
set_option maxRecDepth 20000 in
theorem wb_657 : (Jvm.Cond.methodLink "OmegaDeskModel" (119 : Nat) ({ cls := "OmegaDeskModel", name := "gather", desc := "(III)V" } : Jvm.MethodName)) ∈ WB := List.mem_filter.mpr ⟨List.mem_append_right _ (List.mem_of_getElem? (i := 657) rfl), rfl⟩
set_option maxRecDepth 20000 in
theorem wb_659 : (Jvm.Cond.instanceMethod ({ cls := "OmegaDeskModel", name := "gather", desc := "(III)V" } : Jvm.MethodName)) ∈ WB := List.mem_filter.mpr ⟨List.mem_append_right _ (List.mem_of_getElem? (i := 659) rfl), rfl⟩
set_option maxRecDepth 20000 in
theorem wb_660 : (Jvm.Cond.code ({ cls := "OmegaDeskModel", name := "gather", desc := "(III)V" } : Jvm.MethodName) prog_8_method_29_code (8 : Nat) (Option.none : Option Jvm.ClassFile.FieldType)) ∈ WB := List.mem_filter.mpr ⟨List.mem_append_right _ (List.mem_of_getElem? (i := 660) rfl), rfl⟩
set_option maxRecDepth 20000 in
theorem wb_661 : (Jvm.Cond.methodLink "OmegaDeskModel" (96 : Nat) ({ cls := "OmegaDeskModel", name := "power", desc := "(I)I" } : Jvm.MethodName)) ∈ WB := List.mem_filter.mpr ⟨List.mem_append_right _ (List.mem_of_getElem? (i := 661) rfl), rfl⟩
set_option maxRecDepth 20000 in
theorem wb_662 : (Jvm.Cond.static ({ cls := "OmegaDeskModel", name := "power", desc := "(I)I" } : Jvm.MethodName)) ∈ WB := List.mem_filter.mpr ⟨List.mem_append_right _ (List.mem_of_getElem? (i := 662) rfl), rfl⟩
set_option maxRecDepth 20000 in
theorem wb_663 : (Jvm.Cond.code ({ cls := "OmegaDeskModel", name := "power", desc := "(I)I" } : Jvm.MethodName) prog_8_method_30_code (3 : Nat) (Option.some Jvm.ClassFile.FieldType.int)) ∈ WB := List.mem_filter.mpr ⟨List.mem_append_right _ (List.mem_of_getElem? (i := 663) rfl), rfl⟩
set_option maxRecDepth 20000 in
theorem wb_664 : (Jvm.Cond.methodLink "OmegaDeskModel" (99 : Nat) ({ cls := "OmegaDeskModel", name := "mark", desc := "([JI)V" } : Jvm.MethodName)) ∈ WB := List.mem_filter.mpr ⟨List.mem_append_right _ (List.mem_of_getElem? (i := 664) rfl), rfl⟩
set_option maxRecDepth 20000 in
theorem wb_665 : (Jvm.Cond.static ({ cls := "OmegaDeskModel", name := "mark", desc := "([JI)V" } : Jvm.MethodName)) ∈ WB := List.mem_filter.mpr ⟨List.mem_append_right _ (List.mem_of_getElem? (i := 665) rfl), rfl⟩
set_option maxRecDepth 20000 in
theorem wb_666 : (Jvm.Cond.code ({ cls := "OmegaDeskModel", name := "mark", desc := "([JI)V" } : Jvm.MethodName) prog_8_method_24_code (2 : Nat) (Option.none : Option Jvm.ClassFile.FieldType)) ∈ WB := List.mem_filter.mpr ⟨List.mem_append_right _ (List.mem_of_getElem? (i := 666) rfl), rfl⟩
set_option maxRecDepth 20000 in
theorem wb_667 : (Jvm.Cond.methodLink "OmegaDeskModel" (103 : Nat) ({ cls := "OmegaDeskModel", name := "lead", desc := "(III)V" } : Jvm.MethodName)) ∈ WB := List.mem_filter.mpr ⟨List.mem_append_right _ (List.mem_of_getElem? (i := 667) rfl), rfl⟩
set_option maxRecDepth 20000 in
theorem wb_669 : (Jvm.Cond.instanceMethod ({ cls := "OmegaDeskModel", name := "lead", desc := "(III)V" } : Jvm.MethodName)) ∈ WB := List.mem_filter.mpr ⟨List.mem_append_right _ (List.mem_of_getElem? (i := 669) rfl), rfl⟩
set_option maxRecDepth 20000 in
theorem wb_670 : (Jvm.Cond.code ({ cls := "OmegaDeskModel", name := "lead", desc := "(III)V" } : Jvm.MethodName) prog_8_method_31_code (11 : Nat) (Option.none : Option Jvm.ClassFile.FieldType)) ∈ WB := List.mem_filter.mpr ⟨List.mem_append_right _ (List.mem_of_getElem? (i := 670) rfl), rfl⟩
set_option maxRecDepth 20000 in
theorem wb_671 : (Jvm.Cond.methodLink "OmegaDeskModel" (109 : Nat) ({ cls := "OmegaDeskModel", name := "spread", desc := "(I)V" } : Jvm.MethodName)) ∈ WB := List.mem_filter.mpr ⟨List.mem_append_right _ (List.mem_of_getElem? (i := 671) rfl), rfl⟩
set_option maxRecDepth 20000 in
theorem wb_673 : (Jvm.Cond.instanceMethod ({ cls := "OmegaDeskModel", name := "spread", desc := "(I)V" } : Jvm.MethodName)) ∈ WB := List.mem_filter.mpr ⟨List.mem_append_right _ (List.mem_of_getElem? (i := 673) rfl), rfl⟩
set_option maxRecDepth 20000 in
theorem wb_674 : (Jvm.Cond.code ({ cls := "OmegaDeskModel", name := "spread", desc := "(I)V" } : Jvm.MethodName) prog_8_method_27_code (4 : Nat) (Option.none : Option Jvm.ClassFile.FieldType)) ∈ WB := List.mem_filter.mpr ⟨List.mem_append_right _ (List.mem_of_getElem? (i := 674) rfl), rfl⟩
set_option maxRecDepth 20000 in
theorem wb_675 : (Jvm.Cond.methodLink "OmegaDeskModel" (113 : Nat) ({ cls := "OmegaDeskModel", name := "longer", desc := "(II)I" } : Jvm.MethodName)) ∈ WB := List.mem_filter.mpr ⟨List.mem_append_right _ (List.mem_of_getElem? (i := 675) rfl), rfl⟩
set_option maxRecDepth 20000 in
theorem wb_677 : (Jvm.Cond.instanceMethod ({ cls := "OmegaDeskModel", name := "longer", desc := "(II)I" } : Jvm.MethodName)) ∈ WB := List.mem_filter.mpr ⟨List.mem_append_right _ (List.mem_of_getElem? (i := 677) rfl), rfl⟩
set_option maxRecDepth 20000 in
theorem wb_678 : (Jvm.Cond.code ({ cls := "OmegaDeskModel", name := "longer", desc := "(II)I" } : Jvm.MethodName) prog_8_method_28_code (9 : Nat) (Option.some Jvm.ClassFile.FieldType.int)) ∈ WB := List.mem_filter.mpr ⟨List.mem_append_right _ (List.mem_of_getElem? (i := 678) rfl), rfl⟩
set_option maxRecDepth 20000 in
theorem wb_679 : (Jvm.Cond.constantLong "OmegaDeskModel" (107 : Nat) (-1 : Int64)) ∈ WB := List.mem_filter.mpr ⟨List.mem_append_right _ (List.mem_of_getElem? (i := 679) rfl), rfl⟩
set_option maxRecDepth 20000 in
theorem wb_680 : (Jvm.Cond.methodLink "OmegaDeskModel" (122 : Nat) ({ cls := "OmegaDeskModel", name := "bit", desc := "([JI)Z" } : Jvm.MethodName)) ∈ WB := List.mem_filter.mpr ⟨List.mem_append_right _ (List.mem_of_getElem? (i := 680) rfl), rfl⟩
set_option maxRecDepth 20000 in
theorem wb_681 : (Jvm.Cond.static ({ cls := "OmegaDeskModel", name := "bit", desc := "([JI)Z" } : Jvm.MethodName)) ∈ WB := List.mem_filter.mpr ⟨List.mem_append_right _ (List.mem_of_getElem? (i := 681) rfl), rfl⟩
set_option maxRecDepth 20000 in
theorem wb_682 : (Jvm.Cond.code ({ cls := "OmegaDeskModel", name := "bit", desc := "([JI)Z" } : Jvm.MethodName) prog_8_method_23_code (2 : Nat) (Option.some Jvm.ClassFile.FieldType.boolean)) ∈ WB := List.mem_filter.mpr ⟨List.mem_append_right _ (List.mem_of_getElem? (i := 682) rfl), rfl⟩
set_option maxRecDepth 20000 in
theorem wb_683 : (Jvm.Cond.methodLink "OmegaDeskModel" (126 : Nat) ({ cls := "OmegaDeskModel", name := "taken", desc := "(II)I" } : Jvm.MethodName)) ∈ WB := List.mem_filter.mpr ⟨List.mem_append_right _ (List.mem_of_getElem? (i := 683) rfl), rfl⟩
set_option maxRecDepth 20000 in
theorem wb_685 : (Jvm.Cond.instanceMethod ({ cls := "OmegaDeskModel", name := "taken", desc := "(II)I" } : Jvm.MethodName)) ∈ WB := List.mem_filter.mpr ⟨List.mem_append_right _ (List.mem_of_getElem? (i := 685) rfl), rfl⟩
set_option maxRecDepth 20000 in
theorem wb_686 : (Jvm.Cond.code ({ cls := "OmegaDeskModel", name := "taken", desc := "(II)I" } : Jvm.MethodName) prog_8_method_32_code (10 : Nat) (Option.some Jvm.ClassFile.FieldType.int)) ∈ WB := List.mem_filter.mpr ⟨List.mem_append_right _ (List.mem_of_getElem? (i := 686) rfl), rfl⟩
set_option maxRecDepth 20000 in
theorem wb_687 : (Jvm.Cond.methodLink "OmegaDeskModel" (129 : Nat) ({ cls := "OmegaDeskModel", name := "misses", desc := "(II)Z" } : Jvm.MethodName)) ∈ WB := List.mem_filter.mpr ⟨List.mem_append_right _ (List.mem_of_getElem? (i := 687) rfl), rfl⟩
set_option maxRecDepth 20000 in
theorem wb_688 : (Jvm.Cond.static ({ cls := "OmegaDeskModel", name := "misses", desc := "(II)Z" } : Jvm.MethodName)) ∈ WB := List.mem_filter.mpr ⟨List.mem_append_right _ (List.mem_of_getElem? (i := 688) rfl), rfl⟩
set_option maxRecDepth 20000 in
theorem wb_689 : (Jvm.Cond.code ({ cls := "OmegaDeskModel", name := "misses", desc := "(II)Z" } : Jvm.MethodName) prog_8_method_34_code (3 : Nat) (Option.some Jvm.ClassFile.FieldType.boolean)) ∈ WB := List.mem_filter.mpr ⟨List.mem_append_right _ (List.mem_of_getElem? (i := 689) rfl), rfl⟩
set_option maxRecDepth 20000 in
theorem wb_690 : (Jvm.Cond.methodLink "OmegaDeskModel" (139 : Nat) ({ cls := "OmegaDeskModel", name := "look", desc := "(III)Z" } : Jvm.MethodName)) ∈ WB := List.mem_filter.mpr ⟨List.mem_append_right _ (List.mem_of_getElem? (i := 690) rfl), rfl⟩
set_option maxRecDepth 20000 in
theorem wb_692 : (Jvm.Cond.instanceMethod ({ cls := "OmegaDeskModel", name := "look", desc := "(III)Z" } : Jvm.MethodName)) ∈ WB := List.mem_filter.mpr ⟨List.mem_append_right _ (List.mem_of_getElem? (i := 692) rfl), rfl⟩
set_option maxRecDepth 20000 in
theorem wb_693 : (Jvm.Cond.code ({ cls := "OmegaDeskModel", name := "look", desc := "(III)Z" } : Jvm.MethodName) prog_8_method_35_code (9 : Nat) (Option.some Jvm.ClassFile.FieldType.boolean)) ∈ WB := List.mem_filter.mpr ⟨List.mem_append_right _ (List.mem_of_getElem? (i := 693) rfl), rfl⟩
set_option maxRecDepth 20000 in
theorem wb_697 : (Jvm.Cond.code ({ cls := "OmegaDeskModel", name := "witness", desc := "(I)I" } : Jvm.MethodName) prog_8_method_37_code (2 : Nat) (Option.some Jvm.ClassFile.FieldType.int)) ∈ WB := List.mem_filter.mpr ⟨List.mem_append_right _ (List.mem_of_getElem? (i := 697) rfl), rfl⟩
set_option maxRecDepth 20000 in
theorem wb_701 : (Jvm.Cond.code ({ cls := "OmegaDeskModel", name := "states", desc := "(I)I" } : Jvm.MethodName) prog_8_method_38_code (2 : Nat) (Option.some Jvm.ClassFile.FieldType.int)) ∈ WB := List.mem_filter.mpr ⟨List.mem_append_right _ (List.mem_of_getElem? (i := 701) rfl), rfl⟩
set_option maxRecDepth 20000 in
theorem wb_702 : (Jvm.Cond.methodLink "OmegaDeskModel" (142 : Nat) ({ cls := "OmegaDeskModel", name := "fail", desc := "(I)I" } : Jvm.MethodName)) ∈ WB := List.mem_filter.mpr ⟨List.mem_append_right _ (List.mem_of_getElem? (i := 702) rfl), rfl⟩
set_option maxRecDepth 20000 in
theorem wb_704 : (Jvm.Cond.instanceMethod ({ cls := "OmegaDeskModel", name := "fail", desc := "(I)I" } : Jvm.MethodName)) ∈ WB := List.mem_filter.mpr ⟨List.mem_append_right _ (List.mem_of_getElem? (i := 704) rfl), rfl⟩
set_option maxRecDepth 20000 in
theorem wb_705 : (Jvm.Cond.code ({ cls := "OmegaDeskModel", name := "fail", desc := "(I)I" } : Jvm.MethodName) prog_8_method_4_code (2 : Nat) (Option.some Jvm.ClassFile.FieldType.int)) ∈ WB := List.mem_filter.mpr ⟨List.mem_append_right _ (List.mem_of_getElem? (i := 705) rfl), rfl⟩
set_option maxRecDepth 20000 in
theorem wb_709 : (Jvm.Cond.code ({ cls := "OmegaDeskModel", name := "good", desc := "(II)Z" } : Jvm.MethodName) prog_8_method_39_code (3 : Nat) (Option.some Jvm.ClassFile.FieldType.boolean)) ∈ WB := List.mem_filter.mpr ⟨List.mem_append_right _ (List.mem_of_getElem? (i := 709) rfl), rfl⟩
set_option maxRecDepth 20000 in
theorem wb_713 : (Jvm.Cond.code ({ cls := "OmegaDeskModel", name := "has", desc := "(IIII)Z" } : Jvm.MethodName) prog_8_method_40_code (5 : Nat) (Option.some Jvm.ClassFile.FieldType.boolean)) ∈ WB := List.mem_filter.mpr ⟨List.mem_append_right _ (List.mem_of_getElem? (i := 713) rfl), rfl⟩
set_option maxRecDepth 20000 in
theorem uw_A : ∀ w ∈ u_ws R_A F_A 3, w ∈ WB := by
  intro w hw
  obtain ⟨k, hk, rfl⟩ := List.mem_map.mp hw
  have hk := List.mem_range.mp hk
  rcases (show k = 0 ∨ k = 1 ∨ k = 2 by omega) with rfl | rfl | rfl
  · exact List.mem_filter.mpr ⟨List.mem_append_right _ (List.mem_of_getElem? (i := 39) rfl), rfl⟩
  · exact List.mem_filter.mpr ⟨List.mem_append_right _ (List.mem_of_getElem? (i := 41) rfl), rfl⟩
  · exact List.mem_filter.mpr ⟨List.mem_append_right _ (List.mem_of_getElem? (i := 43) rfl), rfl⟩
set_option maxRecDepth 20000 in
theorem uw_D : ∀ w ∈ u_ws R_D F_D 4, w ∈ WB := by
  intro w hw
  obtain ⟨k, hk, rfl⟩ := List.mem_map.mp hw
  have hk := List.mem_range.mp hk
  rcases (show k = 0 ∨ k = 1 ∨ k = 2 ∨ k = 3 by omega) with rfl | rfl | rfl | rfl
  · exact List.mem_filter.mpr ⟨List.mem_append_right _ (List.mem_of_getElem? (i := 125) rfl), rfl⟩
  · exact List.mem_filter.mpr ⟨List.mem_append_right _ (List.mem_of_getElem? (i := 127) rfl), rfl⟩
  · exact List.mem_filter.mpr ⟨List.mem_append_right _ (List.mem_of_getElem? (i := 129) rfl), rfl⟩
  · exact List.mem_filter.mpr ⟨List.mem_append_right _ (List.mem_of_getElem? (i := 131) rfl), rfl⟩
set_option maxRecDepth 20000 in
theorem uw_R : ∀ w ∈ u_ws R_R F_R 7, w ∈ WB := by
  intro w hw
  obtain ⟨k, hk, rfl⟩ := List.mem_map.mp hw
  have hk := List.mem_range.mp hk
  rcases (show k = 0 ∨ k = 1 ∨ k = 2 ∨ k = 3 ∨ k = 4 ∨ k = 5 ∨ k = 6 by omega) with rfl | rfl | rfl | rfl | rfl | rfl | rfl
  · exact List.mem_filter.mpr ⟨List.mem_append_right _ (List.mem_of_getElem? (i := 60) rfl), rfl⟩
  · exact List.mem_filter.mpr ⟨List.mem_append_right _ (List.mem_of_getElem? (i := 62) rfl), rfl⟩
  · exact List.mem_filter.mpr ⟨List.mem_append_right _ (List.mem_of_getElem? (i := 64) rfl), rfl⟩
  · exact List.mem_filter.mpr ⟨List.mem_append_right _ (List.mem_of_getElem? (i := 66) rfl), rfl⟩
  · exact List.mem_filter.mpr ⟨List.mem_append_right _ (List.mem_of_getElem? (i := 68) rfl), rfl⟩
  · exact List.mem_filter.mpr ⟨List.mem_append_right _ (List.mem_of_getElem? (i := 70) rfl), rfl⟩
  · exact List.mem_filter.mpr ⟨List.mem_append_right _ (List.mem_of_getElem? (i := 72) rfl), rfl⟩
set_option maxRecDepth 20000 in
theorem uw_F : ∀ w ∈ u_ws R_F F_F 7, w ∈ WB := by
  intro w hw
  obtain ⟨k, hk, rfl⟩ := List.mem_map.mp hw
  have hk := List.mem_range.mp hk
  rcases (show k = 0 ∨ k = 1 ∨ k = 2 ∨ k = 3 ∨ k = 4 ∨ k = 5 ∨ k = 6 by omega) with rfl | rfl | rfl | rfl | rfl | rfl | rfl
  · exact List.mem_filter.mpr ⟨List.mem_append_right _ (List.mem_of_getElem? (i := 106) rfl), rfl⟩
  · exact List.mem_filter.mpr ⟨List.mem_append_right _ (List.mem_of_getElem? (i := 108) rfl), rfl⟩
  · exact List.mem_filter.mpr ⟨List.mem_append_right _ (List.mem_of_getElem? (i := 110) rfl), rfl⟩
  · exact List.mem_filter.mpr ⟨List.mem_append_right _ (List.mem_of_getElem? (i := 112) rfl), rfl⟩
  · exact List.mem_filter.mpr ⟨List.mem_append_right _ (List.mem_of_getElem? (i := 114) rfl), rfl⟩
  · exact List.mem_filter.mpr ⟨List.mem_append_right _ (List.mem_of_getElem? (i := 116) rfl), rfl⟩
  · exact List.mem_filter.mpr ⟨List.mem_append_right _ (List.mem_of_getElem? (i := 118) rfl), rfl⟩
set_option maxRecDepth 20000 in
theorem uw_T : ∀ w ∈ u_ws R_T F_T 2, w ∈ WB := by
  intro w hw
  obtain ⟨k, hk, rfl⟩ := List.mem_map.mp hw
  have hk := List.mem_range.mp hk
  rcases (show k = 0 ∨ k = 1 by omega) with rfl | rfl
  · exact List.mem_filter.mpr ⟨List.mem_append_right _ (List.mem_of_getElem? (i := 89) rfl), rfl⟩
  · exact List.mem_filter.mpr ⟨List.mem_append_right _ (List.mem_of_getElem? (i := 91) rfl), rfl⟩
set_option maxRecDepth 20000 in
theorem uw_M : ∀ w ∈ u_ws R_M F_M 12, w ∈ WB := by
  intro w hw
  obtain ⟨k, hk, rfl⟩ := List.mem_map.mp hw
  have hk := List.mem_range.mp hk
  rcases (show k = 0 ∨ k = 1 ∨ k = 2 ∨ k = 3 ∨ k = 4 ∨ k = 5 ∨ k = 6 ∨ k = 7 ∨ k = 8 ∨ k = 9 ∨ k = 10 ∨ k = 11 by omega) with rfl | rfl | rfl | rfl | rfl | rfl | rfl | rfl | rfl | rfl | rfl | rfl
  · exact List.mem_filter.mpr ⟨List.mem_append_right _ (List.mem_of_getElem? (i := 537) rfl), rfl⟩
  · exact List.mem_filter.mpr ⟨List.mem_append_right _ (List.mem_of_getElem? (i := 539) rfl), rfl⟩
  · exact List.mem_filter.mpr ⟨List.mem_append_right _ (List.mem_of_getElem? (i := 541) rfl), rfl⟩
  · exact List.mem_filter.mpr ⟨List.mem_append_right _ (List.mem_of_getElem? (i := 543) rfl), rfl⟩
  · exact List.mem_filter.mpr ⟨List.mem_append_right _ (List.mem_of_getElem? (i := 545) rfl), rfl⟩
  · exact List.mem_filter.mpr ⟨List.mem_append_right _ (List.mem_of_getElem? (i := 547) rfl), rfl⟩
  · exact List.mem_filter.mpr ⟨List.mem_append_right _ (List.mem_of_getElem? (i := 549) rfl), rfl⟩
  · exact List.mem_filter.mpr ⟨List.mem_append_right _ (List.mem_of_getElem? (i := 551) rfl), rfl⟩
  · exact List.mem_filter.mpr ⟨List.mem_append_right _ (List.mem_of_getElem? (i := 553) rfl), rfl⟩
  · exact List.mem_filter.mpr ⟨List.mem_append_right _ (List.mem_of_getElem? (i := 555) rfl), rfl⟩
  · exact List.mem_filter.mpr ⟨List.mem_append_right _ (List.mem_of_getElem? (i := 557) rfl), rfl⟩
  · exact List.mem_filter.mpr ⟨List.mem_append_right _ (List.mem_of_getElem? (i := 559) rfl), rfl⟩
theorem ws_D_automatonAt : Cond.selects "OmegaDesk" ⟨"OmegaDesk", "automatonAt", "(I)LOmegaDesk$Automaton;"⟩ ⟨"OmegaDesk", "automatonAt", "(I)LOmegaDesk$Automaton;"⟩ ∈ WB := List.mem_filter.mpr ⟨List.mem_append_left _ (List.mem_of_getElem? (i := 0) rfl), rfl⟩
theorem ws_D_automatonWithPlaces : Cond.selects "OmegaDesk" ⟨"OmegaDesk", "automatonWithPlaces", "(IIII)LOmegaDesk$Automaton;"⟩ ⟨"OmegaDesk", "automatonWithPlaces", "(IIII)LOmegaDesk$Automaton;"⟩ ∈ WB := List.mem_filter.mpr ⟨List.mem_append_left _ (List.mem_of_getElem? (i := 2) rfl), rfl⟩
theorem ws_A_joinAll : Cond.selects "OmegaDesk$Automaton" ⟨"OmegaDesk$Automaton", "joinAll", "(III)V"⟩ ⟨"OmegaDesk$Automaton", "joinAll", "(III)V"⟩ ∈ WB := List.mem_filter.mpr ⟨List.mem_append_left _ (List.mem_of_getElem? (i := 3) rfl), rfl⟩
theorem ws_R_reset : Cond.selects "OmegaDesk$Refuter" ⟨"OmegaDesk$Refuter", "reset", "()V"⟩ ⟨"OmegaDesk$Refuter", "reset", "()V"⟩ ∈ WB := List.mem_filter.mpr ⟨List.mem_append_left _ (List.mem_of_getElem? (i := 4) rfl), rfl⟩
theorem ws_R_findMeetings : Cond.selects "OmegaDesk$Refuter" ⟨"OmegaDesk$Refuter", "findMeetings", "(LOmegaDesk$Automaton;LOmegaDesk$Automaton;)V"⟩ ⟨"OmegaDesk$Refuter", "findMeetings", "(LOmegaDesk$Automaton;LOmegaDesk$Automaton;)V"⟩ ∈ WB := List.mem_filter.mpr ⟨List.mem_append_left _ (List.mem_of_getElem? (i := 5) rfl), rfl⟩
theorem ws_R_spreadMeeting : Cond.selects "OmegaDesk$Refuter" ⟨"OmegaDesk$Refuter", "spreadMeeting", "(LOmegaDesk$Automaton;LOmegaDesk$Automaton;II)Z"⟩ ⟨"OmegaDesk$Refuter", "spreadMeeting", "(LOmegaDesk$Automaton;LOmegaDesk$Automaton;II)Z"⟩ ∈ WB := List.mem_filter.mpr ⟨List.mem_append_left _ (List.mem_of_getElem? (i := 6) rfl), rfl⟩
theorem ws_R_offer : Cond.selects "OmegaDesk$Refuter" ⟨"OmegaDesk$Refuter", "offer", "(II)I"⟩ ⟨"OmegaDesk$Refuter", "offer", "(II)I"⟩ ∈ WB := List.mem_filter.mpr ⟨List.mem_append_left _ (List.mem_of_getElem? (i := 7) rfl), rfl⟩
theorem ws_R_slotOf : Cond.selects "OmegaDesk$Refuter" ⟨"OmegaDesk$Refuter", "slotOf", "(I)I"⟩ ⟨"OmegaDesk$Refuter", "slotOf", "(I)I"⟩ ∈ WB := List.mem_filter.mpr ⟨List.mem_append_left _ (List.mem_of_getElem? (i := 8) rfl), rfl⟩
theorem ws_R_enqueue : Cond.selects "OmegaDesk$Refuter" ⟨"OmegaDesk$Refuter", "enqueue", "(I)V"⟩ ⟨"OmegaDesk$Refuter", "enqueue", "(I)V"⟩ ∈ WB := List.mem_filter.mpr ⟨List.mem_append_left _ (List.mem_of_getElem? (i := 9) rfl), rfl⟩
theorem ws_R_nextQueued : Cond.selects "OmegaDesk$Refuter" ⟨"OmegaDesk$Refuter", "nextQueued", "()I"⟩ ⟨"OmegaDesk$Refuter", "nextQueued", "()I"⟩ ∈ WB := List.mem_filter.mpr ⟨List.mem_append_left _ (List.mem_of_getElem? (i := 10) rfl), rfl⟩
theorem ws_R_refutesWith : Cond.selects "OmegaDesk$Refuter" ⟨"OmegaDesk$Refuter", "refutesWith", "(II)Z"⟩ ⟨"OmegaDesk$Refuter", "refutesWith", "(II)Z"⟩ ∈ WB := List.mem_filter.mpr ⟨List.mem_append_left _ (List.mem_of_getElem? (i := 11) rfl), rfl⟩
theorem ws_F_searchSplit : Cond.selects "OmegaDesk$LassoFinder" ⟨"OmegaDesk$LassoFinder", "searchSplit", "(II)V"⟩ ⟨"OmegaDesk$LassoFinder", "searchSplit", "(II)V"⟩ ∈ WB := List.mem_filter.mpr ⟨List.mem_append_left _ (List.mem_of_getElem? (i := 12) rfl), rfl⟩
theorem ws_M_add : Cond.selects "OmegaDeskModel" ⟨"OmegaDeskModel", "add", "(IZ)V"⟩ ⟨"OmegaDeskModel", "add", "(IZ)V"⟩ ∈ WB := List.mem_filter.mpr ⟨List.mem_append_left _ (List.mem_of_getElem? (i := 13) rfl), rfl⟩
theorem ws_M_isEdge : Cond.selects "OmegaDeskModel" ⟨"OmegaDeskModel", "isEdge", "(IIII)Z"⟩ ⟨"OmegaDeskModel", "isEdge", "(IIII)Z"⟩ ∈ WB := List.mem_filter.mpr ⟨List.mem_append_left _ (List.mem_of_getElem? (i := 14) rfl), rfl⟩
theorem ws_M_append : Cond.selects "OmegaDeskModel" ⟨"OmegaDeskModel", "append", "(II)V"⟩ ⟨"OmegaDeskModel", "append", "(II)V"⟩ ∈ WB := List.mem_filter.mpr ⟨List.mem_append_left _ (List.mem_of_getElem? (i := 15) rfl), rfl⟩
theorem ws_M_living : Cond.selects "OmegaDeskModel" ⟨"OmegaDeskModel", "living", "(I)I"⟩ ⟨"OmegaDeskModel", "living", "(I)I"⟩ ∈ WB := List.mem_filter.mpr ⟨List.mem_append_left _ (List.mem_of_getElem? (i := 16) rfl), rfl⟩
theorem ws_M_alive : Cond.selects "OmegaDeskModel" ⟨"OmegaDeskModel", "alive", "(II)Z"⟩ ⟨"OmegaDeskModel", "alive", "(II)Z"⟩ ∈ WB := List.mem_filter.mpr ⟨List.mem_append_left _ (List.mem_of_getElem? (i := 17) rfl), rfl⟩
theorem ws_M_ahead : Cond.selects "OmegaDeskModel" ⟨"OmegaDeskModel", "ahead", "(II)I"⟩ ⟨"OmegaDeskModel", "ahead", "(II)I"⟩ ∈ WB := List.mem_filter.mpr ⟨List.mem_append_left _ (List.mem_of_getElem? (i := 18) rfl), rfl⟩
theorem ws_M_lasso : Cond.selects "OmegaDeskModel" ⟨"OmegaDeskModel", "lasso", "(IIIII)Z"⟩ ⟨"OmegaDeskModel", "lasso", "(IIIII)Z"⟩ ∈ WB := List.mem_filter.mpr ⟨List.mem_append_left _ (List.mem_of_getElem? (i := 19) rfl), rfl⟩
theorem ws_M_allBehind : Cond.selects "OmegaDeskModel" ⟨"OmegaDeskModel", "allBehind", "(IJIIII)J"⟩ ⟨"OmegaDeskModel", "allBehind", "(IJIIII)J"⟩ ∈ WB := List.mem_filter.mpr ⟨List.mem_append_left _ (List.mem_of_getElem? (i := 20) rfl), rfl⟩
theorem ws_M_behind : Cond.selects "OmegaDeskModel" ⟨"OmegaDeskModel", "behind", "(IJIIII)J"⟩ ⟨"OmegaDeskModel", "behind", "(IJIIII)J"⟩ ∈ WB := List.mem_filter.mpr ⟨List.mem_append_left _ (List.mem_of_getElem? (i := 21) rfl), rfl⟩
theorem ws_M_differs : Cond.selects "OmegaDeskModel" ⟨"OmegaDeskModel", "differs", "(II)Z"⟩ ⟨"OmegaDeskModel", "differs", "(II)Z"⟩ ∈ WB := List.mem_filter.mpr ⟨List.mem_append_left _ (List.mem_of_getElem? (i := 22) rfl), rfl⟩
theorem ws_M_begin : Cond.selects "OmegaDeskModel" ⟨"OmegaDeskModel", "begin", "(II)V"⟩ ⟨"OmegaDeskModel", "begin", "(II)V"⟩ ∈ WB := List.mem_filter.mpr ⟨List.mem_append_left _ (List.mem_of_getElem? (i := 23) rfl), rfl⟩
theorem ws_M_goOn : Cond.selects "OmegaDeskModel" ⟨"OmegaDeskModel", "goOn", "(IIII)Z"⟩ ⟨"OmegaDeskModel", "goOn", "(IIII)Z"⟩ ∈ WB := List.mem_filter.mpr ⟨List.mem_append_left _ (List.mem_of_getElem? (i := 24) rfl), rfl⟩
theorem ws_M_gather : Cond.selects "OmegaDeskModel" ⟨"OmegaDeskModel", "gather", "(III)V"⟩ ⟨"OmegaDeskModel", "gather", "(III)V"⟩ ∈ WB := List.mem_filter.mpr ⟨List.mem_append_left _ (List.mem_of_getElem? (i := 25) rfl), rfl⟩
theorem ws_M_lead : Cond.selects "OmegaDeskModel" ⟨"OmegaDeskModel", "lead", "(III)V"⟩ ⟨"OmegaDeskModel", "lead", "(III)V"⟩ ∈ WB := List.mem_filter.mpr ⟨List.mem_append_left _ (List.mem_of_getElem? (i := 26) rfl), rfl⟩
theorem ws_M_spread : Cond.selects "OmegaDeskModel" ⟨"OmegaDeskModel", "spread", "(I)V"⟩ ⟨"OmegaDeskModel", "spread", "(I)V"⟩ ∈ WB := List.mem_filter.mpr ⟨List.mem_append_left _ (List.mem_of_getElem? (i := 27) rfl), rfl⟩
theorem ws_M_longer : Cond.selects "OmegaDeskModel" ⟨"OmegaDeskModel", "longer", "(II)I"⟩ ⟨"OmegaDeskModel", "longer", "(II)I"⟩ ∈ WB := List.mem_filter.mpr ⟨List.mem_append_left _ (List.mem_of_getElem? (i := 28) rfl), rfl⟩
theorem ws_M_taken : Cond.selects "OmegaDeskModel" ⟨"OmegaDeskModel", "taken", "(II)I"⟩ ⟨"OmegaDeskModel", "taken", "(II)I"⟩ ∈ WB := List.mem_filter.mpr ⟨List.mem_append_left _ (List.mem_of_getElem? (i := 29) rfl), rfl⟩
theorem ws_M_look : Cond.selects "OmegaDeskModel" ⟨"OmegaDeskModel", "look", "(III)Z"⟩ ⟨"OmegaDeskModel", "look", "(III)Z"⟩ ∈ WB := List.mem_filter.mpr ⟨List.mem_append_left _ (List.mem_of_getElem? (i := 30) rfl), rfl⟩
theorem ws_M_fail : Cond.selects "OmegaDeskModel" ⟨"OmegaDeskModel", "fail", "(I)I"⟩ ⟨"OmegaDeskModel", "fail", "(I)I"⟩ ∈ WB := List.mem_filter.mpr ⟨List.mem_append_left _ (List.mem_of_getElem? (i := 31) rfl), rfl⟩
end
section
/-! my own engine: a pure machine over the kit's judgements. A cell has a name (kind, number); a reference is a cell's name; the memory holds ints and longs alone, the shape of the world stands. -/
abbrev PV : Type := Int32 ⊕ (Int64 ⊕ (Nat × Nat))
abbrev Mm : Type := (Nat × Nat → Nat → Int32) × (Nat × Nat → Nat → Int64)
abbrev AD : Type := Nat × Nat → Nat
abbrev Zc : Type := Nat × Nat × Nat
abbrev vi (x : Int32) : PV := Sum.inl x
abbrev vl (x : Int64) : PV := Sum.inr (Sum.inl x)
abbrev vr (k j : Nat) : PV := Sum.inr (Sum.inr (k, j))
def tv (ad : AD) (v : PV) : Value := match v with
  | .inl x => .int x
  | .inr (.inl x) => .long x
  | .inr (.inr c) => .ref (ad c)
def pcat (v : PV) : Nat := match v with
  | .inl _ => 1
  | .inr (.inl _) => 2
  | .inr (.inr _) => 1
theorem tv_cat (ad : AD) (v : PV) : (tv ad v).category = pcat v := by
  rcases v with x | x | x <;> rfl
-- int arrays: 0-6 followers (6: the spare one's), 7 keys, 8 seenWays, 9 freshWays, 10 queue, 11 meetings, 12-15 passages and takenRepeated of the two tables, 16 to, 17 good, 18 size, 19 witness, 20 digit, 21 after, 22 beginnings
def lenI (n : Nat) : Nat := if n < 7 then 32 else if n < 11 then 1024 else if n = 11 then 4 else if n < 16 then 512 else if n = 16 then 48 else if n < 19 then 6 else if n = 19 then 4 else if n < 22 then 9 else 4
-- long arrays: 0 seen, 1 fresh, 2 coming, 3 the law's out
def lenL (n : Nat) : Nat := if n < 3 then 2461 else 1
-- kinds: 0 Automaton, 1 int[], 2 long[], 3 OmegaDesk, 4 Automaton[], 5 Refuter, 6 LassoFinder, 7 WordTable, 8 OmegaDeskModel
def fl (f : Nat → Int32) (c : Nat × Nat) : List PV := match c.1 with
  | 0 => [vi (f 0), vi (f 1), vr 1 c.2]
  | 3 => [vr 4 0, vr 0 6, vr 5 0, vr 6 0]
  | 5 => [vr 1 7, vr 1 8, vr 1 9, vr 1 10, vi (f 4), vi (f 5), vr 1 11]
  | 6 => [vr 7 0, vr 7 1, vi (f 2), vi (f 3), vi (f 4), vi (f 5), vi (f 6)]
  | 7 => [vr 1 (12 + 2 * c.2), vr 1 (13 + 2 * c.2)]
  | _ => [vi (f 0), vr 1 16, vr 1 17, vr 1 18, vi (f 4), vr 1 19, vr 2 0, vr 2 1, vr 2 2, vr 1 20, vr 1 21, vr 1 22]
def cix (k : Nat) : Nat := match k with
  | 0 => 0
  | 3 => 1
  | 5 => 2
  | 6 => 3
  | 7 => 4
  | _ => 5
def smap (ad : AD) (st : List PV) : List Value := st.map (tv ad)
def lmap (ad : AD) (L : List (Nat × PV)) : List (Nat × Value) := L.map (fun q => (q.1, tv ad q.2))
def ent (ad : AD) (z : Zc) (f : Nat → Int32) (g : Nat → Int64) (c : Nat × Nat) : va_E := match c.1 with
  | 1 => .inl (z.1, lenI c.2, .inl f)
  | 2 => .inl (z.2.1, lenL c.2, .inr (.inl g))
  | 4 => .inl (z.2.2, 6, .inr (.inr (.inr (.inr (fun i => some (ad (0, i)))))))
  | k => .inr (cix k, smap ad (fl f c))
def allc : List (Nat × Nat) := [(0, 0), (0, 1), (0, 2), (0, 3), (0, 4), (0, 5), (0, 6), (1, 0), (1, 1), (1, 2), (1, 3), (1, 4), (1, 5), (1, 6), (1, 7), (1, 8), (1, 9), (1, 10), (1, 11), (1, 12), (1, 13), (1, 14), (1, 15), (1, 16), (1, 17), (1, 18), (1, 19), (1, 20), (1, 21), (1, 22), (2, 0), (2, 1), (2, 2), (2, 3), (3, 0), (4, 0), (5, 0), (6, 0), (7, 0), (7, 1), (8, 0)]
def posc (c : Nat × Nat) : Nat := match c.1 with
  | 0 => c.2
  | 1 => 7 + c.2
  | 2 => 30 + c.2
  | 7 => 38 + c.2
  | 8 => 40
  | k => 31 + k
theorem posc_all : ∀ i, i < 41 → (allc[i]?).map posc = some i := by decide
theorem allc_inj {i j : Nat} {c : Nat × Nat} (h1 : allc[i]? = some c) (h2 : allc[j]? = some c) : i = j := by
  have a := posc_all i (List.getElem?_eq_some_iff.mp h1).1
  have b := posc_all j (List.getElem?_eq_some_iff.mp h2).1
  rw [h1] at a
  rw [h2] at b
  exact (Option.some.inj a).symm.trans (Option.some.inj b)
theorem ok0 {j : Nat} (h : j < 7) : (0, j) ∈ allc := by
  rcases (show j = 0 ∨ j = 1 ∨ j = 2 ∨ j = 3 ∨ j = 4 ∨ j = 5 ∨ j = 6 by omega) with rfl | rfl | rfl | rfl | rfl | rfl | rfl <;> decide
theorem ok1 {j : Nat} (h : j < 23) : (1, j) ∈ allc := by
  have hh : ∀ i, i < 23 → (1, i) ∈ allc := by decide
  exact hh j h
theorem ok2 {j : Nat} (h : j < 4) : (2, j) ∈ allc := by
  have hh : ∀ i, i < 4 → (2, i) ∈ allc := by decide
  exact hh j h
theorem ok7 {j : Nat} (h : j < 2) : (7, j) ∈ allc := by
  have hh : ∀ i, i < 2 → (7, i) ∈ allc := by decide
  exact hh j h
def wd (ad : AD) (z : Zc) (M : Mm) : va_W := allc.map (fun c => (ad c, ent ad z (M.1 c) (M.2 c) c))
theorem wd_at {ad : AD} {z : Zc} {M : Mm} {c : Nat × Nat} (h : c ∈ allc) : ∃ q : Nat, (wd ad z M)[q]? = some (ad c, ent ad z (M.1 c) (M.2 c) c) ∧ allc[q]? = some c := by
  obtain ⟨q, hq⟩ := List.getElem?_of_mem h
  exact ⟨q, by simp [wd, hq], hq⟩
theorem wd_set {ad : AD} {z : Zc} {M M' : Mm} {c : Nat × Nat} {q : Nat} (hq : allc[q]? = some c) (h1 : ∀ c', c' ≠ c → M'.1 c' = M.1 c' ∧ M'.2 c' = M.2 c') {e : va_E} (he : e = ent ad z (M'.1 c) (M'.2 c) c) : (wd ad z M).set q (ad c, e) = wd ad z M' := by
  subst he
  apply List.ext_getElem?
  intro i
  by_cases hi : i = q
  · subst hi
    have hl : i < (wd ad z M).length := by
      have := (List.getElem?_eq_some_iff.mp hq).1
      simpa [wd] using this
    rw [List.getElem?_set_self hl]
    simp [wd, hq]
  · rw [List.getElem?_set_ne (Ne.symm hi)]
    simp only [wd, List.getElem?_map]
    cases hc : allc[i]? with
    | none => rfl
    | some c' =>
      have hne : c' ≠ c := by
        intro h
        subst h
        exact hi (allc_inj hc hq)
      obtain ⟨a, b⟩ := h1 c' hne
      show some (ad c', ent ad z (M.1 c') (M.2 c') c') = some (ad c', ent ad z (M'.1 c') (M'.2 c') c')
      rw [a, b]
def uI (M : Mm) (c : Nat × Nat) (k : Nat) (v : Int32) : Mm := (fun c' => if c' = c then upd (M.1 c) k v else M.1 c', M.2)
def uL (M : Mm) (c : Nat × Nat) (k : Nat) (v : Int64) : Mm := (M.1, fun c' => if c' = c then vp_updL (M.2 c) k v else M.2 c')
theorem uI_self (M : Mm) (c : Nat × Nat) (k : Nat) (v : Int32) : (uI M c k v).1 c = upd (M.1 c) k v := if_pos rfl
theorem uI_ne (M : Mm) {c c' : Nat × Nat} (k : Nat) (v : Int32) (h : c' ≠ c) : (uI M c k v).1 c' = M.1 c' := if_neg h
theorem uL_self (M : Mm) (c : Nat × Nat) (k : Nat) (v : Int64) : (uL M c k v).2 c = vp_updL (M.2 c) k v := if_pos rfl
theorem uL_ne (M : Mm) {c c' : Nat × Nat} (k : Nat) (v : Int64) (h : c' ≠ c) : (uL M c k v).2 c' = M.2 c' := if_neg h
abbrev tz (z : Zc) : List (ClassId × FieldType) := [(z.1, .int), (z.2.1, .long), (z.2.2, .object "OmegaDesk$Automaton")]
/-! instruction lengths, a method's table, a method -/
def ilen (i : Jvm.ClassFile.Instr) : Nat := match i with
  | .aload _ | .iload _ | .lload _ | .istore _ | .lstore _ | .astore _ | .bipush _ | .ldc _ | .newarray _ => 2
  | .sipush _ | .ldc_w _ | .ldc2_w _ | .getfield _ | .putfield _ | .getstatic _ | .invokevirtual _ | .invokespecial _ | .invokestatic _ | .new _ | .anewarray _ | .if_icmp _ _ | .ifCond _ _ | .goto _ | .iinc _ _ | .checkcast _ | .instanceof _ | .ifnull _ | .ifnonnull _ | .if_acmp _ _ => 3
  | _ => 1
abbrev Tb : Type := List (Nat × Jvm.ClassFile.Instr × Nat)
def tbq (cc : ByteArray) (q : Nat × Jvm.ClassFile.Instr × Nat) : Bool := match decode cc q.1 with
  | .ok (i, n) => decide (i = q.2.1) && (decide (n = ilen q.2.1) && decide (q.2.2 = q.1 + ilen q.2.1))
  | .error _ => false
def TBk (cc : ByteArray) (tb : Tb) : Prop := tb.all (tbq cc) = true
theorem TBk.at {cc : ByteArray} {tb : Tb} (h : TBk cc tb) {k pc pc' : Nat} {i : Jvm.ClassFile.Instr} (hk : tb[k]? = some (pc, i, pc')) : decode cc pc = .ok (i, ilen i) ∧ pc' = pc + ilen i := by
  have h1 : tbq cc (pc, i, pc') = true := List.all_eq_true.mp h _ (List.mem_of_getElem? hk)
  unfold tbq at h1
  cases hd : decode cc pc with
  | error e => simp only [hd] at h1; cases h1
  | ok r =>
    obtain ⟨i', n⟩ := r
    simp only [hd, Bool.and_eq_true, decide_eq_true_eq] at h1
    obtain ⟨rfl, rfl, e3⟩ := h1
    exact ⟨rfl, e3⟩
abbrev MX : Type := MethodName × ByteArray × Nat × Option FieldType × Room × Tb
abbrev xy (X : MX) : MethodName := X.1
abbrev xc (X : MX) : ByteArray := X.2.1
abbrev xn (X : MX) : Nat := X.2.2.1
abbrev xr (X : MX) : Option FieldType := X.2.2.2.1
abbrev xm (X : MX) : Room := X.2.2.2.2.1
abbrev xt (X : MX) : Tb := X.2.2.2.2.2
def xw (X : MX) : List Cond := Cond.code (xy X) (xc X) (xn X) (xr X) :: WB
/-- what is known of a method once for all -/
def Mk (X : MX) : Prop := TBk (xc X) (xt X) ∧ plainName (xy X).cls = true ∧ Cond.code (xy X) (xc X) (xn X) (xr X) ∈ WB ∧ ((xy X).cls ≠ "java/lang/invoke/MethodHandle" ∧ (xy X).cls ≠ "java/lang/invoke/VarHandle") ∧ (xm X).cells = 0 ∧ (xm X).slots = 0 ∧ Cond.initialized (xy X).cls ∈ WB
theorem gi_of {X Y : MX} (hY : Mk Y) : GoodIn (xw X) (xw Y) := by
  intro w hw
  rcases List.mem_cons.mp hw with rfl | hw
  · exact ⟨List.mem_cons_of_mem _ hY.2.2.1, good_of_word (List.mem_filter.mp hY.2.2.1).2⟩
  · exact ⟨List.mem_cons_of_mem _ hw, good_of_word (List.mem_filter.mp hw).2⟩
/-- nest mates' links: they stand over the warming of the tables -/
def nestW (w : Cond) : Bool := match w with
  | .fieldLinkNest .. => true
  | .methodLinkNest .. => true
  | _ => false
theorem NW_nest : ∀ w ∈ NW, nestW w = true := by
  intro w hw
  have h : NW.all nestW = true := by decide +kernel
  exact List.all_eq_true.mp h w hw
theorem nw_warm {s U : State} (hW : s.WarmedH U.vm) (h : ∀ w ∈ NW, va_Nw w s) : ∀ w ∈ NW, va_Nw w U := by
  intro w hw
  have h1 := h w hw
  have h2 := NW_nest w hw
  cases w <;> first | exact va_Nw.warmF hW h1 | exact va_Nw.warmM hW h1 | (exact absurd h2 (by simp [nestW]))
theorem nw_same {s U : State} (hv : s.vm = U.vm) (h : ∀ w ∈ NW, va_Nw w s) : ∀ w ∈ NW, va_Nw w U := by
  intro w hw
  have h1 := h w hw
  have h2 := NW_nest w hw
  cases w <;> first | exact va_Nw.same rfl hv h1 | (exact absurd h2 (by simp [nestW]))
def gQ (D : va_G) (ad : AD) (z : Zc) (post : Option PV → Mm → Prop) (A : Nat → Prop) : Array Value → State → Outcome → State → Prop := fun _ st oc t =>
  (∃ (r : Option PV) (M' : Mm), oc = .returned (r.map (tv ad)) ∧ post r M' ∧ va_P D classes (wd ad z M') t.heap ∧ va_K D classes (tz z) t ∧ va_D A (wd ad z M')) ∧ va_F A st t
def PreW (D : va_G) (ad : AD) (z : Zc) (M : Mm) (sz : Nat) (U : State) : Prop := U.heap.size = sz ∧ (∀ w ∈ NW, va_Nw w U) ∧ va_P D classes (wd ad z M) U.heap ∧ va_K D classes (tz z) U ∧ va_D (fun _ => True) (wd ad z M)
/-- the contract of a method of the machine -/
def Ev (l : Launch) (X : MX) (av : List PV) (M : Mm) (post : Option PV → Mm → Prop) : Prop :=
  ∀ (D : va_G) (ad : AD) (z : Zc) (sz : Nat), Met l (xy X) (xw X) (xm X) (va_Pc (smap ad av) (PreW D ad z M sz)) (gQ D ad z post (va_A (wd ad z M) sz)) 0 0 (va_A (wd ad z M) sz)
def Cx (X : MX) (D : va_G) (ad : AD) (z : Zc) (p : Program) (s : State) (m : MethodId) (args : Array Value) (meth : Method) (c : Code) (A : Nat → Prop) : Prop :=
  TBk (xc X) (xt X) ∧ CallFix p m c (xc X) (xn X) s args (xw X) (xy X).cls ∧ meth.sig.returnType = xr X ∧ meth.locks = false ∧ (∀ w ∈ NW, va_Nw w s) ∧ va_K D classes (tz z) s ∧ (∀ q, s.heap.size ≤ q → A q)
def Hw (D : va_G) (ad : AD) (z : Zc) (s : State) (A : Nat → Prop) (M : Mm) (H : Heap) (locs : List Loc) : Prop := va_P D classes (wd ad z M) H ∧ va_D A (wd ad z M) ∧ va_S A s.heap H locs
/-- the machine goes on from here to an end with 'post' -/
def Go (l : Launch) (X : MX) (post : Option PV → Mm → Prop) (pc : Nat) (L : List (Nat × PV)) (st : List PV) (M : Mm) : Prop :=
  ∀ (D : va_G) (ad : AD) (z : Zc) (p : Program) (e : Env) (s : State) (m : MethodId) (args : Array Value) (below : List Frame) (meth : Method) (c : Code) (H : Heap) (locs : List Loc) (ls : Array Slot) (A : Nat → Prop),
    Cx X D ad z p s m args meth c A → lv_has ls (xn X) (lmap ad L) → Hw D ad z s A M H locs → W p l e (xm X) s m args below meth c H locs 0 0 (MQ below (gQ D ad z post A) args s 0 0 A) (F0 m pc ls (smap ad st))
theorem Ev.of {l : Launch} {X : MX} {av : List PV} {M : Mm} {post : Option PV → Mm → Prop} (hX : Mk X) (L : List (Nat × PV)) (hL : ∀ ad : AD, lv_args 0 (smap ad av) = lmap ad L) (hn : ∀ ad : AD, (lg_sl (smap ad av)).length ≤ xn X) (g : Go l X post 0 L [] M) : Ev l X av M post := by
  intro D ad z sz
  refine Met.ofW (cc := xc X) (maxL := xn X) (ret := xr X) hX.2.1 rfl ?_
  intro p e s m args below meth c s₁ B hml hv
  obtain ⟨rfl, hsz, hN, hP, hK, hD0⟩ := hv
  subst hsz
  have hts := atoms_spec (ws := xw X) B.pre
  have hl := lv_entry (smap ad av) (n := xn X) (hn ad)
  rw [lg_entry_eq]
  generalize (lg_sl (smap ad av) ++ List.replicate (xn X - (lg_sl (smap ad av)).length) Slot.unset).toArray = ls at hl ⊢
  rw [hL ad] at hl
  exact g D ad z p e s m _ below meth c s.heap [] ls (va_A (wd ad z M) s.heap.size) ⟨hX.1, ⟨B.exec, B.bytes, hml, findClass_of_methodNamed B.named, hts⟩, B.returns, B.notSynchronized, hN, hK, fun q h => Or.inr h⟩ hl ⟨hP, hD0.self, va_S.rf⟩
section EN
variable {l : Launch} {X : MX} {post : Option PV → Mm → Prop} {pc pc' : Nat} {L : List (Nat × PV)} {st : List PV} {M : Mm}
theorem Go.mono {post' : Option PV → Mm → Prop} (h : ∀ r M', post' r M' → post r M') (g : Go l X post' pc L st M) : Go l X post pc L st M := by
  intro D ad z p e s m args below meth c H locs ls A C hl hW T hT S
  obtain ⟨t, a, o, b1, b2, b3, b4⟩ := g D ad z p e s m args below meth c H locs ls A C hl hW T hT S
  obtain ⟨⟨r, M', c1, c2, c3⟩, c4⟩ := b3
  exact ⟨t, a, o, b1, b2, ⟨⟨r, M', c1, h r M' c2, c3⟩, c4⟩, b4⟩
/-- fewer locals, or in another order: by their places -/
theorem go_sub (ks : List Nat) {L' : List (Nat × PV)} (h : ks.filterMap (fun k => L[k]?) = L') (g : Go l X post pc L' st M) : Go l X post pc L st M := by
  intro D ad z p e s m args below meth c H locs ls A C hl hW
  refine g D ad z p e s m args below meth c H locs ls A C ⟨hl.1, hl.2.1, fun q hq => hl.2.2 q ?_⟩ hW
  subst h
  obtain ⟨q0, h0, rfl⟩ := List.mem_map.mp hq
  obtain ⟨k, -, hk⟩ := List.mem_filterMap.mp h0
  exact List.mem_map.mpr ⟨q0, List.mem_of_getElem? hk, rfl⟩
theorem go_iadd {x y : Int32} (k : Nat) (hk : (xt X)[k]? = some (pc, .iadd, pc')) (g : Go l X post pc' L (vi (x + y) :: st) M) : Go l X post pc L (vi y :: vi x :: st) M := by
  intro D ad z p e s m args below meth c H locs ls A C hl hW
  obtain ⟨d, e1⟩ := C.1.at hk
  subst e1
  exact lv_iadd (x := x) (y := y) (rest := smap ad st) C.2.1.1 C.2.1.2.1 d (g D ad z p e s m args below meth c H locs ls A C hl hW)
theorem go_isub {x y : Int32} (k : Nat) (hk : (xt X)[k]? = some (pc, .isub, pc')) (g : Go l X post pc' L (vi (x - y) :: st) M) : Go l X post pc L (vi y :: vi x :: st) M := by
  intro D ad z p e s m args below meth c H locs ls A C hl hW
  obtain ⟨d, e1⟩ := C.1.at hk
  subst e1
  exact lv_isub (x := x) (y := y) (rest := smap ad st) C.2.1.1 C.2.1.2.1 d (g D ad z p e s m args below meth c H locs ls A C hl hW)
theorem go_imul {x y : Int32} (k : Nat) (hk : (xt X)[k]? = some (pc, .imul, pc')) (g : Go l X post pc' L (vi (x * y) :: st) M) : Go l X post pc L (vi y :: vi x :: st) M := by
  intro D ad z p e s m args below meth c H locs ls A C hl hW
  obtain ⟨d, e1⟩ := C.1.at hk
  subst e1
  exact lv_imul (x := x) (y := y) (rest := smap ad st) C.2.1.1 C.2.1.2.1 d (g D ad z p e s m args below meth c H locs ls A C hl hW)
theorem go_iand {x y : Int32} (k : Nat) (hk : (xt X)[k]? = some (pc, .iand, pc')) (g : Go l X post pc' L (vi (x &&& y) :: st) M) : Go l X post pc L (vi y :: vi x :: st) M := by
  intro D ad z p e s m args below meth c H locs ls A C hl hW
  obtain ⟨d, e1⟩ := C.1.at hk
  subst e1
  exact lv_iand (x := x) (y := y) (rest := smap ad st) C.2.1.1 C.2.1.2.1 d (g D ad z p e s m args below meth c H locs ls A C hl hW)
theorem go_ior {x y : Int32} (k : Nat) (hk : (xt X)[k]? = some (pc, .ior, pc')) (g : Go l X post pc' L (vi (x ||| y) :: st) M) : Go l X post pc L (vi y :: vi x :: st) M := by
  intro D ad z p e s m args below meth c H locs ls A C hl hW
  obtain ⟨d, e1⟩ := C.1.at hk
  subst e1
  exact lv_ior (x := x) (y := y) (rest := smap ad st) C.2.1.1 C.2.1.2.1 d (g D ad z p e s m args below meth c H locs ls A C hl hW)
theorem go_ixor {x y : Int32} (k : Nat) (hk : (xt X)[k]? = some (pc, .ixor, pc')) (g : Go l X post pc' L (vi (x ^^^ y) :: st) M) : Go l X post pc L (vi y :: vi x :: st) M := by
  intro D ad z p e s m args below meth c H locs ls A C hl hW
  obtain ⟨d, e1⟩ := C.1.at hk
  subst e1
  exact lv_ixor (x := x) (y := y) (rest := smap ad st) C.2.1.1 C.2.1.2.1 d (g D ad z p e s m args below meth c H locs ls A C hl hW)
theorem go_ishl {x y : Int32} (k : Nat) (hk : (xt X)[k]? = some (pc, .ishl, pc')) (g : Go l X post pc' L (vi (x <<< (y &&& 31)) :: st) M) : Go l X post pc L (vi y :: vi x :: st) M := by
  intro D ad z p e s m args below meth c H locs ls A C hl hW
  obtain ⟨d, e1⟩ := C.1.at hk
  subst e1
  exact lv_ishl (x := x) (y := y) (rest := smap ad st) C.2.1.1 C.2.1.2.1 d (g D ad z p e s m args below meth c H locs ls A C hl hW)
theorem go_ishr {x y : Int32} (k : Nat) (hk : (xt X)[k]? = some (pc, .ishr, pc')) (g : Go l X post pc' L (vi (x >>> (y &&& 31)) :: st) M) : Go l X post pc L (vi y :: vi x :: st) M := by
  intro D ad z p e s m args below meth c H locs ls A C hl hW
  obtain ⟨d, e1⟩ := C.1.at hk
  subst e1
  exact lv_ishr (x := x) (y := y) (rest := smap ad st) C.2.1.1 C.2.1.2.1 d (g D ad z p e s m args below meth c H locs ls A C hl hW)
theorem go_iushr {x y : Int32} (k : Nat) (hk : (xt X)[k]? = some (pc, .iushr, pc')) (g : Go l X post pc' L (vi ((x.toUInt32 >>> (y.toUInt32 &&& Int32.toUInt32 31)).toInt32) :: st) M) : Go l X post pc L (vi y :: vi x :: st) M := by
  intro D ad z p e s m args below meth c H locs ls A C hl hW
  obtain ⟨d, e1⟩ := C.1.at hk
  subst e1
  exact lv_iushr (x := x) (y := y) (rest := smap ad st) C.2.1.1 C.2.1.2.1 d rfl (g D ad z p e s m args below meth c H locs ls A C hl hW)
theorem go_idiv {x y : Int32} (k : Nat) (hk : (xt X)[k]? = some (pc, .idiv, pc')) (hne : ¬ y = 0) (g : Go l X post pc' L (vi (x / y) :: st) M) : Go l X post pc L (vi y :: vi x :: st) M := by
  intro D ad z p e s m args below meth c H locs ls A C hl hW
  obtain ⟨d, e1⟩ := C.1.at hk
  subst e1
  exact lv_idiv (x := x) (y := y) (rest := smap ad st) C.2.1.1 C.2.1.2.1 d hne (g D ad z p e s m args below meth c H locs ls A C hl hW)
theorem go_irem {x y : Int32} (k : Nat) (hk : (xt X)[k]? = some (pc, .irem, pc')) (hne : ¬ y = 0) (g : Go l X post pc' L (vi (x - x / y * y) :: st) M) : Go l X post pc L (vi y :: vi x :: st) M := by
  intro D ad z p e s m args below meth c H locs ls A C hl hW
  obtain ⟨d, e1⟩ := C.1.at hk
  subst e1
  exact lv_irem (x := x) (y := y) (rest := smap ad st) C.2.1.1 C.2.1.2.1 d hne (g D ad z p e s m args below meth c H locs ls A C hl hW)
theorem go_ineg {x : Int32} (k : Nat) (hk : (xt X)[k]? = some (pc, .ineg, pc')) (g : Go l X post pc' L (vi (-x) :: st) M) : Go l X post pc L (vi x :: st) M := by
  intro D ad z p e s m args below meth c H locs ls A C hl hW
  obtain ⟨d, e1⟩ := C.1.at hk
  subst e1
  exact lv_ineg (x := x) (rest := smap ad st) C.2.1.1 C.2.1.2.1 d (g D ad z p e s m args below meth c H locs ls A C hl hW)
theorem go_ladd {x y : Int64} (k : Nat) (hk : (xt X)[k]? = some (pc, .ladd, pc')) (g : Go l X post pc' L (vl (x + y) :: st) M) : Go l X post pc L (vl y :: vl x :: st) M := by
  intro D ad z p e s m args below meth c H locs ls A C hl hW
  obtain ⟨d, e1⟩ := C.1.at hk
  subst e1
  exact lv_ladd (x := x) (y := y) (rest := smap ad st) C.2.1.1 C.2.1.2.1 d (g D ad z p e s m args below meth c H locs ls A C hl hW)
theorem go_lsub {x y : Int64} (k : Nat) (hk : (xt X)[k]? = some (pc, .lsub, pc')) (g : Go l X post pc' L (vl (x - y) :: st) M) : Go l X post pc L (vl y :: vl x :: st) M := by
  intro D ad z p e s m args below meth c H locs ls A C hl hW
  obtain ⟨d, e1⟩ := C.1.at hk
  subst e1
  exact lv_lsub (x := x) (y := y) (rest := smap ad st) C.2.1.1 C.2.1.2.1 d (g D ad z p e s m args below meth c H locs ls A C hl hW)
theorem go_lmul {x y : Int64} (k : Nat) (hk : (xt X)[k]? = some (pc, .lmul, pc')) (g : Go l X post pc' L (vl (x * y) :: st) M) : Go l X post pc L (vl y :: vl x :: st) M := by
  intro D ad z p e s m args below meth c H locs ls A C hl hW
  obtain ⟨d, e1⟩ := C.1.at hk
  subst e1
  exact lv_lmul (x := x) (y := y) (rest := smap ad st) C.2.1.1 C.2.1.2.1 d (g D ad z p e s m args below meth c H locs ls A C hl hW)
theorem go_land {x y : Int64} (k : Nat) (hk : (xt X)[k]? = some (pc, .land, pc')) (g : Go l X post pc' L (vl (x &&& y) :: st) M) : Go l X post pc L (vl y :: vl x :: st) M := by
  intro D ad z p e s m args below meth c H locs ls A C hl hW
  obtain ⟨d, e1⟩ := C.1.at hk
  subst e1
  exact lv_land (x := x) (y := y) (rest := smap ad st) C.2.1.1 C.2.1.2.1 d (g D ad z p e s m args below meth c H locs ls A C hl hW)
theorem go_lor {x y : Int64} (k : Nat) (hk : (xt X)[k]? = some (pc, .lor, pc')) (g : Go l X post pc' L (vl (x ||| y) :: st) M) : Go l X post pc L (vl y :: vl x :: st) M := by
  intro D ad z p e s m args below meth c H locs ls A C hl hW
  obtain ⟨d, e1⟩ := C.1.at hk
  subst e1
  exact lv_lor (x := x) (y := y) (rest := smap ad st) C.2.1.1 C.2.1.2.1 d (g D ad z p e s m args below meth c H locs ls A C hl hW)
theorem go_lxor {x y : Int64} (k : Nat) (hk : (xt X)[k]? = some (pc, .lxor, pc')) (g : Go l X post pc' L (vl (x ^^^ y) :: st) M) : Go l X post pc L (vl y :: vl x :: st) M := by
  intro D ad z p e s m args below meth c H locs ls A C hl hW
  obtain ⟨d, e1⟩ := C.1.at hk
  subst e1
  exact lv_lxor (x := x) (y := y) (rest := smap ad st) C.2.1.1 C.2.1.2.1 d (g D ad z p e s m args below meth c H locs ls A C hl hW)
theorem go_lushr {x : Int64} {y : Int32} (k : Nat) (hk : (xt X)[k]? = some (pc, .lushr, pc')) (g : Go l X post pc' L (vl ((x.toUInt64 >>> (y.toInt64.toUInt64 &&& Int64.toUInt64 63)).toInt64) :: st) M) : Go l X post pc L (vi y :: vl x :: st) M := by
  intro D ad z p e s m args below meth c H locs ls A C hl hW
  obtain ⟨d, e1⟩ := C.1.at hk
  subst e1
  exact lv_lushr (x := x) (y := y) (rest := smap ad st) C.2.1.1 C.2.1.2.1 d rfl (g D ad z p e s m args below meth c H locs ls A C hl hW)
theorem go_lshl {x : Int64} {y : Int32} (k : Nat) (hk : (xt X)[k]? = some (pc, .lshl, pc')) (g : Go l X post pc' L (vl (x <<< (y.toInt64 &&& 63)) :: st) M) : Go l X post pc L (vi y :: vl x :: st) M := by
  intro D ad z p e s m args below meth c H locs ls A C hl hW
  obtain ⟨d, e1⟩ := C.1.at hk
  subst e1
  exact lv_lshl (x := x) (y := y) (rest := smap ad st) C.2.1.1 C.2.1.2.1 d rfl (g D ad z p e s m args below meth c H locs ls A C hl hW)
theorem go_lshr {x : Int64} {y : Int32} (k : Nat) (hk : (xt X)[k]? = some (pc, .lshr, pc')) (g : Go l X post pc' L (vl (x >>> (y.toInt64 &&& 63)) :: st) M) : Go l X post pc L (vi y :: vl x :: st) M := by
  intro D ad z p e s m args below meth c H locs ls A C hl hW
  obtain ⟨d, e1⟩ := C.1.at hk
  subst e1
  exact lv_lshr (x := x) (y := y) (rest := smap ad st) C.2.1.1 C.2.1.2.1 d rfl (g D ad z p e s m args below meth c H locs ls A C hl hW)
theorem go_i2l {x : Int32} (k : Nat) (hk : (xt X)[k]? = some (pc, .i2l, pc')) (g : Go l X post pc' L (vl x.toInt64 :: st) M) : Go l X post pc L (vi x :: st) M := by
  intro D ad z p e s m args below meth c H locs ls A C hl hW
  obtain ⟨d, e1⟩ := C.1.at hk
  subst e1
  exact lv_i2l (x := x) (rest := smap ad st) C.2.1.1 C.2.1.2.1 d rfl (g D ad z p e s m args below meth c H locs ls A C hl hW)
theorem go_l2i {x : Int64} (k : Nat) (hk : (xt X)[k]? = some (pc, .l2i, pc')) (g : Go l X post pc' L (vi x.toInt32 :: st) M) : Go l X post pc L (vl x :: st) M := by
  intro D ad z p e s m args below meth c H locs ls A C hl hW
  obtain ⟨d, e1⟩ := C.1.at hk
  subst e1
  exact lv_l2i (x := x) (rest := smap ad st) C.2.1.1 C.2.1.2.1 d rfl (g D ad z p e s m args below meth c H locs ls A C hl hW)
theorem go_lcmp {x y : Int64} (k : Nat) (hk : (xt X)[k]? = some (pc, .lcmp, pc')) (g : Go l X post pc' L (vi (lg_cmp x y) :: st) M) : Go l X post pc L (vl y :: vl x :: st) M := by
  intro D ad z p e s m args below meth c H locs ls A C hl hW
  obtain ⟨d, e1⟩ := C.1.at hk
  subst e1
  exact W.lcmp (x := x) (y := y) (rest := smap ad st) C.2.1.1 C.2.1.2.1 d (g D ad z p e s m args below meth c H locs ls A C hl hW)
theorem go_iconst {n : Int} (v : Int32) (k : Nat) (hk : (xt X)[k]? = some (pc, .iconst n, pc')) (hv : Int32.ofInt n = v) (g : Go l X post pc' L (vi v :: st) M) : Go l X post pc L (st) M := by
  intro D ad z p e s m args below meth c H locs ls A C hl hW
  obtain ⟨d, e1⟩ := C.1.at hk
  subst e1
  exact lv_iconst (rest := smap ad st) C.2.1.1 C.2.1.2.1 d hv (g D ad z p e s m args below meth c H locs ls A C hl hW)
theorem go_bipush {n : Int} (v : Int32) (k : Nat) (hk : (xt X)[k]? = some (pc, .bipush n, pc')) (hv : (Int8.ofInt n).toInt32 = v) (g : Go l X post pc' L (vi v :: st) M) : Go l X post pc L (st) M := by
  intro D ad z p e s m args below meth c H locs ls A C hl hW
  obtain ⟨d, e1⟩ := C.1.at hk
  subst e1
  exact lv_bipush (rest := smap ad st) C.2.1.1 C.2.1.2.1 d hv (g D ad z p e s m args below meth c H locs ls A C hl hW)
theorem go_sipush {n : Int} (v : Int32) (k : Nat) (hk : (xt X)[k]? = some (pc, .sipush n, pc')) (hv : (Int16.ofInt n).toInt32 = v) (g : Go l X post pc' L (vi v :: st) M) : Go l X post pc L (st) M := by
  intro D ad z p e s m args below meth c H locs ls A C hl hW
  obtain ⟨d, e1⟩ := C.1.at hk
  subst e1
  exact lv_sipush (rest := smap ad st) C.2.1.1 C.2.1.2.1 d hv (g D ad z p e s m args below meth c H locs ls A C hl hW)
theorem go_lconst {n : Fin 2} (v : Int64) (k : Nat) (hk : (xt X)[k]? = some (pc, .lconst n, pc')) (hv : Int64.ofNat (n : Nat) = v) (g : Go l X post pc' L (vl v :: st) M) : Go l X post pc L (st) M := by
  intro D ad z p e s m args below meth c H locs ls A C hl hW
  obtain ⟨d, e1⟩ := C.1.at hk
  subst e1
  exact lv_lconst (rest := smap ad st) C.2.1.1 C.2.1.2.1 d hv (g D ad z p e s m args below meth c H locs ls A C hl hW)
theorem go_ldc {n : Nat} (v : Int32) (k : Nat) (hk : (xt X)[k]? = some (pc, .ldc n, pc')) (hv : Cond.constant (xy X).cls n v ∈ WB) (g : Go l X post pc' L (vi v :: st) M) : Go l X post pc L (st) M := by
  intro D ad z p e s m args below meth c H locs ls A C hl hW
  obtain ⟨d, e1⟩ := C.1.at hk
  subst e1
  exact lv_ldc (rest := smap ad st) C.2.1.1 C.2.1.2.1 C.2.1.2.2.2.1 (C.2.1.2.2.2.2 _ (List.mem_cons_of_mem _ hv)) d (g D ad z p e s m args below meth c H locs ls A C hl hW)
theorem go_ldcw {n : Nat} (v : Int32) (k : Nat) (hk : (xt X)[k]? = some (pc, .ldc_w n, pc')) (hv : Cond.constant (xy X).cls n v ∈ WB) (g : Go l X post pc' L (vi v :: st) M) : Go l X post pc L (st) M := by
  intro D ad z p e s m args below meth c H locs ls A C hl hW
  obtain ⟨d, e1⟩ := C.1.at hk
  subst e1
  exact lv_ldcw (rest := smap ad st) C.2.1.1 C.2.1.2.1 C.2.1.2.2.2.1 (C.2.1.2.2.2.2 _ (List.mem_cons_of_mem _ hv)) d (g D ad z p e s m args below meth c H locs ls A C hl hW)
theorem go_ldc2 {n : Nat} (v : Int64) (k : Nat) (hk : (xt X)[k]? = some (pc, .ldc2_w n, pc')) (hv : Cond.constantLong (xy X).cls n v ∈ WB) (g : Go l X post pc' L (vl v :: st) M) : Go l X post pc L (st) M := by
  intro D ad z p e s m args below meth c H locs ls A C hl hW
  obtain ⟨d, e1⟩ := C.1.at hk
  subst e1
  exact lv_ldc2 (rest := smap ad st) C.2.1.1 C.2.1.2.1 C.2.1.2.2.2.1 (C.2.1.2.2.2.2 _ (List.mem_cons_of_mem _ hv)) d (g D ad z p e s m args below meth c H locs ls A C hl hW)
theorem lm_at {ad : AD} {ls : Array Slot} {n j i : Nat} {v : PV} (hl : lv_has ls n (lmap ad L)) (hj : L[j]? = some (i, v)) : ls[i]? = some (.val (tv ad v)) := lv_at hl j (by simp [lmap, hj])
theorem go_iload_n {n : Fin 4} {i : Nat} {x : Int32} (k : Nat) (hk : (xt X)[k]? = some (pc, .iload_n n, pc')) (j : Nat) (hj : L[j]? = some (i, vi x)) (hi : (n : Nat) = i) (g : Go l X post pc' L (vi x :: st) M) : Go l X post pc L (st) M := by
  intro D ad z p e s m args below meth c H locs ls A C hl hW
  obtain ⟨d, e1⟩ := C.1.at hk
  subst e1
  exact lv_iload_n (rest := smap ad st) C.2.1.1 C.2.1.2.1 d hi (lm_at hl hj) (g D ad z p e s m args below meth c H locs ls A C hl hW)
theorem go_iload {i : Nat} {x : Int32} (k : Nat) (hk : (xt X)[k]? = some (pc, .iload i, pc')) (j : Nat) (hj : L[j]? = some (i, vi x)) (g : Go l X post pc' L (vi x :: st) M) : Go l X post pc L (st) M := by
  intro D ad z p e s m args below meth c H locs ls A C hl hW
  obtain ⟨d, e1⟩ := C.1.at hk
  subst e1
  exact lv_iload (rest := smap ad st) C.2.1.1 C.2.1.2.1 d (lm_at hl hj) (g D ad z p e s m args below meth c H locs ls A C hl hW)
theorem go_lload_n {n : Fin 4} {i : Nat} {x : Int64} (k : Nat) (hk : (xt X)[k]? = some (pc, .lload_n n, pc')) (j : Nat) (hj : L[j]? = some (i, vl x)) (hi : (n : Nat) = i) (g : Go l X post pc' L (vl x :: st) M) : Go l X post pc L (st) M := by
  intro D ad z p e s m args below meth c H locs ls A C hl hW
  obtain ⟨d, e1⟩ := C.1.at hk
  subst e1
  exact lv_lload_n (rest := smap ad st) C.2.1.1 C.2.1.2.1 d hi (lm_at hl hj) (g D ad z p e s m args below meth c H locs ls A C hl hW)
theorem go_lload {i : Nat} {x : Int64} (k : Nat) (hk : (xt X)[k]? = some (pc, .lload i, pc')) (j : Nat) (hj : L[j]? = some (i, vl x)) (g : Go l X post pc' L (vl x :: st) M) : Go l X post pc L (st) M := by
  intro D ad z p e s m args below meth c H locs ls A C hl hW
  obtain ⟨d, e1⟩ := C.1.at hk
  subst e1
  exact lv_lload (rest := smap ad st) C.2.1.1 C.2.1.2.1 d (lm_at hl hj) (g D ad z p e s m args below meth c H locs ls A C hl hW)
theorem go_aload_n {n : Fin 4} {i a b : Nat} (k : Nat) (hk : (xt X)[k]? = some (pc, .aload_n n, pc')) (j : Nat) (hj : L[j]? = some (i, vr a b)) (hi : (n : Nat) = i) (g : Go l X post pc' L (vr a b :: st) M) : Go l X post pc L (st) M := by
  intro D ad z p e s m args below meth c H locs ls A C hl hW
  obtain ⟨d, e1⟩ := C.1.at hk
  subst e1
  exact lv_aload_n (rest := smap ad st) C.2.1.1 C.2.1.2.1 d hi (lm_at hl hj) (g D ad z p e s m args below meth c H locs ls A C hl hW)
theorem go_aload {i a b : Nat} (k : Nat) (hk : (xt X)[k]? = some (pc, .aload i, pc')) (j : Nat) (hj : L[j]? = some (i, vr a b)) (g : Go l X post pc' L (vr a b :: st) M) : Go l X post pc L (st) M := by
  intro D ad z p e s m args below meth c H locs ls A C hl hW
  obtain ⟨d, e1⟩ := C.1.at hk
  subst e1
  exact lv_aload (rest := smap ad st) C.2.1.1 C.2.1.2.1 d (lm_at hl hj) (g D ad z p e s m args below meth c H locs ls A C hl hW)
/-- a local is set: in its place, or behind; a long takes two places -/
def lclob (i w : Nat) (q : Nat × PV) : Bool := !(q.1 == i) && (!(w == 2 && q.1 == i + 1) && !(q.1 + 1 == i && pcat q.2 == 2))
def lset : List (Nat × PV) → Nat → PV → List (Nat × PV)
  | [], i, v => [(i, v)]
  | q :: L, i, v => if q.1 = i then (i, v) :: L.filter (lclob i (pcat v)) else if lclob i (pcat v) q = true then q :: lset L i v else lset L i v
theorem lset_mem : ∀ (L : List (Nat × PV)) (i : Nat) (v : PV) (q : Nat × PV), q ∈ lset L i v → q = (i, v) ∨ (q ∈ L ∧ lclob i (pcat v) q = true)
  | [], i, v, q, h => Or.inl (by simpa [lset] using h)
  | a :: L, i, v, q, h => by
    unfold lset at h
    by_cases h1 : a.1 = i
    · rw [if_pos h1] at h
      rcases List.mem_cons.mp h with h | h
      · exact Or.inl h
      · exact Or.inr ⟨List.mem_cons_of_mem _ (List.mem_filter.mp h).1, (List.mem_filter.mp h).2⟩
    · rw [if_neg h1] at h
      by_cases h2 : lclob i (pcat v) a = true
      · rw [if_pos h2] at h
        rcases List.mem_cons.mp h with h | h
        · subst h
          exact Or.inr ⟨List.mem_cons_self, h2⟩
        · rcases lset_mem L i v q h with h | h
          · exact Or.inl h
          · exact Or.inr ⟨List.mem_cons_of_mem _ h.1, h.2⟩
      · rw [if_neg h2] at h
        rcases lset_mem L i v q h with h | h
        · exact Or.inl h
        · exact Or.inr ⟨List.mem_cons_of_mem _ h.1, h.2⟩
theorem lset_has {ad : AD} {ls : Array Slot} {n i : Nat} {v : PV} {l1 : List (Nat × Value)} (h : lv_has ls n l1) (h1 : ∀ q, q ∈ L → lclob i (pcat v) q = true → (q.1, tv ad q.2) ∈ l1) (h2 : (i, tv ad v) ∈ l1) : lv_has ls n (lmap ad (lset L i v)) := by
  refine ⟨h.1, h.2.1, fun q hq => h.2.2 q ?_⟩
  obtain ⟨q0, h0, rfl⟩ := List.mem_map.mp hq
  rcases lset_mem L i v q0 h0 with rfl | ⟨a, b⟩
  · exact h2
  · exact h1 q0 a b
theorem lset_1 {ad : AD} {ls : Array Slot} {n i : Nat} {v : PV} (hv : pcat v = 1) (h : lv_has ls n ((i, tv ad v) :: (lmap ad L).filter (fun q => !(q.1 == i) && !(q.1 + 1 == i && q.2.category == 2)))) : lv_has ls n (lmap ad (lset L i v)) := by
  refine lset_has h (fun q hq hc => ?_) List.mem_cons_self
  refine List.mem_cons_of_mem _ (List.mem_filter.mpr ⟨List.mem_map.mpr ⟨q, hq, rfl⟩, ?_⟩)
  rw [hv] at hc
  simp only [lclob, tv_cat] at hc ⊢
  simpa using hc
theorem lset_2 {ad : AD} {ls : Array Slot} {n i : Nat} {v : PV} (hv : pcat v = 2) (h : lv_has ls n ((i, tv ad v) :: (lmap ad L).filter (fun q => !(q.1 == i) && (!(q.1 == i + 1) && !(q.1 + 1 == i && q.2.category == 2))))) : lv_has ls n (lmap ad (lset L i v)) := by
  refine lset_has h (fun q hq hc => ?_) List.mem_cons_self
  refine List.mem_cons_of_mem _ (List.mem_filter.mpr ⟨List.mem_map.mpr ⟨q, hq, rfl⟩, ?_⟩)
  rw [hv] at hc
  simp only [lclob, tv_cat] at hc ⊢
  simpa using hc
theorem go_istore_n {n : Fin 4} {i : Nat} {x : Int32} (k : Nat) (hk : (xt X)[k]? = some (pc, .istore_n n, pc')) (hn : (n : Nat) = i) (hi : i < xn X) (L' : List (Nat × PV)) (hL : lset L i (vi x) = L') (g : Go l X post pc' L' st M) : Go l X post pc L (vi x :: st) M := by
  intro D ad z p e s m args below meth c H locs ls A C hl hW
  obtain ⟨d, e1⟩ := C.1.at hk
  subst e1
  subst hL
  exact lv_istore_n (rest := smap ad st) C.2.1.1 C.2.1.2.1 d hn hl hi rfl (fun ls2 h2 => g D ad z p e s m args below meth c H locs ls2 A C (lset_1 rfl h2) hW)
theorem go_istore {i : Nat} {x : Int32} (k : Nat) (hk : (xt X)[k]? = some (pc, .istore i, pc')) (hi : i < xn X) (L' : List (Nat × PV)) (hL : lset L i (vi x) = L') (g : Go l X post pc' L' st M) : Go l X post pc L (vi x :: st) M := by
  intro D ad z p e s m args below meth c H locs ls A C hl hW
  obtain ⟨d, e1⟩ := C.1.at hk
  subst e1
  subst hL
  exact lv_istore (rest := smap ad st) C.2.1.1 C.2.1.2.1 d hl hi rfl (fun ls2 h2 => g D ad z p e s m args below meth c H locs ls2 A C (lset_1 rfl h2) hW)
theorem go_lstore_n {n : Fin 4} {i : Nat} {x : Int64} (k : Nat) (hk : (xt X)[k]? = some (pc, .lstore_n n, pc')) (hn : (n : Nat) = i) (hi : i + 1 < xn X) (L' : List (Nat × PV)) (hL : lset L i (vl x) = L') (g : Go l X post pc' L' st M) : Go l X post pc L (vl x :: st) M := by
  intro D ad z p e s m args below meth c H locs ls A C hl hW
  obtain ⟨d, e1⟩ := C.1.at hk
  subst e1
  subst hL
  exact lv_lstore_n (rest := smap ad st) C.2.1.1 C.2.1.2.1 d hn hl hi rfl (fun ls2 h2 => g D ad z p e s m args below meth c H locs ls2 A C (lset_2 rfl h2) hW)
theorem go_lstore {i : Nat} {x : Int64} (k : Nat) (hk : (xt X)[k]? = some (pc, .lstore i, pc')) (hi : i + 1 < xn X) (L' : List (Nat × PV)) (hL : lset L i (vl x) = L') (g : Go l X post pc' L' st M) : Go l X post pc L (vl x :: st) M := by
  intro D ad z p e s m args below meth c H locs ls A C hl hW
  obtain ⟨d, e1⟩ := C.1.at hk
  subst e1
  subst hL
  exact lv_lstore (rest := smap ad st) C.2.1.1 C.2.1.2.1 d hl hi rfl (fun ls2 h2 => g D ad z p e s m args below meth c H locs ls2 A C (lset_2 rfl h2) hW)
theorem go_astore_n {n : Fin 4} {i : Nat} {a b : Nat} (k : Nat) (hk : (xt X)[k]? = some (pc, .astore_n n, pc')) (hn : (n : Nat) = i) (hi : i < xn X) (L' : List (Nat × PV)) (hL : lset L i (vr a b) = L') (g : Go l X post pc' L' st M) : Go l X post pc L (vr a b :: st) M := by
  intro D ad z p e s m args below meth c H locs ls A C hl hW
  obtain ⟨d, e1⟩ := C.1.at hk
  subst e1
  subst hL
  exact lv_astore_n (rest := smap ad st) C.2.1.1 C.2.1.2.1 d hn hl hi rfl (fun ls2 h2 => g D ad z p e s m args below meth c H locs ls2 A C (lset_1 rfl h2) hW)
theorem go_astore {i : Nat} {a b : Nat} (k : Nat) (hk : (xt X)[k]? = some (pc, .astore i, pc')) (hi : i < xn X) (L' : List (Nat × PV)) (hL : lset L i (vr a b) = L') (g : Go l X post pc' L' st M) : Go l X post pc L (vr a b :: st) M := by
  intro D ad z p e s m args below meth c H locs ls A C hl hW
  obtain ⟨d, e1⟩ := C.1.at hk
  subst e1
  subst hL
  exact lv_astore (rest := smap ad st) C.2.1.1 C.2.1.2.1 d hl hi rfl (fun ls2 h2 => g D ad z p e s m args below meth c H locs ls2 A C (lset_1 rfl h2) hW)
theorem go_iinc {i : Nat} {n : Int} {x : Int32} (dd : Int32) (k : Nat) (hk : (xt X)[k]? = some (pc, .iinc i n, pc')) (j : Nat) (hj : L[j]? = some (i, vi x)) (hd : Int32.ofInt n = dd) (hi : i < xn X) (L' : List (Nat × PV)) (hL : lset L i (vi (x + dd)) = L') (g : Go l X post pc' L' st M) : Go l X post pc L st M := by
  intro D ad z p e s m args below meth c H locs ls A C hl hW
  obtain ⟨d, e1⟩ := C.1.at hk
  subst e1
  subst hL
  subst hd
  exact lv_iinc (rest := smap ad st) C.2.1.1 C.2.1.2.1 d hl (k := j) (x := x) (by simp [lmap, hj, tv]) rfl hi rfl (fun ls2 h2 => g D ad z p e s m args below meth c H locs ls2 A C (lset_1 rfl h2) hW)
theorem sm_cat {ad : AD} {v : PV} {w : Nat} (h : pcat v = w) : (tv ad v).category = w := by rw [tv_cat]; exact h
theorem go_dup {v : PV} (k : Nat) (hk : (xt X)[k]? = some (pc, .dup, pc')) (hv : pcat v = 1) (g : Go l X post pc' L (v :: v :: st) M) : Go l X post pc L (v :: st) M := by
  intro D ad z p e s m args below meth c H locs ls A C hl hW
  obtain ⟨d, e1⟩ := C.1.at hk
  subst e1
  exact lv_dup (va := tv ad v) (rest := smap ad st) C.2.1.1 C.2.1.2.1 d (sm_cat hv) (g D ad z p e s m args below meth c H locs ls A C hl hW)
theorem go_pop {v : PV} (k : Nat) (hk : (xt X)[k]? = some (pc, .pop, pc')) (hv : pcat v = 1) (g : Go l X post pc' L (st) M) : Go l X post pc L (v :: st) M := by
  intro D ad z p e s m args below meth c H locs ls A C hl hW
  obtain ⟨d, e1⟩ := C.1.at hk
  subst e1
  exact lv_pop (va := tv ad v) (rest := smap ad st) C.2.1.1 C.2.1.2.1 d (sm_cat hv) (g D ad z p e s m args below meth c H locs ls A C hl hW)
theorem go_dup_x1 {v u : PV} (k : Nat) (hk : (xt X)[k]? = some (pc, .dup_x1, pc')) (hv : pcat v = 1) (hu : pcat u = 1) (g : Go l X post pc' L (v :: u :: v :: st) M) : Go l X post pc L (v :: u :: st) M := by
  intro D ad z p e s m args below meth c H locs ls A C hl hW
  obtain ⟨d, e1⟩ := C.1.at hk
  subst e1
  exact lv_dup_x1 (va := tv ad v) (vb := tv ad u) (rest := smap ad st) C.2.1.1 C.2.1.2.1 d (sm_cat hv) (sm_cat hu) (g D ad z p e s m args below meth c H locs ls A C hl hW)
theorem go_dup_x2 {v u w : PV} (k : Nat) (hk : (xt X)[k]? = some (pc, .dup_x2, pc')) (hv : pcat v = 1) (hu : pcat u = 1) (hw : pcat w = 1) (g : Go l X post pc' L (v :: u :: w :: v :: st) M) : Go l X post pc L (v :: u :: w :: st) M := by
  intro D ad z p e s m args below meth c H locs ls A C hl hW
  obtain ⟨d, e1⟩ := C.1.at hk
  subst e1
  exact lv_dup_x2 (va := tv ad v) (vb := tv ad u) (vd := tv ad w) (rest := smap ad st) C.2.1.1 C.2.1.2.1 d (sm_cat hv) (sm_cat hu) (sm_cat hw) (g D ad z p e s m args below meth c H locs ls A C hl hW)
theorem go_dup2 {v u : PV} (k : Nat) (hk : (xt X)[k]? = some (pc, .dup2, pc')) (hv : pcat v = 1) (hu : pcat u = 1) (g : Go l X post pc' L (v :: u :: v :: u :: st) M) : Go l X post pc L (v :: u :: st) M := by
  intro D ad z p e s m args below meth c H locs ls A C hl hW
  obtain ⟨d, e1⟩ := C.1.at hk
  subst e1
  exact lv_dup2_11 (va := tv ad v) (vb := tv ad u) (rest := smap ad st) C.2.1.1 C.2.1.2.1 d (sm_cat hv) (sm_cat hu) (g D ad z p e s m args below meth c H locs ls A C hl hW)
theorem go_dup2l {v : PV} (k : Nat) (hk : (xt X)[k]? = some (pc, .dup2, pc')) (hv : pcat v = 2) (g : Go l X post pc' L (v :: v :: st) M) : Go l X post pc L (v :: st) M := by
  intro D ad z p e s m args below meth c H locs ls A C hl hW
  obtain ⟨d, e1⟩ := C.1.at hk
  subst e1
  exact lv_dup2_2 (va := tv ad v) (rest := smap ad st) C.2.1.1 C.2.1.2.1 d (sm_cat hv) (g D ad z p e s m args below meth c H locs ls A C hl hW)
theorem go_pop2l {v : PV} (k : Nat) (hk : (xt X)[k]? = some (pc, .pop2, pc')) (hv : pcat v = 2) (g : Go l X post pc' L (st) M) : Go l X post pc L (v :: st) M := by
  intro D ad z p e s m args below meth c H locs ls A C hl hW
  obtain ⟨d, e1⟩ := C.1.at hk
  subst e1
  exact lv_pop2_2 (va := tv ad v) (rest := smap ad st) C.2.1.1 C.2.1.2.1 d (sm_cat hv) (g D ad z p e s m args below meth c H locs ls A C hl hW)
theorem go_if_eq {x : Int32} {off : Int} (tgt : Nat) (k : Nat) (hk : (xt X)[k]? = some (pc, .ifCond .eq off, pc')) (ht : (pc : Int) + off = (tgt : Int)) (kt : x = 0 → Go l X post tgt L st M) (kf : ¬ x = 0 → Go l X post pc' L st M) : Go l X post pc L (vi x :: st) M := by
  intro D ad z p e s m args below meth c H locs ls A C hl hW
  obtain ⟨d, e1⟩ := C.1.at hk
  subst e1
  exact lv_if_eq (rest := smap ad st) C.2.1.1 C.2.1.2.1 d ht (fun h => kt h D ad z p e s m args below meth c H locs ls A C hl hW) (fun h => kf h D ad z p e s m args below meth c H locs ls A C hl hW)
theorem go_icmp_eq {x y : Int32} {off : Int} (tgt : Nat) (k : Nat) (hk : (xt X)[k]? = some (pc, .if_icmp .eq off, pc')) (ht : (pc : Int) + off = (tgt : Int)) (kt : x = y → Go l X post tgt L st M) (kf : ¬ x = y → Go l X post pc' L st M) : Go l X post pc L (vi y :: vi x :: st) M := by
  intro D ad z p e s m args below meth c H locs ls A C hl hW
  obtain ⟨d, e1⟩ := C.1.at hk
  subst e1
  exact lv_icmp_eq (rest := smap ad st) C.2.1.1 C.2.1.2.1 d ht (fun h => kt h D ad z p e s m args below meth c H locs ls A C hl hW) (fun h => kf h D ad z p e s m args below meth c H locs ls A C hl hW)
theorem go_if_ne {x : Int32} {off : Int} (tgt : Nat) (k : Nat) (hk : (xt X)[k]? = some (pc, .ifCond .ne off, pc')) (ht : (pc : Int) + off = (tgt : Int)) (kt : ¬ x = 0 → Go l X post tgt L st M) (kf : x = 0 → Go l X post pc' L st M) : Go l X post pc L (vi x :: st) M := by
  intro D ad z p e s m args below meth c H locs ls A C hl hW
  obtain ⟨d, e1⟩ := C.1.at hk
  subst e1
  exact lv_if_ne (rest := smap ad st) C.2.1.1 C.2.1.2.1 d ht (fun h => kt h D ad z p e s m args below meth c H locs ls A C hl hW) (fun h => kf h D ad z p e s m args below meth c H locs ls A C hl hW)
theorem go_icmp_ne {x y : Int32} {off : Int} (tgt : Nat) (k : Nat) (hk : (xt X)[k]? = some (pc, .if_icmp .ne off, pc')) (ht : (pc : Int) + off = (tgt : Int)) (kt : ¬ x = y → Go l X post tgt L st M) (kf : x = y → Go l X post pc' L st M) : Go l X post pc L (vi y :: vi x :: st) M := by
  intro D ad z p e s m args below meth c H locs ls A C hl hW
  obtain ⟨d, e1⟩ := C.1.at hk
  subst e1
  exact lv_icmp_ne (rest := smap ad st) C.2.1.1 C.2.1.2.1 d ht (fun h => kt h D ad z p e s m args below meth c H locs ls A C hl hW) (fun h => kf h D ad z p e s m args below meth c H locs ls A C hl hW)
theorem go_if_lt {x : Int32} {off : Int} (tgt : Nat) (k : Nat) (hk : (xt X)[k]? = some (pc, .ifCond .lt off, pc')) (ht : (pc : Int) + off = (tgt : Int)) (kt : x < 0 → Go l X post tgt L st M) (kf : ¬ x < 0 → Go l X post pc' L st M) : Go l X post pc L (vi x :: st) M := by
  intro D ad z p e s m args below meth c H locs ls A C hl hW
  obtain ⟨d, e1⟩ := C.1.at hk
  subst e1
  exact lv_if_lt (rest := smap ad st) C.2.1.1 C.2.1.2.1 d ht (fun h => kt h D ad z p e s m args below meth c H locs ls A C hl hW) (fun h => kf h D ad z p e s m args below meth c H locs ls A C hl hW)
theorem go_icmp_lt {x y : Int32} {off : Int} (tgt : Nat) (k : Nat) (hk : (xt X)[k]? = some (pc, .if_icmp .lt off, pc')) (ht : (pc : Int) + off = (tgt : Int)) (kt : x < y → Go l X post tgt L st M) (kf : ¬ x < y → Go l X post pc' L st M) : Go l X post pc L (vi y :: vi x :: st) M := by
  intro D ad z p e s m args below meth c H locs ls A C hl hW
  obtain ⟨d, e1⟩ := C.1.at hk
  subst e1
  exact lv_icmp_lt (rest := smap ad st) C.2.1.1 C.2.1.2.1 d ht (fun h => kt h D ad z p e s m args below meth c H locs ls A C hl hW) (fun h => kf h D ad z p e s m args below meth c H locs ls A C hl hW)
theorem go_if_ge {x : Int32} {off : Int} (tgt : Nat) (k : Nat) (hk : (xt X)[k]? = some (pc, .ifCond .ge off, pc')) (ht : (pc : Int) + off = (tgt : Int)) (kt : 0 ≤ x → Go l X post tgt L st M) (kf : ¬ 0 ≤ x → Go l X post pc' L st M) : Go l X post pc L (vi x :: st) M := by
  intro D ad z p e s m args below meth c H locs ls A C hl hW
  obtain ⟨d, e1⟩ := C.1.at hk
  subst e1
  exact lv_if_ge (rest := smap ad st) C.2.1.1 C.2.1.2.1 d ht (fun h => kt h D ad z p e s m args below meth c H locs ls A C hl hW) (fun h => kf h D ad z p e s m args below meth c H locs ls A C hl hW)
theorem go_icmp_ge {x y : Int32} {off : Int} (tgt : Nat) (k : Nat) (hk : (xt X)[k]? = some (pc, .if_icmp .ge off, pc')) (ht : (pc : Int) + off = (tgt : Int)) (kt : y ≤ x → Go l X post tgt L st M) (kf : ¬ y ≤ x → Go l X post pc' L st M) : Go l X post pc L (vi y :: vi x :: st) M := by
  intro D ad z p e s m args below meth c H locs ls A C hl hW
  obtain ⟨d, e1⟩ := C.1.at hk
  subst e1
  exact lv_icmp_ge (rest := smap ad st) C.2.1.1 C.2.1.2.1 d ht (fun h => kt h D ad z p e s m args below meth c H locs ls A C hl hW) (fun h => kf h D ad z p e s m args below meth c H locs ls A C hl hW)
theorem go_if_gt {x : Int32} {off : Int} (tgt : Nat) (k : Nat) (hk : (xt X)[k]? = some (pc, .ifCond .gt off, pc')) (ht : (pc : Int) + off = (tgt : Int)) (kt : 0 < x → Go l X post tgt L st M) (kf : ¬ 0 < x → Go l X post pc' L st M) : Go l X post pc L (vi x :: st) M := by
  intro D ad z p e s m args below meth c H locs ls A C hl hW
  obtain ⟨d, e1⟩ := C.1.at hk
  subst e1
  exact lv_if_gt (rest := smap ad st) C.2.1.1 C.2.1.2.1 d ht (fun h => kt h D ad z p e s m args below meth c H locs ls A C hl hW) (fun h => kf h D ad z p e s m args below meth c H locs ls A C hl hW)
theorem go_icmp_gt {x y : Int32} {off : Int} (tgt : Nat) (k : Nat) (hk : (xt X)[k]? = some (pc, .if_icmp .gt off, pc')) (ht : (pc : Int) + off = (tgt : Int)) (kt : y < x → Go l X post tgt L st M) (kf : ¬ y < x → Go l X post pc' L st M) : Go l X post pc L (vi y :: vi x :: st) M := by
  intro D ad z p e s m args below meth c H locs ls A C hl hW
  obtain ⟨d, e1⟩ := C.1.at hk
  subst e1
  exact lv_icmp_gt (rest := smap ad st) C.2.1.1 C.2.1.2.1 d ht (fun h => kt h D ad z p e s m args below meth c H locs ls A C hl hW) (fun h => kf h D ad z p e s m args below meth c H locs ls A C hl hW)
theorem go_if_le {x : Int32} {off : Int} (tgt : Nat) (k : Nat) (hk : (xt X)[k]? = some (pc, .ifCond .le off, pc')) (ht : (pc : Int) + off = (tgt : Int)) (kt : x ≤ 0 → Go l X post tgt L st M) (kf : ¬ x ≤ 0 → Go l X post pc' L st M) : Go l X post pc L (vi x :: st) M := by
  intro D ad z p e s m args below meth c H locs ls A C hl hW
  obtain ⟨d, e1⟩ := C.1.at hk
  subst e1
  exact lv_if_le (rest := smap ad st) C.2.1.1 C.2.1.2.1 d ht (fun h => kt h D ad z p e s m args below meth c H locs ls A C hl hW) (fun h => kf h D ad z p e s m args below meth c H locs ls A C hl hW)
theorem go_icmp_le {x y : Int32} {off : Int} (tgt : Nat) (k : Nat) (hk : (xt X)[k]? = some (pc, .if_icmp .le off, pc')) (ht : (pc : Int) + off = (tgt : Int)) (kt : x ≤ y → Go l X post tgt L st M) (kf : ¬ x ≤ y → Go l X post pc' L st M) : Go l X post pc L (vi y :: vi x :: st) M := by
  intro D ad z p e s m args below meth c H locs ls A C hl hW
  obtain ⟨d, e1⟩ := C.1.at hk
  subst e1
  exact lv_icmp_le (rest := smap ad st) C.2.1.1 C.2.1.2.1 d ht (fun h => kt h D ad z p e s m args below meth c H locs ls A C hl hW) (fun h => kf h D ad z p e s m args below meth c H locs ls A C hl hW)
theorem go_goto {off : Int} (tgt : Nat) (k : Nat) (hk : (xt X)[k]? = some (pc, .goto off, pc')) (ht : (pc : Int) + off = (tgt : Int)) (g : Go l X post tgt L st M) : Go l X post pc L st M := by
  intro D ad z p e s m args below meth c H locs ls A C hl hW
  obtain ⟨d, e1⟩ := C.1.at hk
  exact lv_goto (rest := smap ad st) C.2.1.1 C.2.1.2.1 d ht (g D ad z p e s m args below meth c H locs ls A C hl hW)
theorem go_iaload {i : Int32} {j : Nat} (k : Nat) (hk : (xt X)[k]? = some (pc, .iaload, pc')) (ho : (1, j) ∈ allc) (hin : vp_in i (lenI j)) (g : Go l X post pc' L (vi (M.1 (1, j) i.toNatClampNeg) :: st) M) : Go l X post pc L (vi i :: vr 1 j :: st) M := by
  intro D ad z p e s m args below meth c H locs ls A C hl hW
  obtain ⟨d, e1⟩ := C.1.at hk
  subst e1
  obtain ⟨q, hq, -⟩ := wd_at (ad := ad) (z := z) (M := M) ho
  exact va_iald (rest := smap ad st) C.2.1.1 C.2.1.2.1 C.2.2.2.2.2.1 hW.1 q 0 hq rfl hin d (g D ad z p e s m args below meth c H locs ls A C hl hW)
theorem go_laload {i : Int32} {j : Nat} (k : Nat) (hk : (xt X)[k]? = some (pc, .laload, pc')) (ho : (2, j) ∈ allc) (hin : vp_in i (lenL j)) (g : Go l X post pc' L (vl (M.2 (2, j) i.toNatClampNeg) :: st) M) : Go l X post pc L (vi i :: vr 2 j :: st) M := by
  intro D ad z p e s m args below meth c H locs ls A C hl hW
  obtain ⟨d, e1⟩ := C.1.at hk
  subst e1
  obtain ⟨q, hq, -⟩ := wd_at (ad := ad) (z := z) (M := M) ho
  exact va_lald (rest := smap ad st) C.2.1.1 C.2.1.2.1 C.2.2.2.2.2.1 hW.1 q 1 hq rfl hin d (g D ad z p e s m args below meth c H locs ls A C hl hW)
theorem go_aaload {i : Int32} (k : Nat) (hk : (xt X)[k]? = some (pc, .aaload, pc')) (hin : vp_in i 6) (g : Go l X post pc' L (vr 0 i.toNatClampNeg :: st) M) : Go l X post pc L (vi i :: vr 4 0 :: st) M := by
  intro D ad z p e s m args below meth c H locs ls A C hl hW
  obtain ⟨d, e1⟩ := C.1.at hk
  subst e1
  obtain ⟨q, hq, -⟩ := wd_at (ad := ad) (z := z) (M := M) (c := (4, 0)) (by decide)
  exact va_aldq (rest := smap ad st) C.2.1.1 C.2.1.2.1 C.2.2.2.2.2.1 hW.1 q 2 hq rfl hin d (g D ad z p e s m args below meth c H locs ls A C hl hW)
theorem go_arraylength {j : Nat} (v : Int32) (k : Nat) (hk : (xt X)[k]? = some (pc, .arraylength, pc')) (ho : (1, j) ∈ allc) (hv : Int32.ofNat (lenI j) = v) (g : Go l X post pc' L (vi v :: st) M) : Go l X post pc L (vr 1 j :: st) M := by
  intro D ad z p e s m args below meth c H locs ls A C hl hW
  obtain ⟨d, e1⟩ := C.1.at hk
  subst e1
  obtain ⟨q, hq, -⟩ := wd_at (ad := ad) (z := z) (M := M) ho
  exact va_alen (rest := smap ad st) C.2.1.1 C.2.1.2.1 C.2.2.2.2.2.1 hW.1 q 0 hq (ty := .int) rfl hv d (g D ad z p e s m args below meth c H locs ls A C hl hW)
theorem Hw.set {D : va_G} {ad : AD} {z : Zc} {s : State} {A : Nat → Prop} {M' : Mm} {H1 : Heap} {locs1 : List Loc} {c : Nat × Nat} {q : Nat} (hq : allc[q]? = some c) (h1 : ∀ c', c' ≠ c → M'.1 c' = M.1 c' ∧ M'.2 c' = M.2 c') {e : va_E} (he : e = ent ad z (M'.1 c) (M'.2 c) c) (hP : va_P D classes ((wd ad z M).set q (ad c, e)) H1) (hD : va_D A ((wd ad z M).set q (ad c, e))) (hS : va_S A s.heap H1 locs1) : Hw D ad z s A M' H1 locs1 := by
  rw [wd_set hq h1 he] at hP hD
  exact ⟨hP, hD, hS⟩
theorem go_iastore {i x : Int32} {j : Nat} (k : Nat) (hk : (xt X)[k]? = some (pc, .iastore, pc')) (ho : (1, j) ∈ allc) (hin : vp_in i (lenI j)) (g : Go l X post pc' L st (uI M (1, j) i.toNatClampNeg x)) : Go l X post pc L (vi x :: vi i :: vr 1 j :: st) M := by
  intro D ad z p e s m args below meth c H locs ls A C hl hW
  obtain ⟨d, e1⟩ := C.1.at hk
  subst e1
  obtain ⟨q, hq, hq2⟩ := wd_at (ad := ad) (z := z) (M := M) ho
  exact va_iast (rest := smap ad st) C.2.1.1 C.2.1.2.1 C.2.2.2.2.2.1 hW.1 hW.2.1 hW.2.2 q 0 hq rfl hin d (fun H1 locs1 h1 h2 h3 => g D ad z p e s m args below meth c H1 locs1 ls A C hl (Hw.set hq2 (fun c' hc => ⟨uI_ne M _ _ hc, rfl⟩) (by rw [uI_self]; rfl) h1 h2 h3))
theorem go_lastore {i : Int32} {x : Int64} {j : Nat} (k : Nat) (hk : (xt X)[k]? = some (pc, .lastore, pc')) (ho : (2, j) ∈ allc) (hin : vp_in i (lenL j)) (g : Go l X post pc' L st (uL M (2, j) i.toNatClampNeg x)) : Go l X post pc L (vl x :: vi i :: vr 2 j :: st) M := by
  intro D ad z p e s m args below meth c H locs ls A C hl hW
  obtain ⟨d, e1⟩ := C.1.at hk
  subst e1
  obtain ⟨q, hq, hq2⟩ := wd_at (ad := ad) (z := z) (M := M) ho
  exact va_last (rest := smap ad st) C.2.1.1 C.2.1.2.1 C.2.2.2.2.2.1 hW.1 hW.2.1 hW.2.2 q 1 hq rfl hin d (fun H1 locs1 h1 h2 h3 => g D ad z p e s m args below meth c H1 locs1 ls A C hl (Hw.set (M := M) (M' := uL M (2, j) i.toNatClampNeg x) hq2 (fun c' hc => ⟨rfl, uL_ne M _ _ hc⟩) (by rw [uL_self]; rfl) h1 h2 h3))
/-- a field of the class of kind kd, as the class 'own' links it -/
def FG (own : String) (idx kd slot : Nat) : Prop := ∃ (C : String) (T : u_T) (N : Nat), classes[cix kd]? = some (C, T, N) ∧ slot < N ∧ (∀ w ∈ u_ws C T N, w ∈ WB) ∧ (Cond.fieldLink own idx (T slot).1 (T slot).2.1 (T slot).2.2.1 ∈ WB ∨ ∃ host, Cond.fieldLinkNest own idx (T slot).1 (T slot).2.1 (T slot).2.2.1 host ∈ NW)
/-- .. that may be written, of the type ty -/
def FP (own : String) (idx kd slot : Nat) (ty : FieldType) : Prop := ∃ (C : String) (T : u_T) (N : Nat) (ty0 : Nat → FieldType), classes[cix kd]? = some (C, T, N) ∧ slot < N ∧ (∀ w ∈ u_ws C T N, w ∈ WB) ∧ (Cond.fieldLink own idx (T slot).1 (T slot).2.1 (T slot).2.2.1 ∈ WB ∨ ∃ host, Cond.fieldLinkNest own idx (T slot).1 (T slot).2.1 (T slot).2.2.1 host ∈ NW) ∧ (∀ k, k < N → parseFieldDescriptor (T k).2.2.1 = some (ty0 k)) ∧ (∀ a, a < N → ∀ b, b < N → a ≠ b → (T a).2.1 ≠ (T b).2.1) ∧ (T slot).2.2.2 = false ∧ parseFieldDescriptor (T slot).2.2.1 = some ty
def objk (kd : Nat) : Bool := match kd with
  | 1 => false
  | 2 => false
  | 4 => false
  | _ => true
theorem ent_obj {ad : AD} {z : Zc} {f : Nat → Int32} {g : Nat → Int64} {kd j : Nat} (h : objk kd = true) : ent ad z f g (kd, j) = .inr (cix kd, smap ad (fl f (kd, j))) := by
  match kd, h with
  | 0, _ => rfl
  | 3, _ => rfl
  | n + 5, _ => rfl
theorem go_getfield {idx kd j : Nat} (slot : Nat) (v : PV) (k : Nat) (hk : (xt X)[k]? = some (pc, .getfield idx, pc')) (ho : (kd, j) ∈ allc) (hb : objk kd = true) (hf : FG (xy X).cls idx kd slot) (hv : (fl (M.1 (kd, j)) (kd, j))[slot]? = some v) (g : Go l X post pc' L (v :: st) M) : Go l X post pc L (vr kd j :: st) M := by
  intro D ad z p e s m args below meth c H locs ls A C hl hW
  obtain ⟨d, e1⟩ := C.1.at hk
  subst e1
  obtain ⟨q, hq, -⟩ := wd_at (ad := ad) (z := z) (M := M) ho
  rw [ent_obj hb] at hq
  obtain ⟨Cn, T, N, h1, h2, h3, h4⟩ := hf
  have hv2 : (smap ad (fl (M.1 (kd, j)) (kd, j)))[slot]? = some (tv ad v) := by simp [smap, hv]
  rcases h4 with h4 | ⟨host, h4⟩
  · exact va_get (rest := smap ad st) C.2.1.1 C.2.1.2.1 C.2.1.2.2.2.2 (fun w hw => List.mem_cons_of_mem _ (h3 w hw)) C.2.1.2.2.2.1 C.2.2.2.2.2.1 hW.1 q hq h1 slot h2 (C.2.1.2.2.2.2 _ (List.mem_cons_of_mem _ h4)) (fun _ h9 => h9) hv2 d (g D ad z p e s m args below meth c H locs ls A C hl hW)
  · exact va_getN (rest := smap ad st) C.2.1.1 C.2.1.2.1 C.2.1.2.2.2.2 (fun w hw => List.mem_cons_of_mem _ (h3 w hw)) C.2.1.2.2.2.1 C.2.2.2.2.2.1 hW.1 q hq h1 slot h2 (va_Nw.use rfl (C.2.2.2.2.1 _ h4)) (fun _ h9 => h9) hv2 d (g D ad z p e s m args below meth c H locs ls A C hl hW)
theorem go_putfield {idx kd j : Nat} {x : Int32} (slot : Nat) (ty : FieldType) (k : Nat) (hk : (xt X)[k]? = some (pc, .putfield idx, pc')) (ho : (kd, j) ∈ allc) (hb : objk kd = true) (hf : FP (xy X).cls idx kd slot ty) (hn : narrow ty (.int x) = .int x) (ht : fits ty (.int x) = true) (hlen : slot < (fl (M.1 (kd, j)) (kd, j)).length) (hs : fl (upd (M.1 (kd, j)) slot x) (kd, j) = (fl (M.1 (kd, j)) (kd, j)).set slot (vi x)) (g : Go l X post pc' L st (uI M (kd, j) slot x)) : Go l X post pc L (vi x :: vr kd j :: st) M := by
  intro D ad z p e s m args below meth c H locs ls A C hl hW
  obtain ⟨d, e1⟩ := C.1.at hk
  subst e1
  obtain ⟨q, hq, hq2⟩ := wd_at (ad := ad) (z := z) (M := M) ho
  rw [ent_obj hb] at hq
  obtain ⟨Cn, T, N, ty0, h1, h2, h3, h4, h5, h6, h7, h8⟩ := hf
  have hlen2 : slot < (smap ad (fl (M.1 (kd, j)) (kd, j))).length := by simpa [smap] using hlen
  have key : Sum.inr (cix kd, (smap ad (fl (M.1 (kd, j)) (kd, j))).set slot (.int x)) = ent ad z ((uI M (kd, j) slot x).1 (kd, j)) ((uI M (kd, j) slot x).2 (kd, j)) (kd, j) := by
    rw [uI_self, ent_obj hb, hs]
    simp [smap, List.map_set, tv]
  rcases h4 with h4 | ⟨host, h4⟩
  · exact va_put (rest := smap ad st) C.2.1.1 C.2.1.2.1 C.2.1.2.2.2.2 (fun w hw => List.mem_cons_of_mem _ (h3 w hw)) ty0 h5 h6 C.2.1.2.2.2.1 C.2.2.2.2.2.1 hW.1 hW.2.1 hW.2.2 q hq h1 slot h2 (C.2.1.2.2.2.2 _ (List.mem_cons_of_mem _ h4)) (fun _ h9 => h9) h7 h8 hn ht hlen2 d (fun H1 locs1 g1 g2 g3 => g D ad z p e s m args below meth c H1 locs1 ls A C hl (Hw.set hq2 (fun c' hc => ⟨uI_ne M _ _ hc, rfl⟩) key g1 g2 g3))
  · exact va_putN (rest := smap ad st) C.2.1.1 C.2.1.2.1 C.2.1.2.2.2.2 (fun w hw => List.mem_cons_of_mem _ (h3 w hw)) ty0 h5 h6 C.2.1.2.2.2.1 C.2.2.2.2.2.1 hW.1 hW.2.1 hW.2.2 q hq h1 slot h2 (va_Nw.use rfl (C.2.2.2.2.1 _ h4)) (fun _ h9 => h9) h7 h8 hn ht hlen2 d (fun H1 locs1 g1 g2 g3 => g D ad z p e s m args below meth c H1 locs1 ls A C hl (Hw.set hq2 (fun c' hc => ⟨uI_ne M _ _ hc, rfl⟩) key g1 g2 g3))
/-- a call site: how 'own' links the method -/
def CL (own : String) (idx : Nat) (Y : MX) : Prop := Cond.methodLink own idx (xy Y) ∈ WB ∨ ∃ host, Cond.methodLinkNest own idx (xy Y) host ∈ NW
def CS (own : String) (idx : Nat) (Y : MX) (n : Nat) : Prop := CL own idx Y ∧ Cond.static (xy Y) ∈ WB ∧ (parseMethodDescriptor (xy Y).desc).map (fun d => d.parameters.length) = some n
def CV (own : String) (idx : Nat) (Y : MX) (n kd : Nat) : Prop := CL own idx Y ∧ (Cond.instanceMethod (xy Y) ∈ WB ∧ Cond.selects (xy Y).cls (xy Y) (xy Y) ∈ WB) ∧ (parseMethodDescriptor (xy Y).desc).map (fun d => d.parameters.length) = some n ∧ ∃ (T : u_T) (N : Nat), classes[cix kd]? = some ((xy Y).cls, T, N)
def Rm (X Y : MX) : Prop := (xm Y).frames + 1 ≤ (xm X).frames ∧ 8 + (xn Y + 11) + (xm Y).locals ≤ (xm X).locals
theorem preW_blind {D : va_G} {ad : AD} {z : Zc} {M : Mm} {sz : Nat} {av : List Value} : FrameBlind (va_Pc av (PreW D ad z M sz)) := by
  intro a U g mk q
  obtain ⟨q0, q1, q2, q3, q4, q5⟩ := q
  exact ⟨q0, q1, nw_same (s := U) (U := U.calling g mk a) rfl q2, q3, va_K.moved (u := U) (U := U.calling g mk a) (Vm.Alike.refl U.vm) q4, q5⟩
theorem preW_at {D : va_G} {ad : AD} {z : Zc} {p : Program} {s : State} {m : MethodId} {args : Array Value} {meth : Method} {c : Code} {A : Nat → Prop} {H : Heap} {locs : List Loc} (C : Cx X D ad z p s m args meth c A) (hW : Hw D ad z s A M H locs) {U : State} (hU : U.heap = H) (hWa : s.WarmedH U.vm) : PreW D ad z M H.size U :=
  ⟨by rw [hU], nw_warm hWa C.2.2.2.2.1, by rw [hU]; exact hW.1, va_K.moved hWa.alike C.2.2.2.2.2.1, hW.2.1.weaken (fun _ _ _ _ => trivial)⟩
theorem wd_A {D : va_G} {ad : AD} {z : Zc} {s : State} {A : Nat → Prop} {H : Heap} {locs : List Loc} (hA : ∀ q, s.heap.size ≤ q → A q) (hW : Hw D ad z s A M H locs) : ∀ q, va_A (wd ad z M) H.size q → A q := by
  intro q h
  rcases h with ⟨k, e, h⟩ | h
  · exact hW.2.1.2 k _ h
  · exact hA q (Nat.le_trans hW.2.2.1 h)
/-- behind a call -/
theorem go_ret {D : va_G} {ad : AD} {z : Zc} {p : Program} {e : Env} {s : State} {m : MethodId} {args : Array Value} {below : List Frame} {meth : Method} {c : Code} {H : Heap} {locs : List Loc} {ls : Array Slot} {A : Nat → Prop} {postY : Option PV → Mm → Prop} {stk : List Value} {a : Array Value} (C : Cx X D ad z p s m args meth c A) (hl : lv_has ls (xn X) (lmap ad L)) (hW : Hw D ad z s A M H locs)
    (hr : va_Run p l e (xm X) s m args below meth c H locs 0 0 0 0 (F0 m pc ls stk) (smap ad st) (gQ D ad z postY (va_A (wd ad z M) H.size) a) (va_A (wd ad z M) H.size))
    (g : ∀ r M', postY r M' → Go l X post (pc + 3) L (r.toList ++ st) M') : W p l e (xm X) s m args below meth c H locs 0 0 (MQ below (gQ D ad z post A) args s 0 0 A) (F0 m pc ls stk) := by
  have hF := wd_A C.2.2.2.2.2.2 hW
  intro T hT S
  obtain ⟨v, st0, t, T', Lc, h0, S', hL, e1, e2, ⟨⟨r, M', hv, hp, hP1, hK1, hD1⟩, hz, hk⟩, sp⟩ := hr T hT S
  have hv2 : v = r.map (tv ad) := by injection hv
  subst hv2
  rw [h0] at hz hk
  have hS := hW.2.2
  obtain ⟨t2, a1, b1⟩ := g r M' hp D ad z p e s m args below meth c T'.heap (locs ++ Lc) ls A C hl
    ⟨by rw [e1]; exact hP1, hD1.weaken (fun _ _ _ h => hF _ h), ⟨Nat.le_trans hS.1 (by rw [e1]; exact hz), fun q h1 h2 => by rw [e1, hk q (Nat.lt_of_lt_of_le h1 hS.1) (fun y => h2 (hF q y))]; exact hS.2.1 q h1 h2, fun q hq => by
      rcases List.mem_append.mp hq with h | h
      · exact hS.2.2 q h
      · exact hF _ (hL q h)⟩⟩ T' rfl S'
  have e3 : smap ad (r.toList ++ st) = (r.map (tv ad)).toList ++ smap ad st := by cases r <;> simp [smap]
  rw [e3] at a1
  exact ⟨t2, sp t2 a1, b1⟩
theorem pcat_sum {ad : AD} {w : Nat} (h : (st.map pcat).sum ≤ w) : ((smap ad st).map fun v => v.category).sum ≤ w := by
  have e : (smap ad st).map (fun v => v.category) = st.map pcat := by simp [smap, tv_cat]
  rw [e]
  exact h
theorem go_callS {Y : MX} {postY : Option PV → Mm → Prop} {idx n : Nat} (av : List PV) (k : Nat) (hk : (xt X)[k]? = some (pc, .invokestatic idx, pc')) (E : Ev l Y av M postY) (hY : Mk Y) (cs : CS (xy X).cls idx Y n) (hn : av.length = n) (hR : Rm X Y) (hst : (st.map pcat).sum ≤ 8) {stk : List PV} (hs : stk = av.reverse ++ st) (g : ∀ r M', postY r M' → Go l X post pc' L (r.toList ++ st) M') : Go l X post pc L stk M := by
  intro D ad z p e s m args below meth c H locs ls A C hl hW
  obtain ⟨d, e1⟩ := C.1.at hk
  subst e1
  obtain ⟨c1, c2, c3⟩ := cs
  have hts := C.2.1.2.2.2.2
  have hst2 : (F0 m pc ls (smap ad stk)).stack = (smap ad av).reverse ++ smap ad st := by subst hs; simp [smap]
  have ht : ∀ w, w ∈ WB → w.before args s = true := fun w hw => hts w (List.mem_cons_of_mem _ hw)
  have hd := hY.2.2.2.1
  refine go_ret (postY := postY) (a := (smap ad av).toArray) C hl hW ?_ g
  rcases c1 with c1 | ⟨host, c1⟩
  · exact va_runS (n := n) (index := idx) C.2.1 (E D ad z H.size) ⟨callB_of n hts (gi_of hY) rfl hY.2.2.2.2.1 hY.2.2.2.2.2.1 (ht _ hY.2.2.2.2.2.2) (ht _ c1) ⟨hd.1, hd.2, c3⟩ hR, ht _ c2⟩ ⟨preW_blind, fun U hU hWa => ⟨rfl, preW_at C hW hU hWa⟩⟩ rfl (by simpa [smap] using hn) hl.1 hst2 (lv_room (pcat_sum hst)) d ⟨Nat.zero_le _, Nat.zero_le _⟩
  · exact va_runSN (n := n) (index := idx) (host := host) C.2.1 (E D ad z H.size) ⟨va_cnB n hts (gi_of hY) rfl hY.2.2.2.2.1 hY.2.2.2.2.2.1 (C.2.2.2.2.1 _ c1) (ht _ hY.2.2.2.2.2.2) ⟨hd.1, hd.2, c3⟩ hR, ht _ c2, trivial⟩ ⟨preW_blind, fun U hU hWa => ⟨rfl, preW_at C hW hU hWa⟩⟩ rfl (by simpa [smap] using hn) hl.1 hst2 (lv_room (pcat_sum hst)) d ⟨Nat.zero_le _, Nat.zero_le _⟩
theorem go_callV {Y : MX} {postY : Option PV → Mm → Prop} {idx n kd j : Nat} (av : List PV) (k : Nat) (hk : (xt X)[k]? = some (pc, .invokevirtual idx, pc')) (E : Ev l Y (vr kd j :: av) M postY) (hY : Mk Y) (ho : (kd, j) ∈ allc) (hb : objk kd = true) (cs : CV (xy X).cls idx Y n kd) (hn : av.length = n) (hR : Rm X Y) (hst : (st.map pcat).sum ≤ 8) {stk : List PV} (hs : stk = av.reverse ++ vr kd j :: st) (g : ∀ r M', postY r M' → Go l X post pc' L (r.toList ++ st) M') : Go l X post pc L stk M := by
  intro D ad z p e s m args below meth c H locs ls A C hl hW
  obtain ⟨d, e1⟩ := C.1.at hk
  subst e1
  obtain ⟨c1, ⟨c2, c2b⟩, c3, T, N, c4⟩ := cs
  have hts := C.2.1.2.2.2.2
  have hst2 : (F0 m pc ls (smap ad stk)).stack = (smap ad av).reverse ++ .ref (ad (kd, j)) :: smap ad st := by subst hs; simp [smap, tv]
  have ht : ∀ w, w ∈ WB → w.before args s = true := fun w hw => hts w (List.mem_cons_of_mem _ hw)
  have hd := hY.2.2.2.1
  obtain ⟨q, hq, -⟩ := wd_at (ad := ad) (z := z) (M := M) ho
  rw [ent_obj hb] at hq
  have hrc := va_recv C.2.2.2.2.2.1 hW.1 c4 hq
  refine go_ret (postY := postY) (a := (Value.ref (ad (kd, j)) :: smap ad av).toArray) C hl hW ?_ g
  rcases c1 with c1 | ⟨host, c1⟩
  · exact va_runV (n := n) (index := idx) (C := (xy Y).cls) (b := ad (kd, j)) C.2.1 (E D ad z H.size) ⟨callB_of n hts (gi_of hY) rfl hY.2.2.2.2.1 hY.2.2.2.2.2.1 (ht _ hY.2.2.2.2.2.2) (ht _ c1) ⟨hd.1, hd.2, c3⟩ hR, ht _ c2, ht _ c2b⟩ ⟨preW_blind, hrc, fun U hU hWa => ⟨rfl, preW_at C hW hU hWa⟩⟩ rfl (by simpa [smap] using hn) hl.1 hst2 (lv_room (pcat_sum hst)) d ⟨Nat.zero_le _, Nat.zero_le _⟩
  · exact va_runVN (n := n) (index := idx) (C := (xy Y).cls) (host := host) (b := ad (kd, j)) C.2.1 (E D ad z H.size) ⟨va_cnB n hts (gi_of hY) rfl hY.2.2.2.2.1 hY.2.2.2.2.2.1 (C.2.2.2.2.1 _ c1) (ht _ hY.2.2.2.2.2.2) ⟨hd.1, hd.2, c3⟩ hR, ht _ c2, ht _ c2b⟩ ⟨preW_blind, hrc, fun U hU hWa => ⟨rfl, preW_at C hW hU hWa⟩⟩ rfl (by simpa [smap] using hn) hl.1 hst2 (lv_room (pcat_sum hst)) d ⟨Nat.zero_le _, Nat.zero_le _⟩
theorem go_callS1 {Y : MX} {r : Option PV} {M1 : Mm} {idx n : Nat} (av : List PV) (k : Nat) (hk : (xt X)[k]? = some (pc, .invokestatic idx, pc')) (E : Ev l Y av M (fun v M2 => v = r ∧ M2 = M1)) (hY : Mk Y) (cs : CS (xy X).cls idx Y n) (hn : av.length = n) (hR : Rm X Y) (hst : (st.map pcat).sum ≤ 8) {stk : List PV} (hs : stk = av.reverse ++ st) (g : Go l X post pc' L (r.toList ++ st) M1) : Go l X post pc L stk M :=
  go_callS av k hk E hY cs hn hR hst hs (fun _ _ h => by rw [h.1, h.2]; exact g)
theorem go_callV1 {Y : MX} {r : Option PV} {M1 : Mm} {idx n kd j : Nat} (av : List PV) (k : Nat) (hk : (xt X)[k]? = some (pc, .invokevirtual idx, pc')) (E : Ev l Y (vr kd j :: av) M (fun v M2 => v = r ∧ M2 = M1)) (hY : Mk Y) (ho : (kd, j) ∈ allc) (hb : objk kd = true) (cs : CV (xy X).cls idx Y n kd) (hn : av.length = n) (hR : Rm X Y) (hst : (st.map pcat).sum ≤ 8) {stk : List PV} (hs : stk = av.reverse ++ vr kd j :: st) (g : Go l X post pc' L (r.toList ++ st) M1) : Go l X post pc L stk M :=
  go_callV av k hk E hY ho hb cs hn hR hst hs (fun _ _ h => by rw [h.1, h.2]; exact g)
def uC (M : Mm) (i j : Nat) : Mm := (fun c => if c = (1, j) then va_cpy (M.1 (1, i)) (M.1 (1, j)) 0 0 32 else M.1 c, M.2)
def ACo (own : String) (idx : Nat) : Prop := Cond.methodLink own idx arraycopyName ∈ WB ∧ Cond.native arraycopyName ∈ WB ∧ Cond.static arraycopyName ∈ WB ∧ Cond.initialized "java/lang/System" ∈ WB
theorem go_arraycopy {idx i j : Nat} (k : Nat) (hk : (xt X)[k]? = some (pc, .invokestatic idx, pc')) (hf : ACo (xy X).cls idx) (hi : i < 7) (hj : j < 7) (hfr : 1 ≤ (xm X).frames) (hlo : 0 + (nativeFrameWords "java/lang/System" "arraycopy" 5 + 11) ≤ (xm X).locals) (g : Go l X post pc' L [] (uC M i j)) : Go l X post pc L [vi 32, vi 0, vr 1 j, vi 0, vr 1 i] M := by
  intro D ad z p e s m args below meth c H locs ls A C hl hW
  obtain ⟨d, e1⟩ := C.1.at hk
  subst e1
  obtain ⟨q0, hq0, -⟩ := wd_at (ad := ad) (z := z) (M := M) (c := (1, i)) (ok1 (by omega))
  obtain ⟨q1, hq1, hq2⟩ := wd_at (ad := ad) (z := z) (M := M) (c := (1, j)) (ok1 (by omega))
  have hli : lenI i = 32 := if_pos hi
  have hlj : lenI j = 32 := if_pos hj
  have ht : ∀ w, w ∈ WB → w.before args s = true := fun w hw => C.2.1.2.2.2.2 w (List.mem_cons_of_mem _ hw)
  have e32 : (32 : Int32).toNatClampNeg = 32 := by decide
  have e0 : (0 : Int32).toNatClampNeg = 0 := by decide
  refine va_copyi (rest := []) (sp := 0) (dp := 0) (n := 32) (ty := .int) C.2.1.1 C.2.1.2.1 (C.2.1.2.2.1.trans hl.1.symm) C.2.1.2.2.2.1 (ht _ hf.1) (ht _ hf.2.1) (ht _ hf.2.2.1) (ht _ hf.2.2.2) C.2.2.2.2.2.1 hW.1 hW.2.1 hW.2.2 q0 q1 0 0 hq0 hq1 rfl rfl rfl (by decide) (by decide) (by decide) (by rw [e32, e0, hli]; omega) (by rw [e32, e0, hlj]; omega) (fun _ _ => rfl) hfr hlo d (fun H1 locs1 g1 g2 g3 => g D ad z p e s m args below meth c H1 locs1 ls A C hl (Hw.set hq2 (fun c' hc => ⟨if_neg hc, rfl⟩) ?_ g1 g2 g3))
  show _ = ent ad z (if (1, j) = (1, j) then va_cpy (M.1 (1, i)) (M.1 (1, j)) 0 0 32 else M.1 (1, j)) (M.2 (1, j)) (1, j)
  rw [if_pos rfl]
  rfl
theorem ret_q {D : va_G} {ad : AD} {z : Zc} {p : Program} {s : State} {m : MethodId} {args : Array Value} {meth : Method} {c : Code} {H : Heap} {locs : List Loc} {A : Nat → Prop} (C : Cx X D ad z p s m args meth c A) (hW : Hw D ad z s A M H locs) (r : Option PV) (hp : post r M) {t : State} (ht : t.heap = H) (hWa : s.WarmedH t.vm) (a : Array Value) : gQ D ad z post A a s (.returned (r.map (tv ad))) t :=
  ⟨⟨r, M, rfl, hp, by rw [ht]; exact hW.1, va_K.moved hWa.alike C.2.2.2.2.2.1, hW.2.1⟩, hW.2.2.F ht⟩
theorem go_ireturn {x : Int32} {ty : FieldType} (k : Nat) (hk : (xt X)[k]? = some (pc, .ireturn, pc')) (hr : xr X = some ty) (hn : narrow ty (.int x) = .int x) (hp : post (some (vi x)) M) : Go l X post pc L [vi x] M := by
  intro D ad z p e s m args below meth c H locs ls A C hl hW
  obtain ⟨d, e1⟩ := C.1.at hk
  exact W.zret (v := x) (ty := ty) C.2.1.1 C.2.1.2.1 (C.2.2.1.trans hr) hn (fun t ht hWa => ret_q C hW (some (vi x)) hp ht hWa _) hW.2.2.2.2 d C.2.2.2.1
theorem go_lreturn {x : Int64} (k : Nat) (hk : (xt X)[k]? = some (pc, .lreturn, pc')) (hr : xr X = some .long) (hp : post (some (vl x)) M) : Go l X post pc L [vl x] M := by
  intro D ad z p e s m args below meth c H locs ls A C hl hW
  obtain ⟨d, e1⟩ := C.1.at hk
  exact W.lret (v := x) C.2.1.1 C.2.1.2.1 (C.2.2.1.trans hr) (fun t ht hWa => ret_q C hW (some (vl x)) hp ht hWa _) hW.2.2.2.2 d C.2.2.2.1
theorem go_areturn {a b : Nat} {rt : FieldType} (k : Nat) (hk : (xt X)[k]? = some (pc, .areturn, pc')) (hr : xr X = some rt) (hrt : (∃ n, rt = .object n) ∨ ∃ t, rt = .array t) (hp : post (some (vr a b)) M) : Go l X post pc L [vr a b] M := by
  intro D ad z p e s m args below meth c H locs ls A C hl hW
  obtain ⟨d, e1⟩ := C.1.at hk
  exact W.aret (v := .ref (ad (a, b))) C.2.1.1 C.2.1.2.1 (C.2.2.1.trans hr) hrt (Or.inr ⟨_, rfl⟩) (fun t ht hWa => ret_q C hW (some (vr a b)) hp ht hWa _) hW.2.2.2.2 d C.2.2.2.1
theorem go_return (k : Nat) (hk : (xt X)[k]? = some (pc, .return_, pc')) (hr : xr X = none) (hp : post none M) : Go l X post pc L [] M := by
  intro D ad z p e s m args below meth c H locs ls A C hl hW
  obtain ⟨d, e1⟩ := C.1.at hk
  exact W.vret C.2.1.1 C.2.1.2.1 (C.2.2.1.trans hr) (fun t ht hWa => ret_q C hW none hp ht hWa _) hW.2.2.2.2 d C.2.2.2.1
end EN
/-! what the mirrors are made of -/
def bd {α β : Type} (o : Option α) (f : α → Option β) : Option β := match o with
  | none => none
  | some a => f a
theorem bd_inv {α β : Type} {o : Option α} {f : α → Option β} {r : β} (h : bd o f = some r) : ∃ a, o = some a ∧ f a = some r := by
  cases o with
  | none => cases h
  | some a => exact ⟨a, rfl, h⟩
theorem bd_some {α β : Type} (a : α) (f : α → Option β) : bd (some a) f = f a := rfl
theorem bd_of {α β : Type} {o : Option α} {f : α → Option β} {a : α} (h : o = some a) : bd o f = f a := by subst h; rfl
def ck {β : Type} (b : Bool) (x : Option β) : Option β := if b = true then x else none
theorem ck_inv {β : Type} {b : Bool} {x : Option β} {r : β} (h : ck b x = some r) : b = true ∧ x = some r := by
  cases b with
  | false => cases h
  | true => exact ⟨rfl, h⟩
theorem ck_of {β : Type} {b : Bool} {x : Option β} (h : b = true) : ck b x = x := by subst h; rfl
def smr {α β γ : Type} (q : α ⊕ β) (g : β → Option γ) (f : α → Option γ) : Option γ := match q with
  | .inl a => f a
  | .inr b => g b
theorem smr_l {α β γ : Type} {a : α} {g : β → Option γ} {f : α → Option γ} {r : Option γ} (h : smr (.inl a) g f = r) : f a = r := h
theorem smr_r {α β γ : Type} {b : β} {g : β → Option γ} {f : α → Option γ} {r : Option γ} (h : smr (.inr b) g f = r) : g b = r := h
def lpq {σ ρ : Type} (f : σ → Option ρ) (q : σ ⊕ ρ) : Option ρ := match q with
  | .inl s => f s
  | .inr r => some r
theorem lpq_r {σ ρ : Type} {f : σ → Option ρ} {r r2 : ρ} (h : lpq f (.inr r) = some r2) : r = r2 := Option.some.inj h
def lpN {σ ρ : Type} (b : σ → Option (σ ⊕ ρ)) : Nat → σ → Option ρ
  | 0, _ => none
  | n + 1, s => bd (b s) (lpq (lpN b n))
theorem lpN_0 {σ ρ : Type} {b : σ → Option (σ ⊕ ρ)} {s : σ} {r : ρ} (h : lpN b 0 s = some r) : False := by
  simp [lpN] at h
theorem lpN_inv {σ ρ : Type} {b : σ → Option (σ ⊕ ρ)} {n : Nat} {s : σ} {r : ρ} (h : lpN b (n + 1) s = some r) : ∃ q, b s = some q ∧ lpq (lpN b n) q = some r := bd_inv h
def lp {σ ρ : Type} (b : σ → Option (σ ⊕ ρ)) (s : σ) : Option ρ := lpN b 1000000 s
theorem ite_t {α : Type} {p : Prop} {i : Decidable p} {a b r : α} (c : p) (h : @ite α p i a b = r) : a = r := by rw [if_pos c] at h; exact h
theorem ite_f {α : Type} {p : Prop} {i : Decidable p} {a b r : α} (c : ¬ p) (h : @ite α p i a b = r) : b = r := by rw [if_neg c] at h; exact h
def inb (i : Int32) (n : Nat) : Bool := !(decide (i < 0) || decide (n ≤ i.toNatClampNeg))
theorem inb_vp {i : Int32} {n : Nat} (h : inb i n = true) : vp_in i n := by
  simp only [inb, Bool.not_eq_true', Bool.or_eq_false_iff, decide_eq_false_iff_not] at h
  intro q
  rcases q with q | q
  · exact h.1 q
  · exact h.2 q
theorem vp_inb {i : Int32} {n : Nat} (h : vp_in i n) : inb i n = true := by
  simp only [inb, Bool.not_eq_true', Bool.or_eq_false_iff, decide_eq_false_iff_not]
  exact ⟨fun q => h (Or.inl q), fun q => h (Or.inr q)⟩
def bI (b : Bool) : Int32 := match b with
  | true => 1
  | false => 0
theorem nbI (b : Bool) : narrow .boolean (.int (bI b)) = .int (bI b) := by cases b <;> rfl
def isb (x : Int32) : Bool := decide (x = 0) || decide (x = 1)
def tb (x : Int32) : Bool := !decide (x = 0)
theorem isb_e {x : Int32} (h : isb x = true) : bI (tb x) = x := by
  simp only [isb, Bool.or_eq_true, decide_eq_true_eq] at h
  rcases h with rfl | rfl <;> rfl
theorem isb_n {x : Int32} (h : isb x = true) : narrow .boolean (.int x) = .int x := by
  simp only [isb, Bool.or_eq_true, decide_eq_true_eq] at h
  rcases h with rfl | rfl <;> rfl
theorem pz {post : Option PV → Mm → Prop} {x y : Int32} {M : Mm} (e : x = y) (h : post (some (vi x)) M) : post (some (vi y)) M := e ▸ h
end
section
theorem fbI (b : Bool) : fits .boolean (.int (bI b)) = true := by cases b <;> rfl
end
section
def X_P_ends : MX := (⟨"OmegaDesk$Passage", "ends", "(II)I"⟩, prog_4_method_2_code, 2, some .int, { frames := 0, cells := 0, slots := 0, locals := 0 },
  [(0, .iload_n 0, 1), (1, .bipush 8, 3), (3, .iload_n 1, 4), (4, .imul, 5), (5, .iushr, 6), (6, .bipush 15, 8), (8, .iand, 9), (9, .ireturn, 10)])
set_option maxRecDepth 20000 in
theorem mk_P_ends : Mk X_P_ends := ⟨by unfold TBk; decide +kernel, by decide +kernel, wb_329, ⟨by decide, by decide⟩, rfl, rfl, wb_14⟩
def m_P_ends (a0 : Int32) (a1 : Int32) : Option (Int32) :=
  some (((a0.toUInt32 >>> (((8 : Int32) * a1).toUInt32 &&& Int32.toUInt32 31)).toInt32) &&& (15 : Int32))
set_option maxRecDepth 20000 in
theorem e_P_ends {l : Launch} {a0 : Int32} {a1 : Int32} {M : Mm} {r : Int32}  (h : m_P_ends a0 a1 = some r) : Ev l X_P_ends [vi a0, vi a1] M (fun v M2 => v = (some (vi r)) ∧ M2 = M) := by
  refine Ev.of mk_P_ends [(0, vi a0), (1, vi a1)] (fun _ => rfl) (fun _ => (Nat.le_of_ble_eq_true rfl)) ?_
  unfold m_P_ends at h
  refine go_iload_n 0 rfl 0 rfl rfl ?_
  refine go_bipush 8 1 rfl (by decide) ?_
  refine go_iload_n 2 rfl 1 rfl rfl ?_
  refine go_imul 3 rfl ?_
  refine go_iushr 4 rfl ?_
  refine go_bipush 15 5 rfl (by decide) ?_
  refine go_iand 6 rfl ?_
  cases h
  exact go_ireturn 7 rfl rfl rfl ⟨rfl, rfl⟩
def X_P_goodEnds : MX := (⟨"OmegaDesk$Passage", "goodEnds", "(II)I"⟩, prog_4_method_3_code, 2, some .int, { frames := 0, cells := 0, slots := 0, locals := 0 },
  [(0, .iload_n 0, 1), (1, .bipush 8, 3), (3, .iload_n 1, 4), (4, .imul, 5), (5, .iconst 4, 6), (6, .iadd, 7), (7, .iushr, 8), (8, .bipush 15, 10), (10, .iand, 11), (11, .ireturn, 12)])
set_option maxRecDepth 20000 in
theorem mk_P_goodEnds : Mk X_P_goodEnds := ⟨by unfold TBk; decide +kernel, by decide +kernel, wb_332, ⟨by decide, by decide⟩, rfl, rfl, wb_14⟩
def m_P_goodEnds (a0 : Int32) (a1 : Int32) : Option (Int32) :=
  some (((a0.toUInt32 >>> ((((8 : Int32) * a1) + (4 : Int32)).toUInt32 &&& Int32.toUInt32 31)).toInt32) &&& (15 : Int32))
set_option maxRecDepth 20000 in
theorem e_P_goodEnds {l : Launch} {a0 : Int32} {a1 : Int32} {M : Mm} {r : Int32}  (h : m_P_goodEnds a0 a1 = some r) : Ev l X_P_goodEnds [vi a0, vi a1] M (fun v M2 => v = (some (vi r)) ∧ M2 = M) := by
  refine Ev.of mk_P_goodEnds [(0, vi a0), (1, vi a1)] (fun _ => rfl) (fun _ => (Nat.le_of_ble_eq_true rfl)) ?_
  unfold m_P_goodEnds at h
  refine go_iload_n 0 rfl 0 rfl rfl ?_
  refine go_bipush 8 1 rfl (by decide) ?_
  refine go_iload_n 2 rfl 1 rfl rfl ?_
  refine go_imul 3 rfl ?_
  refine go_iconst 4 4 rfl (by decide) ?_
  refine go_iadd 5 rfl ?_
  refine go_iushr 6 rfl ?_
  refine go_bipush 15 7 rfl (by decide) ?_
  refine go_iand 8 rfl ?_
  cases h
  exact go_ireturn 9 rfl rfl rfl ⟨rfl, rfl⟩
def X_P_fromStart : MX := (⟨"OmegaDesk$Passage", "fromStart", "(I)I"⟩, prog_4_method_4_code, 1, some .int, { frames := 1, cells := 0, slots := 0, locals := 21 },
  [(0, .iload_n 0, 1), (1, .iconst 0, 2), (2, .invokestatic 11, 5), (5, .ireturn, 6)])
set_option maxRecDepth 20000 in
theorem mk_P_fromStart : Mk X_P_fromStart := ⟨by unfold TBk; decide +kernel, by decide +kernel, wb_339, ⟨by decide, by decide⟩, rfl, rfl, wb_14⟩
theorem cs_P_11 : CS "OmegaDesk$Passage" 11 X_P_ends 2 := ⟨Or.inl wb_336, wb_328, by decide +kernel⟩
def m_P_fromStart (a0 : Int32) : Option (Int32) :=
  bd (m_P_ends a0 (0 : Int32)) fun r1 =>
  some r1
set_option maxRecDepth 20000 in
theorem e_P_fromStart {l : Launch} {a0 : Int32} {M : Mm} {r : Int32}  (h : m_P_fromStart a0 = some r) : Ev l X_P_fromStart [vi a0] M (fun v M2 => v = (some (vi r)) ∧ M2 = M) := by
  refine Ev.of mk_P_fromStart [(0, vi a0)] (fun _ => rfl) (fun _ => (Nat.le_of_ble_eq_true rfl)) ?_
  unfold m_P_fromStart at h
  refine go_iload_n 0 rfl 0 rfl rfl ?_
  refine go_iconst 0 1 rfl (by decide) ?_
  obtain ⟨r1, c, h⟩ := bd_inv h
  refine go_callS1 _ 2 rfl (e_P_ends c) mk_P_ends cs_P_11 rfl ⟨(Nat.le_of_ble_eq_true rfl), (Nat.le_of_ble_eq_true rfl)⟩ (Nat.le_of_ble_eq_true rfl) rfl ?_
  cases h
  exact go_ireturn 3 rfl rfl rfl ⟨rfl, rfl⟩
def X_P_chained : MX := (⟨"OmegaDesk$Passage", "chained", "(I)I"⟩, prog_4_method_5_code, 4, some .int, { frames := 1, cells := 0, slots := 0, locals := 21 },
  [(0, .iload_n 0, 1), (1, .istore_n 1, 2), (2, .iconst 0, 3), (3, .istore_n 2, 4), (4, .iload_n 2, 5), (5, .iconst 4, 6), (6, .if_icmp .ge 47, 9), (9, .iconst 0, 10), (10, .istore_n 3, 11), (11, .iload_n 3, 12), (12, .iconst 4, 13), (13, .if_icmp .ge 34, 16), (16, .iload_n 1, 17), (17, .iload_n 3, 18), (18, .invokestatic 11, 21), (21, .iload_n 2, 22), (22, .ishr, 23), (23, .iconst 1, 24), (24, .iand, 25), (25, .ifCond .eq 16, 28), (28, .iload_n 1, 29), (29, .iload_n 1, 30), (30, .iload_n 2, 31), (31, .invokestatic 11, 34), (34, .bipush 8, 36), (36, .iload_n 3, 37), (37, .imul, 38), (38, .ishl, 39), (39, .ior, 40), (40, .istore_n 1, 41), (41, .iinc 3 1, 44), (44, .goto (-33), 47), (47, .iinc 2 1, 50), (50, .goto (-46), 53), (53, .iload_n 1, 54), (54, .ireturn, 55)])
set_option maxRecDepth 20000 in
theorem mk_P_chained : Mk X_P_chained := ⟨by unfold TBk; decide +kernel, by decide +kernel, wb_335, ⟨by decide, by decide⟩, rfl, rfl, wb_14⟩
def b_P_chained_11 (c2 : Int32) (s : Int32 × Int32) : Option ((Int32 × Int32) ⊕ (Int32 × Int32)) :=
  if (4 : Int32) ≤ s.2 then
    some (Sum.inr (s.1, s.2))
  else
    bd (m_P_ends s.1 s.2) fun r1 =>
    if ((r1 >>> (c2 &&& 31)) &&& (1 : Int32)) = 0 then
      some (Sum.inl (s.1, (s.2 + 1)))
    else
      bd (m_P_ends s.1 c2) fun r2 =>
      bd (some (s.1 ||| (r2 <<< (((8 : Int32) * s.2) &&& 31)))) fun x3 =>
      some (Sum.inl (x3, (s.2 + 1)))
def b_P_chained_4 (s : Int32 × Int32) : Option ((Int32 × Int32) ⊕ (Int32 × Int32)) :=
  if (4 : Int32) ≤ s.2 then
    some (Sum.inr (s.1, s.2))
  else
    bd (lp (b_P_chained_11 s.2) (s.1, (0 : Int32))) fun r4 =>
    some (Sum.inl (r4.1, (s.2 + 1)))
def m_P_chained (a0 : Int32) : Option (Int32) :=
  bd (lp (b_P_chained_4) (a0, (0 : Int32))) fun r5 =>
  some r5.1
set_option maxRecDepth 20000 in
theorem w_P_chained_11 {l : Launch} {post : Option PV → Mm → Prop} (c0 : Int32) (c2 : Int32) (M : Mm)  {r : Int32 × Int32} (kk : Go l X_P_chained post 47 [(0, vi c0), (1, vi r.1), (2, vi c2), (3, vi r.2)] [] M) : ∀ (n : Nat) (s : Int32 × Int32), lpN (b_P_chained_11 c2) n s = some r → Go l X_P_chained post 11 [(0, vi c0), (1, vi s.1), (2, vi c2), (3, vi s.2)] [] M := by
  intro n
  induction n with
  | zero => intro s hc; exact (lpN_0 hc).elim
  | succ n ih =>
    intro s hc
    obtain ⟨q, h, hc⟩ := lpN_inv hc
    unfold b_P_chained_11 at h
    refine go_iload_n 9 rfl 3 rfl rfl ?_
    refine go_iconst 4 10 rfl (by decide) ?_
    refine go_icmp_ge 47 11 rfl (by decide) (fun c => ?_) (fun c => ?_)
    · replace h := ite_t c h
      cases h
      obtain rfl := lpq_r hc
      exact kk
    · replace h := ite_f c h
      refine go_iload_n 12 rfl 1 rfl rfl ?_
      refine go_iload_n 13 rfl 3 rfl rfl ?_
      obtain ⟨r1, c, h⟩ := bd_inv h
      refine go_callS1 _ 14 rfl (e_P_ends c) mk_P_ends cs_P_11 rfl ⟨(Nat.le_of_ble_eq_true rfl), (Nat.le_of_ble_eq_true rfl)⟩ (Nat.le_of_ble_eq_true rfl) rfl ?_
      refine go_iload_n 15 rfl 2 rfl rfl ?_
      refine go_ishr 16 rfl ?_
      refine go_iconst 1 17 rfl (by decide) ?_
      refine go_iand 18 rfl ?_
      refine go_if_eq 41 19 rfl (by decide) (fun c => ?_) (fun c => ?_)
      · replace h := ite_t c h
        refine go_iinc 1 30 rfl 3 rfl (by decide) (Nat.le_of_ble_eq_true rfl) [(0, _), (1, _), (2, _), (3, _)] rfl ?_
        refine go_goto 11 31 rfl (by decide) ?_
        cases h
        exact ih _ hc
      · replace h := ite_f c h
        refine go_iload_n 20 rfl 1 rfl rfl ?_
        refine go_iload_n 21 rfl 1 rfl rfl ?_
        refine go_iload_n 22 rfl 2 rfl rfl ?_
        obtain ⟨r2, c, h⟩ := bd_inv h
        refine go_callS1 _ 23 rfl (e_P_ends c) mk_P_ends cs_P_11 rfl ⟨(Nat.le_of_ble_eq_true rfl), (Nat.le_of_ble_eq_true rfl)⟩ (Nat.le_of_ble_eq_true rfl) rfl ?_
        refine go_bipush 8 24 rfl (by decide) ?_
        refine go_iload_n 25 rfl 3 rfl rfl ?_
        refine go_imul 26 rfl ?_
        refine go_ishl 27 rfl ?_
        refine go_ior 28 rfl ?_
        obtain ⟨_, c, h⟩ := bd_inv h
        cases c
        refine go_istore_n 29 rfl rfl (Nat.le_of_ble_eq_true rfl) [(0, _), (1, _), (2, _), (3, _)] rfl ?_
        refine go_iinc 1 30 rfl 3 rfl (by decide) (Nat.le_of_ble_eq_true rfl) [(0, _), (1, _), (2, _), (3, _)] rfl ?_
        refine go_goto 11 31 rfl (by decide) ?_
        cases h
        exact ih _ hc
set_option maxRecDepth 20000 in
theorem w_P_chained_4 {l : Launch} {post : Option PV → Mm → Prop} (c0 : Int32) (M : Mm)  {r : Int32 × Int32} (kk : Go l X_P_chained post 53 [(0, vi c0), (1, vi r.1), (2, vi r.2)] [] M) : ∀ (n : Nat) (s : Int32 × Int32), lpN (b_P_chained_4) n s = some r → Go l X_P_chained post 4 [(0, vi c0), (1, vi s.1), (2, vi s.2)] [] M := by
  intro n
  induction n with
  | zero => intro s hc; exact (lpN_0 hc).elim
  | succ n ih =>
    intro s hc
    obtain ⟨q, h, hc⟩ := lpN_inv hc
    unfold b_P_chained_4 at h
    refine go_iload_n 4 rfl 2 rfl rfl ?_
    refine go_iconst 4 5 rfl (by decide) ?_
    refine go_icmp_ge 53 6 rfl (by decide) (fun c => ?_) (fun c => ?_)
    · replace h := ite_t c h
      cases h
      obtain rfl := lpq_r hc
      exact kk
    · replace h := ite_f c h
      refine go_iconst 0 7 rfl (by decide) ?_
      refine go_istore_n 8 rfl rfl (Nat.le_of_ble_eq_true rfl) [(0, _), (1, _), (2, _), (3, _)] rfl ?_
      obtain ⟨r4, c, h⟩ := bd_inv h
      refine w_P_chained_11 _ _ _ ?_ _ _ c
      refine go_iinc 1 32 rfl 2 rfl (by decide) (Nat.le_of_ble_eq_true rfl) [(0, _), (1, _), (2, _), (3, _)] rfl ?_
      refine go_goto 4 33 rfl (by decide) ?_
      cases h
      refine go_sub [0, 1, 2] rfl ?_
      exact ih _ hc
set_option maxRecDepth 20000 in
theorem e_P_chained {l : Launch} {a0 : Int32} {M : Mm} {r : Int32}  (h : m_P_chained a0 = some r) : Ev l X_P_chained [vi a0] M (fun v M2 => v = (some (vi r)) ∧ M2 = M) := by
  refine Ev.of mk_P_chained [(0, vi a0)] (fun _ => rfl) (fun _ => (Nat.le_of_ble_eq_true rfl)) ?_
  unfold m_P_chained at h
  refine go_iload_n 0 rfl 0 rfl rfl ?_
  refine go_istore_n 1 rfl rfl (Nat.le_of_ble_eq_true rfl) [(0, _), (1, _)] rfl ?_
  refine go_iconst 0 2 rfl (by decide) ?_
  refine go_istore_n 3 rfl rfl (Nat.le_of_ble_eq_true rfl) [(0, _), (1, _), (2, _)] rfl ?_
  obtain ⟨r5, c, h⟩ := bd_inv h
  refine w_P_chained_4 _ _ ?_ _ _ c
  refine go_iload_n 34 rfl 1 rfl rfl ?_
  cases h
  exact go_ireturn 35 rfl rfl rfl ⟨rfl, rfl⟩
def X_P_comesBack : MX := (⟨"OmegaDesk$Passage", "comesBack", "(III)Z"⟩, prog_4_method_7_code, 4, some .boolean, { frames := 1, cells := 0, slots := 0, locals := 21 },
  [(0, .iconst 0, 1), (1, .istore_n 3, 2), (2, .iload_n 3, 3), (3, .iconst 4, 4), (4, .if_icmp .ge 31, 7), (7, .iload_n 1, 8), (8, .iload_n 3, 9), (9, .ishr, 10), (10, .iconst 1, 11), (11, .iand, 12), (12, .ifCond .eq 17, 15), (15, .iload_n 0, 16), (16, .iload_n 3, 17), (17, .invokestatic 11, 20), (20, .iload_n 2, 21), (21, .ishr, 22), (22, .iconst 1, 23), (23, .iand, 24), (24, .ifCond .eq 5, 27), (27, .iconst 1, 28), (28, .ireturn, 29), (29, .iinc 3 1, 32), (32, .goto (-30), 35), (35, .iconst 0, 36), (36, .ireturn, 37)])
set_option maxRecDepth 20000 in
theorem mk_P_comesBack : Mk X_P_comesBack := ⟨by unfold TBk; decide +kernel, by decide +kernel, wb_348, ⟨by decide, by decide⟩, rfl, rfl, wb_14⟩
def b_P_comesBack_2 (c0 : Int32) (c1 : Int32) (c2 : Int32) (s : Int32) : Option ((Int32) ⊕ ((Int32) ⊕ (Bool))) :=
  if (4 : Int32) ≤ s then
    some (Sum.inr (Sum.inl s))
  else
    if ((c1 >>> (s &&& 31)) &&& (1 : Int32)) = 0 then
      some (Sum.inl (s + 1))
    else
      bd (m_P_ends c0 s) fun r1 =>
      if ((r1 >>> (c2 &&& 31)) &&& (1 : Int32)) = 0 then
        some (Sum.inl (s + 1))
      else
        some (Sum.inr (Sum.inr true))
def m_P_comesBack (a0 : Int32) (a1 : Int32) (a2 : Int32) : Option (Bool) :=
  bd (lp (b_P_comesBack_2 a0 a1 a2) (0 : Int32)) fun r2 =>
  smr r2 (fun v4 => some v4) fun s3 =>
  some false
set_option maxRecDepth 20000 in
theorem w_P_comesBack_2 {l : Launch} {post : Option PV → Mm → Prop} (c0 : Int32) (c1 : Int32) (c2 : Int32) (M : Mm)  {r : (Int32) ⊕ (Bool)} (kk : ∀ s2, r = Sum.inl s2 → Go l X_P_comesBack post 35 [(0, vi c0), (1, vi c1), (2, vi c2), (3, vi s2)] [] M) (kr : ∀ v, r = Sum.inr v → post (some (vi (bI v))) M) : ∀ (n : Nat) (s : Int32), lpN (b_P_comesBack_2 c0 c1 c2) n s = some r → Go l X_P_comesBack post 2 [(0, vi c0), (1, vi c1), (2, vi c2), (3, vi s)] [] M := by
  intro n
  induction n with
  | zero => intro s hc; exact (lpN_0 hc).elim
  | succ n ih =>
    intro s hc
    obtain ⟨q, h, hc⟩ := lpN_inv hc
    unfold b_P_comesBack_2 at h
    refine go_iload_n 2 rfl 3 rfl rfl ?_
    refine go_iconst 4 3 rfl (by decide) ?_
    refine go_icmp_ge 35 4 rfl (by decide) (fun c => ?_) (fun c => ?_)
    · replace h := ite_t c h
      cases h
      obtain rfl := lpq_r hc
      exact kk _ rfl
    · replace h := ite_f c h
      refine go_iload_n 5 rfl 1 rfl rfl ?_
      refine go_iload_n 6 rfl 3 rfl rfl ?_
      refine go_ishr 7 rfl ?_
      refine go_iconst 1 8 rfl (by decide) ?_
      refine go_iand 9 rfl ?_
      refine go_if_eq 29 10 rfl (by decide) (fun c => ?_) (fun c => ?_)
      · replace h := ite_t c h
        refine go_iinc 1 21 rfl 3 rfl (by decide) (Nat.le_of_ble_eq_true rfl) [(0, _), (1, _), (2, _), (3, _)] rfl ?_
        refine go_goto 2 22 rfl (by decide) ?_
        cases h
        exact ih _ hc
      · replace h := ite_f c h
        refine go_iload_n 11 rfl 0 rfl rfl ?_
        refine go_iload_n 12 rfl 3 rfl rfl ?_
        obtain ⟨r1, c, h⟩ := bd_inv h
        refine go_callS1 _ 13 rfl (e_P_ends c) mk_P_ends cs_P_11 rfl ⟨(Nat.le_of_ble_eq_true rfl), (Nat.le_of_ble_eq_true rfl)⟩ (Nat.le_of_ble_eq_true rfl) rfl ?_
        refine go_iload_n 14 rfl 2 rfl rfl ?_
        refine go_ishr 15 rfl ?_
        refine go_iconst 1 16 rfl (by decide) ?_
        refine go_iand 17 rfl ?_
        refine go_if_eq 29 18 rfl (by decide) (fun c => ?_) (fun c => ?_)
        · replace h := ite_t c h
          refine go_iinc 1 21 rfl 3 rfl (by decide) (Nat.le_of_ble_eq_true rfl) [(0, _), (1, _), (2, _), (3, _)] rfl ?_
          refine go_goto 2 22 rfl (by decide) ?_
          cases h
          exact ih _ hc
        · replace h := ite_f c h
          refine go_iconst 1 19 rfl (by decide) ?_
          cases h
          obtain rfl := lpq_r hc
          exact go_ireturn 20 rfl rfl rfl (kr _ rfl)
set_option maxRecDepth 20000 in
theorem e_P_comesBack {l : Launch} {a0 : Int32} {a1 : Int32} {a2 : Int32} {M : Mm} {r : Bool}  (h : m_P_comesBack a0 a1 a2 = some r) : Ev l X_P_comesBack [vi a0, vi a1, vi a2] M (fun v M2 => v = (some (vi (bI r))) ∧ M2 = M) := by
  refine Ev.of mk_P_comesBack [(0, vi a0), (1, vi a1), (2, vi a2)] (fun _ => rfl) (fun _ => (Nat.le_of_ble_eq_true rfl)) ?_
  unfold m_P_comesBack at h
  refine go_iconst 0 0 rfl (by decide) ?_
  refine go_istore_n 1 rfl rfl (Nat.le_of_ble_eq_true rfl) [(0, _), (1, _), (2, _), (3, _)] rfl ?_
  obtain ⟨r2, c, h⟩ := bd_inv h
  refine w_P_comesBack_2 _ _ _ _ (fun s2 e => ?_) (fun v e => ?_) _ _ c
  · subst e
    replace h := smr_l h
    refine go_iconst 0 23 rfl (by decide) ?_
    cases h
    exact go_ireturn 24 rfl rfl rfl ⟨rfl, rfl⟩
  · subst e
    replace h := smr_r h
    cases h
    exact ⟨rfl, rfl⟩
def X_P_takenRepeated : MX := (⟨"OmegaDesk$Passage", "takenRepeated", "(I)I"⟩, prog_4_method_6_code, 5, some .int, { frames := 2, cells := 0, slots := 0, locals := 44 },
  [(0, .iload_n 0, 1), (1, .ldc 15, 3), (3, .iand, 4), (4, .ifCond .ne 5, 7), (7, .iconst 0, 8), (8, .ireturn, 9), (9, .iload_n 0, 10), (10, .invokestatic 16, 13), (13, .istore_n 1, 14), (14, .iconst 0, 15), (15, .istore_n 2, 16), (16, .iconst 0, 17), (17, .istore_n 3, 18), (18, .iload_n 3, 19), (19, .iconst 4, 20), (20, .if_icmp .ge 28, 23), (23, .iload_n 1, 24), (24, .iload_n 0, 25), (25, .iload_n 3, 26), (26, .invokestatic 20, 29), (29, .iload_n 3, 30), (30, .invokestatic 23, 33), (33, .ifCond .eq 9, 36), (36, .iload_n 2, 37), (37, .iconst 1, 38), (38, .iload_n 3, 39), (39, .ishl, 40), (40, .ior, 41), (41, .istore_n 2, 42), (42, .iinc 3 1, 45), (45, .goto (-27), 48), (48, .iconst 0, 49), (49, .istore_n 3, 50), (50, .iconst 0, 51), (51, .istore 4, 53), (53, .iload 4, 55), (55, .iconst 4, 56), (56, .if_icmp .ge 27, 59), (59, .iload_n 1, 60), (60, .iload 4, 62), (62, .invokestatic 11, 65), (65, .iload_n 2, 66), (66, .iand, 67), (67, .ifCond .eq 10, 70), (70, .iload_n 3, 71), (71, .iconst 1, 72), (72, .iload 4, 74), (74, .ishl, 75), (75, .ior, 76), (76, .istore_n 3, 77), (77, .iinc 4 1, 80), (80, .goto (-27), 83), (83, .iload_n 3, 84), (84, .ireturn, 85)])
set_option maxRecDepth 20000 in
theorem mk_P_takenRepeated : Mk X_P_takenRepeated := ⟨by unfold TBk; decide +kernel, by decide +kernel, wb_342, ⟨by decide, by decide⟩, rfl, rfl, wb_14⟩
theorem cs_P_16 : CS "OmegaDesk$Passage" 16 X_P_chained 1 := ⟨Or.inl wb_344, wb_334, by decide +kernel⟩
theorem cs_P_20 : CS "OmegaDesk$Passage" 20 X_P_goodEnds 2 := ⟨Or.inl wb_345, wb_331, by decide +kernel⟩
theorem cs_P_23 : CS "OmegaDesk$Passage" 23 X_P_comesBack 3 := ⟨Or.inl wb_346, wb_347, by decide +kernel⟩
def b_P_takenRepeated_18 (c0 : Int32) (c1 : Int32) (s : Int32 × Int32) : Option ((Int32 × Int32) ⊕ (Int32 × Int32)) :=
  if (4 : Int32) ≤ s.2 then
    some (Sum.inr (s.1, s.2))
  else
    bd (m_P_goodEnds c0 s.2) fun r2 =>
    bd (m_P_comesBack c1 r2 s.2) fun r3 =>
    if (bI r3) = 0 then
      some (Sum.inl (s.1, (s.2 + 1)))
    else
      some (Sum.inl ((s.1 ||| ((1 : Int32) <<< (s.2 &&& 31))), (s.2 + 1)))
def b_P_takenRepeated_53 (c1 : Int32) (c2 : Int32) (s : Int32 × Int32) : Option ((Int32 × Int32) ⊕ (Int32 × Int32)) :=
  if (4 : Int32) ≤ s.2 then
    some (Sum.inr (s.1, s.2))
  else
    bd (m_P_ends c1 s.2) fun r5 =>
    if (r5 &&& c2) = 0 then
      some (Sum.inl (s.1, (s.2 + 1)))
    else
      some (Sum.inl ((s.1 ||| ((1 : Int32) <<< (s.2 &&& 31))), (s.2 + 1)))
def m_P_takenRepeated (a0 : Int32) : Option (Int32) :=
  if (a0 &&& (-252645136 : Int32)) = 0 then
    some (0 : Int32)
  else
    bd (m_P_chained a0) fun r1 =>
    bd (lp (b_P_takenRepeated_18 a0 r1) ((0 : Int32), (0 : Int32))) fun r4 =>
    bd (lp (b_P_takenRepeated_53 r1 r4.1) ((0 : Int32), (0 : Int32))) fun r6 =>
    some r6.1
set_option maxRecDepth 20000 in
theorem w_P_takenRepeated_18 {l : Launch} {post : Option PV → Mm → Prop} (c0 : Int32) (c1 : Int32) (M : Mm)  {r : Int32 × Int32} (kk : Go l X_P_takenRepeated post 48 [(0, vi c0), (1, vi c1), (2, vi r.1), (3, vi r.2)] [] M) : ∀ (n : Nat) (s : Int32 × Int32), lpN (b_P_takenRepeated_18 c0 c1) n s = some r → Go l X_P_takenRepeated post 18 [(0, vi c0), (1, vi c1), (2, vi s.1), (3, vi s.2)] [] M := by
  intro n
  induction n with
  | zero => intro s hc; exact (lpN_0 hc).elim
  | succ n ih =>
    intro s hc
    obtain ⟨q, h, hc⟩ := lpN_inv hc
    unfold b_P_takenRepeated_18 at h
    refine go_iload_n 13 rfl 3 rfl rfl ?_
    refine go_iconst 4 14 rfl (by decide) ?_
    refine go_icmp_ge 48 15 rfl (by decide) (fun c => ?_) (fun c => ?_)
    · replace h := ite_t c h
      cases h
      obtain rfl := lpq_r hc
      exact kk
    · replace h := ite_f c h
      refine go_iload_n 16 rfl 1 rfl rfl ?_
      refine go_iload_n 17 rfl 0 rfl rfl ?_
      refine go_iload_n 18 rfl 3 rfl rfl ?_
      obtain ⟨r2, c, h⟩ := bd_inv h
      refine go_callS1 _ 19 rfl (e_P_goodEnds c) mk_P_goodEnds cs_P_20 rfl ⟨(Nat.le_of_ble_eq_true rfl), (Nat.le_of_ble_eq_true rfl)⟩ (Nat.le_of_ble_eq_true rfl) rfl ?_
      refine go_iload_n 20 rfl 3 rfl rfl ?_
      obtain ⟨r3, c, h⟩ := bd_inv h
      refine go_callS1 _ 21 rfl (e_P_comesBack c) mk_P_comesBack cs_P_23 rfl ⟨(Nat.le_of_ble_eq_true rfl), (Nat.le_of_ble_eq_true rfl)⟩ (Nat.le_of_ble_eq_true rfl) rfl ?_
      refine go_if_eq 42 22 rfl (by decide) (fun c => ?_) (fun c => ?_)
      · replace h := ite_t c h
        refine go_iinc 1 29 rfl 3 rfl (by decide) (Nat.le_of_ble_eq_true rfl) [(0, _), (1, _), (2, _), (3, _)] rfl ?_
        refine go_goto 18 30 rfl (by decide) ?_
        cases h
        exact ih _ hc
      · replace h := ite_f c h
        refine go_iload_n 23 rfl 2 rfl rfl ?_
        refine go_iconst 1 24 rfl (by decide) ?_
        refine go_iload_n 25 rfl 3 rfl rfl ?_
        refine go_ishl 26 rfl ?_
        refine go_ior 27 rfl ?_
        refine go_istore_n 28 rfl rfl (Nat.le_of_ble_eq_true rfl) [(0, _), (1, _), (2, _), (3, _)] rfl ?_
        refine go_iinc 1 29 rfl 3 rfl (by decide) (Nat.le_of_ble_eq_true rfl) [(0, _), (1, _), (2, _), (3, _)] rfl ?_
        refine go_goto 18 30 rfl (by decide) ?_
        cases h
        exact ih _ hc
set_option maxRecDepth 20000 in
theorem w_P_takenRepeated_53 {l : Launch} {post : Option PV → Mm → Prop} (c0 : Int32) (c1 : Int32) (c2 : Int32) (M : Mm)  {r : Int32 × Int32} (kk : Go l X_P_takenRepeated post 83 [(0, vi c0), (1, vi c1), (2, vi c2), (3, vi r.1), (4, vi r.2)] [] M) : ∀ (n : Nat) (s : Int32 × Int32), lpN (b_P_takenRepeated_53 c1 c2) n s = some r → Go l X_P_takenRepeated post 53 [(0, vi c0), (1, vi c1), (2, vi c2), (3, vi s.1), (4, vi s.2)] [] M := by
  intro n
  induction n with
  | zero => intro s hc; exact (lpN_0 hc).elim
  | succ n ih =>
    intro s hc
    obtain ⟨q, h, hc⟩ := lpN_inv hc
    unfold b_P_takenRepeated_53 at h
    refine go_iload 35 rfl 4 rfl ?_
    refine go_iconst 4 36 rfl (by decide) ?_
    refine go_icmp_ge 83 37 rfl (by decide) (fun c => ?_) (fun c => ?_)
    · replace h := ite_t c h
      cases h
      obtain rfl := lpq_r hc
      exact kk
    · replace h := ite_f c h
      refine go_iload_n 38 rfl 1 rfl rfl ?_
      refine go_iload 39 rfl 4 rfl ?_
      obtain ⟨r5, c, h⟩ := bd_inv h
      refine go_callS1 _ 40 rfl (e_P_ends c) mk_P_ends cs_P_11 rfl ⟨(Nat.le_of_ble_eq_true rfl), (Nat.le_of_ble_eq_true rfl)⟩ (Nat.le_of_ble_eq_true rfl) rfl ?_
      refine go_iload_n 41 rfl 2 rfl rfl ?_
      refine go_iand 42 rfl ?_
      refine go_if_eq 77 43 rfl (by decide) (fun c => ?_) (fun c => ?_)
      · replace h := ite_t c h
        refine go_iinc 1 50 rfl 4 rfl (by decide) (Nat.le_of_ble_eq_true rfl) [(0, _), (1, _), (2, _), (3, _), (4, _)] rfl ?_
        refine go_goto 53 51 rfl (by decide) ?_
        cases h
        exact ih _ hc
      · replace h := ite_f c h
        refine go_iload_n 44 rfl 3 rfl rfl ?_
        refine go_iconst 1 45 rfl (by decide) ?_
        refine go_iload 46 rfl 4 rfl ?_
        refine go_ishl 47 rfl ?_
        refine go_ior 48 rfl ?_
        refine go_istore_n 49 rfl rfl (Nat.le_of_ble_eq_true rfl) [(0, _), (1, _), (2, _), (3, _), (4, _)] rfl ?_
        refine go_iinc 1 50 rfl 4 rfl (by decide) (Nat.le_of_ble_eq_true rfl) [(0, _), (1, _), (2, _), (3, _), (4, _)] rfl ?_
        refine go_goto 53 51 rfl (by decide) ?_
        cases h
        exact ih _ hc
set_option maxRecDepth 20000 in
theorem e_P_takenRepeated {l : Launch} {a0 : Int32} {M : Mm} {r : Int32}  (h : m_P_takenRepeated a0 = some r) : Ev l X_P_takenRepeated [vi a0] M (fun v M2 => v = (some (vi r)) ∧ M2 = M) := by
  refine Ev.of mk_P_takenRepeated [(0, vi a0)] (fun _ => rfl) (fun _ => (Nat.le_of_ble_eq_true rfl)) ?_
  unfold m_P_takenRepeated at h
  refine go_iload_n 0 rfl 0 rfl rfl ?_
  refine go_ldc (-252645136) 1 rfl wb_343 ?_
  refine go_iand 2 rfl ?_
  refine go_if_ne 9 3 rfl (by decide) (fun c => ?_) (fun c => ?_)
  · replace h := ite_f c h
    refine go_iload_n 6 rfl 0 rfl rfl ?_
    obtain ⟨r1, c, h⟩ := bd_inv h
    refine go_callS1 _ 7 rfl (e_P_chained c) mk_P_chained cs_P_16 rfl ⟨(Nat.le_of_ble_eq_true rfl), (Nat.le_of_ble_eq_true rfl)⟩ (Nat.le_of_ble_eq_true rfl) rfl ?_
    refine go_istore_n 8 rfl rfl (Nat.le_of_ble_eq_true rfl) [(0, _), (1, _)] rfl ?_
    refine go_iconst 0 9 rfl (by decide) ?_
    refine go_istore_n 10 rfl rfl (Nat.le_of_ble_eq_true rfl) [(0, _), (1, _), (2, _)] rfl ?_
    refine go_iconst 0 11 rfl (by decide) ?_
    refine go_istore_n 12 rfl rfl (Nat.le_of_ble_eq_true rfl) [(0, _), (1, _), (2, _), (3, _)] rfl ?_
    obtain ⟨r4, c, h⟩ := bd_inv h
    refine w_P_takenRepeated_18 _ _ _ ?_ _ _ c
    refine go_iconst 0 31 rfl (by decide) ?_
    refine go_istore_n 32 rfl rfl (Nat.le_of_ble_eq_true rfl) [(0, _), (1, _), (2, _), (3, _)] rfl ?_
    refine go_iconst 0 33 rfl (by decide) ?_
    refine go_istore 34 rfl (Nat.le_of_ble_eq_true rfl) [(0, _), (1, _), (2, _), (3, _), (4, _)] rfl ?_
    obtain ⟨r6, c, h⟩ := bd_inv h
    refine w_P_takenRepeated_53 _ _ _ _ ?_ _ _ c
    refine go_iload_n 52 rfl 3 rfl rfl ?_
    cases h
    exact go_ireturn 53 rfl rfl rfl ⟨rfl, rfl⟩
  · replace h := ite_t c h
    refine go_iconst 0 4 rfl (by decide) ?_
    cases h
    exact go_ireturn 5 rfl rfl rfl ⟨rfl, rfl⟩
end
section
def X_I_bitCount : MX := (⟨"java/lang/Integer", "bitCount", "(I)I"⟩, prog_12_method_49_code, 1, some .int, { frames := 0, cells := 0, slots := 0, locals := 0 },
  [(0, .iload_n 0, 1), (1, .iload_n 0, 2), (2, .iconst 1, 3), (3, .iushr, 4), (4, .ldc_w 265, 7), (7, .iand, 8), (8, .isub, 9), (9, .istore_n 0, 10), (10, .iload_n 0, 11), (11, .ldc_w 266, 14), (14, .iand, 15), (15, .iload_n 0, 16), (16, .iconst 2, 17), (17, .iushr, 18), (18, .ldc_w 266, 21), (21, .iand, 22), (22, .iadd, 23), (23, .istore_n 0, 24), (24, .iload_n 0, 25), (25, .iload_n 0, 26), (26, .iconst 4, 27), (27, .iushr, 28), (28, .iadd, 29), (29, .ldc_w 267, 32), (32, .iand, 33), (33, .istore_n 0, 34), (34, .iload_n 0, 35), (35, .iload_n 0, 36), (36, .bipush 8, 38), (38, .iushr, 39), (39, .iadd, 40), (40, .istore_n 0, 41), (41, .iload_n 0, 42), (42, .iload_n 0, 43), (43, .bipush 16, 45), (45, .iushr, 46), (46, .iadd, 47), (47, .istore_n 0, 48), (48, .iload_n 0, 49), (49, .bipush 63, 51), (51, .iand, 52), (52, .ireturn, 53)])
set_option maxRecDepth 20000 in
theorem mk_I_bitCount : Mk X_I_bitCount := ⟨by unfold TBk; decide +kernel, by decide +kernel, wb_359, ⟨by decide, by decide⟩, rfl, rfl, wb_15⟩
def m_I_bitCount (a0 : Int32) : Option (Int32) :=
  bd (some (a0 - (((a0.toUInt32 >>> ((1 : Int32).toUInt32 &&& Int32.toUInt32 31)).toInt32) &&& (1431655765 : Int32)))) fun x1 =>
  bd (some ((x1 &&& (858993459 : Int32)) + (((x1.toUInt32 >>> ((2 : Int32).toUInt32 &&& Int32.toUInt32 31)).toInt32) &&& (858993459 : Int32)))) fun x2 =>
  bd (some ((x2 + ((x2.toUInt32 >>> ((4 : Int32).toUInt32 &&& Int32.toUInt32 31)).toInt32)) &&& (252645135 : Int32))) fun x3 =>
  bd (some (x3 + ((x3.toUInt32 >>> ((8 : Int32).toUInt32 &&& Int32.toUInt32 31)).toInt32))) fun x4 =>
  bd (some (x4 + ((x4.toUInt32 >>> ((16 : Int32).toUInt32 &&& Int32.toUInt32 31)).toInt32))) fun x5 =>
  some (x5 &&& (63 : Int32))
set_option maxRecDepth 20000 in
theorem e_I_bitCount {l : Launch} {a0 : Int32} {M : Mm} {r : Int32}  (h : m_I_bitCount a0 = some r) : Ev l X_I_bitCount [vi a0] M (fun v M2 => v = (some (vi r)) ∧ M2 = M) := by
  refine Ev.of mk_I_bitCount [(0, vi a0)] (fun _ => rfl) (fun _ => (Nat.le_of_ble_eq_true rfl)) ?_
  unfold m_I_bitCount at h
  refine go_iload_n 0 rfl 0 rfl rfl ?_
  refine go_iload_n 1 rfl 0 rfl rfl ?_
  refine go_iconst 1 2 rfl (by decide) ?_
  refine go_iushr 3 rfl ?_
  refine go_ldcw 1431655765 4 rfl wb_360 ?_
  refine go_iand 5 rfl ?_
  refine go_isub 6 rfl ?_
  obtain ⟨_, c, h⟩ := bd_inv h
  cases c
  refine go_istore_n 7 rfl rfl (Nat.le_of_ble_eq_true rfl) [(0, _)] rfl ?_
  refine go_iload_n 8 rfl 0 rfl rfl ?_
  refine go_ldcw 858993459 9 rfl wb_361 ?_
  refine go_iand 10 rfl ?_
  refine go_iload_n 11 rfl 0 rfl rfl ?_
  refine go_iconst 2 12 rfl (by decide) ?_
  refine go_iushr 13 rfl ?_
  refine go_ldcw 858993459 14 rfl wb_361 ?_
  refine go_iand 15 rfl ?_
  refine go_iadd 16 rfl ?_
  obtain ⟨_, c, h⟩ := bd_inv h
  cases c
  refine go_istore_n 17 rfl rfl (Nat.le_of_ble_eq_true rfl) [(0, _)] rfl ?_
  refine go_iload_n 18 rfl 0 rfl rfl ?_
  refine go_iload_n 19 rfl 0 rfl rfl ?_
  refine go_iconst 4 20 rfl (by decide) ?_
  refine go_iushr 21 rfl ?_
  refine go_iadd 22 rfl ?_
  refine go_ldcw 252645135 23 rfl wb_362 ?_
  refine go_iand 24 rfl ?_
  obtain ⟨_, c, h⟩ := bd_inv h
  cases c
  refine go_istore_n 25 rfl rfl (Nat.le_of_ble_eq_true rfl) [(0, _)] rfl ?_
  refine go_iload_n 26 rfl 0 rfl rfl ?_
  refine go_iload_n 27 rfl 0 rfl rfl ?_
  refine go_bipush 8 28 rfl (by decide) ?_
  refine go_iushr 29 rfl ?_
  refine go_iadd 30 rfl ?_
  obtain ⟨_, c, h⟩ := bd_inv h
  cases c
  refine go_istore_n 31 rfl rfl (Nat.le_of_ble_eq_true rfl) [(0, _)] rfl ?_
  refine go_iload_n 32 rfl 0 rfl rfl ?_
  refine go_iload_n 33 rfl 0 rfl rfl ?_
  refine go_bipush 16 34 rfl (by decide) ?_
  refine go_iushr 35 rfl ?_
  refine go_iadd 36 rfl ?_
  obtain ⟨_, c, h⟩ := bd_inv h
  cases c
  refine go_istore_n 37 rfl rfl (Nat.le_of_ble_eq_true rfl) [(0, _)] rfl ?_
  refine go_iload_n 38 rfl 0 rfl rfl ?_
  refine go_bipush 63 39 rfl (by decide) ?_
  refine go_iand 40 rfl ?_
  cases h
  exact go_ireturn 41 rfl rfl rfl ⟨rfl, rfl⟩
def X_Y_fill : MX := (⟨"java/util/Arrays", "fill", "([II)V"⟩, prog_17_method_103_code, 4, none, { frames := 0, cells := 0, slots := 0, locals := 0 },
  [(0, .iconst 0, 1), (1, .istore_n 2, 2), (2, .aload_n 0, 3), (3, .arraylength, 4), (4, .istore_n 3, 5), (5, .iload_n 2, 6), (6, .iload_n 3, 7), (7, .if_icmp .ge 13, 10), (10, .aload_n 0, 11), (11, .iload_n 2, 12), (12, .iload_n 1, 13), (13, .iastore, 14), (14, .iinc 2 1, 17), (17, .goto (-12), 20), (20, .return_, 21)])
set_option maxRecDepth 20000 in
theorem mk_Y_fill : Mk X_Y_fill := ⟨by unfold TBk; decide +kernel, by decide +kernel, wb_277, ⟨by decide, by decide⟩, rfl, rfl, wb_12⟩
def b_Y_fill_5 (c0 : Nat) (c1 : Int32) (c3 : Int32) (s : Int32 × Mm) : Option ((Int32 × Mm) ⊕ (Int32 × Mm)) :=
  if c3 ≤ s.1 then
    some (Sum.inr (s.1, s.2))
  else
    ck (inb s.1 (lenI c0)) <|
    bd (some (uI s.2 (1, c0) s.1.toNatClampNeg c1)) fun M1 =>
    some (Sum.inl ((s.1 + 1), M1))
def m_Y_fill (a0 : Nat) (a1 : Int32) (M : Mm) : Option (Mm) :=
  bd (lp (b_Y_fill_5 a0 a1 (Int32.ofNat (lenI a0))) ((0 : Int32), M)) fun r2 =>
  some r2.2
set_option maxRecDepth 20000 in
theorem w_Y_fill_5 {l : Launch} {post : Option PV → Mm → Prop} (c0 : Nat) (c1 : Int32) (c3 : Int32) (h0 : c0 < 23) {r : Int32 × Mm} (kk : Go l X_Y_fill post 20 [(0, vr 1 c0), (1, vi c1), (2, vi r.1), (3, vi c3)] [] r.2) : ∀ (n : Nat) (s : Int32 × Mm), lpN (b_Y_fill_5 c0 c1 c3) n s = some r → Go l X_Y_fill post 5 [(0, vr 1 c0), (1, vi c1), (2, vi s.1), (3, vi c3)] [] s.2 := by
  intro n
  induction n with
  | zero => intro s hc; exact (lpN_0 hc).elim
  | succ n ih =>
    intro s hc
    obtain ⟨q, h, hc⟩ := lpN_inv hc
    unfold b_Y_fill_5 at h
    refine go_iload_n 5 rfl 2 rfl rfl ?_
    refine go_iload_n 6 rfl 3 rfl rfl ?_
    refine go_icmp_ge 20 7 rfl (by decide) (fun c => ?_) (fun c => ?_)
    · replace h := ite_t c h
      cases h
      obtain rfl := lpq_r hc
      exact kk
    · replace h := ite_f c h
      refine go_aload_n 8 rfl 0 rfl rfl ?_
      refine go_iload_n 9 rfl 2 rfl rfl ?_
      refine go_iload_n 10 rfl 1 rfl rfl ?_
      obtain ⟨c, h⟩ := ck_inv h
      refine go_iastore 11 rfl (by first | decide | exact ok0 (by omega) | exact ok1 (by omega) | exact ok2 (by omega) | exact ok7 (by omega)) (inb_vp c) ?_
      obtain ⟨_, c, h⟩ := bd_inv h
      cases c
      refine go_iinc 1 12 rfl 2 rfl (by decide) (Nat.le_of_ble_eq_true rfl) [(0, _), (1, _), (2, _), (3, _)] rfl ?_
      refine go_goto 5 13 rfl (by decide) ?_
      cases h
      exact ih _ hc
set_option maxRecDepth 20000 in
theorem e_Y_fill {l : Launch} {a0 : Nat} {a1 : Int32} {M : Mm} {r : Mm} (h0 : a0 < 23) (h : m_Y_fill a0 a1 M = some r) : Ev l X_Y_fill [vr 1 a0, vi a1] M (fun v M2 => v = none ∧ M2 = r) := by
  refine Ev.of mk_Y_fill [(0, vr 1 a0), (1, vi a1)] (fun _ => rfl) (fun _ => (Nat.le_of_ble_eq_true rfl)) ?_
  unfold m_Y_fill at h
  refine go_iconst 0 0 rfl (by decide) ?_
  refine go_istore_n 1 rfl rfl (Nat.le_of_ble_eq_true rfl) [(0, _), (1, _), (2, _)] rfl ?_
  refine go_aload_n 2 rfl 0 rfl rfl ?_
  refine go_arraylength _ 3 rfl (by first | decide | exact ok0 (by omega) | exact ok1 (by omega) | exact ok2 (by omega) | exact ok7 (by omega)) rfl ?_
  refine go_istore_n 4 rfl rfl (Nat.le_of_ble_eq_true rfl) [(0, _), (1, _), (2, _), (3, _)] rfl ?_
  obtain ⟨r2, c, h⟩ := bd_inv h
  refine w_Y_fill_5 _ _ _ (by omega) ?_ _ _ c
  cases h
  exact go_return 14 rfl rfl ⟨rfl, rfl⟩
end
section
def X_A_hasState : MX := (⟨"OmegaDesk$Automaton", "hasState", "(I)Z"⟩, prog_2_method_2_code, 2, some .boolean, { frames := 0, cells := 0, slots := 0, locals := 0 },
  [(0, .iload_n 1, 1), (1, .ifCond .lt 15, 4), (4, .iload_n 1, 5), (5, .aload_n 0, 6), (6, .getfield 9, 9), (9, .if_icmp .ge 7, 12), (12, .iconst 1, 13), (13, .goto 4, 16), (16, .iconst 0, 17), (17, .ireturn, 18)])
set_option maxRecDepth 20000 in
theorem mk_A_hasState : Mk X_A_hasState := ⟨by unfold TBk; decide +kernel, by decide +kernel, wb_249, ⟨by decide, by decide⟩, rfl, rfl, wb_2⟩
theorem fg_A_9 : FG "OmegaDesk$Automaton" 9 0 0 := ⟨R_A, F_A, 3, rfl, by decide, uw_A, Or.inl wb_32⟩
def m_A_hasState (a0 : Nat) (a1 : Int32) (M : Mm) : Option (Bool) :=
  if a1 < 0 then
    some false
  else
    if (M.1 (0, a0) 0) ≤ a1 then
      some false
    else
      some true
set_option maxRecDepth 20000 in
theorem e_A_hasState {l : Launch} {a0 : Nat} {a1 : Int32} {M : Mm} {r : Bool} (h0 : a0 < 7) (h : m_A_hasState a0 a1 M = some r) : Ev l X_A_hasState [vr 0 a0, vi a1] M (fun v M2 => v = (some (vi (bI r))) ∧ M2 = M) := by
  refine Ev.of mk_A_hasState [(0, vr 0 a0), (1, vi a1)] (fun _ => rfl) (fun _ => (Nat.le_of_ble_eq_true rfl)) ?_
  unfold m_A_hasState at h
  refine go_iload_n 0 rfl 1 rfl rfl ?_
  refine go_if_lt 16 1 rfl (by decide) (fun c => ?_) (fun c => ?_)
  · replace h := ite_t c h
    refine go_iconst 0 8 rfl (by decide) ?_
    cases h
    exact go_ireturn 9 rfl rfl rfl ⟨rfl, rfl⟩
  · replace h := ite_f c h
    refine go_iload_n 2 rfl 1 rfl rfl ?_
    refine go_aload_n 3 rfl 0 rfl rfl ?_
    refine go_getfield 0 _ 4 rfl (by first | decide | exact ok0 (by omega) | exact ok1 (by omega) | exact ok2 (by omega) | exact ok7 (by omega)) rfl fg_A_9 rfl ?_
    refine go_icmp_ge 16 5 rfl (by decide) (fun c => ?_) (fun c => ?_)
    · replace h := ite_t c h
      refine go_iconst 0 8 rfl (by decide) ?_
      cases h
      exact go_ireturn 9 rfl rfl rfl ⟨rfl, rfl⟩
    · replace h := ite_f c h
      refine go_iconst 1 6 rfl (by decide) ?_
      refine go_goto 17 7 rfl (by decide) ?_
      cases h
      exact go_ireturn 9 rfl rfl rfl ⟨rfl, rfl⟩
def X_A_isGood : MX := (⟨"OmegaDesk$Automaton", "isGood", "(I)Z"⟩, prog_2_method_3_code, 2, some .boolean, { frames := 0, cells := 0, slots := 0, locals := 0 },
  [(0, .aload_n 0, 1), (1, .getfield 15, 4), (4, .iload_n 1, 5), (5, .ishr, 6), (6, .iconst 1, 7), (7, .iand, 8), (8, .ifCond .eq 7, 11), (11, .iconst 1, 12), (12, .goto 4, 15), (15, .iconst 0, 16), (16, .ireturn, 17)])
set_option maxRecDepth 20000 in
theorem mk_A_isGood : Mk X_A_isGood := ⟨by unfold TBk; decide +kernel, by decide +kernel, wb_294, ⟨by decide, by decide⟩, rfl, rfl, wb_2⟩
theorem fg_A_15 : FG "OmegaDesk$Automaton" 15 0 1 := ⟨R_A, F_A, 3, rfl, by decide, uw_A, Or.inl wb_36⟩
def m_A_isGood (a0 : Nat) (a1 : Int32) (M : Mm) : Option (Bool) :=
  if (((M.1 (0, a0) 1) >>> (a1 &&& 31)) &&& (1 : Int32)) = 0 then
    some false
  else
    some true
set_option maxRecDepth 20000 in
theorem e_A_isGood {l : Launch} {a0 : Nat} {a1 : Int32} {M : Mm} {r : Bool} (h0 : a0 < 7) (h : m_A_isGood a0 a1 M = some r) : Ev l X_A_isGood [vr 0 a0, vi a1] M (fun v M2 => v = (some (vi (bI r))) ∧ M2 = M) := by
  refine Ev.of mk_A_isGood [(0, vr 0 a0), (1, vi a1)] (fun _ => rfl) (fun _ => (Nat.le_of_ble_eq_true rfl)) ?_
  unfold m_A_isGood at h
  refine go_aload_n 0 rfl 0 rfl rfl ?_
  refine go_getfield 1 _ 1 rfl (by first | decide | exact ok0 (by omega) | exact ok1 (by omega) | exact ok2 (by omega) | exact ok7 (by omega)) rfl fg_A_15 rfl ?_
  refine go_iload_n 2 rfl 1 rfl rfl ?_
  refine go_ishr 3 rfl ?_
  refine go_iconst 1 4 rfl (by decide) ?_
  refine go_iand 5 rfl ?_
  refine go_if_eq 15 6 rfl (by decide) (fun c => ?_) (fun c => ?_)
  · replace h := ite_t c h
    refine go_iconst 0 9 rfl (by decide) ?_
    cases h
    exact go_ireturn 10 rfl rfl rfl ⟨rfl, rfl⟩
  · replace h := ite_f c h
    refine go_iconst 1 7 rfl (by decide) ?_
    refine go_goto 16 8 rfl (by decide) ?_
    cases h
    exact go_ireturn 10 rfl rfl rfl ⟨rfl, rfl⟩
def X_A_followersOf : MX := (⟨"OmegaDesk$Automaton", "followersOf", "(II)I"⟩, prog_2_method_5_code, 3, some .int, { frames := 0, cells := 0, slots := 0, locals := 0 },
  [(0, .aload_n 0, 1), (1, .getfield 18, 4), (4, .iload_n 2, 5), (5, .iconst 1, 6), (6, .iand, 7), (7, .bipush 16, 9), (9, .imul, 10), (10, .iload_n 1, 11), (11, .bipush 15, 13), (13, .iand, 14), (14, .iadd, 15), (15, .iaload, 16), (16, .ireturn, 17)])
set_option maxRecDepth 20000 in
theorem mk_A_followersOf : Mk X_A_followersOf := ⟨by unfold TBk; decide +kernel, by decide +kernel, wb_259, ⟨by decide, by decide⟩, rfl, rfl, wb_2⟩
theorem fg_A_18 : FG "OmegaDesk$Automaton" 18 0 2 := ⟨R_A, F_A, 3, rfl, by decide, uw_A, Or.inl wb_38⟩
def m_A_followersOf (a0 : Nat) (a1 : Int32) (a2 : Int32) (M : Mm) : Option (Int32) :=
  ck (inb (((a2 &&& (1 : Int32)) * (16 : Int32)) + (a1 &&& (15 : Int32))) (lenI a0)) <|
  some (M.1 (1, a0) (((a2 &&& (1 : Int32)) * (16 : Int32)) + (a1 &&& (15 : Int32))).toNatClampNeg)
set_option maxRecDepth 20000 in
theorem e_A_followersOf {l : Launch} {a0 : Nat} {a1 : Int32} {a2 : Int32} {M : Mm} {r : Int32} (h0 : a0 < 7) (h : m_A_followersOf a0 a1 a2 M = some r) : Ev l X_A_followersOf [vr 0 a0, vi a1, vi a2] M (fun v M2 => v = (some (vi r)) ∧ M2 = M) := by
  refine Ev.of mk_A_followersOf [(0, vr 0 a0), (1, vi a1), (2, vi a2)] (fun _ => rfl) (fun _ => (Nat.le_of_ble_eq_true rfl)) ?_
  unfold m_A_followersOf at h
  refine go_aload_n 0 rfl 0 rfl rfl ?_
  refine go_getfield 2 _ 1 rfl (by first | decide | exact ok0 (by omega) | exact ok1 (by omega) | exact ok2 (by omega) | exact ok7 (by omega)) rfl fg_A_18 rfl ?_
  refine go_iload_n 2 rfl 2 rfl rfl ?_
  refine go_iconst 1 3 rfl (by decide) ?_
  refine go_iand 4 rfl ?_
  refine go_bipush 16 5 rfl (by decide) ?_
  refine go_imul 6 rfl ?_
  refine go_iload_n 7 rfl 1 rfl rfl ?_
  refine go_bipush 15 8 rfl (by decide) ?_
  refine go_iand 9 rfl ?_
  refine go_iadd 10 rfl ?_
  obtain ⟨c, h⟩ := ck_inv h
  refine go_iaload 11 rfl (by first | decide | exact ok0 (by omega) | exact ok1 (by omega) | exact ok2 (by omega) | exact ok7 (by omega)) (inb_vp c) ?_
  cases h
  exact go_ireturn 12 rfl rfl rfl ⟨rfl, rfl⟩
def X_A_joins : MX := (⟨"OmegaDesk$Automaton", "joins", "(III)Z"⟩, prog_2_method_4_code, 4, some .boolean, { frames := 1, cells := 0, slots := 0, locals := 22 },
  [(0, .aload_n 0, 1), (1, .iconst 1, 2), (2, .iload_n 1, 3), (3, .ishl, 4), (4, .iload_n 2, 5), (5, .invokevirtual 22, 8), (8, .iload_n 3, 9), (9, .ishr, 10), (10, .iconst 1, 11), (11, .iand, 12), (12, .ifCond .eq 7, 15), (15, .iconst 1, 16), (16, .goto 4, 19), (19, .iconst 0, 20), (20, .ireturn, 21)])
set_option maxRecDepth 20000 in
theorem mk_A_joins : Mk X_A_joins := ⟨by unfold TBk; decide +kernel, by decide +kernel, wb_255, ⟨by decide, by decide⟩, rfl, rfl, wb_2⟩
theorem cv_A_22 : CV "OmegaDesk$Automaton" 22 X_A_followersOf 2 0 := ⟨Or.inl wb_256, ⟨wb_257, wb_258⟩, by decide +kernel, F_A, 3, rfl⟩
def m_A_joins (a0 : Nat) (a1 : Int32) (a2 : Int32) (a3 : Int32) (M : Mm) : Option (Bool) :=
  bd (m_A_followersOf a0 ((1 : Int32) <<< (a1 &&& 31)) a2 M) fun r1 =>
  if ((r1 >>> (a3 &&& 31)) &&& (1 : Int32)) = 0 then
    some false
  else
    some true
set_option maxRecDepth 20000 in
theorem e_A_joins {l : Launch} {a0 : Nat} {a1 : Int32} {a2 : Int32} {a3 : Int32} {M : Mm} {r : Bool} (h0 : a0 < 7) (h : m_A_joins a0 a1 a2 a3 M = some r) : Ev l X_A_joins [vr 0 a0, vi a1, vi a2, vi a3] M (fun v M2 => v = (some (vi (bI r))) ∧ M2 = M) := by
  refine Ev.of mk_A_joins [(0, vr 0 a0), (1, vi a1), (2, vi a2), (3, vi a3)] (fun _ => rfl) (fun _ => (Nat.le_of_ble_eq_true rfl)) ?_
  unfold m_A_joins at h
  refine go_aload_n 0 rfl 0 rfl rfl ?_
  refine go_iconst 1 1 rfl (by decide) ?_
  refine go_iload_n 2 rfl 1 rfl rfl ?_
  refine go_ishl 3 rfl ?_
  refine go_iload_n 4 rfl 2 rfl rfl ?_
  obtain ⟨r1, c, h⟩ := bd_inv h
  refine go_callV1 _ 5 rfl (e_A_followersOf (by omega) c) mk_A_followersOf (by first | decide | exact ok0 (by omega) | exact ok1 (by omega) | exact ok2 (by omega) | exact ok7 (by omega)) rfl cv_A_22 rfl ⟨(Nat.le_of_ble_eq_true rfl), (Nat.le_of_ble_eq_true rfl)⟩ (Nat.le_of_ble_eq_true rfl) rfl ?_
  refine go_iload_n 6 rfl 3 rfl rfl ?_
  refine go_ishr 7 rfl ?_
  refine go_iconst 1 8 rfl (by decide) ?_
  refine go_iand 9 rfl ?_
  refine go_if_eq 19 10 rfl (by decide) (fun c => ?_) (fun c => ?_)
  · replace h := ite_t c h
    refine go_iconst 0 13 rfl (by decide) ?_
    cases h
    exact go_ireturn 14 rfl rfl rfl ⟨rfl, rfl⟩
  · replace h := ite_f c h
    refine go_iconst 1 11 rfl (by decide) ?_
    refine go_goto 20 12 rfl (by decide) ?_
    cases h
    exact go_ireturn 14 rfl rfl rfl ⟨rfl, rfl⟩
def X_A_wipe : MX := (⟨"OmegaDesk$Automaton", "wipe", "()V"⟩, prog_2_method_6_code, 1, none, { frames := 1, cells := 0, slots := 0, locals := 23 },
  [(0, .aload_n 0, 1), (1, .iconst 0, 2), (2, .putfield 9, 5), (5, .aload_n 0, 6), (6, .iconst 0, 7), (7, .putfield 15, 10), (10, .aload_n 0, 11), (11, .getfield 18, 14), (14, .iconst 0, 15), (15, .invokestatic 26, 18), (18, .return_, 19)])
set_option maxRecDepth 20000 in
theorem mk_A_wipe : Mk X_A_wipe := ⟨by unfold TBk; decide +kernel, by decide +kernel, wb_274, ⟨by decide, by decide⟩, rfl, rfl, wb_2⟩
theorem fp_A_9 : FP "OmegaDesk$Automaton" 9 0 0 .int := ⟨R_A, F_A, 3, tf_A, rfl, by decide, uw_A, Or.inl wb_32, tf_A_ok, nf_A, rfl, by decide +kernel⟩
theorem fp_A_15 : FP "OmegaDesk$Automaton" 15 0 1 .int := ⟨R_A, F_A, 3, tf_A, rfl, by decide, uw_A, Or.inl wb_36, tf_A_ok, nf_A, rfl, by decide +kernel⟩
theorem cs_A_26 : CS "OmegaDesk$Automaton" 26 X_Y_fill 2 := ⟨Or.inl wb_275, wb_276, by decide +kernel⟩
def m_A_wipe (a0 : Nat) (M : Mm) : Option (Mm) :=
  bd (some (uI M (0, a0) 0 (0 : Int32))) fun M1 =>
  bd (some (uI M1 (0, a0) 1 (0 : Int32))) fun M2 =>
  bd (m_Y_fill a0 (0 : Int32) M2) fun r3 =>
  some r3
set_option maxRecDepth 20000 in
theorem e_A_wipe {l : Launch} {a0 : Nat} {M : Mm} {r : Mm} (h0 : a0 < 7) (h : m_A_wipe a0 M = some r) : Ev l X_A_wipe [vr 0 a0] M (fun v M2 => v = none ∧ M2 = r) := by
  refine Ev.of mk_A_wipe [(0, vr 0 a0)] (fun _ => rfl) (fun _ => (Nat.le_of_ble_eq_true rfl)) ?_
  unfold m_A_wipe at h
  refine go_aload_n 0 rfl 0 rfl rfl ?_
  refine go_iconst 0 1 rfl (by decide) ?_
  refine go_putfield 0 .int 2 rfl (by first | decide | exact ok0 (by omega) | exact ok1 (by omega) | exact ok2 (by omega) | exact ok7 (by omega)) rfl fp_A_9 rfl rfl (Nat.le_of_ble_eq_true rfl) rfl ?_
  obtain ⟨_, c, h⟩ := bd_inv h
  cases c
  refine go_aload_n 3 rfl 0 rfl rfl ?_
  refine go_iconst 0 4 rfl (by decide) ?_
  refine go_putfield 1 .int 5 rfl (by first | decide | exact ok0 (by omega) | exact ok1 (by omega) | exact ok2 (by omega) | exact ok7 (by omega)) rfl fp_A_15 rfl rfl (Nat.le_of_ble_eq_true rfl) rfl ?_
  obtain ⟨_, c, h⟩ := bd_inv h
  cases c
  refine go_aload_n 6 rfl 0 rfl rfl ?_
  refine go_getfield 2 _ 7 rfl (by first | decide | exact ok0 (by omega) | exact ok1 (by omega) | exact ok2 (by omega) | exact ok7 (by omega)) rfl fg_A_18 rfl ?_
  refine go_iconst 0 8 rfl (by decide) ?_
  obtain ⟨r3, c, h⟩ := bd_inv h
  refine go_callS1 _ 9 rfl (e_Y_fill (by omega) c) mk_Y_fill cs_A_26 rfl ⟨(Nat.le_of_ble_eq_true rfl), (Nat.le_of_ble_eq_true rfl)⟩ (Nat.le_of_ble_eq_true rfl) rfl ?_
  cases h
  exact go_return 10 rfl rfl ⟨rfl, rfl⟩
def X_A_addState : MX := (⟨"OmegaDesk$Automaton", "addState", "(Z)I"⟩, prog_2_method_7_code, 3, some .int, { frames := 0, cells := 0, slots := 0, locals := 0 },
  [(0, .aload_n 0, 1), (1, .getfield 9, 4), (4, .istore_n 2, 5), (5, .aload_n 0, 6), (6, .iload_n 2, 7), (7, .iconst 1, 8), (8, .iadd, 9), (9, .putfield 9, 12), (12, .iload_n 1, 13), (13, .ifCond .eq 15, 16), (16, .aload_n 0, 17), (17, .dup, 18), (18, .getfield 15, 21), (21, .iconst 1, 22), (22, .iload_n 2, 23), (23, .ishl, 24), (24, .ior, 25), (25, .putfield 15, 28), (28, .iload_n 2, 29), (29, .ireturn, 30)])
set_option maxRecDepth 20000 in
theorem mk_A_addState : Mk X_A_addState := ⟨by unfold TBk; decide +kernel, by decide +kernel, wb_234, ⟨by decide, by decide⟩, rfl, rfl, wb_2⟩
def m_A_addState (a0 : Nat) (a1 : Bool) (M : Mm) : Option (Int32 × Mm) :=
  bd (some (uI M (0, a0) 0 ((M.1 (0, a0) 0) + (1 : Int32)))) fun M1 =>
  if (bI a1) = 0 then
    some ((M.1 (0, a0) 0), M1)
  else
    bd (some (uI M1 (0, a0) 1 ((M1.1 (0, a0) 1) ||| ((1 : Int32) <<< ((M.1 (0, a0) 0) &&& 31))))) fun M2 =>
    some ((M.1 (0, a0) 0), M2)
set_option maxRecDepth 20000 in
theorem e_A_addState {l : Launch} {a0 : Nat} {a1 : Bool} {M : Mm} {r : Int32 × Mm} (h0 : a0 < 7) (h : m_A_addState a0 a1 M = some r) : Ev l X_A_addState [vr 0 a0, vi (bI a1)] M (fun v M2 => v = (some (vi r.1)) ∧ M2 = r.2) := by
  refine Ev.of mk_A_addState [(0, vr 0 a0), (1, vi (bI a1))] (fun _ => rfl) (fun _ => (Nat.le_of_ble_eq_true rfl)) ?_
  unfold m_A_addState at h
  refine go_aload_n 0 rfl 0 rfl rfl ?_
  refine go_getfield 0 _ 1 rfl (by first | decide | exact ok0 (by omega) | exact ok1 (by omega) | exact ok2 (by omega) | exact ok7 (by omega)) rfl fg_A_9 rfl ?_
  refine go_istore_n 2 rfl rfl (Nat.le_of_ble_eq_true rfl) [(0, _), (1, _), (2, _)] rfl ?_
  refine go_aload_n 3 rfl 0 rfl rfl ?_
  refine go_iload_n 4 rfl 2 rfl rfl ?_
  refine go_iconst 1 5 rfl (by decide) ?_
  refine go_iadd 6 rfl ?_
  refine go_putfield 0 .int 7 rfl (by first | decide | exact ok0 (by omega) | exact ok1 (by omega) | exact ok2 (by omega) | exact ok7 (by omega)) rfl fp_A_9 rfl rfl (Nat.le_of_ble_eq_true rfl) rfl ?_
  obtain ⟨_, c, h⟩ := bd_inv h
  cases c
  refine go_iload_n 8 rfl 1 rfl rfl ?_
  refine go_if_eq 28 9 rfl (by decide) (fun c => ?_) (fun c => ?_)
  · replace h := ite_t c h
    refine go_iload_n 18 rfl 2 rfl rfl ?_
    cases h
    exact go_ireturn 19 rfl rfl rfl ⟨rfl, rfl⟩
  · replace h := ite_f c h
    refine go_aload_n 10 rfl 0 rfl rfl ?_
    refine go_dup 11 rfl rfl ?_
    refine go_getfield 1 _ 12 rfl (by first | decide | exact ok0 (by omega) | exact ok1 (by omega) | exact ok2 (by omega) | exact ok7 (by omega)) rfl fg_A_15 rfl ?_
    refine go_iconst 1 13 rfl (by decide) ?_
    refine go_iload_n 14 rfl 2 rfl rfl ?_
    refine go_ishl 15 rfl ?_
    refine go_ior 16 rfl ?_
    refine go_putfield 1 .int 17 rfl (by first | decide | exact ok0 (by omega) | exact ok1 (by omega) | exact ok2 (by omega) | exact ok7 (by omega)) rfl fp_A_15 rfl rfl (Nat.le_of_ble_eq_true rfl) rfl ?_
    obtain ⟨_, c, h⟩ := bd_inv h
    cases c
    refine go_iload_n 18 rfl 2 rfl rfl ?_
    cases h
    exact go_ireturn 19 rfl rfl rfl ⟨rfl, rfl⟩
def X_A_join : MX := (⟨"OmegaDesk$Automaton", "join", "(III)V"⟩, prog_2_method_8_code, 5, none, { frames := 0, cells := 0, slots := 0, locals := 0 },
  [(0, .iconst 0, 1), (1, .istore 4, 3), (3, .iload 4, 5), (5, .bipush 16, 7), (7, .if_icmp .ge 38, 10), (10, .iload 4, 12), (12, .iload_n 1, 13), (13, .ishr, 14), (14, .iconst 1, 15), (15, .iand, 16), (16, .ifCond .eq 23, 19), (19, .aload_n 0, 20), (20, .getfield 18, 23), (23, .iload_n 2, 24), (24, .iconst 1, 25), (25, .iand, 26), (26, .bipush 16, 28), (28, .imul, 29), (29, .iload 4, 31), (31, .iadd, 32), (32, .dup2, 33), (33, .iaload, 34), (34, .iconst 1, 35), (35, .iload_n 3, 36), (36, .ishl, 37), (37, .ior, 38), (38, .iastore, 39), (39, .iinc 4 1, 42), (42, .goto (-39), 45), (45, .return_, 46)])
set_option maxRecDepth 20000 in
theorem mk_A_join : Mk X_A_join := ⟨by unfold TBk; decide +kernel, by decide +kernel, wb_263, ⟨by decide, by decide⟩, rfl, rfl, wb_2⟩
def b_A_join_3 (c0 : Nat) (c1 : Int32) (c2 : Int32) (c3 : Int32) (s : Int32 × Mm) : Option ((Int32 × Mm) ⊕ (Int32 × Mm)) :=
  if (16 : Int32) ≤ s.1 then
    some (Sum.inr (s.1, s.2))
  else
    if ((s.1 >>> (c1 &&& 31)) &&& (1 : Int32)) = 0 then
      some (Sum.inl ((s.1 + 1), s.2))
    else
      ck (inb (((c2 &&& (1 : Int32)) * (16 : Int32)) + s.1) (lenI c0)) <|
      ck (inb (((c2 &&& (1 : Int32)) * (16 : Int32)) + s.1) (lenI c0)) <|
      bd (some (uI s.2 (1, c0) (((c2 &&& (1 : Int32)) * (16 : Int32)) + s.1).toNatClampNeg ((s.2.1 (1, c0) (((c2 &&& (1 : Int32)) * (16 : Int32)) + s.1).toNatClampNeg) ||| ((1 : Int32) <<< (c3 &&& 31))))) fun M1 =>
      some (Sum.inl ((s.1 + 1), M1))
def m_A_join (a0 : Nat) (a1 : Int32) (a2 : Int32) (a3 : Int32) (M : Mm) : Option (Mm) :=
  bd (lp (b_A_join_3 a0 a1 a2 a3) ((0 : Int32), M)) fun r2 =>
  some r2.2
set_option maxRecDepth 20000 in
theorem w_A_join_3 {l : Launch} {post : Option PV → Mm → Prop} (c0 : Nat) (c1 : Int32) (c2 : Int32) (c3 : Int32) (h0 : c0 < 7) {r : Int32 × Mm} (kk : Go l X_A_join post 45 [(0, vr 0 c0), (1, vi c1), (2, vi c2), (3, vi c3), (4, vi r.1)] [] r.2) : ∀ (n : Nat) (s : Int32 × Mm), lpN (b_A_join_3 c0 c1 c2 c3) n s = some r → Go l X_A_join post 3 [(0, vr 0 c0), (1, vi c1), (2, vi c2), (3, vi c3), (4, vi s.1)] [] s.2 := by
  intro n
  induction n with
  | zero => intro s hc; exact (lpN_0 hc).elim
  | succ n ih =>
    intro s hc
    obtain ⟨q, h, hc⟩ := lpN_inv hc
    unfold b_A_join_3 at h
    refine go_iload 2 rfl 4 rfl ?_
    refine go_bipush 16 3 rfl (by decide) ?_
    refine go_icmp_ge 45 4 rfl (by decide) (fun c => ?_) (fun c => ?_)
    · replace h := ite_t c h
      cases h
      obtain rfl := lpq_r hc
      exact kk
    · replace h := ite_f c h
      refine go_iload 5 rfl 4 rfl ?_
      refine go_iload_n 6 rfl 1 rfl rfl ?_
      refine go_ishr 7 rfl ?_
      refine go_iconst 1 8 rfl (by decide) ?_
      refine go_iand 9 rfl ?_
      refine go_if_eq 39 10 rfl (by decide) (fun c => ?_) (fun c => ?_)
      · replace h := ite_t c h
        refine go_iinc 1 27 rfl 4 rfl (by decide) (Nat.le_of_ble_eq_true rfl) [(0, _), (1, _), (2, _), (3, _), (4, _)] rfl ?_
        refine go_goto 3 28 rfl (by decide) ?_
        cases h
        exact ih _ hc
      · replace h := ite_f c h
        refine go_aload_n 11 rfl 0 rfl rfl ?_
        refine go_getfield 2 _ 12 rfl (by first | decide | exact ok0 (by omega) | exact ok1 (by omega) | exact ok2 (by omega) | exact ok7 (by omega)) rfl fg_A_18 rfl ?_
        refine go_iload_n 13 rfl 2 rfl rfl ?_
        refine go_iconst 1 14 rfl (by decide) ?_
        refine go_iand 15 rfl ?_
        refine go_bipush 16 16 rfl (by decide) ?_
        refine go_imul 17 rfl ?_
        refine go_iload 18 rfl 4 rfl ?_
        refine go_iadd 19 rfl ?_
        refine go_dup2 20 rfl rfl rfl ?_
        obtain ⟨c, h⟩ := ck_inv h
        refine go_iaload 21 rfl (by first | decide | exact ok0 (by omega) | exact ok1 (by omega) | exact ok2 (by omega) | exact ok7 (by omega)) (inb_vp c) ?_
        refine go_iconst 1 22 rfl (by decide) ?_
        refine go_iload_n 23 rfl 3 rfl rfl ?_
        refine go_ishl 24 rfl ?_
        refine go_ior 25 rfl ?_
        obtain ⟨c, h⟩ := ck_inv h
        refine go_iastore 26 rfl (by first | decide | exact ok0 (by omega) | exact ok1 (by omega) | exact ok2 (by omega) | exact ok7 (by omega)) (inb_vp c) ?_
        obtain ⟨_, c, h⟩ := bd_inv h
        cases c
        refine go_iinc 1 27 rfl 4 rfl (by decide) (Nat.le_of_ble_eq_true rfl) [(0, _), (1, _), (2, _), (3, _), (4, _)] rfl ?_
        refine go_goto 3 28 rfl (by decide) ?_
        cases h
        exact ih _ hc
set_option maxRecDepth 20000 in
theorem e_A_join {l : Launch} {a0 : Nat} {a1 : Int32} {a2 : Int32} {a3 : Int32} {M : Mm} {r : Mm} (h0 : a0 < 7) (h : m_A_join a0 a1 a2 a3 M = some r) : Ev l X_A_join [vr 0 a0, vi a1, vi a2, vi a3] M (fun v M2 => v = none ∧ M2 = r) := by
  refine Ev.of mk_A_join [(0, vr 0 a0), (1, vi a1), (2, vi a2), (3, vi a3)] (fun _ => rfl) (fun _ => (Nat.le_of_ble_eq_true rfl)) ?_
  unfold m_A_join at h
  refine go_iconst 0 0 rfl (by decide) ?_
  refine go_istore 1 rfl (Nat.le_of_ble_eq_true rfl) [(0, _), (1, _), (2, _), (3, _), (4, _)] rfl ?_
  obtain ⟨r2, c, h⟩ := bd_inv h
  refine w_A_join_3 _ _ _ _ (by omega) ?_ _ _ c
  cases h
  exact go_return 29 rfl rfl ⟨rfl, rfl⟩
def X_A_copy : MX := (⟨"OmegaDesk$Automaton", "copy", "(LOmegaDesk$Automaton;)V"⟩, prog_2_method_9_code, 2, none, { frames := 1, cells := 0, slots := 0, locals := 40 },
  [(0, .aload_n 0, 1), (1, .aload_n 1, 2), (2, .getfield 9, 5), (5, .putfield 9, 8), (8, .aload_n 0, 9), (9, .aload_n 1, 10), (10, .getfield 15, 13), (13, .putfield 15, 16), (16, .aload_n 1, 17), (17, .getfield 18, 20), (20, .iconst 0, 21), (21, .aload_n 0, 22), (22, .getfield 18, 25), (25, .iconst 0, 26), (26, .bipush 32, 28), (28, .invokestatic 32, 31), (31, .return_, 32)])
set_option maxRecDepth 20000 in
theorem mk_A_copy : Mk X_A_copy := ⟨by unfold TBk; decide +kernel, by decide +kernel, wb_311, ⟨by decide, by decide⟩, rfl, rfl, wb_2⟩
theorem ac_A_32 : ACo "OmegaDesk$Automaton" 32 := ⟨wb_312, wb_314, wb_313, wb_13⟩
def m_A_copy (a0 : Nat) (a1 : Nat) (M : Mm) : Option (Mm) :=
  bd (some (uI M (0, a0) 0 (M.1 (0, a1) 0))) fun M1 =>
  bd (some (uI M1 (0, a0) 1 (M1.1 (0, a1) 1))) fun M2 =>
  bd (some (uC M2 a1 a0)) fun M3 =>
  some M3
set_option maxRecDepth 20000 in
theorem e_A_copy {l : Launch} {a0 : Nat} {a1 : Nat} {M : Mm} {r : Mm} (h0 : a0 < 7) (h1 : a1 < 7) (h : m_A_copy a0 a1 M = some r) : Ev l X_A_copy [vr 0 a0, vr 0 a1] M (fun v M2 => v = none ∧ M2 = r) := by
  refine Ev.of mk_A_copy [(0, vr 0 a0), (1, vr 0 a1)] (fun _ => rfl) (fun _ => (Nat.le_of_ble_eq_true rfl)) ?_
  unfold m_A_copy at h
  refine go_aload_n 0 rfl 0 rfl rfl ?_
  refine go_aload_n 1 rfl 1 rfl rfl ?_
  refine go_getfield 0 _ 2 rfl (by first | decide | exact ok0 (by omega) | exact ok1 (by omega) | exact ok2 (by omega) | exact ok7 (by omega)) rfl fg_A_9 rfl ?_
  refine go_putfield 0 .int 3 rfl (by first | decide | exact ok0 (by omega) | exact ok1 (by omega) | exact ok2 (by omega) | exact ok7 (by omega)) rfl fp_A_9 rfl rfl (Nat.le_of_ble_eq_true rfl) rfl ?_
  obtain ⟨_, c, h⟩ := bd_inv h
  cases c
  refine go_aload_n 4 rfl 0 rfl rfl ?_
  refine go_aload_n 5 rfl 1 rfl rfl ?_
  refine go_getfield 1 _ 6 rfl (by first | decide | exact ok0 (by omega) | exact ok1 (by omega) | exact ok2 (by omega) | exact ok7 (by omega)) rfl fg_A_15 rfl ?_
  refine go_putfield 1 .int 7 rfl (by first | decide | exact ok0 (by omega) | exact ok1 (by omega) | exact ok2 (by omega) | exact ok7 (by omega)) rfl fp_A_15 rfl rfl (Nat.le_of_ble_eq_true rfl) rfl ?_
  obtain ⟨_, c, h⟩ := bd_inv h
  cases c
  refine go_aload_n 8 rfl 1 rfl rfl ?_
  refine go_getfield 2 _ 9 rfl (by first | decide | exact ok0 (by omega) | exact ok1 (by omega) | exact ok2 (by omega) | exact ok7 (by omega)) rfl fg_A_18 rfl ?_
  refine go_iconst 0 10 rfl (by decide) ?_
  refine go_aload_n 11 rfl 0 rfl rfl ?_
  refine go_getfield 2 _ 12 rfl (by first | decide | exact ok0 (by omega) | exact ok1 (by omega) | exact ok2 (by omega) | exact ok7 (by omega)) rfl fg_A_18 rfl ?_
  refine go_iconst 0 13 rfl (by decide) ?_
  refine go_bipush 32 14 rfl (by decide) ?_
  refine go_arraycopy 15 rfl ac_A_32 (by omega) (by omega) (by decide) (by decide) ?_
  obtain ⟨_, c, h⟩ := bd_inv h
  cases c
  cases h
  exact go_return 16 rfl rfl ⟨rfl, rfl⟩
def X_A_joinAll : MX := (⟨"OmegaDesk$Automaton", "joinAll", "(III)V"⟩, prog_2_method_11_code, 5, none, { frames := 1, cells := 0, slots := 0, locals := 24 },
  [(0, .iconst 0, 1), (1, .istore 4, 3), (3, .iload 4, 5), (5, .aload_n 0, 6), (6, .getfield 9, 9), (9, .if_icmp .ge 26, 12), (12, .iload_n 3, 13), (13, .iload 4, 15), (15, .ishr, 16), (16, .iconst 1, 17), (17, .iand, 18), (18, .ifCond .eq 11, 21), (21, .aload_n 0, 22), (22, .iload_n 1, 23), (23, .iload_n 2, 24), (24, .iload 4, 26), (26, .invokevirtual 50, 29), (29, .iinc 4 1, 32), (32, .goto (-29), 35), (35, .return_, 36)])
set_option maxRecDepth 20000 in
theorem mk_A_joinAll : Mk X_A_joinAll := ⟨by unfold TBk; decide +kernel, by decide +kernel, wb_299, ⟨by decide, by decide⟩, rfl, rfl, wb_2⟩
theorem cv_A_50 : CV "OmegaDesk$Automaton" 50 X_A_join 3 0 := ⟨Or.inl wb_300, ⟨wb_261, wb_262⟩, by decide +kernel, F_A, 3, rfl⟩
def b_A_joinAll_3 (c0 : Nat) (c1 : Int32) (c2 : Int32) (c3 : Int32) (s : Int32 × Mm) : Option ((Int32 × Mm) ⊕ (Int32 × Mm)) :=
  if (s.2.1 (0, c0) 0) ≤ s.1 then
    some (Sum.inr (s.1, s.2))
  else
    if ((c3 >>> (s.1 &&& 31)) &&& (1 : Int32)) = 0 then
      some (Sum.inl ((s.1 + 1), s.2))
    else
      bd (m_A_join c0 c1 c2 s.1 s.2) fun r1 =>
      some (Sum.inl ((s.1 + 1), r1))
def m_A_joinAll (a0 : Nat) (a1 : Int32) (a2 : Int32) (a3 : Int32) (M : Mm) : Option (Mm) :=
  bd (lp (b_A_joinAll_3 a0 a1 a2 a3) ((0 : Int32), M)) fun r2 =>
  some r2.2
set_option maxRecDepth 20000 in
theorem w_A_joinAll_3 {l : Launch} {post : Option PV → Mm → Prop} (c0 : Nat) (c1 : Int32) (c2 : Int32) (c3 : Int32) (h0 : c0 < 7) {r : Int32 × Mm} (kk : Go l X_A_joinAll post 35 [(0, vr 0 c0), (1, vi c1), (2, vi c2), (3, vi c3), (4, vi r.1)] [] r.2) : ∀ (n : Nat) (s : Int32 × Mm), lpN (b_A_joinAll_3 c0 c1 c2 c3) n s = some r → Go l X_A_joinAll post 3 [(0, vr 0 c0), (1, vi c1), (2, vi c2), (3, vi c3), (4, vi s.1)] [] s.2 := by
  intro n
  induction n with
  | zero => intro s hc; exact (lpN_0 hc).elim
  | succ n ih =>
    intro s hc
    obtain ⟨q, h, hc⟩ := lpN_inv hc
    unfold b_A_joinAll_3 at h
    refine go_iload 2 rfl 4 rfl ?_
    refine go_aload_n 3 rfl 0 rfl rfl ?_
    refine go_getfield 0 _ 4 rfl (by first | decide | exact ok0 (by omega) | exact ok1 (by omega) | exact ok2 (by omega) | exact ok7 (by omega)) rfl fg_A_9 rfl ?_
    refine go_icmp_ge 35 5 rfl (by decide) (fun c => ?_) (fun c => ?_)
    · replace h := ite_t c h
      cases h
      obtain rfl := lpq_r hc
      exact kk
    · replace h := ite_f c h
      refine go_iload_n 6 rfl 3 rfl rfl ?_
      refine go_iload 7 rfl 4 rfl ?_
      refine go_ishr 8 rfl ?_
      refine go_iconst 1 9 rfl (by decide) ?_
      refine go_iand 10 rfl ?_
      refine go_if_eq 29 11 rfl (by decide) (fun c => ?_) (fun c => ?_)
      · replace h := ite_t c h
        refine go_iinc 1 17 rfl 4 rfl (by decide) (Nat.le_of_ble_eq_true rfl) [(0, _), (1, _), (2, _), (3, _), (4, _)] rfl ?_
        refine go_goto 3 18 rfl (by decide) ?_
        cases h
        exact ih _ hc
      · replace h := ite_f c h
        refine go_aload_n 12 rfl 0 rfl rfl ?_
        refine go_iload_n 13 rfl 1 rfl rfl ?_
        refine go_iload_n 14 rfl 2 rfl rfl ?_
        refine go_iload 15 rfl 4 rfl ?_
        obtain ⟨r1, c, h⟩ := bd_inv h
        refine go_callV1 _ 16 rfl (e_A_join (by omega) c) mk_A_join (by first | decide | exact ok0 (by omega) | exact ok1 (by omega) | exact ok2 (by omega) | exact ok7 (by omega)) rfl cv_A_50 rfl ⟨(Nat.le_of_ble_eq_true rfl), (Nat.le_of_ble_eq_true rfl)⟩ (Nat.le_of_ble_eq_true rfl) rfl ?_
        refine go_iinc 1 17 rfl 4 rfl (by decide) (Nat.le_of_ble_eq_true rfl) [(0, _), (1, _), (2, _), (3, _), (4, _)] rfl ?_
        refine go_goto 3 18 rfl (by decide) ?_
        cases h
        exact ih _ hc
set_option maxRecDepth 20000 in
theorem e_A_joinAll {l : Launch} {a0 : Nat} {a1 : Int32} {a2 : Int32} {a3 : Int32} {M : Mm} {r : Mm} (h0 : a0 < 7) (h : m_A_joinAll a0 a1 a2 a3 M = some r) : Ev l X_A_joinAll [vr 0 a0, vi a1, vi a2, vi a3] M (fun v M2 => v = none ∧ M2 = r) := by
  refine Ev.of mk_A_joinAll [(0, vr 0 a0), (1, vi a1), (2, vi a2), (3, vi a3)] (fun _ => rfl) (fun _ => (Nat.le_of_ble_eq_true rfl)) ?_
  unfold m_A_joinAll at h
  refine go_iconst 0 0 rfl (by decide) ?_
  refine go_istore 1 rfl (Nat.le_of_ble_eq_true rfl) [(0, _), (1, _), (2, _), (3, _), (4, _)] rfl ?_
  obtain ⟨r2, c, h⟩ := bd_inv h
  refine w_A_joinAll_3 _ _ _ _ (by omega) ?_ _ _ c
  cases h
  exact go_return 19 rfl rfl ⟨rfl, rfl⟩
def X_A_append : MX := (⟨"OmegaDesk$Automaton", "append", "(LOmegaDesk$Automaton;)V"⟩, prog_2_method_10_code, 6, none, { frames := 2, cells := 0, slots := 0, locals := 48 },
  [(0, .aload_n 0, 1), (1, .getfield 9, 4), (4, .istore_n 2, 5), (5, .iconst 0, 6), (6, .istore_n 3, 7), (7, .iload_n 3, 8), (8, .aload_n 1, 9), (9, .getfield 9, 12), (12, .if_icmp .ge 19, 15), (15, .aload_n 0, 16), (16, .aload_n 1, 17), (17, .iload_n 3, 18), (18, .invokevirtual 38, 21), (21, .invokevirtual 42, 24), (24, .pop, 25), (25, .iinc 3 1, 28), (28, .goto (-21), 31), (31, .iconst 0, 32), (32, .istore_n 3, 33), (33, .iload_n 3, 34), (34, .iconst 2, 35), (35, .if_icmp .ge 64, 38), (38, .iconst 0, 39), (39, .istore 4, 41), (41, .iload 4, 43), (43, .aload_n 1, 44), (44, .getfield 9, 47), (47, .if_icmp .ge 46, 50), (50, .aload_n 1, 51), (51, .iconst 1, 52), (52, .iload 4, 54), (54, .ishl, 55), (55, .iload_n 3, 56), (56, .invokevirtual 22, 59), (59, .iload_n 2, 60), (60, .ishl, 61), (61, .istore 5, 63), (63, .aload_n 0, 64), (64, .iload_n 2, 65), (65, .iload 4, 67), (67, .iadd, 68), (68, .iload_n 3, 69), (69, .iload 5, 71), (71, .invokevirtual 46, 74), (74, .iload 4, 76), (76, .ifCond .ne 11, 79), (79, .aload_n 0, 80), (80, .iconst 0, 81), (81, .iload_n 3, 82), (82, .iload 5, 84), (84, .invokevirtual 46, 87), (87, .iinc 4 1, 90), (90, .goto (-49), 93), (93, .iinc 3 1, 96), (96, .goto (-63), 99), (99, .return_, 100)])
set_option maxRecDepth 20000 in
theorem mk_A_append : Mk X_A_append := ⟨by unfold TBk; decide +kernel, by decide +kernel, wb_290, ⟨by decide, by decide⟩, rfl, rfl, wb_2⟩
theorem cv_A_38 : CV "OmegaDesk$Automaton" 38 X_A_isGood 1 0 := ⟨Or.inl wb_291, ⟨wb_292, wb_293⟩, by decide +kernel, F_A, 3, rfl⟩
theorem cv_A_42 : CV "OmegaDesk$Automaton" 42 X_A_addState 1 0 := ⟨Or.inl wb_295, ⟨wb_232, wb_233⟩, by decide +kernel, F_A, 3, rfl⟩
theorem cv_A_46 : CV "OmegaDesk$Automaton" 46 X_A_joinAll 3 0 := ⟨Or.inl wb_296, ⟨wb_298, ws_A_joinAll⟩, by decide +kernel, F_A, 3, rfl⟩
def b_A_append_7 (c0 : Nat) (c1 : Nat) (s : Int32 × Mm) : Option ((Int32 × Mm) ⊕ (Int32 × Mm)) :=
  if (s.2.1 (0, c1) 0) ≤ s.1 then
    some (Sum.inr (s.1, s.2))
  else
    bd (m_A_isGood c1 s.1 s.2) fun r1 =>
    bd (m_A_addState c0 r1 s.2) fun r2 =>
    some (Sum.inl ((s.1 + 1), r2.2))
def b_A_append_41 (c0 : Nat) (c1 : Nat) (c2 : Int32) (c3 : Int32) (s : Int32 × Mm) : Option ((Int32 × Mm) ⊕ (Int32 × Mm)) :=
  if (s.2.1 (0, c1) 0) ≤ s.1 then
    some (Sum.inr (s.1, s.2))
  else
    bd (m_A_followersOf c1 ((1 : Int32) <<< (s.1 &&& 31)) c3 s.2) fun r4 =>
    bd (m_A_joinAll c0 (c2 + s.1) c3 (r4 <<< (c2 &&& 31)) s.2) fun r5 =>
    if s.1 = 0 then
      bd (m_A_joinAll c0 (0 : Int32) c3 (r4 <<< (c2 &&& 31)) r5) fun r6 =>
      some (Sum.inl ((s.1 + 1), r6))
    else
      some (Sum.inl ((s.1 + 1), r5))
def b_A_append_33 (c0 : Nat) (c1 : Nat) (c2 : Int32) (s : Int32 × Mm) : Option ((Int32 × Mm) ⊕ (Int32 × Mm)) :=
  if (2 : Int32) ≤ s.1 then
    some (Sum.inr (s.1, s.2))
  else
    bd (lp (b_A_append_41 c0 c1 c2 s.1) ((0 : Int32), s.2)) fun r7 =>
    some (Sum.inl ((s.1 + 1), r7.2))
def m_A_append (a0 : Nat) (a1 : Nat) (M : Mm) : Option (Mm) :=
  bd (lp (b_A_append_7 a0 a1) ((0 : Int32), M)) fun r3 =>
  bd (lp (b_A_append_33 a0 a1 (M.1 (0, a0) 0)) ((0 : Int32), r3.2)) fun r8 =>
  some r8.2
set_option maxRecDepth 20000 in
theorem w_A_append_7 {l : Launch} {post : Option PV → Mm → Prop} (c0 : Nat) (c1 : Nat) (c2 : Int32) (h0 : c0 < 7) (h1 : c1 < 7) {r : Int32 × Mm} (kk : Go l X_A_append post 31 [(0, vr 0 c0), (1, vr 0 c1), (2, vi c2), (3, vi r.1)] [] r.2) : ∀ (n : Nat) (s : Int32 × Mm), lpN (b_A_append_7 c0 c1) n s = some r → Go l X_A_append post 7 [(0, vr 0 c0), (1, vr 0 c1), (2, vi c2), (3, vi s.1)] [] s.2 := by
  intro n
  induction n with
  | zero => intro s hc; exact (lpN_0 hc).elim
  | succ n ih =>
    intro s hc
    obtain ⟨q, h, hc⟩ := lpN_inv hc
    unfold b_A_append_7 at h
    refine go_iload_n 5 rfl 3 rfl rfl ?_
    refine go_aload_n 6 rfl 1 rfl rfl ?_
    refine go_getfield 0 _ 7 rfl (by first | decide | exact ok0 (by omega) | exact ok1 (by omega) | exact ok2 (by omega) | exact ok7 (by omega)) rfl fg_A_9 rfl ?_
    refine go_icmp_ge 31 8 rfl (by decide) (fun c => ?_) (fun c => ?_)
    · replace h := ite_t c h
      cases h
      obtain rfl := lpq_r hc
      exact kk
    · replace h := ite_f c h
      refine go_aload_n 9 rfl 0 rfl rfl ?_
      refine go_aload_n 10 rfl 1 rfl rfl ?_
      refine go_iload_n 11 rfl 3 rfl rfl ?_
      obtain ⟨r1, c, h⟩ := bd_inv h
      refine go_callV1 _ 12 rfl (e_A_isGood (by omega) c) mk_A_isGood (by first | decide | exact ok0 (by omega) | exact ok1 (by omega) | exact ok2 (by omega) | exact ok7 (by omega)) rfl cv_A_38 rfl ⟨(Nat.le_of_ble_eq_true rfl), (Nat.le_of_ble_eq_true rfl)⟩ (Nat.le_of_ble_eq_true rfl) rfl ?_
      obtain ⟨r2, c, h⟩ := bd_inv h
      refine go_callV1 _ 13 rfl (e_A_addState (by omega) c) mk_A_addState (by first | decide | exact ok0 (by omega) | exact ok1 (by omega) | exact ok2 (by omega) | exact ok7 (by omega)) rfl cv_A_42 rfl ⟨(Nat.le_of_ble_eq_true rfl), (Nat.le_of_ble_eq_true rfl)⟩ (Nat.le_of_ble_eq_true rfl) rfl ?_
      refine go_pop 14 rfl rfl ?_
      refine go_iinc 1 15 rfl 3 rfl (by decide) (Nat.le_of_ble_eq_true rfl) [(0, _), (1, _), (2, _), (3, _)] rfl ?_
      refine go_goto 7 16 rfl (by decide) ?_
      cases h
      exact ih _ hc
set_option maxRecDepth 20000 in
theorem w_A_append_41 {l : Launch} {post : Option PV → Mm → Prop} (c0 : Nat) (c1 : Nat) (c2 : Int32) (c3 : Int32) (h0 : c0 < 7) (h1 : c1 < 7) {r : Int32 × Mm} (kk : Go l X_A_append post 93 [(0, vr 0 c0), (1, vr 0 c1), (2, vi c2), (3, vi c3), (4, vi r.1)] [] r.2) : ∀ (n : Nat) (s : Int32 × Mm), lpN (b_A_append_41 c0 c1 c2 c3) n s = some r → Go l X_A_append post 41 [(0, vr 0 c0), (1, vr 0 c1), (2, vi c2), (3, vi c3), (4, vi s.1)] [] s.2 := by
  intro n
  induction n with
  | zero => intro s hc; exact (lpN_0 hc).elim
  | succ n ih =>
    intro s hc
    obtain ⟨q, h, hc⟩ := lpN_inv hc
    unfold b_A_append_41 at h
    refine go_iload 24 rfl 4 rfl ?_
    refine go_aload_n 25 rfl 1 rfl rfl ?_
    refine go_getfield 0 _ 26 rfl (by first | decide | exact ok0 (by omega) | exact ok1 (by omega) | exact ok2 (by omega) | exact ok7 (by omega)) rfl fg_A_9 rfl ?_
    refine go_icmp_ge 93 27 rfl (by decide) (fun c => ?_) (fun c => ?_)
    · replace h := ite_t c h
      cases h
      obtain rfl := lpq_r hc
      exact kk
    · replace h := ite_f c h
      refine go_aload_n 28 rfl 1 rfl rfl ?_
      refine go_iconst 1 29 rfl (by decide) ?_
      refine go_iload 30 rfl 4 rfl ?_
      refine go_ishl 31 rfl ?_
      refine go_iload_n 32 rfl 3 rfl rfl ?_
      obtain ⟨r4, c, h⟩ := bd_inv h
      refine go_callV1 _ 33 rfl (e_A_followersOf (by omega) c) mk_A_followersOf (by first | decide | exact ok0 (by omega) | exact ok1 (by omega) | exact ok2 (by omega) | exact ok7 (by omega)) rfl cv_A_22 rfl ⟨(Nat.le_of_ble_eq_true rfl), (Nat.le_of_ble_eq_true rfl)⟩ (Nat.le_of_ble_eq_true rfl) rfl ?_
      refine go_iload_n 34 rfl 2 rfl rfl ?_
      refine go_ishl 35 rfl ?_
      refine go_istore 36 rfl (Nat.le_of_ble_eq_true rfl) [(0, _), (1, _), (2, _), (3, _), (4, _), (5, _)] rfl ?_
      refine go_aload_n 37 rfl 0 rfl rfl ?_
      refine go_iload_n 38 rfl 2 rfl rfl ?_
      refine go_iload 39 rfl 4 rfl ?_
      refine go_iadd 40 rfl ?_
      refine go_iload_n 41 rfl 3 rfl rfl ?_
      refine go_iload 42 rfl 5 rfl ?_
      obtain ⟨r5, c, h⟩ := bd_inv h
      refine go_callV1 _ 43 rfl (e_A_joinAll (by omega) c) mk_A_joinAll (by first | decide | exact ok0 (by omega) | exact ok1 (by omega) | exact ok2 (by omega) | exact ok7 (by omega)) rfl cv_A_46 rfl ⟨(Nat.le_of_ble_eq_true rfl), (Nat.le_of_ble_eq_true rfl)⟩ (Nat.le_of_ble_eq_true rfl) rfl ?_
      refine go_iload 44 rfl 4 rfl ?_
      refine go_if_ne 87 45 rfl (by decide) (fun c => ?_) (fun c => ?_)
      · replace h := ite_f c h
        refine go_iinc 1 51 rfl 4 rfl (by decide) (Nat.le_of_ble_eq_true rfl) [(0, _), (1, _), (2, _), (3, _), (4, _), (5, _)] rfl ?_
        refine go_goto 41 52 rfl (by decide) ?_
        cases h
        refine go_sub [0, 1, 2, 3, 4] rfl ?_
        exact ih _ hc
      · replace h := ite_t c h
        refine go_aload_n 46 rfl 0 rfl rfl ?_
        refine go_iconst 0 47 rfl (by decide) ?_
        refine go_iload_n 48 rfl 3 rfl rfl ?_
        refine go_iload 49 rfl 5 rfl ?_
        obtain ⟨r6, c, h⟩ := bd_inv h
        refine go_callV1 _ 50 rfl (e_A_joinAll (by omega) c) mk_A_joinAll (by first | decide | exact ok0 (by omega) | exact ok1 (by omega) | exact ok2 (by omega) | exact ok7 (by omega)) rfl cv_A_46 rfl ⟨(Nat.le_of_ble_eq_true rfl), (Nat.le_of_ble_eq_true rfl)⟩ (Nat.le_of_ble_eq_true rfl) rfl ?_
        refine go_iinc 1 51 rfl 4 rfl (by decide) (Nat.le_of_ble_eq_true rfl) [(0, _), (1, _), (2, _), (3, _), (4, _), (5, _)] rfl ?_
        refine go_goto 41 52 rfl (by decide) ?_
        cases h
        refine go_sub [0, 1, 2, 3, 4] rfl ?_
        exact ih _ hc
set_option maxRecDepth 20000 in
theorem w_A_append_33 {l : Launch} {post : Option PV → Mm → Prop} (c0 : Nat) (c1 : Nat) (c2 : Int32) (h0 : c0 < 7) (h1 : c1 < 7) {r : Int32 × Mm} (kk : Go l X_A_append post 99 [(0, vr 0 c0), (1, vr 0 c1), (2, vi c2), (3, vi r.1)] [] r.2) : ∀ (n : Nat) (s : Int32 × Mm), lpN (b_A_append_33 c0 c1 c2) n s = some r → Go l X_A_append post 33 [(0, vr 0 c0), (1, vr 0 c1), (2, vi c2), (3, vi s.1)] [] s.2 := by
  intro n
  induction n with
  | zero => intro s hc; exact (lpN_0 hc).elim
  | succ n ih =>
    intro s hc
    obtain ⟨q, h, hc⟩ := lpN_inv hc
    unfold b_A_append_33 at h
    refine go_iload_n 19 rfl 3 rfl rfl ?_
    refine go_iconst 2 20 rfl (by decide) ?_
    refine go_icmp_ge 99 21 rfl (by decide) (fun c => ?_) (fun c => ?_)
    · replace h := ite_t c h
      cases h
      obtain rfl := lpq_r hc
      exact kk
    · replace h := ite_f c h
      refine go_iconst 0 22 rfl (by decide) ?_
      refine go_istore 23 rfl (Nat.le_of_ble_eq_true rfl) [(0, _), (1, _), (2, _), (3, _), (4, _)] rfl ?_
      obtain ⟨r7, c, h⟩ := bd_inv h
      refine w_A_append_41 _ _ _ _ (by omega) (by omega) ?_ _ _ c
      refine go_iinc 1 53 rfl 3 rfl (by decide) (Nat.le_of_ble_eq_true rfl) [(0, _), (1, _), (2, _), (3, _), (4, _)] rfl ?_
      refine go_goto 33 54 rfl (by decide) ?_
      cases h
      refine go_sub [0, 1, 2, 3] rfl ?_
      exact ih _ hc
set_option maxRecDepth 20000 in
theorem e_A_append {l : Launch} {a0 : Nat} {a1 : Nat} {M : Mm} {r : Mm} (h0 : a0 < 7) (h1 : a1 < 7) (h : m_A_append a0 a1 M = some r) : Ev l X_A_append [vr 0 a0, vr 0 a1] M (fun v M2 => v = none ∧ M2 = r) := by
  refine Ev.of mk_A_append [(0, vr 0 a0), (1, vr 0 a1)] (fun _ => rfl) (fun _ => (Nat.le_of_ble_eq_true rfl)) ?_
  unfold m_A_append at h
  refine go_aload_n 0 rfl 0 rfl rfl ?_
  refine go_getfield 0 _ 1 rfl (by first | decide | exact ok0 (by omega) | exact ok1 (by omega) | exact ok2 (by omega) | exact ok7 (by omega)) rfl fg_A_9 rfl ?_
  refine go_istore_n 2 rfl rfl (Nat.le_of_ble_eq_true rfl) [(0, _), (1, _), (2, _)] rfl ?_
  refine go_iconst 0 3 rfl (by decide) ?_
  refine go_istore_n 4 rfl rfl (Nat.le_of_ble_eq_true rfl) [(0, _), (1, _), (2, _), (3, _)] rfl ?_
  obtain ⟨r3, c, h⟩ := bd_inv h
  refine w_A_append_7 _ _ _ (by omega) (by omega) ?_ _ _ c
  refine go_iconst 0 17 rfl (by decide) ?_
  refine go_istore_n 18 rfl rfl (Nat.le_of_ble_eq_true rfl) [(0, _), (1, _), (2, _), (3, _)] rfl ?_
  obtain ⟨r8, c, h⟩ := bd_inv h
  refine w_A_append_33 _ _ _ (by omega) (by omega) ?_ _ _ c
  cases h
  exact go_return 55 rfl rfl ⟨rfl, rfl⟩
def X_A_placeAmong : MX := (⟨"OmegaDesk$Automaton", "placeAmong", "(II)I"⟩, prog_2_method_14_code, 2, some .int, { frames := 1, cells := 0, slots := 0, locals := 20 },
  [(0, .iload_n 0, 1), (1, .iconst 1, 2), (2, .iload_n 1, 3), (3, .ishl, 4), (4, .iconst 1, 5), (5, .isub, 6), (6, .iand, 7), (7, .invokestatic 62, 10), (10, .ireturn, 11)])
set_option maxRecDepth 20000 in
theorem mk_A_placeAmong : Mk X_A_placeAmong := ⟨by unfold TBk; decide +kernel, by decide +kernel, wb_356, ⟨by decide, by decide⟩, rfl, rfl, wb_2⟩
theorem cs_A_62 : CS "OmegaDesk$Automaton" 62 X_I_bitCount 1 := ⟨Or.inl wb_357, wb_358, by decide +kernel⟩
def m_A_placeAmong (a0 : Int32) (a1 : Int32) : Option (Int32) :=
  bd (m_I_bitCount (a0 &&& (((1 : Int32) <<< (a1 &&& 31)) - (1 : Int32)))) fun r1 =>
  some r1
set_option maxRecDepth 20000 in
theorem e_A_placeAmong {l : Launch} {a0 : Int32} {a1 : Int32} {M : Mm} {r : Int32}  (h : m_A_placeAmong a0 a1 = some r) : Ev l X_A_placeAmong [vi a0, vi a1] M (fun v M2 => v = (some (vi r)) ∧ M2 = M) := by
  refine Ev.of mk_A_placeAmong [(0, vi a0), (1, vi a1)] (fun _ => rfl) (fun _ => (Nat.le_of_ble_eq_true rfl)) ?_
  unfold m_A_placeAmong at h
  refine go_iload_n 0 rfl 0 rfl rfl ?_
  refine go_iconst 1 1 rfl (by decide) ?_
  refine go_iload_n 2 rfl 1 rfl rfl ?_
  refine go_ishl 3 rfl ?_
  refine go_iconst 1 4 rfl (by decide) ?_
  refine go_isub 5 rfl ?_
  refine go_iand 6 rfl ?_
  obtain ⟨r1, c, h⟩ := bd_inv h
  refine go_callS1 _ 7 rfl (e_I_bitCount c) mk_I_bitCount cs_A_62 rfl ⟨(Nat.le_of_ble_eq_true rfl), (Nat.le_of_ble_eq_true rfl)⟩ (Nat.le_of_ble_eq_true rfl) rfl ?_
  cases h
  exact go_ireturn 8 rfl rfl rfl ⟨rfl, rfl⟩
def X_A_packed : MX := (⟨"OmegaDesk$Automaton", "packed", "(II)I"⟩, prog_2_method_13_code, 4, some .int, { frames := 2, cells := 0, slots := 0, locals := 41 },
  [(0, .iconst 0, 1), (1, .istore_n 2, 2), (2, .iconst 0, 3), (3, .istore_n 3, 4), (4, .iload_n 3, 5), (5, .iconst 4, 6), (6, .if_icmp .ge 27, 9), (9, .iload_n 0, 10), (10, .iload_n 3, 11), (11, .ishr, 12), (12, .iconst 1, 13), (13, .iand, 14), (14, .ifCond .eq 13, 17), (17, .iload_n 2, 18), (18, .iconst 1, 19), (19, .iload_n 1, 20), (20, .iload_n 3, 21), (21, .invokestatic 56, 24), (24, .ishl, 25), (25, .ior, 26), (26, .istore_n 2, 27), (27, .iinc 3 1, 30), (30, .goto (-26), 33), (33, .iload_n 2, 34), (34, .ireturn, 35)])
set_option maxRecDepth 20000 in
theorem mk_A_packed : Mk X_A_packed := ⟨by unfold TBk; decide +kernel, by decide +kernel, wb_365, ⟨by decide, by decide⟩, rfl, rfl, wb_2⟩
theorem cs_A_56 : CS "OmegaDesk$Automaton" 56 X_A_placeAmong 2 := ⟨Or.inl wb_354, wb_355, by decide +kernel⟩
def b_A_packed_4 (c0 : Int32) (c1 : Int32) (s : Int32 × Int32) : Option ((Int32 × Int32) ⊕ (Int32 × Int32)) :=
  if (4 : Int32) ≤ s.2 then
    some (Sum.inr (s.1, s.2))
  else
    if ((c0 >>> (s.2 &&& 31)) &&& (1 : Int32)) = 0 then
      some (Sum.inl (s.1, (s.2 + 1)))
    else
      bd (m_A_placeAmong c1 s.2) fun r1 =>
      some (Sum.inl ((s.1 ||| ((1 : Int32) <<< (r1 &&& 31))), (s.2 + 1)))
def m_A_packed (a0 : Int32) (a1 : Int32) : Option (Int32) :=
  bd (lp (b_A_packed_4 a0 a1) ((0 : Int32), (0 : Int32))) fun r2 =>
  some r2.1
set_option maxRecDepth 20000 in
theorem w_A_packed_4 {l : Launch} {post : Option PV → Mm → Prop} (c0 : Int32) (c1 : Int32) (M : Mm)  {r : Int32 × Int32} (kk : Go l X_A_packed post 33 [(0, vi c0), (1, vi c1), (2, vi r.1), (3, vi r.2)] [] M) : ∀ (n : Nat) (s : Int32 × Int32), lpN (b_A_packed_4 c0 c1) n s = some r → Go l X_A_packed post 4 [(0, vi c0), (1, vi c1), (2, vi s.1), (3, vi s.2)] [] M := by
  intro n
  induction n with
  | zero => intro s hc; exact (lpN_0 hc).elim
  | succ n ih =>
    intro s hc
    obtain ⟨q, h, hc⟩ := lpN_inv hc
    unfold b_A_packed_4 at h
    refine go_iload_n 4 rfl 3 rfl rfl ?_
    refine go_iconst 4 5 rfl (by decide) ?_
    refine go_icmp_ge 33 6 rfl (by decide) (fun c => ?_) (fun c => ?_)
    · replace h := ite_t c h
      cases h
      obtain rfl := lpq_r hc
      exact kk
    · replace h := ite_f c h
      refine go_iload_n 7 rfl 0 rfl rfl ?_
      refine go_iload_n 8 rfl 3 rfl rfl ?_
      refine go_ishr 9 rfl ?_
      refine go_iconst 1 10 rfl (by decide) ?_
      refine go_iand 11 rfl ?_
      refine go_if_eq 27 12 rfl (by decide) (fun c => ?_) (fun c => ?_)
      · replace h := ite_t c h
        refine go_iinc 1 21 rfl 3 rfl (by decide) (Nat.le_of_ble_eq_true rfl) [(0, _), (1, _), (2, _), (3, _)] rfl ?_
        refine go_goto 4 22 rfl (by decide) ?_
        cases h
        exact ih _ hc
      · replace h := ite_f c h
        refine go_iload_n 13 rfl 2 rfl rfl ?_
        refine go_iconst 1 14 rfl (by decide) ?_
        refine go_iload_n 15 rfl 1 rfl rfl ?_
        refine go_iload_n 16 rfl 3 rfl rfl ?_
        obtain ⟨r1, c, h⟩ := bd_inv h
        refine go_callS1 _ 17 rfl (e_A_placeAmong c) mk_A_placeAmong cs_A_56 rfl ⟨(Nat.le_of_ble_eq_true rfl), (Nat.le_of_ble_eq_true rfl)⟩ (Nat.le_of_ble_eq_true rfl) rfl ?_
        refine go_ishl 18 rfl ?_
        refine go_ior 19 rfl ?_
        refine go_istore_n 20 rfl rfl (Nat.le_of_ble_eq_true rfl) [(0, _), (1, _), (2, _), (3, _)] rfl ?_
        refine go_iinc 1 21 rfl 3 rfl (by decide) (Nat.le_of_ble_eq_true rfl) [(0, _), (1, _), (2, _), (3, _)] rfl ?_
        refine go_goto 4 22 rfl (by decide) ?_
        cases h
        exact ih _ hc
set_option maxRecDepth 20000 in
theorem e_A_packed {l : Launch} {a0 : Int32} {a1 : Int32} {M : Mm} {r : Int32}  (h : m_A_packed a0 a1 = some r) : Ev l X_A_packed [vi a0, vi a1] M (fun v M2 => v = (some (vi r)) ∧ M2 = M) := by
  refine Ev.of mk_A_packed [(0, vi a0), (1, vi a1)] (fun _ => rfl) (fun _ => (Nat.le_of_ble_eq_true rfl)) ?_
  unfold m_A_packed at h
  refine go_iconst 0 0 rfl (by decide) ?_
  refine go_istore_n 1 rfl rfl (Nat.le_of_ble_eq_true rfl) [(0, _), (1, _), (2, _)] rfl ?_
  refine go_iconst 0 2 rfl (by decide) ?_
  refine go_istore_n 3 rfl rfl (Nat.le_of_ble_eq_true rfl) [(0, _), (1, _), (2, _), (3, _)] rfl ?_
  obtain ⟨r2, c, h⟩ := bd_inv h
  refine w_A_packed_4 _ _ _ ?_ _ _ c
  refine go_iload_n 23 rfl 2 rfl rfl ?_
  cases h
  exact go_ireturn 24 rfl rfl rfl ⟨rfl, rfl⟩
def X_A_becomePart : MX := (⟨"OmegaDesk$Automaton", "becomePart", "(LOmegaDesk$Automaton;I)V"⟩, prog_2_method_12_code, 6, none, { frames := 3, cells := 0, slots := 0, locals := 64 },
  [(0, .aload_n 0, 1), (1, .invokevirtual 53, 4), (4, .iconst 0, 5), (5, .istore_n 3, 6), (6, .iload_n 3, 7), (7, .aload_n 1, 8), (8, .getfield 9, 11), (11, .if_icmp .ge 27, 14), (14, .iload_n 2, 15), (15, .iload_n 3, 16), (16, .ishr, 17), (17, .iconst 1, 18), (18, .iand, 19), (19, .ifCond .eq 13, 22), (22, .aload_n 0, 23), (23, .aload_n 1, 24), (24, .iload_n 3, 25), (25, .invokevirtual 38, 28), (28, .invokevirtual 42, 31), (31, .pop, 32), (32, .iinc 3 1, 35), (35, .goto (-29), 38), (38, .iconst 0, 39), (39, .istore_n 3, 40), (40, .iload_n 3, 41), (41, .iconst 2, 42), (42, .if_icmp .ge 66, 45), (45, .iconst 0, 46), (46, .istore 4, 48), (48, .iload 4, 50), (50, .aload_n 1, 51), (51, .getfield 9, 54), (54, .if_icmp .ge 48, 57), (57, .iload_n 2, 58), (58, .iload 4, 60), (60, .ishr, 61), (61, .iconst 1, 62), (62, .iand, 63), (63, .ifCond .eq 33, 66), (66, .aload_n 1, 67), (67, .iconst 1, 68), (68, .iload 4, 70), (70, .ishl, 71), (71, .iload_n 3, 72), (72, .invokevirtual 22, 75), (75, .iload_n 2, 76), (76, .iand, 77), (77, .istore 5, 79), (79, .aload_n 0, 80), (80, .iload_n 2, 81), (81, .iload 4, 83), (83, .invokestatic 56, 86), (86, .iload_n 3, 87), (87, .iload 5, 89), (89, .iload_n 2, 90), (90, .invokestatic 59, 93), (93, .invokevirtual 46, 96), (96, .iinc 4 1, 99), (99, .goto (-51), 102), (102, .iinc 3 1, 105), (105, .goto (-65), 108), (108, .return_, 109)])
set_option maxRecDepth 20000 in
theorem mk_A_becomePart : Mk X_A_becomePart := ⟨by unfold TBk; decide +kernel, by decide +kernel, wb_352, ⟨by decide, by decide⟩, rfl, rfl, wb_2⟩
theorem cv_A_53 : CV "OmegaDesk$Automaton" 53 X_A_wipe 0 0 := ⟨Or.inl wb_353, ⟨wb_272, wb_273⟩, by decide +kernel, F_A, 3, rfl⟩
theorem cs_A_59 : CS "OmegaDesk$Automaton" 59 X_A_packed 2 := ⟨Or.inl wb_363, wb_364, by decide +kernel⟩
def b_A_becomePart_6 (c0 : Nat) (c1 : Nat) (c2 : Int32) (s : Int32 × Mm) : Option ((Int32 × Mm) ⊕ (Int32 × Mm)) :=
  if (s.2.1 (0, c1) 0) ≤ s.1 then
    some (Sum.inr (s.1, s.2))
  else
    if ((c2 >>> (s.1 &&& 31)) &&& (1 : Int32)) = 0 then
      some (Sum.inl ((s.1 + 1), s.2))
    else
      bd (m_A_isGood c1 s.1 s.2) fun r2 =>
      bd (m_A_addState c0 r2 s.2) fun r3 =>
      some (Sum.inl ((s.1 + 1), r3.2))
def b_A_becomePart_48 (c0 : Nat) (c1 : Nat) (c2 : Int32) (c3 : Int32) (s : Int32 × Mm) : Option ((Int32 × Mm) ⊕ (Int32 × Mm)) :=
  if (s.2.1 (0, c1) 0) ≤ s.1 then
    some (Sum.inr (s.1, s.2))
  else
    if ((c2 >>> (s.1 &&& 31)) &&& (1 : Int32)) = 0 then
      some (Sum.inl ((s.1 + 1), s.2))
    else
      bd (m_A_followersOf c1 ((1 : Int32) <<< (s.1 &&& 31)) c3 s.2) fun r5 =>
      bd (m_A_placeAmong c2 s.1) fun r6 =>
      bd (m_A_packed (r5 &&& c2) c2) fun r7 =>
      bd (m_A_joinAll c0 r6 c3 r7 s.2) fun r8 =>
      some (Sum.inl ((s.1 + 1), r8))
def b_A_becomePart_40 (c0 : Nat) (c1 : Nat) (c2 : Int32) (s : Int32 × Mm) : Option ((Int32 × Mm) ⊕ (Int32 × Mm)) :=
  if (2 : Int32) ≤ s.1 then
    some (Sum.inr (s.1, s.2))
  else
    bd (lp (b_A_becomePart_48 c0 c1 c2 s.1) ((0 : Int32), s.2)) fun r9 =>
    some (Sum.inl ((s.1 + 1), r9.2))
def m_A_becomePart (a0 : Nat) (a1 : Nat) (a2 : Int32) (M : Mm) : Option (Mm) :=
  bd (m_A_wipe a0 M) fun r1 =>
  bd (lp (b_A_becomePart_6 a0 a1 a2) ((0 : Int32), r1)) fun r4 =>
  bd (lp (b_A_becomePart_40 a0 a1 a2) ((0 : Int32), r4.2)) fun r10 =>
  some r10.2
set_option maxRecDepth 20000 in
theorem w_A_becomePart_6 {l : Launch} {post : Option PV → Mm → Prop} (c0 : Nat) (c1 : Nat) (c2 : Int32) (h0 : c0 < 7) (h1 : c1 < 7) {r : Int32 × Mm} (kk : Go l X_A_becomePart post 38 [(0, vr 0 c0), (1, vr 0 c1), (2, vi c2), (3, vi r.1)] [] r.2) : ∀ (n : Nat) (s : Int32 × Mm), lpN (b_A_becomePart_6 c0 c1 c2) n s = some r → Go l X_A_becomePart post 6 [(0, vr 0 c0), (1, vr 0 c1), (2, vi c2), (3, vi s.1)] [] s.2 := by
  intro n
  induction n with
  | zero => intro s hc; exact (lpN_0 hc).elim
  | succ n ih =>
    intro s hc
    obtain ⟨q, h, hc⟩ := lpN_inv hc
    unfold b_A_becomePart_6 at h
    refine go_iload_n 4 rfl 3 rfl rfl ?_
    refine go_aload_n 5 rfl 1 rfl rfl ?_
    refine go_getfield 0 _ 6 rfl (by first | decide | exact ok0 (by omega) | exact ok1 (by omega) | exact ok2 (by omega) | exact ok7 (by omega)) rfl fg_A_9 rfl ?_
    refine go_icmp_ge 38 7 rfl (by decide) (fun c => ?_) (fun c => ?_)
    · replace h := ite_t c h
      cases h
      obtain rfl := lpq_r hc
      exact kk
    · replace h := ite_f c h
      refine go_iload_n 8 rfl 2 rfl rfl ?_
      refine go_iload_n 9 rfl 3 rfl rfl ?_
      refine go_ishr 10 rfl ?_
      refine go_iconst 1 11 rfl (by decide) ?_
      refine go_iand 12 rfl ?_
      refine go_if_eq 32 13 rfl (by decide) (fun c => ?_) (fun c => ?_)
      · replace h := ite_t c h
        refine go_iinc 1 20 rfl 3 rfl (by decide) (Nat.le_of_ble_eq_true rfl) [(0, _), (1, _), (2, _), (3, _)] rfl ?_
        refine go_goto 6 21 rfl (by decide) ?_
        cases h
        exact ih _ hc
      · replace h := ite_f c h
        refine go_aload_n 14 rfl 0 rfl rfl ?_
        refine go_aload_n 15 rfl 1 rfl rfl ?_
        refine go_iload_n 16 rfl 3 rfl rfl ?_
        obtain ⟨r2, c, h⟩ := bd_inv h
        refine go_callV1 _ 17 rfl (e_A_isGood (by omega) c) mk_A_isGood (by first | decide | exact ok0 (by omega) | exact ok1 (by omega) | exact ok2 (by omega) | exact ok7 (by omega)) rfl cv_A_38 rfl ⟨(Nat.le_of_ble_eq_true rfl), (Nat.le_of_ble_eq_true rfl)⟩ (Nat.le_of_ble_eq_true rfl) rfl ?_
        obtain ⟨r3, c, h⟩ := bd_inv h
        refine go_callV1 _ 18 rfl (e_A_addState (by omega) c) mk_A_addState (by first | decide | exact ok0 (by omega) | exact ok1 (by omega) | exact ok2 (by omega) | exact ok7 (by omega)) rfl cv_A_42 rfl ⟨(Nat.le_of_ble_eq_true rfl), (Nat.le_of_ble_eq_true rfl)⟩ (Nat.le_of_ble_eq_true rfl) rfl ?_
        refine go_pop 19 rfl rfl ?_
        refine go_iinc 1 20 rfl 3 rfl (by decide) (Nat.le_of_ble_eq_true rfl) [(0, _), (1, _), (2, _), (3, _)] rfl ?_
        refine go_goto 6 21 rfl (by decide) ?_
        cases h
        exact ih _ hc
set_option maxRecDepth 20000 in
theorem w_A_becomePart_48 {l : Launch} {post : Option PV → Mm → Prop} (c0 : Nat) (c1 : Nat) (c2 : Int32) (c3 : Int32) (h0 : c0 < 7) (h1 : c1 < 7) {r : Int32 × Mm} (kk : Go l X_A_becomePart post 102 [(0, vr 0 c0), (1, vr 0 c1), (2, vi c2), (3, vi c3), (4, vi r.1)] [] r.2) : ∀ (n : Nat) (s : Int32 × Mm), lpN (b_A_becomePart_48 c0 c1 c2 c3) n s = some r → Go l X_A_becomePart post 48 [(0, vr 0 c0), (1, vr 0 c1), (2, vi c2), (3, vi c3), (4, vi s.1)] [] s.2 := by
  intro n
  induction n with
  | zero => intro s hc; exact (lpN_0 hc).elim
  | succ n ih =>
    intro s hc
    obtain ⟨q, h, hc⟩ := lpN_inv hc
    unfold b_A_becomePart_48 at h
    refine go_iload 29 rfl 4 rfl ?_
    refine go_aload_n 30 rfl 1 rfl rfl ?_
    refine go_getfield 0 _ 31 rfl (by first | decide | exact ok0 (by omega) | exact ok1 (by omega) | exact ok2 (by omega) | exact ok7 (by omega)) rfl fg_A_9 rfl ?_
    refine go_icmp_ge 102 32 rfl (by decide) (fun c => ?_) (fun c => ?_)
    · replace h := ite_t c h
      cases h
      obtain rfl := lpq_r hc
      exact kk
    · replace h := ite_f c h
      refine go_iload_n 33 rfl 2 rfl rfl ?_
      refine go_iload 34 rfl 4 rfl ?_
      refine go_ishr 35 rfl ?_
      refine go_iconst 1 36 rfl (by decide) ?_
      refine go_iand 37 rfl ?_
      refine go_if_eq 96 38 rfl (by decide) (fun c => ?_) (fun c => ?_)
      · replace h := ite_t c h
        refine go_iinc 1 57 rfl 4 rfl (by decide) (Nat.le_of_ble_eq_true rfl) [(0, _), (1, _), (2, _), (3, _), (4, _)] rfl ?_
        refine go_goto 48 58 rfl (by decide) ?_
        cases h
        exact ih _ hc
      · replace h := ite_f c h
        refine go_aload_n 39 rfl 1 rfl rfl ?_
        refine go_iconst 1 40 rfl (by decide) ?_
        refine go_iload 41 rfl 4 rfl ?_
        refine go_ishl 42 rfl ?_
        refine go_iload_n 43 rfl 3 rfl rfl ?_
        obtain ⟨r5, c, h⟩ := bd_inv h
        refine go_callV1 _ 44 rfl (e_A_followersOf (by omega) c) mk_A_followersOf (by first | decide | exact ok0 (by omega) | exact ok1 (by omega) | exact ok2 (by omega) | exact ok7 (by omega)) rfl cv_A_22 rfl ⟨(Nat.le_of_ble_eq_true rfl), (Nat.le_of_ble_eq_true rfl)⟩ (Nat.le_of_ble_eq_true rfl) rfl ?_
        refine go_iload_n 45 rfl 2 rfl rfl ?_
        refine go_iand 46 rfl ?_
        refine go_istore 47 rfl (Nat.le_of_ble_eq_true rfl) [(0, _), (1, _), (2, _), (3, _), (4, _), (5, _)] rfl ?_
        refine go_aload_n 48 rfl 0 rfl rfl ?_
        refine go_iload_n 49 rfl 2 rfl rfl ?_
        refine go_iload 50 rfl 4 rfl ?_
        obtain ⟨r6, c, h⟩ := bd_inv h
        refine go_callS1 _ 51 rfl (e_A_placeAmong c) mk_A_placeAmong cs_A_56 rfl ⟨(Nat.le_of_ble_eq_true rfl), (Nat.le_of_ble_eq_true rfl)⟩ (Nat.le_of_ble_eq_true rfl) rfl ?_
        refine go_iload_n 52 rfl 3 rfl rfl ?_
        refine go_iload 53 rfl 5 rfl ?_
        refine go_iload_n 54 rfl 2 rfl rfl ?_
        obtain ⟨r7, c, h⟩ := bd_inv h
        refine go_callS1 _ 55 rfl (e_A_packed c) mk_A_packed cs_A_59 rfl ⟨(Nat.le_of_ble_eq_true rfl), (Nat.le_of_ble_eq_true rfl)⟩ (Nat.le_of_ble_eq_true rfl) rfl ?_
        obtain ⟨r8, c, h⟩ := bd_inv h
        refine go_callV1 _ 56 rfl (e_A_joinAll (by omega) c) mk_A_joinAll (by first | decide | exact ok0 (by omega) | exact ok1 (by omega) | exact ok2 (by omega) | exact ok7 (by omega)) rfl cv_A_46 rfl ⟨(Nat.le_of_ble_eq_true rfl), (Nat.le_of_ble_eq_true rfl)⟩ (Nat.le_of_ble_eq_true rfl) rfl ?_
        refine go_iinc 1 57 rfl 4 rfl (by decide) (Nat.le_of_ble_eq_true rfl) [(0, _), (1, _), (2, _), (3, _), (4, _), (5, _)] rfl ?_
        refine go_goto 48 58 rfl (by decide) ?_
        cases h
        refine go_sub [0, 1, 2, 3, 4] rfl ?_
        exact ih _ hc
set_option maxRecDepth 20000 in
theorem w_A_becomePart_40 {l : Launch} {post : Option PV → Mm → Prop} (c0 : Nat) (c1 : Nat) (c2 : Int32) (h0 : c0 < 7) (h1 : c1 < 7) {r : Int32 × Mm} (kk : Go l X_A_becomePart post 108 [(0, vr 0 c0), (1, vr 0 c1), (2, vi c2), (3, vi r.1)] [] r.2) : ∀ (n : Nat) (s : Int32 × Mm), lpN (b_A_becomePart_40 c0 c1 c2) n s = some r → Go l X_A_becomePart post 40 [(0, vr 0 c0), (1, vr 0 c1), (2, vi c2), (3, vi s.1)] [] s.2 := by
  intro n
  induction n with
  | zero => intro s hc; exact (lpN_0 hc).elim
  | succ n ih =>
    intro s hc
    obtain ⟨q, h, hc⟩ := lpN_inv hc
    unfold b_A_becomePart_40 at h
    refine go_iload_n 24 rfl 3 rfl rfl ?_
    refine go_iconst 2 25 rfl (by decide) ?_
    refine go_icmp_ge 108 26 rfl (by decide) (fun c => ?_) (fun c => ?_)
    · replace h := ite_t c h
      cases h
      obtain rfl := lpq_r hc
      exact kk
    · replace h := ite_f c h
      refine go_iconst 0 27 rfl (by decide) ?_
      refine go_istore 28 rfl (Nat.le_of_ble_eq_true rfl) [(0, _), (1, _), (2, _), (3, _), (4, _)] rfl ?_
      obtain ⟨r9, c, h⟩ := bd_inv h
      refine w_A_becomePart_48 _ _ _ _ (by omega) (by omega) ?_ _ _ c
      refine go_iinc 1 59 rfl 3 rfl (by decide) (Nat.le_of_ble_eq_true rfl) [(0, _), (1, _), (2, _), (3, _), (4, _)] rfl ?_
      refine go_goto 40 60 rfl (by decide) ?_
      cases h
      refine go_sub [0, 1, 2, 3] rfl ?_
      exact ih _ hc
set_option maxRecDepth 20000 in
theorem e_A_becomePart {l : Launch} {a0 : Nat} {a1 : Nat} {a2 : Int32} {M : Mm} {r : Mm} (h0 : a0 < 7) (h1 : a1 < 7) (h : m_A_becomePart a0 a1 a2 M = some r) : Ev l X_A_becomePart [vr 0 a0, vr 0 a1, vi a2] M (fun v M2 => v = none ∧ M2 = r) := by
  refine Ev.of mk_A_becomePart [(0, vr 0 a0), (1, vr 0 a1), (2, vi a2)] (fun _ => rfl) (fun _ => (Nat.le_of_ble_eq_true rfl)) ?_
  unfold m_A_becomePart at h
  refine go_aload_n 0 rfl 0 rfl rfl ?_
  obtain ⟨r1, c, h⟩ := bd_inv h
  refine go_callV1 _ 1 rfl (e_A_wipe (by omega) c) mk_A_wipe (by first | decide | exact ok0 (by omega) | exact ok1 (by omega) | exact ok2 (by omega) | exact ok7 (by omega)) rfl cv_A_53 rfl ⟨(Nat.le_of_ble_eq_true rfl), (Nat.le_of_ble_eq_true rfl)⟩ (Nat.le_of_ble_eq_true rfl) rfl ?_
  refine go_iconst 0 2 rfl (by decide) ?_
  refine go_istore_n 3 rfl rfl (Nat.le_of_ble_eq_true rfl) [(0, _), (1, _), (2, _), (3, _)] rfl ?_
  obtain ⟨r4, c, h⟩ := bd_inv h
  refine w_A_becomePart_6 _ _ _ (by omega) (by omega) ?_ _ _ c
  refine go_iconst 0 22 rfl (by decide) ?_
  refine go_istore_n 23 rfl rfl (Nat.le_of_ble_eq_true rfl) [(0, _), (1, _), (2, _), (3, _)] rfl ?_
  obtain ⟨r10, c, h⟩ := bd_inv h
  refine w_A_becomePart_40 _ _ _ (by omega) (by omega) ?_ _ _ c
  cases h
  exact go_return 61 rfl rfl ⟨rfl, rfl⟩
def X_A_emptyPassage : MX := (⟨"OmegaDesk$Automaton", "emptyPassage", "(I)I"⟩, prog_2_method_16_code, 4, some .int, { frames := 0, cells := 0, slots := 0, locals := 0 },
  [(0, .iconst 0, 1), (1, .istore_n 2, 2), (2, .iconst 0, 3), (3, .istore_n 3, 4), (4, .iload_n 3, 5), (5, .aload_n 0, 6), (6, .getfield 9, 9), (9, .if_icmp .ge 24, 12), (12, .iload_n 2, 13), (13, .iload_n 1, 14), (14, .iload_n 3, 15), (15, .ishr, 16), (16, .iconst 1, 17), (17, .iand, 18), (18, .iload_n 3, 19), (19, .ishl, 20), (20, .bipush 8, 22), (22, .iload_n 3, 23), (23, .imul, 24), (24, .ishl, 25), (25, .ior, 26), (26, .istore_n 2, 27), (27, .iinc 3 1, 30), (30, .goto (-26), 33), (33, .iload_n 2, 34), (34, .ireturn, 35)])
set_option maxRecDepth 20000 in
theorem mk_A_emptyPassage : Mk X_A_emptyPassage := ⟨by unfold TBk; decide +kernel, by decide +kernel, wb_322, ⟨by decide, by decide⟩, rfl, rfl, wb_2⟩
def b_A_emptyPassage_4 (c0 : Nat) (c1 : Int32) (M : Mm) (s : Int32 × Int32) : Option ((Int32 × Int32) ⊕ (Int32 × Int32)) :=
  if (M.1 (0, c0) 0) ≤ s.2 then
    some (Sum.inr (s.1, s.2))
  else
    bd (some (s.1 ||| ((((c1 >>> (s.2 &&& 31)) &&& (1 : Int32)) <<< (s.2 &&& 31)) <<< (((8 : Int32) * s.2) &&& 31)))) fun x1 =>
    some (Sum.inl (x1, (s.2 + 1)))
def m_A_emptyPassage (a0 : Nat) (a1 : Int32) (M : Mm) : Option (Int32) :=
  bd (lp (b_A_emptyPassage_4 a0 a1 M) ((0 : Int32), (0 : Int32))) fun r2 =>
  some r2.1
set_option maxRecDepth 20000 in
theorem w_A_emptyPassage_4 {l : Launch} {post : Option PV → Mm → Prop} (c0 : Nat) (c1 : Int32) (M : Mm) (h0 : c0 < 7) {r : Int32 × Int32} (kk : Go l X_A_emptyPassage post 33 [(0, vr 0 c0), (1, vi c1), (2, vi r.1), (3, vi r.2)] [] M) : ∀ (n : Nat) (s : Int32 × Int32), lpN (b_A_emptyPassage_4 c0 c1 M) n s = some r → Go l X_A_emptyPassage post 4 [(0, vr 0 c0), (1, vi c1), (2, vi s.1), (3, vi s.2)] [] M := by
  intro n
  induction n with
  | zero => intro s hc; exact (lpN_0 hc).elim
  | succ n ih =>
    intro s hc
    obtain ⟨q, h, hc⟩ := lpN_inv hc
    unfold b_A_emptyPassage_4 at h
    refine go_iload_n 4 rfl 3 rfl rfl ?_
    refine go_aload_n 5 rfl 0 rfl rfl ?_
    refine go_getfield 0 _ 6 rfl (by first | decide | exact ok0 (by omega) | exact ok1 (by omega) | exact ok2 (by omega) | exact ok7 (by omega)) rfl fg_A_9 rfl ?_
    refine go_icmp_ge 33 7 rfl (by decide) (fun c => ?_) (fun c => ?_)
    · replace h := ite_t c h
      cases h
      obtain rfl := lpq_r hc
      exact kk
    · replace h := ite_f c h
      refine go_iload_n 8 rfl 2 rfl rfl ?_
      refine go_iload_n 9 rfl 1 rfl rfl ?_
      refine go_iload_n 10 rfl 3 rfl rfl ?_
      refine go_ishr 11 rfl ?_
      refine go_iconst 1 12 rfl (by decide) ?_
      refine go_iand 13 rfl ?_
      refine go_iload_n 14 rfl 3 rfl rfl ?_
      refine go_ishl 15 rfl ?_
      refine go_bipush 8 16 rfl (by decide) ?_
      refine go_iload_n 17 rfl 3 rfl rfl ?_
      refine go_imul 18 rfl ?_
      refine go_ishl 19 rfl ?_
      refine go_ior 20 rfl ?_
      obtain ⟨_, c, h⟩ := bd_inv h
      cases c
      refine go_istore_n 21 rfl rfl (Nat.le_of_ble_eq_true rfl) [(0, _), (1, _), (2, _), (3, _)] rfl ?_
      refine go_iinc 1 22 rfl 3 rfl (by decide) (Nat.le_of_ble_eq_true rfl) [(0, _), (1, _), (2, _), (3, _)] rfl ?_
      refine go_goto 4 23 rfl (by decide) ?_
      cases h
      exact ih _ hc
set_option maxRecDepth 20000 in
theorem e_A_emptyPassage {l : Launch} {a0 : Nat} {a1 : Int32} {M : Mm} {r : Int32} (h0 : a0 < 7) (h : m_A_emptyPassage a0 a1 M = some r) : Ev l X_A_emptyPassage [vr 0 a0, vi a1] M (fun v M2 => v = (some (vi r)) ∧ M2 = M) := by
  refine Ev.of mk_A_emptyPassage [(0, vr 0 a0), (1, vi a1)] (fun _ => rfl) (fun _ => (Nat.le_of_ble_eq_true rfl)) ?_
  unfold m_A_emptyPassage at h
  refine go_iconst 0 0 rfl (by decide) ?_
  refine go_istore_n 1 rfl rfl (Nat.le_of_ble_eq_true rfl) [(0, _), (1, _), (2, _)] rfl ?_
  refine go_iconst 0 2 rfl (by decide) ?_
  refine go_istore_n 3 rfl rfl (Nat.le_of_ble_eq_true rfl) [(0, _), (1, _), (2, _), (3, _)] rfl ?_
  obtain ⟨r2, c, h⟩ := bd_inv h
  refine w_A_emptyPassage_4 _ _ _ (by omega) ?_ _ _ c
  refine go_iload_n 24 rfl 2 rfl rfl ?_
  cases h
  exact go_ireturn 25 rfl rfl rfl ⟨rfl, rfl⟩
def X_A_longerPassage : MX := (⟨"OmegaDesk$Automaton", "longerPassage", "(II)I"⟩, prog_2_method_17_code, 7, some .int, { frames := 1, cells := 0, slots := 0, locals := 22 },
  [(0, .iconst 0, 1), (1, .istore_n 3, 2), (2, .iconst 0, 3), (3, .istore 4, 5), (5, .iload 4, 7), (7, .aload_n 0, 8), (8, .getfield 9, 11), (11, .if_icmp .ge 59, 14), (14, .aload_n 0, 15), (15, .iload_n 1, 16), (16, .iload 4, 18), (18, .invokestatic 85, 21), (21, .iload_n 2, 22), (22, .invokevirtual 22, 25), (25, .istore 5, 27), (27, .aload_n 0, 28), (28, .iload_n 1, 29), (29, .iload 4, 31), (31, .invokestatic 88, 34), (34, .iload_n 2, 35), (35, .invokevirtual 22, 38), (38, .iload 5, 40), (40, .aload_n 0, 41), (41, .getfield 15, 44), (44, .iand, 45), (45, .ior, 46), (46, .istore 6, 48), (48, .iload_n 3, 49), (49, .iload 5, 51), (51, .iload 6, 53), (53, .iconst 4, 54), (54, .ishl, 55), (55, .ior, 56), (56, .bipush 8, 58), (58, .iload 4, 60), (60, .imul, 61), (61, .ishl, 62), (62, .ior, 63), (63, .istore_n 3, 64), (64, .iinc 4 1, 67), (67, .goto (-62), 70), (70, .iload_n 3, 71), (71, .ireturn, 72)])
set_option maxRecDepth 20000 in
theorem mk_A_longerPassage : Mk X_A_longerPassage := ⟨by unfold TBk; decide +kernel, by decide +kernel, wb_326, ⟨by decide, by decide⟩, rfl, rfl, wb_2⟩
theorem cs_A_85 : CS "OmegaDesk$Automaton" 85 X_P_ends 2 := ⟨Or.inl wb_327, wb_328, by decide +kernel⟩
theorem cs_A_88 : CS "OmegaDesk$Automaton" 88 X_P_goodEnds 2 := ⟨Or.inl wb_330, wb_331, by decide +kernel⟩
def b_A_longerPassage_5 (c0 : Nat) (c1 : Int32) (c2 : Int32) (M : Mm) (s : Int32 × Int32) : Option ((Int32 × Int32) ⊕ (Int32 × Int32)) :=
  if (M.1 (0, c0) 0) ≤ s.2 then
    some (Sum.inr (s.1, s.2))
  else
    bd (m_P_ends c1 s.2) fun r1 =>
    bd (m_A_followersOf c0 r1 c2 M) fun r2 =>
    bd (m_P_goodEnds c1 s.2) fun r3 =>
    bd (m_A_followersOf c0 r3 c2 M) fun r4 =>
    bd (some (s.1 ||| ((r2 ||| ((r4 ||| (r2 &&& (M.1 (0, c0) 1))) <<< ((4 : Int32) &&& 31))) <<< (((8 : Int32) * s.2) &&& 31)))) fun x5 =>
    some (Sum.inl (x5, (s.2 + 1)))
def m_A_longerPassage (a0 : Nat) (a1 : Int32) (a2 : Int32) (M : Mm) : Option (Int32) :=
  bd (lp (b_A_longerPassage_5 a0 a1 a2 M) ((0 : Int32), (0 : Int32))) fun r6 =>
  some r6.1
set_option maxRecDepth 20000 in
theorem w_A_longerPassage_5 {l : Launch} {post : Option PV → Mm → Prop} (c0 : Nat) (c1 : Int32) (c2 : Int32) (M : Mm) (h0 : c0 < 7) {r : Int32 × Int32} (kk : Go l X_A_longerPassage post 70 [(0, vr 0 c0), (1, vi c1), (2, vi c2), (3, vi r.1), (4, vi r.2)] [] M) : ∀ (n : Nat) (s : Int32 × Int32), lpN (b_A_longerPassage_5 c0 c1 c2 M) n s = some r → Go l X_A_longerPassage post 5 [(0, vr 0 c0), (1, vi c1), (2, vi c2), (3, vi s.1), (4, vi s.2)] [] M := by
  intro n
  induction n with
  | zero => intro s hc; exact (lpN_0 hc).elim
  | succ n ih =>
    intro s hc
    obtain ⟨q, h, hc⟩ := lpN_inv hc
    unfold b_A_longerPassage_5 at h
    refine go_iload 4 rfl 4 rfl ?_
    refine go_aload_n 5 rfl 0 rfl rfl ?_
    refine go_getfield 0 _ 6 rfl (by first | decide | exact ok0 (by omega) | exact ok1 (by omega) | exact ok2 (by omega) | exact ok7 (by omega)) rfl fg_A_9 rfl ?_
    refine go_icmp_ge 70 7 rfl (by decide) (fun c => ?_) (fun c => ?_)
    · replace h := ite_t c h
      cases h
      obtain rfl := lpq_r hc
      exact kk
    · replace h := ite_f c h
      refine go_aload_n 8 rfl 0 rfl rfl ?_
      refine go_iload_n 9 rfl 1 rfl rfl ?_
      refine go_iload 10 rfl 4 rfl ?_
      obtain ⟨r1, c, h⟩ := bd_inv h
      refine go_callS1 _ 11 rfl (e_P_ends c) mk_P_ends cs_A_85 rfl ⟨(Nat.le_of_ble_eq_true rfl), (Nat.le_of_ble_eq_true rfl)⟩ (Nat.le_of_ble_eq_true rfl) rfl ?_
      refine go_iload_n 12 rfl 2 rfl rfl ?_
      obtain ⟨r2, c, h⟩ := bd_inv h
      refine go_callV1 _ 13 rfl (e_A_followersOf (by omega) c) mk_A_followersOf (by first | decide | exact ok0 (by omega) | exact ok1 (by omega) | exact ok2 (by omega) | exact ok7 (by omega)) rfl cv_A_22 rfl ⟨(Nat.le_of_ble_eq_true rfl), (Nat.le_of_ble_eq_true rfl)⟩ (Nat.le_of_ble_eq_true rfl) rfl ?_
      refine go_istore 14 rfl (Nat.le_of_ble_eq_true rfl) [(0, _), (1, _), (2, _), (3, _), (4, _), (5, _)] rfl ?_
      refine go_aload_n 15 rfl 0 rfl rfl ?_
      refine go_iload_n 16 rfl 1 rfl rfl ?_
      refine go_iload 17 rfl 4 rfl ?_
      obtain ⟨r3, c, h⟩ := bd_inv h
      refine go_callS1 _ 18 rfl (e_P_goodEnds c) mk_P_goodEnds cs_A_88 rfl ⟨(Nat.le_of_ble_eq_true rfl), (Nat.le_of_ble_eq_true rfl)⟩ (Nat.le_of_ble_eq_true rfl) rfl ?_
      refine go_iload_n 19 rfl 2 rfl rfl ?_
      obtain ⟨r4, c, h⟩ := bd_inv h
      refine go_callV1 _ 20 rfl (e_A_followersOf (by omega) c) mk_A_followersOf (by first | decide | exact ok0 (by omega) | exact ok1 (by omega) | exact ok2 (by omega) | exact ok7 (by omega)) rfl cv_A_22 rfl ⟨(Nat.le_of_ble_eq_true rfl), (Nat.le_of_ble_eq_true rfl)⟩ (Nat.le_of_ble_eq_true rfl) rfl ?_
      refine go_iload 21 rfl 5 rfl ?_
      refine go_aload_n 22 rfl 0 rfl rfl ?_
      refine go_getfield 1 _ 23 rfl (by first | decide | exact ok0 (by omega) | exact ok1 (by omega) | exact ok2 (by omega) | exact ok7 (by omega)) rfl fg_A_15 rfl ?_
      refine go_iand 24 rfl ?_
      refine go_ior 25 rfl ?_
      refine go_istore 26 rfl (Nat.le_of_ble_eq_true rfl) [(0, _), (1, _), (2, _), (3, _), (4, _), (5, _), (6, _)] rfl ?_
      refine go_iload_n 27 rfl 3 rfl rfl ?_
      refine go_iload 28 rfl 5 rfl ?_
      refine go_iload 29 rfl 6 rfl ?_
      refine go_iconst 4 30 rfl (by decide) ?_
      refine go_ishl 31 rfl ?_
      refine go_ior 32 rfl ?_
      refine go_bipush 8 33 rfl (by decide) ?_
      refine go_iload 34 rfl 4 rfl ?_
      refine go_imul 35 rfl ?_
      refine go_ishl 36 rfl ?_
      refine go_ior 37 rfl ?_
      obtain ⟨_, c, h⟩ := bd_inv h
      cases c
      refine go_istore_n 38 rfl rfl (Nat.le_of_ble_eq_true rfl) [(0, _), (1, _), (2, _), (3, _), (4, _), (5, _), (6, _)] rfl ?_
      refine go_iinc 1 39 rfl 4 rfl (by decide) (Nat.le_of_ble_eq_true rfl) [(0, _), (1, _), (2, _), (3, _), (4, _), (5, _), (6, _)] rfl ?_
      refine go_goto 5 40 rfl (by decide) ?_
      cases h
      refine go_sub [0, 1, 2, 3, 4] rfl ?_
      exact ih _ hc
set_option maxRecDepth 20000 in
theorem e_A_longerPassage {l : Launch} {a0 : Nat} {a1 : Int32} {a2 : Int32} {M : Mm} {r : Int32} (h0 : a0 < 7) (h : m_A_longerPassage a0 a1 a2 M = some r) : Ev l X_A_longerPassage [vr 0 a0, vi a1, vi a2] M (fun v M2 => v = (some (vi r)) ∧ M2 = M) := by
  refine Ev.of mk_A_longerPassage [(0, vr 0 a0), (1, vi a1), (2, vi a2)] (fun _ => rfl) (fun _ => (Nat.le_of_ble_eq_true rfl)) ?_
  unfold m_A_longerPassage at h
  refine go_iconst 0 0 rfl (by decide) ?_
  refine go_istore_n 1 rfl rfl (Nat.le_of_ble_eq_true rfl) [(0, _), (1, _), (2, _), (3, _)] rfl ?_
  refine go_iconst 0 2 rfl (by decide) ?_
  refine go_istore 3 rfl (Nat.le_of_ble_eq_true rfl) [(0, _), (1, _), (2, _), (3, _), (4, _)] rfl ?_
  obtain ⟨r6, c, h⟩ := bd_inv h
  refine w_A_longerPassage_5 _ _ _ _ (by omega) ?_ _ _ c
  refine go_iload_n 41 rfl 3 rfl rfl ?_
  cases h
  exact go_ireturn 42 rfl rfl rfl ⟨rfl, rfl⟩
def X_A_usefulStates : MX := (⟨"OmegaDesk$Automaton", "usefulStates", "()I"⟩, prog_2_method_15_code, 4, some .int, { frames := 3, cells := 0, slots := 0, locals := 68 },
  [(0, .aload_n 0, 1), (1, .iconst 1, 2), (2, .aload_n 0, 3), (3, .getfield 9, 6), (6, .ishl, 7), (7, .iconst 1, 8), (8, .isub, 9), (9, .invokevirtual 68, 12), (12, .istore_n 1, 13), (13, .aload_n 0, 14), (14, .iload_n 1, 15), (15, .iconst 0, 16), (16, .invokevirtual 71, 19), (19, .aload_n 0, 20), (20, .iload_n 1, 21), (21, .iconst 1, 22), (22, .invokevirtual 71, 25), (25, .ior, 26), (26, .istore_n 2, 27), (27, .iconst 1, 28), (28, .iload_n 2, 29), (29, .invokestatic 74, 32), (32, .invokestatic 79, 35), (35, .ior, 36), (36, .istore_n 3, 37), (37, .iload_n 3, 38), (38, .iload_n 2, 39), (39, .invokestatic 82, 42), (42, .iand, 43), (43, .ireturn, 44)])
set_option maxRecDepth 20000 in
theorem mk_A_usefulStates : Mk X_A_usefulStates := ⟨by unfold TBk; decide +kernel, by decide +kernel, wb_318, ⟨by decide, by decide⟩, rfl, rfl, wb_2⟩
theorem cv_A_68 : CV "OmegaDesk$Automaton" 68 X_A_emptyPassage 1 0 := ⟨Or.inl wb_319, ⟨wb_320, wb_321⟩, by decide +kernel, F_A, 3, rfl⟩
theorem cv_A_71 : CV "OmegaDesk$Automaton" 71 X_A_longerPassage 2 0 := ⟨Or.inl wb_323, ⟨wb_324, wb_325⟩, by decide +kernel, F_A, 3, rfl⟩
theorem cs_A_74 : CS "OmegaDesk$Automaton" 74 X_P_chained 1 := ⟨Or.inl wb_333, wb_334, by decide +kernel⟩
theorem cs_A_79 : CS "OmegaDesk$Automaton" 79 X_P_fromStart 1 := ⟨Or.inl wb_337, wb_338, by decide +kernel⟩
theorem cs_A_82 : CS "OmegaDesk$Automaton" 82 X_P_takenRepeated 1 := ⟨Or.inl wb_340, wb_341, by decide +kernel⟩
def m_A_usefulStates (a0 : Nat) (M : Mm) : Option (Int32) :=
  bd (m_A_emptyPassage a0 (((1 : Int32) <<< ((M.1 (0, a0) 0) &&& 31)) - (1 : Int32)) M) fun r1 =>
  bd (m_A_longerPassage a0 r1 (0 : Int32) M) fun r2 =>
  bd (m_A_longerPassage a0 r1 (1 : Int32) M) fun r3 =>
  bd (m_P_chained (r2 ||| r3)) fun r4 =>
  bd (m_P_fromStart r4) fun r5 =>
  bd (m_P_takenRepeated (r2 ||| r3)) fun r6 =>
  some (((1 : Int32) ||| r5) &&& r6)
set_option maxRecDepth 20000 in
theorem e_A_usefulStates {l : Launch} {a0 : Nat} {M : Mm} {r : Int32} (h0 : a0 < 7) (h : m_A_usefulStates a0 M = some r) : Ev l X_A_usefulStates [vr 0 a0] M (fun v M2 => v = (some (vi r)) ∧ M2 = M) := by
  refine Ev.of mk_A_usefulStates [(0, vr 0 a0)] (fun _ => rfl) (fun _ => (Nat.le_of_ble_eq_true rfl)) ?_
  unfold m_A_usefulStates at h
  refine go_aload_n 0 rfl 0 rfl rfl ?_
  refine go_iconst 1 1 rfl (by decide) ?_
  refine go_aload_n 2 rfl 0 rfl rfl ?_
  refine go_getfield 0 _ 3 rfl (by first | decide | exact ok0 (by omega) | exact ok1 (by omega) | exact ok2 (by omega) | exact ok7 (by omega)) rfl fg_A_9 rfl ?_
  refine go_ishl 4 rfl ?_
  refine go_iconst 1 5 rfl (by decide) ?_
  refine go_isub 6 rfl ?_
  obtain ⟨r1, c, h⟩ := bd_inv h
  refine go_callV1 _ 7 rfl (e_A_emptyPassage (by omega) c) mk_A_emptyPassage (by first | decide | exact ok0 (by omega) | exact ok1 (by omega) | exact ok2 (by omega) | exact ok7 (by omega)) rfl cv_A_68 rfl ⟨(Nat.le_of_ble_eq_true rfl), (Nat.le_of_ble_eq_true rfl)⟩ (Nat.le_of_ble_eq_true rfl) rfl ?_
  refine go_istore_n 8 rfl rfl (Nat.le_of_ble_eq_true rfl) [(0, _), (1, _)] rfl ?_
  refine go_aload_n 9 rfl 0 rfl rfl ?_
  refine go_iload_n 10 rfl 1 rfl rfl ?_
  refine go_iconst 0 11 rfl (by decide) ?_
  obtain ⟨r2, c, h⟩ := bd_inv h
  refine go_callV1 _ 12 rfl (e_A_longerPassage (by omega) c) mk_A_longerPassage (by first | decide | exact ok0 (by omega) | exact ok1 (by omega) | exact ok2 (by omega) | exact ok7 (by omega)) rfl cv_A_71 rfl ⟨(Nat.le_of_ble_eq_true rfl), (Nat.le_of_ble_eq_true rfl)⟩ (Nat.le_of_ble_eq_true rfl) rfl ?_
  refine go_aload_n 13 rfl 0 rfl rfl ?_
  refine go_iload_n 14 rfl 1 rfl rfl ?_
  refine go_iconst 1 15 rfl (by decide) ?_
  obtain ⟨r3, c, h⟩ := bd_inv h
  refine go_callV1 _ 16 rfl (e_A_longerPassage (by omega) c) mk_A_longerPassage (by first | decide | exact ok0 (by omega) | exact ok1 (by omega) | exact ok2 (by omega) | exact ok7 (by omega)) rfl cv_A_71 rfl ⟨(Nat.le_of_ble_eq_true rfl), (Nat.le_of_ble_eq_true rfl)⟩ (Nat.le_of_ble_eq_true rfl) rfl ?_
  refine go_ior 17 rfl ?_
  refine go_istore_n 18 rfl rfl (Nat.le_of_ble_eq_true rfl) [(0, _), (1, _), (2, _)] rfl ?_
  refine go_iconst 1 19 rfl (by decide) ?_
  refine go_iload_n 20 rfl 2 rfl rfl ?_
  obtain ⟨r4, c, h⟩ := bd_inv h
  refine go_callS1 _ 21 rfl (e_P_chained c) mk_P_chained cs_A_74 rfl ⟨(Nat.le_of_ble_eq_true rfl), (Nat.le_of_ble_eq_true rfl)⟩ (Nat.le_of_ble_eq_true rfl) rfl ?_
  obtain ⟨r5, c, h⟩ := bd_inv h
  refine go_callS1 _ 22 rfl (e_P_fromStart c) mk_P_fromStart cs_A_79 rfl ⟨(Nat.le_of_ble_eq_true rfl), (Nat.le_of_ble_eq_true rfl)⟩ (Nat.le_of_ble_eq_true rfl) rfl ?_
  refine go_ior 23 rfl ?_
  refine go_istore_n 24 rfl rfl (Nat.le_of_ble_eq_true rfl) [(0, _), (1, _), (2, _), (3, _)] rfl ?_
  refine go_iload_n 25 rfl 3 rfl rfl ?_
  refine go_iload_n 26 rfl 2 rfl rfl ?_
  obtain ⟨r6, c, h⟩ := bd_inv h
  refine go_callS1 _ 27 rfl (e_P_takenRepeated c) mk_P_takenRepeated cs_A_82 rfl ⟨(Nat.le_of_ble_eq_true rfl), (Nat.le_of_ble_eq_true rfl)⟩ (Nat.le_of_ble_eq_true rfl) rfl ?_
  refine go_iand 28 rfl ?_
  cases h
  exact go_ireturn 29 rfl rfl rfl ⟨rfl, rfl⟩
def X_A_passageOf : MX := (⟨"OmegaDesk$Automaton", "passageOf", "(II)I"⟩, prog_2_method_18_code, 5, some .int, { frames := 2, cells := 0, slots := 0, locals := 48 },
  [(0, .aload_n 0, 1), (1, .iconst 1, 2), (2, .aload_n 0, 3), (3, .getfield 9, 6), (6, .ishl, 7), (7, .iconst 1, 8), (8, .isub, 9), (9, .invokevirtual 68, 12), (12, .istore_n 3, 13), (13, .iload_n 1, 14), (14, .iconst 1, 15), (15, .isub, 16), (16, .istore 4, 18), (18, .iload 4, 20), (20, .ifCond .lt 21, 23), (23, .aload_n 0, 24), (24, .iload_n 3, 25), (25, .iload_n 2, 26), (26, .iload 4, 28), (28, .ishr, 29), (29, .iconst 1, 30), (30, .iand, 31), (31, .invokevirtual 71, 34), (34, .istore_n 3, 35), (35, .iinc 4 (-1), 38), (38, .goto (-20), 41), (41, .iload_n 3, 42), (42, .ireturn, 43)])
set_option maxRecDepth 20000 in
theorem mk_A_passageOf : Mk X_A_passageOf := ⟨by unfold TBk; decide +kernel, by decide +kernel, wb_388, ⟨by decide, by decide⟩, rfl, rfl, wb_2⟩
def b_A_passageOf_18 (c0 : Nat) (c2 : Int32) (M : Mm) (s : Int32 × Int32) : Option ((Int32 × Int32) ⊕ (Int32 × Int32)) :=
  if s.2 < 0 then
    some (Sum.inr (s.1, s.2))
  else
    bd (m_A_longerPassage c0 s.1 ((c2 >>> (s.2 &&& 31)) &&& (1 : Int32)) M) fun r2 =>
    some (Sum.inl (r2, (s.2 + (-1))))
def m_A_passageOf (a0 : Nat) (a1 : Int32) (a2 : Int32) (M : Mm) : Option (Int32) :=
  bd (m_A_emptyPassage a0 (((1 : Int32) <<< ((M.1 (0, a0) 0) &&& 31)) - (1 : Int32)) M) fun r1 =>
  bd (lp (b_A_passageOf_18 a0 a2 M) (r1, (a1 - (1 : Int32)))) fun r3 =>
  some r3.1
set_option maxRecDepth 20000 in
theorem w_A_passageOf_18 {l : Launch} {post : Option PV → Mm → Prop} (c0 : Nat) (c1 : Int32) (c2 : Int32) (M : Mm) (h0 : c0 < 7) {r : Int32 × Int32} (kk : Go l X_A_passageOf post 41 [(0, vr 0 c0), (1, vi c1), (2, vi c2), (3, vi r.1), (4, vi r.2)] [] M) : ∀ (n : Nat) (s : Int32 × Int32), lpN (b_A_passageOf_18 c0 c2 M) n s = some r → Go l X_A_passageOf post 18 [(0, vr 0 c0), (1, vi c1), (2, vi c2), (3, vi s.1), (4, vi s.2)] [] M := by
  intro n
  induction n with
  | zero => intro s hc; exact (lpN_0 hc).elim
  | succ n ih =>
    intro s hc
    obtain ⟨q, h, hc⟩ := lpN_inv hc
    unfold b_A_passageOf_18 at h
    refine go_iload 13 rfl 4 rfl ?_
    refine go_if_lt 41 14 rfl (by decide) (fun c => ?_) (fun c => ?_)
    · replace h := ite_t c h
      cases h
      obtain rfl := lpq_r hc
      exact kk
    · replace h := ite_f c h
      refine go_aload_n 15 rfl 0 rfl rfl ?_
      refine go_iload_n 16 rfl 3 rfl rfl ?_
      refine go_iload_n 17 rfl 2 rfl rfl ?_
      refine go_iload 18 rfl 4 rfl ?_
      refine go_ishr 19 rfl ?_
      refine go_iconst 1 20 rfl (by decide) ?_
      refine go_iand 21 rfl ?_
      obtain ⟨r2, c, h⟩ := bd_inv h
      refine go_callV1 _ 22 rfl (e_A_longerPassage (by omega) c) mk_A_longerPassage (by first | decide | exact ok0 (by omega) | exact ok1 (by omega) | exact ok2 (by omega) | exact ok7 (by omega)) rfl cv_A_71 rfl ⟨(Nat.le_of_ble_eq_true rfl), (Nat.le_of_ble_eq_true rfl)⟩ (Nat.le_of_ble_eq_true rfl) rfl ?_
      refine go_istore_n 23 rfl rfl (Nat.le_of_ble_eq_true rfl) [(0, _), (1, _), (2, _), (3, _), (4, _)] rfl ?_
      refine go_iinc (-1) 24 rfl 4 rfl (by decide) (Nat.le_of_ble_eq_true rfl) [(0, _), (1, _), (2, _), (3, _), (4, _)] rfl ?_
      refine go_goto 18 25 rfl (by decide) ?_
      cases h
      exact ih _ hc
set_option maxRecDepth 20000 in
theorem e_A_passageOf {l : Launch} {a0 : Nat} {a1 : Int32} {a2 : Int32} {M : Mm} {r : Int32} (h0 : a0 < 7) (h : m_A_passageOf a0 a1 a2 M = some r) : Ev l X_A_passageOf [vr 0 a0, vi a1, vi a2] M (fun v M2 => v = (some (vi r)) ∧ M2 = M) := by
  refine Ev.of mk_A_passageOf [(0, vr 0 a0), (1, vi a1), (2, vi a2)] (fun _ => rfl) (fun _ => (Nat.le_of_ble_eq_true rfl)) ?_
  unfold m_A_passageOf at h
  refine go_aload_n 0 rfl 0 rfl rfl ?_
  refine go_iconst 1 1 rfl (by decide) ?_
  refine go_aload_n 2 rfl 0 rfl rfl ?_
  refine go_getfield 0 _ 3 rfl (by first | decide | exact ok0 (by omega) | exact ok1 (by omega) | exact ok2 (by omega) | exact ok7 (by omega)) rfl fg_A_9 rfl ?_
  refine go_ishl 4 rfl ?_
  refine go_iconst 1 5 rfl (by decide) ?_
  refine go_isub 6 rfl ?_
  obtain ⟨r1, c, h⟩ := bd_inv h
  refine go_callV1 _ 7 rfl (e_A_emptyPassage (by omega) c) mk_A_emptyPassage (by first | decide | exact ok0 (by omega) | exact ok1 (by omega) | exact ok2 (by omega) | exact ok7 (by omega)) rfl cv_A_68 rfl ⟨(Nat.le_of_ble_eq_true rfl), (Nat.le_of_ble_eq_true rfl)⟩ (Nat.le_of_ble_eq_true rfl) rfl ?_
  refine go_istore_n 8 rfl rfl (Nat.le_of_ble_eq_true rfl) [(0, _), (1, _), (2, _), (3, _)] rfl ?_
  refine go_iload_n 9 rfl 1 rfl rfl ?_
  refine go_iconst 1 10 rfl (by decide) ?_
  refine go_isub 11 rfl ?_
  refine go_istore 12 rfl (Nat.le_of_ble_eq_true rfl) [(0, _), (1, _), (2, _), (3, _), (4, _)] rfl ?_
  obtain ⟨r3, c, h⟩ := bd_inv h
  refine w_A_passageOf_18 _ _ _ _ (by omega) ?_ _ _ c
  refine go_iload_n 26 rfl 3 rfl rfl ?_
  cases h
  exact go_ireturn 27 rfl rfl rfl ⟨rfl, rfl⟩
end
section
def X_T_begin : MX := (⟨"OmegaDesk$WordTable", "begin", "(LOmegaDesk$Automaton;)V"⟩, prog_6_method_2_code, 2, none, { frames := 1, cells := 0, slots := 0, locals := 23 },
  [(0, .aload_n 0, 1), (1, .getfield 11, 4), (4, .iconst 1, 5), (5, .aload_n 1, 6), (6, .iconst 1, 7), (7, .aload_n 1, 8), (8, .getfield 18, 11), (11, .ishl, 12), (12, .iconst 1, 13), (13, .isub, 14), (14, .invokevirtual 24, 17), (17, .iastore, 18), (18, .return_, 19)])
set_option maxRecDepth 20000 in
theorem mk_T_begin : Mk X_T_begin := ⟨by unfold TBk; decide +kernel, by decide +kernel, wb_455, ⟨by decide, by decide⟩, rfl, rfl, wb_5⟩
theorem fg_T_11 : FG "OmegaDesk$WordTable" 11 7 0 := ⟨R_T, F_T, 2, rfl, by decide, uw_T, Or.inl wb_87⟩
theorem fg_T_18 : FG "OmegaDesk$WordTable" 18 0 0 := ⟨R_A, F_A, 3, rfl, by decide, uw_A, Or.inr ⟨_, nw_34⟩⟩
theorem cv_T_24 : CV "OmegaDesk$WordTable" 24 X_A_emptyPassage 1 0 := ⟨Or.inl wb_456, ⟨wb_320, wb_321⟩, by decide +kernel, F_A, 3, rfl⟩
def m_T_begin (a0 : Nat) (a1 : Nat) (M : Mm) : Option (Mm) :=
  bd (m_A_emptyPassage a1 (((1 : Int32) <<< ((M.1 (0, a1) 0) &&& 31)) - (1 : Int32)) M) fun r1 =>
  ck (inb (1 : Int32) (lenI (12 + 2 * a0))) <|
  bd (some (uI M (1, (12 + 2 * a0)) (1 : Int32).toNatClampNeg r1)) fun M2 =>
  some M2
set_option maxRecDepth 20000 in
theorem e_T_begin {l : Launch} {a0 : Nat} {a1 : Nat} {M : Mm} {r : Mm} (h0 : a0 < 2) (h1 : a1 < 7) (h : m_T_begin a0 a1 M = some r) : Ev l X_T_begin [vr 7 a0, vr 0 a1] M (fun v M2 => v = none ∧ M2 = r) := by
  refine Ev.of mk_T_begin [(0, vr 7 a0), (1, vr 0 a1)] (fun _ => rfl) (fun _ => (Nat.le_of_ble_eq_true rfl)) ?_
  unfold m_T_begin at h
  refine go_aload_n 0 rfl 0 rfl rfl ?_
  refine go_getfield 0 _ 1 rfl (by first | decide | exact ok0 (by omega) | exact ok1 (by omega) | exact ok2 (by omega) | exact ok7 (by omega)) rfl fg_T_11 rfl ?_
  refine go_iconst 1 2 rfl (by decide) ?_
  refine go_aload_n 3 rfl 1 rfl rfl ?_
  refine go_iconst 1 4 rfl (by decide) ?_
  refine go_aload_n 5 rfl 1 rfl rfl ?_
  refine go_getfield 0 _ 6 rfl (by first | decide | exact ok0 (by omega) | exact ok1 (by omega) | exact ok2 (by omega) | exact ok7 (by omega)) rfl fg_T_18 rfl ?_
  refine go_ishl 7 rfl ?_
  refine go_iconst 1 8 rfl (by decide) ?_
  refine go_isub 9 rfl ?_
  obtain ⟨r1, c, h⟩ := bd_inv h
  refine go_callV1 _ 10 rfl (e_A_emptyPassage (by omega) c) mk_A_emptyPassage (by first | decide | exact ok0 (by omega) | exact ok1 (by omega) | exact ok2 (by omega) | exact ok7 (by omega)) rfl cv_T_24 rfl ⟨(Nat.le_of_ble_eq_true rfl), (Nat.le_of_ble_eq_true rfl)⟩ (Nat.le_of_ble_eq_true rfl) rfl ?_
  obtain ⟨c, h⟩ := ck_inv h
  refine go_iastore 11 rfl (by first | decide | exact ok0 (by omega) | exact ok1 (by omega) | exact ok2 (by omega) | exact ok7 (by omega)) (inb_vp c) ?_
  obtain ⟨_, c, h⟩ := bd_inv h
  cases c
  cases h
  exact go_return 12 rfl rfl ⟨rfl, rfl⟩
def X_T_addWords : MX := (⟨"OmegaDesk$WordTable", "addWords", "(LOmegaDesk$Automaton;I)V"⟩, prog_6_method_3_code, 5, none, { frames := 3, cells := 0, slots := 0, locals := 68 },
  [(0, .iconst 1, 1), (1, .iload_n 2, 2), (2, .ishl, 3), (3, .istore_n 3, 4), (4, .iload_n 3, 5), (5, .iconst 2, 6), (6, .iload_n 2, 7), (7, .ishl, 8), (8, .if_icmp .ge 52, 11), (11, .iload_n 3, 12), (12, .sipush 512, 15), (15, .if_icmp .ge 45, 18), (18, .aload_n 1, 19), (19, .aload_n 0, 20), (20, .getfield 11, 23), (23, .iload_n 3, 24), (24, .iconst 1, 25), (25, .ishr, 26), (26, .iaload, 27), (27, .iload_n 3, 28), (28, .iconst 1, 29), (29, .iand, 30), (30, .invokevirtual 28, 33), (33, .istore 4, 35), (35, .aload_n 0, 36), (36, .getfield 11, 39), (39, .iload_n 3, 40), (40, .iload 4, 42), (42, .iastore, 43), (43, .aload_n 0, 44), (44, .getfield 15, 47), (47, .iload_n 3, 48), (48, .iload 4, 50), (50, .invokestatic 32, 53), (53, .iastore, 54), (54, .iinc 3 1, 57), (57, .goto (-53), 60), (60, .return_, 61)])
set_option maxRecDepth 20000 in
theorem mk_T_addWords : Mk X_T_addWords := ⟨by unfold TBk; decide +kernel, by decide +kernel, wb_460, ⟨by decide, by decide⟩, rfl, rfl, wb_5⟩
theorem cv_T_28 : CV "OmegaDesk$WordTable" 28 X_A_longerPassage 2 0 := ⟨Or.inl wb_461, ⟨wb_324, wb_325⟩, by decide +kernel, F_A, 3, rfl⟩
theorem fg_T_15 : FG "OmegaDesk$WordTable" 15 7 1 := ⟨R_T, F_T, 2, rfl, by decide, uw_T, Or.inl wb_88⟩
theorem cs_T_32 : CS "OmegaDesk$WordTable" 32 X_P_takenRepeated 1 := ⟨Or.inl wb_462, wb_341, by decide +kernel⟩
def b_T_addWords_4 (c0 : Nat) (c1 : Nat) (c2 : Int32) (s : Int32 × Mm) : Option ((Int32 × Mm) ⊕ (Int32 × Mm)) :=
  if ((2 : Int32) <<< (c2 &&& 31)) ≤ s.1 then
    some (Sum.inr (s.1, s.2))
  else
    if (512 : Int32) ≤ s.1 then
      some (Sum.inr (s.1, s.2))
    else
      ck (inb (s.1 >>> ((1 : Int32) &&& 31)) (lenI (12 + 2 * c0))) <|
      bd (m_A_longerPassage c1 (s.2.1 (1, (12 + 2 * c0)) (s.1 >>> ((1 : Int32) &&& 31)).toNatClampNeg) (s.1 &&& (1 : Int32)) s.2) fun r1 =>
      ck (inb s.1 (lenI (12 + 2 * c0))) <|
      bd (some (uI s.2 (1, (12 + 2 * c0)) s.1.toNatClampNeg r1)) fun M2 =>
      bd (m_P_takenRepeated r1) fun r3 =>
      ck (inb s.1 (lenI (13 + 2 * c0))) <|
      bd (some (uI M2 (1, (13 + 2 * c0)) s.1.toNatClampNeg r3)) fun M4 =>
      some (Sum.inl ((s.1 + 1), M4))
def m_T_addWords (a0 : Nat) (a1 : Nat) (a2 : Int32) (M : Mm) : Option (Mm) :=
  bd (lp (b_T_addWords_4 a0 a1 a2) (((1 : Int32) <<< (a2 &&& 31)), M)) fun r5 =>
  some r5.2
set_option maxRecDepth 20000 in
theorem w_T_addWords_4 {l : Launch} {post : Option PV → Mm → Prop} (c0 : Nat) (c1 : Nat) (c2 : Int32) (h0 : c0 < 2) (h1 : c1 < 7) {r : Int32 × Mm} (kk : Go l X_T_addWords post 60 [(0, vr 7 c0), (1, vr 0 c1), (2, vi c2), (3, vi r.1)] [] r.2) : ∀ (n : Nat) (s : Int32 × Mm), lpN (b_T_addWords_4 c0 c1 c2) n s = some r → Go l X_T_addWords post 4 [(0, vr 7 c0), (1, vr 0 c1), (2, vi c2), (3, vi s.1)] [] s.2 := by
  intro n
  induction n with
  | zero => intro s hc; exact (lpN_0 hc).elim
  | succ n ih =>
    intro s hc
    obtain ⟨q, h, hc⟩ := lpN_inv hc
    unfold b_T_addWords_4 at h
    refine go_iload_n 4 rfl 3 rfl rfl ?_
    refine go_iconst 2 5 rfl (by decide) ?_
    refine go_iload_n 6 rfl 2 rfl rfl ?_
    refine go_ishl 7 rfl ?_
    refine go_icmp_ge 60 8 rfl (by decide) (fun c => ?_) (fun c => ?_)
    · replace h := ite_t c h
      cases h
      obtain rfl := lpq_r hc
      exact kk
    · replace h := ite_f c h
      refine go_iload_n 9 rfl 3 rfl rfl ?_
      refine go_sipush 512 10 rfl (by decide) ?_
      refine go_icmp_ge 60 11 rfl (by decide) (fun c => ?_) (fun c => ?_)
      · replace h := ite_t c h
        cases h
        obtain rfl := lpq_r hc
        exact kk
      · replace h := ite_f c h
        refine go_aload_n 12 rfl 1 rfl rfl ?_
        refine go_aload_n 13 rfl 0 rfl rfl ?_
        refine go_getfield 0 _ 14 rfl (by first | decide | exact ok0 (by omega) | exact ok1 (by omega) | exact ok2 (by omega) | exact ok7 (by omega)) rfl fg_T_11 rfl ?_
        refine go_iload_n 15 rfl 3 rfl rfl ?_
        refine go_iconst 1 16 rfl (by decide) ?_
        refine go_ishr 17 rfl ?_
        obtain ⟨c, h⟩ := ck_inv h
        refine go_iaload 18 rfl (by first | decide | exact ok0 (by omega) | exact ok1 (by omega) | exact ok2 (by omega) | exact ok7 (by omega)) (inb_vp c) ?_
        refine go_iload_n 19 rfl 3 rfl rfl ?_
        refine go_iconst 1 20 rfl (by decide) ?_
        refine go_iand 21 rfl ?_
        obtain ⟨r1, c, h⟩ := bd_inv h
        refine go_callV1 _ 22 rfl (e_A_longerPassage (by omega) c) mk_A_longerPassage (by first | decide | exact ok0 (by omega) | exact ok1 (by omega) | exact ok2 (by omega) | exact ok7 (by omega)) rfl cv_T_28 rfl ⟨(Nat.le_of_ble_eq_true rfl), (Nat.le_of_ble_eq_true rfl)⟩ (Nat.le_of_ble_eq_true rfl) rfl ?_
        refine go_istore 23 rfl (Nat.le_of_ble_eq_true rfl) [(0, _), (1, _), (2, _), (3, _), (4, _)] rfl ?_
        refine go_aload_n 24 rfl 0 rfl rfl ?_
        refine go_getfield 0 _ 25 rfl (by first | decide | exact ok0 (by omega) | exact ok1 (by omega) | exact ok2 (by omega) | exact ok7 (by omega)) rfl fg_T_11 rfl ?_
        refine go_iload_n 26 rfl 3 rfl rfl ?_
        refine go_iload 27 rfl 4 rfl ?_
        obtain ⟨c, h⟩ := ck_inv h
        refine go_iastore 28 rfl (by first | decide | exact ok0 (by omega) | exact ok1 (by omega) | exact ok2 (by omega) | exact ok7 (by omega)) (inb_vp c) ?_
        obtain ⟨_, c, h⟩ := bd_inv h
        cases c
        refine go_aload_n 29 rfl 0 rfl rfl ?_
        refine go_getfield 1 _ 30 rfl (by first | decide | exact ok0 (by omega) | exact ok1 (by omega) | exact ok2 (by omega) | exact ok7 (by omega)) rfl fg_T_15 rfl ?_
        refine go_iload_n 31 rfl 3 rfl rfl ?_
        refine go_iload 32 rfl 4 rfl ?_
        obtain ⟨r3, c, h⟩ := bd_inv h
        refine go_callS1 _ 33 rfl (e_P_takenRepeated c) mk_P_takenRepeated cs_T_32 rfl ⟨(Nat.le_of_ble_eq_true rfl), (Nat.le_of_ble_eq_true rfl)⟩ (Nat.le_of_ble_eq_true rfl) rfl ?_
        obtain ⟨c, h⟩ := ck_inv h
        refine go_iastore 34 rfl (by first | decide | exact ok0 (by omega) | exact ok1 (by omega) | exact ok2 (by omega) | exact ok7 (by omega)) (inb_vp c) ?_
        obtain ⟨_, c, h⟩ := bd_inv h
        cases c
        refine go_iinc 1 35 rfl 3 rfl (by decide) (Nat.le_of_ble_eq_true rfl) [(0, _), (1, _), (2, _), (3, _), (4, _)] rfl ?_
        refine go_goto 4 36 rfl (by decide) ?_
        cases h
        refine go_sub [0, 1, 2, 3] rfl ?_
        exact ih _ hc
set_option maxRecDepth 20000 in
theorem e_T_addWords {l : Launch} {a0 : Nat} {a1 : Nat} {a2 : Int32} {M : Mm} {r : Mm} (h0 : a0 < 2) (h1 : a1 < 7) (h : m_T_addWords a0 a1 a2 M = some r) : Ev l X_T_addWords [vr 7 a0, vr 0 a1, vi a2] M (fun v M2 => v = none ∧ M2 = r) := by
  refine Ev.of mk_T_addWords [(0, vr 7 a0), (1, vr 0 a1), (2, vi a2)] (fun _ => rfl) (fun _ => (Nat.le_of_ble_eq_true rfl)) ?_
  unfold m_T_addWords at h
  refine go_iconst 1 0 rfl (by decide) ?_
  refine go_iload_n 1 rfl 2 rfl rfl ?_
  refine go_ishl 2 rfl ?_
  refine go_istore_n 3 rfl rfl (Nat.le_of_ble_eq_true rfl) [(0, _), (1, _), (2, _), (3, _)] rfl ?_
  obtain ⟨r5, c, h⟩ := bd_inv h
  refine w_T_addWords_4 _ _ _ (by omega) (by omega) ?_ _ _ c
  cases h
  exact go_return 37 rfl rfl ⟨rfl, rfl⟩
def X_T_takesLasso : MX := (⟨"OmegaDesk$WordTable", "takesLasso", "(II)Z"⟩, prog_6_method_4_code, 3, some .boolean, { frames := 2, cells := 0, slots := 0, locals := 41 },
  [(0, .aload_n 0, 1), (1, .getfield 11, 4), (4, .iload_n 1, 5), (5, .iaload, 6), (6, .invokestatic 36, 9), (9, .aload_n 0, 10), (10, .getfield 15, 13), (13, .iload_n 2, 14), (14, .iaload, 15), (15, .iand, 16), (16, .ifCond .eq 7, 19), (19, .iconst 1, 20), (20, .goto 4, 23), (23, .iconst 0, 24), (24, .ireturn, 25)])
set_option maxRecDepth 20000 in
theorem mk_T_takesLasso : Mk X_T_takesLasso := ⟨by unfold TBk; decide +kernel, by decide +kernel, wb_470, ⟨by decide, by decide⟩, rfl, rfl, wb_5⟩
theorem cs_T_36 : CS "OmegaDesk$WordTable" 36 X_P_fromStart 1 := ⟨Or.inl wb_471, wb_338, by decide +kernel⟩
def m_T_takesLasso (a0 : Nat) (a1 : Int32) (a2 : Int32) (M : Mm) : Option (Bool) :=
  ck (inb a1 (lenI (12 + 2 * a0))) <|
  bd (m_P_fromStart (M.1 (1, (12 + 2 * a0)) a1.toNatClampNeg)) fun r1 =>
  ck (inb a2 (lenI (13 + 2 * a0))) <|
  if (r1 &&& (M.1 (1, (13 + 2 * a0)) a2.toNatClampNeg)) = 0 then
    some false
  else
    some true
set_option maxRecDepth 20000 in
theorem e_T_takesLasso {l : Launch} {a0 : Nat} {a1 : Int32} {a2 : Int32} {M : Mm} {r : Bool} (h0 : a0 < 2) (h : m_T_takesLasso a0 a1 a2 M = some r) : Ev l X_T_takesLasso [vr 7 a0, vi a1, vi a2] M (fun v M2 => v = (some (vi (bI r))) ∧ M2 = M) := by
  refine Ev.of mk_T_takesLasso [(0, vr 7 a0), (1, vi a1), (2, vi a2)] (fun _ => rfl) (fun _ => (Nat.le_of_ble_eq_true rfl)) ?_
  unfold m_T_takesLasso at h
  refine go_aload_n 0 rfl 0 rfl rfl ?_
  refine go_getfield 0 _ 1 rfl (by first | decide | exact ok0 (by omega) | exact ok1 (by omega) | exact ok2 (by omega) | exact ok7 (by omega)) rfl fg_T_11 rfl ?_
  refine go_iload_n 2 rfl 1 rfl rfl ?_
  obtain ⟨c, h⟩ := ck_inv h
  refine go_iaload 3 rfl (by first | decide | exact ok0 (by omega) | exact ok1 (by omega) | exact ok2 (by omega) | exact ok7 (by omega)) (inb_vp c) ?_
  obtain ⟨r1, c, h⟩ := bd_inv h
  refine go_callS1 _ 4 rfl (e_P_fromStart c) mk_P_fromStart cs_T_36 rfl ⟨(Nat.le_of_ble_eq_true rfl), (Nat.le_of_ble_eq_true rfl)⟩ (Nat.le_of_ble_eq_true rfl) rfl ?_
  refine go_aload_n 5 rfl 0 rfl rfl ?_
  refine go_getfield 1 _ 6 rfl (by first | decide | exact ok0 (by omega) | exact ok1 (by omega) | exact ok2 (by omega) | exact ok7 (by omega)) rfl fg_T_15 rfl ?_
  refine go_iload_n 7 rfl 2 rfl rfl ?_
  obtain ⟨c, h⟩ := ck_inv h
  refine go_iaload 8 rfl (by first | decide | exact ok0 (by omega) | exact ok1 (by omega) | exact ok2 (by omega) | exact ok7 (by omega)) (inb_vp c) ?_
  refine go_iand 9 rfl ?_
  refine go_if_eq 23 10 rfl (by decide) (fun c => ?_) (fun c => ?_)
  · replace h := ite_t c h
    refine go_iconst 0 13 rfl (by decide) ?_
    cases h
    exact go_ireturn 14 rfl rfl rfl ⟨rfl, rfl⟩
  · replace h := ite_f c h
    refine go_iconst 1 11 rfl (by decide) ?_
    refine go_goto 24 12 rfl (by decide) ?_
    cases h
    exact go_ireturn 14 rfl rfl rfl ⟨rfl, rfl⟩
end
section
def X_F_forget : MX := (⟨"OmegaDesk$LassoFinder", "forget", "()V"⟩, prog_3_method_2_code, 1, none, { frames := 0, cells := 0, slots := 0, locals := 0 },
  [(0, .aload_n 0, 1), (1, .iconst 0, 2), (2, .putfield 21, 5), (5, .return_, 6)])
set_option maxRecDepth 20000 in
theorem mk_F_forget : Mk X_F_forget := ⟨by unfold TBk; decide +kernel, by decide +kernel, wb_447, ⟨by decide, by decide⟩, rfl, rfl, wb_4⟩
theorem fp_F_21 : FP "OmegaDesk$LassoFinder" 21 6 2 .boolean := ⟨R_F, F_F, 7, tf_F, rfl, by decide, uw_F, Or.inl wb_96, tf_F_ok, nf_F, rfl, by decide +kernel⟩
def m_F_forget  (M : Mm) : Option (Mm) :=
  bd (some (uI M (6, 0) 2 (0 : Int32))) fun M1 =>
  some M1
set_option maxRecDepth 20000 in
theorem e_F_forget {l : Launch}  {M : Mm} {r : Mm}  (h : m_F_forget  M = some r) : Ev l X_F_forget [vr 6 0] M (fun v M2 => v = none ∧ M2 = r) := by
  refine Ev.of mk_F_forget [(0, vr 6 0)] (fun _ => rfl) (fun _ => (Nat.le_of_ble_eq_true rfl)) ?_
  unfold m_F_forget at h
  refine go_aload_n 0 rfl 0 rfl rfl ?_
  refine go_iconst 0 1 rfl (by decide) ?_
  refine go_putfield 2 .boolean 2 rfl (by first | decide | exact ok0 (by omega) | exact ok1 (by omega) | exact ok2 (by omega) | exact ok7 (by omega)) rfl fp_F_21 rfl rfl (Nat.le_of_ble_eq_true rfl) rfl ?_
  obtain ⟨_, c, h⟩ := bd_inv h
  cases c
  cases h
  exact go_return 3 rfl rfl ⟨rfl, rfl⟩
def X_F_searchSplit : MX := (⟨"OmegaDesk$LassoFinder", "searchSplit", "(II)V"⟩, prog_3_method_4_code, 7, none, { frames := 3, cells := 0, slots := 0, locals := 63 },
  [(0, .iconst 1, 1), (1, .iload_n 2, 2), (2, .ishl, 3), (3, .iconst 1, 4), (4, .isub, 5), (5, .istore_n 3, 6), (6, .iconst 0, 7), (7, .istore 4, 9), (9, .iload 4, 11), (11, .iconst 1, 12), (12, .iload_n 1, 13), (13, .iload_n 2, 14), (14, .iadd, 15), (15, .ishl, 16), (16, .if_icmp .ge 89, 19), (19, .iconst 1, 20), (20, .iload_n 1, 21), (21, .ishl, 22), (22, .iload 4, 24), (24, .iload_n 2, 25), (25, .ishr, 26), (26, .ior, 27), (27, .istore 5, 29), (29, .iconst 1, 30), (30, .iload_n 2, 31), (31, .ishl, 32), (32, .iload 4, 34), (34, .iload_n 3, 35), (35, .iand, 36), (36, .ior, 37), (37, .istore 6, 39), (39, .aload_n 0, 40), (40, .getfield 12, 43), (43, .iload 5, 45), (45, .iload 6, 47), (47, .invokevirtual 50, 50), (50, .ifCond .eq 49, 53), (53, .aload_n 0, 54), (54, .getfield 18, 57), (57, .iload 5, 59), (59, .iload 6, 61), (61, .invokevirtual 50, 64), (64, .ifCond .ne 35, 67), (67, .aload_n 0, 68), (68, .iconst 1, 69), (69, .putfield 21, 72), (72, .aload_n 0, 73), (73, .iload_n 1, 74), (74, .putfield 25, 77), (77, .aload_n 0, 78), (78, .iload 4, 80), (80, .iload_n 2, 81), (81, .ishr, 82), (82, .putfield 29, 85), (85, .aload_n 0, 86), (86, .iload_n 2, 87), (87, .putfield 32, 90), (90, .aload_n 0, 91), (91, .iload 4, 93), (93, .iload_n 3, 94), (94, .iand, 95), (95, .putfield 35, 98), (98, .return_, 99), (99, .iinc 4 1, 102), (102, .goto (-93), 105), (105, .return_, 106)])
set_option maxRecDepth 20000 in
theorem mk_F_searchSplit : Mk X_F_searchSplit := ⟨by unfold TBk; decide +kernel, by decide +kernel, wb_466, ⟨by decide, by decide⟩, rfl, rfl, wb_4⟩
theorem fg_F_12 : FG "OmegaDesk$LassoFinder" 12 6 0 := ⟨R_F, F_F, 7, rfl, by decide, uw_F, Or.inl wb_94⟩
theorem cv_F_50 : CV "OmegaDesk$LassoFinder" 50 X_T_takesLasso 2 7 := ⟨Or.inl wb_467, ⟨wb_468, wb_469⟩, by decide +kernel, F_T, 2, rfl⟩
theorem fg_F_18 : FG "OmegaDesk$LassoFinder" 18 6 1 := ⟨R_F, F_F, 7, rfl, by decide, uw_F, Or.inl wb_95⟩
theorem fp_F_25 : FP "OmegaDesk$LassoFinder" 25 6 3 .int := ⟨R_F, F_F, 7, tf_F, rfl, by decide, uw_F, Or.inl wb_98, tf_F_ok, nf_F, rfl, by decide +kernel⟩
theorem fp_F_29 : FP "OmegaDesk$LassoFinder" 29 6 4 .int := ⟨R_F, F_F, 7, tf_F, rfl, by decide, uw_F, Or.inl wb_100, tf_F_ok, nf_F, rfl, by decide +kernel⟩
theorem fp_F_32 : FP "OmegaDesk$LassoFinder" 32 6 5 .int := ⟨R_F, F_F, 7, tf_F, rfl, by decide, uw_F, Or.inl wb_102, tf_F_ok, nf_F, rfl, by decide +kernel⟩
theorem fp_F_35 : FP "OmegaDesk$LassoFinder" 35 6 6 .int := ⟨R_F, F_F, 7, tf_F, rfl, by decide, uw_F, Or.inl wb_104, tf_F_ok, nf_F, rfl, by decide +kernel⟩
def b_F_searchSplit_9 (c1 : Int32) (c2 : Int32) (c3 : Int32) (s : Int32 × Mm) : Option ((Int32 × Mm) ⊕ ((Int32 × Mm) ⊕ (Mm))) :=
  if ((1 : Int32) <<< ((c1 + c2) &&& 31)) ≤ s.1 then
    some (Sum.inr (Sum.inl (s.1, s.2)))
  else
    bd (some (((1 : Int32) <<< (c1 &&& 31)) ||| (s.1 >>> (c2 &&& 31)))) fun x2 =>
    bd (some (((1 : Int32) <<< (c2 &&& 31)) ||| (s.1 &&& c3))) fun x3 =>
    bd (m_T_takesLasso 0 x2 x3 s.2) fun r4 =>
    if (bI r4) = 0 then
      some (Sum.inl ((s.1 + 1), s.2))
    else
      bd (m_T_takesLasso 1 x2 x3 s.2) fun r5 =>
      if (bI r5) = 0 then
        bd (some (uI s.2 (6, 0) 2 (1 : Int32))) fun M6 =>
        bd (some (uI M6 (6, 0) 3 c1)) fun M7 =>
        bd (some (uI M7 (6, 0) 4 (s.1 >>> (c2 &&& 31)))) fun M8 =>
        bd (some (uI M8 (6, 0) 5 c2)) fun M9 =>
        bd (some (uI M9 (6, 0) 6 (s.1 &&& c3))) fun M10 =>
        some (Sum.inr (Sum.inr M10))
      else
        some (Sum.inl ((s.1 + 1), s.2))
def m_F_searchSplit (a1 : Int32) (a2 : Int32) (M : Mm) : Option (Mm) :=
  bd (some (((1 : Int32) <<< (a2 &&& 31)) - (1 : Int32))) fun x1 =>
  bd (lp (b_F_searchSplit_9 a1 a2 x1) ((0 : Int32), M)) fun r11 =>
  smr r11 (fun v13 => some v13) fun s12 =>
  some s12.2
set_option maxRecDepth 20000 in
theorem w_F_searchSplit_9 {l : Launch} {post : Option PV → Mm → Prop} (c1 : Int32) (c2 : Int32) (c3 : Int32)  {r : (Int32 × Mm) ⊕ (Mm)} (kk : ∀ s2, r = Sum.inl s2 → Go l X_F_searchSplit post 105 [(0, vr 6 0), (1, vi c1), (2, vi c2), (3, vi c3), (4, vi s2.1)] [] s2.2) (kr : ∀ v, r = Sum.inr v → post none v) : ∀ (n : Nat) (s : Int32 × Mm), lpN (b_F_searchSplit_9 c1 c2 c3) n s = some r → Go l X_F_searchSplit post 9 [(0, vr 6 0), (1, vi c1), (2, vi c2), (3, vi c3), (4, vi s.1)] [] s.2 := by
  intro n
  induction n with
  | zero => intro s hc; exact (lpN_0 hc).elim
  | succ n ih =>
    intro s hc
    obtain ⟨q, h, hc⟩ := lpN_inv hc
    unfold b_F_searchSplit_9 at h
    refine go_iload 8 rfl 4 rfl ?_
    refine go_iconst 1 9 rfl (by decide) ?_
    refine go_iload_n 10 rfl 1 rfl rfl ?_
    refine go_iload_n 11 rfl 2 rfl rfl ?_
    refine go_iadd 12 rfl ?_
    refine go_ishl 13 rfl ?_
    refine go_icmp_ge 105 14 rfl (by decide) (fun c => ?_) (fun c => ?_)
    · replace h := ite_t c h
      cases h
      obtain rfl := lpq_r hc
      exact kk _ rfl
    · replace h := ite_f c h
      refine go_iconst 1 15 rfl (by decide) ?_
      refine go_iload_n 16 rfl 1 rfl rfl ?_
      refine go_ishl 17 rfl ?_
      refine go_iload 18 rfl 4 rfl ?_
      refine go_iload_n 19 rfl 2 rfl rfl ?_
      refine go_ishr 20 rfl ?_
      refine go_ior 21 rfl ?_
      obtain ⟨_, c, h⟩ := bd_inv h
      cases c
      refine go_istore 22 rfl (Nat.le_of_ble_eq_true rfl) [(0, _), (1, _), (2, _), (3, _), (4, _), (5, _)] rfl ?_
      refine go_iconst 1 23 rfl (by decide) ?_
      refine go_iload_n 24 rfl 2 rfl rfl ?_
      refine go_ishl 25 rfl ?_
      refine go_iload 26 rfl 4 rfl ?_
      refine go_iload_n 27 rfl 3 rfl rfl ?_
      refine go_iand 28 rfl ?_
      refine go_ior 29 rfl ?_
      obtain ⟨_, c, h⟩ := bd_inv h
      cases c
      refine go_istore 30 rfl (Nat.le_of_ble_eq_true rfl) [(0, _), (1, _), (2, _), (3, _), (4, _), (5, _), (6, _)] rfl ?_
      refine go_aload_n 31 rfl 0 rfl rfl ?_
      refine go_getfield 0 _ 32 rfl (by first | decide | exact ok0 (by omega) | exact ok1 (by omega) | exact ok2 (by omega) | exact ok7 (by omega)) rfl fg_F_12 rfl ?_
      refine go_iload 33 rfl 5 rfl ?_
      refine go_iload 34 rfl 6 rfl ?_
      obtain ⟨r4, c, h⟩ := bd_inv h
      refine go_callV1 _ 35 rfl (e_T_takesLasso (by omega) c) mk_T_takesLasso (by first | decide | exact ok0 (by omega) | exact ok1 (by omega) | exact ok2 (by omega) | exact ok7 (by omega)) rfl cv_F_50 rfl ⟨(Nat.le_of_ble_eq_true rfl), (Nat.le_of_ble_eq_true rfl)⟩ (Nat.le_of_ble_eq_true rfl) rfl ?_
      refine go_if_eq 99 36 rfl (by decide) (fun c => ?_) (fun c => ?_)
      · replace h := ite_t c h
        refine go_iinc 1 63 rfl 4 rfl (by decide) (Nat.le_of_ble_eq_true rfl) [(0, _), (1, _), (2, _), (3, _), (4, _), (5, _), (6, _)] rfl ?_
        refine go_goto 9 64 rfl (by decide) ?_
        cases h
        refine go_sub [0, 1, 2, 3, 4] rfl ?_
        exact ih _ hc
      · replace h := ite_f c h
        refine go_aload_n 37 rfl 0 rfl rfl ?_
        refine go_getfield 1 _ 38 rfl (by first | decide | exact ok0 (by omega) | exact ok1 (by omega) | exact ok2 (by omega) | exact ok7 (by omega)) rfl fg_F_18 rfl ?_
        refine go_iload 39 rfl 5 rfl ?_
        refine go_iload 40 rfl 6 rfl ?_
        obtain ⟨r5, c, h⟩ := bd_inv h
        refine go_callV1 _ 41 rfl (e_T_takesLasso (by omega) c) mk_T_takesLasso (by first | decide | exact ok0 (by omega) | exact ok1 (by omega) | exact ok2 (by omega) | exact ok7 (by omega)) rfl cv_F_50 rfl ⟨(Nat.le_of_ble_eq_true rfl), (Nat.le_of_ble_eq_true rfl)⟩ (Nat.le_of_ble_eq_true rfl) rfl ?_
        refine go_if_ne 99 42 rfl (by decide) (fun c => ?_) (fun c => ?_)
        · replace h := ite_f c h
          refine go_iinc 1 63 rfl 4 rfl (by decide) (Nat.le_of_ble_eq_true rfl) [(0, _), (1, _), (2, _), (3, _), (4, _), (5, _), (6, _)] rfl ?_
          refine go_goto 9 64 rfl (by decide) ?_
          cases h
          refine go_sub [0, 1, 2, 3, 4] rfl ?_
          exact ih _ hc
        · replace h := ite_t c h
          refine go_aload_n 43 rfl 0 rfl rfl ?_
          refine go_iconst 1 44 rfl (by decide) ?_
          refine go_putfield 2 .boolean 45 rfl (by first | decide | exact ok0 (by omega) | exact ok1 (by omega) | exact ok2 (by omega) | exact ok7 (by omega)) rfl fp_F_21 rfl rfl (Nat.le_of_ble_eq_true rfl) rfl ?_
          obtain ⟨_, c, h⟩ := bd_inv h
          cases c
          refine go_aload_n 46 rfl 0 rfl rfl ?_
          refine go_iload_n 47 rfl 1 rfl rfl ?_
          refine go_putfield 3 .int 48 rfl (by first | decide | exact ok0 (by omega) | exact ok1 (by omega) | exact ok2 (by omega) | exact ok7 (by omega)) rfl fp_F_25 rfl rfl (Nat.le_of_ble_eq_true rfl) rfl ?_
          obtain ⟨_, c, h⟩ := bd_inv h
          cases c
          refine go_aload_n 49 rfl 0 rfl rfl ?_
          refine go_iload 50 rfl 4 rfl ?_
          refine go_iload_n 51 rfl 2 rfl rfl ?_
          refine go_ishr 52 rfl ?_
          refine go_putfield 4 .int 53 rfl (by first | decide | exact ok0 (by omega) | exact ok1 (by omega) | exact ok2 (by omega) | exact ok7 (by omega)) rfl fp_F_29 rfl rfl (Nat.le_of_ble_eq_true rfl) rfl ?_
          obtain ⟨_, c, h⟩ := bd_inv h
          cases c
          refine go_aload_n 54 rfl 0 rfl rfl ?_
          refine go_iload_n 55 rfl 2 rfl rfl ?_
          refine go_putfield 5 .int 56 rfl (by first | decide | exact ok0 (by omega) | exact ok1 (by omega) | exact ok2 (by omega) | exact ok7 (by omega)) rfl fp_F_32 rfl rfl (Nat.le_of_ble_eq_true rfl) rfl ?_
          obtain ⟨_, c, h⟩ := bd_inv h
          cases c
          refine go_aload_n 57 rfl 0 rfl rfl ?_
          refine go_iload 58 rfl 4 rfl ?_
          refine go_iload_n 59 rfl 3 rfl rfl ?_
          refine go_iand 60 rfl ?_
          refine go_putfield 6 .int 61 rfl (by first | decide | exact ok0 (by omega) | exact ok1 (by omega) | exact ok2 (by omega) | exact ok7 (by omega)) rfl fp_F_35 rfl rfl (Nat.le_of_ble_eq_true rfl) rfl ?_
          obtain ⟨_, c, h⟩ := bd_inv h
          cases c
          cases h
          obtain rfl := lpq_r hc
          exact go_return 62 rfl rfl (kr _ rfl)
set_option maxRecDepth 20000 in
theorem e_F_searchSplit {l : Launch} {a1 : Int32} {a2 : Int32} {M : Mm} {r : Mm}  (h : m_F_searchSplit a1 a2 M = some r) : Ev l X_F_searchSplit [vr 6 0, vi a1, vi a2] M (fun v M2 => v = none ∧ M2 = r) := by
  refine Ev.of mk_F_searchSplit [(0, vr 6 0), (1, vi a1), (2, vi a2)] (fun _ => rfl) (fun _ => (Nat.le_of_ble_eq_true rfl)) ?_
  unfold m_F_searchSplit at h
  refine go_iconst 1 0 rfl (by decide) ?_
  refine go_iload_n 1 rfl 2 rfl rfl ?_
  refine go_ishl 2 rfl ?_
  refine go_iconst 1 3 rfl (by decide) ?_
  refine go_isub 4 rfl ?_
  obtain ⟨_, c, h⟩ := bd_inv h
  cases c
  refine go_istore_n 5 rfl rfl (Nat.le_of_ble_eq_true rfl) [(0, _), (1, _), (2, _), (3, _)] rfl ?_
  refine go_iconst 0 6 rfl (by decide) ?_
  refine go_istore 7 rfl (Nat.le_of_ble_eq_true rfl) [(0, _), (1, _), (2, _), (3, _), (4, _)] rfl ?_
  obtain ⟨r11, c, h⟩ := bd_inv h
  refine w_F_searchSplit_9 _ _ _ (fun s2 e => ?_) (fun v e => ?_) _ _ c
  · subst e
    replace h := smr_l h
    cases h
    exact go_return 65 rfl rfl ⟨rfl, rfl⟩
  · subst e
    replace h := smr_r h
    cases h
    exact ⟨rfl, rfl⟩
def X_F_search : MX := (⟨"OmegaDesk$LassoFinder", "search", "(LOmegaDesk$Automaton;LOmegaDesk$Automaton;)V"⟩, prog_3_method_3_code, 5, none, { frames := 4, cells := 0, slots := 0, locals := 92 },
  [(0, .aload_n 0, 1), (1, .iconst 0, 2), (2, .putfield 21, 5), (5, .aload_n 0, 6), (6, .getfield 12, 9), (9, .aload_n 1, 10), (10, .invokevirtual 38, 13), (13, .aload_n 0, 14), (14, .getfield 18, 17), (17, .aload_n 2, 18), (18, .invokevirtual 38, 21), (21, .iconst 1, 22), (22, .istore_n 3, 23), (23, .iload_n 3, 24), (24, .bipush 8, 26), (26, .if_icmp .gt 66, 29), (29, .aload_n 0, 30), (30, .getfield 21, 33), (33, .ifCond .ne 59, 36), (36, .aload_n 0, 37), (37, .getfield 12, 40), (40, .aload_n 1, 41), (41, .iload_n 3, 42), (42, .invokevirtual 42, 45), (45, .aload_n 0, 46), (46, .getfield 18, 49), (49, .aload_n 2, 50), (50, .iload_n 3, 51), (51, .invokevirtual 42, 54), (54, .iconst 0, 55), (55, .istore 4, 57), (57, .iload 4, 59), (59, .iload_n 3, 60), (60, .if_icmp .ge 26, 63), (63, .aload_n 0, 64), (64, .getfield 21, 67), (67, .ifCond .ne 19, 70), (70, .aload_n 0, 71), (71, .iload 4, 73), (73, .iload_n 3, 74), (74, .iload 4, 76), (76, .isub, 77), (77, .invokevirtual 46, 80), (80, .iinc 4 1, 83), (83, .goto (-26), 86), (86, .iinc 3 1, 89), (89, .goto (-66), 92), (92, .return_, 93)])
set_option maxRecDepth 20000 in
theorem mk_F_search : Mk X_F_search := ⟨by unfold TBk; decide +kernel, by decide +kernel, wb_451, ⟨by decide, by decide⟩, rfl, rfl, wb_4⟩
theorem cv_F_38 : CV "OmegaDesk$LassoFinder" 38 X_T_begin 1 7 := ⟨Or.inl wb_452, ⟨wb_453, wb_454⟩, by decide +kernel, F_T, 2, rfl⟩
theorem fg_F_21 : FG "OmegaDesk$LassoFinder" 21 6 2 := ⟨R_F, F_F, 7, rfl, by decide, uw_F, Or.inl wb_96⟩
theorem cv_F_42 : CV "OmegaDesk$LassoFinder" 42 X_T_addWords 2 7 := ⟨Or.inl wb_457, ⟨wb_458, wb_459⟩, by decide +kernel, F_T, 2, rfl⟩
theorem cv_F_46 : CV "OmegaDesk$LassoFinder" 46 X_F_searchSplit 2 6 := ⟨Or.inl wb_463, ⟨wb_465, ws_F_searchSplit⟩, by decide +kernel, F_F, 7, rfl⟩
def b_F_search_57 (c3 : Int32) (s : Int32 × Mm) : Option ((Int32 × Mm) ⊕ (Int32 × Mm)) :=
  if c3 ≤ s.1 then
    some (Sum.inr (s.1, s.2))
  else
    if (s.2.1 (6, 0) 2) = 0 then
      bd (m_F_searchSplit s.1 (c3 - s.1) s.2) fun r6 =>
      some (Sum.inl ((s.1 + 1), r6))
    else
      some (Sum.inr (s.1, s.2))
def b_F_search_23 (c1 : Nat) (c2 : Nat) (s : Int32 × Mm) : Option ((Int32 × Mm) ⊕ (Int32 × Mm)) :=
  if (8 : Int32) < s.1 then
    some (Sum.inr (s.1, s.2))
  else
    if (s.2.1 (6, 0) 2) = 0 then
      bd (m_T_addWords 0 c1 s.1 s.2) fun r4 =>
      bd (m_T_addWords 1 c2 s.1 r4) fun r5 =>
      bd (lp (b_F_search_57 s.1) ((0 : Int32), r5)) fun r7 =>
      some (Sum.inl ((s.1 + 1), r7.2))
    else
      some (Sum.inr (s.1, s.2))
def m_F_search (a1 : Nat) (a2 : Nat) (M : Mm) : Option (Mm) :=
  bd (some (uI M (6, 0) 2 (0 : Int32))) fun M1 =>
  bd (m_T_begin 0 a1 M1) fun r2 =>
  bd (m_T_begin 1 a2 r2) fun r3 =>
  bd (lp (b_F_search_23 a1 a2) ((1 : Int32), r3)) fun r8 =>
  some r8.2
set_option maxRecDepth 20000 in
theorem w_F_search_57 {l : Launch} {post : Option PV → Mm → Prop} (c1 : Nat) (c2 : Nat) (c3 : Int32) (h1 : c1 < 7) (h2 : c2 < 7) {r : Int32 × Mm} (kk : Go l X_F_search post 86 [(0, vr 6 0), (1, vr 0 c1), (2, vr 0 c2), (3, vi c3), (4, vi r.1)] [] r.2) : ∀ (n : Nat) (s : Int32 × Mm), lpN (b_F_search_57 c3) n s = some r → Go l X_F_search post 57 [(0, vr 6 0), (1, vr 0 c1), (2, vr 0 c2), (3, vi c3), (4, vi s.1)] [] s.2 := by
  intro n
  induction n with
  | zero => intro s hc; exact (lpN_0 hc).elim
  | succ n ih =>
    intro s hc
    obtain ⟨q, h, hc⟩ := lpN_inv hc
    unfold b_F_search_57 at h
    refine go_iload 31 rfl 4 rfl ?_
    refine go_iload_n 32 rfl 3 rfl rfl ?_
    refine go_icmp_ge 86 33 rfl (by decide) (fun c => ?_) (fun c => ?_)
    · replace h := ite_t c h
      cases h
      obtain rfl := lpq_r hc
      exact kk
    · replace h := ite_f c h
      refine go_aload_n 34 rfl 0 rfl rfl ?_
      refine go_getfield 2 _ 35 rfl (by first | decide | exact ok0 (by omega) | exact ok1 (by omega) | exact ok2 (by omega) | exact ok7 (by omega)) rfl fg_F_21 rfl ?_
      refine go_if_ne 86 36 rfl (by decide) (fun c => ?_) (fun c => ?_)
      · replace h := ite_f c h
        cases h
        obtain rfl := lpq_r hc
        exact kk
      · replace h := ite_t c h
        refine go_aload_n 37 rfl 0 rfl rfl ?_
        refine go_iload 38 rfl 4 rfl ?_
        refine go_iload_n 39 rfl 3 rfl rfl ?_
        refine go_iload 40 rfl 4 rfl ?_
        refine go_isub 41 rfl ?_
        obtain ⟨r6, c, h⟩ := bd_inv h
        refine go_callV1 _ 42 rfl (e_F_searchSplit c) mk_F_searchSplit (by first | decide | exact ok0 (by omega) | exact ok1 (by omega) | exact ok2 (by omega) | exact ok7 (by omega)) rfl cv_F_46 rfl ⟨(Nat.le_of_ble_eq_true rfl), (Nat.le_of_ble_eq_true rfl)⟩ (Nat.le_of_ble_eq_true rfl) rfl ?_
        refine go_iinc 1 43 rfl 4 rfl (by decide) (Nat.le_of_ble_eq_true rfl) [(0, _), (1, _), (2, _), (3, _), (4, _)] rfl ?_
        refine go_goto 57 44 rfl (by decide) ?_
        cases h
        exact ih _ hc
set_option maxRecDepth 20000 in
theorem w_F_search_23 {l : Launch} {post : Option PV → Mm → Prop} (c1 : Nat) (c2 : Nat) (h1 : c1 < 7) (h2 : c2 < 7) {r : Int32 × Mm} (kk : Go l X_F_search post 92 [(0, vr 6 0), (1, vr 0 c1), (2, vr 0 c2), (3, vi r.1)] [] r.2) : ∀ (n : Nat) (s : Int32 × Mm), lpN (b_F_search_23 c1 c2) n s = some r → Go l X_F_search post 23 [(0, vr 6 0), (1, vr 0 c1), (2, vr 0 c2), (3, vi s.1)] [] s.2 := by
  intro n
  induction n with
  | zero => intro s hc; exact (lpN_0 hc).elim
  | succ n ih =>
    intro s hc
    obtain ⟨q, h, hc⟩ := lpN_inv hc
    unfold b_F_search_23 at h
    refine go_iload_n 13 rfl 3 rfl rfl ?_
    refine go_bipush 8 14 rfl (by decide) ?_
    refine go_icmp_gt 92 15 rfl (by decide) (fun c => ?_) (fun c => ?_)
    · replace h := ite_t c h
      cases h
      obtain rfl := lpq_r hc
      exact kk
    · replace h := ite_f c h
      refine go_aload_n 16 rfl 0 rfl rfl ?_
      refine go_getfield 2 _ 17 rfl (by first | decide | exact ok0 (by omega) | exact ok1 (by omega) | exact ok2 (by omega) | exact ok7 (by omega)) rfl fg_F_21 rfl ?_
      refine go_if_ne 92 18 rfl (by decide) (fun c => ?_) (fun c => ?_)
      · replace h := ite_f c h
        cases h
        obtain rfl := lpq_r hc
        exact kk
      · replace h := ite_t c h
        refine go_aload_n 19 rfl 0 rfl rfl ?_
        refine go_getfield 0 _ 20 rfl (by first | decide | exact ok0 (by omega) | exact ok1 (by omega) | exact ok2 (by omega) | exact ok7 (by omega)) rfl fg_F_12 rfl ?_
        refine go_aload_n 21 rfl 1 rfl rfl ?_
        refine go_iload_n 22 rfl 3 rfl rfl ?_
        obtain ⟨r4, c, h⟩ := bd_inv h
        refine go_callV1 _ 23 rfl (e_T_addWords (by omega) (by omega) c) mk_T_addWords (by first | decide | exact ok0 (by omega) | exact ok1 (by omega) | exact ok2 (by omega) | exact ok7 (by omega)) rfl cv_F_42 rfl ⟨(Nat.le_of_ble_eq_true rfl), (Nat.le_of_ble_eq_true rfl)⟩ (Nat.le_of_ble_eq_true rfl) rfl ?_
        refine go_aload_n 24 rfl 0 rfl rfl ?_
        refine go_getfield 1 _ 25 rfl (by first | decide | exact ok0 (by omega) | exact ok1 (by omega) | exact ok2 (by omega) | exact ok7 (by omega)) rfl fg_F_18 rfl ?_
        refine go_aload_n 26 rfl 2 rfl rfl ?_
        refine go_iload_n 27 rfl 3 rfl rfl ?_
        obtain ⟨r5, c, h⟩ := bd_inv h
        refine go_callV1 _ 28 rfl (e_T_addWords (by omega) (by omega) c) mk_T_addWords (by first | decide | exact ok0 (by omega) | exact ok1 (by omega) | exact ok2 (by omega) | exact ok7 (by omega)) rfl cv_F_42 rfl ⟨(Nat.le_of_ble_eq_true rfl), (Nat.le_of_ble_eq_true rfl)⟩ (Nat.le_of_ble_eq_true rfl) rfl ?_
        refine go_iconst 0 29 rfl (by decide) ?_
        refine go_istore 30 rfl (Nat.le_of_ble_eq_true rfl) [(0, _), (1, _), (2, _), (3, _), (4, _)] rfl ?_
        obtain ⟨r7, c, h⟩ := bd_inv h
        refine w_F_search_57 _ _ _ (by omega) (by omega) ?_ _ _ c
        refine go_iinc 1 45 rfl 3 rfl (by decide) (Nat.le_of_ble_eq_true rfl) [(0, _), (1, _), (2, _), (3, _), (4, _)] rfl ?_
        refine go_goto 23 46 rfl (by decide) ?_
        cases h
        refine go_sub [0, 1, 2, 3] rfl ?_
        exact ih _ hc
set_option maxRecDepth 20000 in
theorem e_F_search {l : Launch} {a1 : Nat} {a2 : Nat} {M : Mm} {r : Mm} (h1 : a1 < 7) (h2 : a2 < 7) (h : m_F_search a1 a2 M = some r) : Ev l X_F_search [vr 6 0, vr 0 a1, vr 0 a2] M (fun v M2 => v = none ∧ M2 = r) := by
  refine Ev.of mk_F_search [(0, vr 6 0), (1, vr 0 a1), (2, vr 0 a2)] (fun _ => rfl) (fun _ => (Nat.le_of_ble_eq_true rfl)) ?_
  unfold m_F_search at h
  refine go_aload_n 0 rfl 0 rfl rfl ?_
  refine go_iconst 0 1 rfl (by decide) ?_
  refine go_putfield 2 .boolean 2 rfl (by first | decide | exact ok0 (by omega) | exact ok1 (by omega) | exact ok2 (by omega) | exact ok7 (by omega)) rfl fp_F_21 rfl rfl (Nat.le_of_ble_eq_true rfl) rfl ?_
  obtain ⟨_, c, h⟩ := bd_inv h
  cases c
  refine go_aload_n 3 rfl 0 rfl rfl ?_
  refine go_getfield 0 _ 4 rfl (by first | decide | exact ok0 (by omega) | exact ok1 (by omega) | exact ok2 (by omega) | exact ok7 (by omega)) rfl fg_F_12 rfl ?_
  refine go_aload_n 5 rfl 1 rfl rfl ?_
  obtain ⟨r2, c, h⟩ := bd_inv h
  refine go_callV1 _ 6 rfl (e_T_begin (by omega) (by omega) c) mk_T_begin (by first | decide | exact ok0 (by omega) | exact ok1 (by omega) | exact ok2 (by omega) | exact ok7 (by omega)) rfl cv_F_38 rfl ⟨(Nat.le_of_ble_eq_true rfl), (Nat.le_of_ble_eq_true rfl)⟩ (Nat.le_of_ble_eq_true rfl) rfl ?_
  refine go_aload_n 7 rfl 0 rfl rfl ?_
  refine go_getfield 1 _ 8 rfl (by first | decide | exact ok0 (by omega) | exact ok1 (by omega) | exact ok2 (by omega) | exact ok7 (by omega)) rfl fg_F_18 rfl ?_
  refine go_aload_n 9 rfl 2 rfl rfl ?_
  obtain ⟨r3, c, h⟩ := bd_inv h
  refine go_callV1 _ 10 rfl (e_T_begin (by omega) (by omega) c) mk_T_begin (by first | decide | exact ok0 (by omega) | exact ok1 (by omega) | exact ok2 (by omega) | exact ok7 (by omega)) rfl cv_F_38 rfl ⟨(Nat.le_of_ble_eq_true rfl), (Nat.le_of_ble_eq_true rfl)⟩ (Nat.le_of_ble_eq_true rfl) rfl ?_
  refine go_iconst 1 11 rfl (by decide) ?_
  refine go_istore_n 12 rfl rfl (Nat.le_of_ble_eq_true rfl) [(0, _), (1, _), (2, _), (3, _)] rfl ?_
  obtain ⟨r8, c, h⟩ := bd_inv h
  refine w_F_search_23 _ _ (by omega) (by omega) ?_ _ _ c
  cases h
  exact go_return 47 rfl rfl ⟨rfl, rfl⟩
end
section
def X_R_reset : MX := (⟨"OmegaDesk$Refuter", "reset", "()V"⟩, prog_5_method_3_code, 1, none, { frames := 1, cells := 0, slots := 0, locals := 23 },
  [(0, .aload_n 0, 1), (1, .getfield 11, 4), (4, .iconst 0, 5), (5, .invokestatic 69, 8), (8, .aload_n 0, 9), (9, .getfield 15, 12), (12, .iconst 0, 13), (13, .invokestatic 69, 16), (16, .aload_n 0, 17), (17, .getfield 18, 20), (20, .iconst 0, 21), (21, .invokestatic 69, 24), (24, .aload_n 0, 25), (25, .getfield 31, 28), (28, .iconst 0, 29), (29, .invokestatic 69, 32), (32, .aload_n 0, 33), (33, .iconst 0, 34), (34, .putfield 24, 37), (37, .aload_n 0, 38), (38, .iconst 0, 39), (39, .putfield 28, 42), (42, .return_, 43)])
set_option maxRecDepth 20000 in
theorem mk_R_reset : Mk X_R_reset := ⟨by unfold TBk; decide +kernel, by decide +kernel, wb_407, ⟨by decide, by decide⟩, rfl, rfl, wb_3⟩
theorem fg_R_11 : FG "OmegaDesk$Refuter" 11 5 0 := ⟨R_R, F_R, 7, rfl, by decide, uw_R, Or.inl wb_53⟩
theorem cs_R_69 : CS "OmegaDesk$Refuter" 69 X_Y_fill 2 := ⟨Or.inl wb_408, wb_276, by decide +kernel⟩
theorem fg_R_15 : FG "OmegaDesk$Refuter" 15 5 1 := ⟨R_R, F_R, 7, rfl, by decide, uw_R, Or.inl wb_54⟩
theorem fg_R_18 : FG "OmegaDesk$Refuter" 18 5 2 := ⟨R_R, F_R, 7, rfl, by decide, uw_R, Or.inl wb_55⟩
theorem fg_R_31 : FG "OmegaDesk$Refuter" 31 5 6 := ⟨R_R, F_R, 7, rfl, by decide, uw_R, Or.inl wb_59⟩
theorem fp_R_24 : FP "OmegaDesk$Refuter" 24 5 4 .int := ⟨R_R, F_R, 7, tf_R, rfl, by decide, uw_R, Or.inl wb_57, tf_R_ok, nf_R, rfl, by decide +kernel⟩
theorem fp_R_28 : FP "OmegaDesk$Refuter" 28 5 5 .int := ⟨R_R, F_R, 7, tf_R, rfl, by decide, uw_R, Or.inl wb_58, tf_R_ok, nf_R, rfl, by decide +kernel⟩
def m_R_reset  (M : Mm) : Option (Mm) :=
  bd (m_Y_fill 7 (0 : Int32) M) fun r1 =>
  bd (m_Y_fill 8 (0 : Int32) r1) fun r2 =>
  bd (m_Y_fill 9 (0 : Int32) r2) fun r3 =>
  bd (m_Y_fill 11 (0 : Int32) r3) fun r4 =>
  bd (some (uI r4 (5, 0) 4 (0 : Int32))) fun M5 =>
  bd (some (uI M5 (5, 0) 5 (0 : Int32))) fun M6 =>
  some M6
set_option maxRecDepth 20000 in
theorem e_R_reset {l : Launch}  {M : Mm} {r : Mm}  (h : m_R_reset  M = some r) : Ev l X_R_reset [vr 5 0] M (fun v M2 => v = none ∧ M2 = r) := by
  refine Ev.of mk_R_reset [(0, vr 5 0)] (fun _ => rfl) (fun _ => (Nat.le_of_ble_eq_true rfl)) ?_
  unfold m_R_reset at h
  refine go_aload_n 0 rfl 0 rfl rfl ?_
  refine go_getfield 0 _ 1 rfl (by first | decide | exact ok0 (by omega) | exact ok1 (by omega) | exact ok2 (by omega) | exact ok7 (by omega)) rfl fg_R_11 rfl ?_
  refine go_iconst 0 2 rfl (by decide) ?_
  obtain ⟨r1, c, h⟩ := bd_inv h
  refine go_callS1 _ 3 rfl (e_Y_fill (by omega) c) mk_Y_fill cs_R_69 rfl ⟨(Nat.le_of_ble_eq_true rfl), (Nat.le_of_ble_eq_true rfl)⟩ (Nat.le_of_ble_eq_true rfl) rfl ?_
  refine go_aload_n 4 rfl 0 rfl rfl ?_
  refine go_getfield 1 _ 5 rfl (by first | decide | exact ok0 (by omega) | exact ok1 (by omega) | exact ok2 (by omega) | exact ok7 (by omega)) rfl fg_R_15 rfl ?_
  refine go_iconst 0 6 rfl (by decide) ?_
  obtain ⟨r2, c, h⟩ := bd_inv h
  refine go_callS1 _ 7 rfl (e_Y_fill (by omega) c) mk_Y_fill cs_R_69 rfl ⟨(Nat.le_of_ble_eq_true rfl), (Nat.le_of_ble_eq_true rfl)⟩ (Nat.le_of_ble_eq_true rfl) rfl ?_
  refine go_aload_n 8 rfl 0 rfl rfl ?_
  refine go_getfield 2 _ 9 rfl (by first | decide | exact ok0 (by omega) | exact ok1 (by omega) | exact ok2 (by omega) | exact ok7 (by omega)) rfl fg_R_18 rfl ?_
  refine go_iconst 0 10 rfl (by decide) ?_
  obtain ⟨r3, c, h⟩ := bd_inv h
  refine go_callS1 _ 11 rfl (e_Y_fill (by omega) c) mk_Y_fill cs_R_69 rfl ⟨(Nat.le_of_ble_eq_true rfl), (Nat.le_of_ble_eq_true rfl)⟩ (Nat.le_of_ble_eq_true rfl) rfl ?_
  refine go_aload_n 12 rfl 0 rfl rfl ?_
  refine go_getfield 6 _ 13 rfl (by first | decide | exact ok0 (by omega) | exact ok1 (by omega) | exact ok2 (by omega) | exact ok7 (by omega)) rfl fg_R_31 rfl ?_
  refine go_iconst 0 14 rfl (by decide) ?_
  obtain ⟨r4, c, h⟩ := bd_inv h
  refine go_callS1 _ 15 rfl (e_Y_fill (by omega) c) mk_Y_fill cs_R_69 rfl ⟨(Nat.le_of_ble_eq_true rfl), (Nat.le_of_ble_eq_true rfl)⟩ (Nat.le_of_ble_eq_true rfl) rfl ?_
  refine go_aload_n 16 rfl 0 rfl rfl ?_
  refine go_iconst 0 17 rfl (by decide) ?_
  refine go_putfield 4 .int 18 rfl (by first | decide | exact ok0 (by omega) | exact ok1 (by omega) | exact ok2 (by omega) | exact ok7 (by omega)) rfl fp_R_24 rfl rfl (Nat.le_of_ble_eq_true rfl) rfl ?_
  obtain ⟨_, c, h⟩ := bd_inv h
  cases c
  refine go_aload_n 19 rfl 0 rfl rfl ?_
  refine go_iconst 0 20 rfl (by decide) ?_
  refine go_putfield 5 .int 21 rfl (by first | decide | exact ok0 (by omega) | exact ok1 (by omega) | exact ok2 (by omega) | exact ok7 (by omega)) rfl fp_R_28 rfl rfl (Nat.le_of_ble_eq_true rfl) rfl ?_
  obtain ⟨_, c, h⟩ := bd_inv h
  cases c
  cases h
  exact go_return 22 rfl rfl ⟨rfl, rfl⟩
def X_R_spreadMeeting : MX := (⟨"OmegaDesk$Refuter", "spreadMeeting", "(LOmegaDesk$Automaton;LOmegaDesk$Automaton;II)Z"⟩, prog_5_method_5_code, 10, some .boolean, { frames := 1, cells := 0, slots := 0, locals := 22 },
  [(0, .iconst 0, 1), (1, .istore 5, 3), (3, .iconst 0, 4), (4, .istore 6, 6), (6, .iload 6, 8), (8, .iconst 2, 9), (9, .if_icmp .ge 88, 12), (12, .aload_n 1, 13), (13, .iconst 1, 14), (14, .iload_n 3, 15), (15, .ishl, 16), (16, .iload 6, 18), (18, .invokevirtual 82, 21), (21, .istore 7, 23), (23, .iconst 1, 24), (24, .aload_n 2, 25), (25, .iload 4, 27), (27, .iload 6, 29), (29, .invokevirtual 82, 32), (32, .ishl, 33), (33, .istore 8, 35), (35, .iconst 0, 36), (36, .istore 9, 38), (38, .iload 9, 40), (40, .aload_n 1, 41), (41, .getfield 75, 44), (44, .if_icmp .ge 47, 47), (47, .iload 7, 49), (49, .iload 9, 51), (51, .ishr, 52), (52, .iconst 1, 53), (53, .iand, 54), (54, .ifCond .eq 31, 57), (57, .aload_n 0, 58), (58, .getfield 31, 61), (61, .iload 9, 63), (63, .iaload, 64), (64, .iload 8, 66), (66, .iand, 67), (67, .ifCond .ne 18, 70), (70, .aload_n 0, 71), (71, .getfield 31, 74), (74, .iload 9, 76), (76, .dup2, 77), (77, .iaload, 78), (78, .iload 8, 80), (80, .ior, 81), (81, .iastore, 82), (82, .iconst 1, 83), (83, .istore 5, 85), (85, .iinc 9 1, 88), (88, .goto (-50), 91), (91, .iinc 6 1, 94), (94, .goto (-88), 97), (97, .iload 5, 99), (99, .ireturn, 100)])
set_option maxRecDepth 20000 in
theorem mk_R_spreadMeeting : Mk X_R_spreadMeeting := ⟨by unfold TBk; decide +kernel, by decide +kernel, wb_416, ⟨by decide, by decide⟩, rfl, rfl, wb_3⟩
theorem cv_R_82 : CV "OmegaDesk$Refuter" 82 X_A_followersOf 2 0 := ⟨Or.inl wb_417, ⟨wb_257, wb_258⟩, by decide +kernel, F_A, 3, rfl⟩
theorem fg_R_75 : FG "OmegaDesk$Refuter" 75 0 0 := ⟨R_A, F_A, 3, rfl, by decide, uw_A, Or.inr ⟨_, nw_35⟩⟩
def b_R_spreadMeeting_38 (c1 : Nat) (c7 : Int32) (c8 : Int32) (s : Int32 × Int32 × Mm) : Option ((Int32 × Int32 × Mm) ⊕ (Int32 × Int32 × Mm)) :=
  if (s.2.2.1 (0, c1) 0) ≤ s.2.1 then
    some (Sum.inr (s.1, s.2.1, s.2.2))
  else
    if ((c7 >>> (s.2.1 &&& 31)) &&& (1 : Int32)) = 0 then
      some (Sum.inl (s.1, (s.2.1 + 1), s.2.2))
    else
      ck (inb s.2.1 (lenI 11)) <|
      if ((s.2.2.1 (1, 11) s.2.1.toNatClampNeg) &&& c8) = 0 then
        ck (inb s.2.1 (lenI 11)) <|
        ck (inb s.2.1 (lenI 11)) <|
        bd (some (uI s.2.2 (1, 11) s.2.1.toNatClampNeg ((s.2.2.1 (1, 11) s.2.1.toNatClampNeg) ||| c8))) fun M3 =>
        some (Sum.inl ((1 : Int32), (s.2.1 + 1), M3))
      else
        some (Sum.inl (s.1, (s.2.1 + 1), s.2.2))
def b_R_spreadMeeting_6 (c1 : Nat) (c2 : Nat) (c3 : Int32) (c4 : Int32) (s : Int32 × Int32 × Mm) : Option ((Int32 × Int32 × Mm) ⊕ (Int32 × Int32 × Mm)) :=
  if (2 : Int32) ≤ s.2.1 then
    some (Sum.inr (s.1, s.2.1, s.2.2))
  else
    bd (m_A_followersOf c1 ((1 : Int32) <<< (c3 &&& 31)) s.2.1 s.2.2) fun r1 =>
    bd (m_A_followersOf c2 c4 s.2.1 s.2.2) fun r2 =>
    bd (lp (b_R_spreadMeeting_38 c1 r1 ((1 : Int32) <<< (r2 &&& 31))) (s.1, (0 : Int32), s.2.2)) fun r4 =>
    some (Sum.inl (r4.1, (s.2.1 + 1), r4.2.2))
def m_R_spreadMeeting (a1 : Nat) (a2 : Nat) (a3 : Int32) (a4 : Int32) (M : Mm) : Option (Bool × Mm) :=
  bd (lp (b_R_spreadMeeting_6 a1 a2 a3 a4) ((0 : Int32), (0 : Int32), M)) fun r5 =>
  ck (isb r5.1) <|
  some ((tb r5.1), r5.2.2)
set_option maxRecDepth 20000 in
theorem w_R_spreadMeeting_38 {l : Launch} {post : Option PV → Mm → Prop} (c1 : Nat) (c2 : Nat) (c3 : Int32) (c4 : Int32) (c6 : Int32) (c7 : Int32) (c8 : Int32) (h1 : c1 < 7) (h2 : c2 < 7) {r : Int32 × Int32 × Mm} (kk : Go l X_R_spreadMeeting post 91 [(0, vr 5 0), (1, vr 0 c1), (2, vr 0 c2), (3, vi c3), (4, vi c4), (5, vi r.1), (6, vi c6), (7, vi c7), (8, vi c8), (9, vi r.2.1)] [] r.2.2) : ∀ (n : Nat) (s : Int32 × Int32 × Mm), lpN (b_R_spreadMeeting_38 c1 c7 c8) n s = some r → Go l X_R_spreadMeeting post 38 [(0, vr 5 0), (1, vr 0 c1), (2, vr 0 c2), (3, vi c3), (4, vi c4), (5, vi s.1), (6, vi c6), (7, vi c7), (8, vi c8), (9, vi s.2.1)] [] s.2.2 := by
  intro n
  induction n with
  | zero => intro s hc; exact (lpN_0 hc).elim
  | succ n ih =>
    intro s hc
    obtain ⟨q, h, hc⟩ := lpN_inv hc
    unfold b_R_spreadMeeting_38 at h
    refine go_iload 23 rfl 9 rfl ?_
    refine go_aload_n 24 rfl 1 rfl rfl ?_
    refine go_getfield 0 _ 25 rfl (by first | decide | exact ok0 (by omega) | exact ok1 (by omega) | exact ok2 (by omega) | exact ok7 (by omega)) rfl fg_R_75 rfl ?_
    refine go_icmp_ge 91 26 rfl (by decide) (fun c => ?_) (fun c => ?_)
    · replace h := ite_t c h
      cases h
      obtain rfl := lpq_r hc
      exact kk
    · replace h := ite_f c h
      refine go_iload 27 rfl 7 rfl ?_
      refine go_iload 28 rfl 9 rfl ?_
      refine go_ishr 29 rfl ?_
      refine go_iconst 1 30 rfl (by decide) ?_
      refine go_iand 31 rfl ?_
      refine go_if_eq 85 32 rfl (by decide) (fun c => ?_) (fun c => ?_)
      · replace h := ite_t c h
        refine go_iinc 1 50 rfl 9 rfl (by decide) (Nat.le_of_ble_eq_true rfl) [(0, _), (1, _), (2, _), (3, _), (4, _), (5, _), (6, _), (7, _), (8, _), (9, _)] rfl ?_
        refine go_goto 38 51 rfl (by decide) ?_
        cases h
        exact ih _ hc
      · replace h := ite_f c h
        refine go_aload_n 33 rfl 0 rfl rfl ?_
        refine go_getfield 6 _ 34 rfl (by first | decide | exact ok0 (by omega) | exact ok1 (by omega) | exact ok2 (by omega) | exact ok7 (by omega)) rfl fg_R_31 rfl ?_
        refine go_iload 35 rfl 9 rfl ?_
        obtain ⟨c, h⟩ := ck_inv h
        refine go_iaload 36 rfl (by first | decide | exact ok0 (by omega) | exact ok1 (by omega) | exact ok2 (by omega) | exact ok7 (by omega)) (inb_vp c) ?_
        refine go_iload 37 rfl 8 rfl ?_
        refine go_iand 38 rfl ?_
        refine go_if_ne 85 39 rfl (by decide) (fun c => ?_) (fun c => ?_)
        · replace h := ite_f c h
          refine go_iinc 1 50 rfl 9 rfl (by decide) (Nat.le_of_ble_eq_true rfl) [(0, _), (1, _), (2, _), (3, _), (4, _), (5, _), (6, _), (7, _), (8, _), (9, _)] rfl ?_
          refine go_goto 38 51 rfl (by decide) ?_
          cases h
          exact ih _ hc
        · replace h := ite_t c h
          refine go_aload_n 40 rfl 0 rfl rfl ?_
          refine go_getfield 6 _ 41 rfl (by first | decide | exact ok0 (by omega) | exact ok1 (by omega) | exact ok2 (by omega) | exact ok7 (by omega)) rfl fg_R_31 rfl ?_
          refine go_iload 42 rfl 9 rfl ?_
          refine go_dup2 43 rfl rfl rfl ?_
          obtain ⟨c, h⟩ := ck_inv h
          refine go_iaload 44 rfl (by first | decide | exact ok0 (by omega) | exact ok1 (by omega) | exact ok2 (by omega) | exact ok7 (by omega)) (inb_vp c) ?_
          refine go_iload 45 rfl 8 rfl ?_
          refine go_ior 46 rfl ?_
          obtain ⟨c, h⟩ := ck_inv h
          refine go_iastore 47 rfl (by first | decide | exact ok0 (by omega) | exact ok1 (by omega) | exact ok2 (by omega) | exact ok7 (by omega)) (inb_vp c) ?_
          obtain ⟨_, c, h⟩ := bd_inv h
          cases c
          refine go_iconst 1 48 rfl (by decide) ?_
          refine go_istore 49 rfl (Nat.le_of_ble_eq_true rfl) [(0, _), (1, _), (2, _), (3, _), (4, _), (5, _), (6, _), (7, _), (8, _), (9, _)] rfl ?_
          refine go_iinc 1 50 rfl 9 rfl (by decide) (Nat.le_of_ble_eq_true rfl) [(0, _), (1, _), (2, _), (3, _), (4, _), (5, _), (6, _), (7, _), (8, _), (9, _)] rfl ?_
          refine go_goto 38 51 rfl (by decide) ?_
          cases h
          exact ih _ hc
set_option maxRecDepth 20000 in
theorem w_R_spreadMeeting_6 {l : Launch} {post : Option PV → Mm → Prop} (c1 : Nat) (c2 : Nat) (c3 : Int32) (c4 : Int32) (h1 : c1 < 7) (h2 : c2 < 7) {r : Int32 × Int32 × Mm} (kk : Go l X_R_spreadMeeting post 97 [(0, vr 5 0), (1, vr 0 c1), (2, vr 0 c2), (3, vi c3), (4, vi c4), (5, vi r.1), (6, vi r.2.1)] [] r.2.2) : ∀ (n : Nat) (s : Int32 × Int32 × Mm), lpN (b_R_spreadMeeting_6 c1 c2 c3 c4) n s = some r → Go l X_R_spreadMeeting post 6 [(0, vr 5 0), (1, vr 0 c1), (2, vr 0 c2), (3, vi c3), (4, vi c4), (5, vi s.1), (6, vi s.2.1)] [] s.2.2 := by
  intro n
  induction n with
  | zero => intro s hc; exact (lpN_0 hc).elim
  | succ n ih =>
    intro s hc
    obtain ⟨q, h, hc⟩ := lpN_inv hc
    unfold b_R_spreadMeeting_6 at h
    refine go_iload 4 rfl 6 rfl ?_
    refine go_iconst 2 5 rfl (by decide) ?_
    refine go_icmp_ge 97 6 rfl (by decide) (fun c => ?_) (fun c => ?_)
    · replace h := ite_t c h
      cases h
      obtain rfl := lpq_r hc
      exact kk
    · replace h := ite_f c h
      refine go_aload_n 7 rfl 1 rfl rfl ?_
      refine go_iconst 1 8 rfl (by decide) ?_
      refine go_iload_n 9 rfl 3 rfl rfl ?_
      refine go_ishl 10 rfl ?_
      refine go_iload 11 rfl 6 rfl ?_
      obtain ⟨r1, c, h⟩ := bd_inv h
      refine go_callV1 _ 12 rfl (e_A_followersOf (by omega) c) mk_A_followersOf (by first | decide | exact ok0 (by omega) | exact ok1 (by omega) | exact ok2 (by omega) | exact ok7 (by omega)) rfl cv_R_82 rfl ⟨(Nat.le_of_ble_eq_true rfl), (Nat.le_of_ble_eq_true rfl)⟩ (Nat.le_of_ble_eq_true rfl) rfl ?_
      refine go_istore 13 rfl (Nat.le_of_ble_eq_true rfl) [(0, _), (1, _), (2, _), (3, _), (4, _), (5, _), (6, _), (7, _)] rfl ?_
      refine go_iconst 1 14 rfl (by decide) ?_
      refine go_aload_n 15 rfl 2 rfl rfl ?_
      refine go_iload 16 rfl 4 rfl ?_
      refine go_iload 17 rfl 6 rfl ?_
      obtain ⟨r2, c, h⟩ := bd_inv h
      refine go_callV1 _ 18 rfl (e_A_followersOf (by omega) c) mk_A_followersOf (by first | decide | exact ok0 (by omega) | exact ok1 (by omega) | exact ok2 (by omega) | exact ok7 (by omega)) rfl cv_R_82 rfl ⟨(Nat.le_of_ble_eq_true rfl), (Nat.le_of_ble_eq_true rfl)⟩ (Nat.le_of_ble_eq_true rfl) rfl ?_
      refine go_ishl 19 rfl ?_
      refine go_istore 20 rfl (Nat.le_of_ble_eq_true rfl) [(0, _), (1, _), (2, _), (3, _), (4, _), (5, _), (6, _), (7, _), (8, _)] rfl ?_
      refine go_iconst 0 21 rfl (by decide) ?_
      refine go_istore 22 rfl (Nat.le_of_ble_eq_true rfl) [(0, _), (1, _), (2, _), (3, _), (4, _), (5, _), (6, _), (7, _), (8, _), (9, _)] rfl ?_
      obtain ⟨r4, c, h⟩ := bd_inv h
      refine w_R_spreadMeeting_38 _ _ _ _ _ _ _ (by omega) (by omega) ?_ _ _ c
      refine go_iinc 1 52 rfl 6 rfl (by decide) (Nat.le_of_ble_eq_true rfl) [(0, _), (1, _), (2, _), (3, _), (4, _), (5, _), (6, _), (7, _), (8, _), (9, _)] rfl ?_
      refine go_goto 6 53 rfl (by decide) ?_
      cases h
      refine go_sub [0, 1, 2, 3, 4, 5, 6] rfl ?_
      exact ih _ hc
set_option maxRecDepth 20000 in
theorem e_R_spreadMeeting {l : Launch} {a1 : Nat} {a2 : Nat} {a3 : Int32} {a4 : Int32} {M : Mm} {r : Bool × Mm} (h1 : a1 < 7) (h2 : a2 < 7) (h : m_R_spreadMeeting a1 a2 a3 a4 M = some r) : Ev l X_R_spreadMeeting [vr 5 0, vr 0 a1, vr 0 a2, vi a3, vi a4] M (fun v M2 => v = (some (vi (bI r.1))) ∧ M2 = r.2) := by
  refine Ev.of mk_R_spreadMeeting [(0, vr 5 0), (1, vr 0 a1), (2, vr 0 a2), (3, vi a3), (4, vi a4)] (fun _ => rfl) (fun _ => (Nat.le_of_ble_eq_true rfl)) ?_
  unfold m_R_spreadMeeting at h
  refine go_iconst 0 0 rfl (by decide) ?_
  refine go_istore 1 rfl (Nat.le_of_ble_eq_true rfl) [(0, _), (1, _), (2, _), (3, _), (4, _), (5, _)] rfl ?_
  refine go_iconst 0 2 rfl (by decide) ?_
  refine go_istore 3 rfl (Nat.le_of_ble_eq_true rfl) [(0, _), (1, _), (2, _), (3, _), (4, _), (5, _), (6, _)] rfl ?_
  obtain ⟨r5, c, h⟩ := bd_inv h
  refine w_R_spreadMeeting_6 _ _ _ _ (by omega) (by omega) ?_ _ _ c
  refine go_iload 54 rfl 5 rfl ?_
  obtain ⟨c, h⟩ := ck_inv h
  cases h
  exact go_ireturn 55 rfl rfl (isb_n c) ⟨congrArg (fun q => some (vi q)) (isb_e c).symm, rfl⟩
def X_R_findMeetings : MX := (⟨"OmegaDesk$Refuter", "findMeetings", "(LOmegaDesk$Automaton;LOmegaDesk$Automaton;)V"⟩, prog_5_method_4_code, 8, none, { frames := 2, cells := 0, slots := 0, locals := 51 },
  [(0, .aload_n 2, 1), (1, .getfield 75, 4), (4, .ifCond .le 7, 7), (7, .iconst 1, 8), (8, .goto 4, 11), (11, .iconst 0, 12), (12, .istore_n 3, 13), (13, .aload_n 0, 14), (14, .getfield 31, 17), (17, .iconst 0, 18), (18, .iconst 1, 19), (19, .iload_n 3, 20), (20, .ishl, 21), (21, .iastore, 22), (22, .iconst 1, 23), (23, .istore 4, 25), (25, .iconst 0, 26), (26, .istore 5, 28), (28, .iload 5, 30), (30, .bipush 32, 32), (32, .if_icmp .ge 82, 35), (35, .iload 4, 37), (37, .ifCond .eq 77, 40), (40, .iconst 0, 41), (41, .istore 4, 43), (43, .iconst 0, 44), (44, .istore 6, 46), (46, .iload 6, 48), (48, .aload_n 1, 49), (49, .getfield 75, 52), (52, .if_icmp .ge 56, 55), (55, .iconst 0, 56), (56, .istore 7, 58), (58, .iload 7, 60), (60, .bipush 8, 62), (62, .if_icmp .ge 40, 65), (65, .aload_n 0, 66), (66, .getfield 31, 69), (69, .iload 6, 71), (71, .iaload, 72), (72, .iload 7, 74), (74, .ishr, 75), (75, .iconst 1, 76), (76, .iand, 77), (77, .ifCond .eq 19, 80), (80, .aload_n 0, 81), (81, .aload_n 1, 82), (82, .aload_n 2, 83), (83, .iload 6, 85), (85, .iload 7, 87), (87, .invokevirtual 78, 90), (90, .ifCond .eq 6, 93), (93, .iconst 1, 94), (94, .istore 4, 96), (96, .iinc 7 1, 99), (99, .goto (-41), 102), (102, .iinc 6 1, 105), (105, .goto (-59), 108), (108, .iinc 5 1, 111), (111, .goto (-83), 114), (114, .return_, 115)])
set_option maxRecDepth 20000 in
theorem mk_R_findMeetings : Mk X_R_findMeetings := ⟨by unfold TBk; decide +kernel, by decide +kernel, wb_412, ⟨by decide, by decide⟩, rfl, rfl, wb_3⟩
theorem cv_R_78 : CV "OmegaDesk$Refuter" 78 X_R_spreadMeeting 4 5 := ⟨Or.inl wb_413, ⟨wb_415, ws_R_spreadMeeting⟩, by decide +kernel, F_R, 7, rfl⟩
def b_R_findMeetings_58 (c1 : Nat) (c2 : Nat) (c6 : Int32) (s : Int32 × Int32 × Mm) : Option ((Int32 × Int32 × Mm) ⊕ (Int32 × Int32 × Mm)) :=
  if (8 : Int32) ≤ s.2.1 then
    some (Sum.inr (s.1, s.2.1, s.2.2))
  else
    ck (inb c6 (lenI 11)) <|
    if (((s.2.2.1 (1, 11) c6.toNatClampNeg) >>> (s.2.1 &&& 31)) &&& (1 : Int32)) = 0 then
      some (Sum.inl (s.1, (s.2.1 + 1), s.2.2))
    else
      bd (m_R_spreadMeeting c1 c2 c6 s.2.1 s.2.2) fun r2 =>
      if (bI r2.1) = 0 then
        some (Sum.inl (s.1, (s.2.1 + 1), r2.2))
      else
        some (Sum.inl ((1 : Int32), (s.2.1 + 1), r2.2))
def b_R_findMeetings_46 (c1 : Nat) (c2 : Nat) (s : Int32 × Int32 × Mm) : Option ((Int32 × Int32 × Mm) ⊕ (Int32 × Int32 × Mm)) :=
  if (s.2.2.1 (0, c1) 0) ≤ s.2.1 then
    some (Sum.inr (s.1, s.2.1, s.2.2))
  else
    bd (lp (b_R_findMeetings_58 c1 c2 s.2.1) (s.1, (0 : Int32), s.2.2)) fun r3 =>
    some (Sum.inl (r3.1, (s.2.1 + 1), r3.2.2))
def b_R_findMeetings_28 (c1 : Nat) (c2 : Nat) (s : Int32 × Int32 × Mm) : Option ((Int32 × Int32 × Mm) ⊕ (Int32 × Int32 × Mm)) :=
  if (32 : Int32) ≤ s.2.1 then
    some (Sum.inr (s.1, s.2.1, s.2.2))
  else
    if s.1 = 0 then
      some (Sum.inr (s.1, s.2.1, s.2.2))
    else
      bd (lp (b_R_findMeetings_46 c1 c2) ((0 : Int32), (0 : Int32), s.2.2)) fun r4 =>
      some (Sum.inl (r4.1, (s.2.1 + 1), r4.2.2))
def m_R_findMeetings (a1 : Nat) (a2 : Nat) (M : Mm) : Option (Mm) :=
  if (M.1 (0, a2) 0) ≤ 0 then
    ck (inb (0 : Int32) (lenI 11)) <|
    bd (some (uI M (1, 11) (0 : Int32).toNatClampNeg ((1 : Int32) <<< ((0 : Int32) &&& 31)))) fun M1 =>
    bd (lp (b_R_findMeetings_28 a1 a2) ((1 : Int32), (0 : Int32), M1)) fun r5 =>
    some r5.2.2
  else
    ck (inb (0 : Int32) (lenI 11)) <|
    bd (some (uI M (1, 11) (0 : Int32).toNatClampNeg ((1 : Int32) <<< ((1 : Int32) &&& 31)))) fun M6 =>
    bd (lp (b_R_findMeetings_28 a1 a2) ((1 : Int32), (0 : Int32), M6)) fun r7 =>
    some r7.2.2
set_option maxRecDepth 20000 in
theorem w_R_findMeetings_58 {l : Launch} {post : Option PV → Mm → Prop} (c1 : Nat) (c2 : Nat) (c3 : Int32) (c5 : Int32) (c6 : Int32) (h1 : c1 < 7) (h2 : c2 < 7) {r : Int32 × Int32 × Mm} (kk : Go l X_R_findMeetings post 102 [(0, vr 5 0), (1, vr 0 c1), (2, vr 0 c2), (3, vi c3), (4, vi r.1), (5, vi c5), (6, vi c6), (7, vi r.2.1)] [] r.2.2) : ∀ (n : Nat) (s : Int32 × Int32 × Mm), lpN (b_R_findMeetings_58 c1 c2 c6) n s = some r → Go l X_R_findMeetings post 58 [(0, vr 5 0), (1, vr 0 c1), (2, vr 0 c2), (3, vi c3), (4, vi s.1), (5, vi c5), (6, vi c6), (7, vi s.2.1)] [] s.2.2 := by
  intro n
  induction n with
  | zero => intro s hc; exact (lpN_0 hc).elim
  | succ n ih =>
    intro s hc
    obtain ⟨q, h, hc⟩ := lpN_inv hc
    unfold b_R_findMeetings_58 at h
    refine go_iload 33 rfl 7 rfl ?_
    refine go_bipush 8 34 rfl (by decide) ?_
    refine go_icmp_ge 102 35 rfl (by decide) (fun c => ?_) (fun c => ?_)
    · replace h := ite_t c h
      cases h
      obtain rfl := lpq_r hc
      exact kk
    · replace h := ite_f c h
      refine go_aload_n 36 rfl 0 rfl rfl ?_
      refine go_getfield 6 _ 37 rfl (by first | decide | exact ok0 (by omega) | exact ok1 (by omega) | exact ok2 (by omega) | exact ok7 (by omega)) rfl fg_R_31 rfl ?_
      refine go_iload 38 rfl 6 rfl ?_
      obtain ⟨c, h⟩ := ck_inv h
      refine go_iaload 39 rfl (by first | decide | exact ok0 (by omega) | exact ok1 (by omega) | exact ok2 (by omega) | exact ok7 (by omega)) (inb_vp c) ?_
      refine go_iload 40 rfl 7 rfl ?_
      refine go_ishr 41 rfl ?_
      refine go_iconst 1 42 rfl (by decide) ?_
      refine go_iand 43 rfl ?_
      refine go_if_eq 96 44 rfl (by decide) (fun c => ?_) (fun c => ?_)
      · replace h := ite_t c h
        refine go_iinc 1 54 rfl 7 rfl (by decide) (Nat.le_of_ble_eq_true rfl) [(0, _), (1, _), (2, _), (3, _), (4, _), (5, _), (6, _), (7, _)] rfl ?_
        refine go_goto 58 55 rfl (by decide) ?_
        cases h
        exact ih _ hc
      · replace h := ite_f c h
        refine go_aload_n 45 rfl 0 rfl rfl ?_
        refine go_aload_n 46 rfl 1 rfl rfl ?_
        refine go_aload_n 47 rfl 2 rfl rfl ?_
        refine go_iload 48 rfl 6 rfl ?_
        refine go_iload 49 rfl 7 rfl ?_
        obtain ⟨r2, c, h⟩ := bd_inv h
        refine go_callV1 _ 50 rfl (e_R_spreadMeeting (by omega) (by omega) c) mk_R_spreadMeeting (by first | decide | exact ok0 (by omega) | exact ok1 (by omega) | exact ok2 (by omega) | exact ok7 (by omega)) rfl cv_R_78 rfl ⟨(Nat.le_of_ble_eq_true rfl), (Nat.le_of_ble_eq_true rfl)⟩ (Nat.le_of_ble_eq_true rfl) rfl ?_
        refine go_if_eq 96 51 rfl (by decide) (fun c => ?_) (fun c => ?_)
        · replace h := ite_t c h
          refine go_iinc 1 54 rfl 7 rfl (by decide) (Nat.le_of_ble_eq_true rfl) [(0, _), (1, _), (2, _), (3, _), (4, _), (5, _), (6, _), (7, _)] rfl ?_
          refine go_goto 58 55 rfl (by decide) ?_
          cases h
          exact ih _ hc
        · replace h := ite_f c h
          refine go_iconst 1 52 rfl (by decide) ?_
          refine go_istore 53 rfl (Nat.le_of_ble_eq_true rfl) [(0, _), (1, _), (2, _), (3, _), (4, _), (5, _), (6, _), (7, _)] rfl ?_
          refine go_iinc 1 54 rfl 7 rfl (by decide) (Nat.le_of_ble_eq_true rfl) [(0, _), (1, _), (2, _), (3, _), (4, _), (5, _), (6, _), (7, _)] rfl ?_
          refine go_goto 58 55 rfl (by decide) ?_
          cases h
          exact ih _ hc
set_option maxRecDepth 20000 in
theorem w_R_findMeetings_46 {l : Launch} {post : Option PV → Mm → Prop} (c1 : Nat) (c2 : Nat) (c3 : Int32) (c5 : Int32) (h1 : c1 < 7) (h2 : c2 < 7) {r : Int32 × Int32 × Mm} (kk : Go l X_R_findMeetings post 108 [(0, vr 5 0), (1, vr 0 c1), (2, vr 0 c2), (3, vi c3), (4, vi r.1), (5, vi c5), (6, vi r.2.1)] [] r.2.2) : ∀ (n : Nat) (s : Int32 × Int32 × Mm), lpN (b_R_findMeetings_46 c1 c2) n s = some r → Go l X_R_findMeetings post 46 [(0, vr 5 0), (1, vr 0 c1), (2, vr 0 c2), (3, vi c3), (4, vi s.1), (5, vi c5), (6, vi s.2.1)] [] s.2.2 := by
  intro n
  induction n with
  | zero => intro s hc; exact (lpN_0 hc).elim
  | succ n ih =>
    intro s hc
    obtain ⟨q, h, hc⟩ := lpN_inv hc
    unfold b_R_findMeetings_46 at h
    refine go_iload 27 rfl 6 rfl ?_
    refine go_aload_n 28 rfl 1 rfl rfl ?_
    refine go_getfield 0 _ 29 rfl (by first | decide | exact ok0 (by omega) | exact ok1 (by omega) | exact ok2 (by omega) | exact ok7 (by omega)) rfl fg_R_75 rfl ?_
    refine go_icmp_ge 108 30 rfl (by decide) (fun c => ?_) (fun c => ?_)
    · replace h := ite_t c h
      cases h
      obtain rfl := lpq_r hc
      exact kk
    · replace h := ite_f c h
      refine go_iconst 0 31 rfl (by decide) ?_
      refine go_istore 32 rfl (Nat.le_of_ble_eq_true rfl) [(0, _), (1, _), (2, _), (3, _), (4, _), (5, _), (6, _), (7, _)] rfl ?_
      obtain ⟨r3, c, h⟩ := bd_inv h
      refine w_R_findMeetings_58 _ _ _ _ _ (by omega) (by omega) ?_ _ _ c
      refine go_iinc 1 56 rfl 6 rfl (by decide) (Nat.le_of_ble_eq_true rfl) [(0, _), (1, _), (2, _), (3, _), (4, _), (5, _), (6, _), (7, _)] rfl ?_
      refine go_goto 46 57 rfl (by decide) ?_
      cases h
      refine go_sub [0, 1, 2, 3, 4, 5, 6] rfl ?_
      exact ih _ hc
set_option maxRecDepth 20000 in
theorem w_R_findMeetings_28 {l : Launch} {post : Option PV → Mm → Prop} (c1 : Nat) (c2 : Nat) (c3 : Int32) (h1 : c1 < 7) (h2 : c2 < 7) {r : Int32 × Int32 × Mm} (kk : Go l X_R_findMeetings post 114 [(0, vr 5 0), (1, vr 0 c1), (2, vr 0 c2), (3, vi c3), (4, vi r.1), (5, vi r.2.1)] [] r.2.2) : ∀ (n : Nat) (s : Int32 × Int32 × Mm), lpN (b_R_findMeetings_28 c1 c2) n s = some r → Go l X_R_findMeetings post 28 [(0, vr 5 0), (1, vr 0 c1), (2, vr 0 c2), (3, vi c3), (4, vi s.1), (5, vi s.2.1)] [] s.2.2 := by
  intro n
  induction n with
  | zero => intro s hc; exact (lpN_0 hc).elim
  | succ n ih =>
    intro s hc
    obtain ⟨q, h, hc⟩ := lpN_inv hc
    unfold b_R_findMeetings_28 at h
    refine go_iload 18 rfl 5 rfl ?_
    refine go_bipush 32 19 rfl (by decide) ?_
    refine go_icmp_ge 114 20 rfl (by decide) (fun c => ?_) (fun c => ?_)
    · replace h := ite_t c h
      cases h
      obtain rfl := lpq_r hc
      exact kk
    · replace h := ite_f c h
      refine go_iload 21 rfl 4 rfl ?_
      refine go_if_eq 114 22 rfl (by decide) (fun c => ?_) (fun c => ?_)
      · replace h := ite_t c h
        cases h
        obtain rfl := lpq_r hc
        exact kk
      · replace h := ite_f c h
        refine go_iconst 0 23 rfl (by decide) ?_
        refine go_istore 24 rfl (Nat.le_of_ble_eq_true rfl) [(0, _), (1, _), (2, _), (3, _), (4, _), (5, _)] rfl ?_
        refine go_iconst 0 25 rfl (by decide) ?_
        refine go_istore 26 rfl (Nat.le_of_ble_eq_true rfl) [(0, _), (1, _), (2, _), (3, _), (4, _), (5, _), (6, _)] rfl ?_
        obtain ⟨r4, c, h⟩ := bd_inv h
        refine w_R_findMeetings_46 _ _ _ _ (by omega) (by omega) ?_ _ _ c
        refine go_iinc 1 58 rfl 5 rfl (by decide) (Nat.le_of_ble_eq_true rfl) [(0, _), (1, _), (2, _), (3, _), (4, _), (5, _), (6, _)] rfl ?_
        refine go_goto 28 59 rfl (by decide) ?_
        cases h
        refine go_sub [0, 1, 2, 3, 4, 5] rfl ?_
        exact ih _ hc
set_option maxRecDepth 20000 in
theorem e_R_findMeetings {l : Launch} {a1 : Nat} {a2 : Nat} {M : Mm} {r : Mm} (h1 : a1 < 7) (h2 : a2 < 7) (h : m_R_findMeetings a1 a2 M = some r) : Ev l X_R_findMeetings [vr 5 0, vr 0 a1, vr 0 a2] M (fun v M2 => v = none ∧ M2 = r) := by
  refine Ev.of mk_R_findMeetings [(0, vr 5 0), (1, vr 0 a1), (2, vr 0 a2)] (fun _ => rfl) (fun _ => (Nat.le_of_ble_eq_true rfl)) ?_
  unfold m_R_findMeetings at h
  refine go_aload_n 0 rfl 2 rfl rfl ?_
  refine go_getfield 0 _ 1 rfl (by first | decide | exact ok0 (by omega) | exact ok1 (by omega) | exact ok2 (by omega) | exact ok7 (by omega)) rfl fg_R_75 rfl ?_
  refine go_if_le 11 2 rfl (by decide) (fun c => ?_) (fun c => ?_)
  · replace h := ite_t c h
    refine go_iconst 0 5 rfl (by decide) ?_
    refine go_istore_n 6 rfl rfl (Nat.le_of_ble_eq_true rfl) [(0, _), (1, _), (2, _), (3, _)] rfl ?_
    refine go_aload_n 7 rfl 0 rfl rfl ?_
    refine go_getfield 6 _ 8 rfl (by first | decide | exact ok0 (by omega) | exact ok1 (by omega) | exact ok2 (by omega) | exact ok7 (by omega)) rfl fg_R_31 rfl ?_
    refine go_iconst 0 9 rfl (by decide) ?_
    refine go_iconst 1 10 rfl (by decide) ?_
    refine go_iload_n 11 rfl 3 rfl rfl ?_
    refine go_ishl 12 rfl ?_
    obtain ⟨c, h⟩ := ck_inv h
    refine go_iastore 13 rfl (by first | decide | exact ok0 (by omega) | exact ok1 (by omega) | exact ok2 (by omega) | exact ok7 (by omega)) (inb_vp c) ?_
    obtain ⟨_, c, h⟩ := bd_inv h
    cases c
    refine go_iconst 1 14 rfl (by decide) ?_
    refine go_istore 15 rfl (Nat.le_of_ble_eq_true rfl) [(0, _), (1, _), (2, _), (3, _), (4, _)] rfl ?_
    refine go_iconst 0 16 rfl (by decide) ?_
    refine go_istore 17 rfl (Nat.le_of_ble_eq_true rfl) [(0, _), (1, _), (2, _), (3, _), (4, _), (5, _)] rfl ?_
    obtain ⟨r5, c, h⟩ := bd_inv h
    refine w_R_findMeetings_28 _ _ _ (by omega) (by omega) ?_ _ _ c
    cases h
    exact go_return 60 rfl rfl ⟨rfl, rfl⟩
  · replace h := ite_f c h
    refine go_iconst 1 3 rfl (by decide) ?_
    refine go_goto 12 4 rfl (by decide) ?_
    refine go_istore_n 6 rfl rfl (Nat.le_of_ble_eq_true rfl) [(0, _), (1, _), (2, _), (3, _)] rfl ?_
    refine go_aload_n 7 rfl 0 rfl rfl ?_
    refine go_getfield 6 _ 8 rfl (by first | decide | exact ok0 (by omega) | exact ok1 (by omega) | exact ok2 (by omega) | exact ok7 (by omega)) rfl fg_R_31 rfl ?_
    refine go_iconst 0 9 rfl (by decide) ?_
    refine go_iconst 1 10 rfl (by decide) ?_
    refine go_iload_n 11 rfl 3 rfl rfl ?_
    refine go_ishl 12 rfl ?_
    obtain ⟨c, h⟩ := ck_inv h
    refine go_iastore 13 rfl (by first | decide | exact ok0 (by omega) | exact ok1 (by omega) | exact ok2 (by omega) | exact ok7 (by omega)) (inb_vp c) ?_
    obtain ⟨_, c, h⟩ := bd_inv h
    cases c
    refine go_iconst 1 14 rfl (by decide) ?_
    refine go_istore 15 rfl (Nat.le_of_ble_eq_true rfl) [(0, _), (1, _), (2, _), (3, _), (4, _)] rfl ?_
    refine go_iconst 0 16 rfl (by decide) ?_
    refine go_istore 17 rfl (Nat.le_of_ble_eq_true rfl) [(0, _), (1, _), (2, _), (3, _), (4, _), (5, _)] rfl ?_
    obtain ⟨r7, c, h⟩ := bd_inv h
    refine w_R_findMeetings_28 _ _ _ (by omega) (by omega) ?_ _ _ c
    cases h
    exact go_return 60 rfl rfl ⟨rfl, rfl⟩
def X_R_slotOf : MX := (⟨"OmegaDesk$Refuter", "slotOf", "(I)I"⟩, prog_5_method_7_code, 4, some .int, { frames := 0, cells := 0, slots := 0, locals := 0 },
  [(0, .iload_n 1, 1), (1, .ldc 92, 3), (3, .imul, 4), (4, .bipush 22, 6), (6, .iushr, 7), (7, .istore_n 2, 8), (8, .iconst 0, 9), (9, .istore_n 3, 10), (10, .iload_n 3, 11), (11, .sipush 1024, 14), (14, .if_icmp .ge 49, 17), (17, .aload_n 0, 18), (18, .getfield 11, 21), (21, .iload_n 2, 22), (22, .iaload, 23), (23, .ifCond .ne 12, 26), (26, .aload_n 0, 27), (27, .getfield 11, 30), (30, .iload_n 2, 31), (31, .iload_n 1, 32), (32, .iconst 1, 33), (33, .iadd, 34), (34, .iastore, 35), (35, .aload_n 0, 36), (36, .getfield 11, 39), (39, .iload_n 2, 40), (40, .iaload, 41), (41, .iload_n 1, 42), (42, .iconst 1, 43), (43, .iadd, 44), (44, .if_icmp .ne 5, 47), (47, .iload_n 2, 48), (48, .ireturn, 49), (49, .iload_n 2, 50), (50, .iconst 1, 51), (51, .iadd, 52), (52, .sipush 1023, 55), (55, .iand, 56), (56, .istore_n 2, 57), (57, .iinc 3 1, 60), (60, .goto (-50), 63), (63, .iconst (-1), 64), (64, .ireturn, 65)])
set_option maxRecDepth 20000 in
theorem mk_R_slotOf : Mk X_R_slotOf := ⟨by unfold TBk; decide +kernel, by decide +kernel, wb_426, ⟨by decide, by decide⟩, rfl, rfl, wb_3⟩
def b_R_slotOf_10 (c1 : Int32) (s : Int32 × Int32 × Mm) : Option ((Int32 × Int32 × Mm) ⊕ ((Int32 × Int32 × Mm) ⊕ (Int32 × Mm))) :=
  if (1024 : Int32) ≤ s.2.1 then
    some (Sum.inr (Sum.inl (s.1, s.2.1, s.2.2)))
  else
    ck (inb s.1 (lenI 7)) <|
    if (s.2.2.1 (1, 7) s.1.toNatClampNeg) = 0 then
      ck (inb s.1 (lenI 7)) <|
      bd (some (uI s.2.2 (1, 7) s.1.toNatClampNeg (c1 + (1 : Int32)))) fun M2 =>
      ck (inb s.1 (lenI 7)) <|
      if (M2.1 (1, 7) s.1.toNatClampNeg) = (c1 + (1 : Int32)) then
        some (Sum.inr (Sum.inr (s.1, M2)))
      else
        some (Sum.inl (((s.1 + (1 : Int32)) &&& (1023 : Int32)), (s.2.1 + 1), M2))
    else
      ck (inb s.1 (lenI 7)) <|
      if (s.2.2.1 (1, 7) s.1.toNatClampNeg) = (c1 + (1 : Int32)) then
        some (Sum.inr (Sum.inr (s.1, s.2.2)))
      else
        some (Sum.inl (((s.1 + (1 : Int32)) &&& (1023 : Int32)), (s.2.1 + 1), s.2.2))
def m_R_slotOf (a1 : Int32) (M : Mm) : Option (Int32 × Mm) :=
  bd (some (((a1 * (-1640531535 : Int32)).toUInt32 >>> ((22 : Int32).toUInt32 &&& Int32.toUInt32 31)).toInt32)) fun x1 =>
  bd (lp (b_R_slotOf_10 a1) (x1, (0 : Int32), M)) fun r3 =>
  smr r3 (fun v5 => some v5) fun s4 =>
  some ((-1 : Int32), s4.2.2)
set_option maxRecDepth 20000 in
theorem w_R_slotOf_10 {l : Launch} {post : Option PV → Mm → Prop} (c1 : Int32)  {r : (Int32 × Int32 × Mm) ⊕ (Int32 × Mm)} (kk : ∀ s2, r = Sum.inl s2 → Go l X_R_slotOf post 63 [(0, vr 5 0), (1, vi c1), (2, vi s2.1), (3, vi s2.2.1)] [] s2.2.2) (kr : ∀ v, r = Sum.inr v → post (some (vi v.1)) v.2) : ∀ (n : Nat) (s : Int32 × Int32 × Mm), lpN (b_R_slotOf_10 c1) n s = some r → Go l X_R_slotOf post 10 [(0, vr 5 0), (1, vi c1), (2, vi s.1), (3, vi s.2.1)] [] s.2.2 := by
  intro n
  induction n with
  | zero => intro s hc; exact (lpN_0 hc).elim
  | succ n ih =>
    intro s hc
    obtain ⟨q, h, hc⟩ := lpN_inv hc
    unfold b_R_slotOf_10 at h
    refine go_iload_n 8 rfl 3 rfl rfl ?_
    refine go_sipush 1024 9 rfl (by decide) ?_
    refine go_icmp_ge 63 10 rfl (by decide) (fun c => ?_) (fun c => ?_)
    · replace h := ite_t c h
      cases h
      obtain rfl := lpq_r hc
      exact kk _ rfl
    · replace h := ite_f c h
      refine go_aload_n 11 rfl 0 rfl rfl ?_
      refine go_getfield 0 _ 12 rfl (by first | decide | exact ok0 (by omega) | exact ok1 (by omega) | exact ok2 (by omega) | exact ok7 (by omega)) rfl fg_R_11 rfl ?_
      refine go_iload_n 13 rfl 2 rfl rfl ?_
      obtain ⟨c, h⟩ := ck_inv h
      refine go_iaload 14 rfl (by first | decide | exact ok0 (by omega) | exact ok1 (by omega) | exact ok2 (by omega) | exact ok7 (by omega)) (inb_vp c) ?_
      refine go_if_ne 35 15 rfl (by decide) (fun c => ?_) (fun c => ?_)
      · replace h := ite_f c h
        refine go_aload_n 23 rfl 0 rfl rfl ?_
        refine go_getfield 0 _ 24 rfl (by first | decide | exact ok0 (by omega) | exact ok1 (by omega) | exact ok2 (by omega) | exact ok7 (by omega)) rfl fg_R_11 rfl ?_
        refine go_iload_n 25 rfl 2 rfl rfl ?_
        obtain ⟨c, h⟩ := ck_inv h
        refine go_iaload 26 rfl (by first | decide | exact ok0 (by omega) | exact ok1 (by omega) | exact ok2 (by omega) | exact ok7 (by omega)) (inb_vp c) ?_
        refine go_iload_n 27 rfl 1 rfl rfl ?_
        refine go_iconst 1 28 rfl (by decide) ?_
        refine go_iadd 29 rfl ?_
        refine go_icmp_ne 49 30 rfl (by decide) (fun c => ?_) (fun c => ?_)
        · replace h := ite_f c h
          refine go_iload_n 33 rfl 2 rfl rfl ?_
          refine go_iconst 1 34 rfl (by decide) ?_
          refine go_iadd 35 rfl ?_
          refine go_sipush 1023 36 rfl (by decide) ?_
          refine go_iand 37 rfl ?_
          refine go_istore_n 38 rfl rfl (Nat.le_of_ble_eq_true rfl) [(0, _), (1, _), (2, _), (3, _)] rfl ?_
          refine go_iinc 1 39 rfl 3 rfl (by decide) (Nat.le_of_ble_eq_true rfl) [(0, _), (1, _), (2, _), (3, _)] rfl ?_
          refine go_goto 10 40 rfl (by decide) ?_
          cases h
          exact ih _ hc
        · replace h := ite_t c h
          refine go_iload_n 31 rfl 2 rfl rfl ?_
          cases h
          obtain rfl := lpq_r hc
          exact go_ireturn 32 rfl rfl rfl (kr _ rfl)
      · replace h := ite_t c h
        refine go_aload_n 16 rfl 0 rfl rfl ?_
        refine go_getfield 0 _ 17 rfl (by first | decide | exact ok0 (by omega) | exact ok1 (by omega) | exact ok2 (by omega) | exact ok7 (by omega)) rfl fg_R_11 rfl ?_
        refine go_iload_n 18 rfl 2 rfl rfl ?_
        refine go_iload_n 19 rfl 1 rfl rfl ?_
        refine go_iconst 1 20 rfl (by decide) ?_
        refine go_iadd 21 rfl ?_
        obtain ⟨c, h⟩ := ck_inv h
        refine go_iastore 22 rfl (by first | decide | exact ok0 (by omega) | exact ok1 (by omega) | exact ok2 (by omega) | exact ok7 (by omega)) (inb_vp c) ?_
        obtain ⟨_, c, h⟩ := bd_inv h
        cases c
        refine go_aload_n 23 rfl 0 rfl rfl ?_
        refine go_getfield 0 _ 24 rfl (by first | decide | exact ok0 (by omega) | exact ok1 (by omega) | exact ok2 (by omega) | exact ok7 (by omega)) rfl fg_R_11 rfl ?_
        refine go_iload_n 25 rfl 2 rfl rfl ?_
        obtain ⟨c, h⟩ := ck_inv h
        refine go_iaload 26 rfl (by first | decide | exact ok0 (by omega) | exact ok1 (by omega) | exact ok2 (by omega) | exact ok7 (by omega)) (inb_vp c) ?_
        refine go_iload_n 27 rfl 1 rfl rfl ?_
        refine go_iconst 1 28 rfl (by decide) ?_
        refine go_iadd 29 rfl ?_
        refine go_icmp_ne 49 30 rfl (by decide) (fun c => ?_) (fun c => ?_)
        · replace h := ite_f c h
          refine go_iload_n 33 rfl 2 rfl rfl ?_
          refine go_iconst 1 34 rfl (by decide) ?_
          refine go_iadd 35 rfl ?_
          refine go_sipush 1023 36 rfl (by decide) ?_
          refine go_iand 37 rfl ?_
          refine go_istore_n 38 rfl rfl (Nat.le_of_ble_eq_true rfl) [(0, _), (1, _), (2, _), (3, _)] rfl ?_
          refine go_iinc 1 39 rfl 3 rfl (by decide) (Nat.le_of_ble_eq_true rfl) [(0, _), (1, _), (2, _), (3, _)] rfl ?_
          refine go_goto 10 40 rfl (by decide) ?_
          cases h
          exact ih _ hc
        · replace h := ite_t c h
          refine go_iload_n 31 rfl 2 rfl rfl ?_
          cases h
          obtain rfl := lpq_r hc
          exact go_ireturn 32 rfl rfl rfl (kr _ rfl)
set_option maxRecDepth 20000 in
theorem e_R_slotOf {l : Launch} {a1 : Int32} {M : Mm} {r : Int32 × Mm}  (h : m_R_slotOf a1 M = some r) : Ev l X_R_slotOf [vr 5 0, vi a1] M (fun v M2 => v = (some (vi r.1)) ∧ M2 = r.2) := by
  refine Ev.of mk_R_slotOf [(0, vr 5 0), (1, vi a1)] (fun _ => rfl) (fun _ => (Nat.le_of_ble_eq_true rfl)) ?_
  unfold m_R_slotOf at h
  refine go_iload_n 0 rfl 1 rfl rfl ?_
  refine go_ldc (-1640531535) 1 rfl wb_427 ?_
  refine go_imul 2 rfl ?_
  refine go_bipush 22 3 rfl (by decide) ?_
  refine go_iushr 4 rfl ?_
  obtain ⟨_, c, h⟩ := bd_inv h
  cases c
  refine go_istore_n 5 rfl rfl (Nat.le_of_ble_eq_true rfl) [(0, _), (1, _), (2, _)] rfl ?_
  refine go_iconst 0 6 rfl (by decide) ?_
  refine go_istore_n 7 rfl rfl (Nat.le_of_ble_eq_true rfl) [(0, _), (1, _), (2, _), (3, _)] rfl ?_
  obtain ⟨r3, c, h⟩ := bd_inv h
  refine w_R_slotOf_10 _ (fun s2 e => ?_) (fun v e => ?_) _ _ c
  · subst e
    replace h := smr_l h
    refine go_iconst (-1) 41 rfl (by decide) ?_
    cases h
    exact go_ireturn 42 rfl rfl rfl ⟨rfl, rfl⟩
  · subst e
    replace h := smr_r h
    cases h
    exact ⟨rfl, rfl⟩
def X_R_enqueue : MX := (⟨"OmegaDesk$Refuter", "enqueue", "(I)V"⟩, prog_5_method_8_code, 2, none, { frames := 0, cells := 0, slots := 0, locals := 0 },
  [(0, .aload_n 0, 1), (1, .getfield 21, 4), (4, .aload_n 0, 5), (5, .getfield 24, 8), (8, .aload_n 0, 9), (9, .getfield 28, 12), (12, .iadd, 13), (13, .sipush 1023, 16), (16, .iand, 17), (17, .iload_n 1, 18), (18, .iastore, 19), (19, .aload_n 0, 20), (20, .dup, 21), (21, .getfield 28, 24), (24, .iconst 1, 25), (25, .iadd, 26), (26, .putfield 28, 29), (29, .return_, 30)])
set_option maxRecDepth 20000 in
theorem mk_R_enqueue : Mk X_R_enqueue := ⟨by unfold TBk; decide +kernel, by decide +kernel, wb_431, ⟨by decide, by decide⟩, rfl, rfl, wb_3⟩
theorem fg_R_21 : FG "OmegaDesk$Refuter" 21 5 3 := ⟨R_R, F_R, 7, rfl, by decide, uw_R, Or.inl wb_56⟩
theorem fg_R_24 : FG "OmegaDesk$Refuter" 24 5 4 := ⟨R_R, F_R, 7, rfl, by decide, uw_R, Or.inl wb_57⟩
theorem fg_R_28 : FG "OmegaDesk$Refuter" 28 5 5 := ⟨R_R, F_R, 7, rfl, by decide, uw_R, Or.inl wb_58⟩
def m_R_enqueue (a1 : Int32) (M : Mm) : Option (Mm) :=
  ck (inb (((M.1 (5, 0) 4) + (M.1 (5, 0) 5)) &&& (1023 : Int32)) (lenI 10)) <|
  bd (some (uI M (1, 10) (((M.1 (5, 0) 4) + (M.1 (5, 0) 5)) &&& (1023 : Int32)).toNatClampNeg a1)) fun M1 =>
  bd (some (uI M1 (5, 0) 5 ((M1.1 (5, 0) 5) + (1 : Int32)))) fun M2 =>
  some M2
set_option maxRecDepth 20000 in
theorem e_R_enqueue {l : Launch} {a1 : Int32} {M : Mm} {r : Mm}  (h : m_R_enqueue a1 M = some r) : Ev l X_R_enqueue [vr 5 0, vi a1] M (fun v M2 => v = none ∧ M2 = r) := by
  refine Ev.of mk_R_enqueue [(0, vr 5 0), (1, vi a1)] (fun _ => rfl) (fun _ => (Nat.le_of_ble_eq_true rfl)) ?_
  unfold m_R_enqueue at h
  refine go_aload_n 0 rfl 0 rfl rfl ?_
  refine go_getfield 3 _ 1 rfl (by first | decide | exact ok0 (by omega) | exact ok1 (by omega) | exact ok2 (by omega) | exact ok7 (by omega)) rfl fg_R_21 rfl ?_
  refine go_aload_n 2 rfl 0 rfl rfl ?_
  refine go_getfield 4 _ 3 rfl (by first | decide | exact ok0 (by omega) | exact ok1 (by omega) | exact ok2 (by omega) | exact ok7 (by omega)) rfl fg_R_24 rfl ?_
  refine go_aload_n 4 rfl 0 rfl rfl ?_
  refine go_getfield 5 _ 5 rfl (by first | decide | exact ok0 (by omega) | exact ok1 (by omega) | exact ok2 (by omega) | exact ok7 (by omega)) rfl fg_R_28 rfl ?_
  refine go_iadd 6 rfl ?_
  refine go_sipush 1023 7 rfl (by decide) ?_
  refine go_iand 8 rfl ?_
  refine go_iload_n 9 rfl 1 rfl rfl ?_
  obtain ⟨c, h⟩ := ck_inv h
  refine go_iastore 10 rfl (by first | decide | exact ok0 (by omega) | exact ok1 (by omega) | exact ok2 (by omega) | exact ok7 (by omega)) (inb_vp c) ?_
  obtain ⟨_, c, h⟩ := bd_inv h
  cases c
  refine go_aload_n 11 rfl 0 rfl rfl ?_
  refine go_dup 12 rfl rfl ?_
  refine go_getfield 5 _ 13 rfl (by first | decide | exact ok0 (by omega) | exact ok1 (by omega) | exact ok2 (by omega) | exact ok7 (by omega)) rfl fg_R_28 rfl ?_
  refine go_iconst 1 14 rfl (by decide) ?_
  refine go_iadd 15 rfl ?_
  refine go_putfield 5 .int 16 rfl (by first | decide | exact ok0 (by omega) | exact ok1 (by omega) | exact ok2 (by omega) | exact ok7 (by omega)) rfl fp_R_28 rfl rfl (Nat.le_of_ble_eq_true rfl) rfl ?_
  obtain ⟨_, c, h⟩ := bd_inv h
  cases c
  cases h
  exact go_return 17 rfl rfl ⟨rfl, rfl⟩
def X_R_offer : MX := (⟨"OmegaDesk$Refuter", "offer", "(II)I"⟩, prog_5_method_6_code, 5, some .int, { frames := 1, cells := 0, slots := 0, locals := 23 },
  [(0, .aload_n 0, 1), (1, .iload_n 1, 2), (2, .invokevirtual 85, 5), (5, .istore_n 3, 6), (6, .iload_n 3, 7), (7, .ifCond .ge 5, 10), (10, .iconst 0, 11), (11, .ireturn, 12), (12, .iload_n 2, 13), (13, .aload_n 0, 14), (14, .getfield 15, 17), (17, .iload_n 3, 18), (18, .iaload, 19), (19, .iconst (-1), 20), (20, .ixor, 21), (21, .iand, 22), (22, .istore 4, 24), (24, .iload 4, 26), (26, .ifCond .eq 39, 29), (29, .aload_n 0, 30), (30, .getfield 15, 33), (33, .iload_n 3, 34), (34, .dup2, 35), (35, .iaload, 36), (36, .iload 4, 38), (38, .ior, 39), (39, .iastore, 40), (40, .aload_n 0, 41), (41, .getfield 18, 44), (44, .iload_n 3, 45), (45, .iaload, 46), (46, .ifCond .ne 8, 49), (49, .aload_n 0, 50), (50, .iload_n 3, 51), (51, .invokevirtual 88, 54), (54, .aload_n 0, 55), (55, .getfield 18, 58), (58, .iload_n 3, 59), (59, .dup2, 60), (60, .iaload, 61), (61, .iload 4, 63), (63, .ior, 64), (64, .iastore, 65), (65, .iload 4, 67), (67, .ireturn, 68)])
set_option maxRecDepth 20000 in
theorem mk_R_offer : Mk X_R_offer := ⟨by unfold TBk; decide +kernel, by decide +kernel, wb_422, ⟨by decide, by decide⟩, rfl, rfl, wb_3⟩
theorem cv_R_85 : CV "OmegaDesk$Refuter" 85 X_R_slotOf 1 5 := ⟨Or.inl wb_423, ⟨wb_425, ws_R_slotOf⟩, by decide +kernel, F_R, 7, rfl⟩
theorem cv_R_88 : CV "OmegaDesk$Refuter" 88 X_R_enqueue 1 5 := ⟨Or.inl wb_428, ⟨wb_430, ws_R_enqueue⟩, by decide +kernel, F_R, 7, rfl⟩
def m_R_offer (a1 : Int32) (a2 : Int32) (M : Mm) : Option (Int32 × Mm) :=
  bd (m_R_slotOf a1 M) fun r1 =>
  if 0 ≤ r1.1 then
    ck (inb r1.1 (lenI 8)) <|
    bd (some (a2 &&& ((r1.2.1 (1, 8) r1.1.toNatClampNeg) ^^^ (-1 : Int32)))) fun x2 =>
    if x2 = 0 then
      some (x2, r1.2)
    else
      ck (inb r1.1 (lenI 8)) <|
      ck (inb r1.1 (lenI 8)) <|
      bd (some (uI r1.2 (1, 8) r1.1.toNatClampNeg ((r1.2.1 (1, 8) r1.1.toNatClampNeg) ||| x2))) fun M3 =>
      ck (inb r1.1 (lenI 9)) <|
      if (M3.1 (1, 9) r1.1.toNatClampNeg) = 0 then
        bd (m_R_enqueue r1.1 M3) fun r5 =>
        ck (inb r1.1 (lenI 9)) <|
        ck (inb r1.1 (lenI 9)) <|
        bd (some (uI r5 (1, 9) r1.1.toNatClampNeg ((r5.1 (1, 9) r1.1.toNatClampNeg) ||| x2))) fun M6 =>
        some (x2, M6)
      else
        ck (inb r1.1 (lenI 9)) <|
        ck (inb r1.1 (lenI 9)) <|
        bd (some (uI M3 (1, 9) r1.1.toNatClampNeg ((M3.1 (1, 9) r1.1.toNatClampNeg) ||| x2))) fun M4 =>
        some (x2, M4)
  else
    some ((0 : Int32), r1.2)
set_option maxRecDepth 20000 in
theorem e_R_offer {l : Launch} {a1 : Int32} {a2 : Int32} {M : Mm} {r : Int32 × Mm}  (h : m_R_offer a1 a2 M = some r) : Ev l X_R_offer [vr 5 0, vi a1, vi a2] M (fun v M2 => v = (some (vi r.1)) ∧ M2 = r.2) := by
  refine Ev.of mk_R_offer [(0, vr 5 0), (1, vi a1), (2, vi a2)] (fun _ => rfl) (fun _ => (Nat.le_of_ble_eq_true rfl)) ?_
  unfold m_R_offer at h
  refine go_aload_n 0 rfl 0 rfl rfl ?_
  refine go_iload_n 1 rfl 1 rfl rfl ?_
  obtain ⟨r1, c, h⟩ := bd_inv h
  refine go_callV1 _ 2 rfl (e_R_slotOf c) mk_R_slotOf (by first | decide | exact ok0 (by omega) | exact ok1 (by omega) | exact ok2 (by omega) | exact ok7 (by omega)) rfl cv_R_85 rfl ⟨(Nat.le_of_ble_eq_true rfl), (Nat.le_of_ble_eq_true rfl)⟩ (Nat.le_of_ble_eq_true rfl) rfl ?_
  refine go_istore_n 3 rfl rfl (Nat.le_of_ble_eq_true rfl) [(0, _), (1, _), (2, _), (3, _)] rfl ?_
  refine go_iload_n 4 rfl 3 rfl rfl ?_
  refine go_if_ge 12 5 rfl (by decide) (fun c => ?_) (fun c => ?_)
  · replace h := ite_t c h
    refine go_iload_n 8 rfl 2 rfl rfl ?_
    refine go_aload_n 9 rfl 0 rfl rfl ?_
    refine go_getfield 1 _ 10 rfl (by first | decide | exact ok0 (by omega) | exact ok1 (by omega) | exact ok2 (by omega) | exact ok7 (by omega)) rfl fg_R_15 rfl ?_
    refine go_iload_n 11 rfl 3 rfl rfl ?_
    obtain ⟨c, h⟩ := ck_inv h
    refine go_iaload 12 rfl (by first | decide | exact ok0 (by omega) | exact ok1 (by omega) | exact ok2 (by omega) | exact ok7 (by omega)) (inb_vp c) ?_
    refine go_iconst (-1) 13 rfl (by decide) ?_
    refine go_ixor 14 rfl ?_
    refine go_iand 15 rfl ?_
    obtain ⟨_, c, h⟩ := bd_inv h
    cases c
    refine go_istore 16 rfl (Nat.le_of_ble_eq_true rfl) [(0, _), (1, _), (2, _), (3, _), (4, _)] rfl ?_
    refine go_iload 17 rfl 4 rfl ?_
    refine go_if_eq 65 18 rfl (by decide) (fun c => ?_) (fun c => ?_)
    · replace h := ite_t c h
      refine go_iload 43 rfl 4 rfl ?_
      cases h
      exact go_ireturn 44 rfl rfl rfl ⟨rfl, rfl⟩
    · replace h := ite_f c h
      refine go_aload_n 19 rfl 0 rfl rfl ?_
      refine go_getfield 1 _ 20 rfl (by first | decide | exact ok0 (by omega) | exact ok1 (by omega) | exact ok2 (by omega) | exact ok7 (by omega)) rfl fg_R_15 rfl ?_
      refine go_iload_n 21 rfl 3 rfl rfl ?_
      refine go_dup2 22 rfl rfl rfl ?_
      obtain ⟨c, h⟩ := ck_inv h
      refine go_iaload 23 rfl (by first | decide | exact ok0 (by omega) | exact ok1 (by omega) | exact ok2 (by omega) | exact ok7 (by omega)) (inb_vp c) ?_
      refine go_iload 24 rfl 4 rfl ?_
      refine go_ior 25 rfl ?_
      obtain ⟨c, h⟩ := ck_inv h
      refine go_iastore 26 rfl (by first | decide | exact ok0 (by omega) | exact ok1 (by omega) | exact ok2 (by omega) | exact ok7 (by omega)) (inb_vp c) ?_
      obtain ⟨_, c, h⟩ := bd_inv h
      cases c
      refine go_aload_n 27 rfl 0 rfl rfl ?_
      refine go_getfield 2 _ 28 rfl (by first | decide | exact ok0 (by omega) | exact ok1 (by omega) | exact ok2 (by omega) | exact ok7 (by omega)) rfl fg_R_18 rfl ?_
      refine go_iload_n 29 rfl 3 rfl rfl ?_
      obtain ⟨c, h⟩ := ck_inv h
      refine go_iaload 30 rfl (by first | decide | exact ok0 (by omega) | exact ok1 (by omega) | exact ok2 (by omega) | exact ok7 (by omega)) (inb_vp c) ?_
      refine go_if_ne 54 31 rfl (by decide) (fun c => ?_) (fun c => ?_)
      · replace h := ite_f c h
        refine go_aload_n 35 rfl 0 rfl rfl ?_
        refine go_getfield 2 _ 36 rfl (by first | decide | exact ok0 (by omega) | exact ok1 (by omega) | exact ok2 (by omega) | exact ok7 (by omega)) rfl fg_R_18 rfl ?_
        refine go_iload_n 37 rfl 3 rfl rfl ?_
        refine go_dup2 38 rfl rfl rfl ?_
        obtain ⟨c, h⟩ := ck_inv h
        refine go_iaload 39 rfl (by first | decide | exact ok0 (by omega) | exact ok1 (by omega) | exact ok2 (by omega) | exact ok7 (by omega)) (inb_vp c) ?_
        refine go_iload 40 rfl 4 rfl ?_
        refine go_ior 41 rfl ?_
        obtain ⟨c, h⟩ := ck_inv h
        refine go_iastore 42 rfl (by first | decide | exact ok0 (by omega) | exact ok1 (by omega) | exact ok2 (by omega) | exact ok7 (by omega)) (inb_vp c) ?_
        obtain ⟨_, c, h⟩ := bd_inv h
        cases c
        refine go_iload 43 rfl 4 rfl ?_
        cases h
        exact go_ireturn 44 rfl rfl rfl ⟨rfl, rfl⟩
      · replace h := ite_t c h
        refine go_aload_n 32 rfl 0 rfl rfl ?_
        refine go_iload_n 33 rfl 3 rfl rfl ?_
        obtain ⟨r5, c, h⟩ := bd_inv h
        refine go_callV1 _ 34 rfl (e_R_enqueue c) mk_R_enqueue (by first | decide | exact ok0 (by omega) | exact ok1 (by omega) | exact ok2 (by omega) | exact ok7 (by omega)) rfl cv_R_88 rfl ⟨(Nat.le_of_ble_eq_true rfl), (Nat.le_of_ble_eq_true rfl)⟩ (Nat.le_of_ble_eq_true rfl) rfl ?_
        refine go_aload_n 35 rfl 0 rfl rfl ?_
        refine go_getfield 2 _ 36 rfl (by first | decide | exact ok0 (by omega) | exact ok1 (by omega) | exact ok2 (by omega) | exact ok7 (by omega)) rfl fg_R_18 rfl ?_
        refine go_iload_n 37 rfl 3 rfl rfl ?_
        refine go_dup2 38 rfl rfl rfl ?_
        obtain ⟨c, h⟩ := ck_inv h
        refine go_iaload 39 rfl (by first | decide | exact ok0 (by omega) | exact ok1 (by omega) | exact ok2 (by omega) | exact ok7 (by omega)) (inb_vp c) ?_
        refine go_iload 40 rfl 4 rfl ?_
        refine go_ior 41 rfl ?_
        obtain ⟨c, h⟩ := ck_inv h
        refine go_iastore 42 rfl (by first | decide | exact ok0 (by omega) | exact ok1 (by omega) | exact ok2 (by omega) | exact ok7 (by omega)) (inb_vp c) ?_
        obtain ⟨_, c, h⟩ := bd_inv h
        cases c
        refine go_iload 43 rfl 4 rfl ?_
        cases h
        exact go_ireturn 44 rfl rfl rfl ⟨rfl, rfl⟩
  · replace h := ite_f c h
    refine go_iconst 0 6 rfl (by decide) ?_
    cases h
    exact go_ireturn 7 rfl rfl rfl ⟨rfl, rfl⟩
def X_R_nextQueued : MX := (⟨"OmegaDesk$Refuter", "nextQueued", "()I"⟩, prog_5_method_9_code, 2, some .int, { frames := 0, cells := 0, slots := 0, locals := 0 },
  [(0, .aload_n 0, 1), (1, .getfield 21, 4), (4, .aload_n 0, 5), (5, .getfield 24, 8), (8, .iaload, 9), (9, .istore_n 1, 10), (10, .aload_n 0, 11), (11, .aload_n 0, 12), (12, .getfield 24, 15), (15, .iconst 1, 16), (16, .iadd, 17), (17, .sipush 1023, 20), (20, .iand, 21), (21, .putfield 24, 24), (24, .aload_n 0, 25), (25, .dup, 26), (26, .getfield 28, 29), (29, .iconst 1, 30), (30, .isub, 31), (31, .putfield 28, 34), (34, .iload_n 1, 35), (35, .ireturn, 36)])
set_option maxRecDepth 20000 in
theorem mk_R_nextQueued : Mk X_R_nextQueued := ⟨by unfold TBk; decide +kernel, by decide +kernel, wb_436, ⟨by decide, by decide⟩, rfl, rfl, wb_3⟩
def m_R_nextQueued  (M : Mm) : Option (Int32 × Mm) :=
  ck (inb (M.1 (5, 0) 4) (lenI 10)) <|
  bd (some (M.1 (1, 10) (M.1 (5, 0) 4).toNatClampNeg)) fun x1 =>
  bd (some (uI M (5, 0) 4 (((M.1 (5, 0) 4) + (1 : Int32)) &&& (1023 : Int32)))) fun M2 =>
  bd (some (uI M2 (5, 0) 5 ((M2.1 (5, 0) 5) - (1 : Int32)))) fun M3 =>
  some (x1, M3)
set_option maxRecDepth 20000 in
theorem e_R_nextQueued {l : Launch}  {M : Mm} {r : Int32 × Mm}  (h : m_R_nextQueued  M = some r) : Ev l X_R_nextQueued [vr 5 0] M (fun v M2 => v = (some (vi r.1)) ∧ M2 = r.2) := by
  refine Ev.of mk_R_nextQueued [(0, vr 5 0)] (fun _ => rfl) (fun _ => (Nat.le_of_ble_eq_true rfl)) ?_
  unfold m_R_nextQueued at h
  refine go_aload_n 0 rfl 0 rfl rfl ?_
  refine go_getfield 3 _ 1 rfl (by first | decide | exact ok0 (by omega) | exact ok1 (by omega) | exact ok2 (by omega) | exact ok7 (by omega)) rfl fg_R_21 rfl ?_
  refine go_aload_n 2 rfl 0 rfl rfl ?_
  refine go_getfield 4 _ 3 rfl (by first | decide | exact ok0 (by omega) | exact ok1 (by omega) | exact ok2 (by omega) | exact ok7 (by omega)) rfl fg_R_24 rfl ?_
  obtain ⟨c, h⟩ := ck_inv h
  refine go_iaload 4 rfl (by first | decide | exact ok0 (by omega) | exact ok1 (by omega) | exact ok2 (by omega) | exact ok7 (by omega)) (inb_vp c) ?_
  obtain ⟨_, c, h⟩ := bd_inv h
  cases c
  refine go_istore_n 5 rfl rfl (Nat.le_of_ble_eq_true rfl) [(0, _), (1, _)] rfl ?_
  refine go_aload_n 6 rfl 0 rfl rfl ?_
  refine go_aload_n 7 rfl 0 rfl rfl ?_
  refine go_getfield 4 _ 8 rfl (by first | decide | exact ok0 (by omega) | exact ok1 (by omega) | exact ok2 (by omega) | exact ok7 (by omega)) rfl fg_R_24 rfl ?_
  refine go_iconst 1 9 rfl (by decide) ?_
  refine go_iadd 10 rfl ?_
  refine go_sipush 1023 11 rfl (by decide) ?_
  refine go_iand 12 rfl ?_
  refine go_putfield 4 .int 13 rfl (by first | decide | exact ok0 (by omega) | exact ok1 (by omega) | exact ok2 (by omega) | exact ok7 (by omega)) rfl fp_R_24 rfl rfl (Nat.le_of_ble_eq_true rfl) rfl ?_
  obtain ⟨_, c, h⟩ := bd_inv h
  cases c
  refine go_aload_n 14 rfl 0 rfl rfl ?_
  refine go_dup 15 rfl rfl ?_
  refine go_getfield 5 _ 16 rfl (by first | decide | exact ok0 (by omega) | exact ok1 (by omega) | exact ok2 (by omega) | exact ok7 (by omega)) rfl fg_R_28 rfl ?_
  refine go_iconst 1 17 rfl (by decide) ?_
  refine go_isub 18 rfl ?_
  refine go_putfield 5 .int 19 rfl (by first | decide | exact ok0 (by omega) | exact ok1 (by omega) | exact ok2 (by omega) | exact ok7 (by omega)) rfl fp_R_28 rfl rfl (Nat.le_of_ble_eq_true rfl) rfl ?_
  obtain ⟨_, c, h⟩ := bd_inv h
  cases c
  refine go_iload_n 20 rfl 1 rfl rfl ?_
  cases h
  exact go_ireturn 21 rfl rfl rfl ⟨rfl, rfl⟩
def X_R_refutesWith : MX := (⟨"OmegaDesk$Refuter", "refutesWith", "(II)Z"⟩, prog_5_method_10_code, 6, some .boolean, { frames := 3, cells := 0, slots := 0, locals := 68 },
  [(0, .iconst 0, 1), (1, .istore_n 3, 2), (2, .iconst 0, 3), (3, .istore 4, 5), (5, .iload 4, 7), (7, .iconst 4, 8), (8, .if_icmp .ge 33, 11), (11, .iload_n 2, 12), (12, .iload 4, 14), (14, .invokestatic 93, 17), (17, .iload 4, 19), (19, .ishr, 20), (20, .iconst 1, 21), (21, .iand, 22), (22, .ifCond .eq 13, 25), (25, .iload_n 3, 26), (26, .aload_n 0, 27), (27, .getfield 31, 30), (30, .iload 4, 32), (32, .iaload, 33), (33, .ior, 34), (34, .istore_n 3, 35), (35, .iinc 4 1, 38), (38, .goto (-33), 41), (41, .iload_n 3, 42), (42, .ifCond .ne 5, 45), (45, .iconst 0, 46), (46, .ireturn, 47), (47, .iload_n 1, 48), (48, .invokestatic 98, 51), (51, .istore 4, 53), (53, .iconst 0, 54), (54, .istore 5, 56), (56, .iload 5, 58), (58, .bipush 8, 60), (60, .if_icmp .ge 28, 63), (63, .iload_n 3, 64), (64, .iload 5, 66), (66, .ishr, 67), (67, .iconst 1, 68), (68, .iand, 69), (69, .ifCond .eq 13, 72), (72, .iload 5, 74), (74, .iload 4, 76), (76, .iand, 77), (77, .ifCond .ne 5, 80), (80, .iconst 1, 81), (81, .ireturn, 82), (82, .iinc 5 1, 85), (85, .goto (-29), 88), (88, .iconst 0, 89), (89, .ireturn, 90)])
set_option maxRecDepth 20000 in
theorem mk_R_refutesWith : Mk X_R_refutesWith := ⟨by unfold TBk; decide +kernel, by decide +kernel, wb_441, ⟨by decide, by decide⟩, rfl, rfl, wb_3⟩
theorem cs_R_93 : CS "OmegaDesk$Refuter" 93 X_P_goodEnds 2 := ⟨Or.inl wb_442, wb_331, by decide +kernel⟩
theorem cs_R_98 : CS "OmegaDesk$Refuter" 98 X_P_takenRepeated 1 := ⟨Or.inl wb_443, wb_341, by decide +kernel⟩
def b_R_refutesWith_5 (c2 : Int32) (M : Mm) (s : Int32 × Int32) : Option ((Int32 × Int32) ⊕ (Int32 × Int32)) :=
  if (4 : Int32) ≤ s.2 then
    some (Sum.inr (s.1, s.2))
  else
    bd (m_P_goodEnds c2 s.2) fun r1 =>
    if ((r1 >>> (s.2 &&& 31)) &&& (1 : Int32)) = 0 then
      some (Sum.inl (s.1, (s.2 + 1)))
    else
      ck (inb s.2 (lenI 11)) <|
      bd (some (s.1 ||| (M.1 (1, 11) s.2.toNatClampNeg))) fun x2 =>
      some (Sum.inl (x2, (s.2 + 1)))
def b_R_refutesWith_56 (c3 : Int32) (c4 : Int32) (s : Int32) : Option ((Int32) ⊕ ((Int32) ⊕ (Bool))) :=
  if (8 : Int32) ≤ s then
    some (Sum.inr (Sum.inl s))
  else
    if ((c3 >>> (s &&& 31)) &&& (1 : Int32)) = 0 then
      some (Sum.inl (s + 1))
    else
      if (s &&& c4) = 0 then
        some (Sum.inr (Sum.inr true))
      else
        some (Sum.inl (s + 1))
def m_R_refutesWith (a1 : Int32) (a2 : Int32) (M : Mm) : Option (Bool) :=
  bd (lp (b_R_refutesWith_5 a2 M) ((0 : Int32), (0 : Int32))) fun r3 =>
  if r3.1 = 0 then
    some false
  else
    bd (m_P_takenRepeated a1) fun r4 =>
    bd (lp (b_R_refutesWith_56 r3.1 r4) (0 : Int32)) fun r5 =>
    smr r5 (fun v7 => some v7) fun s6 =>
    some false
set_option maxRecDepth 20000 in
theorem w_R_refutesWith_5 {l : Launch} {post : Option PV → Mm → Prop} (c1 : Int32) (c2 : Int32) (M : Mm)  {r : Int32 × Int32} (kk : Go l X_R_refutesWith post 41 [(0, vr 5 0), (1, vi c1), (2, vi c2), (3, vi r.1), (4, vi r.2)] [] M) : ∀ (n : Nat) (s : Int32 × Int32), lpN (b_R_refutesWith_5 c2 M) n s = some r → Go l X_R_refutesWith post 5 [(0, vr 5 0), (1, vi c1), (2, vi c2), (3, vi s.1), (4, vi s.2)] [] M := by
  intro n
  induction n with
  | zero => intro s hc; exact (lpN_0 hc).elim
  | succ n ih =>
    intro s hc
    obtain ⟨q, h, hc⟩ := lpN_inv hc
    unfold b_R_refutesWith_5 at h
    refine go_iload 4 rfl 4 rfl ?_
    refine go_iconst 4 5 rfl (by decide) ?_
    refine go_icmp_ge 41 6 rfl (by decide) (fun c => ?_) (fun c => ?_)
    · replace h := ite_t c h
      cases h
      obtain rfl := lpq_r hc
      exact kk
    · replace h := ite_f c h
      refine go_iload_n 7 rfl 2 rfl rfl ?_
      refine go_iload 8 rfl 4 rfl ?_
      obtain ⟨r1, c, h⟩ := bd_inv h
      refine go_callS1 _ 9 rfl (e_P_goodEnds c) mk_P_goodEnds cs_R_93 rfl ⟨(Nat.le_of_ble_eq_true rfl), (Nat.le_of_ble_eq_true rfl)⟩ (Nat.le_of_ble_eq_true rfl) rfl ?_
      refine go_iload 10 rfl 4 rfl ?_
      refine go_ishr 11 rfl ?_
      refine go_iconst 1 12 rfl (by decide) ?_
      refine go_iand 13 rfl ?_
      refine go_if_eq 35 14 rfl (by decide) (fun c => ?_) (fun c => ?_)
      · replace h := ite_t c h
        refine go_iinc 1 22 rfl 4 rfl (by decide) (Nat.le_of_ble_eq_true rfl) [(0, _), (1, _), (2, _), (3, _), (4, _)] rfl ?_
        refine go_goto 5 23 rfl (by decide) ?_
        cases h
        exact ih _ hc
      · replace h := ite_f c h
        refine go_iload_n 15 rfl 3 rfl rfl ?_
        refine go_aload_n 16 rfl 0 rfl rfl ?_
        refine go_getfield 6 _ 17 rfl (by first | decide | exact ok0 (by omega) | exact ok1 (by omega) | exact ok2 (by omega) | exact ok7 (by omega)) rfl fg_R_31 rfl ?_
        refine go_iload 18 rfl 4 rfl ?_
        obtain ⟨c, h⟩ := ck_inv h
        refine go_iaload 19 rfl (by first | decide | exact ok0 (by omega) | exact ok1 (by omega) | exact ok2 (by omega) | exact ok7 (by omega)) (inb_vp c) ?_
        refine go_ior 20 rfl ?_
        obtain ⟨_, c, h⟩ := bd_inv h
        cases c
        refine go_istore_n 21 rfl rfl (Nat.le_of_ble_eq_true rfl) [(0, _), (1, _), (2, _), (3, _), (4, _)] rfl ?_
        refine go_iinc 1 22 rfl 4 rfl (by decide) (Nat.le_of_ble_eq_true rfl) [(0, _), (1, _), (2, _), (3, _), (4, _)] rfl ?_
        refine go_goto 5 23 rfl (by decide) ?_
        cases h
        exact ih _ hc
set_option maxRecDepth 20000 in
theorem w_R_refutesWith_56 {l : Launch} {post : Option PV → Mm → Prop} (c1 : Int32) (c2 : Int32) (c3 : Int32) (c4 : Int32) (M : Mm)  {r : (Int32) ⊕ (Bool)} (kk : ∀ s2, r = Sum.inl s2 → Go l X_R_refutesWith post 88 [(0, vr 5 0), (1, vi c1), (2, vi c2), (3, vi c3), (4, vi c4), (5, vi s2)] [] M) (kr : ∀ v, r = Sum.inr v → post (some (vi (bI v))) M) : ∀ (n : Nat) (s : Int32), lpN (b_R_refutesWith_56 c3 c4) n s = some r → Go l X_R_refutesWith post 56 [(0, vr 5 0), (1, vi c1), (2, vi c2), (3, vi c3), (4, vi c4), (5, vi s)] [] M := by
  intro n
  induction n with
  | zero => intro s hc; exact (lpN_0 hc).elim
  | succ n ih =>
    intro s hc
    obtain ⟨q, h, hc⟩ := lpN_inv hc
    unfold b_R_refutesWith_56 at h
    refine go_iload 33 rfl 5 rfl ?_
    refine go_bipush 8 34 rfl (by decide) ?_
    refine go_icmp_ge 88 35 rfl (by decide) (fun c => ?_) (fun c => ?_)
    · replace h := ite_t c h
      cases h
      obtain rfl := lpq_r hc
      exact kk _ rfl
    · replace h := ite_f c h
      refine go_iload_n 36 rfl 3 rfl rfl ?_
      refine go_iload 37 rfl 5 rfl ?_
      refine go_ishr 38 rfl ?_
      refine go_iconst 1 39 rfl (by decide) ?_
      refine go_iand 40 rfl ?_
      refine go_if_eq 82 41 rfl (by decide) (fun c => ?_) (fun c => ?_)
      · replace h := ite_t c h
        refine go_iinc 1 48 rfl 5 rfl (by decide) (Nat.le_of_ble_eq_true rfl) [(0, _), (1, _), (2, _), (3, _), (4, _), (5, _)] rfl ?_
        refine go_goto 56 49 rfl (by decide) ?_
        cases h
        exact ih _ hc
      · replace h := ite_f c h
        refine go_iload 42 rfl 5 rfl ?_
        refine go_iload 43 rfl 4 rfl ?_
        refine go_iand 44 rfl ?_
        refine go_if_ne 82 45 rfl (by decide) (fun c => ?_) (fun c => ?_)
        · replace h := ite_f c h
          refine go_iinc 1 48 rfl 5 rfl (by decide) (Nat.le_of_ble_eq_true rfl) [(0, _), (1, _), (2, _), (3, _), (4, _), (5, _)] rfl ?_
          refine go_goto 56 49 rfl (by decide) ?_
          cases h
          exact ih _ hc
        · replace h := ite_t c h
          refine go_iconst 1 46 rfl (by decide) ?_
          cases h
          obtain rfl := lpq_r hc
          exact go_ireturn 47 rfl rfl rfl (kr _ rfl)
set_option maxRecDepth 20000 in
theorem e_R_refutesWith {l : Launch} {a1 : Int32} {a2 : Int32} {M : Mm} {r : Bool}  (h : m_R_refutesWith a1 a2 M = some r) : Ev l X_R_refutesWith [vr 5 0, vi a1, vi a2] M (fun v M2 => v = (some (vi (bI r))) ∧ M2 = M) := by
  refine Ev.of mk_R_refutesWith [(0, vr 5 0), (1, vi a1), (2, vi a2)] (fun _ => rfl) (fun _ => (Nat.le_of_ble_eq_true rfl)) ?_
  unfold m_R_refutesWith at h
  refine go_iconst 0 0 rfl (by decide) ?_
  refine go_istore_n 1 rfl rfl (Nat.le_of_ble_eq_true rfl) [(0, _), (1, _), (2, _), (3, _)] rfl ?_
  refine go_iconst 0 2 rfl (by decide) ?_
  refine go_istore 3 rfl (Nat.le_of_ble_eq_true rfl) [(0, _), (1, _), (2, _), (3, _), (4, _)] rfl ?_
  obtain ⟨r3, c, h⟩ := bd_inv h
  refine w_R_refutesWith_5 _ _ _ ?_ _ _ c
  refine go_iload_n 24 rfl 3 rfl rfl ?_
  refine go_if_ne 47 25 rfl (by decide) (fun c => ?_) (fun c => ?_)
  · replace h := ite_f c h
    refine go_iload_n 28 rfl 1 rfl rfl ?_
    obtain ⟨r4, c, h⟩ := bd_inv h
    refine go_callS1 _ 29 rfl (e_P_takenRepeated c) mk_P_takenRepeated cs_R_98 rfl ⟨(Nat.le_of_ble_eq_true rfl), (Nat.le_of_ble_eq_true rfl)⟩ (Nat.le_of_ble_eq_true rfl) rfl ?_
    refine go_istore 30 rfl (Nat.le_of_ble_eq_true rfl) [(0, _), (1, _), (2, _), (3, _), (4, _)] rfl ?_
    refine go_iconst 0 31 rfl (by decide) ?_
    refine go_istore 32 rfl (Nat.le_of_ble_eq_true rfl) [(0, _), (1, _), (2, _), (3, _), (4, _), (5, _)] rfl ?_
    obtain ⟨r5, c, h⟩ := bd_inv h
    refine w_R_refutesWith_56 _ _ _ _ _ (fun s2 e => ?_) (fun v e => ?_) _ _ c
    · subst e
      replace h := smr_l h
      refine go_iconst 0 50 rfl (by decide) ?_
      cases h
      exact go_ireturn 51 rfl rfl rfl ⟨rfl, rfl⟩
    · subst e
      replace h := smr_r h
      cases h
      exact ⟨rfl, rfl⟩
  · replace h := ite_t c h
    refine go_iconst 0 26 rfl (by decide) ?_
    cases h
    exact go_ireturn 27 rfl rfl rfl ⟨rfl, rfl⟩
def X_R_refutes : MX := (⟨"OmegaDesk$Refuter", "refutes", "(LOmegaDesk$Automaton;LOmegaDesk$Automaton;)Z"⟩, prog_5_method_2_code, 11, some .boolean, { frames := 4, cells := 0, slots := 0, locals := 93 },
  [(0, .aload_n 1, 1), (1, .invokevirtual 34, 4), (4, .aload_n 1, 5), (5, .getfield 40, 8), (8, .iand, 9), (9, .istore_n 3, 10), (10, .iload_n 3, 11), (11, .ifCond .ne 5, 14), (14, .iconst 0, 15), (15, .ireturn, 16), (16, .aload_n 0, 17), (17, .invokevirtual 43, 20), (20, .aload_n 0, 21), (21, .aload_n 1, 22), (22, .aload_n 2, 23), (23, .invokevirtual 46, 26), (26, .aload_n 0, 27), (27, .aload_n 2, 28), (28, .bipush 7, 30), (30, .invokevirtual 50, 33), (33, .aload_n 1, 34), (34, .iload_n 3, 35), (35, .invokevirtual 50, 38), (38, .invokevirtual 54, 41), (41, .pop, 42), (42, .iconst 0, 43), (43, .istore 4, 45), (45, .iload 4, 47), (47, .ldc 58, 49), (49, .if_icmp .ge 104, 52), (52, .aload_n 0, 53), (53, .getfield 28, 56), (56, .ifCond .le 97, 59), (59, .aload_n 0, 60), (60, .invokevirtual 59, 63), (63, .istore 5, 65), (65, .aload_n 0, 66), (66, .getfield 11, 69), (69, .iload 5, 71), (71, .iaload, 72), (72, .iconst 1, 73), (73, .isub, 74), (74, .istore 6, 76), (76, .aload_n 0, 77), (77, .getfield 18, 80), (80, .iload 5, 82), (82, .iaload, 83), (83, .istore 7, 85), (85, .aload_n 0, 86), (86, .getfield 18, 89), (89, .iload 5, 91), (91, .iconst 0, 92), (92, .iastore, 93), (93, .iconst 0, 94), (94, .istore 8, 96), (96, .iload 8, 98), (98, .iconst 2, 99), (99, .if_icmp .ge 48, 102), (102, .aload_n 2, 103), (103, .iload 6, 105), (105, .iload 8, 107), (107, .invokevirtual 62, 110), (110, .istore 9, 112), (112, .aload_n 0, 113), (113, .iload 9, 115), (115, .aload_n 1, 116), (116, .iload 7, 118), (118, .iload 8, 120), (120, .invokevirtual 62, 123), (123, .invokevirtual 54, 126), (126, .istore 10, 128), (128, .aload_n 0, 129), (129, .iload 9, 131), (131, .iload 10, 133), (133, .invokevirtual 65, 136), (136, .ifCond .eq 5, 139), (139, .iconst 1, 140), (140, .ireturn, 141), (141, .iinc 8 1, 144), (144, .goto (-48), 147), (147, .iinc 4 1, 150), (150, .goto (-105), 153), (153, .iconst 0, 154), (154, .ireturn, 155)])
set_option maxRecDepth 20000 in
theorem mk_R_refutes : Mk X_R_refutes := ⟨by unfold TBk; decide +kernel, by decide +kernel, wb_402, ⟨by decide, by decide⟩, rfl, rfl, wb_3⟩
theorem cv_R_34 : CV "OmegaDesk$Refuter" 34 X_A_usefulStates 0 0 := ⟨Or.inl wb_403, ⟨wb_316, wb_317⟩, by decide +kernel, F_A, 3, rfl⟩
theorem fg_R_40 : FG "OmegaDesk$Refuter" 40 0 1 := ⟨R_A, F_A, 3, rfl, by decide, uw_A, Or.inr ⟨_, nw_37⟩⟩
theorem cv_R_43 : CV "OmegaDesk$Refuter" 43 X_R_reset 0 5 := ⟨Or.inl wb_404, ⟨wb_406, ws_R_reset⟩, by decide +kernel, F_R, 7, rfl⟩
theorem cv_R_46 : CV "OmegaDesk$Refuter" 46 X_R_findMeetings 2 5 := ⟨Or.inl wb_409, ⟨wb_411, ws_R_findMeetings⟩, by decide +kernel, F_R, 7, rfl⟩
theorem cv_R_50 : CV "OmegaDesk$Refuter" 50 X_A_emptyPassage 1 0 := ⟨Or.inl wb_418, ⟨wb_320, wb_321⟩, by decide +kernel, F_A, 3, rfl⟩
theorem cv_R_54 : CV "OmegaDesk$Refuter" 54 X_R_offer 2 5 := ⟨Or.inl wb_419, ⟨wb_421, ws_R_offer⟩, by decide +kernel, F_R, 7, rfl⟩
theorem cv_R_59 : CV "OmegaDesk$Refuter" 59 X_R_nextQueued 0 5 := ⟨Or.inl wb_433, ⟨wb_435, ws_R_nextQueued⟩, by decide +kernel, F_R, 7, rfl⟩
theorem cv_R_62 : CV "OmegaDesk$Refuter" 62 X_A_longerPassage 2 0 := ⟨Or.inl wb_437, ⟨wb_324, wb_325⟩, by decide +kernel, F_A, 3, rfl⟩
theorem cv_R_65 : CV "OmegaDesk$Refuter" 65 X_R_refutesWith 2 5 := ⟨Or.inl wb_438, ⟨wb_440, ws_R_refutesWith⟩, by decide +kernel, F_R, 7, rfl⟩
def b_R_refutes_96 (c1 : Nat) (c2 : Nat) (c6 : Int32) (c7 : Int32) (s : Int32 × Mm) : Option ((Int32 × Mm) ⊕ ((Int32 × Mm) ⊕ (Bool × Mm))) :=
  if (2 : Int32) ≤ s.1 then
    some (Sum.inr (Sum.inl (s.1, s.2)))
  else
    bd (m_A_longerPassage c2 c6 s.1 s.2) fun r10 =>
    bd (m_A_longerPassage c1 c7 s.1 s.2) fun r11 =>
    bd (m_R_offer r10 r11 s.2) fun r12 =>
    bd (m_R_refutesWith r10 r12.1 r12.2) fun r13 =>
    if (bI r13) = 0 then
      some (Sum.inl ((s.1 + 1), r12.2))
    else
      some (Sum.inr (Sum.inr (true, r12.2)))
def b_R_refutes_45 (c1 : Nat) (c2 : Nat) (s : Int32 × Mm) : Option ((Int32 × Mm) ⊕ ((Int32 × Mm) ⊕ (Bool × Mm))) :=
  if (32768 : Int32) ≤ s.1 then
    some (Sum.inr (Sum.inl (s.1, s.2)))
  else
    if (s.2.1 (5, 0) 5) ≤ 0 then
      some (Sum.inr (Sum.inl (s.1, s.2)))
    else
      bd (m_R_nextQueued  s.2) fun r7 =>
      ck (inb r7.1 (lenI 7)) <|
      bd (some ((r7.2.1 (1, 7) r7.1.toNatClampNeg) - (1 : Int32))) fun x8 =>
      ck (inb r7.1 (lenI 9)) <|
      ck (inb r7.1 (lenI 9)) <|
      bd (some (uI r7.2 (1, 9) r7.1.toNatClampNeg (0 : Int32))) fun M9 =>
      bd (lp (b_R_refutes_96 c1 c2 x8 (r7.2.1 (1, 9) r7.1.toNatClampNeg)) ((0 : Int32), M9)) fun r14 =>
      smr r14 (fun v16 => some (Sum.inr (Sum.inr v16))) fun s15 =>
      some (Sum.inl ((s.1 + 1), s15.2))
def m_R_refutes (a1 : Nat) (a2 : Nat) (M : Mm) : Option (Bool × Mm) :=
  bd (m_A_usefulStates a1 M) fun r1 =>
  if (r1 &&& (M.1 (0, a1) 1)) = 0 then
    some (false, M)
  else
    bd (m_R_reset  M) fun r2 =>
    bd (m_R_findMeetings a1 a2 r2) fun r3 =>
    bd (m_A_emptyPassage a2 (7 : Int32) r3) fun r4 =>
    bd (m_A_emptyPassage a1 (r1 &&& (M.1 (0, a1) 1)) r3) fun r5 =>
    bd (m_R_offer r4 r5 r3) fun r6 =>
    bd (lp (b_R_refutes_45 a1 a2) ((0 : Int32), r6.2)) fun r17 =>
    smr r17 (fun v19 => some v19) fun s18 =>
    some (false, s18.2)
set_option maxRecDepth 20000 in
theorem w_R_refutes_96 {l : Launch} {post : Option PV → Mm → Prop} (c1 : Nat) (c2 : Nat) (c3 : Int32) (c4 : Int32) (c5 : Int32) (c6 : Int32) (c7 : Int32) (h1 : c1 < 7) (h2 : c2 < 7) {r : (Int32 × Mm) ⊕ (Bool × Mm)} (kk : ∀ s2, r = Sum.inl s2 → Go l X_R_refutes post 147 [(0, vr 5 0), (1, vr 0 c1), (2, vr 0 c2), (3, vi c3), (4, vi c4), (5, vi c5), (6, vi c6), (7, vi c7), (8, vi s2.1)] [] s2.2) (kr : ∀ v, r = Sum.inr v → post (some (vi (bI v.1))) v.2) : ∀ (n : Nat) (s : Int32 × Mm), lpN (b_R_refutes_96 c1 c2 c6 c7) n s = some r → Go l X_R_refutes post 96 [(0, vr 5 0), (1, vr 0 c1), (2, vr 0 c2), (3, vi c3), (4, vi c4), (5, vi c5), (6, vi c6), (7, vi c7), (8, vi s.1)] [] s.2 := by
  intro n
  induction n with
  | zero => intro s hc; exact (lpN_0 hc).elim
  | succ n ih =>
    intro s hc
    obtain ⟨q, h, hc⟩ := lpN_inv hc
    unfold b_R_refutes_96 at h
    refine go_iload 55 rfl 8 rfl ?_
    refine go_iconst 2 56 rfl (by decide) ?_
    refine go_icmp_ge 147 57 rfl (by decide) (fun c => ?_) (fun c => ?_)
    · replace h := ite_t c h
      cases h
      obtain rfl := lpq_r hc
      exact kk _ rfl
    · replace h := ite_f c h
      refine go_aload_n 58 rfl 2 rfl rfl ?_
      refine go_iload 59 rfl 6 rfl ?_
      refine go_iload 60 rfl 8 rfl ?_
      obtain ⟨r10, c, h⟩ := bd_inv h
      refine go_callV1 _ 61 rfl (e_A_longerPassage (by omega) c) mk_A_longerPassage (by first | decide | exact ok0 (by omega) | exact ok1 (by omega) | exact ok2 (by omega) | exact ok7 (by omega)) rfl cv_R_62 rfl ⟨(Nat.le_of_ble_eq_true rfl), (Nat.le_of_ble_eq_true rfl)⟩ (Nat.le_of_ble_eq_true rfl) rfl ?_
      refine go_istore 62 rfl (Nat.le_of_ble_eq_true rfl) [(0, _), (1, _), (2, _), (3, _), (4, _), (5, _), (6, _), (7, _), (8, _), (9, _)] rfl ?_
      refine go_aload_n 63 rfl 0 rfl rfl ?_
      refine go_iload 64 rfl 9 rfl ?_
      refine go_aload_n 65 rfl 1 rfl rfl ?_
      refine go_iload 66 rfl 7 rfl ?_
      refine go_iload 67 rfl 8 rfl ?_
      obtain ⟨r11, c, h⟩ := bd_inv h
      refine go_callV1 _ 68 rfl (e_A_longerPassage (by omega) c) mk_A_longerPassage (by first | decide | exact ok0 (by omega) | exact ok1 (by omega) | exact ok2 (by omega) | exact ok7 (by omega)) rfl cv_R_62 rfl ⟨(Nat.le_of_ble_eq_true rfl), (Nat.le_of_ble_eq_true rfl)⟩ (Nat.le_of_ble_eq_true rfl) rfl ?_
      obtain ⟨r12, c, h⟩ := bd_inv h
      refine go_callV1 _ 69 rfl (e_R_offer c) mk_R_offer (by first | decide | exact ok0 (by omega) | exact ok1 (by omega) | exact ok2 (by omega) | exact ok7 (by omega)) rfl cv_R_54 rfl ⟨(Nat.le_of_ble_eq_true rfl), (Nat.le_of_ble_eq_true rfl)⟩ (Nat.le_of_ble_eq_true rfl) rfl ?_
      refine go_istore 70 rfl (Nat.le_of_ble_eq_true rfl) [(0, _), (1, _), (2, _), (3, _), (4, _), (5, _), (6, _), (7, _), (8, _), (9, _), (10, _)] rfl ?_
      refine go_aload_n 71 rfl 0 rfl rfl ?_
      refine go_iload 72 rfl 9 rfl ?_
      refine go_iload 73 rfl 10 rfl ?_
      obtain ⟨r13, c, h⟩ := bd_inv h
      refine go_callV1 _ 74 rfl (e_R_refutesWith c) mk_R_refutesWith (by first | decide | exact ok0 (by omega) | exact ok1 (by omega) | exact ok2 (by omega) | exact ok7 (by omega)) rfl cv_R_65 rfl ⟨(Nat.le_of_ble_eq_true rfl), (Nat.le_of_ble_eq_true rfl)⟩ (Nat.le_of_ble_eq_true rfl) rfl ?_
      refine go_if_eq 141 75 rfl (by decide) (fun c => ?_) (fun c => ?_)
      · replace h := ite_t c h
        refine go_iinc 1 78 rfl 8 rfl (by decide) (Nat.le_of_ble_eq_true rfl) [(0, _), (1, _), (2, _), (3, _), (4, _), (5, _), (6, _), (7, _), (8, _), (9, _), (10, _)] rfl ?_
        refine go_goto 96 79 rfl (by decide) ?_
        cases h
        refine go_sub [0, 1, 2, 3, 4, 5, 6, 7, 8] rfl ?_
        exact ih _ hc
      · replace h := ite_f c h
        refine go_iconst 1 76 rfl (by decide) ?_
        cases h
        obtain rfl := lpq_r hc
        exact go_ireturn 77 rfl rfl rfl (kr _ rfl)
set_option maxRecDepth 20000 in
theorem w_R_refutes_45 {l : Launch} {post : Option PV → Mm → Prop} (c1 : Nat) (c2 : Nat) (c3 : Int32) (h1 : c1 < 7) (h2 : c2 < 7) {r : (Int32 × Mm) ⊕ (Bool × Mm)} (kk : ∀ s2, r = Sum.inl s2 → Go l X_R_refutes post 153 [(0, vr 5 0), (1, vr 0 c1), (2, vr 0 c2), (3, vi c3), (4, vi s2.1)] [] s2.2) (kr : ∀ v, r = Sum.inr v → post (some (vi (bI v.1))) v.2) : ∀ (n : Nat) (s : Int32 × Mm), lpN (b_R_refutes_45 c1 c2) n s = some r → Go l X_R_refutes post 45 [(0, vr 5 0), (1, vr 0 c1), (2, vr 0 c2), (3, vi c3), (4, vi s.1)] [] s.2 := by
  intro n
  induction n with
  | zero => intro s hc; exact (lpN_0 hc).elim
  | succ n ih =>
    intro s hc
    obtain ⟨q, h, hc⟩ := lpN_inv hc
    unfold b_R_refutes_45 at h
    refine go_iload 27 rfl 4 rfl ?_
    refine go_ldc 32768 28 rfl wb_432 ?_
    refine go_icmp_ge 153 29 rfl (by decide) (fun c => ?_) (fun c => ?_)
    · replace h := ite_t c h
      cases h
      obtain rfl := lpq_r hc
      exact kk _ rfl
    · replace h := ite_f c h
      refine go_aload_n 30 rfl 0 rfl rfl ?_
      refine go_getfield 5 _ 31 rfl (by first | decide | exact ok0 (by omega) | exact ok1 (by omega) | exact ok2 (by omega) | exact ok7 (by omega)) rfl fg_R_28 rfl ?_
      refine go_if_le 153 32 rfl (by decide) (fun c => ?_) (fun c => ?_)
      · replace h := ite_t c h
        cases h
        obtain rfl := lpq_r hc
        exact kk _ rfl
      · replace h := ite_f c h
        refine go_aload_n 33 rfl 0 rfl rfl ?_
        obtain ⟨r7, c, h⟩ := bd_inv h
        refine go_callV1 _ 34 rfl (e_R_nextQueued c) mk_R_nextQueued (by first | decide | exact ok0 (by omega) | exact ok1 (by omega) | exact ok2 (by omega) | exact ok7 (by omega)) rfl cv_R_59 rfl ⟨(Nat.le_of_ble_eq_true rfl), (Nat.le_of_ble_eq_true rfl)⟩ (Nat.le_of_ble_eq_true rfl) rfl ?_
        refine go_istore 35 rfl (Nat.le_of_ble_eq_true rfl) [(0, _), (1, _), (2, _), (3, _), (4, _), (5, _)] rfl ?_
        refine go_aload_n 36 rfl 0 rfl rfl ?_
        refine go_getfield 0 _ 37 rfl (by first | decide | exact ok0 (by omega) | exact ok1 (by omega) | exact ok2 (by omega) | exact ok7 (by omega)) rfl fg_R_11 rfl ?_
        refine go_iload 38 rfl 5 rfl ?_
        obtain ⟨c, h⟩ := ck_inv h
        refine go_iaload 39 rfl (by first | decide | exact ok0 (by omega) | exact ok1 (by omega) | exact ok2 (by omega) | exact ok7 (by omega)) (inb_vp c) ?_
        refine go_iconst 1 40 rfl (by decide) ?_
        refine go_isub 41 rfl ?_
        obtain ⟨_, c, h⟩ := bd_inv h
        cases c
        refine go_istore 42 rfl (Nat.le_of_ble_eq_true rfl) [(0, _), (1, _), (2, _), (3, _), (4, _), (5, _), (6, _)] rfl ?_
        refine go_aload_n 43 rfl 0 rfl rfl ?_
        refine go_getfield 2 _ 44 rfl (by first | decide | exact ok0 (by omega) | exact ok1 (by omega) | exact ok2 (by omega) | exact ok7 (by omega)) rfl fg_R_18 rfl ?_
        refine go_iload 45 rfl 5 rfl ?_
        obtain ⟨c, h⟩ := ck_inv h
        refine go_iaload 46 rfl (by first | decide | exact ok0 (by omega) | exact ok1 (by omega) | exact ok2 (by omega) | exact ok7 (by omega)) (inb_vp c) ?_
        refine go_istore 47 rfl (Nat.le_of_ble_eq_true rfl) [(0, _), (1, _), (2, _), (3, _), (4, _), (5, _), (6, _), (7, _)] rfl ?_
        refine go_aload_n 48 rfl 0 rfl rfl ?_
        refine go_getfield 2 _ 49 rfl (by first | decide | exact ok0 (by omega) | exact ok1 (by omega) | exact ok2 (by omega) | exact ok7 (by omega)) rfl fg_R_18 rfl ?_
        refine go_iload 50 rfl 5 rfl ?_
        refine go_iconst 0 51 rfl (by decide) ?_
        obtain ⟨c, h⟩ := ck_inv h
        refine go_iastore 52 rfl (by first | decide | exact ok0 (by omega) | exact ok1 (by omega) | exact ok2 (by omega) | exact ok7 (by omega)) (inb_vp c) ?_
        obtain ⟨_, c, h⟩ := bd_inv h
        cases c
        refine go_iconst 0 53 rfl (by decide) ?_
        refine go_istore 54 rfl (Nat.le_of_ble_eq_true rfl) [(0, _), (1, _), (2, _), (3, _), (4, _), (5, _), (6, _), (7, _), (8, _)] rfl ?_
        obtain ⟨r14, c, h⟩ := bd_inv h
        refine w_R_refutes_96 _ _ _ _ _ _ _ (by omega) (by omega) (fun s2 e => ?_) (fun v e => ?_) _ _ c
        · subst e
          replace h := smr_l h
          refine go_iinc 1 80 rfl 4 rfl (by decide) (Nat.le_of_ble_eq_true rfl) [(0, _), (1, _), (2, _), (3, _), (4, _), (5, _), (6, _), (7, _), (8, _)] rfl ?_
          refine go_goto 45 81 rfl (by decide) ?_
          cases h
          refine go_sub [0, 1, 2, 3, 4] rfl ?_
          exact ih _ hc
        · subst e
          replace h := smr_r h
          cases h
          obtain rfl := lpq_r hc
          exact kr _ rfl
set_option maxRecDepth 20000 in
theorem e_R_refutes {l : Launch} {a1 : Nat} {a2 : Nat} {M : Mm} {r : Bool × Mm} (h1 : a1 < 7) (h2 : a2 < 7) (h : m_R_refutes a1 a2 M = some r) : Ev l X_R_refutes [vr 5 0, vr 0 a1, vr 0 a2] M (fun v M2 => v = (some (vi (bI r.1))) ∧ M2 = r.2) := by
  refine Ev.of mk_R_refutes [(0, vr 5 0), (1, vr 0 a1), (2, vr 0 a2)] (fun _ => rfl) (fun _ => (Nat.le_of_ble_eq_true rfl)) ?_
  unfold m_R_refutes at h
  refine go_aload_n 0 rfl 1 rfl rfl ?_
  obtain ⟨r1, c, h⟩ := bd_inv h
  refine go_callV1 _ 1 rfl (e_A_usefulStates (by omega) c) mk_A_usefulStates (by first | decide | exact ok0 (by omega) | exact ok1 (by omega) | exact ok2 (by omega) | exact ok7 (by omega)) rfl cv_R_34 rfl ⟨(Nat.le_of_ble_eq_true rfl), (Nat.le_of_ble_eq_true rfl)⟩ (Nat.le_of_ble_eq_true rfl) rfl ?_
  refine go_aload_n 2 rfl 1 rfl rfl ?_
  refine go_getfield 1 _ 3 rfl (by first | decide | exact ok0 (by omega) | exact ok1 (by omega) | exact ok2 (by omega) | exact ok7 (by omega)) rfl fg_R_40 rfl ?_
  refine go_iand 4 rfl ?_
  refine go_istore_n 5 rfl rfl (Nat.le_of_ble_eq_true rfl) [(0, _), (1, _), (2, _), (3, _)] rfl ?_
  refine go_iload_n 6 rfl 3 rfl rfl ?_
  refine go_if_ne 16 7 rfl (by decide) (fun c => ?_) (fun c => ?_)
  · replace h := ite_f c h
    refine go_aload_n 10 rfl 0 rfl rfl ?_
    obtain ⟨r2, c, h⟩ := bd_inv h
    refine go_callV1 _ 11 rfl (e_R_reset c) mk_R_reset (by first | decide | exact ok0 (by omega) | exact ok1 (by omega) | exact ok2 (by omega) | exact ok7 (by omega)) rfl cv_R_43 rfl ⟨(Nat.le_of_ble_eq_true rfl), (Nat.le_of_ble_eq_true rfl)⟩ (Nat.le_of_ble_eq_true rfl) rfl ?_
    refine go_aload_n 12 rfl 0 rfl rfl ?_
    refine go_aload_n 13 rfl 1 rfl rfl ?_
    refine go_aload_n 14 rfl 2 rfl rfl ?_
    obtain ⟨r3, c, h⟩ := bd_inv h
    refine go_callV1 _ 15 rfl (e_R_findMeetings (by omega) (by omega) c) mk_R_findMeetings (by first | decide | exact ok0 (by omega) | exact ok1 (by omega) | exact ok2 (by omega) | exact ok7 (by omega)) rfl cv_R_46 rfl ⟨(Nat.le_of_ble_eq_true rfl), (Nat.le_of_ble_eq_true rfl)⟩ (Nat.le_of_ble_eq_true rfl) rfl ?_
    refine go_aload_n 16 rfl 0 rfl rfl ?_
    refine go_aload_n 17 rfl 2 rfl rfl ?_
    refine go_bipush 7 18 rfl (by decide) ?_
    obtain ⟨r4, c, h⟩ := bd_inv h
    refine go_callV1 _ 19 rfl (e_A_emptyPassage (by omega) c) mk_A_emptyPassage (by first | decide | exact ok0 (by omega) | exact ok1 (by omega) | exact ok2 (by omega) | exact ok7 (by omega)) rfl cv_R_50 rfl ⟨(Nat.le_of_ble_eq_true rfl), (Nat.le_of_ble_eq_true rfl)⟩ (Nat.le_of_ble_eq_true rfl) rfl ?_
    refine go_aload_n 20 rfl 1 rfl rfl ?_
    refine go_iload_n 21 rfl 3 rfl rfl ?_
    obtain ⟨r5, c, h⟩ := bd_inv h
    refine go_callV1 _ 22 rfl (e_A_emptyPassage (by omega) c) mk_A_emptyPassage (by first | decide | exact ok0 (by omega) | exact ok1 (by omega) | exact ok2 (by omega) | exact ok7 (by omega)) rfl cv_R_50 rfl ⟨(Nat.le_of_ble_eq_true rfl), (Nat.le_of_ble_eq_true rfl)⟩ (Nat.le_of_ble_eq_true rfl) rfl ?_
    obtain ⟨r6, c, h⟩ := bd_inv h
    refine go_callV1 _ 23 rfl (e_R_offer c) mk_R_offer (by first | decide | exact ok0 (by omega) | exact ok1 (by omega) | exact ok2 (by omega) | exact ok7 (by omega)) rfl cv_R_54 rfl ⟨(Nat.le_of_ble_eq_true rfl), (Nat.le_of_ble_eq_true rfl)⟩ (Nat.le_of_ble_eq_true rfl) rfl ?_
    refine go_pop 24 rfl rfl ?_
    refine go_iconst 0 25 rfl (by decide) ?_
    refine go_istore 26 rfl (Nat.le_of_ble_eq_true rfl) [(0, _), (1, _), (2, _), (3, _), (4, _)] rfl ?_
    obtain ⟨r17, c, h⟩ := bd_inv h
    refine w_R_refutes_45 _ _ _ (by omega) (by omega) (fun s2 e => ?_) (fun v e => ?_) _ _ c
    · subst e
      replace h := smr_l h
      refine go_iconst 0 82 rfl (by decide) ?_
      cases h
      exact go_ireturn 83 rfl rfl rfl ⟨rfl, rfl⟩
    · subst e
      replace h := smr_r h
      cases h
      exact ⟨rfl, rfl⟩
  · replace h := ite_t c h
    refine go_iconst 0 8 rfl (by decide) ?_
    cases h
    exact go_ireturn 9 rfl rfl rfl ⟨rfl, rfl⟩
end
section
def X_M_thrown : MX := (⟨"OmegaDeskModel", "thrown", "()I"⟩, prog_8_method_2_code, 1, some .int, { frames := 0, cells := 0, slots := 0, locals := 0 },
  [(0, .aload_n 0, 1), (1, .getfield 41, 4), (4, .ireturn, 5)])
set_option maxRecDepth 20000 in
theorem mk_M_thrown : Mk X_M_thrown := ⟨by unfold TBk; decide +kernel, by decide +kernel, wb_566, ⟨by decide, by decide⟩, rfl, rfl, wb_6⟩
theorem fg_M_41 : FG "OmegaDeskModel" 41 8 0 := ⟨R_M, F_M, 12, rfl, by decide, uw_M, Or.inl wb_525⟩
def m_M_thrown  (M : Mm) : Option (Int32) :=
  some (M.1 (8, 0) 0)
set_option maxRecDepth 20000 in
theorem e_M_thrown {l : Launch}  {M : Mm} {r : Int32}  (h : m_M_thrown  M = some r) : Ev l X_M_thrown [vr 8 0] M (fun v M2 => v = (some (vi r)) ∧ M2 = M) := by
  refine Ev.of mk_M_thrown [(0, vr 8 0)] (fun _ => rfl) (fun _ => (Nat.le_of_ble_eq_true rfl)) ?_
  unfold m_M_thrown at h
  refine go_aload_n 0 rfl 0 rfl rfl ?_
  refine go_getfield 0 _ 1 rfl (by first | decide | exact ok0 (by omega) | exact ok1 (by omega) | exact ok2 (by omega) | exact ok7 (by omega)) rfl fg_M_41 rfl ?_
  cases h
  exact go_ireturn 2 rfl rfl rfl ⟨rfl, rfl⟩
def X_M_out : MX := (⟨"OmegaDeskModel", "out", "(II)Z"⟩, prog_8_method_3_code, 2, some .boolean, { frames := 0, cells := 0, slots := 0, locals := 0 },
  [(0, .iload_n 0, 1), (1, .ifCond .lt 8, 4), (4, .iload_n 0, 5), (5, .iload_n 1, 6), (6, .if_icmp .lt 7, 9), (9, .iconst 1, 10), (10, .goto 4, 13), (13, .iconst 0, 14), (14, .ireturn, 15)])
set_option maxRecDepth 20000 in
theorem mk_M_out : Mk X_M_out := ⟨by unfold TBk; decide +kernel, by decide +kernel, wb_573, ⟨by decide, by decide⟩, rfl, rfl, wb_6⟩
def m_M_out (a0 : Int32) (a1 : Int32) : Option (Bool) :=
  if a0 < 0 then
    some true
  else
    if a0 < a1 then
      some false
    else
      some true
set_option maxRecDepth 20000 in
theorem e_M_out {l : Launch} {a0 : Int32} {a1 : Int32} {M : Mm} {r : Bool}  (h : m_M_out a0 a1 = some r) : Ev l X_M_out [vi a0, vi a1] M (fun v M2 => v = (some (vi (bI r))) ∧ M2 = M) := by
  refine Ev.of mk_M_out [(0, vi a0), (1, vi a1)] (fun _ => rfl) (fun _ => (Nat.le_of_ble_eq_true rfl)) ?_
  unfold m_M_out at h
  refine go_iload_n 0 rfl 0 rfl rfl ?_
  refine go_if_lt 9 1 rfl (by decide) (fun c => ?_) (fun c => ?_)
  · replace h := ite_t c h
    refine go_iconst 1 5 rfl (by decide) ?_
    refine go_goto 14 6 rfl (by decide) ?_
    cases h
    exact go_ireturn 8 rfl rfl rfl ⟨rfl, rfl⟩
  · replace h := ite_f c h
    refine go_iload_n 2 rfl 0 rfl rfl ?_
    refine go_iload_n 3 rfl 1 rfl rfl ?_
    refine go_icmp_lt 13 4 rfl (by decide) (fun c => ?_) (fun c => ?_)
    · replace h := ite_t c h
      refine go_iconst 0 7 rfl (by decide) ?_
      cases h
      exact go_ireturn 8 rfl rfl rfl ⟨rfl, rfl⟩
    · replace h := ite_f c h
      refine go_iconst 1 5 rfl (by decide) ?_
      refine go_goto 14 6 rfl (by decide) ?_
      cases h
      exact go_ireturn 8 rfl rfl rfl ⟨rfl, rfl⟩
def X_M_fail : MX := (⟨"OmegaDeskModel", "fail", "(I)I"⟩, prog_8_method_4_code, 2, some .int, { frames := 0, cells := 0, slots := 0, locals := 0 },
  [(0, .aload_n 0, 1), (1, .iload_n 1, 2), (2, .putfield 41, 5), (5, .iconst 0, 6), (6, .ireturn, 7)])
set_option maxRecDepth 20000 in
theorem mk_M_fail : Mk X_M_fail := ⟨by unfold TBk; decide +kernel, by decide +kernel, wb_705, ⟨by decide, by decide⟩, rfl, rfl, wb_6⟩
theorem fp_M_41 : FP "OmegaDeskModel" 41 8 0 .int := ⟨R_M, F_M, 12, tf_M, rfl, by decide, uw_M, Or.inl wb_525, tf_M_ok, nf_M, rfl, by decide +kernel⟩
def m_M_fail (a1 : Int32) (M : Mm) : Option (Int32 × Mm) :=
  bd (some (uI M (8, 0) 0 a1)) fun M1 =>
  some ((0 : Int32), M1)
set_option maxRecDepth 20000 in
theorem e_M_fail {l : Launch} {a1 : Int32} {M : Mm} {r : Int32 × Mm}  (h : m_M_fail a1 M = some r) : Ev l X_M_fail [vr 8 0, vi a1] M (fun v M2 => v = (some (vi r.1)) ∧ M2 = r.2) := by
  refine Ev.of mk_M_fail [(0, vr 8 0), (1, vi a1)] (fun _ => rfl) (fun _ => (Nat.le_of_ble_eq_true rfl)) ?_
  unfold m_M_fail at h
  refine go_aload_n 0 rfl 0 rfl rfl ?_
  refine go_iload_n 1 rfl 1 rfl rfl ?_
  refine go_putfield 0 .int 2 rfl (by first | decide | exact ok0 (by omega) | exact ok1 (by omega) | exact ok2 (by omega) | exact ok7 (by omega)) rfl fp_M_41 rfl rfl (Nat.le_of_ble_eq_true rfl) rfl ?_
  obtain ⟨_, c, h⟩ := bd_inv h
  cases c
  refine go_iconst 0 3 rfl (by decide) ?_
  cases h
  exact go_ireturn 4 rfl rfl rfl ⟨rfl, rfl⟩
def X_M_add : MX := (⟨"OmegaDeskModel", "add", "(IZ)V"⟩, prog_8_method_5_code, 3, none, { frames := 0, cells := 0, slots := 0, locals := 0 },
  [(0, .aload_n 0, 1), (1, .getfield 7, 4), (4, .bipush 8, 6), (6, .iload_n 1, 7), (7, .imul, 8), (8, .aload_n 0, 9), (9, .getfield 16, 12), (12, .iload_n 1, 13), (13, .iaload, 14), (14, .iadd, 15), (15, .iconst 0, 16), (16, .iastore, 17), (17, .aload_n 0, 18), (18, .getfield 7, 21), (21, .bipush 8, 23), (23, .iload_n 1, 24), (24, .imul, 25), (25, .iconst 4, 26), (26, .iadd, 27), (27, .aload_n 0, 28), (28, .getfield 16, 31), (31, .iload_n 1, 32), (32, .iaload, 33), (33, .iadd, 34), (34, .iconst 0, 35), (35, .iastore, 36), (36, .aload_n 0, 37), (37, .getfield 13, 40), (40, .iload_n 1, 41), (41, .iload_n 2, 42), (42, .ifCond .eq 21, 45), (45, .aload_n 0, 46), (46, .getfield 13, 49), (49, .iload_n 1, 50), (50, .iaload, 51), (51, .iconst 1, 52), (52, .aload_n 0, 53), (53, .getfield 16, 56), (56, .iload_n 1, 57), (57, .iaload, 58), (58, .ishl, 59), (59, .ior, 60), (60, .goto 20, 63), (63, .aload_n 0, 64), (64, .getfield 13, 67), (67, .iload_n 1, 68), (68, .iaload, 69), (69, .iconst 1, 70), (70, .aload_n 0, 71), (71, .getfield 16, 74), (74, .iload_n 1, 75), (75, .iaload, 76), (76, .ishl, 77), (77, .iconst (-1), 78), (78, .ixor, 79), (79, .iand, 80), (80, .iastore, 81), (81, .aload_n 0, 82), (82, .getfield 16, 85), (85, .iload_n 1, 86), (86, .dup2, 87), (87, .iaload, 88), (88, .iconst 1, 89), (89, .iadd, 90), (90, .iastore, 91), (91, .return_, 92)])
set_option maxRecDepth 20000 in
theorem mk_M_add : Mk X_M_add := ⟨by unfold TBk; decide +kernel, by decide +kernel, wb_577, ⟨by decide, by decide⟩, rfl, rfl, wb_6⟩
theorem fg_M_7 : FG "OmegaDeskModel" 7 8 1 := ⟨R_M, F_M, 12, rfl, by decide, uw_M, Or.inl wb_526⟩
theorem fg_M_16 : FG "OmegaDeskModel" 16 8 3 := ⟨R_M, F_M, 12, rfl, by decide, uw_M, Or.inl wb_528⟩
theorem fg_M_13 : FG "OmegaDeskModel" 13 8 2 := ⟨R_M, F_M, 12, rfl, by decide, uw_M, Or.inl wb_527⟩
def m_M_add (a1 : Int32) (a2 : Bool) (M : Mm) : Option (Mm) :=
  ck (inb a1 (lenI 18)) <|
  ck (inb (((8 : Int32) * a1) + (M.1 (1, 18) a1.toNatClampNeg)) (lenI 16)) <|
  bd (some (uI M (1, 16) (((8 : Int32) * a1) + (M.1 (1, 18) a1.toNatClampNeg)).toNatClampNeg (0 : Int32))) fun M1 =>
  ck (inb a1 (lenI 18)) <|
  ck (inb ((((8 : Int32) * a1) + (4 : Int32)) + (M1.1 (1, 18) a1.toNatClampNeg)) (lenI 16)) <|
  bd (some (uI M1 (1, 16) ((((8 : Int32) * a1) + (4 : Int32)) + (M1.1 (1, 18) a1.toNatClampNeg)).toNatClampNeg (0 : Int32))) fun M2 =>
  if (bI a2) = 0 then
    ck (inb a1 (lenI 17)) <|
    ck (inb a1 (lenI 18)) <|
    ck (inb a1 (lenI 17)) <|
    bd (some (uI M2 (1, 17) a1.toNatClampNeg ((M2.1 (1, 17) a1.toNatClampNeg) &&& (((1 : Int32) <<< ((M2.1 (1, 18) a1.toNatClampNeg) &&& 31)) ^^^ (-1 : Int32))))) fun M3 =>
    ck (inb a1 (lenI 18)) <|
    ck (inb a1 (lenI 18)) <|
    bd (some (uI M3 (1, 18) a1.toNatClampNeg ((M3.1 (1, 18) a1.toNatClampNeg) + (1 : Int32)))) fun M4 =>
    some M4
  else
    ck (inb a1 (lenI 17)) <|
    ck (inb a1 (lenI 18)) <|
    ck (inb a1 (lenI 17)) <|
    bd (some (uI M2 (1, 17) a1.toNatClampNeg ((M2.1 (1, 17) a1.toNatClampNeg) ||| ((1 : Int32) <<< ((M2.1 (1, 18) a1.toNatClampNeg) &&& 31))))) fun M5 =>
    ck (inb a1 (lenI 18)) <|
    ck (inb a1 (lenI 18)) <|
    bd (some (uI M5 (1, 18) a1.toNatClampNeg ((M5.1 (1, 18) a1.toNatClampNeg) + (1 : Int32)))) fun M6 =>
    some M6
set_option maxRecDepth 20000 in
theorem e_M_add {l : Launch} {a1 : Int32} {a2 : Bool} {M : Mm} {r : Mm}  (h : m_M_add a1 a2 M = some r) : Ev l X_M_add [vr 8 0, vi a1, vi (bI a2)] M (fun v M2 => v = none ∧ M2 = r) := by
  refine Ev.of mk_M_add [(0, vr 8 0), (1, vi a1), (2, vi (bI a2))] (fun _ => rfl) (fun _ => (Nat.le_of_ble_eq_true rfl)) ?_
  unfold m_M_add at h
  refine go_aload_n 0 rfl 0 rfl rfl ?_
  refine go_getfield 1 _ 1 rfl (by first | decide | exact ok0 (by omega) | exact ok1 (by omega) | exact ok2 (by omega) | exact ok7 (by omega)) rfl fg_M_7 rfl ?_
  refine go_bipush 8 2 rfl (by decide) ?_
  refine go_iload_n 3 rfl 1 rfl rfl ?_
  refine go_imul 4 rfl ?_
  refine go_aload_n 5 rfl 0 rfl rfl ?_
  refine go_getfield 3 _ 6 rfl (by first | decide | exact ok0 (by omega) | exact ok1 (by omega) | exact ok2 (by omega) | exact ok7 (by omega)) rfl fg_M_16 rfl ?_
  refine go_iload_n 7 rfl 1 rfl rfl ?_
  obtain ⟨c, h⟩ := ck_inv h
  refine go_iaload 8 rfl (by first | decide | exact ok0 (by omega) | exact ok1 (by omega) | exact ok2 (by omega) | exact ok7 (by omega)) (inb_vp c) ?_
  refine go_iadd 9 rfl ?_
  refine go_iconst 0 10 rfl (by decide) ?_
  obtain ⟨c, h⟩ := ck_inv h
  refine go_iastore 11 rfl (by first | decide | exact ok0 (by omega) | exact ok1 (by omega) | exact ok2 (by omega) | exact ok7 (by omega)) (inb_vp c) ?_
  obtain ⟨_, c, h⟩ := bd_inv h
  cases c
  refine go_aload_n 12 rfl 0 rfl rfl ?_
  refine go_getfield 1 _ 13 rfl (by first | decide | exact ok0 (by omega) | exact ok1 (by omega) | exact ok2 (by omega) | exact ok7 (by omega)) rfl fg_M_7 rfl ?_
  refine go_bipush 8 14 rfl (by decide) ?_
  refine go_iload_n 15 rfl 1 rfl rfl ?_
  refine go_imul 16 rfl ?_
  refine go_iconst 4 17 rfl (by decide) ?_
  refine go_iadd 18 rfl ?_
  refine go_aload_n 19 rfl 0 rfl rfl ?_
  refine go_getfield 3 _ 20 rfl (by first | decide | exact ok0 (by omega) | exact ok1 (by omega) | exact ok2 (by omega) | exact ok7 (by omega)) rfl fg_M_16 rfl ?_
  refine go_iload_n 21 rfl 1 rfl rfl ?_
  obtain ⟨c, h⟩ := ck_inv h
  refine go_iaload 22 rfl (by first | decide | exact ok0 (by omega) | exact ok1 (by omega) | exact ok2 (by omega) | exact ok7 (by omega)) (inb_vp c) ?_
  refine go_iadd 23 rfl ?_
  refine go_iconst 0 24 rfl (by decide) ?_
  obtain ⟨c, h⟩ := ck_inv h
  refine go_iastore 25 rfl (by first | decide | exact ok0 (by omega) | exact ok1 (by omega) | exact ok2 (by omega) | exact ok7 (by omega)) (inb_vp c) ?_
  obtain ⟨_, c, h⟩ := bd_inv h
  cases c
  refine go_aload_n 26 rfl 0 rfl rfl ?_
  refine go_getfield 2 _ 27 rfl (by first | decide | exact ok0 (by omega) | exact ok1 (by omega) | exact ok2 (by omega) | exact ok7 (by omega)) rfl fg_M_13 rfl ?_
  refine go_iload_n 28 rfl 1 rfl rfl ?_
  refine go_iload_n 29 rfl 2 rfl rfl ?_
  refine go_if_eq 63 30 rfl (by decide) (fun c => ?_) (fun c => ?_)
  · replace h := ite_t c h
    refine go_aload_n 43 rfl 0 rfl rfl ?_
    refine go_getfield 2 _ 44 rfl (by first | decide | exact ok0 (by omega) | exact ok1 (by omega) | exact ok2 (by omega) | exact ok7 (by omega)) rfl fg_M_13 rfl ?_
    refine go_iload_n 45 rfl 1 rfl rfl ?_
    obtain ⟨c, h⟩ := ck_inv h
    refine go_iaload 46 rfl (by first | decide | exact ok0 (by omega) | exact ok1 (by omega) | exact ok2 (by omega) | exact ok7 (by omega)) (inb_vp c) ?_
    refine go_iconst 1 47 rfl (by decide) ?_
    refine go_aload_n 48 rfl 0 rfl rfl ?_
    refine go_getfield 3 _ 49 rfl (by first | decide | exact ok0 (by omega) | exact ok1 (by omega) | exact ok2 (by omega) | exact ok7 (by omega)) rfl fg_M_16 rfl ?_
    refine go_iload_n 50 rfl 1 rfl rfl ?_
    obtain ⟨c, h⟩ := ck_inv h
    refine go_iaload 51 rfl (by first | decide | exact ok0 (by omega) | exact ok1 (by omega) | exact ok2 (by omega) | exact ok7 (by omega)) (inb_vp c) ?_
    refine go_ishl 52 rfl ?_
    refine go_iconst (-1) 53 rfl (by decide) ?_
    refine go_ixor 54 rfl ?_
    refine go_iand 55 rfl ?_
    obtain ⟨c, h⟩ := ck_inv h
    refine go_iastore 56 rfl (by first | decide | exact ok0 (by omega) | exact ok1 (by omega) | exact ok2 (by omega) | exact ok7 (by omega)) (inb_vp c) ?_
    obtain ⟨_, c, h⟩ := bd_inv h
    cases c
    refine go_aload_n 57 rfl 0 rfl rfl ?_
    refine go_getfield 3 _ 58 rfl (by first | decide | exact ok0 (by omega) | exact ok1 (by omega) | exact ok2 (by omega) | exact ok7 (by omega)) rfl fg_M_16 rfl ?_
    refine go_iload_n 59 rfl 1 rfl rfl ?_
    refine go_dup2 60 rfl rfl rfl ?_
    obtain ⟨c, h⟩ := ck_inv h
    refine go_iaload 61 rfl (by first | decide | exact ok0 (by omega) | exact ok1 (by omega) | exact ok2 (by omega) | exact ok7 (by omega)) (inb_vp c) ?_
    refine go_iconst 1 62 rfl (by decide) ?_
    refine go_iadd 63 rfl ?_
    obtain ⟨c, h⟩ := ck_inv h
    refine go_iastore 64 rfl (by first | decide | exact ok0 (by omega) | exact ok1 (by omega) | exact ok2 (by omega) | exact ok7 (by omega)) (inb_vp c) ?_
    obtain ⟨_, c, h⟩ := bd_inv h
    cases c
    cases h
    exact go_return 65 rfl rfl ⟨rfl, rfl⟩
  · replace h := ite_f c h
    refine go_aload_n 31 rfl 0 rfl rfl ?_
    refine go_getfield 2 _ 32 rfl (by first | decide | exact ok0 (by omega) | exact ok1 (by omega) | exact ok2 (by omega) | exact ok7 (by omega)) rfl fg_M_13 rfl ?_
    refine go_iload_n 33 rfl 1 rfl rfl ?_
    obtain ⟨c, h⟩ := ck_inv h
    refine go_iaload 34 rfl (by first | decide | exact ok0 (by omega) | exact ok1 (by omega) | exact ok2 (by omega) | exact ok7 (by omega)) (inb_vp c) ?_
    refine go_iconst 1 35 rfl (by decide) ?_
    refine go_aload_n 36 rfl 0 rfl rfl ?_
    refine go_getfield 3 _ 37 rfl (by first | decide | exact ok0 (by omega) | exact ok1 (by omega) | exact ok2 (by omega) | exact ok7 (by omega)) rfl fg_M_16 rfl ?_
    refine go_iload_n 38 rfl 1 rfl rfl ?_
    obtain ⟨c, h⟩ := ck_inv h
    refine go_iaload 39 rfl (by first | decide | exact ok0 (by omega) | exact ok1 (by omega) | exact ok2 (by omega) | exact ok7 (by omega)) (inb_vp c) ?_
    refine go_ishl 40 rfl ?_
    refine go_ior 41 rfl ?_
    refine go_goto 80 42 rfl (by decide) ?_
    obtain ⟨c, h⟩ := ck_inv h
    refine go_iastore 56 rfl (by first | decide | exact ok0 (by omega) | exact ok1 (by omega) | exact ok2 (by omega) | exact ok7 (by omega)) (inb_vp c) ?_
    obtain ⟨_, c, h⟩ := bd_inv h
    cases c
    refine go_aload_n 57 rfl 0 rfl rfl ?_
    refine go_getfield 3 _ 58 rfl (by first | decide | exact ok0 (by omega) | exact ok1 (by omega) | exact ok2 (by omega) | exact ok7 (by omega)) rfl fg_M_16 rfl ?_
    refine go_iload_n 59 rfl 1 rfl rfl ?_
    refine go_dup2 60 rfl rfl rfl ?_
    obtain ⟨c, h⟩ := ck_inv h
    refine go_iaload 61 rfl (by first | decide | exact ok0 (by omega) | exact ok1 (by omega) | exact ok2 (by omega) | exact ok7 (by omega)) (inb_vp c) ?_
    refine go_iconst 1 62 rfl (by decide) ?_
    refine go_iadd 63 rfl ?_
    obtain ⟨c, h⟩ := ck_inv h
    refine go_iastore 64 rfl (by first | decide | exact ok0 (by omega) | exact ok1 (by omega) | exact ok2 (by omega) | exact ok7 (by omega)) (inb_vp c) ?_
    obtain ⟨_, c, h⟩ := bd_inv h
    cases c
    cases h
    exact go_return 65 rfl rfl ⟨rfl, rfl⟩
def X_M_state : MX := (⟨"OmegaDeskModel", "state", "(IZ)I"⟩, prog_8_method_6_code, 3, some .int, { frames := 1, cells := 0, slots := 0, locals := 22 },
  [(0, .aload_n 0, 1), (1, .iload_n 1, 2), (2, .bipush 6, 4), (4, .invokestatic 45, 7), (7, .ifCond .eq 7, 10), (10, .iconst 1, 11), (11, .goto 18, 14), (14, .aload_n 0, 15), (15, .getfield 16, 18), (18, .iload_n 1, 19), (19, .iaload, 20), (20, .iconst 4, 21), (21, .if_icmp .ne 7, 24), (24, .iconst 2, 25), (25, .goto 4, 28), (28, .iconst 0, 29), (29, .putfield 41, 32), (32, .aload_n 0, 33), (33, .getfield 41, 36), (36, .ifCond .le 5, 39), (39, .iconst 0, 40), (40, .ireturn, 41), (41, .aload_n 0, 42), (42, .iload_n 1, 43), (43, .iload_n 2, 44), (44, .invokevirtual 49, 47), (47, .aload_n 0, 48), (48, .getfield 16, 51), (51, .iload_n 1, 52), (52, .iaload, 53), (53, .iconst 1, 54), (54, .isub, 55), (55, .ireturn, 56)])
set_option maxRecDepth 20000 in
theorem mk_M_state : Mk X_M_state := ⟨by unfold TBk; decide +kernel, by decide +kernel, wb_570, ⟨by decide, by decide⟩, rfl, rfl, wb_6⟩
theorem cs_M_45 : CS "OmegaDeskModel" 45 X_M_out 2 := ⟨Or.inl wb_571, wb_572, by decide +kernel⟩
theorem cv_M_49 : CV "OmegaDeskModel" 49 X_M_add 2 8 := ⟨Or.inl wb_574, ⟨wb_576, ws_M_add⟩, by decide +kernel, F_M, 12, rfl⟩
def m_M_state (a1 : Int32) (a2 : Bool) (M : Mm) : Option (Int32 × Mm) :=
  bd (m_M_out a1 (6 : Int32)) fun r1 =>
  if (bI r1) = 0 then
    ck (inb a1 (lenI 18)) <|
    if (M.1 (1, 18) a1.toNatClampNeg) = (4 : Int32) then
      bd (some (uI M (8, 0) 0 (2 : Int32))) fun M4 =>
      if (M4.1 (8, 0) 0) ≤ 0 then
        bd (m_M_add a1 a2 M4) fun r5 =>
        ck (inb a1 (lenI 18)) <|
        some (((r5.1 (1, 18) a1.toNatClampNeg) - (1 : Int32)), r5)
      else
        some ((0 : Int32), M4)
    else
      bd (some (uI M (8, 0) 0 (0 : Int32))) fun M2 =>
      if (M2.1 (8, 0) 0) ≤ 0 then
        bd (m_M_add a1 a2 M2) fun r3 =>
        ck (inb a1 (lenI 18)) <|
        some (((r3.1 (1, 18) a1.toNatClampNeg) - (1 : Int32)), r3)
      else
        some ((0 : Int32), M2)
  else
    bd (some (uI M (8, 0) 0 (1 : Int32))) fun M6 =>
    if (M6.1 (8, 0) 0) ≤ 0 then
      bd (m_M_add a1 a2 M6) fun r7 =>
      ck (inb a1 (lenI 18)) <|
      some (((r7.1 (1, 18) a1.toNatClampNeg) - (1 : Int32)), r7)
    else
      some ((0 : Int32), M6)
set_option maxRecDepth 20000 in
theorem e_M_state {l : Launch} {a1 : Int32} {a2 : Bool} {M : Mm} {r : Int32 × Mm}  (h : m_M_state a1 a2 M = some r) : Ev l X_M_state [vr 8 0, vi a1, vi (bI a2)] M (fun v M2 => v = (some (vi r.1)) ∧ M2 = r.2) := by
  refine Ev.of mk_M_state [(0, vr 8 0), (1, vi a1), (2, vi (bI a2))] (fun _ => rfl) (fun _ => (Nat.le_of_ble_eq_true rfl)) ?_
  unfold m_M_state at h
  refine go_aload_n 0 rfl 0 rfl rfl ?_
  refine go_iload_n 1 rfl 1 rfl rfl ?_
  refine go_bipush 6 2 rfl (by decide) ?_
  obtain ⟨r1, c, h⟩ := bd_inv h
  refine go_callS1 _ 3 rfl (e_M_out c) mk_M_out cs_M_45 rfl ⟨(Nat.le_of_ble_eq_true rfl), (Nat.le_of_ble_eq_true rfl)⟩ (Nat.le_of_ble_eq_true rfl) rfl ?_
  refine go_if_eq 14 4 rfl (by decide) (fun c => ?_) (fun c => ?_)
  · replace h := ite_t c h
    refine go_aload_n 7 rfl 0 rfl rfl ?_
    refine go_getfield 3 _ 8 rfl (by first | decide | exact ok0 (by omega) | exact ok1 (by omega) | exact ok2 (by omega) | exact ok7 (by omega)) rfl fg_M_16 rfl ?_
    refine go_iload_n 9 rfl 1 rfl rfl ?_
    obtain ⟨c, h⟩ := ck_inv h
    refine go_iaload 10 rfl (by first | decide | exact ok0 (by omega) | exact ok1 (by omega) | exact ok2 (by omega) | exact ok7 (by omega)) (inb_vp c) ?_
    refine go_iconst 4 11 rfl (by decide) ?_
    refine go_icmp_ne 28 12 rfl (by decide) (fun c => ?_) (fun c => ?_)
    · replace h := ite_f c h
      refine go_iconst 0 15 rfl (by decide) ?_
      refine go_putfield 0 .int 16 rfl (by first | decide | exact ok0 (by omega) | exact ok1 (by omega) | exact ok2 (by omega) | exact ok7 (by omega)) rfl fp_M_41 rfl rfl (Nat.le_of_ble_eq_true rfl) rfl ?_
      obtain ⟨_, c, h⟩ := bd_inv h
      cases c
      refine go_aload_n 17 rfl 0 rfl rfl ?_
      refine go_getfield 0 _ 18 rfl (by first | decide | exact ok0 (by omega) | exact ok1 (by omega) | exact ok2 (by omega) | exact ok7 (by omega)) rfl fg_M_41 rfl ?_
      refine go_if_le 41 19 rfl (by decide) (fun c => ?_) (fun c => ?_)
      · replace h := ite_t c h
        refine go_aload_n 22 rfl 0 rfl rfl ?_
        refine go_iload_n 23 rfl 1 rfl rfl ?_
        refine go_iload_n 24 rfl 2 rfl rfl ?_
        obtain ⟨r3, c, h⟩ := bd_inv h
        refine go_callV1 _ 25 rfl (e_M_add c) mk_M_add (by first | decide | exact ok0 (by omega) | exact ok1 (by omega) | exact ok2 (by omega) | exact ok7 (by omega)) rfl cv_M_49 rfl ⟨(Nat.le_of_ble_eq_true rfl), (Nat.le_of_ble_eq_true rfl)⟩ (Nat.le_of_ble_eq_true rfl) rfl ?_
        refine go_aload_n 26 rfl 0 rfl rfl ?_
        refine go_getfield 3 _ 27 rfl (by first | decide | exact ok0 (by omega) | exact ok1 (by omega) | exact ok2 (by omega) | exact ok7 (by omega)) rfl fg_M_16 rfl ?_
        refine go_iload_n 28 rfl 1 rfl rfl ?_
        obtain ⟨c, h⟩ := ck_inv h
        refine go_iaload 29 rfl (by first | decide | exact ok0 (by omega) | exact ok1 (by omega) | exact ok2 (by omega) | exact ok7 (by omega)) (inb_vp c) ?_
        refine go_iconst 1 30 rfl (by decide) ?_
        refine go_isub 31 rfl ?_
        cases h
        exact go_ireturn 32 rfl rfl rfl ⟨rfl, rfl⟩
      · replace h := ite_f c h
        refine go_iconst 0 20 rfl (by decide) ?_
        cases h
        exact go_ireturn 21 rfl rfl rfl ⟨rfl, rfl⟩
    · replace h := ite_t c h
      refine go_iconst 2 13 rfl (by decide) ?_
      refine go_goto 29 14 rfl (by decide) ?_
      refine go_putfield 0 .int 16 rfl (by first | decide | exact ok0 (by omega) | exact ok1 (by omega) | exact ok2 (by omega) | exact ok7 (by omega)) rfl fp_M_41 rfl rfl (Nat.le_of_ble_eq_true rfl) rfl ?_
      obtain ⟨_, c, h⟩ := bd_inv h
      cases c
      refine go_aload_n 17 rfl 0 rfl rfl ?_
      refine go_getfield 0 _ 18 rfl (by first | decide | exact ok0 (by omega) | exact ok1 (by omega) | exact ok2 (by omega) | exact ok7 (by omega)) rfl fg_M_41 rfl ?_
      refine go_if_le 41 19 rfl (by decide) (fun c => ?_) (fun c => ?_)
      · replace h := ite_t c h
        refine go_aload_n 22 rfl 0 rfl rfl ?_
        refine go_iload_n 23 rfl 1 rfl rfl ?_
        refine go_iload_n 24 rfl 2 rfl rfl ?_
        obtain ⟨r5, c, h⟩ := bd_inv h
        refine go_callV1 _ 25 rfl (e_M_add c) mk_M_add (by first | decide | exact ok0 (by omega) | exact ok1 (by omega) | exact ok2 (by omega) | exact ok7 (by omega)) rfl cv_M_49 rfl ⟨(Nat.le_of_ble_eq_true rfl), (Nat.le_of_ble_eq_true rfl)⟩ (Nat.le_of_ble_eq_true rfl) rfl ?_
        refine go_aload_n 26 rfl 0 rfl rfl ?_
        refine go_getfield 3 _ 27 rfl (by first | decide | exact ok0 (by omega) | exact ok1 (by omega) | exact ok2 (by omega) | exact ok7 (by omega)) rfl fg_M_16 rfl ?_
        refine go_iload_n 28 rfl 1 rfl rfl ?_
        obtain ⟨c, h⟩ := ck_inv h
        refine go_iaload 29 rfl (by first | decide | exact ok0 (by omega) | exact ok1 (by omega) | exact ok2 (by omega) | exact ok7 (by omega)) (inb_vp c) ?_
        refine go_iconst 1 30 rfl (by decide) ?_
        refine go_isub 31 rfl ?_
        cases h
        exact go_ireturn 32 rfl rfl rfl ⟨rfl, rfl⟩
      · replace h := ite_f c h
        refine go_iconst 0 20 rfl (by decide) ?_
        cases h
        exact go_ireturn 21 rfl rfl rfl ⟨rfl, rfl⟩
  · replace h := ite_f c h
    refine go_iconst 1 5 rfl (by decide) ?_
    refine go_goto 29 6 rfl (by decide) ?_
    refine go_putfield 0 .int 16 rfl (by first | decide | exact ok0 (by omega) | exact ok1 (by omega) | exact ok2 (by omega) | exact ok7 (by omega)) rfl fp_M_41 rfl rfl (Nat.le_of_ble_eq_true rfl) rfl ?_
    obtain ⟨_, c, h⟩ := bd_inv h
    cases c
    refine go_aload_n 17 rfl 0 rfl rfl ?_
    refine go_getfield 0 _ 18 rfl (by first | decide | exact ok0 (by omega) | exact ok1 (by omega) | exact ok2 (by omega) | exact ok7 (by omega)) rfl fg_M_41 rfl ?_
    refine go_if_le 41 19 rfl (by decide) (fun c => ?_) (fun c => ?_)
    · replace h := ite_t c h
      refine go_aload_n 22 rfl 0 rfl rfl ?_
      refine go_iload_n 23 rfl 1 rfl rfl ?_
      refine go_iload_n 24 rfl 2 rfl rfl ?_
      obtain ⟨r7, c, h⟩ := bd_inv h
      refine go_callV1 _ 25 rfl (e_M_add c) mk_M_add (by first | decide | exact ok0 (by omega) | exact ok1 (by omega) | exact ok2 (by omega) | exact ok7 (by omega)) rfl cv_M_49 rfl ⟨(Nat.le_of_ble_eq_true rfl), (Nat.le_of_ble_eq_true rfl)⟩ (Nat.le_of_ble_eq_true rfl) rfl ?_
      refine go_aload_n 26 rfl 0 rfl rfl ?_
      refine go_getfield 3 _ 27 rfl (by first | decide | exact ok0 (by omega) | exact ok1 (by omega) | exact ok2 (by omega) | exact ok7 (by omega)) rfl fg_M_16 rfl ?_
      refine go_iload_n 28 rfl 1 rfl rfl ?_
      obtain ⟨c, h⟩ := ck_inv h
      refine go_iaload 29 rfl (by first | decide | exact ok0 (by omega) | exact ok1 (by omega) | exact ok2 (by omega) | exact ok7 (by omega)) (inb_vp c) ?_
      refine go_iconst 1 30 rfl (by decide) ?_
      refine go_isub 31 rfl ?_
      cases h
      exact go_ireturn 32 rfl rfl rfl ⟨rfl, rfl⟩
    · replace h := ite_f c h
      refine go_iconst 0 20 rfl (by decide) ?_
      cases h
      exact go_ireturn 21 rfl rfl rfl ⟨rfl, rfl⟩
def X_M_isEdge : MX := (⟨"OmegaDeskModel", "isEdge", "(IIII)Z"⟩, prog_8_method_7_code, 5, some .boolean, { frames := 1, cells := 0, slots := 0, locals := 21 },
  [(0, .iload_n 1, 1), (1, .bipush 6, 3), (3, .invokestatic 45, 6), (6, .ifCond .ne 42, 9), (9, .iload_n 2, 10), (10, .aload_n 0, 11), (11, .getfield 16, 14), (14, .iload_n 1, 15), (15, .iaload, 16), (16, .invokestatic 45, 19), (19, .ifCond .ne 29, 22), (22, .iload 4, 24), (24, .aload_n 0, 25), (25, .getfield 16, 28), (28, .iload_n 1, 29), (29, .iaload, 30), (30, .invokestatic 45, 33), (33, .ifCond .ne 15, 36), (36, .iload_n 3, 37), (37, .iconst 2, 38), (38, .invokestatic 45, 41), (41, .ifCond .ne 7, 44), (44, .iconst 1, 45), (45, .goto 4, 48), (48, .iconst 0, 49), (49, .ireturn, 50)])
set_option maxRecDepth 20000 in
theorem mk_M_isEdge : Mk X_M_isEdge := ⟨by unfold TBk; decide +kernel, by decide +kernel, wb_585, ⟨by decide, by decide⟩, rfl, rfl, wb_6⟩
def m_M_isEdge (a1 : Int32) (a2 : Int32) (a3 : Int32) (a4 : Int32) (M : Mm) : Option (Bool) :=
  bd (m_M_out a1 (6 : Int32)) fun r1 =>
  if (bI r1) = 0 then
    ck (inb a1 (lenI 18)) <|
    bd (m_M_out a2 (M.1 (1, 18) a1.toNatClampNeg)) fun r2 =>
    if (bI r2) = 0 then
      ck (inb a1 (lenI 18)) <|
      bd (m_M_out a4 (M.1 (1, 18) a1.toNatClampNeg)) fun r3 =>
      if (bI r3) = 0 then
        bd (m_M_out a3 (2 : Int32)) fun r4 =>
        if (bI r4) = 0 then
          some true
        else
          some false
      else
        some false
    else
      some false
  else
    some false
set_option maxRecDepth 20000 in
theorem e_M_isEdge {l : Launch} {a1 : Int32} {a2 : Int32} {a3 : Int32} {a4 : Int32} {M : Mm} {r : Bool}  (h : m_M_isEdge a1 a2 a3 a4 M = some r) : Ev l X_M_isEdge [vr 8 0, vi a1, vi a2, vi a3, vi a4] M (fun v M2 => v = (some (vi (bI r))) ∧ M2 = M) := by
  refine Ev.of mk_M_isEdge [(0, vr 8 0), (1, vi a1), (2, vi a2), (3, vi a3), (4, vi a4)] (fun _ => rfl) (fun _ => (Nat.le_of_ble_eq_true rfl)) ?_
  unfold m_M_isEdge at h
  refine go_iload_n 0 rfl 1 rfl rfl ?_
  refine go_bipush 6 1 rfl (by decide) ?_
  obtain ⟨r1, c, h⟩ := bd_inv h
  refine go_callS1 _ 2 rfl (e_M_out c) mk_M_out cs_M_45 rfl ⟨(Nat.le_of_ble_eq_true rfl), (Nat.le_of_ble_eq_true rfl)⟩ (Nat.le_of_ble_eq_true rfl) rfl ?_
  refine go_if_ne 48 3 rfl (by decide) (fun c => ?_) (fun c => ?_)
  · replace h := ite_f c h
    refine go_iconst 0 24 rfl (by decide) ?_
    cases h
    exact go_ireturn 25 rfl rfl rfl ⟨rfl, rfl⟩
  · replace h := ite_t c h
    refine go_iload_n 4 rfl 2 rfl rfl ?_
    refine go_aload_n 5 rfl 0 rfl rfl ?_
    refine go_getfield 3 _ 6 rfl (by first | decide | exact ok0 (by omega) | exact ok1 (by omega) | exact ok2 (by omega) | exact ok7 (by omega)) rfl fg_M_16 rfl ?_
    refine go_iload_n 7 rfl 1 rfl rfl ?_
    obtain ⟨c, h⟩ := ck_inv h
    refine go_iaload 8 rfl (by first | decide | exact ok0 (by omega) | exact ok1 (by omega) | exact ok2 (by omega) | exact ok7 (by omega)) (inb_vp c) ?_
    obtain ⟨r2, c, h⟩ := bd_inv h
    refine go_callS1 _ 9 rfl (e_M_out c) mk_M_out cs_M_45 rfl ⟨(Nat.le_of_ble_eq_true rfl), (Nat.le_of_ble_eq_true rfl)⟩ (Nat.le_of_ble_eq_true rfl) rfl ?_
    refine go_if_ne 48 10 rfl (by decide) (fun c => ?_) (fun c => ?_)
    · replace h := ite_f c h
      refine go_iconst 0 24 rfl (by decide) ?_
      cases h
      exact go_ireturn 25 rfl rfl rfl ⟨rfl, rfl⟩
    · replace h := ite_t c h
      refine go_iload 11 rfl 4 rfl ?_
      refine go_aload_n 12 rfl 0 rfl rfl ?_
      refine go_getfield 3 _ 13 rfl (by first | decide | exact ok0 (by omega) | exact ok1 (by omega) | exact ok2 (by omega) | exact ok7 (by omega)) rfl fg_M_16 rfl ?_
      refine go_iload_n 14 rfl 1 rfl rfl ?_
      obtain ⟨c, h⟩ := ck_inv h
      refine go_iaload 15 rfl (by first | decide | exact ok0 (by omega) | exact ok1 (by omega) | exact ok2 (by omega) | exact ok7 (by omega)) (inb_vp c) ?_
      obtain ⟨r3, c, h⟩ := bd_inv h
      refine go_callS1 _ 16 rfl (e_M_out c) mk_M_out cs_M_45 rfl ⟨(Nat.le_of_ble_eq_true rfl), (Nat.le_of_ble_eq_true rfl)⟩ (Nat.le_of_ble_eq_true rfl) rfl ?_
      refine go_if_ne 48 17 rfl (by decide) (fun c => ?_) (fun c => ?_)
      · replace h := ite_f c h
        refine go_iconst 0 24 rfl (by decide) ?_
        cases h
        exact go_ireturn 25 rfl rfl rfl ⟨rfl, rfl⟩
      · replace h := ite_t c h
        refine go_iload_n 18 rfl 3 rfl rfl ?_
        refine go_iconst 2 19 rfl (by decide) ?_
        obtain ⟨r4, c, h⟩ := bd_inv h
        refine go_callS1 _ 20 rfl (e_M_out c) mk_M_out cs_M_45 rfl ⟨(Nat.le_of_ble_eq_true rfl), (Nat.le_of_ble_eq_true rfl)⟩ (Nat.le_of_ble_eq_true rfl) rfl ?_
        refine go_if_ne 48 21 rfl (by decide) (fun c => ?_) (fun c => ?_)
        · replace h := ite_f c h
          refine go_iconst 0 24 rfl (by decide) ?_
          cases h
          exact go_ireturn 25 rfl rfl rfl ⟨rfl, rfl⟩
        · replace h := ite_t c h
          refine go_iconst 1 22 rfl (by decide) ?_
          refine go_goto 49 23 rfl (by decide) ?_
          cases h
          exact go_ireturn 25 rfl rfl rfl ⟨rfl, rfl⟩
def X_M_edge : MX := (⟨"OmegaDeskModel", "edge", "(IIII)Z"⟩, prog_8_method_8_code, 7, some .boolean, { frames := 2, cells := 0, slots := 0, locals := 45 },
  [(0, .aload_n 0, 1), (1, .aload_n 0, 2), (2, .iload_n 1, 3), (3, .iload_n 2, 4), (4, .iload_n 3, 5), (5, .iload 4, 7), (7, .invokevirtual 53, 10), (10, .ifCond .eq 7, 13), (13, .iconst 0, 14), (14, .goto 4, 17), (17, .iconst 1, 18), (18, .putfield 41, 21), (21, .aload_n 0, 22), (22, .getfield 41, 25), (25, .ifCond .le 5, 28), (28, .iconst 0, 29), (29, .ireturn, 30), (30, .bipush 8, 32), (32, .iload_n 1, 33), (33, .imul, 34), (34, .iconst 4, 35), (35, .iload_n 3, 36), (36, .imul, 37), (37, .iadd, 38), (38, .iload_n 2, 39), (39, .iadd, 40), (40, .istore 5, 42), (42, .aload_n 0, 43), (43, .getfield 7, 46), (46, .iload 5, 48), (48, .iaload, 49), (49, .iload 4, 51), (51, .ishr, 52), (52, .iconst 1, 53), (53, .iand, 54), (54, .iconst 1, 55), (55, .if_icmp .ne 7, 58), (58, .iconst 1, 59), (59, .goto 4, 62), (62, .iconst 0, 63), (63, .istore 6, 65), (65, .aload_n 0, 66), (66, .getfield 7, 69), (69, .iload 5, 71), (71, .aload_n 0, 72), (72, .getfield 7, 75), (75, .iload 5, 77), (77, .iaload, 78), (78, .iconst 1, 79), (79, .iload 4, 81), (81, .ishl, 82), (82, .ior, 83), (83, .iastore, 84), (84, .iload 6, 86), (86, .ifCond .ne 7, 89), (89, .iconst 1, 90), (90, .goto 4, 93), (93, .iconst 0, 94), (94, .ireturn, 95)])
set_option maxRecDepth 20000 in
theorem mk_M_edge : Mk X_M_edge := ⟨by unfold TBk; decide +kernel, by decide +kernel, wb_581, ⟨by decide, by decide⟩, rfl, rfl, wb_6⟩
theorem cv_M_53 : CV "OmegaDeskModel" 53 X_M_isEdge 4 8 := ⟨Or.inl wb_582, ⟨wb_584, ws_M_isEdge⟩, by decide +kernel, F_M, 12, rfl⟩
def m_M_edge (a1 : Int32) (a2 : Int32) (a3 : Int32) (a4 : Int32) (M : Mm) : Option (Bool × Mm) :=
  bd (m_M_isEdge a1 a2 a3 a4 M) fun r1 =>
  if (bI r1) = 0 then
    bd (some (uI M (8, 0) 0 (1 : Int32))) fun M2 =>
    if (M2.1 (8, 0) 0) ≤ 0 then
      bd (some ((((8 : Int32) * a1) + ((4 : Int32) * a3)) + a2)) fun x3 =>
      ck (inb x3 (lenI 16)) <|
      if (((M2.1 (1, 16) x3.toNatClampNeg) >>> (a4 &&& 31)) &&& (1 : Int32)) = (1 : Int32) then
        ck (inb x3 (lenI 16)) <|
        ck (inb x3 (lenI 16)) <|
        bd (some (uI M2 (1, 16) x3.toNatClampNeg ((M2.1 (1, 16) x3.toNatClampNeg) ||| ((1 : Int32) <<< (a4 &&& 31))))) fun M5 =>
        some (false, M5)
      else
        ck (inb x3 (lenI 16)) <|
        ck (inb x3 (lenI 16)) <|
        bd (some (uI M2 (1, 16) x3.toNatClampNeg ((M2.1 (1, 16) x3.toNatClampNeg) ||| ((1 : Int32) <<< (a4 &&& 31))))) fun M4 =>
        some (true, M4)
    else
      some (false, M2)
  else
    bd (some (uI M (8, 0) 0 (0 : Int32))) fun M6 =>
    if (M6.1 (8, 0) 0) ≤ 0 then
      bd (some ((((8 : Int32) * a1) + ((4 : Int32) * a3)) + a2)) fun x7 =>
      ck (inb x7 (lenI 16)) <|
      if (((M6.1 (1, 16) x7.toNatClampNeg) >>> (a4 &&& 31)) &&& (1 : Int32)) = (1 : Int32) then
        ck (inb x7 (lenI 16)) <|
        ck (inb x7 (lenI 16)) <|
        bd (some (uI M6 (1, 16) x7.toNatClampNeg ((M6.1 (1, 16) x7.toNatClampNeg) ||| ((1 : Int32) <<< (a4 &&& 31))))) fun M9 =>
        some (false, M9)
      else
        ck (inb x7 (lenI 16)) <|
        ck (inb x7 (lenI 16)) <|
        bd (some (uI M6 (1, 16) x7.toNatClampNeg ((M6.1 (1, 16) x7.toNatClampNeg) ||| ((1 : Int32) <<< (a4 &&& 31))))) fun M8 =>
        some (true, M8)
    else
      some (false, M6)
set_option maxRecDepth 20000 in
theorem e_M_edge {l : Launch} {a1 : Int32} {a2 : Int32} {a3 : Int32} {a4 : Int32} {M : Mm} {r : Bool × Mm}  (h : m_M_edge a1 a2 a3 a4 M = some r) : Ev l X_M_edge [vr 8 0, vi a1, vi a2, vi a3, vi a4] M (fun v M2 => v = (some (vi (bI r.1))) ∧ M2 = r.2) := by
  refine Ev.of mk_M_edge [(0, vr 8 0), (1, vi a1), (2, vi a2), (3, vi a3), (4, vi a4)] (fun _ => rfl) (fun _ => (Nat.le_of_ble_eq_true rfl)) ?_
  unfold m_M_edge at h
  refine go_aload_n 0 rfl 0 rfl rfl ?_
  refine go_aload_n 1 rfl 0 rfl rfl ?_
  refine go_iload_n 2 rfl 1 rfl rfl ?_
  refine go_iload_n 3 rfl 2 rfl rfl ?_
  refine go_iload_n 4 rfl 3 rfl rfl ?_
  refine go_iload 5 rfl 4 rfl ?_
  obtain ⟨r1, c, h⟩ := bd_inv h
  refine go_callV1 _ 6 rfl (e_M_isEdge c) mk_M_isEdge (by first | decide | exact ok0 (by omega) | exact ok1 (by omega) | exact ok2 (by omega) | exact ok7 (by omega)) rfl cv_M_53 rfl ⟨(Nat.le_of_ble_eq_true rfl), (Nat.le_of_ble_eq_true rfl)⟩ (Nat.le_of_ble_eq_true rfl) rfl ?_
  refine go_if_eq 17 7 rfl (by decide) (fun c => ?_) (fun c => ?_)
  · replace h := ite_t c h
    refine go_iconst 1 10 rfl (by decide) ?_
    refine go_putfield 0 .int 11 rfl (by first | decide | exact ok0 (by omega) | exact ok1 (by omega) | exact ok2 (by omega) | exact ok7 (by omega)) rfl fp_M_41 rfl rfl (Nat.le_of_ble_eq_true rfl) rfl ?_
    obtain ⟨_, c, h⟩ := bd_inv h
    cases c
    refine go_aload_n 12 rfl 0 rfl rfl ?_
    refine go_getfield 0 _ 13 rfl (by first | decide | exact ok0 (by omega) | exact ok1 (by omega) | exact ok2 (by omega) | exact ok7 (by omega)) rfl fg_M_41 rfl ?_
    refine go_if_le 30 14 rfl (by decide) (fun c => ?_) (fun c => ?_)
    · replace h := ite_t c h
      refine go_bipush 8 17 rfl (by decide) ?_
      refine go_iload_n 18 rfl 1 rfl rfl ?_
      refine go_imul 19 rfl ?_
      refine go_iconst 4 20 rfl (by decide) ?_
      refine go_iload_n 21 rfl 3 rfl rfl ?_
      refine go_imul 22 rfl ?_
      refine go_iadd 23 rfl ?_
      refine go_iload_n 24 rfl 2 rfl rfl ?_
      refine go_iadd 25 rfl ?_
      obtain ⟨_, c, h⟩ := bd_inv h
      cases c
      refine go_istore 26 rfl (Nat.le_of_ble_eq_true rfl) [(0, _), (1, _), (2, _), (3, _), (4, _), (5, _)] rfl ?_
      refine go_aload_n 27 rfl 0 rfl rfl ?_
      refine go_getfield 1 _ 28 rfl (by first | decide | exact ok0 (by omega) | exact ok1 (by omega) | exact ok2 (by omega) | exact ok7 (by omega)) rfl fg_M_7 rfl ?_
      refine go_iload 29 rfl 5 rfl ?_
      obtain ⟨c, h⟩ := ck_inv h
      refine go_iaload 30 rfl (by first | decide | exact ok0 (by omega) | exact ok1 (by omega) | exact ok2 (by omega) | exact ok7 (by omega)) (inb_vp c) ?_
      refine go_iload 31 rfl 4 rfl ?_
      refine go_ishr 32 rfl ?_
      refine go_iconst 1 33 rfl (by decide) ?_
      refine go_iand 34 rfl ?_
      refine go_iconst 1 35 rfl (by decide) ?_
      refine go_icmp_ne 62 36 rfl (by decide) (fun c => ?_) (fun c => ?_)
      · replace h := ite_f c h
        refine go_iconst 0 39 rfl (by decide) ?_
        refine go_istore 40 rfl (Nat.le_of_ble_eq_true rfl) [(0, _), (1, _), (2, _), (3, _), (4, _), (5, _), (6, _)] rfl ?_
        refine go_aload_n 41 rfl 0 rfl rfl ?_
        refine go_getfield 1 _ 42 rfl (by first | decide | exact ok0 (by omega) | exact ok1 (by omega) | exact ok2 (by omega) | exact ok7 (by omega)) rfl fg_M_7 rfl ?_
        refine go_iload 43 rfl 5 rfl ?_
        refine go_aload_n 44 rfl 0 rfl rfl ?_
        refine go_getfield 1 _ 45 rfl (by first | decide | exact ok0 (by omega) | exact ok1 (by omega) | exact ok2 (by omega) | exact ok7 (by omega)) rfl fg_M_7 rfl ?_
        refine go_iload 46 rfl 5 rfl ?_
        obtain ⟨c, h⟩ := ck_inv h
        refine go_iaload 47 rfl (by first | decide | exact ok0 (by omega) | exact ok1 (by omega) | exact ok2 (by omega) | exact ok7 (by omega)) (inb_vp c) ?_
        refine go_iconst 1 48 rfl (by decide) ?_
        refine go_iload 49 rfl 4 rfl ?_
        refine go_ishl 50 rfl ?_
        refine go_ior 51 rfl ?_
        obtain ⟨c, h⟩ := ck_inv h
        refine go_iastore 52 rfl (by first | decide | exact ok0 (by omega) | exact ok1 (by omega) | exact ok2 (by omega) | exact ok7 (by omega)) (inb_vp c) ?_
        obtain ⟨_, c, h⟩ := bd_inv h
        cases c
        refine go_iload 53 rfl 6 rfl ?_
        refine go_if_ne 93 54 rfl (by decide) (fun c => absurd c (by decide)) (fun _ => ?_)
        refine go_iconst 1 55 rfl (by decide) ?_
        refine go_goto 94 56 rfl (by decide) ?_
        cases h
        exact go_ireturn 58 rfl rfl rfl ⟨rfl, rfl⟩
      · replace h := ite_t c h
        refine go_iconst 1 37 rfl (by decide) ?_
        refine go_goto 63 38 rfl (by decide) ?_
        refine go_istore 40 rfl (Nat.le_of_ble_eq_true rfl) [(0, _), (1, _), (2, _), (3, _), (4, _), (5, _), (6, _)] rfl ?_
        refine go_aload_n 41 rfl 0 rfl rfl ?_
        refine go_getfield 1 _ 42 rfl (by first | decide | exact ok0 (by omega) | exact ok1 (by omega) | exact ok2 (by omega) | exact ok7 (by omega)) rfl fg_M_7 rfl ?_
        refine go_iload 43 rfl 5 rfl ?_
        refine go_aload_n 44 rfl 0 rfl rfl ?_
        refine go_getfield 1 _ 45 rfl (by first | decide | exact ok0 (by omega) | exact ok1 (by omega) | exact ok2 (by omega) | exact ok7 (by omega)) rfl fg_M_7 rfl ?_
        refine go_iload 46 rfl 5 rfl ?_
        obtain ⟨c, h⟩ := ck_inv h
        refine go_iaload 47 rfl (by first | decide | exact ok0 (by omega) | exact ok1 (by omega) | exact ok2 (by omega) | exact ok7 (by omega)) (inb_vp c) ?_
        refine go_iconst 1 48 rfl (by decide) ?_
        refine go_iload 49 rfl 4 rfl ?_
        refine go_ishl 50 rfl ?_
        refine go_ior 51 rfl ?_
        obtain ⟨c, h⟩ := ck_inv h
        refine go_iastore 52 rfl (by first | decide | exact ok0 (by omega) | exact ok1 (by omega) | exact ok2 (by omega) | exact ok7 (by omega)) (inb_vp c) ?_
        obtain ⟨_, c, h⟩ := bd_inv h
        cases c
        refine go_iload 53 rfl 6 rfl ?_
        refine go_if_ne 93 54 rfl (by decide) (fun _ => ?_) (fun c => absurd c (by decide))
        refine go_iconst 0 57 rfl (by decide) ?_
        cases h
        exact go_ireturn 58 rfl rfl rfl ⟨rfl, rfl⟩
    · replace h := ite_f c h
      refine go_iconst 0 15 rfl (by decide) ?_
      cases h
      exact go_ireturn 16 rfl rfl rfl ⟨rfl, rfl⟩
  · replace h := ite_f c h
    refine go_iconst 0 8 rfl (by decide) ?_
    refine go_goto 18 9 rfl (by decide) ?_
    refine go_putfield 0 .int 11 rfl (by first | decide | exact ok0 (by omega) | exact ok1 (by omega) | exact ok2 (by omega) | exact ok7 (by omega)) rfl fp_M_41 rfl rfl (Nat.le_of_ble_eq_true rfl) rfl ?_
    obtain ⟨_, c, h⟩ := bd_inv h
    cases c
    refine go_aload_n 12 rfl 0 rfl rfl ?_
    refine go_getfield 0 _ 13 rfl (by first | decide | exact ok0 (by omega) | exact ok1 (by omega) | exact ok2 (by omega) | exact ok7 (by omega)) rfl fg_M_41 rfl ?_
    refine go_if_le 30 14 rfl (by decide) (fun c => ?_) (fun c => ?_)
    · replace h := ite_t c h
      refine go_bipush 8 17 rfl (by decide) ?_
      refine go_iload_n 18 rfl 1 rfl rfl ?_
      refine go_imul 19 rfl ?_
      refine go_iconst 4 20 rfl (by decide) ?_
      refine go_iload_n 21 rfl 3 rfl rfl ?_
      refine go_imul 22 rfl ?_
      refine go_iadd 23 rfl ?_
      refine go_iload_n 24 rfl 2 rfl rfl ?_
      refine go_iadd 25 rfl ?_
      obtain ⟨_, c, h⟩ := bd_inv h
      cases c
      refine go_istore 26 rfl (Nat.le_of_ble_eq_true rfl) [(0, _), (1, _), (2, _), (3, _), (4, _), (5, _)] rfl ?_
      refine go_aload_n 27 rfl 0 rfl rfl ?_
      refine go_getfield 1 _ 28 rfl (by first | decide | exact ok0 (by omega) | exact ok1 (by omega) | exact ok2 (by omega) | exact ok7 (by omega)) rfl fg_M_7 rfl ?_
      refine go_iload 29 rfl 5 rfl ?_
      obtain ⟨c, h⟩ := ck_inv h
      refine go_iaload 30 rfl (by first | decide | exact ok0 (by omega) | exact ok1 (by omega) | exact ok2 (by omega) | exact ok7 (by omega)) (inb_vp c) ?_
      refine go_iload 31 rfl 4 rfl ?_
      refine go_ishr 32 rfl ?_
      refine go_iconst 1 33 rfl (by decide) ?_
      refine go_iand 34 rfl ?_
      refine go_iconst 1 35 rfl (by decide) ?_
      refine go_icmp_ne 62 36 rfl (by decide) (fun c => ?_) (fun c => ?_)
      · replace h := ite_f c h
        refine go_iconst 0 39 rfl (by decide) ?_
        refine go_istore 40 rfl (Nat.le_of_ble_eq_true rfl) [(0, _), (1, _), (2, _), (3, _), (4, _), (5, _), (6, _)] rfl ?_
        refine go_aload_n 41 rfl 0 rfl rfl ?_
        refine go_getfield 1 _ 42 rfl (by first | decide | exact ok0 (by omega) | exact ok1 (by omega) | exact ok2 (by omega) | exact ok7 (by omega)) rfl fg_M_7 rfl ?_
        refine go_iload 43 rfl 5 rfl ?_
        refine go_aload_n 44 rfl 0 rfl rfl ?_
        refine go_getfield 1 _ 45 rfl (by first | decide | exact ok0 (by omega) | exact ok1 (by omega) | exact ok2 (by omega) | exact ok7 (by omega)) rfl fg_M_7 rfl ?_
        refine go_iload 46 rfl 5 rfl ?_
        obtain ⟨c, h⟩ := ck_inv h
        refine go_iaload 47 rfl (by first | decide | exact ok0 (by omega) | exact ok1 (by omega) | exact ok2 (by omega) | exact ok7 (by omega)) (inb_vp c) ?_
        refine go_iconst 1 48 rfl (by decide) ?_
        refine go_iload 49 rfl 4 rfl ?_
        refine go_ishl 50 rfl ?_
        refine go_ior 51 rfl ?_
        obtain ⟨c, h⟩ := ck_inv h
        refine go_iastore 52 rfl (by first | decide | exact ok0 (by omega) | exact ok1 (by omega) | exact ok2 (by omega) | exact ok7 (by omega)) (inb_vp c) ?_
        obtain ⟨_, c, h⟩ := bd_inv h
        cases c
        refine go_iload 53 rfl 6 rfl ?_
        refine go_if_ne 93 54 rfl (by decide) (fun c => absurd c (by decide)) (fun _ => ?_)
        refine go_iconst 1 55 rfl (by decide) ?_
        refine go_goto 94 56 rfl (by decide) ?_
        cases h
        exact go_ireturn 58 rfl rfl rfl ⟨rfl, rfl⟩
      · replace h := ite_t c h
        refine go_iconst 1 37 rfl (by decide) ?_
        refine go_goto 63 38 rfl (by decide) ?_
        refine go_istore 40 rfl (Nat.le_of_ble_eq_true rfl) [(0, _), (1, _), (2, _), (3, _), (4, _), (5, _), (6, _)] rfl ?_
        refine go_aload_n 41 rfl 0 rfl rfl ?_
        refine go_getfield 1 _ 42 rfl (by first | decide | exact ok0 (by omega) | exact ok1 (by omega) | exact ok2 (by omega) | exact ok7 (by omega)) rfl fg_M_7 rfl ?_
        refine go_iload 43 rfl 5 rfl ?_
        refine go_aload_n 44 rfl 0 rfl rfl ?_
        refine go_getfield 1 _ 45 rfl (by first | decide | exact ok0 (by omega) | exact ok1 (by omega) | exact ok2 (by omega) | exact ok7 (by omega)) rfl fg_M_7 rfl ?_
        refine go_iload 46 rfl 5 rfl ?_
        obtain ⟨c, h⟩ := ck_inv h
        refine go_iaload 47 rfl (by first | decide | exact ok0 (by omega) | exact ok1 (by omega) | exact ok2 (by omega) | exact ok7 (by omega)) (inb_vp c) ?_
        refine go_iconst 1 48 rfl (by decide) ?_
        refine go_iload 49 rfl 4 rfl ?_
        refine go_ishl 50 rfl ?_
        refine go_ior 51 rfl ?_
        obtain ⟨c, h⟩ := ck_inv h
        refine go_iastore 52 rfl (by first | decide | exact ok0 (by omega) | exact ok1 (by omega) | exact ok2 (by omega) | exact ok7 (by omega)) (inb_vp c) ?_
        obtain ⟨_, c, h⟩ := bd_inv h
        cases c
        refine go_iload 53 rfl 6 rfl ?_
        refine go_if_ne 93 54 rfl (by decide) (fun _ => ?_) (fun c => absurd c (by decide))
        refine go_iconst 0 57 rfl (by decide) ?_
        cases h
        exact go_ireturn 58 rfl rfl rfl ⟨rfl, rfl⟩
    · replace h := ite_f c h
      refine go_iconst 0 15 rfl (by decide) ?_
      cases h
      exact go_ireturn 16 rfl rfl rfl ⟨rfl, rfl⟩
def X_M_clear : MX := (⟨"OmegaDeskModel", "clear", "(I)V"⟩, prog_8_method_9_code, 2, none, { frames := 1, cells := 0, slots := 0, locals := 21 },
  [(0, .aload_n 0, 1), (1, .iload_n 1, 2), (2, .bipush 6, 4), (4, .invokestatic 45, 7), (7, .ifCond .eq 7, 10), (10, .iconst 1, 11), (11, .goto 4, 14), (14, .iconst 0, 15), (15, .putfield 41, 18), (18, .aload_n 0, 19), (19, .getfield 41, 22), (22, .ifCond .ne 10, 25), (25, .aload_n 0, 26), (26, .getfield 16, 29), (29, .iload_n 1, 30), (30, .iconst 0, 31), (31, .iastore, 32), (32, .return_, 33)])
set_option maxRecDepth 20000 in
theorem mk_M_clear : Mk X_M_clear := ⟨by unfold TBk; decide +kernel, by decide +kernel, wb_589, ⟨by decide, by decide⟩, rfl, rfl, wb_6⟩
def m_M_clear (a1 : Int32) (M : Mm) : Option (Mm) :=
  bd (m_M_out a1 (6 : Int32)) fun r1 =>
  if (bI r1) = 0 then
    bd (some (uI M (8, 0) 0 (0 : Int32))) fun M2 =>
    if (M2.1 (8, 0) 0) = 0 then
      ck (inb a1 (lenI 18)) <|
      bd (some (uI M2 (1, 18) a1.toNatClampNeg (0 : Int32))) fun M3 =>
      some M3
    else
      some M2
  else
    bd (some (uI M (8, 0) 0 (1 : Int32))) fun M4 =>
    if (M4.1 (8, 0) 0) = 0 then
      ck (inb a1 (lenI 18)) <|
      bd (some (uI M4 (1, 18) a1.toNatClampNeg (0 : Int32))) fun M5 =>
      some M5
    else
      some M4
set_option maxRecDepth 20000 in
theorem e_M_clear {l : Launch} {a1 : Int32} {M : Mm} {r : Mm}  (h : m_M_clear a1 M = some r) : Ev l X_M_clear [vr 8 0, vi a1] M (fun v M2 => v = none ∧ M2 = r) := by
  refine Ev.of mk_M_clear [(0, vr 8 0), (1, vi a1)] (fun _ => rfl) (fun _ => (Nat.le_of_ble_eq_true rfl)) ?_
  unfold m_M_clear at h
  refine go_aload_n 0 rfl 0 rfl rfl ?_
  refine go_iload_n 1 rfl 1 rfl rfl ?_
  refine go_bipush 6 2 rfl (by decide) ?_
  obtain ⟨r1, c, h⟩ := bd_inv h
  refine go_callS1 _ 3 rfl (e_M_out c) mk_M_out cs_M_45 rfl ⟨(Nat.le_of_ble_eq_true rfl), (Nat.le_of_ble_eq_true rfl)⟩ (Nat.le_of_ble_eq_true rfl) rfl ?_
  refine go_if_eq 14 4 rfl (by decide) (fun c => ?_) (fun c => ?_)
  · replace h := ite_t c h
    refine go_iconst 0 7 rfl (by decide) ?_
    refine go_putfield 0 .int 8 rfl (by first | decide | exact ok0 (by omega) | exact ok1 (by omega) | exact ok2 (by omega) | exact ok7 (by omega)) rfl fp_M_41 rfl rfl (Nat.le_of_ble_eq_true rfl) rfl ?_
    obtain ⟨_, c, h⟩ := bd_inv h
    cases c
    refine go_aload_n 9 rfl 0 rfl rfl ?_
    refine go_getfield 0 _ 10 rfl (by first | decide | exact ok0 (by omega) | exact ok1 (by omega) | exact ok2 (by omega) | exact ok7 (by omega)) rfl fg_M_41 rfl ?_
    refine go_if_ne 32 11 rfl (by decide) (fun c => ?_) (fun c => ?_)
    · replace h := ite_f c h
      cases h
      exact go_return 17 rfl rfl ⟨rfl, rfl⟩
    · replace h := ite_t c h
      refine go_aload_n 12 rfl 0 rfl rfl ?_
      refine go_getfield 3 _ 13 rfl (by first | decide | exact ok0 (by omega) | exact ok1 (by omega) | exact ok2 (by omega) | exact ok7 (by omega)) rfl fg_M_16 rfl ?_
      refine go_iload_n 14 rfl 1 rfl rfl ?_
      refine go_iconst 0 15 rfl (by decide) ?_
      obtain ⟨c, h⟩ := ck_inv h
      refine go_iastore 16 rfl (by first | decide | exact ok0 (by omega) | exact ok1 (by omega) | exact ok2 (by omega) | exact ok7 (by omega)) (inb_vp c) ?_
      obtain ⟨_, c, h⟩ := bd_inv h
      cases c
      cases h
      exact go_return 17 rfl rfl ⟨rfl, rfl⟩
  · replace h := ite_f c h
    refine go_iconst 1 5 rfl (by decide) ?_
    refine go_goto 15 6 rfl (by decide) ?_
    refine go_putfield 0 .int 8 rfl (by first | decide | exact ok0 (by omega) | exact ok1 (by omega) | exact ok2 (by omega) | exact ok7 (by omega)) rfl fp_M_41 rfl rfl (Nat.le_of_ble_eq_true rfl) rfl ?_
    obtain ⟨_, c, h⟩ := bd_inv h
    cases c
    refine go_aload_n 9 rfl 0 rfl rfl ?_
    refine go_getfield 0 _ 10 rfl (by first | decide | exact ok0 (by omega) | exact ok1 (by omega) | exact ok2 (by omega) | exact ok7 (by omega)) rfl fg_M_41 rfl ?_
    refine go_if_ne 32 11 rfl (by decide) (fun c => ?_) (fun c => ?_)
    · replace h := ite_f c h
      cases h
      exact go_return 17 rfl rfl ⟨rfl, rfl⟩
    · replace h := ite_t c h
      refine go_aload_n 12 rfl 0 rfl rfl ?_
      refine go_getfield 3 _ 13 rfl (by first | decide | exact ok0 (by omega) | exact ok1 (by omega) | exact ok2 (by omega) | exact ok7 (by omega)) rfl fg_M_16 rfl ?_
      refine go_iload_n 14 rfl 1 rfl rfl ?_
      refine go_iconst 0 15 rfl (by decide) ?_
      obtain ⟨c, h⟩ := ck_inv h
      refine go_iastore 16 rfl (by first | decide | exact ok0 (by omega) | exact ok1 (by omega) | exact ok2 (by omega) | exact ok7 (by omega)) (inb_vp c) ?_
      obtain ⟨_, c, h⟩ := bd_inv h
      cases c
      cases h
      exact go_return 17 rfl rfl ⟨rfl, rfl⟩
def X_M_append : MX := (⟨"OmegaDeskModel", "append", "(II)V"⟩, prog_8_method_10_code, 7, none, { frames := 1, cells := 0, slots := 0, locals := 22 },
  [(0, .aload_n 0, 1), (1, .getfield 16, 4), (4, .iload_n 2, 5), (5, .iaload, 6), (6, .istore_n 3, 7), (7, .iconst 0, 8), (8, .istore 4, 10), (10, .iload 4, 12), (12, .aload_n 0, 13), (13, .getfield 16, 16), (16, .iload_n 1, 17), (17, .iaload, 18), (18, .if_icmp .ge 127, 21), (21, .aload_n 0, 22), (22, .iload_n 2, 23), (23, .aload_n 0, 24), (24, .getfield 13, 27), (27, .iload_n 1, 28), (28, .iaload, 29), (29, .iload 4, 31), (31, .ishr, 32), (32, .iconst 1, 33), (33, .iand, 34), (34, .iconst 1, 35), (35, .if_icmp .ne 7, 38), (38, .iconst 1, 39), (39, .goto 4, 42), (42, .iconst 0, 43), (43, .invokevirtual 49, 46), (46, .iconst 0, 47), (47, .istore 5, 49), (49, .iload 5, 51), (51, .iconst 2, 52), (52, .if_icmp .ge 87, 55), (55, .aload_n 0, 56), (56, .getfield 7, 59), (59, .bipush 8, 61), (61, .iload_n 1, 62), (62, .imul, 63), (63, .iconst 4, 64), (64, .iload 5, 66), (66, .imul, 67), (67, .iadd, 68), (68, .iload 4, 70), (70, .iadd, 71), (71, .iaload, 72), (72, .iload_n 3, 73), (73, .ishl, 74), (74, .istore 6, 76), (76, .aload_n 0, 77), (77, .getfield 7, 80), (80, .bipush 8, 82), (82, .iload_n 2, 83), (83, .imul, 84), (84, .iconst 4, 85), (85, .iload 5, 87), (87, .imul, 88), (88, .iadd, 89), (89, .iload_n 3, 90), (90, .iadd, 91), (91, .iload 4, 93), (93, .iadd, 94), (94, .iload 6, 96), (96, .iastore, 97), (97, .iload 4, 99), (99, .ifCond .ne 34, 102), (102, .aload_n 0, 103), (103, .getfield 7, 106), (106, .bipush 8, 108), (108, .iload_n 2, 109), (109, .imul, 110), (110, .iconst 4, 111), (111, .iload 5, 113), (113, .imul, 114), (114, .iadd, 115), (115, .aload_n 0, 116), (116, .getfield 7, 119), (119, .bipush 8, 121), (121, .iload_n 2, 122), (122, .imul, 123), (123, .iconst 4, 124), (124, .iload 5, 126), (126, .imul, 127), (127, .iadd, 128), (128, .iaload, 129), (129, .iload 6, 131), (131, .ior, 132), (132, .iastore, 133), (133, .iinc 5 1, 136), (136, .goto (-87), 139), (139, .iinc 4 1, 142), (142, .goto (-132), 145), (145, .return_, 146)])
set_option maxRecDepth 20000 in
theorem mk_M_append : Mk X_M_append := ⟨by unfold TBk; decide +kernel, by decide +kernel, wb_597, ⟨by decide, by decide⟩, rfl, rfl, wb_6⟩
def b_M_append_49 (c1 : Int32) (c2 : Int32) (c3 : Int32) (c4 : Int32) (s : Int32 × Mm) : Option ((Int32 × Mm) ⊕ (Int32 × Mm)) :=
  if (2 : Int32) ≤ s.1 then
    some (Sum.inr (s.1, s.2))
  else
    ck (inb ((((8 : Int32) * c1) + ((4 : Int32) * s.1)) + c4) (lenI 16)) <|
    bd (some ((s.2.1 (1, 16) ((((8 : Int32) * c1) + ((4 : Int32) * s.1)) + c4).toNatClampNeg) <<< (c3 &&& 31))) fun x2 =>
    ck (inb (((((8 : Int32) * c2) + ((4 : Int32) * s.1)) + c3) + c4) (lenI 16)) <|
    bd (some (uI s.2 (1, 16) (((((8 : Int32) * c2) + ((4 : Int32) * s.1)) + c3) + c4).toNatClampNeg x2)) fun M3 =>
    if c4 = 0 then
      ck (inb (((8 : Int32) * c2) + ((4 : Int32) * s.1)) (lenI 16)) <|
      ck (inb (((8 : Int32) * c2) + ((4 : Int32) * s.1)) (lenI 16)) <|
      bd (some (uI M3 (1, 16) (((8 : Int32) * c2) + ((4 : Int32) * s.1)).toNatClampNeg ((M3.1 (1, 16) (((8 : Int32) * c2) + ((4 : Int32) * s.1)).toNatClampNeg) ||| x2))) fun M4 =>
      some (Sum.inl ((s.1 + 1), M4))
    else
      some (Sum.inl ((s.1 + 1), M3))
def b_M_append_10 (c1 : Int32) (c2 : Int32) (c3 : Int32) (s : Int32 × Mm) : Option ((Int32 × Mm) ⊕ (Int32 × Mm)) :=
  ck (inb c1 (lenI 18)) <|
  if (s.2.1 (1, 18) c1.toNatClampNeg) ≤ s.1 then
    some (Sum.inr (s.1, s.2))
  else
    ck (inb c1 (lenI 17)) <|
    if (((s.2.1 (1, 17) c1.toNatClampNeg) >>> (s.1 &&& 31)) &&& (1 : Int32)) = (1 : Int32) then
      bd (m_M_add c2 true s.2) fun r6 =>
      bd (lp (b_M_append_49 c1 c2 c3 s.1) ((0 : Int32), r6)) fun r7 =>
      some (Sum.inl ((s.1 + 1), r7.2))
    else
      bd (m_M_add c2 false s.2) fun r1 =>
      bd (lp (b_M_append_49 c1 c2 c3 s.1) ((0 : Int32), r1)) fun r5 =>
      some (Sum.inl ((s.1 + 1), r5.2))
def m_M_append (a1 : Int32) (a2 : Int32) (M : Mm) : Option (Mm) :=
  ck (inb a2 (lenI 18)) <|
  bd (lp (b_M_append_10 a1 a2 (M.1 (1, 18) a2.toNatClampNeg)) ((0 : Int32), M)) fun r8 =>
  some r8.2
set_option maxRecDepth 20000 in
theorem w_M_append_49 {l : Launch} {post : Option PV → Mm → Prop} (c1 : Int32) (c2 : Int32) (c3 : Int32) (c4 : Int32)  {r : Int32 × Mm} (kk : Go l X_M_append post 139 [(0, vr 8 0), (1, vi c1), (2, vi c2), (3, vi c3), (4, vi c4), (5, vi r.1)] [] r.2) : ∀ (n : Nat) (s : Int32 × Mm), lpN (b_M_append_49 c1 c2 c3 c4) n s = some r → Go l X_M_append post 49 [(0, vr 8 0), (1, vi c1), (2, vi c2), (3, vi c3), (4, vi c4), (5, vi s.1)] [] s.2 := by
  intro n
  induction n with
  | zero => intro s hc; exact (lpN_0 hc).elim
  | succ n ih =>
    intro s hc
    obtain ⟨q, h, hc⟩ := lpN_inv hc
    unfold b_M_append_49 at h
    refine go_iload 31 rfl 5 rfl ?_
    refine go_iconst 2 32 rfl (by decide) ?_
    refine go_icmp_ge 139 33 rfl (by decide) (fun c => ?_) (fun c => ?_)
    · replace h := ite_t c h
      cases h
      obtain rfl := lpq_r hc
      exact kk
    · replace h := ite_f c h
      refine go_aload_n 34 rfl 0 rfl rfl ?_
      refine go_getfield 1 _ 35 rfl (by first | decide | exact ok0 (by omega) | exact ok1 (by omega) | exact ok2 (by omega) | exact ok7 (by omega)) rfl fg_M_7 rfl ?_
      refine go_bipush 8 36 rfl (by decide) ?_
      refine go_iload_n 37 rfl 1 rfl rfl ?_
      refine go_imul 38 rfl ?_
      refine go_iconst 4 39 rfl (by decide) ?_
      refine go_iload 40 rfl 5 rfl ?_
      refine go_imul 41 rfl ?_
      refine go_iadd 42 rfl ?_
      refine go_iload 43 rfl 4 rfl ?_
      refine go_iadd 44 rfl ?_
      obtain ⟨c, h⟩ := ck_inv h
      refine go_iaload 45 rfl (by first | decide | exact ok0 (by omega) | exact ok1 (by omega) | exact ok2 (by omega) | exact ok7 (by omega)) (inb_vp c) ?_
      refine go_iload_n 46 rfl 3 rfl rfl ?_
      refine go_ishl 47 rfl ?_
      obtain ⟨_, c, h⟩ := bd_inv h
      cases c
      refine go_istore 48 rfl (Nat.le_of_ble_eq_true rfl) [(0, _), (1, _), (2, _), (3, _), (4, _), (5, _), (6, _)] rfl ?_
      refine go_aload_n 49 rfl 0 rfl rfl ?_
      refine go_getfield 1 _ 50 rfl (by first | decide | exact ok0 (by omega) | exact ok1 (by omega) | exact ok2 (by omega) | exact ok7 (by omega)) rfl fg_M_7 rfl ?_
      refine go_bipush 8 51 rfl (by decide) ?_
      refine go_iload_n 52 rfl 2 rfl rfl ?_
      refine go_imul 53 rfl ?_
      refine go_iconst 4 54 rfl (by decide) ?_
      refine go_iload 55 rfl 5 rfl ?_
      refine go_imul 56 rfl ?_
      refine go_iadd 57 rfl ?_
      refine go_iload_n 58 rfl 3 rfl rfl ?_
      refine go_iadd 59 rfl ?_
      refine go_iload 60 rfl 4 rfl ?_
      refine go_iadd 61 rfl ?_
      refine go_iload 62 rfl 6 rfl ?_
      obtain ⟨c, h⟩ := ck_inv h
      refine go_iastore 63 rfl (by first | decide | exact ok0 (by omega) | exact ok1 (by omega) | exact ok2 (by omega) | exact ok7 (by omega)) (inb_vp c) ?_
      obtain ⟨_, c, h⟩ := bd_inv h
      cases c
      refine go_iload 64 rfl 4 rfl ?_
      refine go_if_ne 133 65 rfl (by decide) (fun c => ?_) (fun c => ?_)
      · replace h := ite_f c h
        refine go_iinc 1 88 rfl 5 rfl (by decide) (Nat.le_of_ble_eq_true rfl) [(0, _), (1, _), (2, _), (3, _), (4, _), (5, _), (6, _)] rfl ?_
        refine go_goto 49 89 rfl (by decide) ?_
        cases h
        refine go_sub [0, 1, 2, 3, 4, 5] rfl ?_
        exact ih _ hc
      · replace h := ite_t c h
        refine go_aload_n 66 rfl 0 rfl rfl ?_
        refine go_getfield 1 _ 67 rfl (by first | decide | exact ok0 (by omega) | exact ok1 (by omega) | exact ok2 (by omega) | exact ok7 (by omega)) rfl fg_M_7 rfl ?_
        refine go_bipush 8 68 rfl (by decide) ?_
        refine go_iload_n 69 rfl 2 rfl rfl ?_
        refine go_imul 70 rfl ?_
        refine go_iconst 4 71 rfl (by decide) ?_
        refine go_iload 72 rfl 5 rfl ?_
        refine go_imul 73 rfl ?_
        refine go_iadd 74 rfl ?_
        refine go_aload_n 75 rfl 0 rfl rfl ?_
        refine go_getfield 1 _ 76 rfl (by first | decide | exact ok0 (by omega) | exact ok1 (by omega) | exact ok2 (by omega) | exact ok7 (by omega)) rfl fg_M_7 rfl ?_
        refine go_bipush 8 77 rfl (by decide) ?_
        refine go_iload_n 78 rfl 2 rfl rfl ?_
        refine go_imul 79 rfl ?_
        refine go_iconst 4 80 rfl (by decide) ?_
        refine go_iload 81 rfl 5 rfl ?_
        refine go_imul 82 rfl ?_
        refine go_iadd 83 rfl ?_
        obtain ⟨c, h⟩ := ck_inv h
        refine go_iaload 84 rfl (by first | decide | exact ok0 (by omega) | exact ok1 (by omega) | exact ok2 (by omega) | exact ok7 (by omega)) (inb_vp c) ?_
        refine go_iload 85 rfl 6 rfl ?_
        refine go_ior 86 rfl ?_
        obtain ⟨c, h⟩ := ck_inv h
        refine go_iastore 87 rfl (by first | decide | exact ok0 (by omega) | exact ok1 (by omega) | exact ok2 (by omega) | exact ok7 (by omega)) (inb_vp c) ?_
        obtain ⟨_, c, h⟩ := bd_inv h
        cases c
        refine go_iinc 1 88 rfl 5 rfl (by decide) (Nat.le_of_ble_eq_true rfl) [(0, _), (1, _), (2, _), (3, _), (4, _), (5, _), (6, _)] rfl ?_
        refine go_goto 49 89 rfl (by decide) ?_
        cases h
        refine go_sub [0, 1, 2, 3, 4, 5] rfl ?_
        exact ih _ hc
set_option maxRecDepth 20000 in
theorem w_M_append_10 {l : Launch} {post : Option PV → Mm → Prop} (c1 : Int32) (c2 : Int32) (c3 : Int32)  {r : Int32 × Mm} (kk : Go l X_M_append post 145 [(0, vr 8 0), (1, vi c1), (2, vi c2), (3, vi c3), (4, vi r.1)] [] r.2) : ∀ (n : Nat) (s : Int32 × Mm), lpN (b_M_append_10 c1 c2 c3) n s = some r → Go l X_M_append post 10 [(0, vr 8 0), (1, vi c1), (2, vi c2), (3, vi c3), (4, vi s.1)] [] s.2 := by
  intro n
  induction n with
  | zero => intro s hc; exact (lpN_0 hc).elim
  | succ n ih =>
    intro s hc
    obtain ⟨q, h, hc⟩ := lpN_inv hc
    unfold b_M_append_10 at h
    refine go_iload 7 rfl 4 rfl ?_
    refine go_aload_n 8 rfl 0 rfl rfl ?_
    refine go_getfield 3 _ 9 rfl (by first | decide | exact ok0 (by omega) | exact ok1 (by omega) | exact ok2 (by omega) | exact ok7 (by omega)) rfl fg_M_16 rfl ?_
    refine go_iload_n 10 rfl 1 rfl rfl ?_
    obtain ⟨c, h⟩ := ck_inv h
    refine go_iaload 11 rfl (by first | decide | exact ok0 (by omega) | exact ok1 (by omega) | exact ok2 (by omega) | exact ok7 (by omega)) (inb_vp c) ?_
    refine go_icmp_ge 145 12 rfl (by decide) (fun c => ?_) (fun c => ?_)
    · replace h := ite_t c h
      cases h
      obtain rfl := lpq_r hc
      exact kk
    · replace h := ite_f c h
      refine go_aload_n 13 rfl 0 rfl rfl ?_
      refine go_iload_n 14 rfl 2 rfl rfl ?_
      refine go_aload_n 15 rfl 0 rfl rfl ?_
      refine go_getfield 2 _ 16 rfl (by first | decide | exact ok0 (by omega) | exact ok1 (by omega) | exact ok2 (by omega) | exact ok7 (by omega)) rfl fg_M_13 rfl ?_
      refine go_iload_n 17 rfl 1 rfl rfl ?_
      obtain ⟨c, h⟩ := ck_inv h
      refine go_iaload 18 rfl (by first | decide | exact ok0 (by omega) | exact ok1 (by omega) | exact ok2 (by omega) | exact ok7 (by omega)) (inb_vp c) ?_
      refine go_iload 19 rfl 4 rfl ?_
      refine go_ishr 20 rfl ?_
      refine go_iconst 1 21 rfl (by decide) ?_
      refine go_iand 22 rfl ?_
      refine go_iconst 1 23 rfl (by decide) ?_
      refine go_icmp_ne 42 24 rfl (by decide) (fun c => ?_) (fun c => ?_)
      · replace h := ite_f c h
        refine go_iconst 0 27 rfl (by decide) ?_
        obtain ⟨r1, c, h⟩ := bd_inv h
        refine go_callV1 _ 28 rfl (e_M_add c) mk_M_add (by first | decide | exact ok0 (by omega) | exact ok1 (by omega) | exact ok2 (by omega) | exact ok7 (by omega)) rfl cv_M_49 rfl ⟨(Nat.le_of_ble_eq_true rfl), (Nat.le_of_ble_eq_true rfl)⟩ (Nat.le_of_ble_eq_true rfl) rfl ?_
        refine go_iconst 0 29 rfl (by decide) ?_
        refine go_istore 30 rfl (Nat.le_of_ble_eq_true rfl) [(0, _), (1, _), (2, _), (3, _), (4, _), (5, _)] rfl ?_
        obtain ⟨r5, c, h⟩ := bd_inv h
        refine w_M_append_49 _ _ _ _ ?_ _ _ c
        refine go_iinc 1 90 rfl 4 rfl (by decide) (Nat.le_of_ble_eq_true rfl) [(0, _), (1, _), (2, _), (3, _), (4, _), (5, _)] rfl ?_
        refine go_goto 10 91 rfl (by decide) ?_
        cases h
        refine go_sub [0, 1, 2, 3, 4] rfl ?_
        exact ih _ hc
      · replace h := ite_t c h
        refine go_iconst 1 25 rfl (by decide) ?_
        refine go_goto 43 26 rfl (by decide) ?_
        obtain ⟨r6, c, h⟩ := bd_inv h
        refine go_callV1 _ 28 rfl (e_M_add c) mk_M_add (by first | decide | exact ok0 (by omega) | exact ok1 (by omega) | exact ok2 (by omega) | exact ok7 (by omega)) rfl cv_M_49 rfl ⟨(Nat.le_of_ble_eq_true rfl), (Nat.le_of_ble_eq_true rfl)⟩ (Nat.le_of_ble_eq_true rfl) rfl ?_
        refine go_iconst 0 29 rfl (by decide) ?_
        refine go_istore 30 rfl (Nat.le_of_ble_eq_true rfl) [(0, _), (1, _), (2, _), (3, _), (4, _), (5, _)] rfl ?_
        obtain ⟨r7, c, h⟩ := bd_inv h
        refine w_M_append_49 _ _ _ _ ?_ _ _ c
        refine go_iinc 1 90 rfl 4 rfl (by decide) (Nat.le_of_ble_eq_true rfl) [(0, _), (1, _), (2, _), (3, _), (4, _), (5, _)] rfl ?_
        refine go_goto 10 91 rfl (by decide) ?_
        cases h
        refine go_sub [0, 1, 2, 3, 4] rfl ?_
        exact ih _ hc
set_option maxRecDepth 20000 in
theorem e_M_append {l : Launch} {a1 : Int32} {a2 : Int32} {M : Mm} {r : Mm}  (h : m_M_append a1 a2 M = some r) : Ev l X_M_append [vr 8 0, vi a1, vi a2] M (fun v M2 => v = none ∧ M2 = r) := by
  refine Ev.of mk_M_append [(0, vr 8 0), (1, vi a1), (2, vi a2)] (fun _ => rfl) (fun _ => (Nat.le_of_ble_eq_true rfl)) ?_
  unfold m_M_append at h
  refine go_aload_n 0 rfl 0 rfl rfl ?_
  refine go_getfield 3 _ 1 rfl (by first | decide | exact ok0 (by omega) | exact ok1 (by omega) | exact ok2 (by omega) | exact ok7 (by omega)) rfl fg_M_16 rfl ?_
  refine go_iload_n 2 rfl 2 rfl rfl ?_
  obtain ⟨c, h⟩ := ck_inv h
  refine go_iaload 3 rfl (by first | decide | exact ok0 (by omega) | exact ok1 (by omega) | exact ok2 (by omega) | exact ok7 (by omega)) (inb_vp c) ?_
  refine go_istore_n 4 rfl rfl (Nat.le_of_ble_eq_true rfl) [(0, _), (1, _), (2, _), (3, _)] rfl ?_
  refine go_iconst 0 5 rfl (by decide) ?_
  refine go_istore 6 rfl (Nat.le_of_ble_eq_true rfl) [(0, _), (1, _), (2, _), (3, _), (4, _)] rfl ?_
  obtain ⟨r8, c, h⟩ := bd_inv h
  refine w_M_append_10 _ _ _ ?_ _ _ c
  cases h
  exact go_return 92 rfl rfl ⟨rfl, rfl⟩
end
section
def X_M_unite : MX := (⟨"OmegaDeskModel", "unite", "(III)I"⟩, prog_8_method_11_code, 5, some .int, { frames := 2, cells := 0, slots := 0, locals := 48 },
  [(0, .iload_n 1, 1), (1, .bipush 6, 3), (3, .invokestatic 45, 6), (6, .ifCond .ne 40, 9), (9, .iload_n 2, 10), (10, .bipush 6, 12), (12, .invokestatic 45, 15), (15, .ifCond .ne 31, 18), (18, .iload_n 3, 19), (19, .bipush 6, 21), (21, .invokestatic 45, 24), (24, .ifCond .ne 22, 27), (27, .iload_n 1, 28), (28, .iload_n 2, 29), (29, .if_icmp .eq 17, 32), (32, .iload_n 1, 33), (33, .iload_n 3, 34), (34, .if_icmp .eq 12, 37), (37, .iload_n 2, 38), (38, .iload_n 3, 39), (39, .if_icmp .eq 7, 42), (42, .iconst 1, 43), (43, .goto 4, 46), (46, .iconst 0, 47), (47, .istore 4, 49), (49, .aload_n 0, 50), (50, .iload 4, 52), (52, .ifCond .ne 7, 55), (55, .iconst 1, 56), (56, .goto 27, 59), (59, .iconst 1, 60), (60, .aload_n 0, 61), (61, .getfield 16, 64), (64, .iload_n 1, 65), (65, .iaload, 66), (66, .iadd, 67), (67, .aload_n 0, 68), (68, .getfield 16, 71), (71, .iload_n 2, 72), (72, .iaload, 73), (73, .iadd, 74), (74, .iconst 4, 75), (75, .if_icmp .le 7, 78), (78, .iconst 2, 79), (79, .goto 4, 82), (82, .iconst 0, 83), (83, .putfield 41, 86), (86, .aload_n 0, 87), (87, .getfield 41, 90), (90, .ifCond .le 5, 93), (93, .iconst 0, 94), (94, .ireturn, 95), (95, .aload_n 0, 96), (96, .getfield 16, 99), (99, .iload_n 3, 100), (100, .iconst 0, 101), (101, .iastore, 102), (102, .aload_n 0, 103), (103, .iload_n 3, 104), (104, .iconst 0, 105), (105, .invokevirtual 49, 108), (108, .aload_n 0, 109), (109, .iload_n 1, 110), (110, .iload_n 3, 111), (111, .invokevirtual 57, 114), (114, .aload_n 0, 115), (115, .iload_n 2, 116), (116, .iload_n 3, 117), (117, .invokevirtual 57, 120), (120, .aload_n 0, 121), (121, .getfield 16, 124), (124, .iload_n 3, 125), (125, .iaload, 126), (126, .ireturn, 127)])
set_option maxRecDepth 20000 in
theorem mk_M_unite : Mk X_M_unite := ⟨by unfold TBk; decide +kernel, by decide +kernel, wb_593, ⟨by decide, by decide⟩, rfl, rfl, wb_6⟩
theorem cv_M_57 : CV "OmegaDeskModel" 57 X_M_append 2 8 := ⟨Or.inl wb_594, ⟨wb_596, ws_M_append⟩, by decide +kernel, F_M, 12, rfl⟩
def m_M_unite (a1 : Int32) (a2 : Int32) (a3 : Int32) (M : Mm) : Option (Int32 × Mm) :=
  bd (m_M_out a1 (6 : Int32)) fun r1 =>
  if (bI r1) = 0 then
    bd (m_M_out a2 (6 : Int32)) fun r7 =>
    if (bI r7) = 0 then
      bd (m_M_out a3 (6 : Int32)) fun r13 =>
      if (bI r13) = 0 then
        if a1 = a2 then
          bd (some (uI M (8, 0) 0 (1 : Int32))) fun M19 =>
          if (M19.1 (8, 0) 0) ≤ 0 then
            ck (inb a3 (lenI 18)) <|
            bd (some (uI M19 (1, 18) a3.toNatClampNeg (0 : Int32))) fun M20 =>
            bd (m_M_add a3 false M20) fun r21 =>
            bd (m_M_append a1 a3 r21) fun r22 =>
            bd (m_M_append a2 a3 r22) fun r23 =>
            ck (inb a3 (lenI 18)) <|
            some ((r23.1 (1, 18) a3.toNatClampNeg), r23)
          else
            some ((0 : Int32), M19)
        else
          if a1 = a3 then
            bd (some (uI M (8, 0) 0 (1 : Int32))) fun M24 =>
            if (M24.1 (8, 0) 0) ≤ 0 then
              ck (inb a3 (lenI 18)) <|
              bd (some (uI M24 (1, 18) a3.toNatClampNeg (0 : Int32))) fun M25 =>
              bd (m_M_add a3 false M25) fun r26 =>
              bd (m_M_append a1 a3 r26) fun r27 =>
              bd (m_M_append a2 a3 r27) fun r28 =>
              ck (inb a3 (lenI 18)) <|
              some ((r28.1 (1, 18) a3.toNatClampNeg), r28)
            else
              some ((0 : Int32), M24)
          else
            if a2 = a3 then
              bd (some (uI M (8, 0) 0 (1 : Int32))) fun M29 =>
              if (M29.1 (8, 0) 0) ≤ 0 then
                ck (inb a3 (lenI 18)) <|
                bd (some (uI M29 (1, 18) a3.toNatClampNeg (0 : Int32))) fun M30 =>
                bd (m_M_add a3 false M30) fun r31 =>
                bd (m_M_append a1 a3 r31) fun r32 =>
                bd (m_M_append a2 a3 r32) fun r33 =>
                ck (inb a3 (lenI 18)) <|
                some ((r33.1 (1, 18) a3.toNatClampNeg), r33)
              else
                some ((0 : Int32), M29)
            else
              ck (inb a1 (lenI 18)) <|
              ck (inb a2 (lenI 18)) <|
              if (((1 : Int32) + (M.1 (1, 18) a1.toNatClampNeg)) + (M.1 (1, 18) a2.toNatClampNeg)) ≤ (4 : Int32) then
                bd (some (uI M (8, 0) 0 (0 : Int32))) fun M34 =>
                if (M34.1 (8, 0) 0) ≤ 0 then
                  ck (inb a3 (lenI 18)) <|
                  bd (some (uI M34 (1, 18) a3.toNatClampNeg (0 : Int32))) fun M35 =>
                  bd (m_M_add a3 false M35) fun r36 =>
                  bd (m_M_append a1 a3 r36) fun r37 =>
                  bd (m_M_append a2 a3 r37) fun r38 =>
                  ck (inb a3 (lenI 18)) <|
                  some ((r38.1 (1, 18) a3.toNatClampNeg), r38)
                else
                  some ((0 : Int32), M34)
              else
                bd (some (uI M (8, 0) 0 (2 : Int32))) fun M39 =>
                if (M39.1 (8, 0) 0) ≤ 0 then
                  ck (inb a3 (lenI 18)) <|
                  bd (some (uI M39 (1, 18) a3.toNatClampNeg (0 : Int32))) fun M40 =>
                  bd (m_M_add a3 false M40) fun r41 =>
                  bd (m_M_append a1 a3 r41) fun r42 =>
                  bd (m_M_append a2 a3 r42) fun r43 =>
                  ck (inb a3 (lenI 18)) <|
                  some ((r43.1 (1, 18) a3.toNatClampNeg), r43)
                else
                  some ((0 : Int32), M39)
      else
        bd (some (uI M (8, 0) 0 (1 : Int32))) fun M14 =>
        if (M14.1 (8, 0) 0) ≤ 0 then
          ck (inb a3 (lenI 18)) <|
          bd (some (uI M14 (1, 18) a3.toNatClampNeg (0 : Int32))) fun M15 =>
          bd (m_M_add a3 false M15) fun r16 =>
          bd (m_M_append a1 a3 r16) fun r17 =>
          bd (m_M_append a2 a3 r17) fun r18 =>
          ck (inb a3 (lenI 18)) <|
          some ((r18.1 (1, 18) a3.toNatClampNeg), r18)
        else
          some ((0 : Int32), M14)
    else
      bd (some (uI M (8, 0) 0 (1 : Int32))) fun M8 =>
      if (M8.1 (8, 0) 0) ≤ 0 then
        ck (inb a3 (lenI 18)) <|
        bd (some (uI M8 (1, 18) a3.toNatClampNeg (0 : Int32))) fun M9 =>
        bd (m_M_add a3 false M9) fun r10 =>
        bd (m_M_append a1 a3 r10) fun r11 =>
        bd (m_M_append a2 a3 r11) fun r12 =>
        ck (inb a3 (lenI 18)) <|
        some ((r12.1 (1, 18) a3.toNatClampNeg), r12)
      else
        some ((0 : Int32), M8)
  else
    bd (some (uI M (8, 0) 0 (1 : Int32))) fun M2 =>
    if (M2.1 (8, 0) 0) ≤ 0 then
      ck (inb a3 (lenI 18)) <|
      bd (some (uI M2 (1, 18) a3.toNatClampNeg (0 : Int32))) fun M3 =>
      bd (m_M_add a3 false M3) fun r4 =>
      bd (m_M_append a1 a3 r4) fun r5 =>
      bd (m_M_append a2 a3 r5) fun r6 =>
      ck (inb a3 (lenI 18)) <|
      some ((r6.1 (1, 18) a3.toNatClampNeg), r6)
    else
      some ((0 : Int32), M2)
set_option maxRecDepth 20000 in
theorem e_M_unite {l : Launch} {a1 : Int32} {a2 : Int32} {a3 : Int32} {M : Mm} {r : Int32 × Mm}  (h : m_M_unite a1 a2 a3 M = some r) : Ev l X_M_unite [vr 8 0, vi a1, vi a2, vi a3] M (fun v M2 => v = (some (vi r.1)) ∧ M2 = r.2) := by
  refine Ev.of mk_M_unite [(0, vr 8 0), (1, vi a1), (2, vi a2), (3, vi a3)] (fun _ => rfl) (fun _ => (Nat.le_of_ble_eq_true rfl)) ?_
  unfold m_M_unite at h
  refine go_iload_n 0 rfl 1 rfl rfl ?_
  refine go_bipush 6 1 rfl (by decide) ?_
  obtain ⟨r1, c, h⟩ := bd_inv h
  refine go_callS1 _ 2 rfl (e_M_out c) mk_M_out cs_M_45 rfl ⟨(Nat.le_of_ble_eq_true rfl), (Nat.le_of_ble_eq_true rfl)⟩ (Nat.le_of_ble_eq_true rfl) rfl ?_
  refine go_if_ne 46 3 rfl (by decide) (fun c => ?_) (fun c => ?_)
  · replace h := ite_f c h
    refine go_iconst 0 23 rfl (by decide) ?_
    refine go_istore 24 rfl (Nat.le_of_ble_eq_true rfl) [(0, _), (1, _), (2, _), (3, _), (4, _)] rfl ?_
    refine go_aload_n 25 rfl 0 rfl rfl ?_
    refine go_iload 26 rfl 4 rfl ?_
    refine go_if_ne 59 27 rfl (by decide) (fun c => absurd c (by decide)) (fun _ => ?_)
    refine go_iconst 1 28 rfl (by decide) ?_
    refine go_goto 83 29 rfl (by decide) ?_
    refine go_putfield 0 .int 46 rfl (by first | decide | exact ok0 (by omega) | exact ok1 (by omega) | exact ok2 (by omega) | exact ok7 (by omega)) rfl fp_M_41 rfl rfl (Nat.le_of_ble_eq_true rfl) rfl ?_
    obtain ⟨_, c, h⟩ := bd_inv h
    cases c
    refine go_aload_n 47 rfl 0 rfl rfl ?_
    refine go_getfield 0 _ 48 rfl (by first | decide | exact ok0 (by omega) | exact ok1 (by omega) | exact ok2 (by omega) | exact ok7 (by omega)) rfl fg_M_41 rfl ?_
    refine go_if_le 95 49 rfl (by decide) (fun c => ?_) (fun c => ?_)
    · replace h := ite_t c h
      refine go_aload_n 52 rfl 0 rfl rfl ?_
      refine go_getfield 3 _ 53 rfl (by first | decide | exact ok0 (by omega) | exact ok1 (by omega) | exact ok2 (by omega) | exact ok7 (by omega)) rfl fg_M_16 rfl ?_
      refine go_iload_n 54 rfl 3 rfl rfl ?_
      refine go_iconst 0 55 rfl (by decide) ?_
      obtain ⟨c, h⟩ := ck_inv h
      refine go_iastore 56 rfl (by first | decide | exact ok0 (by omega) | exact ok1 (by omega) | exact ok2 (by omega) | exact ok7 (by omega)) (inb_vp c) ?_
      obtain ⟨_, c, h⟩ := bd_inv h
      cases c
      refine go_aload_n 57 rfl 0 rfl rfl ?_
      refine go_iload_n 58 rfl 3 rfl rfl ?_
      refine go_iconst 0 59 rfl (by decide) ?_
      obtain ⟨r4, c, h⟩ := bd_inv h
      refine go_callV1 _ 60 rfl (e_M_add c) mk_M_add (by first | decide | exact ok0 (by omega) | exact ok1 (by omega) | exact ok2 (by omega) | exact ok7 (by omega)) rfl cv_M_49 rfl ⟨(Nat.le_of_ble_eq_true rfl), (Nat.le_of_ble_eq_true rfl)⟩ (Nat.le_of_ble_eq_true rfl) rfl ?_
      refine go_aload_n 61 rfl 0 rfl rfl ?_
      refine go_iload_n 62 rfl 1 rfl rfl ?_
      refine go_iload_n 63 rfl 3 rfl rfl ?_
      obtain ⟨r5, c, h⟩ := bd_inv h
      refine go_callV1 _ 64 rfl (e_M_append c) mk_M_append (by first | decide | exact ok0 (by omega) | exact ok1 (by omega) | exact ok2 (by omega) | exact ok7 (by omega)) rfl cv_M_57 rfl ⟨(Nat.le_of_ble_eq_true rfl), (Nat.le_of_ble_eq_true rfl)⟩ (Nat.le_of_ble_eq_true rfl) rfl ?_
      refine go_aload_n 65 rfl 0 rfl rfl ?_
      refine go_iload_n 66 rfl 2 rfl rfl ?_
      refine go_iload_n 67 rfl 3 rfl rfl ?_
      obtain ⟨r6, c, h⟩ := bd_inv h
      refine go_callV1 _ 68 rfl (e_M_append c) mk_M_append (by first | decide | exact ok0 (by omega) | exact ok1 (by omega) | exact ok2 (by omega) | exact ok7 (by omega)) rfl cv_M_57 rfl ⟨(Nat.le_of_ble_eq_true rfl), (Nat.le_of_ble_eq_true rfl)⟩ (Nat.le_of_ble_eq_true rfl) rfl ?_
      refine go_aload_n 69 rfl 0 rfl rfl ?_
      refine go_getfield 3 _ 70 rfl (by first | decide | exact ok0 (by omega) | exact ok1 (by omega) | exact ok2 (by omega) | exact ok7 (by omega)) rfl fg_M_16 rfl ?_
      refine go_iload_n 71 rfl 3 rfl rfl ?_
      obtain ⟨c, h⟩ := ck_inv h
      refine go_iaload 72 rfl (by first | decide | exact ok0 (by omega) | exact ok1 (by omega) | exact ok2 (by omega) | exact ok7 (by omega)) (inb_vp c) ?_
      cases h
      exact go_ireturn 73 rfl rfl rfl ⟨rfl, rfl⟩
    · replace h := ite_f c h
      refine go_iconst 0 50 rfl (by decide) ?_
      cases h
      exact go_ireturn 51 rfl rfl rfl ⟨rfl, rfl⟩
  · replace h := ite_t c h
    refine go_iload_n 4 rfl 2 rfl rfl ?_
    refine go_bipush 6 5 rfl (by decide) ?_
    obtain ⟨r7, c, h⟩ := bd_inv h
    refine go_callS1 _ 6 rfl (e_M_out c) mk_M_out cs_M_45 rfl ⟨(Nat.le_of_ble_eq_true rfl), (Nat.le_of_ble_eq_true rfl)⟩ (Nat.le_of_ble_eq_true rfl) rfl ?_
    refine go_if_ne 46 7 rfl (by decide) (fun c => ?_) (fun c => ?_)
    · replace h := ite_f c h
      refine go_iconst 0 23 rfl (by decide) ?_
      refine go_istore 24 rfl (Nat.le_of_ble_eq_true rfl) [(0, _), (1, _), (2, _), (3, _), (4, _)] rfl ?_
      refine go_aload_n 25 rfl 0 rfl rfl ?_
      refine go_iload 26 rfl 4 rfl ?_
      refine go_if_ne 59 27 rfl (by decide) (fun c => absurd c (by decide)) (fun _ => ?_)
      refine go_iconst 1 28 rfl (by decide) ?_
      refine go_goto 83 29 rfl (by decide) ?_
      refine go_putfield 0 .int 46 rfl (by first | decide | exact ok0 (by omega) | exact ok1 (by omega) | exact ok2 (by omega) | exact ok7 (by omega)) rfl fp_M_41 rfl rfl (Nat.le_of_ble_eq_true rfl) rfl ?_
      obtain ⟨_, c, h⟩ := bd_inv h
      cases c
      refine go_aload_n 47 rfl 0 rfl rfl ?_
      refine go_getfield 0 _ 48 rfl (by first | decide | exact ok0 (by omega) | exact ok1 (by omega) | exact ok2 (by omega) | exact ok7 (by omega)) rfl fg_M_41 rfl ?_
      refine go_if_le 95 49 rfl (by decide) (fun c => ?_) (fun c => ?_)
      · replace h := ite_t c h
        refine go_aload_n 52 rfl 0 rfl rfl ?_
        refine go_getfield 3 _ 53 rfl (by first | decide | exact ok0 (by omega) | exact ok1 (by omega) | exact ok2 (by omega) | exact ok7 (by omega)) rfl fg_M_16 rfl ?_
        refine go_iload_n 54 rfl 3 rfl rfl ?_
        refine go_iconst 0 55 rfl (by decide) ?_
        obtain ⟨c, h⟩ := ck_inv h
        refine go_iastore 56 rfl (by first | decide | exact ok0 (by omega) | exact ok1 (by omega) | exact ok2 (by omega) | exact ok7 (by omega)) (inb_vp c) ?_
        obtain ⟨_, c, h⟩ := bd_inv h
        cases c
        refine go_aload_n 57 rfl 0 rfl rfl ?_
        refine go_iload_n 58 rfl 3 rfl rfl ?_
        refine go_iconst 0 59 rfl (by decide) ?_
        obtain ⟨r10, c, h⟩ := bd_inv h
        refine go_callV1 _ 60 rfl (e_M_add c) mk_M_add (by first | decide | exact ok0 (by omega) | exact ok1 (by omega) | exact ok2 (by omega) | exact ok7 (by omega)) rfl cv_M_49 rfl ⟨(Nat.le_of_ble_eq_true rfl), (Nat.le_of_ble_eq_true rfl)⟩ (Nat.le_of_ble_eq_true rfl) rfl ?_
        refine go_aload_n 61 rfl 0 rfl rfl ?_
        refine go_iload_n 62 rfl 1 rfl rfl ?_
        refine go_iload_n 63 rfl 3 rfl rfl ?_
        obtain ⟨r11, c, h⟩ := bd_inv h
        refine go_callV1 _ 64 rfl (e_M_append c) mk_M_append (by first | decide | exact ok0 (by omega) | exact ok1 (by omega) | exact ok2 (by omega) | exact ok7 (by omega)) rfl cv_M_57 rfl ⟨(Nat.le_of_ble_eq_true rfl), (Nat.le_of_ble_eq_true rfl)⟩ (Nat.le_of_ble_eq_true rfl) rfl ?_
        refine go_aload_n 65 rfl 0 rfl rfl ?_
        refine go_iload_n 66 rfl 2 rfl rfl ?_
        refine go_iload_n 67 rfl 3 rfl rfl ?_
        obtain ⟨r12, c, h⟩ := bd_inv h
        refine go_callV1 _ 68 rfl (e_M_append c) mk_M_append (by first | decide | exact ok0 (by omega) | exact ok1 (by omega) | exact ok2 (by omega) | exact ok7 (by omega)) rfl cv_M_57 rfl ⟨(Nat.le_of_ble_eq_true rfl), (Nat.le_of_ble_eq_true rfl)⟩ (Nat.le_of_ble_eq_true rfl) rfl ?_
        refine go_aload_n 69 rfl 0 rfl rfl ?_
        refine go_getfield 3 _ 70 rfl (by first | decide | exact ok0 (by omega) | exact ok1 (by omega) | exact ok2 (by omega) | exact ok7 (by omega)) rfl fg_M_16 rfl ?_
        refine go_iload_n 71 rfl 3 rfl rfl ?_
        obtain ⟨c, h⟩ := ck_inv h
        refine go_iaload 72 rfl (by first | decide | exact ok0 (by omega) | exact ok1 (by omega) | exact ok2 (by omega) | exact ok7 (by omega)) (inb_vp c) ?_
        cases h
        exact go_ireturn 73 rfl rfl rfl ⟨rfl, rfl⟩
      · replace h := ite_f c h
        refine go_iconst 0 50 rfl (by decide) ?_
        cases h
        exact go_ireturn 51 rfl rfl rfl ⟨rfl, rfl⟩
    · replace h := ite_t c h
      refine go_iload_n 8 rfl 3 rfl rfl ?_
      refine go_bipush 6 9 rfl (by decide) ?_
      obtain ⟨r13, c, h⟩ := bd_inv h
      refine go_callS1 _ 10 rfl (e_M_out c) mk_M_out cs_M_45 rfl ⟨(Nat.le_of_ble_eq_true rfl), (Nat.le_of_ble_eq_true rfl)⟩ (Nat.le_of_ble_eq_true rfl) rfl ?_
      refine go_if_ne 46 11 rfl (by decide) (fun c => ?_) (fun c => ?_)
      · replace h := ite_f c h
        refine go_iconst 0 23 rfl (by decide) ?_
        refine go_istore 24 rfl (Nat.le_of_ble_eq_true rfl) [(0, _), (1, _), (2, _), (3, _), (4, _)] rfl ?_
        refine go_aload_n 25 rfl 0 rfl rfl ?_
        refine go_iload 26 rfl 4 rfl ?_
        refine go_if_ne 59 27 rfl (by decide) (fun c => absurd c (by decide)) (fun _ => ?_)
        refine go_iconst 1 28 rfl (by decide) ?_
        refine go_goto 83 29 rfl (by decide) ?_
        refine go_putfield 0 .int 46 rfl (by first | decide | exact ok0 (by omega) | exact ok1 (by omega) | exact ok2 (by omega) | exact ok7 (by omega)) rfl fp_M_41 rfl rfl (Nat.le_of_ble_eq_true rfl) rfl ?_
        obtain ⟨_, c, h⟩ := bd_inv h
        cases c
        refine go_aload_n 47 rfl 0 rfl rfl ?_
        refine go_getfield 0 _ 48 rfl (by first | decide | exact ok0 (by omega) | exact ok1 (by omega) | exact ok2 (by omega) | exact ok7 (by omega)) rfl fg_M_41 rfl ?_
        refine go_if_le 95 49 rfl (by decide) (fun c => ?_) (fun c => ?_)
        · replace h := ite_t c h
          refine go_aload_n 52 rfl 0 rfl rfl ?_
          refine go_getfield 3 _ 53 rfl (by first | decide | exact ok0 (by omega) | exact ok1 (by omega) | exact ok2 (by omega) | exact ok7 (by omega)) rfl fg_M_16 rfl ?_
          refine go_iload_n 54 rfl 3 rfl rfl ?_
          refine go_iconst 0 55 rfl (by decide) ?_
          obtain ⟨c, h⟩ := ck_inv h
          refine go_iastore 56 rfl (by first | decide | exact ok0 (by omega) | exact ok1 (by omega) | exact ok2 (by omega) | exact ok7 (by omega)) (inb_vp c) ?_
          obtain ⟨_, c, h⟩ := bd_inv h
          cases c
          refine go_aload_n 57 rfl 0 rfl rfl ?_
          refine go_iload_n 58 rfl 3 rfl rfl ?_
          refine go_iconst 0 59 rfl (by decide) ?_
          obtain ⟨r16, c, h⟩ := bd_inv h
          refine go_callV1 _ 60 rfl (e_M_add c) mk_M_add (by first | decide | exact ok0 (by omega) | exact ok1 (by omega) | exact ok2 (by omega) | exact ok7 (by omega)) rfl cv_M_49 rfl ⟨(Nat.le_of_ble_eq_true rfl), (Nat.le_of_ble_eq_true rfl)⟩ (Nat.le_of_ble_eq_true rfl) rfl ?_
          refine go_aload_n 61 rfl 0 rfl rfl ?_
          refine go_iload_n 62 rfl 1 rfl rfl ?_
          refine go_iload_n 63 rfl 3 rfl rfl ?_
          obtain ⟨r17, c, h⟩ := bd_inv h
          refine go_callV1 _ 64 rfl (e_M_append c) mk_M_append (by first | decide | exact ok0 (by omega) | exact ok1 (by omega) | exact ok2 (by omega) | exact ok7 (by omega)) rfl cv_M_57 rfl ⟨(Nat.le_of_ble_eq_true rfl), (Nat.le_of_ble_eq_true rfl)⟩ (Nat.le_of_ble_eq_true rfl) rfl ?_
          refine go_aload_n 65 rfl 0 rfl rfl ?_
          refine go_iload_n 66 rfl 2 rfl rfl ?_
          refine go_iload_n 67 rfl 3 rfl rfl ?_
          obtain ⟨r18, c, h⟩ := bd_inv h
          refine go_callV1 _ 68 rfl (e_M_append c) mk_M_append (by first | decide | exact ok0 (by omega) | exact ok1 (by omega) | exact ok2 (by omega) | exact ok7 (by omega)) rfl cv_M_57 rfl ⟨(Nat.le_of_ble_eq_true rfl), (Nat.le_of_ble_eq_true rfl)⟩ (Nat.le_of_ble_eq_true rfl) rfl ?_
          refine go_aload_n 69 rfl 0 rfl rfl ?_
          refine go_getfield 3 _ 70 rfl (by first | decide | exact ok0 (by omega) | exact ok1 (by omega) | exact ok2 (by omega) | exact ok7 (by omega)) rfl fg_M_16 rfl ?_
          refine go_iload_n 71 rfl 3 rfl rfl ?_
          obtain ⟨c, h⟩ := ck_inv h
          refine go_iaload 72 rfl (by first | decide | exact ok0 (by omega) | exact ok1 (by omega) | exact ok2 (by omega) | exact ok7 (by omega)) (inb_vp c) ?_
          cases h
          exact go_ireturn 73 rfl rfl rfl ⟨rfl, rfl⟩
        · replace h := ite_f c h
          refine go_iconst 0 50 rfl (by decide) ?_
          cases h
          exact go_ireturn 51 rfl rfl rfl ⟨rfl, rfl⟩
      · replace h := ite_t c h
        refine go_iload_n 12 rfl 1 rfl rfl ?_
        refine go_iload_n 13 rfl 2 rfl rfl ?_
        refine go_icmp_eq 46 14 rfl (by decide) (fun c => ?_) (fun c => ?_)
        · replace h := ite_t c h
          refine go_iconst 0 23 rfl (by decide) ?_
          refine go_istore 24 rfl (Nat.le_of_ble_eq_true rfl) [(0, _), (1, _), (2, _), (3, _), (4, _)] rfl ?_
          refine go_aload_n 25 rfl 0 rfl rfl ?_
          refine go_iload 26 rfl 4 rfl ?_
          refine go_if_ne 59 27 rfl (by decide) (fun c => absurd c (by decide)) (fun _ => ?_)
          refine go_iconst 1 28 rfl (by decide) ?_
          refine go_goto 83 29 rfl (by decide) ?_
          refine go_putfield 0 .int 46 rfl (by first | decide | exact ok0 (by omega) | exact ok1 (by omega) | exact ok2 (by omega) | exact ok7 (by omega)) rfl fp_M_41 rfl rfl (Nat.le_of_ble_eq_true rfl) rfl ?_
          obtain ⟨_, c, h⟩ := bd_inv h
          cases c
          refine go_aload_n 47 rfl 0 rfl rfl ?_
          refine go_getfield 0 _ 48 rfl (by first | decide | exact ok0 (by omega) | exact ok1 (by omega) | exact ok2 (by omega) | exact ok7 (by omega)) rfl fg_M_41 rfl ?_
          refine go_if_le 95 49 rfl (by decide) (fun c => ?_) (fun c => ?_)
          · replace h := ite_t c h
            refine go_aload_n 52 rfl 0 rfl rfl ?_
            refine go_getfield 3 _ 53 rfl (by first | decide | exact ok0 (by omega) | exact ok1 (by omega) | exact ok2 (by omega) | exact ok7 (by omega)) rfl fg_M_16 rfl ?_
            refine go_iload_n 54 rfl 3 rfl rfl ?_
            refine go_iconst 0 55 rfl (by decide) ?_
            obtain ⟨c, h⟩ := ck_inv h
            refine go_iastore 56 rfl (by first | decide | exact ok0 (by omega) | exact ok1 (by omega) | exact ok2 (by omega) | exact ok7 (by omega)) (inb_vp c) ?_
            obtain ⟨_, c, h⟩ := bd_inv h
            cases c
            refine go_aload_n 57 rfl 0 rfl rfl ?_
            refine go_iload_n 58 rfl 3 rfl rfl ?_
            refine go_iconst 0 59 rfl (by decide) ?_
            obtain ⟨r21, c, h⟩ := bd_inv h
            refine go_callV1 _ 60 rfl (e_M_add c) mk_M_add (by first | decide | exact ok0 (by omega) | exact ok1 (by omega) | exact ok2 (by omega) | exact ok7 (by omega)) rfl cv_M_49 rfl ⟨(Nat.le_of_ble_eq_true rfl), (Nat.le_of_ble_eq_true rfl)⟩ (Nat.le_of_ble_eq_true rfl) rfl ?_
            refine go_aload_n 61 rfl 0 rfl rfl ?_
            refine go_iload_n 62 rfl 1 rfl rfl ?_
            refine go_iload_n 63 rfl 3 rfl rfl ?_
            obtain ⟨r22, c, h⟩ := bd_inv h
            refine go_callV1 _ 64 rfl (e_M_append c) mk_M_append (by first | decide | exact ok0 (by omega) | exact ok1 (by omega) | exact ok2 (by omega) | exact ok7 (by omega)) rfl cv_M_57 rfl ⟨(Nat.le_of_ble_eq_true rfl), (Nat.le_of_ble_eq_true rfl)⟩ (Nat.le_of_ble_eq_true rfl) rfl ?_
            refine go_aload_n 65 rfl 0 rfl rfl ?_
            refine go_iload_n 66 rfl 2 rfl rfl ?_
            refine go_iload_n 67 rfl 3 rfl rfl ?_
            obtain ⟨r23, c, h⟩ := bd_inv h
            refine go_callV1 _ 68 rfl (e_M_append c) mk_M_append (by first | decide | exact ok0 (by omega) | exact ok1 (by omega) | exact ok2 (by omega) | exact ok7 (by omega)) rfl cv_M_57 rfl ⟨(Nat.le_of_ble_eq_true rfl), (Nat.le_of_ble_eq_true rfl)⟩ (Nat.le_of_ble_eq_true rfl) rfl ?_
            refine go_aload_n 69 rfl 0 rfl rfl ?_
            refine go_getfield 3 _ 70 rfl (by first | decide | exact ok0 (by omega) | exact ok1 (by omega) | exact ok2 (by omega) | exact ok7 (by omega)) rfl fg_M_16 rfl ?_
            refine go_iload_n 71 rfl 3 rfl rfl ?_
            obtain ⟨c, h⟩ := ck_inv h
            refine go_iaload 72 rfl (by first | decide | exact ok0 (by omega) | exact ok1 (by omega) | exact ok2 (by omega) | exact ok7 (by omega)) (inb_vp c) ?_
            cases h
            exact go_ireturn 73 rfl rfl rfl ⟨rfl, rfl⟩
          · replace h := ite_f c h
            refine go_iconst 0 50 rfl (by decide) ?_
            cases h
            exact go_ireturn 51 rfl rfl rfl ⟨rfl, rfl⟩
        · replace h := ite_f c h
          refine go_iload_n 15 rfl 1 rfl rfl ?_
          refine go_iload_n 16 rfl 3 rfl rfl ?_
          refine go_icmp_eq 46 17 rfl (by decide) (fun c => ?_) (fun c => ?_)
          · replace h := ite_t c h
            refine go_iconst 0 23 rfl (by decide) ?_
            refine go_istore 24 rfl (Nat.le_of_ble_eq_true rfl) [(0, _), (1, _), (2, _), (3, _), (4, _)] rfl ?_
            refine go_aload_n 25 rfl 0 rfl rfl ?_
            refine go_iload 26 rfl 4 rfl ?_
            refine go_if_ne 59 27 rfl (by decide) (fun c => absurd c (by decide)) (fun _ => ?_)
            refine go_iconst 1 28 rfl (by decide) ?_
            refine go_goto 83 29 rfl (by decide) ?_
            refine go_putfield 0 .int 46 rfl (by first | decide | exact ok0 (by omega) | exact ok1 (by omega) | exact ok2 (by omega) | exact ok7 (by omega)) rfl fp_M_41 rfl rfl (Nat.le_of_ble_eq_true rfl) rfl ?_
            obtain ⟨_, c, h⟩ := bd_inv h
            cases c
            refine go_aload_n 47 rfl 0 rfl rfl ?_
            refine go_getfield 0 _ 48 rfl (by first | decide | exact ok0 (by omega) | exact ok1 (by omega) | exact ok2 (by omega) | exact ok7 (by omega)) rfl fg_M_41 rfl ?_
            refine go_if_le 95 49 rfl (by decide) (fun c => ?_) (fun c => ?_)
            · replace h := ite_t c h
              refine go_aload_n 52 rfl 0 rfl rfl ?_
              refine go_getfield 3 _ 53 rfl (by first | decide | exact ok0 (by omega) | exact ok1 (by omega) | exact ok2 (by omega) | exact ok7 (by omega)) rfl fg_M_16 rfl ?_
              refine go_iload_n 54 rfl 3 rfl rfl ?_
              refine go_iconst 0 55 rfl (by decide) ?_
              obtain ⟨c, h⟩ := ck_inv h
              refine go_iastore 56 rfl (by first | decide | exact ok0 (by omega) | exact ok1 (by omega) | exact ok2 (by omega) | exact ok7 (by omega)) (inb_vp c) ?_
              obtain ⟨_, c, h⟩ := bd_inv h
              cases c
              refine go_aload_n 57 rfl 0 rfl rfl ?_
              refine go_iload_n 58 rfl 3 rfl rfl ?_
              refine go_iconst 0 59 rfl (by decide) ?_
              obtain ⟨r26, c, h⟩ := bd_inv h
              refine go_callV1 _ 60 rfl (e_M_add c) mk_M_add (by first | decide | exact ok0 (by omega) | exact ok1 (by omega) | exact ok2 (by omega) | exact ok7 (by omega)) rfl cv_M_49 rfl ⟨(Nat.le_of_ble_eq_true rfl), (Nat.le_of_ble_eq_true rfl)⟩ (Nat.le_of_ble_eq_true rfl) rfl ?_
              refine go_aload_n 61 rfl 0 rfl rfl ?_
              refine go_iload_n 62 rfl 1 rfl rfl ?_
              refine go_iload_n 63 rfl 3 rfl rfl ?_
              obtain ⟨r27, c, h⟩ := bd_inv h
              refine go_callV1 _ 64 rfl (e_M_append c) mk_M_append (by first | decide | exact ok0 (by omega) | exact ok1 (by omega) | exact ok2 (by omega) | exact ok7 (by omega)) rfl cv_M_57 rfl ⟨(Nat.le_of_ble_eq_true rfl), (Nat.le_of_ble_eq_true rfl)⟩ (Nat.le_of_ble_eq_true rfl) rfl ?_
              refine go_aload_n 65 rfl 0 rfl rfl ?_
              refine go_iload_n 66 rfl 2 rfl rfl ?_
              refine go_iload_n 67 rfl 3 rfl rfl ?_
              obtain ⟨r28, c, h⟩ := bd_inv h
              refine go_callV1 _ 68 rfl (e_M_append c) mk_M_append (by first | decide | exact ok0 (by omega) | exact ok1 (by omega) | exact ok2 (by omega) | exact ok7 (by omega)) rfl cv_M_57 rfl ⟨(Nat.le_of_ble_eq_true rfl), (Nat.le_of_ble_eq_true rfl)⟩ (Nat.le_of_ble_eq_true rfl) rfl ?_
              refine go_aload_n 69 rfl 0 rfl rfl ?_
              refine go_getfield 3 _ 70 rfl (by first | decide | exact ok0 (by omega) | exact ok1 (by omega) | exact ok2 (by omega) | exact ok7 (by omega)) rfl fg_M_16 rfl ?_
              refine go_iload_n 71 rfl 3 rfl rfl ?_
              obtain ⟨c, h⟩ := ck_inv h
              refine go_iaload 72 rfl (by first | decide | exact ok0 (by omega) | exact ok1 (by omega) | exact ok2 (by omega) | exact ok7 (by omega)) (inb_vp c) ?_
              cases h
              exact go_ireturn 73 rfl rfl rfl ⟨rfl, rfl⟩
            · replace h := ite_f c h
              refine go_iconst 0 50 rfl (by decide) ?_
              cases h
              exact go_ireturn 51 rfl rfl rfl ⟨rfl, rfl⟩
          · replace h := ite_f c h
            refine go_iload_n 18 rfl 2 rfl rfl ?_
            refine go_iload_n 19 rfl 3 rfl rfl ?_
            refine go_icmp_eq 46 20 rfl (by decide) (fun c => ?_) (fun c => ?_)
            · replace h := ite_t c h
              refine go_iconst 0 23 rfl (by decide) ?_
              refine go_istore 24 rfl (Nat.le_of_ble_eq_true rfl) [(0, _), (1, _), (2, _), (3, _), (4, _)] rfl ?_
              refine go_aload_n 25 rfl 0 rfl rfl ?_
              refine go_iload 26 rfl 4 rfl ?_
              refine go_if_ne 59 27 rfl (by decide) (fun c => absurd c (by decide)) (fun _ => ?_)
              refine go_iconst 1 28 rfl (by decide) ?_
              refine go_goto 83 29 rfl (by decide) ?_
              refine go_putfield 0 .int 46 rfl (by first | decide | exact ok0 (by omega) | exact ok1 (by omega) | exact ok2 (by omega) | exact ok7 (by omega)) rfl fp_M_41 rfl rfl (Nat.le_of_ble_eq_true rfl) rfl ?_
              obtain ⟨_, c, h⟩ := bd_inv h
              cases c
              refine go_aload_n 47 rfl 0 rfl rfl ?_
              refine go_getfield 0 _ 48 rfl (by first | decide | exact ok0 (by omega) | exact ok1 (by omega) | exact ok2 (by omega) | exact ok7 (by omega)) rfl fg_M_41 rfl ?_
              refine go_if_le 95 49 rfl (by decide) (fun c => ?_) (fun c => ?_)
              · replace h := ite_t c h
                refine go_aload_n 52 rfl 0 rfl rfl ?_
                refine go_getfield 3 _ 53 rfl (by first | decide | exact ok0 (by omega) | exact ok1 (by omega) | exact ok2 (by omega) | exact ok7 (by omega)) rfl fg_M_16 rfl ?_
                refine go_iload_n 54 rfl 3 rfl rfl ?_
                refine go_iconst 0 55 rfl (by decide) ?_
                obtain ⟨c, h⟩ := ck_inv h
                refine go_iastore 56 rfl (by first | decide | exact ok0 (by omega) | exact ok1 (by omega) | exact ok2 (by omega) | exact ok7 (by omega)) (inb_vp c) ?_
                obtain ⟨_, c, h⟩ := bd_inv h
                cases c
                refine go_aload_n 57 rfl 0 rfl rfl ?_
                refine go_iload_n 58 rfl 3 rfl rfl ?_
                refine go_iconst 0 59 rfl (by decide) ?_
                obtain ⟨r31, c, h⟩ := bd_inv h
                refine go_callV1 _ 60 rfl (e_M_add c) mk_M_add (by first | decide | exact ok0 (by omega) | exact ok1 (by omega) | exact ok2 (by omega) | exact ok7 (by omega)) rfl cv_M_49 rfl ⟨(Nat.le_of_ble_eq_true rfl), (Nat.le_of_ble_eq_true rfl)⟩ (Nat.le_of_ble_eq_true rfl) rfl ?_
                refine go_aload_n 61 rfl 0 rfl rfl ?_
                refine go_iload_n 62 rfl 1 rfl rfl ?_
                refine go_iload_n 63 rfl 3 rfl rfl ?_
                obtain ⟨r32, c, h⟩ := bd_inv h
                refine go_callV1 _ 64 rfl (e_M_append c) mk_M_append (by first | decide | exact ok0 (by omega) | exact ok1 (by omega) | exact ok2 (by omega) | exact ok7 (by omega)) rfl cv_M_57 rfl ⟨(Nat.le_of_ble_eq_true rfl), (Nat.le_of_ble_eq_true rfl)⟩ (Nat.le_of_ble_eq_true rfl) rfl ?_
                refine go_aload_n 65 rfl 0 rfl rfl ?_
                refine go_iload_n 66 rfl 2 rfl rfl ?_
                refine go_iload_n 67 rfl 3 rfl rfl ?_
                obtain ⟨r33, c, h⟩ := bd_inv h
                refine go_callV1 _ 68 rfl (e_M_append c) mk_M_append (by first | decide | exact ok0 (by omega) | exact ok1 (by omega) | exact ok2 (by omega) | exact ok7 (by omega)) rfl cv_M_57 rfl ⟨(Nat.le_of_ble_eq_true rfl), (Nat.le_of_ble_eq_true rfl)⟩ (Nat.le_of_ble_eq_true rfl) rfl ?_
                refine go_aload_n 69 rfl 0 rfl rfl ?_
                refine go_getfield 3 _ 70 rfl (by first | decide | exact ok0 (by omega) | exact ok1 (by omega) | exact ok2 (by omega) | exact ok7 (by omega)) rfl fg_M_16 rfl ?_
                refine go_iload_n 71 rfl 3 rfl rfl ?_
                obtain ⟨c, h⟩ := ck_inv h
                refine go_iaload 72 rfl (by first | decide | exact ok0 (by omega) | exact ok1 (by omega) | exact ok2 (by omega) | exact ok7 (by omega)) (inb_vp c) ?_
                cases h
                exact go_ireturn 73 rfl rfl rfl ⟨rfl, rfl⟩
              · replace h := ite_f c h
                refine go_iconst 0 50 rfl (by decide) ?_
                cases h
                exact go_ireturn 51 rfl rfl rfl ⟨rfl, rfl⟩
            · replace h := ite_f c h
              refine go_iconst 1 21 rfl (by decide) ?_
              refine go_goto 47 22 rfl (by decide) ?_
              refine go_istore 24 rfl (Nat.le_of_ble_eq_true rfl) [(0, _), (1, _), (2, _), (3, _), (4, _)] rfl ?_
              refine go_aload_n 25 rfl 0 rfl rfl ?_
              refine go_iload 26 rfl 4 rfl ?_
              refine go_if_ne 59 27 rfl (by decide) (fun _ => ?_) (fun c => absurd c (by decide))
              refine go_iconst 1 30 rfl (by decide) ?_
              refine go_aload_n 31 rfl 0 rfl rfl ?_
              refine go_getfield 3 _ 32 rfl (by first | decide | exact ok0 (by omega) | exact ok1 (by omega) | exact ok2 (by omega) | exact ok7 (by omega)) rfl fg_M_16 rfl ?_
              refine go_iload_n 33 rfl 1 rfl rfl ?_
              obtain ⟨c, h⟩ := ck_inv h
              refine go_iaload 34 rfl (by first | decide | exact ok0 (by omega) | exact ok1 (by omega) | exact ok2 (by omega) | exact ok7 (by omega)) (inb_vp c) ?_
              refine go_iadd 35 rfl ?_
              refine go_aload_n 36 rfl 0 rfl rfl ?_
              refine go_getfield 3 _ 37 rfl (by first | decide | exact ok0 (by omega) | exact ok1 (by omega) | exact ok2 (by omega) | exact ok7 (by omega)) rfl fg_M_16 rfl ?_
              refine go_iload_n 38 rfl 2 rfl rfl ?_
              obtain ⟨c, h⟩ := ck_inv h
              refine go_iaload 39 rfl (by first | decide | exact ok0 (by omega) | exact ok1 (by omega) | exact ok2 (by omega) | exact ok7 (by omega)) (inb_vp c) ?_
              refine go_iadd 40 rfl ?_
              refine go_iconst 4 41 rfl (by decide) ?_
              refine go_icmp_le 82 42 rfl (by decide) (fun c => ?_) (fun c => ?_)
              · replace h := ite_t c h
                refine go_iconst 0 45 rfl (by decide) ?_
                refine go_putfield 0 .int 46 rfl (by first | decide | exact ok0 (by omega) | exact ok1 (by omega) | exact ok2 (by omega) | exact ok7 (by omega)) rfl fp_M_41 rfl rfl (Nat.le_of_ble_eq_true rfl) rfl ?_
                obtain ⟨_, c, h⟩ := bd_inv h
                cases c
                refine go_aload_n 47 rfl 0 rfl rfl ?_
                refine go_getfield 0 _ 48 rfl (by first | decide | exact ok0 (by omega) | exact ok1 (by omega) | exact ok2 (by omega) | exact ok7 (by omega)) rfl fg_M_41 rfl ?_
                refine go_if_le 95 49 rfl (by decide) (fun c => ?_) (fun c => ?_)
                · replace h := ite_t c h
                  refine go_aload_n 52 rfl 0 rfl rfl ?_
                  refine go_getfield 3 _ 53 rfl (by first | decide | exact ok0 (by omega) | exact ok1 (by omega) | exact ok2 (by omega) | exact ok7 (by omega)) rfl fg_M_16 rfl ?_
                  refine go_iload_n 54 rfl 3 rfl rfl ?_
                  refine go_iconst 0 55 rfl (by decide) ?_
                  obtain ⟨c, h⟩ := ck_inv h
                  refine go_iastore 56 rfl (by first | decide | exact ok0 (by omega) | exact ok1 (by omega) | exact ok2 (by omega) | exact ok7 (by omega)) (inb_vp c) ?_
                  obtain ⟨_, c, h⟩ := bd_inv h
                  cases c
                  refine go_aload_n 57 rfl 0 rfl rfl ?_
                  refine go_iload_n 58 rfl 3 rfl rfl ?_
                  refine go_iconst 0 59 rfl (by decide) ?_
                  obtain ⟨r36, c, h⟩ := bd_inv h
                  refine go_callV1 _ 60 rfl (e_M_add c) mk_M_add (by first | decide | exact ok0 (by omega) | exact ok1 (by omega) | exact ok2 (by omega) | exact ok7 (by omega)) rfl cv_M_49 rfl ⟨(Nat.le_of_ble_eq_true rfl), (Nat.le_of_ble_eq_true rfl)⟩ (Nat.le_of_ble_eq_true rfl) rfl ?_
                  refine go_aload_n 61 rfl 0 rfl rfl ?_
                  refine go_iload_n 62 rfl 1 rfl rfl ?_
                  refine go_iload_n 63 rfl 3 rfl rfl ?_
                  obtain ⟨r37, c, h⟩ := bd_inv h
                  refine go_callV1 _ 64 rfl (e_M_append c) mk_M_append (by first | decide | exact ok0 (by omega) | exact ok1 (by omega) | exact ok2 (by omega) | exact ok7 (by omega)) rfl cv_M_57 rfl ⟨(Nat.le_of_ble_eq_true rfl), (Nat.le_of_ble_eq_true rfl)⟩ (Nat.le_of_ble_eq_true rfl) rfl ?_
                  refine go_aload_n 65 rfl 0 rfl rfl ?_
                  refine go_iload_n 66 rfl 2 rfl rfl ?_
                  refine go_iload_n 67 rfl 3 rfl rfl ?_
                  obtain ⟨r38, c, h⟩ := bd_inv h
                  refine go_callV1 _ 68 rfl (e_M_append c) mk_M_append (by first | decide | exact ok0 (by omega) | exact ok1 (by omega) | exact ok2 (by omega) | exact ok7 (by omega)) rfl cv_M_57 rfl ⟨(Nat.le_of_ble_eq_true rfl), (Nat.le_of_ble_eq_true rfl)⟩ (Nat.le_of_ble_eq_true rfl) rfl ?_
                  refine go_aload_n 69 rfl 0 rfl rfl ?_
                  refine go_getfield 3 _ 70 rfl (by first | decide | exact ok0 (by omega) | exact ok1 (by omega) | exact ok2 (by omega) | exact ok7 (by omega)) rfl fg_M_16 rfl ?_
                  refine go_iload_n 71 rfl 3 rfl rfl ?_
                  obtain ⟨c, h⟩ := ck_inv h
                  refine go_iaload 72 rfl (by first | decide | exact ok0 (by omega) | exact ok1 (by omega) | exact ok2 (by omega) | exact ok7 (by omega)) (inb_vp c) ?_
                  cases h
                  exact go_ireturn 73 rfl rfl rfl ⟨rfl, rfl⟩
                · replace h := ite_f c h
                  refine go_iconst 0 50 rfl (by decide) ?_
                  cases h
                  exact go_ireturn 51 rfl rfl rfl ⟨rfl, rfl⟩
              · replace h := ite_f c h
                refine go_iconst 2 43 rfl (by decide) ?_
                refine go_goto 83 44 rfl (by decide) ?_
                refine go_putfield 0 .int 46 rfl (by first | decide | exact ok0 (by omega) | exact ok1 (by omega) | exact ok2 (by omega) | exact ok7 (by omega)) rfl fp_M_41 rfl rfl (Nat.le_of_ble_eq_true rfl) rfl ?_
                obtain ⟨_, c, h⟩ := bd_inv h
                cases c
                refine go_aload_n 47 rfl 0 rfl rfl ?_
                refine go_getfield 0 _ 48 rfl (by first | decide | exact ok0 (by omega) | exact ok1 (by omega) | exact ok2 (by omega) | exact ok7 (by omega)) rfl fg_M_41 rfl ?_
                refine go_if_le 95 49 rfl (by decide) (fun c => ?_) (fun c => ?_)
                · replace h := ite_t c h
                  refine go_aload_n 52 rfl 0 rfl rfl ?_
                  refine go_getfield 3 _ 53 rfl (by first | decide | exact ok0 (by omega) | exact ok1 (by omega) | exact ok2 (by omega) | exact ok7 (by omega)) rfl fg_M_16 rfl ?_
                  refine go_iload_n 54 rfl 3 rfl rfl ?_
                  refine go_iconst 0 55 rfl (by decide) ?_
                  obtain ⟨c, h⟩ := ck_inv h
                  refine go_iastore 56 rfl (by first | decide | exact ok0 (by omega) | exact ok1 (by omega) | exact ok2 (by omega) | exact ok7 (by omega)) (inb_vp c) ?_
                  obtain ⟨_, c, h⟩ := bd_inv h
                  cases c
                  refine go_aload_n 57 rfl 0 rfl rfl ?_
                  refine go_iload_n 58 rfl 3 rfl rfl ?_
                  refine go_iconst 0 59 rfl (by decide) ?_
                  obtain ⟨r41, c, h⟩ := bd_inv h
                  refine go_callV1 _ 60 rfl (e_M_add c) mk_M_add (by first | decide | exact ok0 (by omega) | exact ok1 (by omega) | exact ok2 (by omega) | exact ok7 (by omega)) rfl cv_M_49 rfl ⟨(Nat.le_of_ble_eq_true rfl), (Nat.le_of_ble_eq_true rfl)⟩ (Nat.le_of_ble_eq_true rfl) rfl ?_
                  refine go_aload_n 61 rfl 0 rfl rfl ?_
                  refine go_iload_n 62 rfl 1 rfl rfl ?_
                  refine go_iload_n 63 rfl 3 rfl rfl ?_
                  obtain ⟨r42, c, h⟩ := bd_inv h
                  refine go_callV1 _ 64 rfl (e_M_append c) mk_M_append (by first | decide | exact ok0 (by omega) | exact ok1 (by omega) | exact ok2 (by omega) | exact ok7 (by omega)) rfl cv_M_57 rfl ⟨(Nat.le_of_ble_eq_true rfl), (Nat.le_of_ble_eq_true rfl)⟩ (Nat.le_of_ble_eq_true rfl) rfl ?_
                  refine go_aload_n 65 rfl 0 rfl rfl ?_
                  refine go_iload_n 66 rfl 2 rfl rfl ?_
                  refine go_iload_n 67 rfl 3 rfl rfl ?_
                  obtain ⟨r43, c, h⟩ := bd_inv h
                  refine go_callV1 _ 68 rfl (e_M_append c) mk_M_append (by first | decide | exact ok0 (by omega) | exact ok1 (by omega) | exact ok2 (by omega) | exact ok7 (by omega)) rfl cv_M_57 rfl ⟨(Nat.le_of_ble_eq_true rfl), (Nat.le_of_ble_eq_true rfl)⟩ (Nat.le_of_ble_eq_true rfl) rfl ?_
                  refine go_aload_n 69 rfl 0 rfl rfl ?_
                  refine go_getfield 3 _ 70 rfl (by first | decide | exact ok0 (by omega) | exact ok1 (by omega) | exact ok2 (by omega) | exact ok7 (by omega)) rfl fg_M_16 rfl ?_
                  refine go_iload_n 71 rfl 3 rfl rfl ?_
                  obtain ⟨c, h⟩ := ck_inv h
                  refine go_iaload 72 rfl (by first | decide | exact ok0 (by omega) | exact ok1 (by omega) | exact ok2 (by omega) | exact ok7 (by omega)) (inb_vp c) ?_
                  cases h
                  exact go_ireturn 73 rfl rfl rfl ⟨rfl, rfl⟩
                · replace h := ite_f c h
                  refine go_iconst 0 50 rfl (by decide) ?_
                  cases h
                  exact go_ireturn 51 rfl rfl rfl ⟨rfl, rfl⟩
end
section
def X_M_ahead : MX := (⟨"OmegaDeskModel", "ahead", "(II)I"⟩, prog_8_method_12_code, 6, some .int, { frames := 0, cells := 0, slots := 0, locals := 0 },
  [(0, .aload_n 0, 1), (1, .getfield 7, 4), (4, .bipush 8, 6), (6, .iload_n 1, 7), (7, .imul, 8), (8, .iload_n 2, 9), (9, .iadd, 10), (10, .iaload, 11), (11, .aload_n 0, 12), (12, .getfield 7, 15), (15, .bipush 8, 17), (17, .iload_n 1, 18), (18, .imul, 19), (19, .iconst 4, 20), (20, .iadd, 21), (21, .iload_n 2, 22), (22, .iadd, 23), (23, .iaload, 24), (24, .ior, 25), (25, .istore_n 3, 26), (26, .iconst 0, 27), (27, .istore 4, 29), (29, .iload 4, 31), (31, .iconst 4, 32), (32, .if_icmp .ge 73, 35), (35, .iconst 0, 36), (36, .istore 5, 38), (38, .iload 5, 40), (40, .aload_n 0, 41), (41, .getfield 16, 44), (44, .iload_n 1, 45), (45, .iaload, 46), (46, .if_icmp .ge 53, 49), (49, .iload_n 3, 50), (50, .iload 5, 52), (52, .ishr, 53), (53, .iconst 1, 54), (54, .iand, 55), (55, .iconst 1, 56), (56, .if_icmp .ne 35, 59), (59, .iload_n 3, 60), (60, .aload_n 0, 61), (61, .getfield 7, 64), (64, .bipush 8, 66), (66, .iload_n 1, 67), (67, .imul, 68), (68, .iload 5, 70), (70, .iadd, 71), (71, .iaload, 72), (72, .ior, 73), (73, .aload_n 0, 74), (74, .getfield 7, 77), (77, .bipush 8, 79), (79, .iload_n 1, 80), (80, .imul, 81), (81, .iconst 4, 82), (82, .iadd, 83), (83, .iload 5, 85), (85, .iadd, 86), (86, .iaload, 87), (87, .ior, 88), (88, .goto 4, 91), (91, .iload_n 3, 92), (92, .istore_n 3, 93), (93, .iinc 5 1, 96), (96, .goto (-58), 99), (99, .iinc 4 1, 102), (102, .goto (-73), 105), (105, .iload_n 3, 106), (106, .ireturn, 107)])
set_option maxRecDepth 20000 in
theorem mk_M_ahead : Mk X_M_ahead := ⟨by unfold TBk; decide +kernel, by decide +kernel, wb_613, ⟨by decide, by decide⟩, rfl, rfl, wb_6⟩
def b_M_ahead_38 (c1 : Int32) (M : Mm) (s : Int32 × Int32) : Option ((Int32 × Int32) ⊕ (Int32 × Int32)) :=
  ck (inb c1 (lenI 18)) <|
  if (M.1 (1, 18) c1.toNatClampNeg) ≤ s.2 then
    some (Sum.inr (s.1, s.2))
  else
    if ((s.1 >>> (s.2 &&& 31)) &&& (1 : Int32)) = (1 : Int32) then
      ck (inb (((8 : Int32) * c1) + s.2) (lenI 16)) <|
      ck (inb ((((8 : Int32) * c1) + (4 : Int32)) + s.2) (lenI 16)) <|
      bd (some ((s.1 ||| (M.1 (1, 16) (((8 : Int32) * c1) + s.2).toNatClampNeg)) ||| (M.1 (1, 16) ((((8 : Int32) * c1) + (4 : Int32)) + s.2).toNatClampNeg))) fun x2 =>
      some (Sum.inl (x2, (s.2 + 1)))
    else
      some (Sum.inl (s.1, (s.2 + 1)))
def b_M_ahead_29 (c1 : Int32) (M : Mm) (s : Int32 × Int32) : Option ((Int32 × Int32) ⊕ (Int32 × Int32)) :=
  if (4 : Int32) ≤ s.2 then
    some (Sum.inr (s.1, s.2))
  else
    bd (lp (b_M_ahead_38 c1 M) (s.1, (0 : Int32))) fun r3 =>
    some (Sum.inl (r3.1, (s.2 + 1)))
def m_M_ahead (a1 : Int32) (a2 : Int32) (M : Mm) : Option (Int32) :=
  ck (inb (((8 : Int32) * a1) + a2) (lenI 16)) <|
  ck (inb ((((8 : Int32) * a1) + (4 : Int32)) + a2) (lenI 16)) <|
  bd (some ((M.1 (1, 16) (((8 : Int32) * a1) + a2).toNatClampNeg) ||| (M.1 (1, 16) ((((8 : Int32) * a1) + (4 : Int32)) + a2).toNatClampNeg))) fun x1 =>
  bd (lp (b_M_ahead_29 a1 M) (x1, (0 : Int32))) fun r4 =>
  some r4.1
set_option maxRecDepth 20000 in
theorem w_M_ahead_38 {l : Launch} {post : Option PV → Mm → Prop} (c1 : Int32) (c2 : Int32) (c4 : Int32) (M : Mm)  {r : Int32 × Int32} (kk : Go l X_M_ahead post 99 [(0, vr 8 0), (1, vi c1), (2, vi c2), (3, vi r.1), (4, vi c4), (5, vi r.2)] [] M) : ∀ (n : Nat) (s : Int32 × Int32), lpN (b_M_ahead_38 c1 M) n s = some r → Go l X_M_ahead post 38 [(0, vr 8 0), (1, vi c1), (2, vi c2), (3, vi s.1), (4, vi c4), (5, vi s.2)] [] M := by
  intro n
  induction n with
  | zero => intro s hc; exact (lpN_0 hc).elim
  | succ n ih =>
    intro s hc
    obtain ⟨q, h, hc⟩ := lpN_inv hc
    unfold b_M_ahead_38 at h
    refine go_iload 27 rfl 5 rfl ?_
    refine go_aload_n 28 rfl 0 rfl rfl ?_
    refine go_getfield 3 _ 29 rfl (by first | decide | exact ok0 (by omega) | exact ok1 (by omega) | exact ok2 (by omega) | exact ok7 (by omega)) rfl fg_M_16 rfl ?_
    refine go_iload_n 30 rfl 1 rfl rfl ?_
    obtain ⟨c, h⟩ := ck_inv h
    refine go_iaload 31 rfl (by first | decide | exact ok0 (by omega) | exact ok1 (by omega) | exact ok2 (by omega) | exact ok7 (by omega)) (inb_vp c) ?_
    refine go_icmp_ge 99 32 rfl (by decide) (fun c => ?_) (fun c => ?_)
    · replace h := ite_t c h
      cases h
      obtain rfl := lpq_r hc
      exact kk
    · replace h := ite_f c h
      refine go_iload_n 33 rfl 3 rfl rfl ?_
      refine go_iload 34 rfl 5 rfl ?_
      refine go_ishr 35 rfl ?_
      refine go_iconst 1 36 rfl (by decide) ?_
      refine go_iand 37 rfl ?_
      refine go_iconst 1 38 rfl (by decide) ?_
      refine go_icmp_ne 91 39 rfl (by decide) (fun c => ?_) (fun c => ?_)
      · replace h := ite_f c h
        refine go_iload_n 62 rfl 3 rfl rfl ?_
        refine go_istore_n 63 rfl rfl (Nat.le_of_ble_eq_true rfl) [(0, _), (1, _), (2, _), (3, _), (4, _), (5, _)] rfl ?_
        refine go_iinc 1 64 rfl 5 rfl (by decide) (Nat.le_of_ble_eq_true rfl) [(0, _), (1, _), (2, _), (3, _), (4, _), (5, _)] rfl ?_
        refine go_goto 38 65 rfl (by decide) ?_
        cases h
        exact ih _ hc
      · replace h := ite_t c h
        refine go_iload_n 40 rfl 3 rfl rfl ?_
        refine go_aload_n 41 rfl 0 rfl rfl ?_
        refine go_getfield 1 _ 42 rfl (by first | decide | exact ok0 (by omega) | exact ok1 (by omega) | exact ok2 (by omega) | exact ok7 (by omega)) rfl fg_M_7 rfl ?_
        refine go_bipush 8 43 rfl (by decide) ?_
        refine go_iload_n 44 rfl 1 rfl rfl ?_
        refine go_imul 45 rfl ?_
        refine go_iload 46 rfl 5 rfl ?_
        refine go_iadd 47 rfl ?_
        obtain ⟨c, h⟩ := ck_inv h
        refine go_iaload 48 rfl (by first | decide | exact ok0 (by omega) | exact ok1 (by omega) | exact ok2 (by omega) | exact ok7 (by omega)) (inb_vp c) ?_
        refine go_ior 49 rfl ?_
        refine go_aload_n 50 rfl 0 rfl rfl ?_
        refine go_getfield 1 _ 51 rfl (by first | decide | exact ok0 (by omega) | exact ok1 (by omega) | exact ok2 (by omega) | exact ok7 (by omega)) rfl fg_M_7 rfl ?_
        refine go_bipush 8 52 rfl (by decide) ?_
        refine go_iload_n 53 rfl 1 rfl rfl ?_
        refine go_imul 54 rfl ?_
        refine go_iconst 4 55 rfl (by decide) ?_
        refine go_iadd 56 rfl ?_
        refine go_iload 57 rfl 5 rfl ?_
        refine go_iadd 58 rfl ?_
        obtain ⟨c, h⟩ := ck_inv h
        refine go_iaload 59 rfl (by first | decide | exact ok0 (by omega) | exact ok1 (by omega) | exact ok2 (by omega) | exact ok7 (by omega)) (inb_vp c) ?_
        refine go_ior 60 rfl ?_
        refine go_goto 92 61 rfl (by decide) ?_
        obtain ⟨_, c, h⟩ := bd_inv h
        cases c
        refine go_istore_n 63 rfl rfl (Nat.le_of_ble_eq_true rfl) [(0, _), (1, _), (2, _), (3, _), (4, _), (5, _)] rfl ?_
        refine go_iinc 1 64 rfl 5 rfl (by decide) (Nat.le_of_ble_eq_true rfl) [(0, _), (1, _), (2, _), (3, _), (4, _), (5, _)] rfl ?_
        refine go_goto 38 65 rfl (by decide) ?_
        cases h
        exact ih _ hc
set_option maxRecDepth 20000 in
theorem w_M_ahead_29 {l : Launch} {post : Option PV → Mm → Prop} (c1 : Int32) (c2 : Int32) (M : Mm)  {r : Int32 × Int32} (kk : Go l X_M_ahead post 105 [(0, vr 8 0), (1, vi c1), (2, vi c2), (3, vi r.1), (4, vi r.2)] [] M) : ∀ (n : Nat) (s : Int32 × Int32), lpN (b_M_ahead_29 c1 M) n s = some r → Go l X_M_ahead post 29 [(0, vr 8 0), (1, vi c1), (2, vi c2), (3, vi s.1), (4, vi s.2)] [] M := by
  intro n
  induction n with
  | zero => intro s hc; exact (lpN_0 hc).elim
  | succ n ih =>
    intro s hc
    obtain ⟨q, h, hc⟩ := lpN_inv hc
    unfold b_M_ahead_29 at h
    refine go_iload 22 rfl 4 rfl ?_
    refine go_iconst 4 23 rfl (by decide) ?_
    refine go_icmp_ge 105 24 rfl (by decide) (fun c => ?_) (fun c => ?_)
    · replace h := ite_t c h
      cases h
      obtain rfl := lpq_r hc
      exact kk
    · replace h := ite_f c h
      refine go_iconst 0 25 rfl (by decide) ?_
      refine go_istore 26 rfl (Nat.le_of_ble_eq_true rfl) [(0, _), (1, _), (2, _), (3, _), (4, _), (5, _)] rfl ?_
      obtain ⟨r3, c, h⟩ := bd_inv h
      refine w_M_ahead_38 _ _ _ _ ?_ _ _ c
      refine go_iinc 1 66 rfl 4 rfl (by decide) (Nat.le_of_ble_eq_true rfl) [(0, _), (1, _), (2, _), (3, _), (4, _), (5, _)] rfl ?_
      refine go_goto 29 67 rfl (by decide) ?_
      cases h
      refine go_sub [0, 1, 2, 3, 4] rfl ?_
      exact ih _ hc
set_option maxRecDepth 20000 in
theorem e_M_ahead {l : Launch} {a1 : Int32} {a2 : Int32} {M : Mm} {r : Int32}  (h : m_M_ahead a1 a2 M = some r) : Ev l X_M_ahead [vr 8 0, vi a1, vi a2] M (fun v M2 => v = (some (vi r)) ∧ M2 = M) := by
  refine Ev.of mk_M_ahead [(0, vr 8 0), (1, vi a1), (2, vi a2)] (fun _ => rfl) (fun _ => (Nat.le_of_ble_eq_true rfl)) ?_
  unfold m_M_ahead at h
  refine go_aload_n 0 rfl 0 rfl rfl ?_
  refine go_getfield 1 _ 1 rfl (by first | decide | exact ok0 (by omega) | exact ok1 (by omega) | exact ok2 (by omega) | exact ok7 (by omega)) rfl fg_M_7 rfl ?_
  refine go_bipush 8 2 rfl (by decide) ?_
  refine go_iload_n 3 rfl 1 rfl rfl ?_
  refine go_imul 4 rfl ?_
  refine go_iload_n 5 rfl 2 rfl rfl ?_
  refine go_iadd 6 rfl ?_
  obtain ⟨c, h⟩ := ck_inv h
  refine go_iaload 7 rfl (by first | decide | exact ok0 (by omega) | exact ok1 (by omega) | exact ok2 (by omega) | exact ok7 (by omega)) (inb_vp c) ?_
  refine go_aload_n 8 rfl 0 rfl rfl ?_
  refine go_getfield 1 _ 9 rfl (by first | decide | exact ok0 (by omega) | exact ok1 (by omega) | exact ok2 (by omega) | exact ok7 (by omega)) rfl fg_M_7 rfl ?_
  refine go_bipush 8 10 rfl (by decide) ?_
  refine go_iload_n 11 rfl 1 rfl rfl ?_
  refine go_imul 12 rfl ?_
  refine go_iconst 4 13 rfl (by decide) ?_
  refine go_iadd 14 rfl ?_
  refine go_iload_n 15 rfl 2 rfl rfl ?_
  refine go_iadd 16 rfl ?_
  obtain ⟨c, h⟩ := ck_inv h
  refine go_iaload 17 rfl (by first | decide | exact ok0 (by omega) | exact ok1 (by omega) | exact ok2 (by omega) | exact ok7 (by omega)) (inb_vp c) ?_
  refine go_ior 18 rfl ?_
  obtain ⟨_, c, h⟩ := bd_inv h
  cases c
  refine go_istore_n 19 rfl rfl (Nat.le_of_ble_eq_true rfl) [(0, _), (1, _), (2, _), (3, _)] rfl ?_
  refine go_iconst 0 20 rfl (by decide) ?_
  refine go_istore 21 rfl (Nat.le_of_ble_eq_true rfl) [(0, _), (1, _), (2, _), (3, _), (4, _)] rfl ?_
  obtain ⟨r4, c, h⟩ := bd_inv h
  refine w_M_ahead_29 _ _ _ ?_ _ _ c
  refine go_iload_n 68 rfl 3 rfl rfl ?_
  cases h
  exact go_ireturn 69 rfl rfl rfl ⟨rfl, rfl⟩
def X_M_alive : MX := (⟨"OmegaDeskModel", "alive", "(II)Z"⟩, prog_8_method_13_code, 7, some .boolean, { frames := 1, cells := 0, slots := 0, locals := 25 },
  [(0, .iload_n 2, 1), (1, .ifCond .eq 17, 4), (4, .aload_n 0, 5), (5, .iload_n 1, 6), (6, .iconst 0, 7), (7, .invokevirtual 61, 10), (10, .iload_n 2, 11), (11, .ishr, 12), (12, .iconst 1, 13), (13, .iand, 14), (14, .iconst 1, 15), (15, .if_icmp .ne 7, 18), (18, .iconst 1, 19), (19, .goto 4, 22), (22, .iconst 0, 23), (23, .istore_n 3, 24), (24, .iconst 0, 25), (25, .istore 4, 27), (27, .iconst 0, 28), (28, .istore 5, 30), (30, .iload 5, 32), (32, .aload_n 0, 33), (33, .getfield 16, 36), (36, .iload_n 1, 37), (37, .iaload, 38), (38, .if_icmp .ge 85, 41), (41, .aload_n 0, 42), (42, .getfield 13, 45), (45, .iload_n 1, 46), (46, .iaload, 47), (47, .iload 5, 49), (49, .ishr, 50), (50, .iconst 1, 51), (51, .iand, 52), (52, .iconst 1, 53), (53, .if_icmp .ne 23, 56), (56, .aload_n 0, 57), (57, .iload_n 1, 58), (58, .iload 5, 60), (60, .invokevirtual 61, 63), (63, .iload 5, 65), (65, .ishr, 66), (66, .iconst 1, 67), (67, .iand, 68), (68, .iconst 1, 69), (69, .if_icmp .ne 7, 72), (72, .iconst 1, 73), (73, .goto 4, 76), (76, .iconst 0, 77), (77, .istore 6, 79), (79, .iload 4, 81), (81, .ifCond .ne 29, 84), (84, .iload 6, 86), (86, .ifCond .eq 28, 89), (89, .iload_n 2, 90), (90, .iload 5, 92), (92, .if_icmp .eq 18, 95), (95, .aload_n 0, 96), (96, .iload_n 1, 97), (97, .iload_n 2, 98), (98, .invokevirtual 61, 101), (101, .iload 5, 103), (103, .ishr, 104), (104, .iconst 1, 105), (105, .iand, 106), (106, .iconst 1, 107), (107, .if_icmp .ne 7, 110), (110, .iconst 1, 111), (111, .goto 4, 114), (114, .iconst 0, 115), (115, .istore 4, 117), (117, .iinc 5 1, 120), (120, .goto (-90), 123), (123, .iload_n 3, 124), (124, .ifCond .eq 12, 127), (127, .iload 4, 129), (129, .ifCond .eq 7, 132), (132, .iconst 1, 133), (133, .goto 4, 136), (136, .iconst 0, 137), (137, .ireturn, 138)])
set_option maxRecDepth 20000 in
theorem mk_M_alive : Mk X_M_alive := ⟨by unfold TBk; decide +kernel, by decide +kernel, wb_609, ⟨by decide, by decide⟩, rfl, rfl, wb_6⟩
theorem cv_M_61 : CV "OmegaDeskModel" 61 X_M_ahead 2 8 := ⟨Or.inl wb_610, ⟨wb_612, ws_M_ahead⟩, by decide +kernel, F_M, 12, rfl⟩
def b_M_alive_30 (c1 : Int32) (c2 : Int32) (M : Mm) (s : Int32 × Int32) : Option ((Int32 × Int32) ⊕ (Int32 × Int32)) :=
  ck (inb c1 (lenI 18)) <|
  if (M.1 (1, 18) c1.toNatClampNeg) ≤ s.2 then
    some (Sum.inr (s.1, s.2))
  else
    ck (inb c1 (lenI 17)) <|
    if (((M.1 (1, 17) c1.toNatClampNeg) >>> (s.2 &&& 31)) &&& (1 : Int32)) = (1 : Int32) then
      bd (m_M_ahead c1 s.2 M) fun r1 =>
      if ((r1 >>> (s.2 &&& 31)) &&& (1 : Int32)) = (1 : Int32) then
        if s.1 = 0 then
          if c2 = s.2 then
            some (Sum.inl ((1 : Int32), (s.2 + 1)))
          else
            bd (m_M_ahead c1 c2 M) fun r2 =>
            if ((r2 >>> (s.2 &&& 31)) &&& (1 : Int32)) = (1 : Int32) then
              some (Sum.inl ((1 : Int32), (s.2 + 1)))
            else
              some (Sum.inl ((0 : Int32), (s.2 + 1)))
        else
          some (Sum.inl ((1 : Int32), (s.2 + 1)))
      else
        if s.1 = 0 then
          some (Sum.inl ((0 : Int32), (s.2 + 1)))
        else
          some (Sum.inl ((1 : Int32), (s.2 + 1)))
    else
      if s.1 = 0 then
        some (Sum.inl ((0 : Int32), (s.2 + 1)))
      else
        some (Sum.inl ((1 : Int32), (s.2 + 1)))
def m_M_alive (a1 : Int32) (a2 : Int32) (M : Mm) : Option (Bool) :=
  if a2 = 0 then
    bd (lp (b_M_alive_30 a1 a2 M) ((0 : Int32), (0 : Int32))) fun r3 =>
    if r3.1 = 0 then
      some false
    else
      some true
  else
    bd (m_M_ahead a1 (0 : Int32) M) fun r4 =>
    if ((r4 >>> (a2 &&& 31)) &&& (1 : Int32)) = (1 : Int32) then
      bd (lp (b_M_alive_30 a1 a2 M) ((0 : Int32), (0 : Int32))) fun r6 =>
      if r6.1 = 0 then
        some false
      else
        some true
    else
      bd (lp (b_M_alive_30 a1 a2 M) ((0 : Int32), (0 : Int32))) fun r5 =>
      some false
set_option maxRecDepth 20000 in
theorem w_M_alive_30 {l : Launch} {post : Option PV → Mm → Prop} (c1 : Int32) (c2 : Int32) (c3 : Int32) (M : Mm)  {r : Int32 × Int32} (kk : Go l X_M_alive post 123 [(0, vr 8 0), (1, vi c1), (2, vi c2), (3, vi c3), (4, vi r.1), (5, vi r.2)] [] M) : ∀ (n : Nat) (s : Int32 × Int32), lpN (b_M_alive_30 c1 c2 M) n s = some r → Go l X_M_alive post 30 [(0, vr 8 0), (1, vi c1), (2, vi c2), (3, vi c3), (4, vi s.1), (5, vi s.2)] [] M := by
  intro n
  induction n with
  | zero => intro s hc; exact (lpN_0 hc).elim
  | succ n ih =>
    intro s hc
    obtain ⟨q, h, hc⟩ := lpN_inv hc
    unfold b_M_alive_30 at h
    refine go_iload 20 rfl 5 rfl ?_
    refine go_aload_n 21 rfl 0 rfl rfl ?_
    refine go_getfield 3 _ 22 rfl (by first | decide | exact ok0 (by omega) | exact ok1 (by omega) | exact ok2 (by omega) | exact ok7 (by omega)) rfl fg_M_16 rfl ?_
    refine go_iload_n 23 rfl 1 rfl rfl ?_
    obtain ⟨c, h⟩ := ck_inv h
    refine go_iaload 24 rfl (by first | decide | exact ok0 (by omega) | exact ok1 (by omega) | exact ok2 (by omega) | exact ok7 (by omega)) (inb_vp c) ?_
    refine go_icmp_ge 123 25 rfl (by decide) (fun c => ?_) (fun c => ?_)
    · replace h := ite_t c h
      cases h
      obtain rfl := lpq_r hc
      exact kk
    · replace h := ite_f c h
      refine go_aload_n 26 rfl 0 rfl rfl ?_
      refine go_getfield 2 _ 27 rfl (by first | decide | exact ok0 (by omega) | exact ok1 (by omega) | exact ok2 (by omega) | exact ok7 (by omega)) rfl fg_M_13 rfl ?_
      refine go_iload_n 28 rfl 1 rfl rfl ?_
      obtain ⟨c, h⟩ := ck_inv h
      refine go_iaload 29 rfl (by first | decide | exact ok0 (by omega) | exact ok1 (by omega) | exact ok2 (by omega) | exact ok7 (by omega)) (inb_vp c) ?_
      refine go_iload 30 rfl 5 rfl ?_
      refine go_ishr 31 rfl ?_
      refine go_iconst 1 32 rfl (by decide) ?_
      refine go_iand 33 rfl ?_
      refine go_iconst 1 34 rfl (by decide) ?_
      refine go_icmp_ne 76 35 rfl (by decide) (fun c => ?_) (fun c => ?_)
      · replace h := ite_f c h
        refine go_iconst 0 48 rfl (by decide) ?_
        refine go_istore 49 rfl (Nat.le_of_ble_eq_true rfl) [(0, _), (1, _), (2, _), (3, _), (4, _), (5, _), (6, _)] rfl ?_
        refine go_iload 50 rfl 4 rfl ?_
        refine go_if_ne 110 51 rfl (by decide) (fun c => ?_) (fun c => ?_)
        · replace h := ite_f c h
          refine go_iconst 1 67 rfl (by decide) ?_
          refine go_goto 115 68 rfl (by decide) ?_
          refine go_istore 70 rfl (Nat.le_of_ble_eq_true rfl) [(0, _), (1, _), (2, _), (3, _), (4, _), (5, _), (6, _)] rfl ?_
          refine go_iinc 1 71 rfl 5 rfl (by decide) (Nat.le_of_ble_eq_true rfl) [(0, _), (1, _), (2, _), (3, _), (4, _), (5, _), (6, _)] rfl ?_
          refine go_goto 30 72 rfl (by decide) ?_
          cases h
          refine go_sub [0, 1, 2, 3, 4, 5] rfl ?_
          exact ih _ hc
        · replace h := ite_t c h
          refine go_iload 52 rfl 6 rfl ?_
          refine go_if_eq 114 53 rfl (by decide) (fun _ => ?_) (fun c => absurd c (by decide))
          refine go_iconst 0 69 rfl (by decide) ?_
          refine go_istore 70 rfl (Nat.le_of_ble_eq_true rfl) [(0, _), (1, _), (2, _), (3, _), (4, _), (5, _), (6, _)] rfl ?_
          refine go_iinc 1 71 rfl 5 rfl (by decide) (Nat.le_of_ble_eq_true rfl) [(0, _), (1, _), (2, _), (3, _), (4, _), (5, _), (6, _)] rfl ?_
          refine go_goto 30 72 rfl (by decide) ?_
          cases h
          refine go_sub [0, 1, 2, 3, 4, 5] rfl ?_
          exact ih _ hc
      · replace h := ite_t c h
        refine go_aload_n 36 rfl 0 rfl rfl ?_
        refine go_iload_n 37 rfl 1 rfl rfl ?_
        refine go_iload 38 rfl 5 rfl ?_
        obtain ⟨r1, c, h⟩ := bd_inv h
        refine go_callV1 _ 39 rfl (e_M_ahead c) mk_M_ahead (by first | decide | exact ok0 (by omega) | exact ok1 (by omega) | exact ok2 (by omega) | exact ok7 (by omega)) rfl cv_M_61 rfl ⟨(Nat.le_of_ble_eq_true rfl), (Nat.le_of_ble_eq_true rfl)⟩ (Nat.le_of_ble_eq_true rfl) rfl ?_
        refine go_iload 40 rfl 5 rfl ?_
        refine go_ishr 41 rfl ?_
        refine go_iconst 1 42 rfl (by decide) ?_
        refine go_iand 43 rfl ?_
        refine go_iconst 1 44 rfl (by decide) ?_
        refine go_icmp_ne 76 45 rfl (by decide) (fun c => ?_) (fun c => ?_)
        · replace h := ite_f c h
          refine go_iconst 0 48 rfl (by decide) ?_
          refine go_istore 49 rfl (Nat.le_of_ble_eq_true rfl) [(0, _), (1, _), (2, _), (3, _), (4, _), (5, _), (6, _)] rfl ?_
          refine go_iload 50 rfl 4 rfl ?_
          refine go_if_ne 110 51 rfl (by decide) (fun c => ?_) (fun c => ?_)
          · replace h := ite_f c h
            refine go_iconst 1 67 rfl (by decide) ?_
            refine go_goto 115 68 rfl (by decide) ?_
            refine go_istore 70 rfl (Nat.le_of_ble_eq_true rfl) [(0, _), (1, _), (2, _), (3, _), (4, _), (5, _), (6, _)] rfl ?_
            refine go_iinc 1 71 rfl 5 rfl (by decide) (Nat.le_of_ble_eq_true rfl) [(0, _), (1, _), (2, _), (3, _), (4, _), (5, _), (6, _)] rfl ?_
            refine go_goto 30 72 rfl (by decide) ?_
            cases h
            refine go_sub [0, 1, 2, 3, 4, 5] rfl ?_
            exact ih _ hc
          · replace h := ite_t c h
            refine go_iload 52 rfl 6 rfl ?_
            refine go_if_eq 114 53 rfl (by decide) (fun _ => ?_) (fun c => absurd c (by decide))
            refine go_iconst 0 69 rfl (by decide) ?_
            refine go_istore 70 rfl (Nat.le_of_ble_eq_true rfl) [(0, _), (1, _), (2, _), (3, _), (4, _), (5, _), (6, _)] rfl ?_
            refine go_iinc 1 71 rfl 5 rfl (by decide) (Nat.le_of_ble_eq_true rfl) [(0, _), (1, _), (2, _), (3, _), (4, _), (5, _), (6, _)] rfl ?_
            refine go_goto 30 72 rfl (by decide) ?_
            cases h
            refine go_sub [0, 1, 2, 3, 4, 5] rfl ?_
            exact ih _ hc
        · replace h := ite_t c h
          refine go_iconst 1 46 rfl (by decide) ?_
          refine go_goto 77 47 rfl (by decide) ?_
          refine go_istore 49 rfl (Nat.le_of_ble_eq_true rfl) [(0, _), (1, _), (2, _), (3, _), (4, _), (5, _), (6, _)] rfl ?_
          refine go_iload 50 rfl 4 rfl ?_
          refine go_if_ne 110 51 rfl (by decide) (fun c => ?_) (fun c => ?_)
          · replace h := ite_f c h
            refine go_iconst 1 67 rfl (by decide) ?_
            refine go_goto 115 68 rfl (by decide) ?_
            refine go_istore 70 rfl (Nat.le_of_ble_eq_true rfl) [(0, _), (1, _), (2, _), (3, _), (4, _), (5, _), (6, _)] rfl ?_
            refine go_iinc 1 71 rfl 5 rfl (by decide) (Nat.le_of_ble_eq_true rfl) [(0, _), (1, _), (2, _), (3, _), (4, _), (5, _), (6, _)] rfl ?_
            refine go_goto 30 72 rfl (by decide) ?_
            cases h
            refine go_sub [0, 1, 2, 3, 4, 5] rfl ?_
            exact ih _ hc
          · replace h := ite_t c h
            refine go_iload 52 rfl 6 rfl ?_
            refine go_if_eq 114 53 rfl (by decide) (fun c => absurd c (by decide)) (fun _ => ?_)
            refine go_iload_n 54 rfl 2 rfl rfl ?_
            refine go_iload 55 rfl 5 rfl ?_
            refine go_icmp_eq 110 56 rfl (by decide) (fun c => ?_) (fun c => ?_)
            · replace h := ite_t c h
              refine go_iconst 1 67 rfl (by decide) ?_
              refine go_goto 115 68 rfl (by decide) ?_
              refine go_istore 70 rfl (Nat.le_of_ble_eq_true rfl) [(0, _), (1, _), (2, _), (3, _), (4, _), (5, _), (6, _)] rfl ?_
              refine go_iinc 1 71 rfl 5 rfl (by decide) (Nat.le_of_ble_eq_true rfl) [(0, _), (1, _), (2, _), (3, _), (4, _), (5, _), (6, _)] rfl ?_
              refine go_goto 30 72 rfl (by decide) ?_
              cases h
              refine go_sub [0, 1, 2, 3, 4, 5] rfl ?_
              exact ih _ hc
            · replace h := ite_f c h
              refine go_aload_n 57 rfl 0 rfl rfl ?_
              refine go_iload_n 58 rfl 1 rfl rfl ?_
              refine go_iload_n 59 rfl 2 rfl rfl ?_
              obtain ⟨r2, c, h⟩ := bd_inv h
              refine go_callV1 _ 60 rfl (e_M_ahead c) mk_M_ahead (by first | decide | exact ok0 (by omega) | exact ok1 (by omega) | exact ok2 (by omega) | exact ok7 (by omega)) rfl cv_M_61 rfl ⟨(Nat.le_of_ble_eq_true rfl), (Nat.le_of_ble_eq_true rfl)⟩ (Nat.le_of_ble_eq_true rfl) rfl ?_
              refine go_iload 61 rfl 5 rfl ?_
              refine go_ishr 62 rfl ?_
              refine go_iconst 1 63 rfl (by decide) ?_
              refine go_iand 64 rfl ?_
              refine go_iconst 1 65 rfl (by decide) ?_
              refine go_icmp_ne 114 66 rfl (by decide) (fun c => ?_) (fun c => ?_)
              · replace h := ite_f c h
                refine go_iconst 0 69 rfl (by decide) ?_
                refine go_istore 70 rfl (Nat.le_of_ble_eq_true rfl) [(0, _), (1, _), (2, _), (3, _), (4, _), (5, _), (6, _)] rfl ?_
                refine go_iinc 1 71 rfl 5 rfl (by decide) (Nat.le_of_ble_eq_true rfl) [(0, _), (1, _), (2, _), (3, _), (4, _), (5, _), (6, _)] rfl ?_
                refine go_goto 30 72 rfl (by decide) ?_
                cases h
                refine go_sub [0, 1, 2, 3, 4, 5] rfl ?_
                exact ih _ hc
              · replace h := ite_t c h
                refine go_iconst 1 67 rfl (by decide) ?_
                refine go_goto 115 68 rfl (by decide) ?_
                refine go_istore 70 rfl (Nat.le_of_ble_eq_true rfl) [(0, _), (1, _), (2, _), (3, _), (4, _), (5, _), (6, _)] rfl ?_
                refine go_iinc 1 71 rfl 5 rfl (by decide) (Nat.le_of_ble_eq_true rfl) [(0, _), (1, _), (2, _), (3, _), (4, _), (5, _), (6, _)] rfl ?_
                refine go_goto 30 72 rfl (by decide) ?_
                cases h
                refine go_sub [0, 1, 2, 3, 4, 5] rfl ?_
                exact ih _ hc
set_option maxRecDepth 20000 in
theorem e_M_alive {l : Launch} {a1 : Int32} {a2 : Int32} {M : Mm} {r : Bool}  (h : m_M_alive a1 a2 M = some r) : Ev l X_M_alive [vr 8 0, vi a1, vi a2] M (fun v M2 => v = (some (vi (bI r))) ∧ M2 = M) := by
  refine Ev.of mk_M_alive [(0, vr 8 0), (1, vi a1), (2, vi a2)] (fun _ => rfl) (fun _ => (Nat.le_of_ble_eq_true rfl)) ?_
  unfold m_M_alive at h
  refine go_iload_n 0 rfl 2 rfl rfl ?_
  refine go_if_eq 18 1 rfl (by decide) (fun c => ?_) (fun c => ?_)
  · replace h := ite_t c h
    refine go_iconst 1 12 rfl (by decide) ?_
    refine go_goto 23 13 rfl (by decide) ?_
    refine go_istore_n 15 rfl rfl (Nat.le_of_ble_eq_true rfl) [(0, _), (1, _), (2, _), (3, _)] rfl ?_
    refine go_iconst 0 16 rfl (by decide) ?_
    refine go_istore 17 rfl (Nat.le_of_ble_eq_true rfl) [(0, _), (1, _), (2, _), (3, _), (4, _)] rfl ?_
    refine go_iconst 0 18 rfl (by decide) ?_
    refine go_istore 19 rfl (Nat.le_of_ble_eq_true rfl) [(0, _), (1, _), (2, _), (3, _), (4, _), (5, _)] rfl ?_
    obtain ⟨r3, c, h⟩ := bd_inv h
    refine w_M_alive_30 _ _ _ _ ?_ _ _ c
    refine go_iload_n 73 rfl 3 rfl rfl ?_
    refine go_if_eq 136 74 rfl (by decide) (fun c => absurd c (by decide)) (fun _ => ?_)
    refine go_iload 75 rfl 4 rfl ?_
    refine go_if_eq 136 76 rfl (by decide) (fun c => ?_) (fun c => ?_)
    · replace h := ite_t c h
      refine go_iconst 0 79 rfl (by decide) ?_
      cases h
      exact go_ireturn 80 rfl rfl rfl ⟨rfl, rfl⟩
    · replace h := ite_f c h
      refine go_iconst 1 77 rfl (by decide) ?_
      refine go_goto 137 78 rfl (by decide) ?_
      cases h
      exact go_ireturn 80 rfl rfl rfl ⟨rfl, rfl⟩
  · replace h := ite_f c h
    refine go_aload_n 2 rfl 0 rfl rfl ?_
    refine go_iload_n 3 rfl 1 rfl rfl ?_
    refine go_iconst 0 4 rfl (by decide) ?_
    obtain ⟨r4, c, h⟩ := bd_inv h
    refine go_callV1 _ 5 rfl (e_M_ahead c) mk_M_ahead (by first | decide | exact ok0 (by omega) | exact ok1 (by omega) | exact ok2 (by omega) | exact ok7 (by omega)) rfl cv_M_61 rfl ⟨(Nat.le_of_ble_eq_true rfl), (Nat.le_of_ble_eq_true rfl)⟩ (Nat.le_of_ble_eq_true rfl) rfl ?_
    refine go_iload_n 6 rfl 2 rfl rfl ?_
    refine go_ishr 7 rfl ?_
    refine go_iconst 1 8 rfl (by decide) ?_
    refine go_iand 9 rfl ?_
    refine go_iconst 1 10 rfl (by decide) ?_
    refine go_icmp_ne 22 11 rfl (by decide) (fun c => ?_) (fun c => ?_)
    · replace h := ite_f c h
      refine go_iconst 0 14 rfl (by decide) ?_
      refine go_istore_n 15 rfl rfl (Nat.le_of_ble_eq_true rfl) [(0, _), (1, _), (2, _), (3, _)] rfl ?_
      refine go_iconst 0 16 rfl (by decide) ?_
      refine go_istore 17 rfl (Nat.le_of_ble_eq_true rfl) [(0, _), (1, _), (2, _), (3, _), (4, _)] rfl ?_
      refine go_iconst 0 18 rfl (by decide) ?_
      refine go_istore 19 rfl (Nat.le_of_ble_eq_true rfl) [(0, _), (1, _), (2, _), (3, _), (4, _), (5, _)] rfl ?_
      obtain ⟨r5, c, h⟩ := bd_inv h
      refine w_M_alive_30 _ _ _ _ ?_ _ _ c
      refine go_iload_n 73 rfl 3 rfl rfl ?_
      refine go_if_eq 136 74 rfl (by decide) (fun _ => ?_) (fun c => absurd c (by decide))
      refine go_iconst 0 79 rfl (by decide) ?_
      cases h
      exact go_ireturn 80 rfl rfl rfl ⟨rfl, rfl⟩
    · replace h := ite_t c h
      refine go_iconst 1 12 rfl (by decide) ?_
      refine go_goto 23 13 rfl (by decide) ?_
      refine go_istore_n 15 rfl rfl (Nat.le_of_ble_eq_true rfl) [(0, _), (1, _), (2, _), (3, _)] rfl ?_
      refine go_iconst 0 16 rfl (by decide) ?_
      refine go_istore 17 rfl (Nat.le_of_ble_eq_true rfl) [(0, _), (1, _), (2, _), (3, _), (4, _)] rfl ?_
      refine go_iconst 0 18 rfl (by decide) ?_
      refine go_istore 19 rfl (Nat.le_of_ble_eq_true rfl) [(0, _), (1, _), (2, _), (3, _), (4, _), (5, _)] rfl ?_
      obtain ⟨r6, c, h⟩ := bd_inv h
      refine w_M_alive_30 _ _ _ _ ?_ _ _ c
      refine go_iload_n 73 rfl 3 rfl rfl ?_
      refine go_if_eq 136 74 rfl (by decide) (fun c => absurd c (by decide)) (fun _ => ?_)
      refine go_iload 75 rfl 4 rfl ?_
      refine go_if_eq 136 76 rfl (by decide) (fun c => ?_) (fun c => ?_)
      · replace h := ite_t c h
        refine go_iconst 0 79 rfl (by decide) ?_
        cases h
        exact go_ireturn 80 rfl rfl rfl ⟨rfl, rfl⟩
      · replace h := ite_f c h
        refine go_iconst 1 77 rfl (by decide) ?_
        refine go_goto 137 78 rfl (by decide) ?_
        cases h
        exact go_ireturn 80 rfl rfl rfl ⟨rfl, rfl⟩
def X_M_living : MX := (⟨"OmegaDeskModel", "living", "(I)I"⟩, prog_8_method_14_code, 4, some .int, { frames := 2, cells := 0, slots := 0, locals := 51 },
  [(0, .iconst 0, 1), (1, .istore_n 2, 2), (2, .iconst 0, 3), (3, .istore_n 3, 4), (4, .iload_n 3, 5), (5, .aload_n 0, 6), (6, .getfield 16, 9), (9, .iload_n 1, 10), (10, .iaload, 11), (11, .if_icmp .ge 28, 14), (14, .aload_n 0, 15), (15, .iload_n 1, 16), (16, .iload_n 3, 17), (17, .invokevirtual 65, 20), (20, .ifCond .eq 11, 23), (23, .iload_n 2, 24), (24, .iconst 1, 25), (25, .iload_n 3, 26), (26, .ishl, 27), (27, .ior, 28), (28, .goto 4, 31), (31, .iload_n 2, 32), (32, .istore_n 2, 33), (33, .iinc 3 1, 36), (36, .goto (-32), 39), (39, .iload_n 2, 40), (40, .iconst 1, 41), (41, .iand, 42), (42, .iconst 1, 43), (43, .if_icmp .ne 7, 46), (46, .iload_n 2, 47), (47, .goto 4, 50), (50, .iconst 0, 51), (51, .ireturn, 52)])
set_option maxRecDepth 20000 in
theorem mk_M_living : Mk X_M_living := ⟨by unfold TBk; decide +kernel, by decide +kernel, wb_605, ⟨by decide, by decide⟩, rfl, rfl, wb_6⟩
theorem cv_M_65 : CV "OmegaDeskModel" 65 X_M_alive 2 8 := ⟨Or.inl wb_606, ⟨wb_608, ws_M_alive⟩, by decide +kernel, F_M, 12, rfl⟩
def b_M_living_4 (c1 : Int32) (M : Mm) (s : Int32 × Int32) : Option ((Int32 × Int32) ⊕ (Int32 × Int32)) :=
  ck (inb c1 (lenI 18)) <|
  if (M.1 (1, 18) c1.toNatClampNeg) ≤ s.2 then
    some (Sum.inr (s.1, s.2))
  else
    bd (m_M_alive c1 s.2 M) fun r1 =>
    if (bI r1) = 0 then
      some (Sum.inl (s.1, (s.2 + 1)))
    else
      some (Sum.inl ((s.1 ||| ((1 : Int32) <<< (s.2 &&& 31))), (s.2 + 1)))
def m_M_living (a1 : Int32) (M : Mm) : Option (Int32) :=
  bd (lp (b_M_living_4 a1 M) ((0 : Int32), (0 : Int32))) fun r2 =>
  if (r2.1 &&& (1 : Int32)) = (1 : Int32) then
    some r2.1
  else
    some (0 : Int32)
set_option maxRecDepth 20000 in
theorem w_M_living_4 {l : Launch} {post : Option PV → Mm → Prop} (c1 : Int32) (M : Mm)  {r : Int32 × Int32} (kk : Go l X_M_living post 39 [(0, vr 8 0), (1, vi c1), (2, vi r.1), (3, vi r.2)] [] M) : ∀ (n : Nat) (s : Int32 × Int32), lpN (b_M_living_4 c1 M) n s = some r → Go l X_M_living post 4 [(0, vr 8 0), (1, vi c1), (2, vi s.1), (3, vi s.2)] [] M := by
  intro n
  induction n with
  | zero => intro s hc; exact (lpN_0 hc).elim
  | succ n ih =>
    intro s hc
    obtain ⟨q, h, hc⟩ := lpN_inv hc
    unfold b_M_living_4 at h
    refine go_iload_n 4 rfl 3 rfl rfl ?_
    refine go_aload_n 5 rfl 0 rfl rfl ?_
    refine go_getfield 3 _ 6 rfl (by first | decide | exact ok0 (by omega) | exact ok1 (by omega) | exact ok2 (by omega) | exact ok7 (by omega)) rfl fg_M_16 rfl ?_
    refine go_iload_n 7 rfl 1 rfl rfl ?_
    obtain ⟨c, h⟩ := ck_inv h
    refine go_iaload 8 rfl (by first | decide | exact ok0 (by omega) | exact ok1 (by omega) | exact ok2 (by omega) | exact ok7 (by omega)) (inb_vp c) ?_
    refine go_icmp_ge 39 9 rfl (by decide) (fun c => ?_) (fun c => ?_)
    · replace h := ite_t c h
      cases h
      obtain rfl := lpq_r hc
      exact kk
    · replace h := ite_f c h
      refine go_aload_n 10 rfl 0 rfl rfl ?_
      refine go_iload_n 11 rfl 1 rfl rfl ?_
      refine go_iload_n 12 rfl 3 rfl rfl ?_
      obtain ⟨r1, c, h⟩ := bd_inv h
      refine go_callV1 _ 13 rfl (e_M_alive c) mk_M_alive (by first | decide | exact ok0 (by omega) | exact ok1 (by omega) | exact ok2 (by omega) | exact ok7 (by omega)) rfl cv_M_65 rfl ⟨(Nat.le_of_ble_eq_true rfl), (Nat.le_of_ble_eq_true rfl)⟩ (Nat.le_of_ble_eq_true rfl) rfl ?_
      refine go_if_eq 31 14 rfl (by decide) (fun c => ?_) (fun c => ?_)
      · replace h := ite_t c h
        refine go_iload_n 21 rfl 2 rfl rfl ?_
        refine go_istore_n 22 rfl rfl (Nat.le_of_ble_eq_true rfl) [(0, _), (1, _), (2, _), (3, _)] rfl ?_
        refine go_iinc 1 23 rfl 3 rfl (by decide) (Nat.le_of_ble_eq_true rfl) [(0, _), (1, _), (2, _), (3, _)] rfl ?_
        refine go_goto 4 24 rfl (by decide) ?_
        cases h
        exact ih _ hc
      · replace h := ite_f c h
        refine go_iload_n 15 rfl 2 rfl rfl ?_
        refine go_iconst 1 16 rfl (by decide) ?_
        refine go_iload_n 17 rfl 3 rfl rfl ?_
        refine go_ishl 18 rfl ?_
        refine go_ior 19 rfl ?_
        refine go_goto 32 20 rfl (by decide) ?_
        refine go_istore_n 22 rfl rfl (Nat.le_of_ble_eq_true rfl) [(0, _), (1, _), (2, _), (3, _)] rfl ?_
        refine go_iinc 1 23 rfl 3 rfl (by decide) (Nat.le_of_ble_eq_true rfl) [(0, _), (1, _), (2, _), (3, _)] rfl ?_
        refine go_goto 4 24 rfl (by decide) ?_
        cases h
        exact ih _ hc
set_option maxRecDepth 20000 in
theorem e_M_living {l : Launch} {a1 : Int32} {M : Mm} {r : Int32}  (h : m_M_living a1 M = some r) : Ev l X_M_living [vr 8 0, vi a1] M (fun v M2 => v = (some (vi r)) ∧ M2 = M) := by
  refine Ev.of mk_M_living [(0, vr 8 0), (1, vi a1)] (fun _ => rfl) (fun _ => (Nat.le_of_ble_eq_true rfl)) ?_
  unfold m_M_living at h
  refine go_iconst 0 0 rfl (by decide) ?_
  refine go_istore_n 1 rfl rfl (Nat.le_of_ble_eq_true rfl) [(0, _), (1, _), (2, _)] rfl ?_
  refine go_iconst 0 2 rfl (by decide) ?_
  refine go_istore_n 3 rfl rfl (Nat.le_of_ble_eq_true rfl) [(0, _), (1, _), (2, _), (3, _)] rfl ?_
  obtain ⟨r2, c, h⟩ := bd_inv h
  refine w_M_living_4 _ _ ?_ _ _ c
  refine go_iload_n 25 rfl 2 rfl rfl ?_
  refine go_iconst 1 26 rfl (by decide) ?_
  refine go_iand 27 rfl ?_
  refine go_iconst 1 28 rfl (by decide) ?_
  refine go_icmp_ne 50 29 rfl (by decide) (fun c => ?_) (fun c => ?_)
  · replace h := ite_f c h
    refine go_iconst 0 32 rfl (by decide) ?_
    cases h
    exact go_ireturn 33 rfl rfl rfl ⟨rfl, rfl⟩
  · replace h := ite_t c h
    refine go_iload_n 30 rfl 2 rfl rfl ?_
    refine go_goto 51 31 rfl (by decide) ?_
    cases h
    exact go_ireturn 33 rfl rfl rfl ⟨rfl, rfl⟩
def X_M_trim : MX := (⟨"OmegaDeskModel", "trim", "(I)I"⟩, prog_8_method_15_code, 11, some .int, { frames := 3, cells := 0, slots := 0, locals := 74 },
  [(0, .aload_n 0, 1), (1, .iload_n 1, 2), (2, .bipush 6, 4), (4, .invokestatic 45, 7), (7, .ifCond .eq 7, 10), (10, .iconst 1, 11), (11, .goto 4, 14), (14, .iconst 0, 15), (15, .putfield 41, 18), (18, .aload_n 0, 19), (19, .getfield 41, 22), (22, .ifCond .le 5, 25), (25, .iconst 0, 26), (26, .ireturn, 27), (27, .aload_n 0, 28), (28, .iload_n 1, 29), (29, .invokevirtual 68, 32), (32, .istore_n 2, 33), (33, .iconst 0, 34), (34, .istore_n 3, 35), (35, .iconst 0, 36), (36, .istore 4, 38), (38, .iconst 0, 39), (39, .istore 5, 41), (41, .iload 5, 43), (43, .aload_n 0, 44), (44, .getfield 16, 47), (47, .iload_n 1, 48), (48, .iaload, 49), (49, .if_icmp .ge 141, 52), (52, .iload_n 2, 53), (53, .iload 5, 55), (55, .ishr, 56), (56, .iconst 1, 57), (57, .iand, 58), (58, .iconst 1, 59), (59, .if_icmp .ne 125, 62), (62, .iconst 0, 63), (63, .istore 6, 65), (65, .iload 6, 67), (67, .iconst 2, 68), (68, .if_icmp .ge 95, 71), (71, .aload_n 0, 72), (72, .getfield 7, 75), (75, .bipush 8, 77), (77, .iload_n 1, 78), (78, .imul, 79), (79, .iconst 4, 80), (80, .iload 6, 82), (82, .imul, 83), (83, .iadd, 84), (84, .iload 5, 86), (86, .iadd, 87), (87, .iaload, 88), (88, .istore 7, 90), (90, .iconst 0, 91), (91, .istore 8, 93), (93, .iconst 0, 94), (94, .istore 9, 96), (96, .iconst 0, 97), (97, .istore 10, 99), (99, .iload 10, 101), (101, .iconst 4, 102), (102, .if_icmp .ge 37, 105), (105, .iload_n 2, 106), (106, .iload 10, 108), (108, .ishr, 109), (109, .iconst 1, 110), (110, .iand, 111), (111, .iconst 1, 112), (112, .if_icmp .ne 21, 115), (115, .iload 8, 117), (117, .iload 7, 119), (119, .iload 10, 121), (121, .ishr, 122), (122, .iconst 1, 123), (123, .iand, 124), (124, .iload 9, 126), (126, .ishl, 127), (127, .ior, 128), (128, .istore 8, 130), (130, .iinc 9 1, 133), (133, .iinc 10 1, 136), (136, .goto (-37), 139), (139, .aload_n 0, 140), (140, .getfield 7, 143), (143, .bipush 8, 145), (145, .iload_n 1, 146), (146, .imul, 147), (147, .iconst 4, 148), (148, .iload 6, 150), (150, .imul, 151), (151, .iadd, 152), (152, .iload_n 3, 153), (153, .iadd, 154), (154, .iload 8, 156), (156, .iastore, 157), (157, .iinc 6 1, 160), (160, .goto (-95), 163), (163, .iload 4, 165), (165, .aload_n 0, 166), (166, .getfield 13, 169), (169, .iload_n 1, 170), (170, .iaload, 171), (171, .iload 5, 173), (173, .ishr, 174), (174, .iconst 1, 175), (175, .iand, 176), (176, .iload_n 3, 177), (177, .ishl, 178), (178, .ior, 179), (179, .istore 4, 181), (181, .iinc 3 1, 184), (184, .iinc 5 1, 187), (187, .goto (-146), 190), (190, .aload_n 0, 191), (191, .getfield 16, 194), (194, .iload_n 1, 195), (195, .iload_n 3, 196), (196, .iastore, 197), (197, .aload_n 0, 198), (198, .getfield 13, 201), (201, .iload_n 1, 202), (202, .iload 4, 204), (204, .iastore, 205), (205, .iload_n 3, 206), (206, .ireturn, 207)])
set_option maxRecDepth 20000 in
theorem mk_M_trim : Mk X_M_trim := ⟨by unfold TBk; decide +kernel, by decide +kernel, wb_601, ⟨by decide, by decide⟩, rfl, rfl, wb_6⟩
theorem cv_M_68 : CV "OmegaDeskModel" 68 X_M_living 1 8 := ⟨Or.inl wb_602, ⟨wb_604, ws_M_living⟩, by decide +kernel, F_M, 12, rfl⟩
def b_M_trim_99 (c2 : Int32) (c7 : Int32) (s : Int32 × Int32 × Int32) : Option ((Int32 × Int32 × Int32) ⊕ (Int32 × Int32 × Int32)) :=
  if (4 : Int32) ≤ s.2.2 then
    some (Sum.inr (s.1, s.2.1, s.2.2))
  else
    if ((c2 >>> (s.2.2 &&& 31)) &&& (1 : Int32)) = (1 : Int32) then
      bd (some (s.1 ||| (((c7 >>> (s.2.2 &&& 31)) &&& (1 : Int32)) <<< (s.2.1 &&& 31)))) fun x5 =>
      some (Sum.inl (x5, (s.2.1 + 1), (s.2.2 + 1)))
    else
      some (Sum.inl (s.1, s.2.1, (s.2.2 + 1)))
def b_M_trim_65 (c1 : Int32) (c2 : Int32) (c3 : Int32) (c5 : Int32) (s : Int32 × Mm) : Option ((Int32 × Mm) ⊕ (Int32 × Mm)) :=
  if (2 : Int32) ≤ s.1 then
    some (Sum.inr (s.1, s.2))
  else
    ck (inb ((((8 : Int32) * c1) + ((4 : Int32) * s.1)) + c5) (lenI 16)) <|
    bd (some (s.2.1 (1, 16) ((((8 : Int32) * c1) + ((4 : Int32) * s.1)) + c5).toNatClampNeg)) fun x4 =>
    bd (lp (b_M_trim_99 c2 x4) ((0 : Int32), (0 : Int32), (0 : Int32))) fun r6 =>
    ck (inb ((((8 : Int32) * c1) + ((4 : Int32) * s.1)) + c3) (lenI 16)) <|
    bd (some (uI s.2 (1, 16) ((((8 : Int32) * c1) + ((4 : Int32) * s.1)) + c3).toNatClampNeg r6.1)) fun M7 =>
    some (Sum.inl ((s.1 + 1), M7))
def b_M_trim_41 (c1 : Int32) (c2 : Int32) (s : Int32 × Int32 × Int32 × Mm) : Option ((Int32 × Int32 × Int32 × Mm) ⊕ (Int32 × Int32 × Int32 × Mm)) :=
  ck (inb c1 (lenI 18)) <|
  if (s.2.2.2.1 (1, 18) c1.toNatClampNeg) ≤ s.2.2.1 then
    some (Sum.inr (s.1, s.2.1, s.2.2.1, s.2.2.2))
  else
    if ((c2 >>> (s.2.2.1 &&& 31)) &&& (1 : Int32)) = (1 : Int32) then
      bd (lp (b_M_trim_65 c1 c2 s.1 s.2.2.1) ((0 : Int32), s.2.2.2)) fun r8 =>
      ck (inb c1 (lenI 17)) <|
      bd (some (s.2.1 ||| ((((r8.2.1 (1, 17) c1.toNatClampNeg) >>> (s.2.2.1 &&& 31)) &&& (1 : Int32)) <<< (s.1 &&& 31)))) fun x9 =>
      some (Sum.inl ((s.1 + 1), x9, (s.2.2.1 + 1), r8.2))
    else
      some (Sum.inl (s.1, s.2.1, (s.2.2.1 + 1), s.2.2.2))
def m_M_trim (a1 : Int32) (M : Mm) : Option (Int32 × Mm) :=
  bd (m_M_out a1 (6 : Int32)) fun r1 =>
  if (bI r1) = 0 then
    bd (some (uI M (8, 0) 0 (0 : Int32))) fun M2 =>
    if (M2.1 (8, 0) 0) ≤ 0 then
      bd (m_M_living a1 M2) fun r3 =>
      bd (lp (b_M_trim_41 a1 r3) ((0 : Int32), (0 : Int32), (0 : Int32), M2)) fun r10 =>
      ck (inb a1 (lenI 18)) <|
      bd (some (uI r10.2.2.2 (1, 18) a1.toNatClampNeg r10.1)) fun M11 =>
      ck (inb a1 (lenI 17)) <|
      bd (some (uI M11 (1, 17) a1.toNatClampNeg r10.2.1)) fun M12 =>
      some (r10.1, M12)
    else
      some ((0 : Int32), M2)
  else
    bd (some (uI M (8, 0) 0 (1 : Int32))) fun M13 =>
    if (M13.1 (8, 0) 0) ≤ 0 then
      bd (m_M_living a1 M13) fun r14 =>
      bd (lp (b_M_trim_41 a1 r14) ((0 : Int32), (0 : Int32), (0 : Int32), M13)) fun r15 =>
      ck (inb a1 (lenI 18)) <|
      bd (some (uI r15.2.2.2 (1, 18) a1.toNatClampNeg r15.1)) fun M16 =>
      ck (inb a1 (lenI 17)) <|
      bd (some (uI M16 (1, 17) a1.toNatClampNeg r15.2.1)) fun M17 =>
      some (r15.1, M17)
    else
      some ((0 : Int32), M13)
set_option maxRecDepth 20000 in
theorem w_M_trim_99 {l : Launch} {post : Option PV → Mm → Prop} (c1 : Int32) (c2 : Int32) (c3 : Int32) (c4 : Int32) (c5 : Int32) (c6 : Int32) (c7 : Int32) (M : Mm)  {r : Int32 × Int32 × Int32} (kk : Go l X_M_trim post 139 [(0, vr 8 0), (1, vi c1), (2, vi c2), (3, vi c3), (4, vi c4), (5, vi c5), (6, vi c6), (7, vi c7), (8, vi r.1), (9, vi r.2.1), (10, vi r.2.2)] [] M) : ∀ (n : Nat) (s : Int32 × Int32 × Int32), lpN (b_M_trim_99 c2 c7) n s = some r → Go l X_M_trim post 99 [(0, vr 8 0), (1, vi c1), (2, vi c2), (3, vi c3), (4, vi c4), (5, vi c5), (6, vi c6), (7, vi c7), (8, vi s.1), (9, vi s.2.1), (10, vi s.2.2)] [] M := by
  intro n
  induction n with
  | zero => intro s hc; exact (lpN_0 hc).elim
  | succ n ih =>
    intro s hc
    obtain ⟨q, h, hc⟩ := lpN_inv hc
    unfold b_M_trim_99 at h
    refine go_iload 61 rfl 10 rfl ?_
    refine go_iconst 4 62 rfl (by decide) ?_
    refine go_icmp_ge 139 63 rfl (by decide) (fun c => ?_) (fun c => ?_)
    · replace h := ite_t c h
      cases h
      obtain rfl := lpq_r hc
      exact kk
    · replace h := ite_f c h
      refine go_iload_n 64 rfl 2 rfl rfl ?_
      refine go_iload 65 rfl 10 rfl ?_
      refine go_ishr 66 rfl ?_
      refine go_iconst 1 67 rfl (by decide) ?_
      refine go_iand 68 rfl ?_
      refine go_iconst 1 69 rfl (by decide) ?_
      refine go_icmp_ne 133 70 rfl (by decide) (fun c => ?_) (fun c => ?_)
      · replace h := ite_f c h
        refine go_iinc 1 82 rfl 10 rfl (by decide) (Nat.le_of_ble_eq_true rfl) [(0, _), (1, _), (2, _), (3, _), (4, _), (5, _), (6, _), (7, _), (8, _), (9, _), (10, _)] rfl ?_
        refine go_goto 99 83 rfl (by decide) ?_
        cases h
        exact ih _ hc
      · replace h := ite_t c h
        refine go_iload 71 rfl 8 rfl ?_
        refine go_iload 72 rfl 7 rfl ?_
        refine go_iload 73 rfl 10 rfl ?_
        refine go_ishr 74 rfl ?_
        refine go_iconst 1 75 rfl (by decide) ?_
        refine go_iand 76 rfl ?_
        refine go_iload 77 rfl 9 rfl ?_
        refine go_ishl 78 rfl ?_
        refine go_ior 79 rfl ?_
        obtain ⟨_, c, h⟩ := bd_inv h
        cases c
        refine go_istore 80 rfl (Nat.le_of_ble_eq_true rfl) [(0, _), (1, _), (2, _), (3, _), (4, _), (5, _), (6, _), (7, _), (8, _), (9, _), (10, _)] rfl ?_
        refine go_iinc 1 81 rfl 9 rfl (by decide) (Nat.le_of_ble_eq_true rfl) [(0, _), (1, _), (2, _), (3, _), (4, _), (5, _), (6, _), (7, _), (8, _), (9, _), (10, _)] rfl ?_
        refine go_iinc 1 82 rfl 10 rfl (by decide) (Nat.le_of_ble_eq_true rfl) [(0, _), (1, _), (2, _), (3, _), (4, _), (5, _), (6, _), (7, _), (8, _), (9, _), (10, _)] rfl ?_
        refine go_goto 99 83 rfl (by decide) ?_
        cases h
        exact ih _ hc
set_option maxRecDepth 20000 in
theorem w_M_trim_65 {l : Launch} {post : Option PV → Mm → Prop} (c1 : Int32) (c2 : Int32) (c3 : Int32) (c4 : Int32) (c5 : Int32)  {r : Int32 × Mm} (kk : Go l X_M_trim post 163 [(0, vr 8 0), (1, vi c1), (2, vi c2), (3, vi c3), (4, vi c4), (5, vi c5), (6, vi r.1)] [] r.2) : ∀ (n : Nat) (s : Int32 × Mm), lpN (b_M_trim_65 c1 c2 c3 c5) n s = some r → Go l X_M_trim post 65 [(0, vr 8 0), (1, vi c1), (2, vi c2), (3, vi c3), (4, vi c4), (5, vi c5), (6, vi s.1)] [] s.2 := by
  intro n
  induction n with
  | zero => intro s hc; exact (lpN_0 hc).elim
  | succ n ih =>
    intro s hc
    obtain ⟨q, h, hc⟩ := lpN_inv hc
    unfold b_M_trim_65 at h
    refine go_iload 39 rfl 6 rfl ?_
    refine go_iconst 2 40 rfl (by decide) ?_
    refine go_icmp_ge 163 41 rfl (by decide) (fun c => ?_) (fun c => ?_)
    · replace h := ite_t c h
      cases h
      obtain rfl := lpq_r hc
      exact kk
    · replace h := ite_f c h
      refine go_aload_n 42 rfl 0 rfl rfl ?_
      refine go_getfield 1 _ 43 rfl (by first | decide | exact ok0 (by omega) | exact ok1 (by omega) | exact ok2 (by omega) | exact ok7 (by omega)) rfl fg_M_7 rfl ?_
      refine go_bipush 8 44 rfl (by decide) ?_
      refine go_iload_n 45 rfl 1 rfl rfl ?_
      refine go_imul 46 rfl ?_
      refine go_iconst 4 47 rfl (by decide) ?_
      refine go_iload 48 rfl 6 rfl ?_
      refine go_imul 49 rfl ?_
      refine go_iadd 50 rfl ?_
      refine go_iload 51 rfl 5 rfl ?_
      refine go_iadd 52 rfl ?_
      obtain ⟨c, h⟩ := ck_inv h
      refine go_iaload 53 rfl (by first | decide | exact ok0 (by omega) | exact ok1 (by omega) | exact ok2 (by omega) | exact ok7 (by omega)) (inb_vp c) ?_
      obtain ⟨_, c, h⟩ := bd_inv h
      cases c
      refine go_istore 54 rfl (Nat.le_of_ble_eq_true rfl) [(0, _), (1, _), (2, _), (3, _), (4, _), (5, _), (6, _), (7, _)] rfl ?_
      refine go_iconst 0 55 rfl (by decide) ?_
      refine go_istore 56 rfl (Nat.le_of_ble_eq_true rfl) [(0, _), (1, _), (2, _), (3, _), (4, _), (5, _), (6, _), (7, _), (8, _)] rfl ?_
      refine go_iconst 0 57 rfl (by decide) ?_
      refine go_istore 58 rfl (Nat.le_of_ble_eq_true rfl) [(0, _), (1, _), (2, _), (3, _), (4, _), (5, _), (6, _), (7, _), (8, _), (9, _)] rfl ?_
      refine go_iconst 0 59 rfl (by decide) ?_
      refine go_istore 60 rfl (Nat.le_of_ble_eq_true rfl) [(0, _), (1, _), (2, _), (3, _), (4, _), (5, _), (6, _), (7, _), (8, _), (9, _), (10, _)] rfl ?_
      obtain ⟨r6, c, h⟩ := bd_inv h
      refine w_M_trim_99 _ _ _ _ _ _ _ _ ?_ _ _ c
      refine go_aload_n 84 rfl 0 rfl rfl ?_
      refine go_getfield 1 _ 85 rfl (by first | decide | exact ok0 (by omega) | exact ok1 (by omega) | exact ok2 (by omega) | exact ok7 (by omega)) rfl fg_M_7 rfl ?_
      refine go_bipush 8 86 rfl (by decide) ?_
      refine go_iload_n 87 rfl 1 rfl rfl ?_
      refine go_imul 88 rfl ?_
      refine go_iconst 4 89 rfl (by decide) ?_
      refine go_iload 90 rfl 6 rfl ?_
      refine go_imul 91 rfl ?_
      refine go_iadd 92 rfl ?_
      refine go_iload_n 93 rfl 3 rfl rfl ?_
      refine go_iadd 94 rfl ?_
      refine go_iload 95 rfl 8 rfl ?_
      obtain ⟨c, h⟩ := ck_inv h
      refine go_iastore 96 rfl (by first | decide | exact ok0 (by omega) | exact ok1 (by omega) | exact ok2 (by omega) | exact ok7 (by omega)) (inb_vp c) ?_
      obtain ⟨_, c, h⟩ := bd_inv h
      cases c
      refine go_iinc 1 97 rfl 6 rfl (by decide) (Nat.le_of_ble_eq_true rfl) [(0, _), (1, _), (2, _), (3, _), (4, _), (5, _), (6, _), (7, _), (8, _), (9, _), (10, _)] rfl ?_
      refine go_goto 65 98 rfl (by decide) ?_
      cases h
      refine go_sub [0, 1, 2, 3, 4, 5, 6] rfl ?_
      exact ih _ hc
set_option maxRecDepth 20000 in
theorem w_M_trim_41 {l : Launch} {post : Option PV → Mm → Prop} (c1 : Int32) (c2 : Int32)  {r : Int32 × Int32 × Int32 × Mm} (kk : Go l X_M_trim post 190 [(0, vr 8 0), (1, vi c1), (2, vi c2), (3, vi r.1), (4, vi r.2.1), (5, vi r.2.2.1)] [] r.2.2.2) : ∀ (n : Nat) (s : Int32 × Int32 × Int32 × Mm), lpN (b_M_trim_41 c1 c2) n s = some r → Go l X_M_trim post 41 [(0, vr 8 0), (1, vi c1), (2, vi c2), (3, vi s.1), (4, vi s.2.1), (5, vi s.2.2.1)] [] s.2.2.2 := by
  intro n
  induction n with
  | zero => intro s hc; exact (lpN_0 hc).elim
  | succ n ih =>
    intro s hc
    obtain ⟨q, h, hc⟩ := lpN_inv hc
    unfold b_M_trim_41 at h
    refine go_iload 24 rfl 5 rfl ?_
    refine go_aload_n 25 rfl 0 rfl rfl ?_
    refine go_getfield 3 _ 26 rfl (by first | decide | exact ok0 (by omega) | exact ok1 (by omega) | exact ok2 (by omega) | exact ok7 (by omega)) rfl fg_M_16 rfl ?_
    refine go_iload_n 27 rfl 1 rfl rfl ?_
    obtain ⟨c, h⟩ := ck_inv h
    refine go_iaload 28 rfl (by first | decide | exact ok0 (by omega) | exact ok1 (by omega) | exact ok2 (by omega) | exact ok7 (by omega)) (inb_vp c) ?_
    refine go_icmp_ge 190 29 rfl (by decide) (fun c => ?_) (fun c => ?_)
    · replace h := ite_t c h
      cases h
      obtain rfl := lpq_r hc
      exact kk
    · replace h := ite_f c h
      refine go_iload_n 30 rfl 2 rfl rfl ?_
      refine go_iload 31 rfl 5 rfl ?_
      refine go_ishr 32 rfl ?_
      refine go_iconst 1 33 rfl (by decide) ?_
      refine go_iand 34 rfl ?_
      refine go_iconst 1 35 rfl (by decide) ?_
      refine go_icmp_ne 184 36 rfl (by decide) (fun c => ?_) (fun c => ?_)
      · replace h := ite_f c h
        refine go_iinc 1 113 rfl 5 rfl (by decide) (Nat.le_of_ble_eq_true rfl) [(0, _), (1, _), (2, _), (3, _), (4, _), (5, _)] rfl ?_
        refine go_goto 41 114 rfl (by decide) ?_
        cases h
        exact ih _ hc
      · replace h := ite_t c h
        refine go_iconst 0 37 rfl (by decide) ?_
        refine go_istore 38 rfl (Nat.le_of_ble_eq_true rfl) [(0, _), (1, _), (2, _), (3, _), (4, _), (5, _), (6, _)] rfl ?_
        obtain ⟨r8, c, h⟩ := bd_inv h
        refine w_M_trim_65 _ _ _ _ _ ?_ _ _ c
        refine go_iload 99 rfl 4 rfl ?_
        refine go_aload_n 100 rfl 0 rfl rfl ?_
        refine go_getfield 2 _ 101 rfl (by first | decide | exact ok0 (by omega) | exact ok1 (by omega) | exact ok2 (by omega) | exact ok7 (by omega)) rfl fg_M_13 rfl ?_
        refine go_iload_n 102 rfl 1 rfl rfl ?_
        obtain ⟨c, h⟩ := ck_inv h
        refine go_iaload 103 rfl (by first | decide | exact ok0 (by omega) | exact ok1 (by omega) | exact ok2 (by omega) | exact ok7 (by omega)) (inb_vp c) ?_
        refine go_iload 104 rfl 5 rfl ?_
        refine go_ishr 105 rfl ?_
        refine go_iconst 1 106 rfl (by decide) ?_
        refine go_iand 107 rfl ?_
        refine go_iload_n 108 rfl 3 rfl rfl ?_
        refine go_ishl 109 rfl ?_
        refine go_ior 110 rfl ?_
        obtain ⟨_, c, h⟩ := bd_inv h
        cases c
        refine go_istore 111 rfl (Nat.le_of_ble_eq_true rfl) [(0, _), (1, _), (2, _), (3, _), (4, _), (5, _), (6, _)] rfl ?_
        refine go_iinc 1 112 rfl 3 rfl (by decide) (Nat.le_of_ble_eq_true rfl) [(0, _), (1, _), (2, _), (3, _), (4, _), (5, _), (6, _)] rfl ?_
        refine go_iinc 1 113 rfl 5 rfl (by decide) (Nat.le_of_ble_eq_true rfl) [(0, _), (1, _), (2, _), (3, _), (4, _), (5, _), (6, _)] rfl ?_
        refine go_goto 41 114 rfl (by decide) ?_
        cases h
        refine go_sub [0, 1, 2, 3, 4, 5] rfl ?_
        exact ih _ hc
set_option maxRecDepth 20000 in
theorem e_M_trim {l : Launch} {a1 : Int32} {M : Mm} {r : Int32 × Mm}  (h : m_M_trim a1 M = some r) : Ev l X_M_trim [vr 8 0, vi a1] M (fun v M2 => v = (some (vi r.1)) ∧ M2 = r.2) := by
  refine Ev.of mk_M_trim [(0, vr 8 0), (1, vi a1)] (fun _ => rfl) (fun _ => (Nat.le_of_ble_eq_true rfl)) ?_
  unfold m_M_trim at h
  refine go_aload_n 0 rfl 0 rfl rfl ?_
  refine go_iload_n 1 rfl 1 rfl rfl ?_
  refine go_bipush 6 2 rfl (by decide) ?_
  obtain ⟨r1, c, h⟩ := bd_inv h
  refine go_callS1 _ 3 rfl (e_M_out c) mk_M_out cs_M_45 rfl ⟨(Nat.le_of_ble_eq_true rfl), (Nat.le_of_ble_eq_true rfl)⟩ (Nat.le_of_ble_eq_true rfl) rfl ?_
  refine go_if_eq 14 4 rfl (by decide) (fun c => ?_) (fun c => ?_)
  · replace h := ite_t c h
    refine go_iconst 0 7 rfl (by decide) ?_
    refine go_putfield 0 .int 8 rfl (by first | decide | exact ok0 (by omega) | exact ok1 (by omega) | exact ok2 (by omega) | exact ok7 (by omega)) rfl fp_M_41 rfl rfl (Nat.le_of_ble_eq_true rfl) rfl ?_
    obtain ⟨_, c, h⟩ := bd_inv h
    cases c
    refine go_aload_n 9 rfl 0 rfl rfl ?_
    refine go_getfield 0 _ 10 rfl (by first | decide | exact ok0 (by omega) | exact ok1 (by omega) | exact ok2 (by omega) | exact ok7 (by omega)) rfl fg_M_41 rfl ?_
    refine go_if_le 27 11 rfl (by decide) (fun c => ?_) (fun c => ?_)
    · replace h := ite_t c h
      refine go_aload_n 14 rfl 0 rfl rfl ?_
      refine go_iload_n 15 rfl 1 rfl rfl ?_
      obtain ⟨r3, c, h⟩ := bd_inv h
      refine go_callV1 _ 16 rfl (e_M_living c) mk_M_living (by first | decide | exact ok0 (by omega) | exact ok1 (by omega) | exact ok2 (by omega) | exact ok7 (by omega)) rfl cv_M_68 rfl ⟨(Nat.le_of_ble_eq_true rfl), (Nat.le_of_ble_eq_true rfl)⟩ (Nat.le_of_ble_eq_true rfl) rfl ?_
      refine go_istore_n 17 rfl rfl (Nat.le_of_ble_eq_true rfl) [(0, _), (1, _), (2, _)] rfl ?_
      refine go_iconst 0 18 rfl (by decide) ?_
      refine go_istore_n 19 rfl rfl (Nat.le_of_ble_eq_true rfl) [(0, _), (1, _), (2, _), (3, _)] rfl ?_
      refine go_iconst 0 20 rfl (by decide) ?_
      refine go_istore 21 rfl (Nat.le_of_ble_eq_true rfl) [(0, _), (1, _), (2, _), (3, _), (4, _)] rfl ?_
      refine go_iconst 0 22 rfl (by decide) ?_
      refine go_istore 23 rfl (Nat.le_of_ble_eq_true rfl) [(0, _), (1, _), (2, _), (3, _), (4, _), (5, _)] rfl ?_
      obtain ⟨r10, c, h⟩ := bd_inv h
      refine w_M_trim_41 _ _ ?_ _ _ c
      refine go_aload_n 115 rfl 0 rfl rfl ?_
      refine go_getfield 3 _ 116 rfl (by first | decide | exact ok0 (by omega) | exact ok1 (by omega) | exact ok2 (by omega) | exact ok7 (by omega)) rfl fg_M_16 rfl ?_
      refine go_iload_n 117 rfl 1 rfl rfl ?_
      refine go_iload_n 118 rfl 3 rfl rfl ?_
      obtain ⟨c, h⟩ := ck_inv h
      refine go_iastore 119 rfl (by first | decide | exact ok0 (by omega) | exact ok1 (by omega) | exact ok2 (by omega) | exact ok7 (by omega)) (inb_vp c) ?_
      obtain ⟨_, c, h⟩ := bd_inv h
      cases c
      refine go_aload_n 120 rfl 0 rfl rfl ?_
      refine go_getfield 2 _ 121 rfl (by first | decide | exact ok0 (by omega) | exact ok1 (by omega) | exact ok2 (by omega) | exact ok7 (by omega)) rfl fg_M_13 rfl ?_
      refine go_iload_n 122 rfl 1 rfl rfl ?_
      refine go_iload 123 rfl 4 rfl ?_
      obtain ⟨c, h⟩ := ck_inv h
      refine go_iastore 124 rfl (by first | decide | exact ok0 (by omega) | exact ok1 (by omega) | exact ok2 (by omega) | exact ok7 (by omega)) (inb_vp c) ?_
      obtain ⟨_, c, h⟩ := bd_inv h
      cases c
      refine go_iload_n 125 rfl 3 rfl rfl ?_
      cases h
      exact go_ireturn 126 rfl rfl rfl ⟨rfl, rfl⟩
    · replace h := ite_f c h
      refine go_iconst 0 12 rfl (by decide) ?_
      cases h
      exact go_ireturn 13 rfl rfl rfl ⟨rfl, rfl⟩
  · replace h := ite_f c h
    refine go_iconst 1 5 rfl (by decide) ?_
    refine go_goto 15 6 rfl (by decide) ?_
    refine go_putfield 0 .int 8 rfl (by first | decide | exact ok0 (by omega) | exact ok1 (by omega) | exact ok2 (by omega) | exact ok7 (by omega)) rfl fp_M_41 rfl rfl (Nat.le_of_ble_eq_true rfl) rfl ?_
    obtain ⟨_, c, h⟩ := bd_inv h
    cases c
    refine go_aload_n 9 rfl 0 rfl rfl ?_
    refine go_getfield 0 _ 10 rfl (by first | decide | exact ok0 (by omega) | exact ok1 (by omega) | exact ok2 (by omega) | exact ok7 (by omega)) rfl fg_M_41 rfl ?_
    refine go_if_le 27 11 rfl (by decide) (fun c => ?_) (fun c => ?_)
    · replace h := ite_t c h
      refine go_aload_n 14 rfl 0 rfl rfl ?_
      refine go_iload_n 15 rfl 1 rfl rfl ?_
      obtain ⟨r14, c, h⟩ := bd_inv h
      refine go_callV1 _ 16 rfl (e_M_living c) mk_M_living (by first | decide | exact ok0 (by omega) | exact ok1 (by omega) | exact ok2 (by omega) | exact ok7 (by omega)) rfl cv_M_68 rfl ⟨(Nat.le_of_ble_eq_true rfl), (Nat.le_of_ble_eq_true rfl)⟩ (Nat.le_of_ble_eq_true rfl) rfl ?_
      refine go_istore_n 17 rfl rfl (Nat.le_of_ble_eq_true rfl) [(0, _), (1, _), (2, _)] rfl ?_
      refine go_iconst 0 18 rfl (by decide) ?_
      refine go_istore_n 19 rfl rfl (Nat.le_of_ble_eq_true rfl) [(0, _), (1, _), (2, _), (3, _)] rfl ?_
      refine go_iconst 0 20 rfl (by decide) ?_
      refine go_istore 21 rfl (Nat.le_of_ble_eq_true rfl) [(0, _), (1, _), (2, _), (3, _), (4, _)] rfl ?_
      refine go_iconst 0 22 rfl (by decide) ?_
      refine go_istore 23 rfl (Nat.le_of_ble_eq_true rfl) [(0, _), (1, _), (2, _), (3, _), (4, _), (5, _)] rfl ?_
      obtain ⟨r15, c, h⟩ := bd_inv h
      refine w_M_trim_41 _ _ ?_ _ _ c
      refine go_aload_n 115 rfl 0 rfl rfl ?_
      refine go_getfield 3 _ 116 rfl (by first | decide | exact ok0 (by omega) | exact ok1 (by omega) | exact ok2 (by omega) | exact ok7 (by omega)) rfl fg_M_16 rfl ?_
      refine go_iload_n 117 rfl 1 rfl rfl ?_
      refine go_iload_n 118 rfl 3 rfl rfl ?_
      obtain ⟨c, h⟩ := ck_inv h
      refine go_iastore 119 rfl (by first | decide | exact ok0 (by omega) | exact ok1 (by omega) | exact ok2 (by omega) | exact ok7 (by omega)) (inb_vp c) ?_
      obtain ⟨_, c, h⟩ := bd_inv h
      cases c
      refine go_aload_n 120 rfl 0 rfl rfl ?_
      refine go_getfield 2 _ 121 rfl (by first | decide | exact ok0 (by omega) | exact ok1 (by omega) | exact ok2 (by omega) | exact ok7 (by omega)) rfl fg_M_13 rfl ?_
      refine go_iload_n 122 rfl 1 rfl rfl ?_
      refine go_iload 123 rfl 4 rfl ?_
      obtain ⟨c, h⟩ := ck_inv h
      refine go_iastore 124 rfl (by first | decide | exact ok0 (by omega) | exact ok1 (by omega) | exact ok2 (by omega) | exact ok7 (by omega)) (inb_vp c) ?_
      obtain ⟨_, c, h⟩ := bd_inv h
      cases c
      refine go_iload_n 125 rfl 3 rfl rfl ?_
      cases h
      exact go_ireturn 126 rfl rfl rfl ⟨rfl, rfl⟩
    · replace h := ite_f c h
      refine go_iconst 0 12 rfl (by decide) ?_
      cases h
      exact go_ireturn 13 rfl rfl rfl ⟨rfl, rfl⟩
def X_M_empty : MX := (⟨"OmegaDeskModel", "empty", "(I)Z"⟩, prog_8_method_16_code, 2, some .boolean, { frames := 3, cells := 0, slots := 0, locals := 74 },
  [(0, .aload_n 0, 1), (1, .iload_n 1, 2), (2, .bipush 6, 4), (4, .invokestatic 45, 7), (7, .ifCond .eq 7, 10), (10, .iconst 1, 11), (11, .goto 4, 14), (14, .iconst 0, 15), (15, .putfield 41, 18), (18, .aload_n 0, 19), (19, .getfield 41, 22), (22, .ifCond .ne 15, 25), (25, .aload_n 0, 26), (26, .iload_n 1, 27), (27, .invokevirtual 68, 30), (30, .ifCond .ne 7, 33), (33, .iconst 1, 34), (34, .goto 4, 37), (37, .iconst 0, 38), (38, .ireturn, 39)])
set_option maxRecDepth 20000 in
theorem mk_M_empty : Mk X_M_empty := ⟨by unfold TBk; decide +kernel, by decide +kernel, wb_617, ⟨by decide, by decide⟩, rfl, rfl, wb_6⟩
def m_M_empty (a1 : Int32) (M : Mm) : Option (Bool × Mm) :=
  bd (m_M_out a1 (6 : Int32)) fun r1 =>
  if (bI r1) = 0 then
    bd (some (uI M (8, 0) 0 (0 : Int32))) fun M2 =>
    if (M2.1 (8, 0) 0) = 0 then
      bd (m_M_living a1 M2) fun r3 =>
      if r3 = 0 then
        some (true, M2)
      else
        some (false, M2)
    else
      some (false, M2)
  else
    bd (some (uI M (8, 0) 0 (1 : Int32))) fun M4 =>
    if (M4.1 (8, 0) 0) = 0 then
      bd (m_M_living a1 M4) fun r5 =>
      if r5 = 0 then
        some (true, M4)
      else
        some (false, M4)
    else
      some (false, M4)
set_option maxRecDepth 20000 in
theorem e_M_empty {l : Launch} {a1 : Int32} {M : Mm} {r : Bool × Mm}  (h : m_M_empty a1 M = some r) : Ev l X_M_empty [vr 8 0, vi a1] M (fun v M2 => v = (some (vi (bI r.1))) ∧ M2 = r.2) := by
  refine Ev.of mk_M_empty [(0, vr 8 0), (1, vi a1)] (fun _ => rfl) (fun _ => (Nat.le_of_ble_eq_true rfl)) ?_
  unfold m_M_empty at h
  refine go_aload_n 0 rfl 0 rfl rfl ?_
  refine go_iload_n 1 rfl 1 rfl rfl ?_
  refine go_bipush 6 2 rfl (by decide) ?_
  obtain ⟨r1, c, h⟩ := bd_inv h
  refine go_callS1 _ 3 rfl (e_M_out c) mk_M_out cs_M_45 rfl ⟨(Nat.le_of_ble_eq_true rfl), (Nat.le_of_ble_eq_true rfl)⟩ (Nat.le_of_ble_eq_true rfl) rfl ?_
  refine go_if_eq 14 4 rfl (by decide) (fun c => ?_) (fun c => ?_)
  · replace h := ite_t c h
    refine go_iconst 0 7 rfl (by decide) ?_
    refine go_putfield 0 .int 8 rfl (by first | decide | exact ok0 (by omega) | exact ok1 (by omega) | exact ok2 (by omega) | exact ok7 (by omega)) rfl fp_M_41 rfl rfl (Nat.le_of_ble_eq_true rfl) rfl ?_
    obtain ⟨_, c, h⟩ := bd_inv h
    cases c
    refine go_aload_n 9 rfl 0 rfl rfl ?_
    refine go_getfield 0 _ 10 rfl (by first | decide | exact ok0 (by omega) | exact ok1 (by omega) | exact ok2 (by omega) | exact ok7 (by omega)) rfl fg_M_41 rfl ?_
    refine go_if_ne 37 11 rfl (by decide) (fun c => ?_) (fun c => ?_)
    · replace h := ite_f c h
      refine go_iconst 0 18 rfl (by decide) ?_
      cases h
      exact go_ireturn 19 rfl rfl rfl ⟨rfl, rfl⟩
    · replace h := ite_t c h
      refine go_aload_n 12 rfl 0 rfl rfl ?_
      refine go_iload_n 13 rfl 1 rfl rfl ?_
      obtain ⟨r3, c, h⟩ := bd_inv h
      refine go_callV1 _ 14 rfl (e_M_living c) mk_M_living (by first | decide | exact ok0 (by omega) | exact ok1 (by omega) | exact ok2 (by omega) | exact ok7 (by omega)) rfl cv_M_68 rfl ⟨(Nat.le_of_ble_eq_true rfl), (Nat.le_of_ble_eq_true rfl)⟩ (Nat.le_of_ble_eq_true rfl) rfl ?_
      refine go_if_ne 37 15 rfl (by decide) (fun c => ?_) (fun c => ?_)
      · replace h := ite_f c h
        refine go_iconst 0 18 rfl (by decide) ?_
        cases h
        exact go_ireturn 19 rfl rfl rfl ⟨rfl, rfl⟩
      · replace h := ite_t c h
        refine go_iconst 1 16 rfl (by decide) ?_
        refine go_goto 38 17 rfl (by decide) ?_
        cases h
        exact go_ireturn 19 rfl rfl rfl ⟨rfl, rfl⟩
  · replace h := ite_f c h
    refine go_iconst 1 5 rfl (by decide) ?_
    refine go_goto 15 6 rfl (by decide) ?_
    refine go_putfield 0 .int 8 rfl (by first | decide | exact ok0 (by omega) | exact ok1 (by omega) | exact ok2 (by omega) | exact ok7 (by omega)) rfl fp_M_41 rfl rfl (Nat.le_of_ble_eq_true rfl) rfl ?_
    obtain ⟨_, c, h⟩ := bd_inv h
    cases c
    refine go_aload_n 9 rfl 0 rfl rfl ?_
    refine go_getfield 0 _ 10 rfl (by first | decide | exact ok0 (by omega) | exact ok1 (by omega) | exact ok2 (by omega) | exact ok7 (by omega)) rfl fg_M_41 rfl ?_
    refine go_if_ne 37 11 rfl (by decide) (fun c => ?_) (fun c => ?_)
    · replace h := ite_f c h
      refine go_iconst 0 18 rfl (by decide) ?_
      cases h
      exact go_ireturn 19 rfl rfl rfl ⟨rfl, rfl⟩
    · replace h := ite_t c h
      refine go_aload_n 12 rfl 0 rfl rfl ?_
      refine go_iload_n 13 rfl 1 rfl rfl ?_
      obtain ⟨r5, c, h⟩ := bd_inv h
      refine go_callV1 _ 14 rfl (e_M_living c) mk_M_living (by first | decide | exact ok0 (by omega) | exact ok1 (by omega) | exact ok2 (by omega) | exact ok7 (by omega)) rfl cv_M_68 rfl ⟨(Nat.le_of_ble_eq_true rfl), (Nat.le_of_ble_eq_true rfl)⟩ (Nat.le_of_ble_eq_true rfl) rfl ?_
      refine go_if_ne 37 15 rfl (by decide) (fun c => ?_) (fun c => ?_)
      · replace h := ite_f c h
        refine go_iconst 0 18 rfl (by decide) ?_
        cases h
        exact go_ireturn 19 rfl rfl rfl ⟨rfl, rfl⟩
      · replace h := ite_t c h
        refine go_iconst 1 16 rfl (by decide) ?_
        refine go_goto 38 17 rfl (by decide) ?_
        cases h
        exact go_ireturn 19 rfl rfl rfl ⟨rfl, rfl⟩
end
section
def X_M_letter : MX := (⟨"OmegaDeskModel", "letter", "(IIIII)I"⟩, prog_8_method_17_code, 5, some .int, { frames := 0, cells := 0, slots := 0, locals := 0 },
  [(0, .iload 4, 2), (2, .iload_n 0, 3), (3, .if_icmp .ge 16, 6), (6, .iload_n 1, 7), (7, .iload_n 0, 8), (8, .iconst 1, 9), (9, .isub, 10), (10, .iload 4, 12), (12, .isub, 13), (13, .ishr, 14), (14, .iconst 1, 15), (15, .iand, 16), (16, .goto 15, 19), (19, .iload_n 3, 20), (20, .iload_n 2, 21), (21, .iconst 1, 22), (22, .isub, 23), (23, .iload 4, 25), (25, .iload_n 0, 26), (26, .isub, 27), (27, .isub, 28), (28, .ishr, 29), (29, .iconst 1, 30), (30, .iand, 31), (31, .ireturn, 32)])
set_option maxRecDepth 20000 in
theorem mk_M_letter : Mk X_M_letter := ⟨by unfold TBk; decide +kernel, by decide +kernel, wb_640, ⟨by decide, by decide⟩, rfl, rfl, wb_6⟩
def m_M_letter (a0 : Int32) (a1 : Int32) (a2 : Int32) (a3 : Int32) (a4 : Int32) : Option (Int32) :=
  if a0 ≤ a4 then
    some ((a3 >>> (((a2 - (1 : Int32)) - (a4 - a0)) &&& 31)) &&& (1 : Int32))
  else
    some ((a1 >>> (((a0 - (1 : Int32)) - a4) &&& 31)) &&& (1 : Int32))
set_option maxRecDepth 20000 in
theorem e_M_letter {l : Launch} {a0 : Int32} {a1 : Int32} {a2 : Int32} {a3 : Int32} {a4 : Int32} {M : Mm} {r : Int32}  (h : m_M_letter a0 a1 a2 a3 a4 = some r) : Ev l X_M_letter [vi a0, vi a1, vi a2, vi a3, vi a4] M (fun v M2 => v = (some (vi r)) ∧ M2 = M) := by
  refine Ev.of mk_M_letter [(0, vi a0), (1, vi a1), (2, vi a2), (3, vi a3), (4, vi a4)] (fun _ => rfl) (fun _ => (Nat.le_of_ble_eq_true rfl)) ?_
  unfold m_M_letter at h
  refine go_iload 0 rfl 4 rfl ?_
  refine go_iload_n 1 rfl 0 rfl rfl ?_
  refine go_icmp_ge 19 2 rfl (by decide) (fun c => ?_) (fun c => ?_)
  · replace h := ite_t c h
    refine go_iload_n 13 rfl 3 rfl rfl ?_
    refine go_iload_n 14 rfl 2 rfl rfl ?_
    refine go_iconst 1 15 rfl (by decide) ?_
    refine go_isub 16 rfl ?_
    refine go_iload 17 rfl 4 rfl ?_
    refine go_iload_n 18 rfl 0 rfl rfl ?_
    refine go_isub 19 rfl ?_
    refine go_isub 20 rfl ?_
    refine go_ishr 21 rfl ?_
    refine go_iconst 1 22 rfl (by decide) ?_
    refine go_iand 23 rfl ?_
    cases h
    exact go_ireturn 24 rfl rfl rfl ⟨rfl, rfl⟩
  · replace h := ite_f c h
    refine go_iload_n 3 rfl 1 rfl rfl ?_
    refine go_iload_n 4 rfl 0 rfl rfl ?_
    refine go_iconst 1 5 rfl (by decide) ?_
    refine go_isub 6 rfl ?_
    refine go_iload 7 rfl 4 rfl ?_
    refine go_isub 8 rfl ?_
    refine go_ishr 9 rfl ?_
    refine go_iconst 1 10 rfl (by decide) ?_
    refine go_iand 11 rfl ?_
    refine go_goto 31 12 rfl (by decide) ?_
    cases h
    exact go_ireturn 24 rfl rfl rfl ⟨rfl, rfl⟩
def X_M_behind : MX := (⟨"OmegaDeskModel", "behind", "(IJIIII)J"⟩, prog_8_method_18_code, 15, some .long, { frames := 1, cells := 0, slots := 0, locals := 24 },
  [(0, .lconst 0, 1), (1, .lstore 8, 3), (3, .iconst 0, 4), (4, .istore 10, 6), (6, .iload 10, 8), (8, .iload 4, 10), (10, .iload 6, 12), (12, .iadd, 13), (13, .if_icmp .ge 119, 16), (16, .lload_n 2, 17), (17, .iconst 4, 18), (18, .iload 10, 20), (20, .imul, 21), (21, .lushr, 22), (22, .ldc2_w 72, 25), (25, .land, 26), (26, .l2i, 27), (27, .istore 11, 29), (29, .iload 10, 31), (31, .iconst 1, 32), (32, .iadd, 33), (33, .iload 4, 35), (35, .iload 6, 37), (37, .iadd, 38), (38, .if_icmp .ne 8, 41), (41, .iload 4, 43), (43, .goto 7, 46), (46, .iload 10, 48), (48, .iconst 1, 49), (49, .iadd, 50), (50, .istore 12, 52), (52, .iload 4, 54), (54, .iload 5, 56), (56, .iload 6, 58), (58, .iload 7, 60), (60, .iload 10, 62), (62, .invokestatic 74, 65), (65, .istore 13, 67), (67, .iconst 0, 68), (68, .istore 14, 70), (70, .iload 14, 72), (72, .aload_n 0, 73), (73, .getfield 16, 76), (76, .iload_n 1, 77), (77, .iaload, 78), (78, .if_icmp .ge 48, 81), (81, .iload 11, 83), (83, .iload 14, 85), (85, .ishr, 86), (86, .iconst 1, 87), (87, .iand, 88), (88, .iconst 1, 89), (89, .if_icmp .ne 31, 92), (92, .lload 8, 94), (94, .aload_n 0, 95), (95, .getfield 7, 98), (98, .bipush 8, 100), (100, .iload_n 1, 101), (101, .imul, 102), (102, .iconst 4, 103), (103, .iload 13, 105), (105, .imul, 106), (106, .iadd, 107), (107, .iload 14, 109), (109, .iadd, 110), (110, .iaload, 111), (111, .i2l, 112), (112, .iconst 4, 113), (113, .iload 12, 115), (115, .imul, 116), (116, .lshl, 117), (117, .lor, 118), (118, .lstore 8, 120), (120, .iinc 14 1, 123), (123, .goto (-53), 126), (126, .iinc 10 1, 129), (129, .goto (-123), 132), (132, .lload 8, 134), (134, .lreturn, 135)])
set_option maxRecDepth 20000 in
theorem mk_M_behind : Mk X_M_behind := ⟨by unfold TBk; decide +kernel, by decide +kernel, wb_636, ⟨by decide, by decide⟩, rfl, rfl, wb_6⟩
theorem cs_M_74 : CS "OmegaDeskModel" 74 X_M_letter 5 := ⟨Or.inl wb_638, wb_639, by decide +kernel⟩
def b_M_behind_70 (c1 : Int32) (c11 : Int32) (c12 : Int32) (c13 : Int32) (M : Mm) (s : Int64 × Int32) : Option ((Int64 × Int32) ⊕ (Int64 × Int32)) :=
  ck (inb c1 (lenI 18)) <|
  if (M.1 (1, 18) c1.toNatClampNeg) ≤ s.2 then
    some (Sum.inr (s.1, s.2))
  else
    if ((c11 >>> (s.2 &&& 31)) &&& (1 : Int32)) = (1 : Int32) then
      ck (inb ((((8 : Int32) * c1) + ((4 : Int32) * c13)) + s.2) (lenI 16)) <|
      bd (some (s.1 ||| (((M.1 (1, 16) ((((8 : Int32) * c1) + ((4 : Int32) * c13)) + s.2).toNatClampNeg).toInt64) <<< (((4 : Int32) * c12).toInt64 &&& 63)))) fun x3 =>
      some (Sum.inl (x3, (s.2 + 1)))
    else
      some (Sum.inl (s.1, (s.2 + 1)))
def b_M_behind_6 (c1 : Int32) (c2 : Int64) (c4 : Int32) (c5 : Int32) (c6 : Int32) (c7 : Int32) (M : Mm) (s : Int64 × Int32) : Option ((Int64 × Int32) ⊕ (Int64 × Int32)) :=
  if (c4 + c6) ≤ s.2 then
    some (Sum.inr (s.1, s.2))
  else
    bd (some ((((c2.toUInt64 >>> (((4 : Int32) * s.2).toInt64.toUInt64 &&& Int64.toUInt64 63)).toInt64) &&& (15 : Int64)).toInt32)) fun x1 =>
    if (s.2 + (1 : Int32)) = (c4 + c6) then
      bd (m_M_letter c4 c5 c6 c7 s.2) fun r5 =>
      bd (lp (b_M_behind_70 c1 x1 c4 r5 M) (s.1, (0 : Int32))) fun r6 =>
      some (Sum.inl (r6.1, (s.2 + 1)))
    else
      bd (m_M_letter c4 c5 c6 c7 s.2) fun r2 =>
      bd (lp (b_M_behind_70 c1 x1 (s.2 + (1 : Int32)) r2 M) (s.1, (0 : Int32))) fun r4 =>
      some (Sum.inl (r4.1, (s.2 + 1)))
def m_M_behind (a1 : Int32) (a2 : Int64) (a4 : Int32) (a5 : Int32) (a6 : Int32) (a7 : Int32) (M : Mm) : Option (Int64) :=
  bd (lp (b_M_behind_6 a1 a2 a4 a5 a6 a7 M) ((0 : Int64), (0 : Int32))) fun r7 =>
  some r7.1
set_option maxRecDepth 20000 in
theorem w_M_behind_70 {l : Launch} {post : Option PV → Mm → Prop} (c1 : Int32) (c2 : Int64) (c4 : Int32) (c5 : Int32) (c6 : Int32) (c7 : Int32) (c10 : Int32) (c11 : Int32) (c12 : Int32) (c13 : Int32) (M : Mm)  {r : Int64 × Int32} (kk : Go l X_M_behind post 126 [(0, vr 8 0), (1, vi c1), (2, vl c2), (4, vi c4), (5, vi c5), (6, vi c6), (7, vi c7), (8, vl r.1), (10, vi c10), (11, vi c11), (12, vi c12), (13, vi c13), (14, vi r.2)] [] M) : ∀ (n : Nat) (s : Int64 × Int32), lpN (b_M_behind_70 c1 c11 c12 c13 M) n s = some r → Go l X_M_behind post 70 [(0, vr 8 0), (1, vi c1), (2, vl c2), (4, vi c4), (5, vi c5), (6, vi c6), (7, vi c7), (8, vl s.1), (10, vi c10), (11, vi c11), (12, vi c12), (13, vi c13), (14, vi s.2)] [] M := by
  intro n
  induction n with
  | zero => intro s hc; exact (lpN_0 hc).elim
  | succ n ih =>
    intro s hc
    obtain ⟨q, h, hc⟩ := lpN_inv hc
    unfold b_M_behind_70 at h
    refine go_iload 40 rfl 12 rfl ?_
    refine go_aload_n 41 rfl 0 rfl rfl ?_
    refine go_getfield 3 _ 42 rfl (by first | decide | exact ok0 (by omega) | exact ok1 (by omega) | exact ok2 (by omega) | exact ok7 (by omega)) rfl fg_M_16 rfl ?_
    refine go_iload_n 43 rfl 1 rfl rfl ?_
    obtain ⟨c, h⟩ := ck_inv h
    refine go_iaload 44 rfl (by first | decide | exact ok0 (by omega) | exact ok1 (by omega) | exact ok2 (by omega) | exact ok7 (by omega)) (inb_vp c) ?_
    refine go_icmp_ge 126 45 rfl (by decide) (fun c => ?_) (fun c => ?_)
    · replace h := ite_t c h
      cases h
      obtain rfl := lpq_r hc
      exact kk
    · replace h := ite_f c h
      refine go_iload 46 rfl 9 rfl ?_
      refine go_iload 47 rfl 12 rfl ?_
      refine go_ishr 48 rfl ?_
      refine go_iconst 1 49 rfl (by decide) ?_
      refine go_iand 50 rfl ?_
      refine go_iconst 1 51 rfl (by decide) ?_
      refine go_icmp_ne 120 52 rfl (by decide) (fun c => ?_) (fun c => ?_)
      · replace h := ite_f c h
        refine go_iinc 1 73 rfl 12 rfl (by decide) (Nat.le_of_ble_eq_true rfl) [(0, _), (1, _), (2, _), (4, _), (5, _), (6, _), (7, _), (8, _), (10, _), (11, _), (12, _), (13, _), (14, _)] rfl ?_
        refine go_goto 70 74 rfl (by decide) ?_
        cases h
        exact ih _ hc
      · replace h := ite_t c h
        refine go_lload 53 rfl 7 rfl ?_
        refine go_aload_n 54 rfl 0 rfl rfl ?_
        refine go_getfield 1 _ 55 rfl (by first | decide | exact ok0 (by omega) | exact ok1 (by omega) | exact ok2 (by omega) | exact ok7 (by omega)) rfl fg_M_7 rfl ?_
        refine go_bipush 8 56 rfl (by decide) ?_
        refine go_iload_n 57 rfl 1 rfl rfl ?_
        refine go_imul 58 rfl ?_
        refine go_iconst 4 59 rfl (by decide) ?_
        refine go_iload 60 rfl 11 rfl ?_
        refine go_imul 61 rfl ?_
        refine go_iadd 62 rfl ?_
        refine go_iload 63 rfl 12 rfl ?_
        refine go_iadd 64 rfl ?_
        obtain ⟨c, h⟩ := ck_inv h
        refine go_iaload 65 rfl (by first | decide | exact ok0 (by omega) | exact ok1 (by omega) | exact ok2 (by omega) | exact ok7 (by omega)) (inb_vp c) ?_
        refine go_i2l 66 rfl ?_
        refine go_iconst 4 67 rfl (by decide) ?_
        refine go_iload 68 rfl 10 rfl ?_
        refine go_imul 69 rfl ?_
        refine go_lshl 70 rfl ?_
        refine go_lor 71 rfl ?_
        obtain ⟨_, c, h⟩ := bd_inv h
        cases c
        refine go_lstore 72 rfl (Nat.le_of_ble_eq_true rfl) [(0, _), (1, _), (2, _), (4, _), (5, _), (6, _), (7, _), (8, _), (10, _), (11, _), (12, _), (13, _), (14, _)] rfl ?_
        refine go_iinc 1 73 rfl 12 rfl (by decide) (Nat.le_of_ble_eq_true rfl) [(0, _), (1, _), (2, _), (4, _), (5, _), (6, _), (7, _), (8, _), (10, _), (11, _), (12, _), (13, _), (14, _)] rfl ?_
        refine go_goto 70 74 rfl (by decide) ?_
        cases h
        exact ih _ hc
set_option maxRecDepth 20000 in
theorem w_M_behind_6 {l : Launch} {post : Option PV → Mm → Prop} (c1 : Int32) (c2 : Int64) (c4 : Int32) (c5 : Int32) (c6 : Int32) (c7 : Int32) (M : Mm)  {r : Int64 × Int32} (kk : Go l X_M_behind post 132 [(0, vr 8 0), (1, vi c1), (2, vl c2), (4, vi c4), (5, vi c5), (6, vi c6), (7, vi c7), (8, vl r.1), (10, vi r.2)] [] M) : ∀ (n : Nat) (s : Int64 × Int32), lpN (b_M_behind_6 c1 c2 c4 c5 c6 c7 M) n s = some r → Go l X_M_behind post 6 [(0, vr 8 0), (1, vi c1), (2, vl c2), (4, vi c4), (5, vi c5), (6, vi c6), (7, vi c7), (8, vl s.1), (10, vi s.2)] [] M := by
  intro n
  induction n with
  | zero => intro s hc; exact (lpN_0 hc).elim
  | succ n ih =>
    intro s hc
    obtain ⟨q, h, hc⟩ := lpN_inv hc
    unfold b_M_behind_6 at h
    refine go_iload 4 rfl 8 rfl ?_
    refine go_iload 5 rfl 3 rfl ?_
    refine go_iload 6 rfl 5 rfl ?_
    refine go_iadd 7 rfl ?_
    refine go_icmp_ge 132 8 rfl (by decide) (fun c => ?_) (fun c => ?_)
    · replace h := ite_t c h
      cases h
      obtain rfl := lpq_r hc
      exact kk
    · replace h := ite_f c h
      refine go_lload_n 9 rfl 2 rfl rfl ?_
      refine go_iconst 4 10 rfl (by decide) ?_
      refine go_iload 11 rfl 8 rfl ?_
      refine go_imul 12 rfl ?_
      refine go_lushr 13 rfl ?_
      refine go_ldc2 15 14 rfl wb_637 ?_
      refine go_land 15 rfl ?_
      refine go_l2i 16 rfl ?_
      obtain ⟨_, c, h⟩ := bd_inv h
      cases c
      refine go_istore 17 rfl (Nat.le_of_ble_eq_true rfl) [(0, _), (1, _), (2, _), (4, _), (5, _), (6, _), (7, _), (8, _), (10, _), (11, _)] rfl ?_
      refine go_iload 18 rfl 8 rfl ?_
      refine go_iconst 1 19 rfl (by decide) ?_
      refine go_iadd 20 rfl ?_
      refine go_iload 21 rfl 3 rfl ?_
      refine go_iload 22 rfl 5 rfl ?_
      refine go_iadd 23 rfl ?_
      refine go_icmp_ne 46 24 rfl (by decide) (fun c => ?_) (fun c => ?_)
      · replace h := ite_f c h
        refine go_iload 27 rfl 8 rfl ?_
        refine go_iconst 1 28 rfl (by decide) ?_
        refine go_iadd 29 rfl ?_
        refine go_istore 30 rfl (Nat.le_of_ble_eq_true rfl) [(0, _), (1, _), (2, _), (4, _), (5, _), (6, _), (7, _), (8, _), (10, _), (11, _), (12, _)] rfl ?_
        refine go_iload 31 rfl 3 rfl ?_
        refine go_iload 32 rfl 4 rfl ?_
        refine go_iload 33 rfl 5 rfl ?_
        refine go_iload 34 rfl 6 rfl ?_
        refine go_iload 35 rfl 8 rfl ?_
        obtain ⟨r2, c, h⟩ := bd_inv h
        refine go_callS1 _ 36 rfl (e_M_letter c) mk_M_letter cs_M_74 rfl ⟨(Nat.le_of_ble_eq_true rfl), (Nat.le_of_ble_eq_true rfl)⟩ (Nat.le_of_ble_eq_true rfl) rfl ?_
        refine go_istore 37 rfl (Nat.le_of_ble_eq_true rfl) [(0, _), (1, _), (2, _), (4, _), (5, _), (6, _), (7, _), (8, _), (10, _), (11, _), (12, _), (13, _)] rfl ?_
        refine go_iconst 0 38 rfl (by decide) ?_
        refine go_istore 39 rfl (Nat.le_of_ble_eq_true rfl) [(0, _), (1, _), (2, _), (4, _), (5, _), (6, _), (7, _), (8, _), (10, _), (11, _), (12, _), (13, _), (14, _)] rfl ?_
        obtain ⟨r4, c, h⟩ := bd_inv h
        refine w_M_behind_70 _ _ _ _ _ _ _ _ _ _ _ ?_ _ _ c
        refine go_iinc 1 75 rfl 8 rfl (by decide) (Nat.le_of_ble_eq_true rfl) [(0, _), (1, _), (2, _), (4, _), (5, _), (6, _), (7, _), (8, _), (10, _), (11, _), (12, _), (13, _), (14, _)] rfl ?_
        refine go_goto 6 76 rfl (by decide) ?_
        cases h
        refine go_sub [0, 1, 2, 3, 4, 5, 6, 7, 8] rfl ?_
        exact ih _ hc
      · replace h := ite_t c h
        refine go_iload 25 rfl 3 rfl ?_
        refine go_goto 50 26 rfl (by decide) ?_
        refine go_istore 30 rfl (Nat.le_of_ble_eq_true rfl) [(0, _), (1, _), (2, _), (4, _), (5, _), (6, _), (7, _), (8, _), (10, _), (11, _), (12, _)] rfl ?_
        refine go_iload 31 rfl 3 rfl ?_
        refine go_iload 32 rfl 4 rfl ?_
        refine go_iload 33 rfl 5 rfl ?_
        refine go_iload 34 rfl 6 rfl ?_
        refine go_iload 35 rfl 8 rfl ?_
        obtain ⟨r5, c, h⟩ := bd_inv h
        refine go_callS1 _ 36 rfl (e_M_letter c) mk_M_letter cs_M_74 rfl ⟨(Nat.le_of_ble_eq_true rfl), (Nat.le_of_ble_eq_true rfl)⟩ (Nat.le_of_ble_eq_true rfl) rfl ?_
        refine go_istore 37 rfl (Nat.le_of_ble_eq_true rfl) [(0, _), (1, _), (2, _), (4, _), (5, _), (6, _), (7, _), (8, _), (10, _), (11, _), (12, _), (13, _)] rfl ?_
        refine go_iconst 0 38 rfl (by decide) ?_
        refine go_istore 39 rfl (Nat.le_of_ble_eq_true rfl) [(0, _), (1, _), (2, _), (4, _), (5, _), (6, _), (7, _), (8, _), (10, _), (11, _), (12, _), (13, _), (14, _)] rfl ?_
        obtain ⟨r6, c, h⟩ := bd_inv h
        refine w_M_behind_70 _ _ _ _ _ _ _ _ _ _ _ ?_ _ _ c
        refine go_iinc 1 75 rfl 8 rfl (by decide) (Nat.le_of_ble_eq_true rfl) [(0, _), (1, _), (2, _), (4, _), (5, _), (6, _), (7, _), (8, _), (10, _), (11, _), (12, _), (13, _), (14, _)] rfl ?_
        refine go_goto 6 76 rfl (by decide) ?_
        cases h
        refine go_sub [0, 1, 2, 3, 4, 5, 6, 7, 8] rfl ?_
        exact ih _ hc
set_option maxRecDepth 20000 in
theorem e_M_behind {l : Launch} {a1 : Int32} {a2 : Int64} {a4 : Int32} {a5 : Int32} {a6 : Int32} {a7 : Int32} {M : Mm} {r : Int64}  (h : m_M_behind a1 a2 a4 a5 a6 a7 M = some r) : Ev l X_M_behind [vr 8 0, vi a1, vl a2, vi a4, vi a5, vi a6, vi a7] M (fun v M2 => v = (some (vl r)) ∧ M2 = M) := by
  refine Ev.of mk_M_behind [(0, vr 8 0), (1, vi a1), (2, vl a2), (4, vi a4), (5, vi a5), (6, vi a6), (7, vi a7)] (fun _ => rfl) (fun _ => (Nat.le_of_ble_eq_true rfl)) ?_
  unfold m_M_behind at h
  refine go_lconst 0 0 rfl (by decide) ?_
  refine go_lstore 1 rfl (Nat.le_of_ble_eq_true rfl) [(0, _), (1, _), (2, _), (4, _), (5, _), (6, _), (7, _), (8, _)] rfl ?_
  refine go_iconst 0 2 rfl (by decide) ?_
  refine go_istore 3 rfl (Nat.le_of_ble_eq_true rfl) [(0, _), (1, _), (2, _), (4, _), (5, _), (6, _), (7, _), (8, _), (10, _)] rfl ?_
  obtain ⟨r7, c, h⟩ := bd_inv h
  refine w_M_behind_6 _ _ _ _ _ _ _ ?_ _ _ c
  refine go_lload 77 rfl 7 rfl ?_
  cases h
  exact go_lreturn 78 rfl rfl ⟨rfl, rfl⟩
def X_M_allBehind : MX := (⟨"OmegaDeskModel", "allBehind", "(IJIIII)J"⟩, prog_8_method_19_code, 12, some .long, { frames := 2, cells := 0, slots := 0, locals := 58 },
  [(0, .aload_n 0, 1), (1, .iload_n 1, 2), (2, .lload_n 2, 3), (3, .iload 4, 5), (5, .iload 5, 7), (7, .iload 6, 9), (9, .iload 7, 11), (11, .invokevirtual 78, 14), (14, .lstore 8, 16), (16, .lconst 0, 17), (17, .lstore 10, 19), (19, .lload 8, 21), (21, .lload 10, 23), (23, .lcmp, 24), (24, .ifCond .eq 30, 27), (27, .lload 8, 29), (29, .lstore 10, 31), (31, .lload 8, 33), (33, .aload_n 0, 34), (34, .iload_n 1, 35), (35, .lload 8, 37), (37, .iload 4, 39), (39, .iload 5, 41), (41, .iload 6, 43), (43, .iload 7, 45), (45, .invokevirtual 78, 48), (48, .lor, 49), (49, .lstore 8, 51), (51, .goto (-32), 54), (54, .lload 8, 56), (56, .lreturn, 57)])
set_option maxRecDepth 20000 in
theorem mk_M_allBehind : Mk X_M_allBehind := ⟨by unfold TBk; decide +kernel, by decide +kernel, wb_632, ⟨by decide, by decide⟩, rfl, rfl, wb_6⟩
theorem cv_M_78 : CV "OmegaDeskModel" 78 X_M_behind 6 8 := ⟨Or.inl wb_633, ⟨wb_635, ws_M_behind⟩, by decide +kernel, F_M, 12, rfl⟩
def b_M_allBehind_19 (c1 : Int32) (c4 : Int32) (c5 : Int32) (c6 : Int32) (c7 : Int32) (M : Mm) (s : Int64 × Int64) : Option ((Int64 × Int64) ⊕ (Int64 × Int64)) :=
  if (lg_cmp s.1 s.2) = 0 then
    some (Sum.inr (s.1, s.2))
  else
    bd (m_M_behind c1 s.1 c4 c5 c6 c7 M) fun r2 =>
    some (Sum.inl ((s.1 ||| r2), s.1))
def m_M_allBehind (a1 : Int32) (a2 : Int64) (a4 : Int32) (a5 : Int32) (a6 : Int32) (a7 : Int32) (M : Mm) : Option (Int64) :=
  bd (m_M_behind a1 a2 a4 a5 a6 a7 M) fun r1 =>
  bd (lp (b_M_allBehind_19 a1 a4 a5 a6 a7 M) (r1, (0 : Int64))) fun r3 =>
  some r3.1
set_option maxRecDepth 20000 in
theorem w_M_allBehind_19 {l : Launch} {post : Option PV → Mm → Prop} (c1 : Int32) (c2 : Int64) (c4 : Int32) (c5 : Int32) (c6 : Int32) (c7 : Int32) (M : Mm)  {r : Int64 × Int64} (kk : Go l X_M_allBehind post 54 [(0, vr 8 0), (1, vi c1), (2, vl c2), (4, vi c4), (5, vi c5), (6, vi c6), (7, vi c7), (8, vl r.1), (10, vl r.2)] [] M) : ∀ (n : Nat) (s : Int64 × Int64), lpN (b_M_allBehind_19 c1 c4 c5 c6 c7 M) n s = some r → Go l X_M_allBehind post 19 [(0, vr 8 0), (1, vi c1), (2, vl c2), (4, vi c4), (5, vi c5), (6, vi c6), (7, vi c7), (8, vl s.1), (10, vl s.2)] [] M := by
  intro n
  induction n with
  | zero => intro s hc; exact (lpN_0 hc).elim
  | succ n ih =>
    intro s hc
    obtain ⟨q, h, hc⟩ := lpN_inv hc
    unfold b_M_allBehind_19 at h
    refine go_lload 11 rfl 7 rfl ?_
    refine go_lload 12 rfl 8 rfl ?_
    refine go_lcmp 13 rfl ?_
    refine go_if_eq 54 14 rfl (by decide) (fun c => ?_) (fun c => ?_)
    · replace h := ite_t c h
      cases h
      obtain rfl := lpq_r hc
      exact kk
    · replace h := ite_f c h
      refine go_lload 15 rfl 7 rfl ?_
      refine go_lstore 16 rfl (Nat.le_of_ble_eq_true rfl) [(0, _), (1, _), (2, _), (4, _), (5, _), (6, _), (7, _), (8, _), (10, _)] rfl ?_
      refine go_lload 17 rfl 7 rfl ?_
      refine go_aload_n 18 rfl 0 rfl rfl ?_
      refine go_iload_n 19 rfl 1 rfl rfl ?_
      refine go_lload 20 rfl 7 rfl ?_
      refine go_iload 21 rfl 3 rfl ?_
      refine go_iload 22 rfl 4 rfl ?_
      refine go_iload 23 rfl 5 rfl ?_
      refine go_iload 24 rfl 6 rfl ?_
      obtain ⟨r2, c, h⟩ := bd_inv h
      refine go_callV1 _ 25 rfl (e_M_behind c) mk_M_behind (by first | decide | exact ok0 (by omega) | exact ok1 (by omega) | exact ok2 (by omega) | exact ok7 (by omega)) rfl cv_M_78 rfl ⟨(Nat.le_of_ble_eq_true rfl), (Nat.le_of_ble_eq_true rfl)⟩ (Nat.le_of_ble_eq_true rfl) rfl ?_
      refine go_lor 26 rfl ?_
      refine go_lstore 27 rfl (Nat.le_of_ble_eq_true rfl) [(0, _), (1, _), (2, _), (4, _), (5, _), (6, _), (7, _), (8, _), (10, _)] rfl ?_
      refine go_goto 19 28 rfl (by decide) ?_
      cases h
      exact ih _ hc
set_option maxRecDepth 20000 in
theorem e_M_allBehind {l : Launch} {a1 : Int32} {a2 : Int64} {a4 : Int32} {a5 : Int32} {a6 : Int32} {a7 : Int32} {M : Mm} {r : Int64}  (h : m_M_allBehind a1 a2 a4 a5 a6 a7 M = some r) : Ev l X_M_allBehind [vr 8 0, vi a1, vl a2, vi a4, vi a5, vi a6, vi a7] M (fun v M2 => v = (some (vl r)) ∧ M2 = M) := by
  refine Ev.of mk_M_allBehind [(0, vr 8 0), (1, vi a1), (2, vl a2), (4, vi a4), (5, vi a5), (6, vi a6), (7, vi a7)] (fun _ => rfl) (fun _ => (Nat.le_of_ble_eq_true rfl)) ?_
  unfold m_M_allBehind at h
  refine go_aload_n 0 rfl 0 rfl rfl ?_
  refine go_iload_n 1 rfl 1 rfl rfl ?_
  refine go_lload_n 2 rfl 2 rfl rfl ?_
  refine go_iload 3 rfl 3 rfl ?_
  refine go_iload 4 rfl 4 rfl ?_
  refine go_iload 5 rfl 5 rfl ?_
  refine go_iload 6 rfl 6 rfl ?_
  obtain ⟨r1, c, h⟩ := bd_inv h
  refine go_callV1 _ 7 rfl (e_M_behind c) mk_M_behind (by first | decide | exact ok0 (by omega) | exact ok1 (by omega) | exact ok2 (by omega) | exact ok7 (by omega)) rfl cv_M_78 rfl ⟨(Nat.le_of_ble_eq_true rfl), (Nat.le_of_ble_eq_true rfl)⟩ (Nat.le_of_ble_eq_true rfl) rfl ?_
  refine go_lstore 8 rfl (Nat.le_of_ble_eq_true rfl) [(0, _), (1, _), (2, _), (4, _), (5, _), (6, _), (7, _), (8, _)] rfl ?_
  refine go_lconst 0 9 rfl (by decide) ?_
  refine go_lstore 10 rfl (Nat.le_of_ble_eq_true rfl) [(0, _), (1, _), (2, _), (4, _), (5, _), (6, _), (7, _), (8, _), (10, _)] rfl ?_
  obtain ⟨r3, c, h⟩ := bd_inv h
  refine w_M_allBehind_19 _ _ _ _ _ _ _ ?_ _ _ c
  refine go_lload 29 rfl 7 rfl ?_
  cases h
  exact go_lreturn 30 rfl rfl ⟨rfl, rfl⟩
def X_M_lasso : MX := (⟨"OmegaDeskModel", "lasso", "(IIIII)Z"⟩, prog_8_method_20_code, 13, some .boolean, { frames := 3, cells := 0, slots := 0, locals := 89 },
  [(0, .aload_n 0, 1), (1, .getfield 16, 4), (4, .iload_n 1, 5), (5, .iaload, 6), (6, .ifCond .ne 5, 9), (9, .iconst 0, 10), (10, .ireturn, 11), (11, .lconst 1, 12), (12, .aload_n 0, 13), (13, .iload_n 1, 14), (14, .lconst 1, 15), (15, .iload_n 2, 16), (16, .iload_n 3, 17), (17, .iload 4, 19), (19, .iload 5, 21), (21, .invokevirtual 82, 24), (24, .lor, 25), (25, .lstore 6, 27), (27, .iload_n 2, 28), (28, .istore 8, 30), (30, .iload 8, 32), (32, .iload_n 2, 33), (33, .iload 4, 35), (35, .iadd, 36), (36, .if_icmp .ge 100, 39), (39, .iconst 0, 40), (40, .istore 9, 42), (42, .iload 9, 44), (44, .aload_n 0, 45), (45, .getfield 16, 48), (48, .iload_n 1, 49), (49, .iaload, 50), (50, .if_icmp .ge 80, 53), (53, .lconst 1, 54), (54, .iconst 4, 55), (55, .iload 8, 57), (57, .imul, 58), (58, .iload 9, 60), (60, .iadd, 61), (61, .lshl, 62), (62, .lstore 10, 64), (64, .aload_n 0, 65), (65, .getfield 13, 68), (68, .iload_n 1, 69), (69, .iaload, 70), (70, .iload 9, 72), (72, .ishr, 73), (73, .iconst 1, 74), (74, .iand, 75), (75, .iconst 1, 76), (76, .if_icmp .ne 38, 79), (79, .lload 6, 81), (81, .lload 10, 83), (83, .land, 84), (84, .lconst 0, 85), (85, .lcmp, 86), (86, .ifCond .eq 28, 89), (89, .aload_n 0, 90), (90, .iload_n 1, 91), (91, .lload 10, 93), (93, .iload_n 2, 94), (94, .iload_n 3, 95), (95, .iload 4, 97), (97, .iload 5, 99), (99, .invokevirtual 82, 102), (102, .lload 10, 104), (104, .land, 105), (105, .lconst 0, 106), (106, .lcmp, 107), (107, .ifCond .eq 7, 110), (110, .iconst 1, 111), (111, .goto 4, 114), (114, .iconst 0, 115), (115, .istore 12, 117), (117, .iload 12, 119), (119, .ifCond .eq 5, 122), (122, .iconst 1, 123), (123, .ireturn, 124), (124, .iinc 9 1, 127), (127, .goto (-85), 130), (130, .iinc 8 1, 133), (133, .goto (-103), 136), (136, .iconst 0, 137), (137, .ireturn, 138)])
set_option maxRecDepth 20000 in
theorem mk_M_lasso : Mk X_M_lasso := ⟨by unfold TBk; decide +kernel, by decide +kernel, wb_628, ⟨by decide, by decide⟩, rfl, rfl, wb_6⟩
theorem cv_M_82 : CV "OmegaDeskModel" 82 X_M_allBehind 6 8 := ⟨Or.inl wb_629, ⟨wb_631, ws_M_allBehind⟩, by decide +kernel, F_M, 12, rfl⟩
def b_M_lasso_42 (c1 : Int32) (c2 : Int32) (c3 : Int32) (c4 : Int32) (c5 : Int32) (c6 : Int64) (c8 : Int32) (M : Mm) (s : Int32) : Option ((Int32) ⊕ ((Int32) ⊕ (Bool))) :=
  ck (inb c1 (lenI 18)) <|
  if (M.1 (1, 18) c1.toNatClampNeg) ≤ s then
    some (Sum.inr (Sum.inl s))
  else
    bd (some ((1 : Int64) <<< ((((4 : Int32) * c8) + s).toInt64 &&& 63))) fun x2 =>
    ck (inb c1 (lenI 17)) <|
    if (((M.1 (1, 17) c1.toNatClampNeg) >>> (s &&& 31)) &&& (1 : Int32)) = (1 : Int32) then
      if (lg_cmp (c6 &&& x2) (0 : Int64)) = 0 then
        some (Sum.inl (s + 1))
      else
        bd (m_M_allBehind c1 x2 c2 c3 c4 c5 M) fun r3 =>
        if (lg_cmp (r3 &&& x2) (0 : Int64)) = 0 then
          some (Sum.inl (s + 1))
        else
          some (Sum.inr (Sum.inr true))
    else
      some (Sum.inl (s + 1))
def b_M_lasso_30 (c1 : Int32) (c2 : Int32) (c3 : Int32) (c4 : Int32) (c5 : Int32) (c6 : Int64) (M : Mm) (s : Int32) : Option ((Int32) ⊕ ((Int32) ⊕ (Bool))) :=
  if (c2 + c4) ≤ s then
    some (Sum.inr (Sum.inl s))
  else
    bd (lp (b_M_lasso_42 c1 c2 c3 c4 c5 c6 s M) (0 : Int32)) fun r4 =>
    smr r4 (fun v6 => some (Sum.inr (Sum.inr v6))) fun s5 =>
    some (Sum.inl (s + 1))
def m_M_lasso (a1 : Int32) (a2 : Int32) (a3 : Int32) (a4 : Int32) (a5 : Int32) (M : Mm) : Option (Bool) :=
  ck (inb a1 (lenI 18)) <|
  if (M.1 (1, 18) a1.toNatClampNeg) = 0 then
    some false
  else
    bd (m_M_allBehind a1 (1 : Int64) a2 a3 a4 a5 M) fun r1 =>
    bd (lp (b_M_lasso_30 a1 a2 a3 a4 a5 ((1 : Int64) ||| r1) M) a2) fun r7 =>
    smr r7 (fun v9 => some v9) fun s8 =>
    some false
set_option maxRecDepth 20000 in
theorem w_M_lasso_42 {l : Launch} {post : Option PV → Mm → Prop} (c1 : Int32) (c2 : Int32) (c3 : Int32) (c4 : Int32) (c5 : Int32) (c6 : Int64) (c8 : Int32) (M : Mm)  {r : (Int32) ⊕ (Bool)} (kk : ∀ s2, r = Sum.inl s2 → Go l X_M_lasso post 130 [(0, vr 8 0), (1, vi c1), (2, vi c2), (3, vi c3), (4, vi c4), (5, vi c5), (6, vl c6), (8, vi c8), (9, vi s2)] [] M) (kr : ∀ v, r = Sum.inr v → post (some (vi (bI v))) M) : ∀ (n : Nat) (s : Int32), lpN (b_M_lasso_42 c1 c2 c3 c4 c5 c6 c8 M) n s = some r → Go l X_M_lasso post 42 [(0, vr 8 0), (1, vi c1), (2, vi c2), (3, vi c3), (4, vi c4), (5, vi c5), (6, vl c6), (8, vi c8), (9, vi s)] [] M := by
  intro n
  induction n with
  | zero => intro s hc; exact (lpN_0 hc).elim
  | succ n ih =>
    intro s hc
    obtain ⟨q, h, hc⟩ := lpN_inv hc
    unfold b_M_lasso_42 at h
    refine go_iload 27 rfl 8 rfl ?_
    refine go_aload_n 28 rfl 0 rfl rfl ?_
    refine go_getfield 3 _ 29 rfl (by first | decide | exact ok0 (by omega) | exact ok1 (by omega) | exact ok2 (by omega) | exact ok7 (by omega)) rfl fg_M_16 rfl ?_
    refine go_iload_n 30 rfl 1 rfl rfl ?_
    obtain ⟨c, h⟩ := ck_inv h
    refine go_iaload 31 rfl (by first | decide | exact ok0 (by omega) | exact ok1 (by omega) | exact ok2 (by omega) | exact ok7 (by omega)) (inb_vp c) ?_
    refine go_icmp_ge 130 32 rfl (by decide) (fun c => ?_) (fun c => ?_)
    · replace h := ite_t c h
      cases h
      obtain rfl := lpq_r hc
      exact kk _ rfl
    · replace h := ite_f c h
      refine go_lconst 1 33 rfl (by decide) ?_
      refine go_iconst 4 34 rfl (by decide) ?_
      refine go_iload 35 rfl 7 rfl ?_
      refine go_imul 36 rfl ?_
      refine go_iload 37 rfl 8 rfl ?_
      refine go_iadd 38 rfl ?_
      refine go_lshl 39 rfl ?_
      obtain ⟨_, c, h⟩ := bd_inv h
      cases c
      refine go_lstore 40 rfl (Nat.le_of_ble_eq_true rfl) [(0, _), (1, _), (2, _), (3, _), (4, _), (5, _), (6, _), (8, _), (9, _), (10, _)] rfl ?_
      refine go_aload_n 41 rfl 0 rfl rfl ?_
      refine go_getfield 2 _ 42 rfl (by first | decide | exact ok0 (by omega) | exact ok1 (by omega) | exact ok2 (by omega) | exact ok7 (by omega)) rfl fg_M_13 rfl ?_
      refine go_iload_n 43 rfl 1 rfl rfl ?_
      obtain ⟨c, h⟩ := ck_inv h
      refine go_iaload 44 rfl (by first | decide | exact ok0 (by omega) | exact ok1 (by omega) | exact ok2 (by omega) | exact ok7 (by omega)) (inb_vp c) ?_
      refine go_iload 45 rfl 8 rfl ?_
      refine go_ishr 46 rfl ?_
      refine go_iconst 1 47 rfl (by decide) ?_
      refine go_iand 48 rfl ?_
      refine go_iconst 1 49 rfl (by decide) ?_
      refine go_icmp_ne 114 50 rfl (by decide) (fun c => ?_) (fun c => ?_)
      · replace h := ite_f c h
        refine go_iconst 0 72 rfl (by decide) ?_
        refine go_istore 73 rfl (Nat.le_of_ble_eq_true rfl) [(0, _), (1, _), (2, _), (3, _), (4, _), (5, _), (6, _), (8, _), (9, _), (10, _), (12, _)] rfl ?_
        refine go_iload 74 rfl 10 rfl ?_
        refine go_if_eq 124 75 rfl (by decide) (fun _ => ?_) (fun c => absurd c (by decide))
        refine go_iinc 1 78 rfl 8 rfl (by decide) (Nat.le_of_ble_eq_true rfl) [(0, _), (1, _), (2, _), (3, _), (4, _), (5, _), (6, _), (8, _), (9, _), (10, _), (12, _)] rfl ?_
        refine go_goto 42 79 rfl (by decide) ?_
        cases h
        refine go_sub [0, 1, 2, 3, 4, 5, 6, 7, 8] rfl ?_
        exact ih _ hc
      · replace h := ite_t c h
        refine go_lload 51 rfl 6 rfl ?_
        refine go_lload 52 rfl 9 rfl ?_
        refine go_land 53 rfl ?_
        refine go_lconst 0 54 rfl (by decide) ?_
        refine go_lcmp 55 rfl ?_
        refine go_if_eq 114 56 rfl (by decide) (fun c => ?_) (fun c => ?_)
        · replace h := ite_t c h
          refine go_iconst 0 72 rfl (by decide) ?_
          refine go_istore 73 rfl (Nat.le_of_ble_eq_true rfl) [(0, _), (1, _), (2, _), (3, _), (4, _), (5, _), (6, _), (8, _), (9, _), (10, _), (12, _)] rfl ?_
          refine go_iload 74 rfl 10 rfl ?_
          refine go_if_eq 124 75 rfl (by decide) (fun _ => ?_) (fun c => absurd c (by decide))
          refine go_iinc 1 78 rfl 8 rfl (by decide) (Nat.le_of_ble_eq_true rfl) [(0, _), (1, _), (2, _), (3, _), (4, _), (5, _), (6, _), (8, _), (9, _), (10, _), (12, _)] rfl ?_
          refine go_goto 42 79 rfl (by decide) ?_
          cases h
          refine go_sub [0, 1, 2, 3, 4, 5, 6, 7, 8] rfl ?_
          exact ih _ hc
        · replace h := ite_f c h
          refine go_aload_n 57 rfl 0 rfl rfl ?_
          refine go_iload_n 58 rfl 1 rfl rfl ?_
          refine go_lload 59 rfl 9 rfl ?_
          refine go_iload_n 60 rfl 2 rfl rfl ?_
          refine go_iload_n 61 rfl 3 rfl rfl ?_
          refine go_iload 62 rfl 4 rfl ?_
          refine go_iload 63 rfl 5 rfl ?_
          obtain ⟨r3, c, h⟩ := bd_inv h
          refine go_callV1 _ 64 rfl (e_M_allBehind c) mk_M_allBehind (by first | decide | exact ok0 (by omega) | exact ok1 (by omega) | exact ok2 (by omega) | exact ok7 (by omega)) rfl cv_M_82 rfl ⟨(Nat.le_of_ble_eq_true rfl), (Nat.le_of_ble_eq_true rfl)⟩ (Nat.le_of_ble_eq_true rfl) rfl ?_
          refine go_lload 65 rfl 9 rfl ?_
          refine go_land 66 rfl ?_
          refine go_lconst 0 67 rfl (by decide) ?_
          refine go_lcmp 68 rfl ?_
          refine go_if_eq 114 69 rfl (by decide) (fun c => ?_) (fun c => ?_)
          · replace h := ite_t c h
            refine go_iconst 0 72 rfl (by decide) ?_
            refine go_istore 73 rfl (Nat.le_of_ble_eq_true rfl) [(0, _), (1, _), (2, _), (3, _), (4, _), (5, _), (6, _), (8, _), (9, _), (10, _), (12, _)] rfl ?_
            refine go_iload 74 rfl 10 rfl ?_
            refine go_if_eq 124 75 rfl (by decide) (fun _ => ?_) (fun c => absurd c (by decide))
            refine go_iinc 1 78 rfl 8 rfl (by decide) (Nat.le_of_ble_eq_true rfl) [(0, _), (1, _), (2, _), (3, _), (4, _), (5, _), (6, _), (8, _), (9, _), (10, _), (12, _)] rfl ?_
            refine go_goto 42 79 rfl (by decide) ?_
            cases h
            refine go_sub [0, 1, 2, 3, 4, 5, 6, 7, 8] rfl ?_
            exact ih _ hc
          · replace h := ite_f c h
            refine go_iconst 1 70 rfl (by decide) ?_
            refine go_goto 115 71 rfl (by decide) ?_
            refine go_istore 73 rfl (Nat.le_of_ble_eq_true rfl) [(0, _), (1, _), (2, _), (3, _), (4, _), (5, _), (6, _), (8, _), (9, _), (10, _), (12, _)] rfl ?_
            refine go_iload 74 rfl 10 rfl ?_
            refine go_if_eq 124 75 rfl (by decide) (fun c => absurd c (by decide)) (fun _ => ?_)
            refine go_iconst 1 76 rfl (by decide) ?_
            cases h
            obtain rfl := lpq_r hc
            exact go_ireturn 77 rfl rfl rfl (kr _ rfl)
set_option maxRecDepth 20000 in
theorem w_M_lasso_30 {l : Launch} {post : Option PV → Mm → Prop} (c1 : Int32) (c2 : Int32) (c3 : Int32) (c4 : Int32) (c5 : Int32) (c6 : Int64) (M : Mm)  {r : (Int32) ⊕ (Bool)} (kk : ∀ s2, r = Sum.inl s2 → Go l X_M_lasso post 136 [(0, vr 8 0), (1, vi c1), (2, vi c2), (3, vi c3), (4, vi c4), (5, vi c5), (6, vl c6), (8, vi s2)] [] M) (kr : ∀ v, r = Sum.inr v → post (some (vi (bI v))) M) : ∀ (n : Nat) (s : Int32), lpN (b_M_lasso_30 c1 c2 c3 c4 c5 c6 M) n s = some r → Go l X_M_lasso post 30 [(0, vr 8 0), (1, vi c1), (2, vi c2), (3, vi c3), (4, vi c4), (5, vi c5), (6, vl c6), (8, vi s)] [] M := by
  intro n
  induction n with
  | zero => intro s hc; exact (lpN_0 hc).elim
  | succ n ih =>
    intro s hc
    obtain ⟨q, h, hc⟩ := lpN_inv hc
    unfold b_M_lasso_30 at h
    refine go_iload 20 rfl 7 rfl ?_
    refine go_iload_n 21 rfl 2 rfl rfl ?_
    refine go_iload 22 rfl 4 rfl ?_
    refine go_iadd 23 rfl ?_
    refine go_icmp_ge 136 24 rfl (by decide) (fun c => ?_) (fun c => ?_)
    · replace h := ite_t c h
      cases h
      obtain rfl := lpq_r hc
      exact kk _ rfl
    · replace h := ite_f c h
      refine go_iconst 0 25 rfl (by decide) ?_
      refine go_istore 26 rfl (Nat.le_of_ble_eq_true rfl) [(0, _), (1, _), (2, _), (3, _), (4, _), (5, _), (6, _), (8, _), (9, _)] rfl ?_
      obtain ⟨r4, c, h⟩ := bd_inv h
      refine w_M_lasso_42 _ _ _ _ _ _ _ _ (fun s2 e => ?_) (fun v e => ?_) _ _ c
      · subst e
        replace h := smr_l h
        refine go_iinc 1 80 rfl 7 rfl (by decide) (Nat.le_of_ble_eq_true rfl) [(0, _), (1, _), (2, _), (3, _), (4, _), (5, _), (6, _), (8, _), (9, _)] rfl ?_
        refine go_goto 30 81 rfl (by decide) ?_
        cases h
        refine go_sub [0, 1, 2, 3, 4, 5, 6, 7] rfl ?_
        exact ih _ hc
      · subst e
        replace h := smr_r h
        cases h
        obtain rfl := lpq_r hc
        exact kr _ rfl
set_option maxRecDepth 20000 in
theorem e_M_lasso {l : Launch} {a1 : Int32} {a2 : Int32} {a3 : Int32} {a4 : Int32} {a5 : Int32} {M : Mm} {r : Bool}  (h : m_M_lasso a1 a2 a3 a4 a5 M = some r) : Ev l X_M_lasso [vr 8 0, vi a1, vi a2, vi a3, vi a4, vi a5] M (fun v M2 => v = (some (vi (bI r))) ∧ M2 = M) := by
  refine Ev.of mk_M_lasso [(0, vr 8 0), (1, vi a1), (2, vi a2), (3, vi a3), (4, vi a4), (5, vi a5)] (fun _ => rfl) (fun _ => (Nat.le_of_ble_eq_true rfl)) ?_
  unfold m_M_lasso at h
  refine go_aload_n 0 rfl 0 rfl rfl ?_
  refine go_getfield 3 _ 1 rfl (by first | decide | exact ok0 (by omega) | exact ok1 (by omega) | exact ok2 (by omega) | exact ok7 (by omega)) rfl fg_M_16 rfl ?_
  refine go_iload_n 2 rfl 1 rfl rfl ?_
  obtain ⟨c, h⟩ := ck_inv h
  refine go_iaload 3 rfl (by first | decide | exact ok0 (by omega) | exact ok1 (by omega) | exact ok2 (by omega) | exact ok7 (by omega)) (inb_vp c) ?_
  refine go_if_ne 11 4 rfl (by decide) (fun c => ?_) (fun c => ?_)
  · replace h := ite_f c h
    refine go_lconst 1 7 rfl (by decide) ?_
    refine go_aload_n 8 rfl 0 rfl rfl ?_
    refine go_iload_n 9 rfl 1 rfl rfl ?_
    refine go_lconst 1 10 rfl (by decide) ?_
    refine go_iload_n 11 rfl 2 rfl rfl ?_
    refine go_iload_n 12 rfl 3 rfl rfl ?_
    refine go_iload 13 rfl 4 rfl ?_
    refine go_iload 14 rfl 5 rfl ?_
    obtain ⟨r1, c, h⟩ := bd_inv h
    refine go_callV1 _ 15 rfl (e_M_allBehind c) mk_M_allBehind (by first | decide | exact ok0 (by omega) | exact ok1 (by omega) | exact ok2 (by omega) | exact ok7 (by omega)) rfl cv_M_82 rfl ⟨(Nat.le_of_ble_eq_true rfl), (Nat.le_of_ble_eq_true rfl)⟩ (Nat.le_of_ble_eq_true rfl) rfl ?_
    refine go_lor 16 rfl ?_
    refine go_lstore 17 rfl (Nat.le_of_ble_eq_true rfl) [(0, _), (1, _), (2, _), (3, _), (4, _), (5, _), (6, _)] rfl ?_
    refine go_iload_n 18 rfl 2 rfl rfl ?_
    refine go_istore 19 rfl (Nat.le_of_ble_eq_true rfl) [(0, _), (1, _), (2, _), (3, _), (4, _), (5, _), (6, _), (8, _)] rfl ?_
    obtain ⟨r7, c, h⟩ := bd_inv h
    refine w_M_lasso_30 _ _ _ _ _ _ _ (fun s2 e => ?_) (fun v e => ?_) _ _ c
    · subst e
      replace h := smr_l h
      refine go_iconst 0 82 rfl (by decide) ?_
      cases h
      exact go_ireturn 83 rfl rfl rfl ⟨rfl, rfl⟩
    · subst e
      replace h := smr_r h
      cases h
      exact ⟨rfl, rfl⟩
  · replace h := ite_t c h
    refine go_iconst 0 5 rfl (by decide) ?_
    cases h
    exact go_ireturn 6 rfl rfl rfl ⟨rfl, rfl⟩
def X_M_isWord : MX := (⟨"OmegaDeskModel", "isWord", "(III)Z"⟩, prog_8_method_21_code, 3, some .boolean, { frames := 0, cells := 0, slots := 0, locals := 0 },
  [(0, .iload_n 0, 1), (1, .iload_n 2, 2), (2, .if_icmp .lt 23, 5), (5, .iload_n 0, 6), (6, .bipush 8, 8), (8, .if_icmp .gt 17, 11), (11, .iload_n 1, 12), (12, .ifCond .lt 13, 15), (15, .iload_n 1, 16), (16, .iload_n 0, 17), (17, .ishr, 18), (18, .ifCond .ne 7, 21), (21, .iconst 1, 22), (22, .goto 4, 25), (25, .iconst 0, 26), (26, .ireturn, 27)])
set_option maxRecDepth 20000 in
theorem mk_M_isWord : Mk X_M_isWord := ⟨by unfold TBk; decide +kernel, by decide +kernel, wb_624, ⟨by decide, by decide⟩, rfl, rfl, wb_6⟩
def m_M_isWord (a0 : Int32) (a1 : Int32) (a2 : Int32) : Option (Bool) :=
  if a0 < a2 then
    some false
  else
    if (8 : Int32) < a0 then
      some false
    else
      if a1 < 0 then
        some false
      else
        if (a1 >>> (a0 &&& 31)) = 0 then
          some true
        else
          some false
set_option maxRecDepth 20000 in
theorem e_M_isWord {l : Launch} {a0 : Int32} {a1 : Int32} {a2 : Int32} {M : Mm} {r : Bool}  (h : m_M_isWord a0 a1 a2 = some r) : Ev l X_M_isWord [vi a0, vi a1, vi a2] M (fun v M2 => v = (some (vi (bI r))) ∧ M2 = M) := by
  refine Ev.of mk_M_isWord [(0, vi a0), (1, vi a1), (2, vi a2)] (fun _ => rfl) (fun _ => (Nat.le_of_ble_eq_true rfl)) ?_
  unfold m_M_isWord at h
  refine go_iload_n 0 rfl 0 rfl rfl ?_
  refine go_iload_n 1 rfl 2 rfl rfl ?_
  refine go_icmp_lt 25 2 rfl (by decide) (fun c => ?_) (fun c => ?_)
  · replace h := ite_t c h
    refine go_iconst 0 14 rfl (by decide) ?_
    cases h
    exact go_ireturn 15 rfl rfl rfl ⟨rfl, rfl⟩
  · replace h := ite_f c h
    refine go_iload_n 3 rfl 0 rfl rfl ?_
    refine go_bipush 8 4 rfl (by decide) ?_
    refine go_icmp_gt 25 5 rfl (by decide) (fun c => ?_) (fun c => ?_)
    · replace h := ite_t c h
      refine go_iconst 0 14 rfl (by decide) ?_
      cases h
      exact go_ireturn 15 rfl rfl rfl ⟨rfl, rfl⟩
    · replace h := ite_f c h
      refine go_iload_n 6 rfl 1 rfl rfl ?_
      refine go_if_lt 25 7 rfl (by decide) (fun c => ?_) (fun c => ?_)
      · replace h := ite_t c h
        refine go_iconst 0 14 rfl (by decide) ?_
        cases h
        exact go_ireturn 15 rfl rfl rfl ⟨rfl, rfl⟩
      · replace h := ite_f c h
        refine go_iload_n 8 rfl 1 rfl rfl ?_
        refine go_iload_n 9 rfl 0 rfl rfl ?_
        refine go_ishr 10 rfl ?_
        refine go_if_ne 25 11 rfl (by decide) (fun c => ?_) (fun c => ?_)
        · replace h := ite_f c h
          refine go_iconst 0 14 rfl (by decide) ?_
          cases h
          exact go_ireturn 15 rfl rfl rfl ⟨rfl, rfl⟩
        · replace h := ite_t c h
          refine go_iconst 1 12 rfl (by decide) ?_
          refine go_goto 26 13 rfl (by decide) ?_
          cases h
          exact go_ireturn 15 rfl rfl rfl ⟨rfl, rfl⟩
def X_M_takes : MX := (⟨"OmegaDeskModel", "takes", "(IIIII)Z"⟩, prog_8_method_22_code, 6, some .boolean, { frames := 4, cells := 0, slots := 0, locals := 121 },
  [(0, .aload_n 0, 1), (1, .iload_n 1, 2), (2, .bipush 6, 4), (4, .invokestatic 45, 7), (7, .ifCond .ne 23, 10), (10, .iload_n 2, 11), (11, .iload_n 3, 12), (12, .iconst 0, 13), (13, .invokestatic 85, 16), (16, .ifCond .eq 14, 19), (19, .iload 4, 21), (21, .iload 5, 23), (23, .iconst 1, 24), (24, .invokestatic 85, 27), (27, .ifCond .ne 7, 30), (30, .iconst 1, 31), (31, .goto 4, 34), (34, .iconst 0, 35), (35, .putfield 41, 38), (38, .aload_n 0, 39), (39, .getfield 41, 42), (42, .ifCond .ne 21, 45), (45, .aload_n 0, 46), (46, .iload_n 1, 47), (47, .iload_n 2, 48), (48, .iload_n 3, 49), (49, .iload 4, 51), (51, .iload 5, 53), (53, .invokevirtual 89, 56), (56, .ifCond .eq 7, 59), (59, .iconst 1, 60), (60, .goto 4, 63), (63, .iconst 0, 64), (64, .ireturn, 65)])
set_option maxRecDepth 20000 in
theorem mk_M_takes : Mk X_M_takes := ⟨by unfold TBk; decide +kernel, by decide +kernel, wb_621, ⟨by decide, by decide⟩, rfl, rfl, wb_6⟩
theorem cv_M_89 : CV "OmegaDeskModel" 89 X_M_lasso 5 8 := ⟨Or.inl wb_625, ⟨wb_627, ws_M_lasso⟩, by decide +kernel, F_M, 12, rfl⟩
theorem cs_M_85 : CS "OmegaDeskModel" 85 X_M_isWord 3 := ⟨Or.inl wb_622, wb_623, by decide +kernel⟩
def m_M_takes (a1 : Int32) (a2 : Int32) (a3 : Int32) (a4 : Int32) (a5 : Int32) (M : Mm) : Option (Bool × Mm) :=
  bd (m_M_out a1 (6 : Int32)) fun r1 =>
  if (bI r1) = 0 then
    bd (m_M_isWord a2 a3 (0 : Int32)) fun r4 =>
    if (bI r4) = 0 then
      bd (some (uI M (8, 0) 0 (1 : Int32))) fun M5 =>
      if (M5.1 (8, 0) 0) = 0 then
        bd (m_M_lasso a1 a2 a3 a4 a5 M5) fun r6 =>
        if (bI r6) = 0 then
          some (false, M5)
        else
          some (true, M5)
      else
        some (false, M5)
    else
      bd (m_M_isWord a4 a5 (1 : Int32)) fun r7 =>
      if (bI r7) = 0 then
        bd (some (uI M (8, 0) 0 (1 : Int32))) fun M10 =>
        if (M10.1 (8, 0) 0) = 0 then
          bd (m_M_lasso a1 a2 a3 a4 a5 M10) fun r11 =>
          if (bI r11) = 0 then
            some (false, M10)
          else
            some (true, M10)
        else
          some (false, M10)
      else
        bd (some (uI M (8, 0) 0 (0 : Int32))) fun M8 =>
        if (M8.1 (8, 0) 0) = 0 then
          bd (m_M_lasso a1 a2 a3 a4 a5 M8) fun r9 =>
          if (bI r9) = 0 then
            some (false, M8)
          else
            some (true, M8)
        else
          some (false, M8)
  else
    bd (some (uI M (8, 0) 0 (1 : Int32))) fun M2 =>
    if (M2.1 (8, 0) 0) = 0 then
      bd (m_M_lasso a1 a2 a3 a4 a5 M2) fun r3 =>
      if (bI r3) = 0 then
        some (false, M2)
      else
        some (true, M2)
    else
      some (false, M2)
set_option maxRecDepth 20000 in
theorem e_M_takes {l : Launch} {a1 : Int32} {a2 : Int32} {a3 : Int32} {a4 : Int32} {a5 : Int32} {M : Mm} {r : Bool × Mm}  (h : m_M_takes a1 a2 a3 a4 a5 M = some r) : Ev l X_M_takes [vr 8 0, vi a1, vi a2, vi a3, vi a4, vi a5] M (fun v M2 => v = (some (vi (bI r.1))) ∧ M2 = r.2) := by
  refine Ev.of mk_M_takes [(0, vr 8 0), (1, vi a1), (2, vi a2), (3, vi a3), (4, vi a4), (5, vi a5)] (fun _ => rfl) (fun _ => (Nat.le_of_ble_eq_true rfl)) ?_
  unfold m_M_takes at h
  refine go_aload_n 0 rfl 0 rfl rfl ?_
  refine go_iload_n 1 rfl 1 rfl rfl ?_
  refine go_bipush 6 2 rfl (by decide) ?_
  obtain ⟨r1, c, h⟩ := bd_inv h
  refine go_callS1 _ 3 rfl (e_M_out c) mk_M_out cs_M_45 rfl ⟨(Nat.le_of_ble_eq_true rfl), (Nat.le_of_ble_eq_true rfl)⟩ (Nat.le_of_ble_eq_true rfl) rfl ?_
  refine go_if_ne 30 4 rfl (by decide) (fun c => ?_) (fun c => ?_)
  · replace h := ite_f c h
    refine go_iconst 1 15 rfl (by decide) ?_
    refine go_goto 35 16 rfl (by decide) ?_
    refine go_putfield 0 .int 18 rfl (by first | decide | exact ok0 (by omega) | exact ok1 (by omega) | exact ok2 (by omega) | exact ok7 (by omega)) rfl fp_M_41 rfl rfl (Nat.le_of_ble_eq_true rfl) rfl ?_
    obtain ⟨_, c, h⟩ := bd_inv h
    cases c
    refine go_aload_n 19 rfl 0 rfl rfl ?_
    refine go_getfield 0 _ 20 rfl (by first | decide | exact ok0 (by omega) | exact ok1 (by omega) | exact ok2 (by omega) | exact ok7 (by omega)) rfl fg_M_41 rfl ?_
    refine go_if_ne 63 21 rfl (by decide) (fun c => ?_) (fun c => ?_)
    · replace h := ite_f c h
      refine go_iconst 0 32 rfl (by decide) ?_
      cases h
      exact go_ireturn 33 rfl rfl rfl ⟨rfl, rfl⟩
    · replace h := ite_t c h
      refine go_aload_n 22 rfl 0 rfl rfl ?_
      refine go_iload_n 23 rfl 1 rfl rfl ?_
      refine go_iload_n 24 rfl 2 rfl rfl ?_
      refine go_iload_n 25 rfl 3 rfl rfl ?_
      refine go_iload 26 rfl 4 rfl ?_
      refine go_iload 27 rfl 5 rfl ?_
      obtain ⟨r3, c, h⟩ := bd_inv h
      refine go_callV1 _ 28 rfl (e_M_lasso c) mk_M_lasso (by first | decide | exact ok0 (by omega) | exact ok1 (by omega) | exact ok2 (by omega) | exact ok7 (by omega)) rfl cv_M_89 rfl ⟨(Nat.le_of_ble_eq_true rfl), (Nat.le_of_ble_eq_true rfl)⟩ (Nat.le_of_ble_eq_true rfl) rfl ?_
      refine go_if_eq 63 29 rfl (by decide) (fun c => ?_) (fun c => ?_)
      · replace h := ite_t c h
        refine go_iconst 0 32 rfl (by decide) ?_
        cases h
        exact go_ireturn 33 rfl rfl rfl ⟨rfl, rfl⟩
      · replace h := ite_f c h
        refine go_iconst 1 30 rfl (by decide) ?_
        refine go_goto 64 31 rfl (by decide) ?_
        cases h
        exact go_ireturn 33 rfl rfl rfl ⟨rfl, rfl⟩
  · replace h := ite_t c h
    refine go_iload_n 5 rfl 2 rfl rfl ?_
    refine go_iload_n 6 rfl 3 rfl rfl ?_
    refine go_iconst 0 7 rfl (by decide) ?_
    obtain ⟨r4, c, h⟩ := bd_inv h
    refine go_callS1 _ 8 rfl (e_M_isWord c) mk_M_isWord cs_M_85 rfl ⟨(Nat.le_of_ble_eq_true rfl), (Nat.le_of_ble_eq_true rfl)⟩ (Nat.le_of_ble_eq_true rfl) rfl ?_
    refine go_if_eq 30 9 rfl (by decide) (fun c => ?_) (fun c => ?_)
    · replace h := ite_t c h
      refine go_iconst 1 15 rfl (by decide) ?_
      refine go_goto 35 16 rfl (by decide) ?_
      refine go_putfield 0 .int 18 rfl (by first | decide | exact ok0 (by omega) | exact ok1 (by omega) | exact ok2 (by omega) | exact ok7 (by omega)) rfl fp_M_41 rfl rfl (Nat.le_of_ble_eq_true rfl) rfl ?_
      obtain ⟨_, c, h⟩ := bd_inv h
      cases c
      refine go_aload_n 19 rfl 0 rfl rfl ?_
      refine go_getfield 0 _ 20 rfl (by first | decide | exact ok0 (by omega) | exact ok1 (by omega) | exact ok2 (by omega) | exact ok7 (by omega)) rfl fg_M_41 rfl ?_
      refine go_if_ne 63 21 rfl (by decide) (fun c => ?_) (fun c => ?_)
      · replace h := ite_f c h
        refine go_iconst 0 32 rfl (by decide) ?_
        cases h
        exact go_ireturn 33 rfl rfl rfl ⟨rfl, rfl⟩
      · replace h := ite_t c h
        refine go_aload_n 22 rfl 0 rfl rfl ?_
        refine go_iload_n 23 rfl 1 rfl rfl ?_
        refine go_iload_n 24 rfl 2 rfl rfl ?_
        refine go_iload_n 25 rfl 3 rfl rfl ?_
        refine go_iload 26 rfl 4 rfl ?_
        refine go_iload 27 rfl 5 rfl ?_
        obtain ⟨r6, c, h⟩ := bd_inv h
        refine go_callV1 _ 28 rfl (e_M_lasso c) mk_M_lasso (by first | decide | exact ok0 (by omega) | exact ok1 (by omega) | exact ok2 (by omega) | exact ok7 (by omega)) rfl cv_M_89 rfl ⟨(Nat.le_of_ble_eq_true rfl), (Nat.le_of_ble_eq_true rfl)⟩ (Nat.le_of_ble_eq_true rfl) rfl ?_
        refine go_if_eq 63 29 rfl (by decide) (fun c => ?_) (fun c => ?_)
        · replace h := ite_t c h
          refine go_iconst 0 32 rfl (by decide) ?_
          cases h
          exact go_ireturn 33 rfl rfl rfl ⟨rfl, rfl⟩
        · replace h := ite_f c h
          refine go_iconst 1 30 rfl (by decide) ?_
          refine go_goto 64 31 rfl (by decide) ?_
          cases h
          exact go_ireturn 33 rfl rfl rfl ⟨rfl, rfl⟩
    · replace h := ite_f c h
      refine go_iload 10 rfl 4 rfl ?_
      refine go_iload 11 rfl 5 rfl ?_
      refine go_iconst 1 12 rfl (by decide) ?_
      obtain ⟨r7, c, h⟩ := bd_inv h
      refine go_callS1 _ 13 rfl (e_M_isWord c) mk_M_isWord cs_M_85 rfl ⟨(Nat.le_of_ble_eq_true rfl), (Nat.le_of_ble_eq_true rfl)⟩ (Nat.le_of_ble_eq_true rfl) rfl ?_
      refine go_if_ne 34 14 rfl (by decide) (fun c => ?_) (fun c => ?_)
      · replace h := ite_f c h
        refine go_iconst 0 17 rfl (by decide) ?_
        refine go_putfield 0 .int 18 rfl (by first | decide | exact ok0 (by omega) | exact ok1 (by omega) | exact ok2 (by omega) | exact ok7 (by omega)) rfl fp_M_41 rfl rfl (Nat.le_of_ble_eq_true rfl) rfl ?_
        obtain ⟨_, c, h⟩ := bd_inv h
        cases c
        refine go_aload_n 19 rfl 0 rfl rfl ?_
        refine go_getfield 0 _ 20 rfl (by first | decide | exact ok0 (by omega) | exact ok1 (by omega) | exact ok2 (by omega) | exact ok7 (by omega)) rfl fg_M_41 rfl ?_
        refine go_if_ne 63 21 rfl (by decide) (fun c => ?_) (fun c => ?_)
        · replace h := ite_f c h
          refine go_iconst 0 32 rfl (by decide) ?_
          cases h
          exact go_ireturn 33 rfl rfl rfl ⟨rfl, rfl⟩
        · replace h := ite_t c h
          refine go_aload_n 22 rfl 0 rfl rfl ?_
          refine go_iload_n 23 rfl 1 rfl rfl ?_
          refine go_iload_n 24 rfl 2 rfl rfl ?_
          refine go_iload_n 25 rfl 3 rfl rfl ?_
          refine go_iload 26 rfl 4 rfl ?_
          refine go_iload 27 rfl 5 rfl ?_
          obtain ⟨r9, c, h⟩ := bd_inv h
          refine go_callV1 _ 28 rfl (e_M_lasso c) mk_M_lasso (by first | decide | exact ok0 (by omega) | exact ok1 (by omega) | exact ok2 (by omega) | exact ok7 (by omega)) rfl cv_M_89 rfl ⟨(Nat.le_of_ble_eq_true rfl), (Nat.le_of_ble_eq_true rfl)⟩ (Nat.le_of_ble_eq_true rfl) rfl ?_
          refine go_if_eq 63 29 rfl (by decide) (fun c => ?_) (fun c => ?_)
          · replace h := ite_t c h
            refine go_iconst 0 32 rfl (by decide) ?_
            cases h
            exact go_ireturn 33 rfl rfl rfl ⟨rfl, rfl⟩
          · replace h := ite_f c h
            refine go_iconst 1 30 rfl (by decide) ?_
            refine go_goto 64 31 rfl (by decide) ?_
            cases h
            exact go_ireturn 33 rfl rfl rfl ⟨rfl, rfl⟩
      · replace h := ite_t c h
        refine go_iconst 1 15 rfl (by decide) ?_
        refine go_goto 35 16 rfl (by decide) ?_
        refine go_putfield 0 .int 18 rfl (by first | decide | exact ok0 (by omega) | exact ok1 (by omega) | exact ok2 (by omega) | exact ok7 (by omega)) rfl fp_M_41 rfl rfl (Nat.le_of_ble_eq_true rfl) rfl ?_
        obtain ⟨_, c, h⟩ := bd_inv h
        cases c
        refine go_aload_n 19 rfl 0 rfl rfl ?_
        refine go_getfield 0 _ 20 rfl (by first | decide | exact ok0 (by omega) | exact ok1 (by omega) | exact ok2 (by omega) | exact ok7 (by omega)) rfl fg_M_41 rfl ?_
        refine go_if_ne 63 21 rfl (by decide) (fun c => ?_) (fun c => ?_)
        · replace h := ite_f c h
          refine go_iconst 0 32 rfl (by decide) ?_
          cases h
          exact go_ireturn 33 rfl rfl rfl ⟨rfl, rfl⟩
        · replace h := ite_t c h
          refine go_aload_n 22 rfl 0 rfl rfl ?_
          refine go_iload_n 23 rfl 1 rfl rfl ?_
          refine go_iload_n 24 rfl 2 rfl rfl ?_
          refine go_iload_n 25 rfl 3 rfl rfl ?_
          refine go_iload 26 rfl 4 rfl ?_
          refine go_iload 27 rfl 5 rfl ?_
          obtain ⟨r11, c, h⟩ := bd_inv h
          refine go_callV1 _ 28 rfl (e_M_lasso c) mk_M_lasso (by first | decide | exact ok0 (by omega) | exact ok1 (by omega) | exact ok2 (by omega) | exact ok7 (by omega)) rfl cv_M_89 rfl ⟨(Nat.le_of_ble_eq_true rfl), (Nat.le_of_ble_eq_true rfl)⟩ (Nat.le_of_ble_eq_true rfl) rfl ?_
          refine go_if_eq 63 29 rfl (by decide) (fun c => ?_) (fun c => ?_)
          · replace h := ite_t c h
            refine go_iconst 0 32 rfl (by decide) ?_
            cases h
            exact go_ireturn 33 rfl rfl rfl ⟨rfl, rfl⟩
          · replace h := ite_f c h
            refine go_iconst 1 30 rfl (by decide) ?_
            refine go_goto 64 31 rfl (by decide) ?_
            cases h
            exact go_ireturn 33 rfl rfl rfl ⟨rfl, rfl⟩
end
section
def X_M_bit : MX := (⟨"OmegaDeskModel", "bit", "([JI)Z"⟩, prog_8_method_23_code, 2, some .boolean, { frames := 0, cells := 0, slots := 0, locals := 0 },
  [(0, .aload_n 0, 1), (1, .iload_n 1, 2), (2, .bipush 6, 4), (4, .ishr, 5), (5, .laload, 6), (6, .iload_n 1, 7), (7, .bipush 63, 9), (9, .iand, 10), (10, .lshr, 11), (11, .lconst 1, 12), (12, .land, 13), (13, .lconst 1, 14), (14, .lcmp, 15), (15, .ifCond .ne 7, 18), (18, .iconst 1, 19), (19, .goto 4, 22), (22, .iconst 0, 23), (23, .ireturn, 24)])
set_option maxRecDepth 20000 in
theorem mk_M_bit : Mk X_M_bit := ⟨by unfold TBk; decide +kernel, by decide +kernel, wb_682, ⟨by decide, by decide⟩, rfl, rfl, wb_6⟩
def m_M_bit (a0 : Nat) (a1 : Int32) (M : Mm) : Option (Bool) :=
  ck (inb (a1 >>> ((6 : Int32) &&& 31)) (lenL a0)) <|
  if (lg_cmp (((M.2 (2, a0) (a1 >>> ((6 : Int32) &&& 31)).toNatClampNeg) >>> ((a1 &&& (63 : Int32)).toInt64 &&& 63)) &&& (1 : Int64)) (1 : Int64)) = 0 then
    some true
  else
    some false
set_option maxRecDepth 20000 in
theorem e_M_bit {l : Launch} {a0 : Nat} {a1 : Int32} {M : Mm} {r : Bool} (h0 : a0 < 4) (h : m_M_bit a0 a1 M = some r) : Ev l X_M_bit [vr 2 a0, vi a1] M (fun v M2 => v = (some (vi (bI r))) ∧ M2 = M) := by
  refine Ev.of mk_M_bit [(0, vr 2 a0), (1, vi a1)] (fun _ => rfl) (fun _ => (Nat.le_of_ble_eq_true rfl)) ?_
  unfold m_M_bit at h
  refine go_aload_n 0 rfl 0 rfl rfl ?_
  refine go_iload_n 1 rfl 1 rfl rfl ?_
  refine go_bipush 6 2 rfl (by decide) ?_
  refine go_ishr 3 rfl ?_
  obtain ⟨c, h⟩ := ck_inv h
  refine go_laload 4 rfl (by first | decide | exact ok0 (by omega) | exact ok1 (by omega) | exact ok2 (by omega) | exact ok7 (by omega)) (inb_vp c) ?_
  refine go_iload_n 5 rfl 1 rfl rfl ?_
  refine go_bipush 63 6 rfl (by decide) ?_
  refine go_iand 7 rfl ?_
  refine go_lshr 8 rfl ?_
  refine go_lconst 1 9 rfl (by decide) ?_
  refine go_land 10 rfl ?_
  refine go_lconst 1 11 rfl (by decide) ?_
  refine go_lcmp 12 rfl ?_
  refine go_if_ne 22 13 rfl (by decide) (fun c => ?_) (fun c => ?_)
  · replace h := ite_f c h
    refine go_iconst 0 16 rfl (by decide) ?_
    cases h
    exact go_ireturn 17 rfl rfl rfl ⟨rfl, rfl⟩
  · replace h := ite_t c h
    refine go_iconst 1 14 rfl (by decide) ?_
    refine go_goto 23 15 rfl (by decide) ?_
    cases h
    exact go_ireturn 17 rfl rfl rfl ⟨rfl, rfl⟩
def X_M_mark : MX := (⟨"OmegaDeskModel", "mark", "([JI)V"⟩, prog_8_method_24_code, 2, none, { frames := 0, cells := 0, slots := 0, locals := 0 },
  [(0, .aload_n 0, 1), (1, .iload_n 1, 2), (2, .bipush 6, 4), (4, .ishr, 5), (5, .aload_n 0, 6), (6, .iload_n 1, 7), (7, .bipush 6, 9), (9, .ishr, 10), (10, .laload, 11), (11, .lconst 1, 12), (12, .iload_n 1, 13), (13, .bipush 63, 15), (15, .iand, 16), (16, .lshl, 17), (17, .lor, 18), (18, .lastore, 19), (19, .return_, 20)])
set_option maxRecDepth 20000 in
theorem mk_M_mark : Mk X_M_mark := ⟨by unfold TBk; decide +kernel, by decide +kernel, wb_666, ⟨by decide, by decide⟩, rfl, rfl, wb_6⟩
def m_M_mark (a0 : Nat) (a1 : Int32) (M : Mm) : Option (Mm) :=
  ck (inb (a1 >>> ((6 : Int32) &&& 31)) (lenL a0)) <|
  ck (inb (a1 >>> ((6 : Int32) &&& 31)) (lenL a0)) <|
  bd (some (uL M (2, a0) (a1 >>> ((6 : Int32) &&& 31)).toNatClampNeg ((M.2 (2, a0) (a1 >>> ((6 : Int32) &&& 31)).toNatClampNeg) ||| ((1 : Int64) <<< ((a1 &&& (63 : Int32)).toInt64 &&& 63))))) fun M1 =>
  some M1
set_option maxRecDepth 20000 in
theorem e_M_mark {l : Launch} {a0 : Nat} {a1 : Int32} {M : Mm} {r : Mm} (h0 : a0 < 4) (h : m_M_mark a0 a1 M = some r) : Ev l X_M_mark [vr 2 a0, vi a1] M (fun v M2 => v = none ∧ M2 = r) := by
  refine Ev.of mk_M_mark [(0, vr 2 a0), (1, vi a1)] (fun _ => rfl) (fun _ => (Nat.le_of_ble_eq_true rfl)) ?_
  unfold m_M_mark at h
  refine go_aload_n 0 rfl 0 rfl rfl ?_
  refine go_iload_n 1 rfl 1 rfl rfl ?_
  refine go_bipush 6 2 rfl (by decide) ?_
  refine go_ishr 3 rfl ?_
  refine go_aload_n 4 rfl 0 rfl rfl ?_
  refine go_iload_n 5 rfl 1 rfl rfl ?_
  refine go_bipush 6 6 rfl (by decide) ?_
  refine go_ishr 7 rfl ?_
  obtain ⟨c, h⟩ := ck_inv h
  refine go_laload 8 rfl (by first | decide | exact ok0 (by omega) | exact ok1 (by omega) | exact ok2 (by omega) | exact ok7 (by omega)) (inb_vp c) ?_
  refine go_lconst 1 9 rfl (by decide) ?_
  refine go_iload_n 10 rfl 1 rfl rfl ?_
  refine go_bipush 63 11 rfl (by decide) ?_
  refine go_iand 12 rfl ?_
  refine go_lshl 13 rfl ?_
  refine go_lor 14 rfl ?_
  obtain ⟨c, h⟩ := ck_inv h
  refine go_lastore 15 rfl (by first | decide | exact ok0 (by omega) | exact ok1 (by omega) | exact ok2 (by omega) | exact ok7 (by omega)) (inb_vp c) ?_
  obtain ⟨_, c, h⟩ := bd_inv h
  cases c
  cases h
  exact go_return 16 rfl rfl ⟨rfl, rfl⟩
def X_M_goOn : MX := (⟨"OmegaDeskModel", "goOn", "(IIII)Z"⟩, prog_8_method_26_code, 10, some .boolean, { frames := 0, cells := 0, slots := 0, locals := 0 },
  [(0, .iconst 0, 1), (1, .istore 5, 3), (3, .iconst 0, 4), (4, .istore 6, 6), (6, .iload 6, 8), (8, .iconst 2, 9), (9, .if_icmp .ge 164, 12), (12, .iconst 0, 13), (13, .istore 7, 15), (15, .iconst 0, 16), (16, .istore 8, 18), (18, .iload 8, 20), (20, .aload_n 0, 21), (21, .getfield 16, 24), (24, .iload_n 2, 25), (25, .iaload, 26), (26, .if_icmp .ge 47, 29), (29, .iload 4, 31), (31, .iload 8, 33), (33, .ishr, 34), (34, .iconst 1, 35), (35, .iand, 36), (36, .iconst 1, 37), (37, .if_icmp .ne 26, 40), (40, .iload 7, 42), (42, .aload_n 0, 43), (43, .getfield 7, 46), (46, .bipush 8, 48), (48, .iload_n 2, 49), (49, .imul, 50), (50, .iconst 4, 51), (51, .iload 6, 53), (53, .imul, 54), (54, .iadd, 55), (55, .iload 8, 57), (57, .iadd, 58), (58, .iaload, 59), (59, .ior, 60), (60, .goto 5, 63), (63, .iload 7, 65), (65, .istore 7, 67), (67, .iinc 8 1, 70), (70, .goto (-52), 73), (73, .iconst 0, 74), (74, .istore 8, 76), (76, .iload 8, 78), (78, .aload_n 0, 79), (79, .getfield 16, 82), (82, .iload_n 1, 83), (83, .iaload, 84), (84, .if_icmp .ge 83, 87), (87, .aload_n 0, 88), (88, .getfield 7, 91), (91, .bipush 8, 93), (93, .iload_n 1, 94), (94, .imul, 95), (95, .iconst 4, 96), (96, .iload 6, 98), (98, .imul, 99), (99, .iadd, 100), (100, .iload_n 3, 101), (101, .iadd, 102), (102, .iaload, 103), (103, .iload 8, 105), (105, .ishr, 106), (106, .iconst 1, 107), (107, .iand, 108), (108, .iconst 1, 109), (109, .if_icmp .ne 7, 112), (112, .iconst 1, 113), (113, .goto 4, 116), (116, .iconst 0, 117), (117, .istore 9, 119), (119, .iload 9, 121), (121, .ifCond .eq 40, 124), (124, .aload_n 0, 125), (125, .getfield 38, 128), (128, .iload 8, 130), (130, .iaload, 131), (131, .iload 7, 133), (133, .ishr, 134), (134, .iconst 1, 135), (135, .iand, 136), (136, .ifCond .ne 25, 139), (139, .aload_n 0, 140), (140, .getfield 38, 143), (143, .iload 8, 145), (145, .aload_n 0, 146), (146, .getfield 38, 149), (149, .iload 8, 151), (151, .iaload, 152), (152, .iconst 1, 153), (153, .iload 7, 155), (155, .ishl, 156), (156, .ior, 157), (157, .iastore, 158), (158, .iconst 1, 159), (159, .istore 5, 161), (161, .iinc 8 1, 164), (164, .goto (-88), 167), (167, .iinc 6 1, 170), (170, .goto (-164), 173), (173, .iload 5, 175), (175, .ireturn, 176)])
set_option maxRecDepth 20000 in
theorem mk_M_goOn : Mk X_M_goOn := ⟨by unfold TBk; decide +kernel, by decide +kernel, wb_656, ⟨by decide, by decide⟩, rfl, rfl, wb_6⟩
theorem fg_M_38 : FG "OmegaDeskModel" 38 8 11 := ⟨R_M, F_M, 12, rfl, by decide, uw_M, Or.inl wb_536⟩
def b_M_goOn_18 (c2 : Int32) (c4 : Int32) (c6 : Int32) (M : Mm) (s : Int32 × Int32) : Option ((Int32 × Int32) ⊕ (Int32 × Int32)) :=
  ck (inb c2 (lenI 18)) <|
  if (M.1 (1, 18) c2.toNatClampNeg) ≤ s.2 then
    some (Sum.inr (s.1, s.2))
  else
    if ((c4 >>> (s.2 &&& 31)) &&& (1 : Int32)) = (1 : Int32) then
      ck (inb ((((8 : Int32) * c2) + ((4 : Int32) * c6)) + s.2) (lenI 16)) <|
      bd (some (s.1 ||| (M.1 (1, 16) ((((8 : Int32) * c2) + ((4 : Int32) * c6)) + s.2).toNatClampNeg))) fun x1 =>
      some (Sum.inl (x1, (s.2 + 1)))
    else
      some (Sum.inl (s.1, (s.2 + 1)))
def b_M_goOn_76 (c1 : Int32) (c3 : Int32) (c6 : Int32) (c7 : Int32) (s : Int32 × Int32 × Mm) : Option ((Int32 × Int32 × Mm) ⊕ (Int32 × Int32 × Mm)) :=
  ck (inb c1 (lenI 18)) <|
  if (s.2.2.1 (1, 18) c1.toNatClampNeg) ≤ s.2.1 then
    some (Sum.inr (s.1, s.2.1, s.2.2))
  else
    ck (inb ((((8 : Int32) * c1) + ((4 : Int32) * c6)) + c3) (lenI 16)) <|
    if (((s.2.2.1 (1, 16) ((((8 : Int32) * c1) + ((4 : Int32) * c6)) + c3).toNatClampNeg) >>> (s.2.1 &&& 31)) &&& (1 : Int32)) = (1 : Int32) then
      ck (inb s.2.1 (lenI 22)) <|
      if (((s.2.2.1 (1, 22) s.2.1.toNatClampNeg) >>> (c7 &&& 31)) &&& (1 : Int32)) = 0 then
        ck (inb s.2.1 (lenI 22)) <|
        ck (inb s.2.1 (lenI 22)) <|
        bd (some (uI s.2.2 (1, 22) s.2.1.toNatClampNeg ((s.2.2.1 (1, 22) s.2.1.toNatClampNeg) ||| ((1 : Int32) <<< (c7 &&& 31))))) fun M3 =>
        some (Sum.inl ((1 : Int32), (s.2.1 + 1), M3))
      else
        some (Sum.inl (s.1, (s.2.1 + 1), s.2.2))
    else
      some (Sum.inl (s.1, (s.2.1 + 1), s.2.2))
def b_M_goOn_6 (c1 : Int32) (c2 : Int32) (c3 : Int32) (c4 : Int32) (s : Int32 × Int32 × Mm) : Option ((Int32 × Int32 × Mm) ⊕ (Int32 × Int32 × Mm)) :=
  if (2 : Int32) ≤ s.2.1 then
    some (Sum.inr (s.1, s.2.1, s.2.2))
  else
    bd (lp (b_M_goOn_18 c2 c4 s.2.1 s.2.2) ((0 : Int32), (0 : Int32))) fun r2 =>
    bd (lp (b_M_goOn_76 c1 c3 s.2.1 r2.1) (s.1, (0 : Int32), s.2.2)) fun r4 =>
    some (Sum.inl (r4.1, (s.2.1 + 1), r4.2.2))
def m_M_goOn (a1 : Int32) (a2 : Int32) (a3 : Int32) (a4 : Int32) (M : Mm) : Option (Bool × Mm) :=
  bd (lp (b_M_goOn_6 a1 a2 a3 a4) ((0 : Int32), (0 : Int32), M)) fun r5 =>
  ck (isb r5.1) <|
  some ((tb r5.1), r5.2.2)
set_option maxRecDepth 20000 in
theorem w_M_goOn_18 {l : Launch} {post : Option PV → Mm → Prop} (c1 : Int32) (c2 : Int32) (c3 : Int32) (c4 : Int32) (c5 : Int32) (c6 : Int32) (M : Mm)  {r : Int32 × Int32} (kk : Go l X_M_goOn post 73 [(0, vr 8 0), (1, vi c1), (2, vi c2), (3, vi c3), (4, vi c4), (5, vi c5), (6, vi c6), (7, vi r.1), (8, vi r.2)] [] M) : ∀ (n : Nat) (s : Int32 × Int32), lpN (b_M_goOn_18 c2 c4 c6 M) n s = some r → Go l X_M_goOn post 18 [(0, vr 8 0), (1, vi c1), (2, vi c2), (3, vi c3), (4, vi c4), (5, vi c5), (6, vi c6), (7, vi s.1), (8, vi s.2)] [] M := by
  intro n
  induction n with
  | zero => intro s hc; exact (lpN_0 hc).elim
  | succ n ih =>
    intro s hc
    obtain ⟨q, h, hc⟩ := lpN_inv hc
    unfold b_M_goOn_18 at h
    refine go_iload 11 rfl 8 rfl ?_
    refine go_aload_n 12 rfl 0 rfl rfl ?_
    refine go_getfield 3 _ 13 rfl (by first | decide | exact ok0 (by omega) | exact ok1 (by omega) | exact ok2 (by omega) | exact ok7 (by omega)) rfl fg_M_16 rfl ?_
    refine go_iload_n 14 rfl 2 rfl rfl ?_
    obtain ⟨c, h⟩ := ck_inv h
    refine go_iaload 15 rfl (by first | decide | exact ok0 (by omega) | exact ok1 (by omega) | exact ok2 (by omega) | exact ok7 (by omega)) (inb_vp c) ?_
    refine go_icmp_ge 73 16 rfl (by decide) (fun c => ?_) (fun c => ?_)
    · replace h := ite_t c h
      cases h
      obtain rfl := lpq_r hc
      exact kk
    · replace h := ite_f c h
      refine go_iload 17 rfl 4 rfl ?_
      refine go_iload 18 rfl 8 rfl ?_
      refine go_ishr 19 rfl ?_
      refine go_iconst 1 20 rfl (by decide) ?_
      refine go_iand 21 rfl ?_
      refine go_iconst 1 22 rfl (by decide) ?_
      refine go_icmp_ne 63 23 rfl (by decide) (fun c => ?_) (fun c => ?_)
      · replace h := ite_f c h
        refine go_iload 39 rfl 7 rfl ?_
        refine go_istore 40 rfl (Nat.le_of_ble_eq_true rfl) [(0, _), (1, _), (2, _), (3, _), (4, _), (5, _), (6, _), (7, _), (8, _)] rfl ?_
        refine go_iinc 1 41 rfl 8 rfl (by decide) (Nat.le_of_ble_eq_true rfl) [(0, _), (1, _), (2, _), (3, _), (4, _), (5, _), (6, _), (7, _), (8, _)] rfl ?_
        refine go_goto 18 42 rfl (by decide) ?_
        cases h
        exact ih _ hc
      · replace h := ite_t c h
        refine go_iload 24 rfl 7 rfl ?_
        refine go_aload_n 25 rfl 0 rfl rfl ?_
        refine go_getfield 1 _ 26 rfl (by first | decide | exact ok0 (by omega) | exact ok1 (by omega) | exact ok2 (by omega) | exact ok7 (by omega)) rfl fg_M_7 rfl ?_
        refine go_bipush 8 27 rfl (by decide) ?_
        refine go_iload_n 28 rfl 2 rfl rfl ?_
        refine go_imul 29 rfl ?_
        refine go_iconst 4 30 rfl (by decide) ?_
        refine go_iload 31 rfl 6 rfl ?_
        refine go_imul 32 rfl ?_
        refine go_iadd 33 rfl ?_
        refine go_iload 34 rfl 8 rfl ?_
        refine go_iadd 35 rfl ?_
        obtain ⟨c, h⟩ := ck_inv h
        refine go_iaload 36 rfl (by first | decide | exact ok0 (by omega) | exact ok1 (by omega) | exact ok2 (by omega) | exact ok7 (by omega)) (inb_vp c) ?_
        refine go_ior 37 rfl ?_
        refine go_goto 65 38 rfl (by decide) ?_
        obtain ⟨_, c, h⟩ := bd_inv h
        cases c
        refine go_istore 40 rfl (Nat.le_of_ble_eq_true rfl) [(0, _), (1, _), (2, _), (3, _), (4, _), (5, _), (6, _), (7, _), (8, _)] rfl ?_
        refine go_iinc 1 41 rfl 8 rfl (by decide) (Nat.le_of_ble_eq_true rfl) [(0, _), (1, _), (2, _), (3, _), (4, _), (5, _), (6, _), (7, _), (8, _)] rfl ?_
        refine go_goto 18 42 rfl (by decide) ?_
        cases h
        exact ih _ hc
set_option maxRecDepth 20000 in
theorem w_M_goOn_76 {l : Launch} {post : Option PV → Mm → Prop} (c1 : Int32) (c2 : Int32) (c3 : Int32) (c4 : Int32) (c6 : Int32) (c7 : Int32)  {r : Int32 × Int32 × Mm} (kk : Go l X_M_goOn post 167 [(0, vr 8 0), (1, vi c1), (2, vi c2), (3, vi c3), (4, vi c4), (5, vi r.1), (6, vi c6), (7, vi c7), (8, vi r.2.1)] [] r.2.2) : ∀ (n : Nat) (s : Int32 × Int32 × Mm), lpN (b_M_goOn_76 c1 c3 c6 c7) n s = some r → Go l X_M_goOn post 76 [(0, vr 8 0), (1, vi c1), (2, vi c2), (3, vi c3), (4, vi c4), (5, vi s.1), (6, vi c6), (7, vi c7), (8, vi s.2.1)] [] s.2.2 := by
  intro n
  induction n with
  | zero => intro s hc; exact (lpN_0 hc).elim
  | succ n ih =>
    intro s hc
    obtain ⟨q, h, hc⟩ := lpN_inv hc
    unfold b_M_goOn_76 at h
    refine go_iload 45 rfl 8 rfl ?_
    refine go_aload_n 46 rfl 0 rfl rfl ?_
    refine go_getfield 3 _ 47 rfl (by first | decide | exact ok0 (by omega) | exact ok1 (by omega) | exact ok2 (by omega) | exact ok7 (by omega)) rfl fg_M_16 rfl ?_
    refine go_iload_n 48 rfl 1 rfl rfl ?_
    obtain ⟨c, h⟩ := ck_inv h
    refine go_iaload 49 rfl (by first | decide | exact ok0 (by omega) | exact ok1 (by omega) | exact ok2 (by omega) | exact ok7 (by omega)) (inb_vp c) ?_
    refine go_icmp_ge 167 50 rfl (by decide) (fun c => ?_) (fun c => ?_)
    · replace h := ite_t c h
      cases h
      obtain rfl := lpq_r hc
      exact kk
    · replace h := ite_f c h
      refine go_aload_n 51 rfl 0 rfl rfl ?_
      refine go_getfield 1 _ 52 rfl (by first | decide | exact ok0 (by omega) | exact ok1 (by omega) | exact ok2 (by omega) | exact ok7 (by omega)) rfl fg_M_7 rfl ?_
      refine go_bipush 8 53 rfl (by decide) ?_
      refine go_iload_n 54 rfl 1 rfl rfl ?_
      refine go_imul 55 rfl ?_
      refine go_iconst 4 56 rfl (by decide) ?_
      refine go_iload 57 rfl 6 rfl ?_
      refine go_imul 58 rfl ?_
      refine go_iadd 59 rfl ?_
      refine go_iload_n 60 rfl 3 rfl rfl ?_
      refine go_iadd 61 rfl ?_
      obtain ⟨c, h⟩ := ck_inv h
      refine go_iaload 62 rfl (by first | decide | exact ok0 (by omega) | exact ok1 (by omega) | exact ok2 (by omega) | exact ok7 (by omega)) (inb_vp c) ?_
      refine go_iload 63 rfl 8 rfl ?_
      refine go_ishr 64 rfl ?_
      refine go_iconst 1 65 rfl (by decide) ?_
      refine go_iand 66 rfl ?_
      refine go_iconst 1 67 rfl (by decide) ?_
      refine go_icmp_ne 116 68 rfl (by decide) (fun c => ?_) (fun c => ?_)
      · replace h := ite_f c h
        refine go_iconst 0 71 rfl (by decide) ?_
        refine go_istore 72 rfl (Nat.le_of_ble_eq_true rfl) [(0, _), (1, _), (2, _), (3, _), (4, _), (5, _), (6, _), (7, _), (8, _), (9, _)] rfl ?_
        refine go_iload 73 rfl 9 rfl ?_
        refine go_if_eq 161 74 rfl (by decide) (fun _ => ?_) (fun c => absurd c (by decide))
        refine go_iinc 1 98 rfl 8 rfl (by decide) (Nat.le_of_ble_eq_true rfl) [(0, _), (1, _), (2, _), (3, _), (4, _), (5, _), (6, _), (7, _), (8, _), (9, _)] rfl ?_
        refine go_goto 76 99 rfl (by decide) ?_
        cases h
        refine go_sub [0, 1, 2, 3, 4, 5, 6, 7, 8] rfl ?_
        exact ih _ hc
      · replace h := ite_t c h
        refine go_iconst 1 69 rfl (by decide) ?_
        refine go_goto 117 70 rfl (by decide) ?_
        refine go_istore 72 rfl (Nat.le_of_ble_eq_true rfl) [(0, _), (1, _), (2, _), (3, _), (4, _), (5, _), (6, _), (7, _), (8, _), (9, _)] rfl ?_
        refine go_iload 73 rfl 9 rfl ?_
        refine go_if_eq 161 74 rfl (by decide) (fun c => absurd c (by decide)) (fun _ => ?_)
        refine go_aload_n 75 rfl 0 rfl rfl ?_
        refine go_getfield 11 _ 76 rfl (by first | decide | exact ok0 (by omega) | exact ok1 (by omega) | exact ok2 (by omega) | exact ok7 (by omega)) rfl fg_M_38 rfl ?_
        refine go_iload 77 rfl 8 rfl ?_
        obtain ⟨c, h⟩ := ck_inv h
        refine go_iaload 78 rfl (by first | decide | exact ok0 (by omega) | exact ok1 (by omega) | exact ok2 (by omega) | exact ok7 (by omega)) (inb_vp c) ?_
        refine go_iload 79 rfl 7 rfl ?_
        refine go_ishr 80 rfl ?_
        refine go_iconst 1 81 rfl (by decide) ?_
        refine go_iand 82 rfl ?_
        refine go_if_ne 161 83 rfl (by decide) (fun c => ?_) (fun c => ?_)
        · replace h := ite_f c h
          refine go_iinc 1 98 rfl 8 rfl (by decide) (Nat.le_of_ble_eq_true rfl) [(0, _), (1, _), (2, _), (3, _), (4, _), (5, _), (6, _), (7, _), (8, _), (9, _)] rfl ?_
          refine go_goto 76 99 rfl (by decide) ?_
          cases h
          refine go_sub [0, 1, 2, 3, 4, 5, 6, 7, 8] rfl ?_
          exact ih _ hc
        · replace h := ite_t c h
          refine go_aload_n 84 rfl 0 rfl rfl ?_
          refine go_getfield 11 _ 85 rfl (by first | decide | exact ok0 (by omega) | exact ok1 (by omega) | exact ok2 (by omega) | exact ok7 (by omega)) rfl fg_M_38 rfl ?_
          refine go_iload 86 rfl 8 rfl ?_
          refine go_aload_n 87 rfl 0 rfl rfl ?_
          refine go_getfield 11 _ 88 rfl (by first | decide | exact ok0 (by omega) | exact ok1 (by omega) | exact ok2 (by omega) | exact ok7 (by omega)) rfl fg_M_38 rfl ?_
          refine go_iload 89 rfl 8 rfl ?_
          obtain ⟨c, h⟩ := ck_inv h
          refine go_iaload 90 rfl (by first | decide | exact ok0 (by omega) | exact ok1 (by omega) | exact ok2 (by omega) | exact ok7 (by omega)) (inb_vp c) ?_
          refine go_iconst 1 91 rfl (by decide) ?_
          refine go_iload 92 rfl 7 rfl ?_
          refine go_ishl 93 rfl ?_
          refine go_ior 94 rfl ?_
          obtain ⟨c, h⟩ := ck_inv h
          refine go_iastore 95 rfl (by first | decide | exact ok0 (by omega) | exact ok1 (by omega) | exact ok2 (by omega) | exact ok7 (by omega)) (inb_vp c) ?_
          obtain ⟨_, c, h⟩ := bd_inv h
          cases c
          refine go_iconst 1 96 rfl (by decide) ?_
          refine go_istore 97 rfl (Nat.le_of_ble_eq_true rfl) [(0, _), (1, _), (2, _), (3, _), (4, _), (5, _), (6, _), (7, _), (8, _), (9, _)] rfl ?_
          refine go_iinc 1 98 rfl 8 rfl (by decide) (Nat.le_of_ble_eq_true rfl) [(0, _), (1, _), (2, _), (3, _), (4, _), (5, _), (6, _), (7, _), (8, _), (9, _)] rfl ?_
          refine go_goto 76 99 rfl (by decide) ?_
          cases h
          refine go_sub [0, 1, 2, 3, 4, 5, 6, 7, 8] rfl ?_
          exact ih _ hc
set_option maxRecDepth 20000 in
theorem w_M_goOn_6 {l : Launch} {post : Option PV → Mm → Prop} (c1 : Int32) (c2 : Int32) (c3 : Int32) (c4 : Int32)  {r : Int32 × Int32 × Mm} (kk : Go l X_M_goOn post 173 [(0, vr 8 0), (1, vi c1), (2, vi c2), (3, vi c3), (4, vi c4), (5, vi r.1), (6, vi r.2.1)] [] r.2.2) : ∀ (n : Nat) (s : Int32 × Int32 × Mm), lpN (b_M_goOn_6 c1 c2 c3 c4) n s = some r → Go l X_M_goOn post 6 [(0, vr 8 0), (1, vi c1), (2, vi c2), (3, vi c3), (4, vi c4), (5, vi s.1), (6, vi s.2.1)] [] s.2.2 := by
  intro n
  induction n with
  | zero => intro s hc; exact (lpN_0 hc).elim
  | succ n ih =>
    intro s hc
    obtain ⟨q, h, hc⟩ := lpN_inv hc
    unfold b_M_goOn_6 at h
    refine go_iload 4 rfl 6 rfl ?_
    refine go_iconst 2 5 rfl (by decide) ?_
    refine go_icmp_ge 173 6 rfl (by decide) (fun c => ?_) (fun c => ?_)
    · replace h := ite_t c h
      cases h
      obtain rfl := lpq_r hc
      exact kk
    · replace h := ite_f c h
      refine go_iconst 0 7 rfl (by decide) ?_
      refine go_istore 8 rfl (Nat.le_of_ble_eq_true rfl) [(0, _), (1, _), (2, _), (3, _), (4, _), (5, _), (6, _), (7, _)] rfl ?_
      refine go_iconst 0 9 rfl (by decide) ?_
      refine go_istore 10 rfl (Nat.le_of_ble_eq_true rfl) [(0, _), (1, _), (2, _), (3, _), (4, _), (5, _), (6, _), (7, _), (8, _)] rfl ?_
      obtain ⟨r2, c, h⟩ := bd_inv h
      refine w_M_goOn_18 _ _ _ _ _ _ _ ?_ _ _ c
      refine go_iconst 0 43 rfl (by decide) ?_
      refine go_istore 44 rfl (Nat.le_of_ble_eq_true rfl) [(0, _), (1, _), (2, _), (3, _), (4, _), (5, _), (6, _), (7, _), (8, _)] rfl ?_
      obtain ⟨r4, c, h⟩ := bd_inv h
      refine w_M_goOn_76 _ _ _ _ _ _ ?_ _ _ c
      refine go_iinc 1 100 rfl 6 rfl (by decide) (Nat.le_of_ble_eq_true rfl) [(0, _), (1, _), (2, _), (3, _), (4, _), (5, _), (6, _), (7, _), (8, _)] rfl ?_
      refine go_goto 6 101 rfl (by decide) ?_
      cases h
      refine go_sub [0, 1, 2, 3, 4, 5, 6] rfl ?_
      exact ih _ hc
set_option maxRecDepth 20000 in
theorem e_M_goOn {l : Launch} {a1 : Int32} {a2 : Int32} {a3 : Int32} {a4 : Int32} {M : Mm} {r : Bool × Mm}  (h : m_M_goOn a1 a2 a3 a4 M = some r) : Ev l X_M_goOn [vr 8 0, vi a1, vi a2, vi a3, vi a4] M (fun v M2 => v = (some (vi (bI r.1))) ∧ M2 = r.2) := by
  refine Ev.of mk_M_goOn [(0, vr 8 0), (1, vi a1), (2, vi a2), (3, vi a3), (4, vi a4)] (fun _ => rfl) (fun _ => (Nat.le_of_ble_eq_true rfl)) ?_
  unfold m_M_goOn at h
  refine go_iconst 0 0 rfl (by decide) ?_
  refine go_istore 1 rfl (Nat.le_of_ble_eq_true rfl) [(0, _), (1, _), (2, _), (3, _), (4, _), (5, _)] rfl ?_
  refine go_iconst 0 2 rfl (by decide) ?_
  refine go_istore 3 rfl (Nat.le_of_ble_eq_true rfl) [(0, _), (1, _), (2, _), (3, _), (4, _), (5, _), (6, _)] rfl ?_
  obtain ⟨r5, c, h⟩ := bd_inv h
  refine w_M_goOn_6 _ _ _ _ ?_ _ _ c
  refine go_iload 102 rfl 5 rfl ?_
  obtain ⟨c, h⟩ := ck_inv h
  cases h
  exact go_ireturn 103 rfl rfl (isb_n c) ⟨congrArg (fun q => some (vi q)) (isb_e c).symm, rfl⟩
def X_M_begin : MX := (⟨"OmegaDeskModel", "begin", "(II)V"⟩, prog_8_method_25_code, 6, none, { frames := 1, cells := 0, slots := 0, locals := 29 },
  [(0, .iconst 0, 1), (1, .istore_n 3, 2), (2, .iload_n 3, 3), (3, .iconst 4, 4), (4, .if_icmp .ge 16, 7), (7, .aload_n 0, 8), (8, .getfield 38, 11), (11, .iload_n 3, 12), (12, .iconst 0, 13), (13, .iastore, 14), (14, .iinc 3 1, 17), (17, .goto (-15), 20), (20, .aload_n 0, 21), (21, .getfield 38, 24), (24, .iconst 0, 25), (25, .iconst 1, 26), (26, .aload_n 0, 27), (27, .getfield 16, 30), (30, .iload_n 2, 31), (31, .iaload, 32), (32, .ifCond .le 7, 35), (35, .iconst 1, 36), (36, .goto 4, 39), (39, .iconst 0, 40), (40, .ishl, 41), (41, .iastore, 42), (42, .iconst 1, 43), (43, .istore_n 3, 44), (44, .iload_n 3, 45), (45, .ifCond .eq 75, 48), (48, .iconst 0, 49), (49, .istore_n 3, 50), (50, .iconst 0, 51), (51, .istore 4, 53), (53, .iload 4, 55), (55, .aload_n 0, 56), (56, .getfield 16, 59), (59, .iload_n 1, 60), (60, .iaload, 61), (61, .if_icmp .ge 56, 64), (64, .iconst 0, 65), (65, .istore 5, 67), (67, .iload 5, 69), (69, .bipush 8, 71), (71, .if_icmp .ge 40, 74), (74, .aload_n 0, 75), (75, .getfield 38, 78), (78, .iload 4, 80), (80, .iaload, 81), (81, .iload 5, 83), (83, .ishr, 84), (84, .iconst 1, 85), (85, .iand, 86), (86, .iconst 1, 87), (87, .if_icmp .ne 18, 90), (90, .aload_n 0, 91), (91, .iload_n 1, 92), (92, .iload_n 2, 93), (93, .iload 4, 95), (95, .iload 5, 97), (97, .invokevirtual 93, 100), (100, .ifCond .eq 5, 103), (103, .iconst 1, 104), (104, .istore_n 3, 105), (105, .iinc 5 1, 108), (108, .goto (-41), 111), (111, .iinc 4 1, 114), (114, .goto (-61), 117), (117, .goto (-73), 120), (120, .return_, 121)])
set_option maxRecDepth 20000 in
theorem mk_M_begin : Mk X_M_begin := ⟨by unfold TBk; decide +kernel, by decide +kernel, wb_652, ⟨by decide, by decide⟩, rfl, rfl, wb_6⟩
theorem cv_M_93 : CV "OmegaDeskModel" 93 X_M_goOn 4 8 := ⟨Or.inl wb_653, ⟨wb_655, ws_M_goOn⟩, by decide +kernel, F_M, 12, rfl⟩
def b_M_begin_2 (s : Int32 × Mm) : Option ((Int32 × Mm) ⊕ (Int32 × Mm)) :=
  if (4 : Int32) ≤ s.1 then
    some (Sum.inr (s.1, s.2))
  else
    ck (inb s.1 (lenI 22)) <|
    bd (some (uI s.2 (1, 22) s.1.toNatClampNeg (0 : Int32))) fun M1 =>
    some (Sum.inl ((s.1 + 1), M1))
def b_M_begin_67 (c1 : Int32) (c2 : Int32) (c4 : Int32) (s : Int32 × Int32 × Mm) : Option ((Int32 × Int32 × Mm) ⊕ (Int32 × Int32 × Mm)) :=
  if (8 : Int32) ≤ s.2.1 then
    some (Sum.inr (s.1, s.2.1, s.2.2))
  else
    ck (inb c4 (lenI 22)) <|
    if (((s.2.2.1 (1, 22) c4.toNatClampNeg) >>> (s.2.1 &&& 31)) &&& (1 : Int32)) = (1 : Int32) then
      bd (m_M_goOn c1 c2 c4 s.2.1 s.2.2) fun r4 =>
      if (bI r4.1) = 0 then
        some (Sum.inl (s.1, (s.2.1 + 1), r4.2))
      else
        some (Sum.inl ((1 : Int32), (s.2.1 + 1), r4.2))
    else
      some (Sum.inl (s.1, (s.2.1 + 1), s.2.2))
def b_M_begin_53 (c1 : Int32) (c2 : Int32) (s : Int32 × Int32 × Mm) : Option ((Int32 × Int32 × Mm) ⊕ (Int32 × Int32 × Mm)) :=
  ck (inb c1 (lenI 18)) <|
  if (s.2.2.1 (1, 18) c1.toNatClampNeg) ≤ s.2.1 then
    some (Sum.inr (s.1, s.2.1, s.2.2))
  else
    bd (lp (b_M_begin_67 c1 c2 s.2.1) (s.1, (0 : Int32), s.2.2)) fun r5 =>
    some (Sum.inl (r5.1, (s.2.1 + 1), r5.2.2))
def b_M_begin_44 (c1 : Int32) (c2 : Int32) (s : Int32 × Mm) : Option ((Int32 × Mm) ⊕ (Int32 × Mm)) :=
  if s.1 = 0 then
    some (Sum.inr (s.1, s.2))
  else
    bd (lp (b_M_begin_53 c1 c2) ((0 : Int32), (0 : Int32), s.2)) fun r6 =>
    some (Sum.inl (r6.1, r6.2.2))
def m_M_begin (a1 : Int32) (a2 : Int32) (M : Mm) : Option (Mm) :=
  bd (lp (b_M_begin_2) ((0 : Int32), M)) fun r2 =>
  ck (inb a2 (lenI 18)) <|
  if (r2.2.1 (1, 18) a2.toNatClampNeg) ≤ 0 then
    ck (inb (0 : Int32) (lenI 22)) <|
    bd (some (uI r2.2 (1, 22) (0 : Int32).toNatClampNeg ((1 : Int32) <<< ((0 : Int32) &&& 31)))) fun M3 =>
    bd (lp (b_M_begin_44 a1 a2) ((1 : Int32), M3)) fun r7 =>
    some r7.2
  else
    ck (inb (0 : Int32) (lenI 22)) <|
    bd (some (uI r2.2 (1, 22) (0 : Int32).toNatClampNeg ((1 : Int32) <<< ((1 : Int32) &&& 31)))) fun M8 =>
    bd (lp (b_M_begin_44 a1 a2) ((1 : Int32), M8)) fun r9 =>
    some r9.2
set_option maxRecDepth 20000 in
theorem w_M_begin_2 {l : Launch} {post : Option PV → Mm → Prop} (c1 : Int32) (c2 : Int32)  {r : Int32 × Mm} (kk : Go l X_M_begin post 20 [(0, vr 8 0), (1, vi c1), (2, vi c2), (3, vi r.1)] [] r.2) : ∀ (n : Nat) (s : Int32 × Mm), lpN (b_M_begin_2) n s = some r → Go l X_M_begin post 2 [(0, vr 8 0), (1, vi c1), (2, vi c2), (3, vi s.1)] [] s.2 := by
  intro n
  induction n with
  | zero => intro s hc; exact (lpN_0 hc).elim
  | succ n ih =>
    intro s hc
    obtain ⟨q, h, hc⟩ := lpN_inv hc
    unfold b_M_begin_2 at h
    refine go_iload_n 2 rfl 3 rfl rfl ?_
    refine go_iconst 4 3 rfl (by decide) ?_
    refine go_icmp_ge 20 4 rfl (by decide) (fun c => ?_) (fun c => ?_)
    · replace h := ite_t c h
      cases h
      obtain rfl := lpq_r hc
      exact kk
    · replace h := ite_f c h
      refine go_aload_n 5 rfl 0 rfl rfl ?_
      refine go_getfield 11 _ 6 rfl (by first | decide | exact ok0 (by omega) | exact ok1 (by omega) | exact ok2 (by omega) | exact ok7 (by omega)) rfl fg_M_38 rfl ?_
      refine go_iload_n 7 rfl 3 rfl rfl ?_
      refine go_iconst 0 8 rfl (by decide) ?_
      obtain ⟨c, h⟩ := ck_inv h
      refine go_iastore 9 rfl (by first | decide | exact ok0 (by omega) | exact ok1 (by omega) | exact ok2 (by omega) | exact ok7 (by omega)) (inb_vp c) ?_
      obtain ⟨_, c, h⟩ := bd_inv h
      cases c
      refine go_iinc 1 10 rfl 3 rfl (by decide) (Nat.le_of_ble_eq_true rfl) [(0, _), (1, _), (2, _), (3, _)] rfl ?_
      refine go_goto 2 11 rfl (by decide) ?_
      cases h
      exact ih _ hc
set_option maxRecDepth 20000 in
theorem w_M_begin_67 {l : Launch} {post : Option PV → Mm → Prop} (c1 : Int32) (c2 : Int32) (c4 : Int32)  {r : Int32 × Int32 × Mm} (kk : Go l X_M_begin post 111 [(0, vr 8 0), (1, vi c1), (2, vi c2), (3, vi r.1), (4, vi c4), (5, vi r.2.1)] [] r.2.2) : ∀ (n : Nat) (s : Int32 × Int32 × Mm), lpN (b_M_begin_67 c1 c2 c4) n s = some r → Go l X_M_begin post 67 [(0, vr 8 0), (1, vi c1), (2, vi c2), (3, vi s.1), (4, vi c4), (5, vi s.2.1)] [] s.2.2 := by
  intro n
  induction n with
  | zero => intro s hc; exact (lpN_0 hc).elim
  | succ n ih =>
    intro s hc
    obtain ⟨q, h, hc⟩ := lpN_inv hc
    unfold b_M_begin_67 at h
    refine go_iload 42 rfl 5 rfl ?_
    refine go_bipush 8 43 rfl (by decide) ?_
    refine go_icmp_ge 111 44 rfl (by decide) (fun c => ?_) (fun c => ?_)
    · replace h := ite_t c h
      cases h
      obtain rfl := lpq_r hc
      exact kk
    · replace h := ite_f c h
      refine go_aload_n 45 rfl 0 rfl rfl ?_
      refine go_getfield 11 _ 46 rfl (by first | decide | exact ok0 (by omega) | exact ok1 (by omega) | exact ok2 (by omega) | exact ok7 (by omega)) rfl fg_M_38 rfl ?_
      refine go_iload 47 rfl 4 rfl ?_
      obtain ⟨c, h⟩ := ck_inv h
      refine go_iaload 48 rfl (by first | decide | exact ok0 (by omega) | exact ok1 (by omega) | exact ok2 (by omega) | exact ok7 (by omega)) (inb_vp c) ?_
      refine go_iload 49 rfl 5 rfl ?_
      refine go_ishr 50 rfl ?_
      refine go_iconst 1 51 rfl (by decide) ?_
      refine go_iand 52 rfl ?_
      refine go_iconst 1 53 rfl (by decide) ?_
      refine go_icmp_ne 105 54 rfl (by decide) (fun c => ?_) (fun c => ?_)
      · replace h := ite_f c h
        refine go_iinc 1 64 rfl 5 rfl (by decide) (Nat.le_of_ble_eq_true rfl) [(0, _), (1, _), (2, _), (3, _), (4, _), (5, _)] rfl ?_
        refine go_goto 67 65 rfl (by decide) ?_
        cases h
        exact ih _ hc
      · replace h := ite_t c h
        refine go_aload_n 55 rfl 0 rfl rfl ?_
        refine go_iload_n 56 rfl 1 rfl rfl ?_
        refine go_iload_n 57 rfl 2 rfl rfl ?_
        refine go_iload 58 rfl 4 rfl ?_
        refine go_iload 59 rfl 5 rfl ?_
        obtain ⟨r4, c, h⟩ := bd_inv h
        refine go_callV1 _ 60 rfl (e_M_goOn c) mk_M_goOn (by first | decide | exact ok0 (by omega) | exact ok1 (by omega) | exact ok2 (by omega) | exact ok7 (by omega)) rfl cv_M_93 rfl ⟨(Nat.le_of_ble_eq_true rfl), (Nat.le_of_ble_eq_true rfl)⟩ (Nat.le_of_ble_eq_true rfl) rfl ?_
        refine go_if_eq 105 61 rfl (by decide) (fun c => ?_) (fun c => ?_)
        · replace h := ite_t c h
          refine go_iinc 1 64 rfl 5 rfl (by decide) (Nat.le_of_ble_eq_true rfl) [(0, _), (1, _), (2, _), (3, _), (4, _), (5, _)] rfl ?_
          refine go_goto 67 65 rfl (by decide) ?_
          cases h
          exact ih _ hc
        · replace h := ite_f c h
          refine go_iconst 1 62 rfl (by decide) ?_
          refine go_istore_n 63 rfl rfl (Nat.le_of_ble_eq_true rfl) [(0, _), (1, _), (2, _), (3, _), (4, _), (5, _)] rfl ?_
          refine go_iinc 1 64 rfl 5 rfl (by decide) (Nat.le_of_ble_eq_true rfl) [(0, _), (1, _), (2, _), (3, _), (4, _), (5, _)] rfl ?_
          refine go_goto 67 65 rfl (by decide) ?_
          cases h
          exact ih _ hc
set_option maxRecDepth 20000 in
theorem w_M_begin_53 {l : Launch} {post : Option PV → Mm → Prop} (c1 : Int32) (c2 : Int32)  {r : Int32 × Int32 × Mm} (kk : Go l X_M_begin post 117 [(0, vr 8 0), (1, vi c1), (2, vi c2), (3, vi r.1), (4, vi r.2.1)] [] r.2.2) : ∀ (n : Nat) (s : Int32 × Int32 × Mm), lpN (b_M_begin_53 c1 c2) n s = some r → Go l X_M_begin post 53 [(0, vr 8 0), (1, vi c1), (2, vi c2), (3, vi s.1), (4, vi s.2.1)] [] s.2.2 := by
  intro n
  induction n with
  | zero => intro s hc; exact (lpN_0 hc).elim
  | succ n ih =>
    intro s hc
    obtain ⟨q, h, hc⟩ := lpN_inv hc
    unfold b_M_begin_53 at h
    refine go_iload 34 rfl 4 rfl ?_
    refine go_aload_n 35 rfl 0 rfl rfl ?_
    refine go_getfield 3 _ 36 rfl (by first | decide | exact ok0 (by omega) | exact ok1 (by omega) | exact ok2 (by omega) | exact ok7 (by omega)) rfl fg_M_16 rfl ?_
    refine go_iload_n 37 rfl 1 rfl rfl ?_
    obtain ⟨c, h⟩ := ck_inv h
    refine go_iaload 38 rfl (by first | decide | exact ok0 (by omega) | exact ok1 (by omega) | exact ok2 (by omega) | exact ok7 (by omega)) (inb_vp c) ?_
    refine go_icmp_ge 117 39 rfl (by decide) (fun c => ?_) (fun c => ?_)
    · replace h := ite_t c h
      cases h
      obtain rfl := lpq_r hc
      exact kk
    · replace h := ite_f c h
      refine go_iconst 0 40 rfl (by decide) ?_
      refine go_istore 41 rfl (Nat.le_of_ble_eq_true rfl) [(0, _), (1, _), (2, _), (3, _), (4, _), (5, _)] rfl ?_
      obtain ⟨r5, c, h⟩ := bd_inv h
      refine w_M_begin_67 _ _ _ ?_ _ _ c
      refine go_iinc 1 66 rfl 4 rfl (by decide) (Nat.le_of_ble_eq_true rfl) [(0, _), (1, _), (2, _), (3, _), (4, _), (5, _)] rfl ?_
      refine go_goto 53 67 rfl (by decide) ?_
      cases h
      refine go_sub [0, 1, 2, 3, 4] rfl ?_
      exact ih _ hc
set_option maxRecDepth 20000 in
theorem w_M_begin_44 {l : Launch} {post : Option PV → Mm → Prop} (c1 : Int32) (c2 : Int32)  {r : Int32 × Mm} (kk : Go l X_M_begin post 120 [(0, vr 8 0), (1, vi c1), (2, vi c2), (3, vi r.1)] [] r.2) : ∀ (n : Nat) (s : Int32 × Mm), lpN (b_M_begin_44 c1 c2) n s = some r → Go l X_M_begin post 44 [(0, vr 8 0), (1, vi c1), (2, vi c2), (3, vi s.1)] [] s.2 := by
  intro n
  induction n with
  | zero => intro s hc; exact (lpN_0 hc).elim
  | succ n ih =>
    intro s hc
    obtain ⟨q, h, hc⟩ := lpN_inv hc
    unfold b_M_begin_44 at h
    refine go_iload_n 28 rfl 3 rfl rfl ?_
    refine go_if_eq 120 29 rfl (by decide) (fun c => ?_) (fun c => ?_)
    · replace h := ite_t c h
      cases h
      obtain rfl := lpq_r hc
      exact kk
    · replace h := ite_f c h
      refine go_iconst 0 30 rfl (by decide) ?_
      refine go_istore_n 31 rfl rfl (Nat.le_of_ble_eq_true rfl) [(0, _), (1, _), (2, _), (3, _)] rfl ?_
      refine go_iconst 0 32 rfl (by decide) ?_
      refine go_istore 33 rfl (Nat.le_of_ble_eq_true rfl) [(0, _), (1, _), (2, _), (3, _), (4, _)] rfl ?_
      obtain ⟨r6, c, h⟩ := bd_inv h
      refine w_M_begin_53 _ _ ?_ _ _ c
      refine go_goto 44 68 rfl (by decide) ?_
      cases h
      refine go_sub [0, 1, 2, 3] rfl ?_
      exact ih _ hc
set_option maxRecDepth 20000 in
theorem e_M_begin {l : Launch} {a1 : Int32} {a2 : Int32} {M : Mm} {r : Mm}  (h : m_M_begin a1 a2 M = some r) : Ev l X_M_begin [vr 8 0, vi a1, vi a2] M (fun v M2 => v = none ∧ M2 = r) := by
  refine Ev.of mk_M_begin [(0, vr 8 0), (1, vi a1), (2, vi a2)] (fun _ => rfl) (fun _ => (Nat.le_of_ble_eq_true rfl)) ?_
  unfold m_M_begin at h
  refine go_iconst 0 0 rfl (by decide) ?_
  refine go_istore_n 1 rfl rfl (Nat.le_of_ble_eq_true rfl) [(0, _), (1, _), (2, _), (3, _)] rfl ?_
  obtain ⟨r2, c, h⟩ := bd_inv h
  refine w_M_begin_2 _ _ ?_ _ _ c
  refine go_aload_n 12 rfl 0 rfl rfl ?_
  refine go_getfield 11 _ 13 rfl (by first | decide | exact ok0 (by omega) | exact ok1 (by omega) | exact ok2 (by omega) | exact ok7 (by omega)) rfl fg_M_38 rfl ?_
  refine go_iconst 0 14 rfl (by decide) ?_
  refine go_iconst 1 15 rfl (by decide) ?_
  refine go_aload_n 16 rfl 0 rfl rfl ?_
  refine go_getfield 3 _ 17 rfl (by first | decide | exact ok0 (by omega) | exact ok1 (by omega) | exact ok2 (by omega) | exact ok7 (by omega)) rfl fg_M_16 rfl ?_
  refine go_iload_n 18 rfl 2 rfl rfl ?_
  obtain ⟨c, h⟩ := ck_inv h
  refine go_iaload 19 rfl (by first | decide | exact ok0 (by omega) | exact ok1 (by omega) | exact ok2 (by omega) | exact ok7 (by omega)) (inb_vp c) ?_
  refine go_if_le 39 20 rfl (by decide) (fun c => ?_) (fun c => ?_)
  · replace h := ite_t c h
    refine go_iconst 0 23 rfl (by decide) ?_
    refine go_ishl 24 rfl ?_
    obtain ⟨c, h⟩ := ck_inv h
    refine go_iastore 25 rfl (by first | decide | exact ok0 (by omega) | exact ok1 (by omega) | exact ok2 (by omega) | exact ok7 (by omega)) (inb_vp c) ?_
    obtain ⟨_, c, h⟩ := bd_inv h
    cases c
    refine go_iconst 1 26 rfl (by decide) ?_
    refine go_istore_n 27 rfl rfl (Nat.le_of_ble_eq_true rfl) [(0, _), (1, _), (2, _), (3, _)] rfl ?_
    obtain ⟨r7, c, h⟩ := bd_inv h
    refine w_M_begin_44 _ _ ?_ _ _ c
    cases h
    exact go_return 69 rfl rfl ⟨rfl, rfl⟩
  · replace h := ite_f c h
    refine go_iconst 1 21 rfl (by decide) ?_
    refine go_goto 40 22 rfl (by decide) ?_
    refine go_ishl 24 rfl ?_
    obtain ⟨c, h⟩ := ck_inv h
    refine go_iastore 25 rfl (by first | decide | exact ok0 (by omega) | exact ok1 (by omega) | exact ok2 (by omega) | exact ok7 (by omega)) (inb_vp c) ?_
    obtain ⟨_, c, h⟩ := bd_inv h
    cases c
    refine go_iconst 1 26 rfl (by decide) ?_
    refine go_istore_n 27 rfl rfl (Nat.le_of_ble_eq_true rfl) [(0, _), (1, _), (2, _), (3, _)] rfl ?_
    obtain ⟨r9, c, h⟩ := bd_inv h
    refine w_M_begin_44 _ _ ?_ _ _ c
    cases h
    exact go_return 69 rfl rfl ⟨rfl, rfl⟩
def X_M_spread : MX := (⟨"OmegaDeskModel", "spread", "(I)V"⟩, prog_8_method_27_code, 4, none, { frames := 0, cells := 0, slots := 0, locals := 0 },
  [(0, .iload_n 1, 1), (1, .istore_n 2, 2), (2, .iconst 0, 3), (3, .istore_n 3, 4), (4, .iload_n 3, 5), (5, .bipush 9, 7), (7, .if_icmp .ge 22, 10), (10, .aload_n 0, 11), (11, .getfield 32, 14), (14, .iload_n 3, 15), (15, .iload_n 2, 16), (16, .iconst 3, 17), (17, .irem, 18), (18, .iastore, 19), (19, .iload_n 2, 20), (20, .iconst 3, 21), (21, .idiv, 22), (22, .istore_n 2, 23), (23, .iinc 3 1, 26), (26, .goto (-22), 29), (29, .return_, 30)])
set_option maxRecDepth 20000 in
theorem mk_M_spread : Mk X_M_spread := ⟨by unfold TBk; decide +kernel, by decide +kernel, wb_674, ⟨by decide, by decide⟩, rfl, rfl, wb_6⟩
theorem fg_M_32 : FG "OmegaDeskModel" 32 8 9 := ⟨R_M, F_M, 12, rfl, by decide, uw_M, Or.inl wb_534⟩
def b_M_spread_4 (s : Int32 × Int32 × Mm) : Option ((Int32 × Int32 × Mm) ⊕ (Int32 × Int32 × Mm)) :=
  if (9 : Int32) ≤ s.2.1 then
    some (Sum.inr (s.1, s.2.1, s.2.2))
  else
    ck (inb s.2.1 (lenI 20)) <|
    bd (some (uI s.2.2 (1, 20) s.2.1.toNatClampNeg (s.1 - s.1 / (3 : Int32) * (3 : Int32)))) fun M1 =>
    some (Sum.inl ((s.1 / (3 : Int32)), (s.2.1 + 1), M1))
def m_M_spread (a1 : Int32) (M : Mm) : Option (Mm) :=
  bd (lp (b_M_spread_4) (a1, (0 : Int32), M)) fun r2 =>
  some r2.2.2
set_option maxRecDepth 20000 in
theorem w_M_spread_4 {l : Launch} {post : Option PV → Mm → Prop} (c1 : Int32)  {r : Int32 × Int32 × Mm} (kk : Go l X_M_spread post 29 [(0, vr 8 0), (1, vi c1), (2, vi r.1), (3, vi r.2.1)] [] r.2.2) : ∀ (n : Nat) (s : Int32 × Int32 × Mm), lpN (b_M_spread_4) n s = some r → Go l X_M_spread post 4 [(0, vr 8 0), (1, vi c1), (2, vi s.1), (3, vi s.2.1)] [] s.2.2 := by
  intro n
  induction n with
  | zero => intro s hc; exact (lpN_0 hc).elim
  | succ n ih =>
    intro s hc
    obtain ⟨q, h, hc⟩ := lpN_inv hc
    unfold b_M_spread_4 at h
    refine go_iload_n 4 rfl 3 rfl rfl ?_
    refine go_bipush 9 5 rfl (by decide) ?_
    refine go_icmp_ge 29 6 rfl (by decide) (fun c => ?_) (fun c => ?_)
    · replace h := ite_t c h
      cases h
      obtain rfl := lpq_r hc
      exact kk
    · replace h := ite_f c h
      refine go_aload_n 7 rfl 0 rfl rfl ?_
      refine go_getfield 9 _ 8 rfl (by first | decide | exact ok0 (by omega) | exact ok1 (by omega) | exact ok2 (by omega) | exact ok7 (by omega)) rfl fg_M_32 rfl ?_
      refine go_iload_n 9 rfl 3 rfl rfl ?_
      refine go_iload_n 10 rfl 2 rfl rfl ?_
      refine go_iconst 3 11 rfl (by decide) ?_
      refine go_irem 12 rfl (by decide) ?_
      obtain ⟨c, h⟩ := ck_inv h
      refine go_iastore 13 rfl (by first | decide | exact ok0 (by omega) | exact ok1 (by omega) | exact ok2 (by omega) | exact ok7 (by omega)) (inb_vp c) ?_
      obtain ⟨_, c, h⟩ := bd_inv h
      cases c
      refine go_iload_n 14 rfl 2 rfl rfl ?_
      refine go_iconst 3 15 rfl (by decide) ?_
      refine go_idiv 16 rfl (by decide) ?_
      refine go_istore_n 17 rfl rfl (Nat.le_of_ble_eq_true rfl) [(0, _), (1, _), (2, _), (3, _)] rfl ?_
      refine go_iinc 1 18 rfl 3 rfl (by decide) (Nat.le_of_ble_eq_true rfl) [(0, _), (1, _), (2, _), (3, _)] rfl ?_
      refine go_goto 4 19 rfl (by decide) ?_
      cases h
      exact ih _ hc
set_option maxRecDepth 20000 in
theorem e_M_spread {l : Launch} {a1 : Int32} {M : Mm} {r : Mm}  (h : m_M_spread a1 M = some r) : Ev l X_M_spread [vr 8 0, vi a1] M (fun v M2 => v = none ∧ M2 = r) := by
  refine Ev.of mk_M_spread [(0, vr 8 0), (1, vi a1)] (fun _ => rfl) (fun _ => (Nat.le_of_ble_eq_true rfl)) ?_
  unfold m_M_spread at h
  refine go_iload_n 0 rfl 1 rfl rfl ?_
  refine go_istore_n 1 rfl rfl (Nat.le_of_ble_eq_true rfl) [(0, _), (1, _), (2, _)] rfl ?_
  refine go_iconst 0 2 rfl (by decide) ?_
  refine go_istore_n 3 rfl rfl (Nat.le_of_ble_eq_true rfl) [(0, _), (1, _), (2, _), (3, _)] rfl ?_
  obtain ⟨r2, c, h⟩ := bd_inv h
  refine w_M_spread_4 _ ?_ _ _ c
  cases h
  exact go_return 20 rfl rfl ⟨rfl, rfl⟩
def X_M_longer : MX := (⟨"OmegaDeskModel", "longer", "(II)I"⟩, prog_8_method_28_code, 9, some .int, { frames := 0, cells := 0, slots := 0, locals := 0 },
  [(0, .iconst 0, 1), (1, .istore_n 3, 2), (2, .iload_n 3, 3), (3, .bipush 9, 5), (5, .if_icmp .ge 16, 8), (8, .aload_n 0, 9), (9, .getfield 35, 12), (12, .iload_n 3, 13), (13, .iconst 0, 14), (14, .iastore, 15), (15, .iinc 3 1, 18), (18, .goto (-16), 21), (21, .iconst 0, 22), (22, .istore_n 3, 23), (23, .iload_n 3, 24), (24, .aload_n 0, 25), (25, .getfield 16, 28), (28, .iload_n 1, 29), (29, .iaload, 30), (30, .if_icmp .ge 175, 33), (33, .iconst 0, 34), (34, .istore 4, 36), (36, .iload 4, 38), (38, .aload_n 0, 39), (39, .getfield 16, 42), (42, .iload_n 1, 43), (43, .iaload, 44), (44, .if_icmp .ge 155, 47), (47, .aload_n 0, 48), (48, .getfield 32, 51), (51, .iconst 3, 52), (52, .iload_n 3, 53), (53, .imul, 54), (54, .iload 4, 56), (56, .iadd, 57), (57, .iaload, 58), (58, .istore 5, 60), (60, .iconst 0, 61), (61, .istore 6, 63), (63, .iload 6, 65), (65, .aload_n 0, 66), (66, .getfield 16, 69), (69, .iload_n 1, 70), (70, .iaload, 71), (71, .if_icmp .ge 122, 74), (74, .iload 5, 76), (76, .ifCond .le 117, 79), (79, .aload_n 0, 80), (80, .getfield 7, 83), (83, .bipush 8, 85), (85, .iload_n 1, 86), (86, .imul, 87), (87, .iconst 4, 88), (88, .iload_n 2, 89), (89, .imul, 90), (90, .iadd, 91), (91, .iload 4, 93), (93, .iadd, 94), (94, .iaload, 95), (95, .iload 6, 97), (97, .ishr, 98), (98, .iconst 1, 99), (99, .iand, 100), (100, .iconst 1, 101), (101, .if_icmp .ne 7, 104), (104, .iconst 1, 105), (105, .goto 4, 108), (108, .iconst 0, 109), (109, .istore 7, 111), (111, .iload 5, 113), (113, .iconst 2, 114), (114, .if_icmp .eq 18, 117), (117, .aload_n 0, 118), (118, .getfield 13, 121), (121, .iload_n 1, 122), (122, .iaload, 123), (123, .iload 6, 125), (125, .ishr, 126), (126, .iconst 1, 127), (127, .iand, 128), (128, .iconst 1, 129), (129, .if_icmp .ne 7, 132), (132, .iconst 2, 133), (133, .goto 4, 136), (136, .iconst 1, 137), (137, .istore 8, 139), (139, .aload_n 0, 140), (140, .getfield 35, 143), (143, .iconst 3, 144), (144, .iload_n 3, 145), (145, .imul, 146), (146, .iload 6, 148), (148, .iadd, 149), (149, .iload 7, 151), (151, .ifCond .eq 24, 154), (154, .iload 8, 156), (156, .aload_n 0, 157), (157, .getfield 35, 160), (160, .iconst 3, 161), (161, .iload_n 3, 162), (162, .imul, 163), (163, .iload 6, 165), (165, .iadd, 166), (166, .iaload, 167), (167, .if_icmp .le 8, 170), (170, .iload 8, 172), (172, .goto 14, 175), (175, .aload_n 0, 176), (176, .getfield 35, 179), (179, .iconst 3, 180), (180, .iload_n 3, 181), (181, .imul, 182), (182, .iload 6, 184), (184, .iadd, 185), (185, .iaload, 186), (186, .iastore, 187), (187, .iinc 6 1, 190), (190, .goto (-127), 193), (193, .iinc 4 1, 196), (196, .goto (-160), 199), (199, .iinc 3 1, 202), (202, .goto (-179), 205), (205, .iconst 0, 206), (206, .istore_n 3, 207), (207, .bipush 8, 209), (209, .istore 4, 211), (211, .iload 4, 213), (213, .ifCond .lt 21, 216), (216, .iconst 3, 217), (217, .iload_n 3, 218), (218, .imul, 219), (219, .aload_n 0, 220), (220, .getfield 35, 223), (223, .iload 4, 225), (225, .iaload, 226), (226, .iadd, 227), (227, .istore_n 3, 228), (228, .iinc 4 (-1), 231), (231, .goto (-20), 234), (234, .iload_n 3, 235), (235, .ireturn, 236)])
set_option maxRecDepth 20000 in
theorem mk_M_longer : Mk X_M_longer := ⟨by unfold TBk; decide +kernel, by decide +kernel, wb_678, ⟨by decide, by decide⟩, rfl, rfl, wb_6⟩
theorem fg_M_35 : FG "OmegaDeskModel" 35 8 10 := ⟨R_M, F_M, 12, rfl, by decide, uw_M, Or.inl wb_535⟩
def b_M_longer_2 (s : Int32 × Mm) : Option ((Int32 × Mm) ⊕ (Int32 × Mm)) :=
  if (9 : Int32) ≤ s.1 then
    some (Sum.inr (s.1, s.2))
  else
    ck (inb s.1 (lenI 21)) <|
    bd (some (uI s.2 (1, 21) s.1.toNatClampNeg (0 : Int32))) fun M1 =>
    some (Sum.inl ((s.1 + 1), M1))
def b_M_longer_63 (c1 : Int32) (c2 : Int32) (c3 : Int32) (c4 : Int32) (c5 : Int32) (s : Int32 × Mm) : Option ((Int32 × Mm) ⊕ (Int32 × Mm)) :=
  ck (inb c1 (lenI 18)) <|
  if (s.2.1 (1, 18) c1.toNatClampNeg) ≤ s.1 then
    some (Sum.inr (s.1, s.2))
  else
    if c5 ≤ 0 then
      some (Sum.inr (s.1, s.2))
    else
      ck (inb ((((8 : Int32) * c1) + ((4 : Int32) * c2)) + c4) (lenI 16)) <|
      if (((s.2.1 (1, 16) ((((8 : Int32) * c1) + ((4 : Int32) * c2)) + c4).toNatClampNeg) >>> (s.1 &&& 31)) &&& (1 : Int32)) = (1 : Int32) then
        if c5 = (2 : Int32) then
          ck (inb (((3 : Int32) * c3) + s.1) (lenI 21)) <|
          if (2 : Int32) ≤ (s.2.1 (1, 21) (((3 : Int32) * c3) + s.1).toNatClampNeg) then
            ck (inb (((3 : Int32) * c3) + s.1) (lenI 21)) <|
            ck (inb (((3 : Int32) * c3) + s.1) (lenI 21)) <|
            bd (some (uI s.2 (1, 21) (((3 : Int32) * c3) + s.1).toNatClampNeg (s.2.1 (1, 21) (((3 : Int32) * c3) + s.1).toNatClampNeg))) fun M7 =>
            some (Sum.inl ((s.1 + 1), M7))
          else
            ck (inb (((3 : Int32) * c3) + s.1) (lenI 21)) <|
            bd (some (uI s.2 (1, 21) (((3 : Int32) * c3) + s.1).toNatClampNeg (2 : Int32))) fun M8 =>
            some (Sum.inl ((s.1 + 1), M8))
        else
          ck (inb c1 (lenI 17)) <|
          if (((s.2.1 (1, 17) c1.toNatClampNeg) >>> (s.1 &&& 31)) &&& (1 : Int32)) = (1 : Int32) then
            ck (inb (((3 : Int32) * c3) + s.1) (lenI 21)) <|
            if (2 : Int32) ≤ (s.2.1 (1, 21) (((3 : Int32) * c3) + s.1).toNatClampNeg) then
              ck (inb (((3 : Int32) * c3) + s.1) (lenI 21)) <|
              ck (inb (((3 : Int32) * c3) + s.1) (lenI 21)) <|
              bd (some (uI s.2 (1, 21) (((3 : Int32) * c3) + s.1).toNatClampNeg (s.2.1 (1, 21) (((3 : Int32) * c3) + s.1).toNatClampNeg))) fun M11 =>
              some (Sum.inl ((s.1 + 1), M11))
            else
              ck (inb (((3 : Int32) * c3) + s.1) (lenI 21)) <|
              bd (some (uI s.2 (1, 21) (((3 : Int32) * c3) + s.1).toNatClampNeg (2 : Int32))) fun M12 =>
              some (Sum.inl ((s.1 + 1), M12))
          else
            ck (inb (((3 : Int32) * c3) + s.1) (lenI 21)) <|
            if (1 : Int32) ≤ (s.2.1 (1, 21) (((3 : Int32) * c3) + s.1).toNatClampNeg) then
              ck (inb (((3 : Int32) * c3) + s.1) (lenI 21)) <|
              ck (inb (((3 : Int32) * c3) + s.1) (lenI 21)) <|
              bd (some (uI s.2 (1, 21) (((3 : Int32) * c3) + s.1).toNatClampNeg (s.2.1 (1, 21) (((3 : Int32) * c3) + s.1).toNatClampNeg))) fun M9 =>
              some (Sum.inl ((s.1 + 1), M9))
            else
              ck (inb (((3 : Int32) * c3) + s.1) (lenI 21)) <|
              bd (some (uI s.2 (1, 21) (((3 : Int32) * c3) + s.1).toNatClampNeg (1 : Int32))) fun M10 =>
              some (Sum.inl ((s.1 + 1), M10))
      else
        if c5 = (2 : Int32) then
          ck (inb (((3 : Int32) * c3) + s.1) (lenI 21)) <|
          ck (inb (((3 : Int32) * c3) + s.1) (lenI 21)) <|
          bd (some (uI s.2 (1, 21) (((3 : Int32) * c3) + s.1).toNatClampNeg (s.2.1 (1, 21) (((3 : Int32) * c3) + s.1).toNatClampNeg))) fun M4 =>
          some (Sum.inl ((s.1 + 1), M4))
        else
          ck (inb c1 (lenI 17)) <|
          if (((s.2.1 (1, 17) c1.toNatClampNeg) >>> (s.1 &&& 31)) &&& (1 : Int32)) = (1 : Int32) then
            ck (inb (((3 : Int32) * c3) + s.1) (lenI 21)) <|
            ck (inb (((3 : Int32) * c3) + s.1) (lenI 21)) <|
            bd (some (uI s.2 (1, 21) (((3 : Int32) * c3) + s.1).toNatClampNeg (s.2.1 (1, 21) (((3 : Int32) * c3) + s.1).toNatClampNeg))) fun M6 =>
            some (Sum.inl ((s.1 + 1), M6))
          else
            ck (inb (((3 : Int32) * c3) + s.1) (lenI 21)) <|
            ck (inb (((3 : Int32) * c3) + s.1) (lenI 21)) <|
            bd (some (uI s.2 (1, 21) (((3 : Int32) * c3) + s.1).toNatClampNeg (s.2.1 (1, 21) (((3 : Int32) * c3) + s.1).toNatClampNeg))) fun M5 =>
            some (Sum.inl ((s.1 + 1), M5))
def b_M_longer_36 (c1 : Int32) (c2 : Int32) (c3 : Int32) (s : Int32 × Mm) : Option ((Int32 × Mm) ⊕ (Int32 × Mm)) :=
  ck (inb c1 (lenI 18)) <|
  if (s.2.1 (1, 18) c1.toNatClampNeg) ≤ s.1 then
    some (Sum.inr (s.1, s.2))
  else
    ck (inb (((3 : Int32) * c3) + s.1) (lenI 20)) <|
    bd (some (s.2.1 (1, 20) (((3 : Int32) * c3) + s.1).toNatClampNeg)) fun x3 =>
    bd (lp (b_M_longer_63 c1 c2 c3 s.1 x3) ((0 : Int32), s.2)) fun r13 =>
    some (Sum.inl ((s.1 + 1), r13.2))
def b_M_longer_23 (c1 : Int32) (c2 : Int32) (s : Int32 × Mm) : Option ((Int32 × Mm) ⊕ (Int32 × Mm)) :=
  ck (inb c1 (lenI 18)) <|
  if (s.2.1 (1, 18) c1.toNatClampNeg) ≤ s.1 then
    some (Sum.inr (s.1, s.2))
  else
    bd (lp (b_M_longer_36 c1 c2 s.1) ((0 : Int32), s.2)) fun r14 =>
    some (Sum.inl ((s.1 + 1), r14.2))
def b_M_longer_211 (M : Mm) (s : Int32 × Int32) : Option ((Int32 × Int32) ⊕ (Int32 × Int32)) :=
  if s.2 < 0 then
    some (Sum.inr (s.1, s.2))
  else
    ck (inb s.2 (lenI 21)) <|
    bd (some (((3 : Int32) * s.1) + (M.1 (1, 21) s.2.toNatClampNeg))) fun x16 =>
    some (Sum.inl (x16, (s.2 + (-1))))
def m_M_longer (a1 : Int32) (a2 : Int32) (M : Mm) : Option (Int32 × Mm) :=
  bd (lp (b_M_longer_2) ((0 : Int32), M)) fun r2 =>
  bd (lp (b_M_longer_23 a1 a2) ((0 : Int32), r2.2)) fun r15 =>
  bd (lp (b_M_longer_211 r15.2) ((0 : Int32), (8 : Int32))) fun r17 =>
  some (r17.1, r15.2)
set_option maxRecDepth 20000 in
theorem w_M_longer_2 {l : Launch} {post : Option PV → Mm → Prop} (c1 : Int32) (c2 : Int32)  {r : Int32 × Mm} (kk : Go l X_M_longer post 21 [(0, vr 8 0), (1, vi c1), (2, vi c2), (3, vi r.1)] [] r.2) : ∀ (n : Nat) (s : Int32 × Mm), lpN (b_M_longer_2) n s = some r → Go l X_M_longer post 2 [(0, vr 8 0), (1, vi c1), (2, vi c2), (3, vi s.1)] [] s.2 := by
  intro n
  induction n with
  | zero => intro s hc; exact (lpN_0 hc).elim
  | succ n ih =>
    intro s hc
    obtain ⟨q, h, hc⟩ := lpN_inv hc
    unfold b_M_longer_2 at h
    refine go_iload_n 2 rfl 3 rfl rfl ?_
    refine go_bipush 9 3 rfl (by decide) ?_
    refine go_icmp_ge 21 4 rfl (by decide) (fun c => ?_) (fun c => ?_)
    · replace h := ite_t c h
      cases h
      obtain rfl := lpq_r hc
      exact kk
    · replace h := ite_f c h
      refine go_aload_n 5 rfl 0 rfl rfl ?_
      refine go_getfield 10 _ 6 rfl (by first | decide | exact ok0 (by omega) | exact ok1 (by omega) | exact ok2 (by omega) | exact ok7 (by omega)) rfl fg_M_35 rfl ?_
      refine go_iload_n 7 rfl 3 rfl rfl ?_
      refine go_iconst 0 8 rfl (by decide) ?_
      obtain ⟨c, h⟩ := ck_inv h
      refine go_iastore 9 rfl (by first | decide | exact ok0 (by omega) | exact ok1 (by omega) | exact ok2 (by omega) | exact ok7 (by omega)) (inb_vp c) ?_
      obtain ⟨_, c, h⟩ := bd_inv h
      cases c
      refine go_iinc 1 10 rfl 3 rfl (by decide) (Nat.le_of_ble_eq_true rfl) [(0, _), (1, _), (2, _), (3, _)] rfl ?_
      refine go_goto 2 11 rfl (by decide) ?_
      cases h
      exact ih _ hc
set_option maxRecDepth 20000 in
theorem w_M_longer_63 {l : Launch} {post : Option PV → Mm → Prop} (c1 : Int32) (c2 : Int32) (c3 : Int32) (c4 : Int32) (c5 : Int32)  {r : Int32 × Mm} (kk : Go l X_M_longer post 193 [(0, vr 8 0), (1, vi c1), (2, vi c2), (3, vi c3), (4, vi c4), (5, vi c5), (6, vi r.1)] [] r.2) : ∀ (n : Nat) (s : Int32 × Mm), lpN (b_M_longer_63 c1 c2 c3 c4 c5) n s = some r → Go l X_M_longer post 63 [(0, vr 8 0), (1, vi c1), (2, vi c2), (3, vi c3), (4, vi c4), (5, vi c5), (6, vi s.1)] [] s.2 := by
  intro n
  induction n with
  | zero => intro s hc; exact (lpN_0 hc).elim
  | succ n ih =>
    intro s hc
    obtain ⟨q, h, hc⟩ := lpN_inv hc
    unfold b_M_longer_63 at h
    refine go_iload 39 rfl 6 rfl ?_
    refine go_aload_n 40 rfl 0 rfl rfl ?_
    refine go_getfield 3 _ 41 rfl (by first | decide | exact ok0 (by omega) | exact ok1 (by omega) | exact ok2 (by omega) | exact ok7 (by omega)) rfl fg_M_16 rfl ?_
    refine go_iload_n 42 rfl 1 rfl rfl ?_
    obtain ⟨c, h⟩ := ck_inv h
    refine go_iaload 43 rfl (by first | decide | exact ok0 (by omega) | exact ok1 (by omega) | exact ok2 (by omega) | exact ok7 (by omega)) (inb_vp c) ?_
    refine go_icmp_ge 193 44 rfl (by decide) (fun c => ?_) (fun c => ?_)
    · replace h := ite_t c h
      cases h
      obtain rfl := lpq_r hc
      exact kk
    · replace h := ite_f c h
      refine go_iload 45 rfl 5 rfl ?_
      refine go_if_le 193 46 rfl (by decide) (fun c => ?_) (fun c => ?_)
      · replace h := ite_t c h
        cases h
        obtain rfl := lpq_r hc
        exact kk
      · replace h := ite_f c h
        refine go_aload_n 47 rfl 0 rfl rfl ?_
        refine go_getfield 1 _ 48 rfl (by first | decide | exact ok0 (by omega) | exact ok1 (by omega) | exact ok2 (by omega) | exact ok7 (by omega)) rfl fg_M_7 rfl ?_
        refine go_bipush 8 49 rfl (by decide) ?_
        refine go_iload_n 50 rfl 1 rfl rfl ?_
        refine go_imul 51 rfl ?_
        refine go_iconst 4 52 rfl (by decide) ?_
        refine go_iload_n 53 rfl 2 rfl rfl ?_
        refine go_imul 54 rfl ?_
        refine go_iadd 55 rfl ?_
        refine go_iload 56 rfl 4 rfl ?_
        refine go_iadd 57 rfl ?_
        obtain ⟨c, h⟩ := ck_inv h
        refine go_iaload 58 rfl (by first | decide | exact ok0 (by omega) | exact ok1 (by omega) | exact ok2 (by omega) | exact ok7 (by omega)) (inb_vp c) ?_
        refine go_iload 59 rfl 6 rfl ?_
        refine go_ishr 60 rfl ?_
        refine go_iconst 1 61 rfl (by decide) ?_
        refine go_iand 62 rfl ?_
        refine go_iconst 1 63 rfl (by decide) ?_
        refine go_icmp_ne 108 64 rfl (by decide) (fun c => ?_) (fun c => ?_)
        · replace h := ite_f c h
          refine go_iconst 0 67 rfl (by decide) ?_
          refine go_istore 68 rfl (Nat.le_of_ble_eq_true rfl) [(0, _), (1, _), (2, _), (3, _), (4, _), (5, _), (6, _), (7, _)] rfl ?_
          refine go_iload 69 rfl 5 rfl ?_
          refine go_iconst 2 70 rfl (by decide) ?_
          refine go_icmp_eq 132 71 rfl (by decide) (fun c => ?_) (fun c => ?_)
          · replace h := ite_t c h
            refine go_iconst 2 82 rfl (by decide) ?_
            refine go_goto 137 83 rfl (by decide) ?_
            refine go_istore 85 rfl (Nat.le_of_ble_eq_true rfl) [(0, _), (1, _), (2, _), (3, _), (4, _), (5, _), (6, _), (7, _), (8, _)] rfl ?_
            refine go_aload_n 86 rfl 0 rfl rfl ?_
            refine go_getfield 10 _ 87 rfl (by first | decide | exact ok0 (by omega) | exact ok1 (by omega) | exact ok2 (by omega) | exact ok7 (by omega)) rfl fg_M_35 rfl ?_
            refine go_iconst 3 88 rfl (by decide) ?_
            refine go_iload_n 89 rfl 3 rfl rfl ?_
            refine go_imul 90 rfl ?_
            refine go_iload 91 rfl 6 rfl ?_
            refine go_iadd 92 rfl ?_
            refine go_iload 93 rfl 7 rfl ?_
            refine go_if_eq 175 94 rfl (by decide) (fun _ => ?_) (fun c => absurd c (by decide))
            refine go_aload_n 107 rfl 0 rfl rfl ?_
            refine go_getfield 10 _ 108 rfl (by first | decide | exact ok0 (by omega) | exact ok1 (by omega) | exact ok2 (by omega) | exact ok7 (by omega)) rfl fg_M_35 rfl ?_
            refine go_iconst 3 109 rfl (by decide) ?_
            refine go_iload_n 110 rfl 3 rfl rfl ?_
            refine go_imul 111 rfl ?_
            refine go_iload 112 rfl 6 rfl ?_
            refine go_iadd 113 rfl ?_
            obtain ⟨c, h⟩ := ck_inv h
            refine go_iaload 114 rfl (by first | decide | exact ok0 (by omega) | exact ok1 (by omega) | exact ok2 (by omega) | exact ok7 (by omega)) (inb_vp c) ?_
            obtain ⟨c, h⟩ := ck_inv h
            refine go_iastore 115 rfl (by first | decide | exact ok0 (by omega) | exact ok1 (by omega) | exact ok2 (by omega) | exact ok7 (by omega)) (inb_vp c) ?_
            obtain ⟨_, c, h⟩ := bd_inv h
            cases c
            refine go_iinc 1 116 rfl 6 rfl (by decide) (Nat.le_of_ble_eq_true rfl) [(0, _), (1, _), (2, _), (3, _), (4, _), (5, _), (6, _), (7, _), (8, _)] rfl ?_
            refine go_goto 63 117 rfl (by decide) ?_
            cases h
            refine go_sub [0, 1, 2, 3, 4, 5, 6] rfl ?_
            exact ih _ hc
          · replace h := ite_f c h
            refine go_aload_n 72 rfl 0 rfl rfl ?_
            refine go_getfield 2 _ 73 rfl (by first | decide | exact ok0 (by omega) | exact ok1 (by omega) | exact ok2 (by omega) | exact ok7 (by omega)) rfl fg_M_13 rfl ?_
            refine go_iload_n 74 rfl 1 rfl rfl ?_
            obtain ⟨c, h⟩ := ck_inv h
            refine go_iaload 75 rfl (by first | decide | exact ok0 (by omega) | exact ok1 (by omega) | exact ok2 (by omega) | exact ok7 (by omega)) (inb_vp c) ?_
            refine go_iload 76 rfl 6 rfl ?_
            refine go_ishr 77 rfl ?_
            refine go_iconst 1 78 rfl (by decide) ?_
            refine go_iand 79 rfl ?_
            refine go_iconst 1 80 rfl (by decide) ?_
            refine go_icmp_ne 136 81 rfl (by decide) (fun c => ?_) (fun c => ?_)
            · replace h := ite_f c h
              refine go_iconst 1 84 rfl (by decide) ?_
              refine go_istore 85 rfl (Nat.le_of_ble_eq_true rfl) [(0, _), (1, _), (2, _), (3, _), (4, _), (5, _), (6, _), (7, _), (8, _)] rfl ?_
              refine go_aload_n 86 rfl 0 rfl rfl ?_
              refine go_getfield 10 _ 87 rfl (by first | decide | exact ok0 (by omega) | exact ok1 (by omega) | exact ok2 (by omega) | exact ok7 (by omega)) rfl fg_M_35 rfl ?_
              refine go_iconst 3 88 rfl (by decide) ?_
              refine go_iload_n 89 rfl 3 rfl rfl ?_
              refine go_imul 90 rfl ?_
              refine go_iload 91 rfl 6 rfl ?_
              refine go_iadd 92 rfl ?_
              refine go_iload 93 rfl 7 rfl ?_
              refine go_if_eq 175 94 rfl (by decide) (fun _ => ?_) (fun c => absurd c (by decide))
              refine go_aload_n 107 rfl 0 rfl rfl ?_
              refine go_getfield 10 _ 108 rfl (by first | decide | exact ok0 (by omega) | exact ok1 (by omega) | exact ok2 (by omega) | exact ok7 (by omega)) rfl fg_M_35 rfl ?_
              refine go_iconst 3 109 rfl (by decide) ?_
              refine go_iload_n 110 rfl 3 rfl rfl ?_
              refine go_imul 111 rfl ?_
              refine go_iload 112 rfl 6 rfl ?_
              refine go_iadd 113 rfl ?_
              obtain ⟨c, h⟩ := ck_inv h
              refine go_iaload 114 rfl (by first | decide | exact ok0 (by omega) | exact ok1 (by omega) | exact ok2 (by omega) | exact ok7 (by omega)) (inb_vp c) ?_
              obtain ⟨c, h⟩ := ck_inv h
              refine go_iastore 115 rfl (by first | decide | exact ok0 (by omega) | exact ok1 (by omega) | exact ok2 (by omega) | exact ok7 (by omega)) (inb_vp c) ?_
              obtain ⟨_, c, h⟩ := bd_inv h
              cases c
              refine go_iinc 1 116 rfl 6 rfl (by decide) (Nat.le_of_ble_eq_true rfl) [(0, _), (1, _), (2, _), (3, _), (4, _), (5, _), (6, _), (7, _), (8, _)] rfl ?_
              refine go_goto 63 117 rfl (by decide) ?_
              cases h
              refine go_sub [0, 1, 2, 3, 4, 5, 6] rfl ?_
              exact ih _ hc
            · replace h := ite_t c h
              refine go_iconst 2 82 rfl (by decide) ?_
              refine go_goto 137 83 rfl (by decide) ?_
              refine go_istore 85 rfl (Nat.le_of_ble_eq_true rfl) [(0, _), (1, _), (2, _), (3, _), (4, _), (5, _), (6, _), (7, _), (8, _)] rfl ?_
              refine go_aload_n 86 rfl 0 rfl rfl ?_
              refine go_getfield 10 _ 87 rfl (by first | decide | exact ok0 (by omega) | exact ok1 (by omega) | exact ok2 (by omega) | exact ok7 (by omega)) rfl fg_M_35 rfl ?_
              refine go_iconst 3 88 rfl (by decide) ?_
              refine go_iload_n 89 rfl 3 rfl rfl ?_
              refine go_imul 90 rfl ?_
              refine go_iload 91 rfl 6 rfl ?_
              refine go_iadd 92 rfl ?_
              refine go_iload 93 rfl 7 rfl ?_
              refine go_if_eq 175 94 rfl (by decide) (fun _ => ?_) (fun c => absurd c (by decide))
              refine go_aload_n 107 rfl 0 rfl rfl ?_
              refine go_getfield 10 _ 108 rfl (by first | decide | exact ok0 (by omega) | exact ok1 (by omega) | exact ok2 (by omega) | exact ok7 (by omega)) rfl fg_M_35 rfl ?_
              refine go_iconst 3 109 rfl (by decide) ?_
              refine go_iload_n 110 rfl 3 rfl rfl ?_
              refine go_imul 111 rfl ?_
              refine go_iload 112 rfl 6 rfl ?_
              refine go_iadd 113 rfl ?_
              obtain ⟨c, h⟩ := ck_inv h
              refine go_iaload 114 rfl (by first | decide | exact ok0 (by omega) | exact ok1 (by omega) | exact ok2 (by omega) | exact ok7 (by omega)) (inb_vp c) ?_
              obtain ⟨c, h⟩ := ck_inv h
              refine go_iastore 115 rfl (by first | decide | exact ok0 (by omega) | exact ok1 (by omega) | exact ok2 (by omega) | exact ok7 (by omega)) (inb_vp c) ?_
              obtain ⟨_, c, h⟩ := bd_inv h
              cases c
              refine go_iinc 1 116 rfl 6 rfl (by decide) (Nat.le_of_ble_eq_true rfl) [(0, _), (1, _), (2, _), (3, _), (4, _), (5, _), (6, _), (7, _), (8, _)] rfl ?_
              refine go_goto 63 117 rfl (by decide) ?_
              cases h
              refine go_sub [0, 1, 2, 3, 4, 5, 6] rfl ?_
              exact ih _ hc
        · replace h := ite_t c h
          refine go_iconst 1 65 rfl (by decide) ?_
          refine go_goto 109 66 rfl (by decide) ?_
          refine go_istore 68 rfl (Nat.le_of_ble_eq_true rfl) [(0, _), (1, _), (2, _), (3, _), (4, _), (5, _), (6, _), (7, _)] rfl ?_
          refine go_iload 69 rfl 5 rfl ?_
          refine go_iconst 2 70 rfl (by decide) ?_
          refine go_icmp_eq 132 71 rfl (by decide) (fun c => ?_) (fun c => ?_)
          · replace h := ite_t c h
            refine go_iconst 2 82 rfl (by decide) ?_
            refine go_goto 137 83 rfl (by decide) ?_
            refine go_istore 85 rfl (Nat.le_of_ble_eq_true rfl) [(0, _), (1, _), (2, _), (3, _), (4, _), (5, _), (6, _), (7, _), (8, _)] rfl ?_
            refine go_aload_n 86 rfl 0 rfl rfl ?_
            refine go_getfield 10 _ 87 rfl (by first | decide | exact ok0 (by omega) | exact ok1 (by omega) | exact ok2 (by omega) | exact ok7 (by omega)) rfl fg_M_35 rfl ?_
            refine go_iconst 3 88 rfl (by decide) ?_
            refine go_iload_n 89 rfl 3 rfl rfl ?_
            refine go_imul 90 rfl ?_
            refine go_iload 91 rfl 6 rfl ?_
            refine go_iadd 92 rfl ?_
            refine go_iload 93 rfl 7 rfl ?_
            refine go_if_eq 175 94 rfl (by decide) (fun c => absurd c (by decide)) (fun _ => ?_)
            refine go_iload 95 rfl 8 rfl ?_
            refine go_aload_n 96 rfl 0 rfl rfl ?_
            refine go_getfield 10 _ 97 rfl (by first | decide | exact ok0 (by omega) | exact ok1 (by omega) | exact ok2 (by omega) | exact ok7 (by omega)) rfl fg_M_35 rfl ?_
            refine go_iconst 3 98 rfl (by decide) ?_
            refine go_iload_n 99 rfl 3 rfl rfl ?_
            refine go_imul 100 rfl ?_
            refine go_iload 101 rfl 6 rfl ?_
            refine go_iadd 102 rfl ?_
            obtain ⟨c, h⟩ := ck_inv h
            refine go_iaload 103 rfl (by first | decide | exact ok0 (by omega) | exact ok1 (by omega) | exact ok2 (by omega) | exact ok7 (by omega)) (inb_vp c) ?_
            refine go_icmp_le 175 104 rfl (by decide) (fun c => ?_) (fun c => ?_)
            · replace h := ite_t c h
              refine go_aload_n 107 rfl 0 rfl rfl ?_
              refine go_getfield 10 _ 108 rfl (by first | decide | exact ok0 (by omega) | exact ok1 (by omega) | exact ok2 (by omega) | exact ok7 (by omega)) rfl fg_M_35 rfl ?_
              refine go_iconst 3 109 rfl (by decide) ?_
              refine go_iload_n 110 rfl 3 rfl rfl ?_
              refine go_imul 111 rfl ?_
              refine go_iload 112 rfl 6 rfl ?_
              refine go_iadd 113 rfl ?_
              obtain ⟨c, h⟩ := ck_inv h
              refine go_iaload 114 rfl (by first | decide | exact ok0 (by omega) | exact ok1 (by omega) | exact ok2 (by omega) | exact ok7 (by omega)) (inb_vp c) ?_
              obtain ⟨c, h⟩ := ck_inv h
              refine go_iastore 115 rfl (by first | decide | exact ok0 (by omega) | exact ok1 (by omega) | exact ok2 (by omega) | exact ok7 (by omega)) (inb_vp c) ?_
              obtain ⟨_, c, h⟩ := bd_inv h
              cases c
              refine go_iinc 1 116 rfl 6 rfl (by decide) (Nat.le_of_ble_eq_true rfl) [(0, _), (1, _), (2, _), (3, _), (4, _), (5, _), (6, _), (7, _), (8, _)] rfl ?_
              refine go_goto 63 117 rfl (by decide) ?_
              cases h
              refine go_sub [0, 1, 2, 3, 4, 5, 6] rfl ?_
              exact ih _ hc
            · replace h := ite_f c h
              refine go_iload 105 rfl 8 rfl ?_
              refine go_goto 186 106 rfl (by decide) ?_
              obtain ⟨c, h⟩ := ck_inv h
              refine go_iastore 115 rfl (by first | decide | exact ok0 (by omega) | exact ok1 (by omega) | exact ok2 (by omega) | exact ok7 (by omega)) (inb_vp c) ?_
              obtain ⟨_, c, h⟩ := bd_inv h
              cases c
              refine go_iinc 1 116 rfl 6 rfl (by decide) (Nat.le_of_ble_eq_true rfl) [(0, _), (1, _), (2, _), (3, _), (4, _), (5, _), (6, _), (7, _), (8, _)] rfl ?_
              refine go_goto 63 117 rfl (by decide) ?_
              cases h
              refine go_sub [0, 1, 2, 3, 4, 5, 6] rfl ?_
              exact ih _ hc
          · replace h := ite_f c h
            refine go_aload_n 72 rfl 0 rfl rfl ?_
            refine go_getfield 2 _ 73 rfl (by first | decide | exact ok0 (by omega) | exact ok1 (by omega) | exact ok2 (by omega) | exact ok7 (by omega)) rfl fg_M_13 rfl ?_
            refine go_iload_n 74 rfl 1 rfl rfl ?_
            obtain ⟨c, h⟩ := ck_inv h
            refine go_iaload 75 rfl (by first | decide | exact ok0 (by omega) | exact ok1 (by omega) | exact ok2 (by omega) | exact ok7 (by omega)) (inb_vp c) ?_
            refine go_iload 76 rfl 6 rfl ?_
            refine go_ishr 77 rfl ?_
            refine go_iconst 1 78 rfl (by decide) ?_
            refine go_iand 79 rfl ?_
            refine go_iconst 1 80 rfl (by decide) ?_
            refine go_icmp_ne 136 81 rfl (by decide) (fun c => ?_) (fun c => ?_)
            · replace h := ite_f c h
              refine go_iconst 1 84 rfl (by decide) ?_
              refine go_istore 85 rfl (Nat.le_of_ble_eq_true rfl) [(0, _), (1, _), (2, _), (3, _), (4, _), (5, _), (6, _), (7, _), (8, _)] rfl ?_
              refine go_aload_n 86 rfl 0 rfl rfl ?_
              refine go_getfield 10 _ 87 rfl (by first | decide | exact ok0 (by omega) | exact ok1 (by omega) | exact ok2 (by omega) | exact ok7 (by omega)) rfl fg_M_35 rfl ?_
              refine go_iconst 3 88 rfl (by decide) ?_
              refine go_iload_n 89 rfl 3 rfl rfl ?_
              refine go_imul 90 rfl ?_
              refine go_iload 91 rfl 6 rfl ?_
              refine go_iadd 92 rfl ?_
              refine go_iload 93 rfl 7 rfl ?_
              refine go_if_eq 175 94 rfl (by decide) (fun c => absurd c (by decide)) (fun _ => ?_)
              refine go_iload 95 rfl 8 rfl ?_
              refine go_aload_n 96 rfl 0 rfl rfl ?_
              refine go_getfield 10 _ 97 rfl (by first | decide | exact ok0 (by omega) | exact ok1 (by omega) | exact ok2 (by omega) | exact ok7 (by omega)) rfl fg_M_35 rfl ?_
              refine go_iconst 3 98 rfl (by decide) ?_
              refine go_iload_n 99 rfl 3 rfl rfl ?_
              refine go_imul 100 rfl ?_
              refine go_iload 101 rfl 6 rfl ?_
              refine go_iadd 102 rfl ?_
              obtain ⟨c, h⟩ := ck_inv h
              refine go_iaload 103 rfl (by first | decide | exact ok0 (by omega) | exact ok1 (by omega) | exact ok2 (by omega) | exact ok7 (by omega)) (inb_vp c) ?_
              refine go_icmp_le 175 104 rfl (by decide) (fun c => ?_) (fun c => ?_)
              · replace h := ite_t c h
                refine go_aload_n 107 rfl 0 rfl rfl ?_
                refine go_getfield 10 _ 108 rfl (by first | decide | exact ok0 (by omega) | exact ok1 (by omega) | exact ok2 (by omega) | exact ok7 (by omega)) rfl fg_M_35 rfl ?_
                refine go_iconst 3 109 rfl (by decide) ?_
                refine go_iload_n 110 rfl 3 rfl rfl ?_
                refine go_imul 111 rfl ?_
                refine go_iload 112 rfl 6 rfl ?_
                refine go_iadd 113 rfl ?_
                obtain ⟨c, h⟩ := ck_inv h
                refine go_iaload 114 rfl (by first | decide | exact ok0 (by omega) | exact ok1 (by omega) | exact ok2 (by omega) | exact ok7 (by omega)) (inb_vp c) ?_
                obtain ⟨c, h⟩ := ck_inv h
                refine go_iastore 115 rfl (by first | decide | exact ok0 (by omega) | exact ok1 (by omega) | exact ok2 (by omega) | exact ok7 (by omega)) (inb_vp c) ?_
                obtain ⟨_, c, h⟩ := bd_inv h
                cases c
                refine go_iinc 1 116 rfl 6 rfl (by decide) (Nat.le_of_ble_eq_true rfl) [(0, _), (1, _), (2, _), (3, _), (4, _), (5, _), (6, _), (7, _), (8, _)] rfl ?_
                refine go_goto 63 117 rfl (by decide) ?_
                cases h
                refine go_sub [0, 1, 2, 3, 4, 5, 6] rfl ?_
                exact ih _ hc
              · replace h := ite_f c h
                refine go_iload 105 rfl 8 rfl ?_
                refine go_goto 186 106 rfl (by decide) ?_
                obtain ⟨c, h⟩ := ck_inv h
                refine go_iastore 115 rfl (by first | decide | exact ok0 (by omega) | exact ok1 (by omega) | exact ok2 (by omega) | exact ok7 (by omega)) (inb_vp c) ?_
                obtain ⟨_, c, h⟩ := bd_inv h
                cases c
                refine go_iinc 1 116 rfl 6 rfl (by decide) (Nat.le_of_ble_eq_true rfl) [(0, _), (1, _), (2, _), (3, _), (4, _), (5, _), (6, _), (7, _), (8, _)] rfl ?_
                refine go_goto 63 117 rfl (by decide) ?_
                cases h
                refine go_sub [0, 1, 2, 3, 4, 5, 6] rfl ?_
                exact ih _ hc
            · replace h := ite_t c h
              refine go_iconst 2 82 rfl (by decide) ?_
              refine go_goto 137 83 rfl (by decide) ?_
              refine go_istore 85 rfl (Nat.le_of_ble_eq_true rfl) [(0, _), (1, _), (2, _), (3, _), (4, _), (5, _), (6, _), (7, _), (8, _)] rfl ?_
              refine go_aload_n 86 rfl 0 rfl rfl ?_
              refine go_getfield 10 _ 87 rfl (by first | decide | exact ok0 (by omega) | exact ok1 (by omega) | exact ok2 (by omega) | exact ok7 (by omega)) rfl fg_M_35 rfl ?_
              refine go_iconst 3 88 rfl (by decide) ?_
              refine go_iload_n 89 rfl 3 rfl rfl ?_
              refine go_imul 90 rfl ?_
              refine go_iload 91 rfl 6 rfl ?_
              refine go_iadd 92 rfl ?_
              refine go_iload 93 rfl 7 rfl ?_
              refine go_if_eq 175 94 rfl (by decide) (fun c => absurd c (by decide)) (fun _ => ?_)
              refine go_iload 95 rfl 8 rfl ?_
              refine go_aload_n 96 rfl 0 rfl rfl ?_
              refine go_getfield 10 _ 97 rfl (by first | decide | exact ok0 (by omega) | exact ok1 (by omega) | exact ok2 (by omega) | exact ok7 (by omega)) rfl fg_M_35 rfl ?_
              refine go_iconst 3 98 rfl (by decide) ?_
              refine go_iload_n 99 rfl 3 rfl rfl ?_
              refine go_imul 100 rfl ?_
              refine go_iload 101 rfl 6 rfl ?_
              refine go_iadd 102 rfl ?_
              obtain ⟨c, h⟩ := ck_inv h
              refine go_iaload 103 rfl (by first | decide | exact ok0 (by omega) | exact ok1 (by omega) | exact ok2 (by omega) | exact ok7 (by omega)) (inb_vp c) ?_
              refine go_icmp_le 175 104 rfl (by decide) (fun c => ?_) (fun c => ?_)
              · replace h := ite_t c h
                refine go_aload_n 107 rfl 0 rfl rfl ?_
                refine go_getfield 10 _ 108 rfl (by first | decide | exact ok0 (by omega) | exact ok1 (by omega) | exact ok2 (by omega) | exact ok7 (by omega)) rfl fg_M_35 rfl ?_
                refine go_iconst 3 109 rfl (by decide) ?_
                refine go_iload_n 110 rfl 3 rfl rfl ?_
                refine go_imul 111 rfl ?_
                refine go_iload 112 rfl 6 rfl ?_
                refine go_iadd 113 rfl ?_
                obtain ⟨c, h⟩ := ck_inv h
                refine go_iaload 114 rfl (by first | decide | exact ok0 (by omega) | exact ok1 (by omega) | exact ok2 (by omega) | exact ok7 (by omega)) (inb_vp c) ?_
                obtain ⟨c, h⟩ := ck_inv h
                refine go_iastore 115 rfl (by first | decide | exact ok0 (by omega) | exact ok1 (by omega) | exact ok2 (by omega) | exact ok7 (by omega)) (inb_vp c) ?_
                obtain ⟨_, c, h⟩ := bd_inv h
                cases c
                refine go_iinc 1 116 rfl 6 rfl (by decide) (Nat.le_of_ble_eq_true rfl) [(0, _), (1, _), (2, _), (3, _), (4, _), (5, _), (6, _), (7, _), (8, _)] rfl ?_
                refine go_goto 63 117 rfl (by decide) ?_
                cases h
                refine go_sub [0, 1, 2, 3, 4, 5, 6] rfl ?_
                exact ih _ hc
              · replace h := ite_f c h
                refine go_iload 105 rfl 8 rfl ?_
                refine go_goto 186 106 rfl (by decide) ?_
                obtain ⟨c, h⟩ := ck_inv h
                refine go_iastore 115 rfl (by first | decide | exact ok0 (by omega) | exact ok1 (by omega) | exact ok2 (by omega) | exact ok7 (by omega)) (inb_vp c) ?_
                obtain ⟨_, c, h⟩ := bd_inv h
                cases c
                refine go_iinc 1 116 rfl 6 rfl (by decide) (Nat.le_of_ble_eq_true rfl) [(0, _), (1, _), (2, _), (3, _), (4, _), (5, _), (6, _), (7, _), (8, _)] rfl ?_
                refine go_goto 63 117 rfl (by decide) ?_
                cases h
                refine go_sub [0, 1, 2, 3, 4, 5, 6] rfl ?_
                exact ih _ hc
set_option maxRecDepth 20000 in
theorem w_M_longer_36 {l : Launch} {post : Option PV → Mm → Prop} (c1 : Int32) (c2 : Int32) (c3 : Int32)  {r : Int32 × Mm} (kk : Go l X_M_longer post 199 [(0, vr 8 0), (1, vi c1), (2, vi c2), (3, vi c3), (4, vi r.1)] [] r.2) : ∀ (n : Nat) (s : Int32 × Mm), lpN (b_M_longer_36 c1 c2 c3) n s = some r → Go l X_M_longer post 36 [(0, vr 8 0), (1, vi c1), (2, vi c2), (3, vi c3), (4, vi s.1)] [] s.2 := by
  intro n
  induction n with
  | zero => intro s hc; exact (lpN_0 hc).elim
  | succ n ih =>
    intro s hc
    obtain ⟨q, h, hc⟩ := lpN_inv hc
    unfold b_M_longer_36 at h
    refine go_iload 22 rfl 4 rfl ?_
    refine go_aload_n 23 rfl 0 rfl rfl ?_
    refine go_getfield 3 _ 24 rfl (by first | decide | exact ok0 (by omega) | exact ok1 (by omega) | exact ok2 (by omega) | exact ok7 (by omega)) rfl fg_M_16 rfl ?_
    refine go_iload_n 25 rfl 1 rfl rfl ?_
    obtain ⟨c, h⟩ := ck_inv h
    refine go_iaload 26 rfl (by first | decide | exact ok0 (by omega) | exact ok1 (by omega) | exact ok2 (by omega) | exact ok7 (by omega)) (inb_vp c) ?_
    refine go_icmp_ge 199 27 rfl (by decide) (fun c => ?_) (fun c => ?_)
    · replace h := ite_t c h
      cases h
      obtain rfl := lpq_r hc
      exact kk
    · replace h := ite_f c h
      refine go_aload_n 28 rfl 0 rfl rfl ?_
      refine go_getfield 9 _ 29 rfl (by first | decide | exact ok0 (by omega) | exact ok1 (by omega) | exact ok2 (by omega) | exact ok7 (by omega)) rfl fg_M_32 rfl ?_
      refine go_iconst 3 30 rfl (by decide) ?_
      refine go_iload_n 31 rfl 3 rfl rfl ?_
      refine go_imul 32 rfl ?_
      refine go_iload 33 rfl 4 rfl ?_
      refine go_iadd 34 rfl ?_
      obtain ⟨c, h⟩ := ck_inv h
      refine go_iaload 35 rfl (by first | decide | exact ok0 (by omega) | exact ok1 (by omega) | exact ok2 (by omega) | exact ok7 (by omega)) (inb_vp c) ?_
      obtain ⟨_, c, h⟩ := bd_inv h
      cases c
      refine go_istore 36 rfl (Nat.le_of_ble_eq_true rfl) [(0, _), (1, _), (2, _), (3, _), (4, _), (5, _)] rfl ?_
      refine go_iconst 0 37 rfl (by decide) ?_
      refine go_istore 38 rfl (Nat.le_of_ble_eq_true rfl) [(0, _), (1, _), (2, _), (3, _), (4, _), (5, _), (6, _)] rfl ?_
      obtain ⟨r13, c, h⟩ := bd_inv h
      refine w_M_longer_63 _ _ _ _ _ ?_ _ _ c
      refine go_iinc 1 118 rfl 4 rfl (by decide) (Nat.le_of_ble_eq_true rfl) [(0, _), (1, _), (2, _), (3, _), (4, _), (5, _), (6, _)] rfl ?_
      refine go_goto 36 119 rfl (by decide) ?_
      cases h
      refine go_sub [0, 1, 2, 3, 4] rfl ?_
      exact ih _ hc
set_option maxRecDepth 20000 in
theorem w_M_longer_23 {l : Launch} {post : Option PV → Mm → Prop} (c1 : Int32) (c2 : Int32)  {r : Int32 × Mm} (kk : Go l X_M_longer post 205 [(0, vr 8 0), (1, vi c1), (2, vi c2), (3, vi r.1)] [] r.2) : ∀ (n : Nat) (s : Int32 × Mm), lpN (b_M_longer_23 c1 c2) n s = some r → Go l X_M_longer post 23 [(0, vr 8 0), (1, vi c1), (2, vi c2), (3, vi s.1)] [] s.2 := by
  intro n
  induction n with
  | zero => intro s hc; exact (lpN_0 hc).elim
  | succ n ih =>
    intro s hc
    obtain ⟨q, h, hc⟩ := lpN_inv hc
    unfold b_M_longer_23 at h
    refine go_iload_n 14 rfl 3 rfl rfl ?_
    refine go_aload_n 15 rfl 0 rfl rfl ?_
    refine go_getfield 3 _ 16 rfl (by first | decide | exact ok0 (by omega) | exact ok1 (by omega) | exact ok2 (by omega) | exact ok7 (by omega)) rfl fg_M_16 rfl ?_
    refine go_iload_n 17 rfl 1 rfl rfl ?_
    obtain ⟨c, h⟩ := ck_inv h
    refine go_iaload 18 rfl (by first | decide | exact ok0 (by omega) | exact ok1 (by omega) | exact ok2 (by omega) | exact ok7 (by omega)) (inb_vp c) ?_
    refine go_icmp_ge 205 19 rfl (by decide) (fun c => ?_) (fun c => ?_)
    · replace h := ite_t c h
      cases h
      obtain rfl := lpq_r hc
      exact kk
    · replace h := ite_f c h
      refine go_iconst 0 20 rfl (by decide) ?_
      refine go_istore 21 rfl (Nat.le_of_ble_eq_true rfl) [(0, _), (1, _), (2, _), (3, _), (4, _)] rfl ?_
      obtain ⟨r14, c, h⟩ := bd_inv h
      refine w_M_longer_36 _ _ _ ?_ _ _ c
      refine go_iinc 1 120 rfl 3 rfl (by decide) (Nat.le_of_ble_eq_true rfl) [(0, _), (1, _), (2, _), (3, _), (4, _)] rfl ?_
      refine go_goto 23 121 rfl (by decide) ?_
      cases h
      refine go_sub [0, 1, 2, 3] rfl ?_
      exact ih _ hc
set_option maxRecDepth 20000 in
theorem w_M_longer_211 {l : Launch} {post : Option PV → Mm → Prop} (c1 : Int32) (c2 : Int32) (M : Mm)  {r : Int32 × Int32} (kk : Go l X_M_longer post 234 [(0, vr 8 0), (1, vi c1), (2, vi c2), (3, vi r.1), (4, vi r.2)] [] M) : ∀ (n : Nat) (s : Int32 × Int32), lpN (b_M_longer_211 M) n s = some r → Go l X_M_longer post 211 [(0, vr 8 0), (1, vi c1), (2, vi c2), (3, vi s.1), (4, vi s.2)] [] M := by
  intro n
  induction n with
  | zero => intro s hc; exact (lpN_0 hc).elim
  | succ n ih =>
    intro s hc
    obtain ⟨q, h, hc⟩ := lpN_inv hc
    unfold b_M_longer_211 at h
    refine go_iload 126 rfl 4 rfl ?_
    refine go_if_lt 234 127 rfl (by decide) (fun c => ?_) (fun c => ?_)
    · replace h := ite_t c h
      cases h
      obtain rfl := lpq_r hc
      exact kk
    · replace h := ite_f c h
      refine go_iconst 3 128 rfl (by decide) ?_
      refine go_iload_n 129 rfl 3 rfl rfl ?_
      refine go_imul 130 rfl ?_
      refine go_aload_n 131 rfl 0 rfl rfl ?_
      refine go_getfield 10 _ 132 rfl (by first | decide | exact ok0 (by omega) | exact ok1 (by omega) | exact ok2 (by omega) | exact ok7 (by omega)) rfl fg_M_35 rfl ?_
      refine go_iload 133 rfl 4 rfl ?_
      obtain ⟨c, h⟩ := ck_inv h
      refine go_iaload 134 rfl (by first | decide | exact ok0 (by omega) | exact ok1 (by omega) | exact ok2 (by omega) | exact ok7 (by omega)) (inb_vp c) ?_
      refine go_iadd 135 rfl ?_
      obtain ⟨_, c, h⟩ := bd_inv h
      cases c
      refine go_istore_n 136 rfl rfl (Nat.le_of_ble_eq_true rfl) [(0, _), (1, _), (2, _), (3, _), (4, _)] rfl ?_
      refine go_iinc (-1) 137 rfl 4 rfl (by decide) (Nat.le_of_ble_eq_true rfl) [(0, _), (1, _), (2, _), (3, _), (4, _)] rfl ?_
      refine go_goto 211 138 rfl (by decide) ?_
      cases h
      exact ih _ hc
set_option maxRecDepth 20000 in
theorem e_M_longer {l : Launch} {a1 : Int32} {a2 : Int32} {M : Mm} {r : Int32 × Mm}  (h : m_M_longer a1 a2 M = some r) : Ev l X_M_longer [vr 8 0, vi a1, vi a2] M (fun v M2 => v = (some (vi r.1)) ∧ M2 = r.2) := by
  refine Ev.of mk_M_longer [(0, vr 8 0), (1, vi a1), (2, vi a2)] (fun _ => rfl) (fun _ => (Nat.le_of_ble_eq_true rfl)) ?_
  unfold m_M_longer at h
  refine go_iconst 0 0 rfl (by decide) ?_
  refine go_istore_n 1 rfl rfl (Nat.le_of_ble_eq_true rfl) [(0, _), (1, _), (2, _), (3, _)] rfl ?_
  obtain ⟨r2, c, h⟩ := bd_inv h
  refine w_M_longer_2 _ _ ?_ _ _ c
  refine go_iconst 0 12 rfl (by decide) ?_
  refine go_istore_n 13 rfl rfl (Nat.le_of_ble_eq_true rfl) [(0, _), (1, _), (2, _), (3, _)] rfl ?_
  obtain ⟨r15, c, h⟩ := bd_inv h
  refine w_M_longer_23 _ _ ?_ _ _ c
  refine go_iconst 0 122 rfl (by decide) ?_
  refine go_istore_n 123 rfl rfl (Nat.le_of_ble_eq_true rfl) [(0, _), (1, _), (2, _), (3, _)] rfl ?_
  refine go_bipush 8 124 rfl (by decide) ?_
  refine go_istore 125 rfl (Nat.le_of_ble_eq_true rfl) [(0, _), (1, _), (2, _), (3, _), (4, _)] rfl ?_
  obtain ⟨r17, c, h⟩ := bd_inv h
  refine w_M_longer_211 _ _ _ ?_ _ _ c
  refine go_iload_n 139 rfl 3 rfl rfl ?_
  cases h
  exact go_ireturn 140 rfl rfl rfl ⟨rfl, rfl⟩
def X_M_power : MX := (⟨"OmegaDeskModel", "power", "(I)I"⟩, prog_8_method_30_code, 3, some .int, { frames := 0, cells := 0, slots := 0, locals := 0 },
  [(0, .iconst 1, 1), (1, .istore_n 1, 2), (2, .iconst 0, 3), (3, .istore_n 2, 4), (4, .iload_n 2, 5), (5, .iload_n 0, 6), (6, .if_icmp .ge 13, 9), (9, .iconst 3, 10), (10, .iload_n 1, 11), (11, .imul, 12), (12, .istore_n 1, 13), (13, .iinc 2 1, 16), (16, .goto (-12), 19), (19, .iload_n 1, 20), (20, .ireturn, 21)])
set_option maxRecDepth 20000 in
theorem mk_M_power : Mk X_M_power := ⟨by unfold TBk; decide +kernel, by decide +kernel, wb_663, ⟨by decide, by decide⟩, rfl, rfl, wb_6⟩
def b_M_power_4 (c0 : Int32) (s : Int32 × Int32) : Option ((Int32 × Int32) ⊕ (Int32 × Int32)) :=
  if c0 ≤ s.2 then
    some (Sum.inr (s.1, s.2))
  else
    some (Sum.inl (((3 : Int32) * s.1), (s.2 + 1)))
def m_M_power (a0 : Int32) : Option (Int32) :=
  bd (lp (b_M_power_4 a0) ((1 : Int32), (0 : Int32))) fun r1 =>
  some r1.1
set_option maxRecDepth 20000 in
theorem w_M_power_4 {l : Launch} {post : Option PV → Mm → Prop} (c0 : Int32) (M : Mm)  {r : Int32 × Int32} (kk : Go l X_M_power post 19 [(0, vi c0), (1, vi r.1), (2, vi r.2)] [] M) : ∀ (n : Nat) (s : Int32 × Int32), lpN (b_M_power_4 c0) n s = some r → Go l X_M_power post 4 [(0, vi c0), (1, vi s.1), (2, vi s.2)] [] M := by
  intro n
  induction n with
  | zero => intro s hc; exact (lpN_0 hc).elim
  | succ n ih =>
    intro s hc
    obtain ⟨q, h, hc⟩ := lpN_inv hc
    unfold b_M_power_4 at h
    refine go_iload_n 4 rfl 2 rfl rfl ?_
    refine go_iload_n 5 rfl 0 rfl rfl ?_
    refine go_icmp_ge 19 6 rfl (by decide) (fun c => ?_) (fun c => ?_)
    · replace h := ite_t c h
      cases h
      obtain rfl := lpq_r hc
      exact kk
    · replace h := ite_f c h
      refine go_iconst 3 7 rfl (by decide) ?_
      refine go_iload_n 8 rfl 1 rfl rfl ?_
      refine go_imul 9 rfl ?_
      refine go_istore_n 10 rfl rfl (Nat.le_of_ble_eq_true rfl) [(0, _), (1, _), (2, _)] rfl ?_
      refine go_iinc 1 11 rfl 2 rfl (by decide) (Nat.le_of_ble_eq_true rfl) [(0, _), (1, _), (2, _)] rfl ?_
      refine go_goto 4 12 rfl (by decide) ?_
      cases h
      exact ih _ hc
set_option maxRecDepth 20000 in
theorem e_M_power {l : Launch} {a0 : Int32} {M : Mm} {r : Int32}  (h : m_M_power a0 = some r) : Ev l X_M_power [vi a0] M (fun v M2 => v = (some (vi r)) ∧ M2 = M) := by
  refine Ev.of mk_M_power [(0, vi a0)] (fun _ => rfl) (fun _ => (Nat.le_of_ble_eq_true rfl)) ?_
  unfold m_M_power at h
  refine go_iconst 1 0 rfl (by decide) ?_
  refine go_istore_n 1 rfl rfl (Nat.le_of_ble_eq_true rfl) [(0, _), (1, _)] rfl ?_
  refine go_iconst 0 2 rfl (by decide) ?_
  refine go_istore_n 3 rfl rfl (Nat.le_of_ble_eq_true rfl) [(0, _), (1, _), (2, _)] rfl ?_
  obtain ⟨r1, c, h⟩ := bd_inv h
  refine w_M_power_4 _ _ ?_ _ _ c
  refine go_iload_n 13 rfl 1 rfl rfl ?_
  cases h
  exact go_ireturn 14 rfl rfl rfl ⟨rfl, rfl⟩
end
section
def X_M_lead : MX := (⟨"OmegaDeskModel", "lead", "(III)V"⟩, prog_8_method_31_code, 11, none, { frames := 1, cells := 0, slots := 0, locals := 28 },
  [(0, .iload_n 3, 1), (1, .sipush 19683, 4), (4, .idiv, 5), (5, .iconst 2, 6), (6, .idiv, 7), (7, .istore 4, 9), (9, .iload_n 3, 10), (10, .sipush 19683, 13), (13, .idiv, 14), (14, .iconst 2, 15), (15, .irem, 16), (16, .istore 5, 18), (18, .aload_n 0, 19), (19, .iload_n 3, 20), (20, .sipush 19683, 23), (23, .irem, 24), (24, .invokevirtual 109, 27), (27, .iconst 0, 28), (28, .istore 6, 30), (30, .iload 6, 32), (32, .iconst 2, 33), (33, .if_icmp .ge 125, 36), (36, .aload_n 0, 37), (37, .iload_n 2, 38), (38, .iload 6, 40), (40, .invokevirtual 113, 43), (43, .istore 7, 45), (45, .iconst 0, 46), (46, .istore 8, 48), (48, .iload 8, 50), (50, .aload_n 0, 51), (51, .getfield 16, 54), (54, .iload_n 1, 55), (55, .iaload, 56), (56, .if_icmp .ge 96, 59), (59, .aload_n 0, 60), (60, .getfield 7, 63), (63, .bipush 8, 65), (65, .iload_n 1, 66), (66, .imul, 67), (67, .iconst 4, 68), (68, .iload 6, 70), (70, .imul, 71), (71, .iadd, 72), (72, .iload 4, 74), (74, .iadd, 75), (75, .iaload, 76), (76, .iload 8, 78), (78, .ishr, 79), (79, .iconst 1, 80), (80, .iand, 81), (81, .iconst 1, 82), (82, .if_icmp .ne 7, 85), (85, .iconst 1, 86), (86, .goto 4, 89), (89, .iconst 0, 90), (90, .istore 9, 92), (92, .iload 5, 94), (94, .iconst 1, 95), (95, .if_icmp .eq 18, 98), (98, .aload_n 0, 99), (99, .getfield 13, 102), (102, .iload_n 1, 103), (103, .iaload, 104), (104, .iload 8, 106), (106, .ishr, 107), (107, .iconst 1, 108), (108, .iand, 109), (109, .iconst 1, 110), (110, .if_icmp .ne 7, 113), (113, .iconst 1, 114), (114, .goto 4, 117), (117, .iconst 0, 118), (118, .istore 10, 120), (120, .iload 9, 122), (122, .ifCond .eq 24, 125), (125, .aload_n 0, 126), (126, .getfield 29, 129), (129, .sipush 19683, 132), (132, .iconst 2, 133), (133, .iload 8, 135), (135, .imul, 136), (136, .iload 10, 138), (138, .iadd, 139), (139, .imul, 140), (140, .iload 7, 142), (142, .iadd, 143), (143, .invokestatic 99, 146), (146, .iinc 8 1, 149), (149, .goto (-101), 152), (152, .iinc 6 1, 155), (155, .goto (-125), 158), (158, .return_, 159)])
set_option maxRecDepth 20000 in
theorem mk_M_lead : Mk X_M_lead := ⟨by unfold TBk; decide +kernel, by decide +kernel, wb_670, ⟨by decide, by decide⟩, rfl, rfl, wb_6⟩
theorem cv_M_109 : CV "OmegaDeskModel" 109 X_M_spread 1 8 := ⟨Or.inl wb_671, ⟨wb_673, ws_M_spread⟩, by decide +kernel, F_M, 12, rfl⟩
theorem cv_M_113 : CV "OmegaDeskModel" 113 X_M_longer 2 8 := ⟨Or.inl wb_675, ⟨wb_677, ws_M_longer⟩, by decide +kernel, F_M, 12, rfl⟩
theorem fg_M_29 : FG "OmegaDeskModel" 29 8 8 := ⟨R_M, F_M, 12, rfl, by decide, uw_M, Or.inl wb_533⟩
theorem cs_M_99 : CS "OmegaDeskModel" 99 X_M_mark 2 := ⟨Or.inl wb_664, wb_665, by decide +kernel⟩
def b_M_lead_48 (c1 : Int32) (c4 : Int32) (c5 : Int32) (c6 : Int32) (c7 : Int32) (s : Int32 × Mm) : Option ((Int32 × Mm) ⊕ (Int32 × Mm)) :=
  ck (inb c1 (lenI 18)) <|
  if (s.2.1 (1, 18) c1.toNatClampNeg) ≤ s.1 then
    some (Sum.inr (s.1, s.2))
  else
    ck (inb ((((8 : Int32) * c1) + ((4 : Int32) * c6)) + c4) (lenI 16)) <|
    if (((s.2.1 (1, 16) ((((8 : Int32) * c1) + ((4 : Int32) * c6)) + c4).toNatClampNeg) >>> (s.1 &&& 31)) &&& (1 : Int32)) = (1 : Int32) then
      if c5 = (1 : Int32) then
        bd (m_M_mark 2 (((19683 : Int32) * (((2 : Int32) * s.1) + (1 : Int32))) + c7) s.2) fun r4 =>
        some (Sum.inl ((s.1 + 1), r4))
      else
        ck (inb c1 (lenI 17)) <|
        if (((s.2.1 (1, 17) c1.toNatClampNeg) >>> (s.1 &&& 31)) &&& (1 : Int32)) = (1 : Int32) then
          bd (m_M_mark 2 (((19683 : Int32) * (((2 : Int32) * s.1) + (1 : Int32))) + c7) s.2) fun r6 =>
          some (Sum.inl ((s.1 + 1), r6))
        else
          bd (m_M_mark 2 (((19683 : Int32) * (((2 : Int32) * s.1) + (0 : Int32))) + c7) s.2) fun r5 =>
          some (Sum.inl ((s.1 + 1), r5))
    else
      if c5 = (1 : Int32) then
        some (Sum.inl ((s.1 + 1), s.2))
      else
        ck (inb c1 (lenI 17)) <|
        if (((s.2.1 (1, 17) c1.toNatClampNeg) >>> (s.1 &&& 31)) &&& (1 : Int32)) = (1 : Int32) then
          some (Sum.inl ((s.1 + 1), s.2))
        else
          some (Sum.inl ((s.1 + 1), s.2))
def b_M_lead_30 (c1 : Int32) (c2 : Int32) (c4 : Int32) (c5 : Int32) (s : Int32 × Mm) : Option ((Int32 × Mm) ⊕ (Int32 × Mm)) :=
  if (2 : Int32) ≤ s.1 then
    some (Sum.inr (s.1, s.2))
  else
    bd (m_M_longer c2 s.1 s.2) fun r3 =>
    bd (lp (b_M_lead_48 c1 c4 c5 s.1 r3.1) ((0 : Int32), r3.2)) fun r7 =>
    some (Sum.inl ((s.1 + 1), r7.2))
def m_M_lead (a1 : Int32) (a2 : Int32) (a3 : Int32) (M : Mm) : Option (Mm) :=
  bd (some ((a3 / (19683 : Int32)) - (a3 / (19683 : Int32)) / (2 : Int32) * (2 : Int32))) fun x1 =>
  bd (m_M_spread (a3 - a3 / (19683 : Int32) * (19683 : Int32)) M) fun r2 =>
  bd (lp (b_M_lead_30 a1 a2 ((a3 / (19683 : Int32)) / (2 : Int32)) x1) ((0 : Int32), r2)) fun r8 =>
  some r8.2
set_option maxRecDepth 20000 in
theorem w_M_lead_48 {l : Launch} {post : Option PV → Mm → Prop} (c1 : Int32) (c2 : Int32) (c3 : Int32) (c4 : Int32) (c5 : Int32) (c6 : Int32) (c7 : Int32)  {r : Int32 × Mm} (kk : Go l X_M_lead post 152 [(0, vr 8 0), (1, vi c1), (2, vi c2), (3, vi c3), (4, vi c4), (5, vi c5), (6, vi c6), (7, vi c7), (8, vi r.1)] [] r.2) : ∀ (n : Nat) (s : Int32 × Mm), lpN (b_M_lead_48 c1 c4 c5 c6 c7) n s = some r → Go l X_M_lead post 48 [(0, vr 8 0), (1, vi c1), (2, vi c2), (3, vi c3), (4, vi c4), (5, vi c5), (6, vi c6), (7, vi c7), (8, vi s.1)] [] s.2 := by
  intro n
  induction n with
  | zero => intro s hc; exact (lpN_0 hc).elim
  | succ n ih =>
    intro s hc
    obtain ⟨q, h, hc⟩ := lpN_inv hc
    unfold b_M_lead_48 at h
    refine go_iload 29 rfl 8 rfl ?_
    refine go_aload_n 30 rfl 0 rfl rfl ?_
    refine go_getfield 3 _ 31 rfl (by first | decide | exact ok0 (by omega) | exact ok1 (by omega) | exact ok2 (by omega) | exact ok7 (by omega)) rfl fg_M_16 rfl ?_
    refine go_iload_n 32 rfl 1 rfl rfl ?_
    obtain ⟨c, h⟩ := ck_inv h
    refine go_iaload 33 rfl (by first | decide | exact ok0 (by omega) | exact ok1 (by omega) | exact ok2 (by omega) | exact ok7 (by omega)) (inb_vp c) ?_
    refine go_icmp_ge 152 34 rfl (by decide) (fun c => ?_) (fun c => ?_)
    · replace h := ite_t c h
      cases h
      obtain rfl := lpq_r hc
      exact kk
    · replace h := ite_f c h
      refine go_aload_n 35 rfl 0 rfl rfl ?_
      refine go_getfield 1 _ 36 rfl (by first | decide | exact ok0 (by omega) | exact ok1 (by omega) | exact ok2 (by omega) | exact ok7 (by omega)) rfl fg_M_7 rfl ?_
      refine go_bipush 8 37 rfl (by decide) ?_
      refine go_iload_n 38 rfl 1 rfl rfl ?_
      refine go_imul 39 rfl ?_
      refine go_iconst 4 40 rfl (by decide) ?_
      refine go_iload 41 rfl 6 rfl ?_
      refine go_imul 42 rfl ?_
      refine go_iadd 43 rfl ?_
      refine go_iload 44 rfl 4 rfl ?_
      refine go_iadd 45 rfl ?_
      obtain ⟨c, h⟩ := ck_inv h
      refine go_iaload 46 rfl (by first | decide | exact ok0 (by omega) | exact ok1 (by omega) | exact ok2 (by omega) | exact ok7 (by omega)) (inb_vp c) ?_
      refine go_iload 47 rfl 8 rfl ?_
      refine go_ishr 48 rfl ?_
      refine go_iconst 1 49 rfl (by decide) ?_
      refine go_iand 50 rfl ?_
      refine go_iconst 1 51 rfl (by decide) ?_
      refine go_icmp_ne 89 52 rfl (by decide) (fun c => ?_) (fun c => ?_)
      · replace h := ite_f c h
        refine go_iconst 0 55 rfl (by decide) ?_
        refine go_istore 56 rfl (Nat.le_of_ble_eq_true rfl) [(0, _), (1, _), (2, _), (3, _), (4, _), (5, _), (6, _), (7, _), (8, _), (9, _)] rfl ?_
        refine go_iload 57 rfl 5 rfl ?_
        refine go_iconst 1 58 rfl (by decide) ?_
        refine go_icmp_eq 113 59 rfl (by decide) (fun c => ?_) (fun c => ?_)
        · replace h := ite_t c h
          refine go_iconst 1 70 rfl (by decide) ?_
          refine go_goto 118 71 rfl (by decide) ?_
          refine go_istore 73 rfl (Nat.le_of_ble_eq_true rfl) [(0, _), (1, _), (2, _), (3, _), (4, _), (5, _), (6, _), (7, _), (8, _), (9, _), (10, _)] rfl ?_
          refine go_iload 74 rfl 9 rfl ?_
          refine go_if_eq 146 75 rfl (by decide) (fun _ => ?_) (fun c => absurd c (by decide))
          refine go_iinc 1 88 rfl 8 rfl (by decide) (Nat.le_of_ble_eq_true rfl) [(0, _), (1, _), (2, _), (3, _), (4, _), (5, _), (6, _), (7, _), (8, _), (9, _), (10, _)] rfl ?_
          refine go_goto 48 89 rfl (by decide) ?_
          cases h
          refine go_sub [0, 1, 2, 3, 4, 5, 6, 7, 8] rfl ?_
          have g9 := ih _ hc
          exact g9
        · replace h := ite_f c h
          refine go_aload_n 60 rfl 0 rfl rfl ?_
          refine go_getfield 2 _ 61 rfl (by first | decide | exact ok0 (by omega) | exact ok1 (by omega) | exact ok2 (by omega) | exact ok7 (by omega)) rfl fg_M_13 rfl ?_
          refine go_iload_n 62 rfl 1 rfl rfl ?_
          obtain ⟨c, h⟩ := ck_inv h
          refine go_iaload 63 rfl (by first | decide | exact ok0 (by omega) | exact ok1 (by omega) | exact ok2 (by omega) | exact ok7 (by omega)) (inb_vp c) ?_
          refine go_iload 64 rfl 8 rfl ?_
          refine go_ishr 65 rfl ?_
          refine go_iconst 1 66 rfl (by decide) ?_
          refine go_iand 67 rfl ?_
          refine go_iconst 1 68 rfl (by decide) ?_
          refine go_icmp_ne 117 69 rfl (by decide) (fun c => ?_) (fun c => ?_)
          · replace h := ite_f c h
            refine go_iconst 0 72 rfl (by decide) ?_
            refine go_istore 73 rfl (Nat.le_of_ble_eq_true rfl) [(0, _), (1, _), (2, _), (3, _), (4, _), (5, _), (6, _), (7, _), (8, _), (9, _), (10, _)] rfl ?_
            refine go_iload 74 rfl 9 rfl ?_
            refine go_if_eq 146 75 rfl (by decide) (fun _ => ?_) (fun c => absurd c (by decide))
            refine go_iinc 1 88 rfl 8 rfl (by decide) (Nat.le_of_ble_eq_true rfl) [(0, _), (1, _), (2, _), (3, _), (4, _), (5, _), (6, _), (7, _), (8, _), (9, _), (10, _)] rfl ?_
            refine go_goto 48 89 rfl (by decide) ?_
            cases h
            refine go_sub [0, 1, 2, 3, 4, 5, 6, 7, 8] rfl ?_
            have g9 := ih _ hc
            exact g9
          · replace h := ite_t c h
            refine go_iconst 1 70 rfl (by decide) ?_
            refine go_goto 118 71 rfl (by decide) ?_
            refine go_istore 73 rfl (Nat.le_of_ble_eq_true rfl) [(0, _), (1, _), (2, _), (3, _), (4, _), (5, _), (6, _), (7, _), (8, _), (9, _), (10, _)] rfl ?_
            refine go_iload 74 rfl 9 rfl ?_
            refine go_if_eq 146 75 rfl (by decide) (fun _ => ?_) (fun c => absurd c (by decide))
            refine go_iinc 1 88 rfl 8 rfl (by decide) (Nat.le_of_ble_eq_true rfl) [(0, _), (1, _), (2, _), (3, _), (4, _), (5, _), (6, _), (7, _), (8, _), (9, _), (10, _)] rfl ?_
            refine go_goto 48 89 rfl (by decide) ?_
            cases h
            refine go_sub [0, 1, 2, 3, 4, 5, 6, 7, 8] rfl ?_
            have g9 := ih _ hc
            exact g9
      · replace h := ite_t c h
        refine go_iconst 1 53 rfl (by decide) ?_
        refine go_goto 90 54 rfl (by decide) ?_
        refine go_istore 56 rfl (Nat.le_of_ble_eq_true rfl) [(0, _), (1, _), (2, _), (3, _), (4, _), (5, _), (6, _), (7, _), (8, _), (9, _)] rfl ?_
        refine go_iload 57 rfl 5 rfl ?_
        refine go_iconst 1 58 rfl (by decide) ?_
        refine go_icmp_eq 113 59 rfl (by decide) (fun c => ?_) (fun c => ?_)
        · replace h := ite_t c h
          refine go_iconst 1 70 rfl (by decide) ?_
          refine go_goto 118 71 rfl (by decide) ?_
          refine go_istore 73 rfl (Nat.le_of_ble_eq_true rfl) [(0, _), (1, _), (2, _), (3, _), (4, _), (5, _), (6, _), (7, _), (8, _), (9, _), (10, _)] rfl ?_
          refine go_iload 74 rfl 9 rfl ?_
          refine go_if_eq 146 75 rfl (by decide) (fun c => absurd c (by decide)) (fun _ => ?_)
          refine go_aload_n 76 rfl 0 rfl rfl ?_
          refine go_getfield 8 _ 77 rfl (by first | decide | exact ok0 (by omega) | exact ok1 (by omega) | exact ok2 (by omega) | exact ok7 (by omega)) rfl fg_M_29 rfl ?_
          refine go_sipush 19683 78 rfl (by decide) ?_
          refine go_iconst 2 79 rfl (by decide) ?_
          refine go_iload 80 rfl 8 rfl ?_
          refine go_imul 81 rfl ?_
          refine go_iload 82 rfl 10 rfl ?_
          refine go_iadd 83 rfl ?_
          refine go_imul 84 rfl ?_
          refine go_iload 85 rfl 7 rfl ?_
          refine go_iadd 86 rfl ?_
          obtain ⟨r4, c, h⟩ := bd_inv h
          refine go_callS1 _ 87 rfl (e_M_mark (by omega) c) mk_M_mark cs_M_99 rfl ⟨(Nat.le_of_ble_eq_true rfl), (Nat.le_of_ble_eq_true rfl)⟩ (Nat.le_of_ble_eq_true rfl) rfl ?_
          refine go_iinc 1 88 rfl 8 rfl (by decide) (Nat.le_of_ble_eq_true rfl) [(0, _), (1, _), (2, _), (3, _), (4, _), (5, _), (6, _), (7, _), (8, _), (9, _), (10, _)] rfl ?_
          refine go_goto 48 89 rfl (by decide) ?_
          cases h
          refine go_sub [0, 1, 2, 3, 4, 5, 6, 7, 8] rfl ?_
          have g9 := ih _ hc
          exact g9
        · replace h := ite_f c h
          refine go_aload_n 60 rfl 0 rfl rfl ?_
          refine go_getfield 2 _ 61 rfl (by first | decide | exact ok0 (by omega) | exact ok1 (by omega) | exact ok2 (by omega) | exact ok7 (by omega)) rfl fg_M_13 rfl ?_
          refine go_iload_n 62 rfl 1 rfl rfl ?_
          obtain ⟨c, h⟩ := ck_inv h
          refine go_iaload 63 rfl (by first | decide | exact ok0 (by omega) | exact ok1 (by omega) | exact ok2 (by omega) | exact ok7 (by omega)) (inb_vp c) ?_
          refine go_iload 64 rfl 8 rfl ?_
          refine go_ishr 65 rfl ?_
          refine go_iconst 1 66 rfl (by decide) ?_
          refine go_iand 67 rfl ?_
          refine go_iconst 1 68 rfl (by decide) ?_
          refine go_icmp_ne 117 69 rfl (by decide) (fun c => ?_) (fun c => ?_)
          · replace h := ite_f c h
            refine go_iconst 0 72 rfl (by decide) ?_
            refine go_istore 73 rfl (Nat.le_of_ble_eq_true rfl) [(0, _), (1, _), (2, _), (3, _), (4, _), (5, _), (6, _), (7, _), (8, _), (9, _), (10, _)] rfl ?_
            refine go_iload 74 rfl 9 rfl ?_
            refine go_if_eq 146 75 rfl (by decide) (fun c => absurd c (by decide)) (fun _ => ?_)
            refine go_aload_n 76 rfl 0 rfl rfl ?_
            refine go_getfield 8 _ 77 rfl (by first | decide | exact ok0 (by omega) | exact ok1 (by omega) | exact ok2 (by omega) | exact ok7 (by omega)) rfl fg_M_29 rfl ?_
            refine go_sipush 19683 78 rfl (by decide) ?_
            refine go_iconst 2 79 rfl (by decide) ?_
            refine go_iload 80 rfl 8 rfl ?_
            refine go_imul 81 rfl ?_
            refine go_iload 82 rfl 10 rfl ?_
            refine go_iadd 83 rfl ?_
            refine go_imul 84 rfl ?_
            refine go_iload 85 rfl 7 rfl ?_
            refine go_iadd 86 rfl ?_
            obtain ⟨r5, c, h⟩ := bd_inv h
            refine go_callS1 _ 87 rfl (e_M_mark (by omega) c) mk_M_mark cs_M_99 rfl ⟨(Nat.le_of_ble_eq_true rfl), (Nat.le_of_ble_eq_true rfl)⟩ (Nat.le_of_ble_eq_true rfl) rfl ?_
            refine go_iinc 1 88 rfl 8 rfl (by decide) (Nat.le_of_ble_eq_true rfl) [(0, _), (1, _), (2, _), (3, _), (4, _), (5, _), (6, _), (7, _), (8, _), (9, _), (10, _)] rfl ?_
            refine go_goto 48 89 rfl (by decide) ?_
            cases h
            refine go_sub [0, 1, 2, 3, 4, 5, 6, 7, 8] rfl ?_
            have g9 := ih _ hc
            exact g9
          · replace h := ite_t c h
            refine go_iconst 1 70 rfl (by decide) ?_
            refine go_goto 118 71 rfl (by decide) ?_
            refine go_istore 73 rfl (Nat.le_of_ble_eq_true rfl) [(0, _), (1, _), (2, _), (3, _), (4, _), (5, _), (6, _), (7, _), (8, _), (9, _), (10, _)] rfl ?_
            refine go_iload 74 rfl 9 rfl ?_
            refine go_if_eq 146 75 rfl (by decide) (fun c => absurd c (by decide)) (fun _ => ?_)
            refine go_aload_n 76 rfl 0 rfl rfl ?_
            refine go_getfield 8 _ 77 rfl (by first | decide | exact ok0 (by omega) | exact ok1 (by omega) | exact ok2 (by omega) | exact ok7 (by omega)) rfl fg_M_29 rfl ?_
            refine go_sipush 19683 78 rfl (by decide) ?_
            refine go_iconst 2 79 rfl (by decide) ?_
            refine go_iload 80 rfl 8 rfl ?_
            refine go_imul 81 rfl ?_
            refine go_iload 82 rfl 10 rfl ?_
            refine go_iadd 83 rfl ?_
            refine go_imul 84 rfl ?_
            refine go_iload 85 rfl 7 rfl ?_
            refine go_iadd 86 rfl ?_
            obtain ⟨r6, c, h⟩ := bd_inv h
            refine go_callS1 _ 87 rfl (e_M_mark (by omega) c) mk_M_mark cs_M_99 rfl ⟨(Nat.le_of_ble_eq_true rfl), (Nat.le_of_ble_eq_true rfl)⟩ (Nat.le_of_ble_eq_true rfl) rfl ?_
            refine go_iinc 1 88 rfl 8 rfl (by decide) (Nat.le_of_ble_eq_true rfl) [(0, _), (1, _), (2, _), (3, _), (4, _), (5, _), (6, _), (7, _), (8, _), (9, _), (10, _)] rfl ?_
            refine go_goto 48 89 rfl (by decide) ?_
            cases h
            refine go_sub [0, 1, 2, 3, 4, 5, 6, 7, 8] rfl ?_
            have g9 := ih _ hc
            exact g9
set_option maxRecDepth 20000 in
theorem w_M_lead_30 {l : Launch} {post : Option PV → Mm → Prop} (c1 : Int32) (c2 : Int32) (c3 : Int32) (c4 : Int32) (c5 : Int32)  {r : Int32 × Mm} (kk : Go l X_M_lead post 158 [(0, vr 8 0), (1, vi c1), (2, vi c2), (3, vi c3), (4, vi c4), (5, vi c5), (6, vi r.1)] [] r.2) : ∀ (n : Nat) (s : Int32 × Mm), lpN (b_M_lead_30 c1 c2 c4 c5) n s = some r → Go l X_M_lead post 30 [(0, vr 8 0), (1, vi c1), (2, vi c2), (3, vi c3), (4, vi c4), (5, vi c5), (6, vi s.1)] [] s.2 := by
  intro n
  induction n with
  | zero => intro s hc; exact (lpN_0 hc).elim
  | succ n ih =>
    intro s hc
    obtain ⟨q, h, hc⟩ := lpN_inv hc
    unfold b_M_lead_30 at h
    refine go_iload 19 rfl 6 rfl ?_
    refine go_iconst 2 20 rfl (by decide) ?_
    refine go_icmp_ge 158 21 rfl (by decide) (fun c => ?_) (fun c => ?_)
    · replace h := ite_t c h
      cases h
      obtain rfl := lpq_r hc
      exact kk
    · replace h := ite_f c h
      refine go_aload_n 22 rfl 0 rfl rfl ?_
      refine go_iload_n 23 rfl 2 rfl rfl ?_
      refine go_iload 24 rfl 6 rfl ?_
      obtain ⟨r3, c, h⟩ := bd_inv h
      refine go_callV1 _ 25 rfl (e_M_longer c) mk_M_longer (by first | decide | exact ok0 (by omega) | exact ok1 (by omega) | exact ok2 (by omega) | exact ok7 (by omega)) rfl cv_M_113 rfl ⟨(Nat.le_of_ble_eq_true rfl), (Nat.le_of_ble_eq_true rfl)⟩ (Nat.le_of_ble_eq_true rfl) rfl ?_
      refine go_istore 26 rfl (Nat.le_of_ble_eq_true rfl) [(0, _), (1, _), (2, _), (3, _), (4, _), (5, _), (6, _), (7, _)] rfl ?_
      refine go_iconst 0 27 rfl (by decide) ?_
      refine go_istore 28 rfl (Nat.le_of_ble_eq_true rfl) [(0, _), (1, _), (2, _), (3, _), (4, _), (5, _), (6, _), (7, _), (8, _)] rfl ?_
      obtain ⟨r7, c, h⟩ := bd_inv h
      refine w_M_lead_48 _ _ _ _ _ _ _ ?_ _ _ c
      refine go_iinc 1 90 rfl 6 rfl (by decide) (Nat.le_of_ble_eq_true rfl) [(0, _), (1, _), (2, _), (3, _), (4, _), (5, _), (6, _), (7, _), (8, _)] rfl ?_
      refine go_goto 30 91 rfl (by decide) ?_
      cases h
      refine go_sub [0, 1, 2, 3, 4, 5, 6] rfl ?_
      have g9 := ih _ hc
      exact g9
set_option maxRecDepth 20000 in
theorem e_M_lead {l : Launch} {a1 : Int32} {a2 : Int32} {a3 : Int32} {M : Mm} {r : Mm}  (h : m_M_lead a1 a2 a3 M = some r) : Ev l X_M_lead [vr 8 0, vi a1, vi a2, vi a3] M (fun v M2 => v = none ∧ M2 = r) := by
  refine Ev.of mk_M_lead [(0, vr 8 0), (1, vi a1), (2, vi a2), (3, vi a3)] (fun _ => rfl) (fun _ => (Nat.le_of_ble_eq_true rfl)) ?_
  unfold m_M_lead at h
  refine go_iload_n 0 rfl 3 rfl rfl ?_
  refine go_sipush 19683 1 rfl (by decide) ?_
  refine go_idiv 2 rfl (by decide) ?_
  refine go_iconst 2 3 rfl (by decide) ?_
  refine go_idiv 4 rfl (by decide) ?_
  refine go_istore 5 rfl (Nat.le_of_ble_eq_true rfl) [(0, _), (1, _), (2, _), (3, _), (4, _)] rfl ?_
  refine go_iload_n 6 rfl 3 rfl rfl ?_
  refine go_sipush 19683 7 rfl (by decide) ?_
  refine go_idiv 8 rfl (by decide) ?_
  refine go_iconst 2 9 rfl (by decide) ?_
  refine go_irem 10 rfl (by decide) ?_
  obtain ⟨_, c, h⟩ := bd_inv h
  cases c
  refine go_istore 11 rfl (Nat.le_of_ble_eq_true rfl) [(0, _), (1, _), (2, _), (3, _), (4, _), (5, _)] rfl ?_
  refine go_aload_n 12 rfl 0 rfl rfl ?_
  refine go_iload_n 13 rfl 3 rfl rfl ?_
  refine go_sipush 19683 14 rfl (by decide) ?_
  refine go_irem 15 rfl (by decide) ?_
  obtain ⟨r2, c, h⟩ := bd_inv h
  refine go_callV1 _ 16 rfl (e_M_spread c) mk_M_spread (by first | decide | exact ok0 (by omega) | exact ok1 (by omega) | exact ok2 (by omega) | exact ok7 (by omega)) rfl cv_M_109 rfl ⟨(Nat.le_of_ble_eq_true rfl), (Nat.le_of_ble_eq_true rfl)⟩ (Nat.le_of_ble_eq_true rfl) rfl ?_
  refine go_iconst 0 17 rfl (by decide) ?_
  refine go_istore 18 rfl (Nat.le_of_ble_eq_true rfl) [(0, _), (1, _), (2, _), (3, _), (4, _), (5, _), (6, _)] rfl ?_
  obtain ⟨r8, c, h⟩ := bd_inv h
  refine w_M_lead_30 _ _ _ _ _ ?_ _ _ c
  cases h
  exact go_return 92 rfl rfl ⟨rfl, rfl⟩
def X_M_gather : MX := (⟨"OmegaDeskModel", "gather", "(III)V"⟩, prog_8_method_29_code, 8, none, { frames := 2, cells := 0, slots := 0, locals := 58 },
  [(0, .iconst 0, 1), (1, .istore 4, 3), (3, .iload 4, 5), (5, .sipush 2461, 8), (8, .if_icmp .ge 25, 11), (11, .aload_n 0, 12), (12, .getfield 22, 15), (15, .iload 4, 17), (17, .lconst 0, 18), (18, .lastore, 19), (19, .aload_n 0, 20), (20, .getfield 26, 23), (23, .iload 4, 25), (25, .lconst 0, 26), (26, .lastore, 27), (27, .iinc 4 1, 30), (30, .goto (-27), 33), (33, .iconst 0, 34), (34, .istore 4, 36), (36, .iconst 2, 37), (37, .istore 5, 39), (39, .iload 5, 41), (41, .ifCond .lt 37, 44), (44, .iload 5, 46), (46, .aload_n 0, 47), (47, .getfield 16, 50), (50, .iload_n 2, 51), (51, .iaload, 52), (52, .if_icmp .ge 16, 55), (55, .iload 4, 57), (57, .iconst 4, 58), (58, .iload 5, 60), (60, .imul, 61), (61, .invokestatic 96, 64), (64, .iadd, 65), (65, .goto 5, 68), (68, .iload 4, 70), (70, .istore 4, 72), (72, .iinc 5 (-1), 75), (75, .goto (-36), 78), (78, .aload_n 0, 79), (79, .getfield 26, 82), (82, .sipush 19683, 85), (85, .iconst 2, 86), (86, .iload_n 3, 87), (87, .imul, 88), (88, .imul, 89), (89, .iload 4, 91), (91, .iadd, 92), (92, .invokestatic 99, 95), (95, .iconst 1, 96), (96, .istore 5, 98), (98, .iload 5, 100), (100, .ifCond .eq 199, 103), (103, .iconst 0, 104), (104, .istore 6, 106), (106, .iload 6, 108), (108, .sipush 2461, 111), (111, .if_icmp .ge 39, 114), (114, .aload_n 0, 115), (115, .getfield 22, 118), (118, .iload 6, 120), (120, .aload_n 0, 121), (121, .getfield 22, 124), (124, .iload 6, 126), (126, .laload, 127), (127, .aload_n 0, 128), (128, .getfield 26, 131), (131, .iload 6, 133), (133, .laload, 134), (134, .lor, 135), (135, .lastore, 136), (136, .aload_n 0, 137), (137, .getfield 29, 140), (140, .iload 6, 142), (142, .lconst 0, 143), (143, .lastore, 144), (144, .iinc 6 1, 147), (147, .goto (-41), 150), (150, .iconst 0, 151), (151, .istore 6, 153), (153, .iload 6, 155), (155, .sipush 2461, 158), (158, .if_icmp .ge 68, 161), (161, .iconst 0, 162), (162, .istore 7, 164), (164, .iload 7, 166), (166, .bipush 64, 168), (168, .if_icmp .ge 52, 171), (171, .aload_n 0, 172), (172, .getfield 26, 175), (175, .iload 6, 177), (177, .laload, 178), (178, .lconst 0, 179), (179, .lcmp, 180), (180, .ifCond .eq 40, 183), (183, .aload_n 0, 184), (184, .getfield 26, 187), (187, .iload 6, 189), (189, .laload, 190), (190, .iload 7, 192), (192, .lshr, 193), (193, .lconst 1, 194), (194, .land, 195), (195, .lconst 1, 196), (196, .lcmp, 197), (197, .ifCond .ne 17, 200), (200, .aload_n 0, 201), (201, .iload_n 1, 202), (202, .iload_n 2, 203), (203, .bipush 64, 205), (205, .iload 6, 207), (207, .imul, 208), (208, .iload 7, 210), (210, .iadd, 211), (211, .invokevirtual 103, 214), (214, .iinc 7 1, 217), (217, .goto (-53), 220), (220, .iinc 6 1, 223), (223, .goto (-70), 226), (226, .iconst 0, 227), (227, .istore 5, 229), (229, .iconst 0, 230), (230, .istore 6, 232), (232, .iload 6, 234), (234, .sipush 2461, 237), (237, .if_icmp .ge 59, 240), (240, .aload_n 0, 241), (241, .getfield 26, 244), (244, .iload 6, 246), (246, .aload_n 0, 247), (247, .getfield 29, 250), (250, .iload 6, 252), (252, .laload, 253), (253, .aload_n 0, 254), (254, .getfield 22, 257), (257, .iload 6, 259), (259, .laload, 260), (260, .ldc2_w 107, 263), (263, .lxor, 264), (264, .land, 265), (265, .lastore, 266), (266, .iload 5, 268), (268, .ifCond .ne 15, 271), (271, .aload_n 0, 272), (272, .getfield 26, 275), (275, .iload 6, 277), (277, .laload, 278), (278, .lconst 0, 279), (279, .lcmp, 280), (280, .ifCond .eq 7, 283), (283, .iconst 1, 284), (284, .goto 4, 287), (287, .iconst 0, 288), (288, .istore 5, 290), (290, .iinc 6 1, 293), (293, .goto (-61), 296), (296, .goto (-198), 299), (299, .return_, 300)])
set_option maxRecDepth 20000 in
theorem mk_M_gather : Mk X_M_gather := ⟨by unfold TBk; decide +kernel, by decide +kernel, wb_660, ⟨by decide, by decide⟩, rfl, rfl, wb_6⟩
theorem fg_M_22 : FG "OmegaDeskModel" 22 8 6 := ⟨R_M, F_M, 12, rfl, by decide, uw_M, Or.inl wb_531⟩
theorem fg_M_26 : FG "OmegaDeskModel" 26 8 7 := ⟨R_M, F_M, 12, rfl, by decide, uw_M, Or.inl wb_532⟩
theorem cs_M_96 : CS "OmegaDeskModel" 96 X_M_power 1 := ⟨Or.inl wb_661, wb_662, by decide +kernel⟩
theorem cv_M_103 : CV "OmegaDeskModel" 103 X_M_lead 3 8 := ⟨Or.inl wb_667, ⟨wb_669, ws_M_lead⟩, by decide +kernel, F_M, 12, rfl⟩
def b_M_gather_3 (s : Int32 × Mm) : Option ((Int32 × Mm) ⊕ (Int32 × Mm)) :=
  if (2461 : Int32) ≤ s.1 then
    some (Sum.inr (s.1, s.2))
  else
    ck (inb s.1 (lenL 0)) <|
    bd (some (uL s.2 (2, 0) s.1.toNatClampNeg (0 : Int64))) fun M1 =>
    ck (inb s.1 (lenL 1)) <|
    bd (some (uL M1 (2, 1) s.1.toNatClampNeg (0 : Int64))) fun M2 =>
    some (Sum.inl ((s.1 + 1), M2))
def b_M_gather_39 (c2 : Int32) (M : Mm) (s : Int32 × Int32) : Option ((Int32 × Int32) ⊕ (Int32 × Int32)) :=
  if s.2 < 0 then
    some (Sum.inr (s.1, s.2))
  else
    ck (inb c2 (lenI 18)) <|
    if (M.1 (1, 18) c2.toNatClampNeg) ≤ s.2 then
      some (Sum.inl (s.1, (s.2 + (-1))))
    else
      bd (m_M_power ((4 : Int32) * s.2)) fun r4 =>
      some (Sum.inl ((s.1 + r4), (s.2 + (-1))))
def b_M_gather_106 (s : Int32 × Mm) : Option ((Int32 × Mm) ⊕ (Int32 × Mm)) :=
  if (2461 : Int32) ≤ s.1 then
    some (Sum.inr (s.1, s.2))
  else
    ck (inb s.1 (lenL 0)) <|
    ck (inb s.1 (lenL 1)) <|
    ck (inb s.1 (lenL 0)) <|
    bd (some (uL s.2 (2, 0) s.1.toNatClampNeg ((s.2.2 (2, 0) s.1.toNatClampNeg) ||| (s.2.2 (2, 1) s.1.toNatClampNeg)))) fun M7 =>
    ck (inb s.1 (lenL 2)) <|
    bd (some (uL M7 (2, 2) s.1.toNatClampNeg (0 : Int64))) fun M8 =>
    some (Sum.inl ((s.1 + 1), M8))
def b_M_gather_164 (c1 : Int32) (c2 : Int32) (c6 : Int32) (s : Int32 × Mm) : Option ((Int32 × Mm) ⊕ (Int32 × Mm)) :=
  if (64 : Int32) ≤ s.1 then
    some (Sum.inr (s.1, s.2))
  else
    ck (inb c6 (lenL 1)) <|
    if (lg_cmp (s.2.2 (2, 1) c6.toNatClampNeg) (0 : Int64)) = 0 then
      some (Sum.inr (s.1, s.2))
    else
      ck (inb c6 (lenL 1)) <|
      if (lg_cmp (((s.2.2 (2, 1) c6.toNatClampNeg) >>> (s.1.toInt64 &&& 63)) &&& (1 : Int64)) (1 : Int64)) = 0 then
        bd (m_M_lead c1 c2 (((64 : Int32) * c6) + s.1) s.2) fun r10 =>
        some (Sum.inl ((s.1 + 1), r10))
      else
        some (Sum.inl ((s.1 + 1), s.2))
def b_M_gather_153 (c1 : Int32) (c2 : Int32) (s : Int32 × Mm) : Option ((Int32 × Mm) ⊕ (Int32 × Mm)) :=
  if (2461 : Int32) ≤ s.1 then
    some (Sum.inr (s.1, s.2))
  else
    bd (lp (b_M_gather_164 c1 c2 s.1) ((0 : Int32), s.2)) fun r11 =>
    some (Sum.inl ((s.1 + 1), r11.2))
def b_M_gather_232 (s : Int32 × Int32 × Mm) : Option ((Int32 × Int32 × Mm) ⊕ (Int32 × Int32 × Mm)) :=
  if (2461 : Int32) ≤ s.2.1 then
    some (Sum.inr (s.1, s.2.1, s.2.2))
  else
    ck (inb s.2.1 (lenL 2)) <|
    ck (inb s.2.1 (lenL 0)) <|
    ck (inb s.2.1 (lenL 1)) <|
    bd (some (uL s.2.2 (2, 1) s.2.1.toNatClampNeg ((s.2.2.2 (2, 2) s.2.1.toNatClampNeg) &&& ((s.2.2.2 (2, 0) s.2.1.toNatClampNeg) ^^^ (-1 : Int64))))) fun M13 =>
    if s.1 = 0 then
      ck (inb s.2.1 (lenL 1)) <|
      if (lg_cmp (M13.2 (2, 1) s.2.1.toNatClampNeg) (0 : Int64)) = 0 then
        some (Sum.inl ((0 : Int32), (s.2.1 + 1), M13))
      else
        some (Sum.inl ((1 : Int32), (s.2.1 + 1), M13))
    else
      some (Sum.inl ((1 : Int32), (s.2.1 + 1), M13))
def b_M_gather_98 (c1 : Int32) (c2 : Int32) (s : Int32 × Mm) : Option ((Int32 × Mm) ⊕ (Int32 × Mm)) :=
  if s.1 = 0 then
    some (Sum.inr (s.1, s.2))
  else
    bd (lp (b_M_gather_106) ((0 : Int32), s.2)) fun r9 =>
    bd (lp (b_M_gather_153 c1 c2) ((0 : Int32), r9.2)) fun r12 =>
    bd (lp (b_M_gather_232) ((0 : Int32), (0 : Int32), r12.2)) fun r14 =>
    some (Sum.inl (r14.1, r14.2.2))
def m_M_gather (a1 : Int32) (a2 : Int32) (a3 : Int32) (M : Mm) : Option (Mm) :=
  bd (lp (b_M_gather_3) ((0 : Int32), M)) fun r3 =>
  bd (lp (b_M_gather_39 a2 r3.2) ((0 : Int32), (2 : Int32))) fun r5 =>
  bd (m_M_mark 1 (((19683 : Int32) * ((2 : Int32) * a3)) + r5.1) r3.2) fun r6 =>
  bd (lp (b_M_gather_98 a1 a2) ((1 : Int32), r6)) fun r15 =>
  some r15.2
set_option maxRecDepth 20000 in
theorem w_M_gather_3 {l : Launch} {post : Option PV → Mm → Prop} (c1 : Int32) (c2 : Int32) (c3 : Int32)  {r : Int32 × Mm} (kk : Go l X_M_gather post 33 [(0, vr 8 0), (1, vi c1), (2, vi c2), (3, vi c3), (4, vi r.1)] [] r.2) : ∀ (n : Nat) (s : Int32 × Mm), lpN (b_M_gather_3) n s = some r → Go l X_M_gather post 3 [(0, vr 8 0), (1, vi c1), (2, vi c2), (3, vi c3), (4, vi s.1)] [] s.2 := by
  intro n
  induction n with
  | zero => intro s hc; exact (lpN_0 hc).elim
  | succ n ih =>
    intro s hc
    obtain ⟨q, h, hc⟩ := lpN_inv hc
    unfold b_M_gather_3 at h
    refine go_iload 2 rfl 4 rfl ?_
    refine go_sipush 2461 3 rfl (by decide) ?_
    refine go_icmp_ge 33 4 rfl (by decide) (fun c => ?_) (fun c => ?_)
    · replace h := ite_t c h
      cases h
      obtain rfl := lpq_r hc
      exact kk
    · replace h := ite_f c h
      refine go_aload_n 5 rfl 0 rfl rfl ?_
      refine go_getfield 6 _ 6 rfl (by first | decide | exact ok0 (by omega) | exact ok1 (by omega) | exact ok2 (by omega) | exact ok7 (by omega)) rfl fg_M_22 rfl ?_
      refine go_iload 7 rfl 4 rfl ?_
      refine go_lconst 0 8 rfl (by decide) ?_
      obtain ⟨c, h⟩ := ck_inv h
      refine go_lastore 9 rfl (by first | decide | exact ok0 (by omega) | exact ok1 (by omega) | exact ok2 (by omega) | exact ok7 (by omega)) (inb_vp c) ?_
      obtain ⟨_, c, h⟩ := bd_inv h
      cases c
      refine go_aload_n 10 rfl 0 rfl rfl ?_
      refine go_getfield 7 _ 11 rfl (by first | decide | exact ok0 (by omega) | exact ok1 (by omega) | exact ok2 (by omega) | exact ok7 (by omega)) rfl fg_M_26 rfl ?_
      refine go_iload 12 rfl 4 rfl ?_
      refine go_lconst 0 13 rfl (by decide) ?_
      obtain ⟨c, h⟩ := ck_inv h
      refine go_lastore 14 rfl (by first | decide | exact ok0 (by omega) | exact ok1 (by omega) | exact ok2 (by omega) | exact ok7 (by omega)) (inb_vp c) ?_
      obtain ⟨_, c, h⟩ := bd_inv h
      cases c
      refine go_iinc 1 15 rfl 4 rfl (by decide) (Nat.le_of_ble_eq_true rfl) [(0, _), (1, _), (2, _), (3, _), (4, _)] rfl ?_
      refine go_goto 3 16 rfl (by decide) ?_
      cases h
      have g9 := ih _ hc
      exact g9
set_option maxRecDepth 20000 in
theorem w_M_gather_39 {l : Launch} {post : Option PV → Mm → Prop} (c1 : Int32) (c2 : Int32) (c3 : Int32) (M : Mm)  {r : Int32 × Int32} (kk : Go l X_M_gather post 78 [(0, vr 8 0), (1, vi c1), (2, vi c2), (3, vi c3), (4, vi r.1), (5, vi r.2)] [] M) : ∀ (n : Nat) (s : Int32 × Int32), lpN (b_M_gather_39 c2 M) n s = some r → Go l X_M_gather post 39 [(0, vr 8 0), (1, vi c1), (2, vi c2), (3, vi c3), (4, vi s.1), (5, vi s.2)] [] M := by
  intro n
  induction n with
  | zero => intro s hc; exact (lpN_0 hc).elim
  | succ n ih =>
    intro s hc
    obtain ⟨q, h, hc⟩ := lpN_inv hc
    unfold b_M_gather_39 at h
    refine go_iload 21 rfl 5 rfl ?_
    refine go_if_lt 78 22 rfl (by decide) (fun c => ?_) (fun c => ?_)
    · replace h := ite_t c h
      cases h
      obtain rfl := lpq_r hc
      exact kk
    · replace h := ite_f c h
      refine go_iload 23 rfl 5 rfl ?_
      refine go_aload_n 24 rfl 0 rfl rfl ?_
      refine go_getfield 3 _ 25 rfl (by first | decide | exact ok0 (by omega) | exact ok1 (by omega) | exact ok2 (by omega) | exact ok7 (by omega)) rfl fg_M_16 rfl ?_
      refine go_iload_n 26 rfl 2 rfl rfl ?_
      obtain ⟨c, h⟩ := ck_inv h
      refine go_iaload 27 rfl (by first | decide | exact ok0 (by omega) | exact ok1 (by omega) | exact ok2 (by omega) | exact ok7 (by omega)) (inb_vp c) ?_
      refine go_icmp_ge 68 28 rfl (by decide) (fun c => ?_) (fun c => ?_)
      · replace h := ite_t c h
        refine go_iload 36 rfl 4 rfl ?_
        refine go_istore 37 rfl (Nat.le_of_ble_eq_true rfl) [(0, _), (1, _), (2, _), (3, _), (4, _), (5, _)] rfl ?_
        refine go_iinc (-1) 38 rfl 5 rfl (by decide) (Nat.le_of_ble_eq_true rfl) [(0, _), (1, _), (2, _), (3, _), (4, _), (5, _)] rfl ?_
        refine go_goto 39 39 rfl (by decide) ?_
        cases h
        have g9 := ih _ hc
        exact g9
      · replace h := ite_f c h
        refine go_iload 29 rfl 4 rfl ?_
        refine go_iconst 4 30 rfl (by decide) ?_
        refine go_iload 31 rfl 5 rfl ?_
        refine go_imul 32 rfl ?_
        obtain ⟨r4, c, h⟩ := bd_inv h
        refine go_callS1 _ 33 rfl (e_M_power c) mk_M_power cs_M_96 rfl ⟨(Nat.le_of_ble_eq_true rfl), (Nat.le_of_ble_eq_true rfl)⟩ (Nat.le_of_ble_eq_true rfl) rfl ?_
        refine go_iadd 34 rfl ?_
        refine go_goto 70 35 rfl (by decide) ?_
        refine go_istore 37 rfl (Nat.le_of_ble_eq_true rfl) [(0, _), (1, _), (2, _), (3, _), (4, _), (5, _)] rfl ?_
        refine go_iinc (-1) 38 rfl 5 rfl (by decide) (Nat.le_of_ble_eq_true rfl) [(0, _), (1, _), (2, _), (3, _), (4, _), (5, _)] rfl ?_
        refine go_goto 39 39 rfl (by decide) ?_
        cases h
        have g9 := ih _ hc
        exact g9
set_option maxRecDepth 20000 in
theorem w_M_gather_106 {l : Launch} {post : Option PV → Mm → Prop} (c1 : Int32) (c2 : Int32) (c3 : Int32) (c4 : Int32) (c5 : Int32)  {r : Int32 × Mm} (kk : Go l X_M_gather post 150 [(0, vr 8 0), (1, vi c1), (2, vi c2), (3, vi c3), (4, vi c4), (5, vi c5), (6, vi r.1)] [] r.2) : ∀ (n : Nat) (s : Int32 × Mm), lpN (b_M_gather_106) n s = some r → Go l X_M_gather post 106 [(0, vr 8 0), (1, vi c1), (2, vi c2), (3, vi c3), (4, vi c4), (5, vi c5), (6, vi s.1)] [] s.2 := by
  intro n
  induction n with
  | zero => intro s hc; exact (lpN_0 hc).elim
  | succ n ih =>
    intro s hc
    obtain ⟨q, h, hc⟩ := lpN_inv hc
    unfold b_M_gather_106 at h
    refine go_iload 56 rfl 6 rfl ?_
    refine go_sipush 2461 57 rfl (by decide) ?_
    refine go_icmp_ge 150 58 rfl (by decide) (fun c => ?_) (fun c => ?_)
    · replace h := ite_t c h
      cases h
      obtain rfl := lpq_r hc
      exact kk
    · replace h := ite_f c h
      refine go_aload_n 59 rfl 0 rfl rfl ?_
      refine go_getfield 6 _ 60 rfl (by first | decide | exact ok0 (by omega) | exact ok1 (by omega) | exact ok2 (by omega) | exact ok7 (by omega)) rfl fg_M_22 rfl ?_
      refine go_iload 61 rfl 6 rfl ?_
      refine go_aload_n 62 rfl 0 rfl rfl ?_
      refine go_getfield 6 _ 63 rfl (by first | decide | exact ok0 (by omega) | exact ok1 (by omega) | exact ok2 (by omega) | exact ok7 (by omega)) rfl fg_M_22 rfl ?_
      refine go_iload 64 rfl 6 rfl ?_
      obtain ⟨c, h⟩ := ck_inv h
      refine go_laload 65 rfl (by first | decide | exact ok0 (by omega) | exact ok1 (by omega) | exact ok2 (by omega) | exact ok7 (by omega)) (inb_vp c) ?_
      refine go_aload_n 66 rfl 0 rfl rfl ?_
      refine go_getfield 7 _ 67 rfl (by first | decide | exact ok0 (by omega) | exact ok1 (by omega) | exact ok2 (by omega) | exact ok7 (by omega)) rfl fg_M_26 rfl ?_
      refine go_iload 68 rfl 6 rfl ?_
      obtain ⟨c, h⟩ := ck_inv h
      refine go_laload 69 rfl (by first | decide | exact ok0 (by omega) | exact ok1 (by omega) | exact ok2 (by omega) | exact ok7 (by omega)) (inb_vp c) ?_
      refine go_lor 70 rfl ?_
      obtain ⟨c, h⟩ := ck_inv h
      refine go_lastore 71 rfl (by first | decide | exact ok0 (by omega) | exact ok1 (by omega) | exact ok2 (by omega) | exact ok7 (by omega)) (inb_vp c) ?_
      obtain ⟨_, c, h⟩ := bd_inv h
      cases c
      refine go_aload_n 72 rfl 0 rfl rfl ?_
      refine go_getfield 8 _ 73 rfl (by first | decide | exact ok0 (by omega) | exact ok1 (by omega) | exact ok2 (by omega) | exact ok7 (by omega)) rfl fg_M_29 rfl ?_
      refine go_iload 74 rfl 6 rfl ?_
      refine go_lconst 0 75 rfl (by decide) ?_
      obtain ⟨c, h⟩ := ck_inv h
      refine go_lastore 76 rfl (by first | decide | exact ok0 (by omega) | exact ok1 (by omega) | exact ok2 (by omega) | exact ok7 (by omega)) (inb_vp c) ?_
      obtain ⟨_, c, h⟩ := bd_inv h
      cases c
      refine go_iinc 1 77 rfl 6 rfl (by decide) (Nat.le_of_ble_eq_true rfl) [(0, _), (1, _), (2, _), (3, _), (4, _), (5, _), (6, _)] rfl ?_
      refine go_goto 106 78 rfl (by decide) ?_
      cases h
      have g9 := ih _ hc
      exact g9
set_option maxRecDepth 20000 in
theorem w_M_gather_164 {l : Launch} {post : Option PV → Mm → Prop} (c1 : Int32) (c2 : Int32) (c3 : Int32) (c4 : Int32) (c5 : Int32) (c6 : Int32)  {r : Int32 × Mm} (kk : Go l X_M_gather post 220 [(0, vr 8 0), (1, vi c1), (2, vi c2), (3, vi c3), (4, vi c4), (5, vi c5), (6, vi c6), (7, vi r.1)] [] r.2) : ∀ (n : Nat) (s : Int32 × Mm), lpN (b_M_gather_164 c1 c2 c6) n s = some r → Go l X_M_gather post 164 [(0, vr 8 0), (1, vi c1), (2, vi c2), (3, vi c3), (4, vi c4), (5, vi c5), (6, vi c6), (7, vi s.1)] [] s.2 := by
  intro n
  induction n with
  | zero => intro s hc; exact (lpN_0 hc).elim
  | succ n ih =>
    intro s hc
    obtain ⟨q, h, hc⟩ := lpN_inv hc
    unfold b_M_gather_164 at h
    refine go_iload 86 rfl 7 rfl ?_
    refine go_bipush 64 87 rfl (by decide) ?_
    refine go_icmp_ge 220 88 rfl (by decide) (fun c => ?_) (fun c => ?_)
    · replace h := ite_t c h
      cases h
      obtain rfl := lpq_r hc
      exact kk
    · replace h := ite_f c h
      refine go_aload_n 89 rfl 0 rfl rfl ?_
      refine go_getfield 7 _ 90 rfl (by first | decide | exact ok0 (by omega) | exact ok1 (by omega) | exact ok2 (by omega) | exact ok7 (by omega)) rfl fg_M_26 rfl ?_
      refine go_iload 91 rfl 6 rfl ?_
      obtain ⟨c, h⟩ := ck_inv h
      refine go_laload 92 rfl (by first | decide | exact ok0 (by omega) | exact ok1 (by omega) | exact ok2 (by omega) | exact ok7 (by omega)) (inb_vp c) ?_
      refine go_lconst 0 93 rfl (by decide) ?_
      refine go_lcmp 94 rfl ?_
      refine go_if_eq 220 95 rfl (by decide) (fun c => ?_) (fun c => ?_)
      · replace h := ite_t c h
        cases h
        obtain rfl := lpq_r hc
        exact kk
      · replace h := ite_f c h
        refine go_aload_n 96 rfl 0 rfl rfl ?_
        refine go_getfield 7 _ 97 rfl (by first | decide | exact ok0 (by omega) | exact ok1 (by omega) | exact ok2 (by omega) | exact ok7 (by omega)) rfl fg_M_26 rfl ?_
        refine go_iload 98 rfl 6 rfl ?_
        obtain ⟨c, h⟩ := ck_inv h
        refine go_laload 99 rfl (by first | decide | exact ok0 (by omega) | exact ok1 (by omega) | exact ok2 (by omega) | exact ok7 (by omega)) (inb_vp c) ?_
        refine go_iload 100 rfl 7 rfl ?_
        refine go_lshr 101 rfl ?_
        refine go_lconst 1 102 rfl (by decide) ?_
        refine go_land 103 rfl ?_
        refine go_lconst 1 104 rfl (by decide) ?_
        refine go_lcmp 105 rfl ?_
        refine go_if_ne 214 106 rfl (by decide) (fun c => ?_) (fun c => ?_)
        · replace h := ite_f c h
          refine go_iinc 1 116 rfl 7 rfl (by decide) (Nat.le_of_ble_eq_true rfl) [(0, _), (1, _), (2, _), (3, _), (4, _), (5, _), (6, _), (7, _)] rfl ?_
          refine go_goto 164 117 rfl (by decide) ?_
          cases h
          have g9 := ih _ hc
          exact g9
        · replace h := ite_t c h
          refine go_aload_n 107 rfl 0 rfl rfl ?_
          refine go_iload_n 108 rfl 1 rfl rfl ?_
          refine go_iload_n 109 rfl 2 rfl rfl ?_
          refine go_bipush 64 110 rfl (by decide) ?_
          refine go_iload 111 rfl 6 rfl ?_
          refine go_imul 112 rfl ?_
          refine go_iload 113 rfl 7 rfl ?_
          refine go_iadd 114 rfl ?_
          obtain ⟨r10, c, h⟩ := bd_inv h
          refine go_callV1 _ 115 rfl (e_M_lead c) mk_M_lead (by first | decide | exact ok0 (by omega) | exact ok1 (by omega) | exact ok2 (by omega) | exact ok7 (by omega)) rfl cv_M_103 rfl ⟨(Nat.le_of_ble_eq_true rfl), (Nat.le_of_ble_eq_true rfl)⟩ (Nat.le_of_ble_eq_true rfl) rfl ?_
          refine go_iinc 1 116 rfl 7 rfl (by decide) (Nat.le_of_ble_eq_true rfl) [(0, _), (1, _), (2, _), (3, _), (4, _), (5, _), (6, _), (7, _)] rfl ?_
          refine go_goto 164 117 rfl (by decide) ?_
          cases h
          have g9 := ih _ hc
          exact g9
set_option maxRecDepth 20000 in
theorem w_M_gather_153 {l : Launch} {post : Option PV → Mm → Prop} (c1 : Int32) (c2 : Int32) (c3 : Int32) (c4 : Int32) (c5 : Int32)  {r : Int32 × Mm} (kk : Go l X_M_gather post 226 [(0, vr 8 0), (1, vi c1), (2, vi c2), (3, vi c3), (4, vi c4), (5, vi c5), (6, vi r.1)] [] r.2) : ∀ (n : Nat) (s : Int32 × Mm), lpN (b_M_gather_153 c1 c2) n s = some r → Go l X_M_gather post 153 [(0, vr 8 0), (1, vi c1), (2, vi c2), (3, vi c3), (4, vi c4), (5, vi c5), (6, vi s.1)] [] s.2 := by
  intro n
  induction n with
  | zero => intro s hc; exact (lpN_0 hc).elim
  | succ n ih =>
    intro s hc
    obtain ⟨q, h, hc⟩ := lpN_inv hc
    unfold b_M_gather_153 at h
    refine go_iload 81 rfl 6 rfl ?_
    refine go_sipush 2461 82 rfl (by decide) ?_
    refine go_icmp_ge 226 83 rfl (by decide) (fun c => ?_) (fun c => ?_)
    · replace h := ite_t c h
      cases h
      obtain rfl := lpq_r hc
      exact kk
    · replace h := ite_f c h
      refine go_iconst 0 84 rfl (by decide) ?_
      refine go_istore 85 rfl (Nat.le_of_ble_eq_true rfl) [(0, _), (1, _), (2, _), (3, _), (4, _), (5, _), (6, _), (7, _)] rfl ?_
      obtain ⟨r11, c, h⟩ := bd_inv h
      refine w_M_gather_164 _ _ _ _ _ _ ?_ _ _ c
      refine go_iinc 1 118 rfl 6 rfl (by decide) (Nat.le_of_ble_eq_true rfl) [(0, _), (1, _), (2, _), (3, _), (4, _), (5, _), (6, _), (7, _)] rfl ?_
      refine go_goto 153 119 rfl (by decide) ?_
      cases h
      refine go_sub [0, 1, 2, 3, 4, 5, 6] rfl ?_
      have g9 := ih _ hc
      exact g9
set_option maxRecDepth 20000 in
theorem w_M_gather_232 {l : Launch} {post : Option PV → Mm → Prop} (c1 : Int32) (c2 : Int32) (c3 : Int32) (c4 : Int32)  {r : Int32 × Int32 × Mm} (kk : Go l X_M_gather post 296 [(0, vr 8 0), (1, vi c1), (2, vi c2), (3, vi c3), (4, vi c4), (5, vi r.1), (6, vi r.2.1)] [] r.2.2) : ∀ (n : Nat) (s : Int32 × Int32 × Mm), lpN (b_M_gather_232) n s = some r → Go l X_M_gather post 232 [(0, vr 8 0), (1, vi c1), (2, vi c2), (3, vi c3), (4, vi c4), (5, vi s.1), (6, vi s.2.1)] [] s.2.2 := by
  intro n
  induction n with
  | zero => intro s hc; exact (lpN_0 hc).elim
  | succ n ih =>
    intro s hc
    obtain ⟨q, h, hc⟩ := lpN_inv hc
    unfold b_M_gather_232 at h
    refine go_iload 124 rfl 6 rfl ?_
    refine go_sipush 2461 125 rfl (by decide) ?_
    refine go_icmp_ge 296 126 rfl (by decide) (fun c => ?_) (fun c => ?_)
    · replace h := ite_t c h
      cases h
      obtain rfl := lpq_r hc
      exact kk
    · replace h := ite_f c h
      refine go_aload_n 127 rfl 0 rfl rfl ?_
      refine go_getfield 7 _ 128 rfl (by first | decide | exact ok0 (by omega) | exact ok1 (by omega) | exact ok2 (by omega) | exact ok7 (by omega)) rfl fg_M_26 rfl ?_
      refine go_iload 129 rfl 6 rfl ?_
      refine go_aload_n 130 rfl 0 rfl rfl ?_
      refine go_getfield 8 _ 131 rfl (by first | decide | exact ok0 (by omega) | exact ok1 (by omega) | exact ok2 (by omega) | exact ok7 (by omega)) rfl fg_M_29 rfl ?_
      refine go_iload 132 rfl 6 rfl ?_
      obtain ⟨c, h⟩ := ck_inv h
      refine go_laload 133 rfl (by first | decide | exact ok0 (by omega) | exact ok1 (by omega) | exact ok2 (by omega) | exact ok7 (by omega)) (inb_vp c) ?_
      refine go_aload_n 134 rfl 0 rfl rfl ?_
      refine go_getfield 6 _ 135 rfl (by first | decide | exact ok0 (by omega) | exact ok1 (by omega) | exact ok2 (by omega) | exact ok7 (by omega)) rfl fg_M_22 rfl ?_
      refine go_iload 136 rfl 6 rfl ?_
      obtain ⟨c, h⟩ := ck_inv h
      refine go_laload 137 rfl (by first | decide | exact ok0 (by omega) | exact ok1 (by omega) | exact ok2 (by omega) | exact ok7 (by omega)) (inb_vp c) ?_
      refine go_ldc2 (-1) 138 rfl wb_679 ?_
      refine go_lxor 139 rfl ?_
      refine go_land 140 rfl ?_
      obtain ⟨c, h⟩ := ck_inv h
      refine go_lastore 141 rfl (by first | decide | exact ok0 (by omega) | exact ok1 (by omega) | exact ok2 (by omega) | exact ok7 (by omega)) (inb_vp c) ?_
      obtain ⟨_, c, h⟩ := bd_inv h
      cases c
      refine go_iload 142 rfl 5 rfl ?_
      refine go_if_ne 283 143 rfl (by decide) (fun c => ?_) (fun c => ?_)
      · replace h := ite_f c h
        refine go_iconst 1 151 rfl (by decide) ?_
        refine go_goto 288 152 rfl (by decide) ?_
        refine go_istore 154 rfl (Nat.le_of_ble_eq_true rfl) [(0, _), (1, _), (2, _), (3, _), (4, _), (5, _), (6, _)] rfl ?_
        refine go_iinc 1 155 rfl 6 rfl (by decide) (Nat.le_of_ble_eq_true rfl) [(0, _), (1, _), (2, _), (3, _), (4, _), (5, _), (6, _)] rfl ?_
        refine go_goto 232 156 rfl (by decide) ?_
        cases h
        have g9 := ih _ hc
        exact g9
      · replace h := ite_t c h
        refine go_aload_n 144 rfl 0 rfl rfl ?_
        refine go_getfield 7 _ 145 rfl (by first | decide | exact ok0 (by omega) | exact ok1 (by omega) | exact ok2 (by omega) | exact ok7 (by omega)) rfl fg_M_26 rfl ?_
        refine go_iload 146 rfl 6 rfl ?_
        obtain ⟨c, h⟩ := ck_inv h
        refine go_laload 147 rfl (by first | decide | exact ok0 (by omega) | exact ok1 (by omega) | exact ok2 (by omega) | exact ok7 (by omega)) (inb_vp c) ?_
        refine go_lconst 0 148 rfl (by decide) ?_
        refine go_lcmp 149 rfl ?_
        refine go_if_eq 287 150 rfl (by decide) (fun c => ?_) (fun c => ?_)
        · replace h := ite_t c h
          refine go_iconst 0 153 rfl (by decide) ?_
          refine go_istore 154 rfl (Nat.le_of_ble_eq_true rfl) [(0, _), (1, _), (2, _), (3, _), (4, _), (5, _), (6, _)] rfl ?_
          refine go_iinc 1 155 rfl 6 rfl (by decide) (Nat.le_of_ble_eq_true rfl) [(0, _), (1, _), (2, _), (3, _), (4, _), (5, _), (6, _)] rfl ?_
          refine go_goto 232 156 rfl (by decide) ?_
          cases h
          have g9 := ih _ hc
          exact g9
        · replace h := ite_f c h
          refine go_iconst 1 151 rfl (by decide) ?_
          refine go_goto 288 152 rfl (by decide) ?_
          refine go_istore 154 rfl (Nat.le_of_ble_eq_true rfl) [(0, _), (1, _), (2, _), (3, _), (4, _), (5, _), (6, _)] rfl ?_
          refine go_iinc 1 155 rfl 6 rfl (by decide) (Nat.le_of_ble_eq_true rfl) [(0, _), (1, _), (2, _), (3, _), (4, _), (5, _), (6, _)] rfl ?_
          refine go_goto 232 156 rfl (by decide) ?_
          cases h
          have g9 := ih _ hc
          exact g9
set_option maxRecDepth 20000 in
theorem w_M_gather_98 {l : Launch} {post : Option PV → Mm → Prop} (c1 : Int32) (c2 : Int32) (c3 : Int32) (c4 : Int32)  {r : Int32 × Mm} (kk : Go l X_M_gather post 299 [(0, vr 8 0), (1, vi c1), (2, vi c2), (3, vi c3), (4, vi c4), (5, vi r.1)] [] r.2) : ∀ (n : Nat) (s : Int32 × Mm), lpN (b_M_gather_98 c1 c2) n s = some r → Go l X_M_gather post 98 [(0, vr 8 0), (1, vi c1), (2, vi c2), (3, vi c3), (4, vi c4), (5, vi s.1)] [] s.2 := by
  intro n
  induction n with
  | zero => intro s hc; exact (lpN_0 hc).elim
  | succ n ih =>
    intro s hc
    obtain ⟨q, h, hc⟩ := lpN_inv hc
    unfold b_M_gather_98 at h
    refine go_iload 52 rfl 5 rfl ?_
    refine go_if_eq 299 53 rfl (by decide) (fun c => ?_) (fun c => ?_)
    · replace h := ite_t c h
      cases h
      obtain rfl := lpq_r hc
      exact kk
    · replace h := ite_f c h
      refine go_iconst 0 54 rfl (by decide) ?_
      refine go_istore 55 rfl (Nat.le_of_ble_eq_true rfl) [(0, _), (1, _), (2, _), (3, _), (4, _), (5, _), (6, _)] rfl ?_
      obtain ⟨r9, c, h⟩ := bd_inv h
      refine w_M_gather_106 _ _ _ _ _ ?_ _ _ c
      refine go_iconst 0 79 rfl (by decide) ?_
      refine go_istore 80 rfl (Nat.le_of_ble_eq_true rfl) [(0, _), (1, _), (2, _), (3, _), (4, _), (5, _), (6, _)] rfl ?_
      obtain ⟨r12, c, h⟩ := bd_inv h
      refine w_M_gather_153 _ _ _ _ _ ?_ _ _ c
      refine go_iconst 0 120 rfl (by decide) ?_
      refine go_istore 121 rfl (Nat.le_of_ble_eq_true rfl) [(0, _), (1, _), (2, _), (3, _), (4, _), (5, _), (6, _)] rfl ?_
      refine go_iconst 0 122 rfl (by decide) ?_
      refine go_istore 123 rfl (Nat.le_of_ble_eq_true rfl) [(0, _), (1, _), (2, _), (3, _), (4, _), (5, _), (6, _)] rfl ?_
      obtain ⟨r14, c, h⟩ := bd_inv h
      refine w_M_gather_232 _ _ _ _ ?_ _ _ c
      refine go_goto 98 157 rfl (by decide) ?_
      cases h
      refine go_sub [0, 1, 2, 3, 4, 5] rfl ?_
      have g9 := ih _ hc
      exact g9
set_option maxRecDepth 20000 in
theorem e_M_gather {l : Launch} {a1 : Int32} {a2 : Int32} {a3 : Int32} {M : Mm} {r : Mm}  (h : m_M_gather a1 a2 a3 M = some r) : Ev l X_M_gather [vr 8 0, vi a1, vi a2, vi a3] M (fun v M2 => v = none ∧ M2 = r) := by
  refine Ev.of mk_M_gather [(0, vr 8 0), (1, vi a1), (2, vi a2), (3, vi a3)] (fun _ => rfl) (fun _ => (Nat.le_of_ble_eq_true rfl)) ?_
  unfold m_M_gather at h
  refine go_iconst 0 0 rfl (by decide) ?_
  refine go_istore 1 rfl (Nat.le_of_ble_eq_true rfl) [(0, _), (1, _), (2, _), (3, _), (4, _)] rfl ?_
  obtain ⟨r3, c, h⟩ := bd_inv h
  refine w_M_gather_3 _ _ _ ?_ _ _ c
  refine go_iconst 0 17 rfl (by decide) ?_
  refine go_istore 18 rfl (Nat.le_of_ble_eq_true rfl) [(0, _), (1, _), (2, _), (3, _), (4, _)] rfl ?_
  refine go_iconst 2 19 rfl (by decide) ?_
  refine go_istore 20 rfl (Nat.le_of_ble_eq_true rfl) [(0, _), (1, _), (2, _), (3, _), (4, _), (5, _)] rfl ?_
  obtain ⟨r5, c, h⟩ := bd_inv h
  refine w_M_gather_39 _ _ _ _ ?_ _ _ c
  refine go_aload_n 40 rfl 0 rfl rfl ?_
  refine go_getfield 7 _ 41 rfl (by first | decide | exact ok0 (by omega) | exact ok1 (by omega) | exact ok2 (by omega) | exact ok7 (by omega)) rfl fg_M_26 rfl ?_
  refine go_sipush 19683 42 rfl (by decide) ?_
  refine go_iconst 2 43 rfl (by decide) ?_
  refine go_iload_n 44 rfl 3 rfl rfl ?_
  refine go_imul 45 rfl ?_
  refine go_imul 46 rfl ?_
  refine go_iload 47 rfl 4 rfl ?_
  refine go_iadd 48 rfl ?_
  obtain ⟨r6, c, h⟩ := bd_inv h
  refine go_callS1 _ 49 rfl (e_M_mark (by omega) c) mk_M_mark cs_M_99 rfl ⟨(Nat.le_of_ble_eq_true rfl), (Nat.le_of_ble_eq_true rfl)⟩ (Nat.le_of_ble_eq_true rfl) rfl ?_
  refine go_iconst 1 50 rfl (by decide) ?_
  refine go_istore 51 rfl (Nat.le_of_ble_eq_true rfl) [(0, _), (1, _), (2, _), (3, _), (4, _), (5, _)] rfl ?_
  obtain ⟨r15, c, h⟩ := bd_inv h
  refine w_M_gather_98 _ _ _ _ ?_ _ _ c
  cases h
  exact go_return 158 rfl rfl ⟨rfl, rfl⟩
def X_M_taken : MX := (⟨"OmegaDeskModel", "taken", "(II)I"⟩, prog_8_method_32_code, 10, some .int, { frames := 1, cells := 0, slots := 0, locals := 23 },
  [(0, .aload_n 0, 1), (1, .iload_n 1, 2), (2, .invokevirtual 109, 5), (5, .iconst 0, 6), (6, .istore_n 3, 7), (7, .iload_n 3, 8), (8, .bipush 9, 10), (10, .if_icmp .ge 148, 13), (13, .iload_n 3, 14), (14, .iconst 3, 15), (15, .irem, 16), (16, .istore 4, 18), (18, .iconst 0, 19), (19, .istore 5, 21), (21, .iload 5, 23), (23, .iload_n 2, 24), (24, .if_icmp .ge 128, 27), (27, .iconst 0, 28), (28, .istore 6, 30), (30, .iload 6, 32), (32, .iload_n 2, 33), (33, .if_icmp .ge 113, 36), (36, .aload_n 0, 37), (37, .getfield 32, 40), (40, .iconst 3, 41), (41, .iload 5, 43), (43, .imul, 44), (44, .iload 4, 46), (46, .iadd, 47), (47, .iaload, 48), (48, .istore 7, 50), (50, .aload_n 0, 51), (51, .getfield 32, 54), (54, .iconst 3, 55), (55, .iload 4, 57), (57, .imul, 58), (58, .iload 6, 60), (60, .iadd, 61), (61, .iaload, 62), (62, .istore 8, 64), (64, .iload 7, 66), (66, .ifCond .eq 8, 69), (69, .iload 8, 71), (71, .ifCond .ne 7, 74), (74, .iconst 0, 75), (75, .goto 17, 78), (78, .iload 7, 80), (80, .iload 8, 82), (82, .if_icmp .le 8, 85), (85, .iload 7, 87), (87, .goto 5, 90), (90, .iload 8, 92), (92, .istore 9, 94), (94, .aload_n 0, 95), (95, .getfield 32, 98), (98, .iconst 3, 99), (99, .iload 5, 101), (101, .imul, 102), (102, .iload 6, 104), (104, .iadd, 105), (105, .iload 9, 107), (107, .aload_n 0, 108), (108, .getfield 32, 111), (111, .iconst 3, 112), (112, .iload 5, 114), (114, .imul, 115), (115, .iload 6, 117), (117, .iadd, 118), (118, .iaload, 119), (119, .if_icmp .le 8, 122), (122, .iload 9, 124), (124, .goto 15, 127), (127, .aload_n 0, 128), (128, .getfield 32, 131), (131, .iconst 3, 132), (132, .iload 5, 134), (134, .imul, 135), (135, .iload 6, 137), (137, .iadd, 138), (138, .iaload, 139), (139, .iastore, 140), (140, .iinc 6 1, 143), (143, .goto (-113), 146), (146, .iinc 5 1, 149), (149, .goto (-128), 152), (152, .iinc 3 1, 155), (155, .goto (-148), 158), (158, .iconst 0, 159), (159, .istore_n 3, 160), (160, .iconst 0, 161), (161, .istore 4, 163), (163, .iload 4, 165), (165, .iload_n 2, 166), (166, .if_icmp .ge 82, 169), (169, .iconst 0, 170), (170, .istore 5, 172), (172, .iload 5, 174), (174, .iload_n 2, 175), (175, .if_icmp .ge 67, 178), (178, .aload_n 0, 179), (179, .getfield 32, 182), (182, .iconst 4, 183), (183, .iload 5, 185), (185, .imul, 186), (186, .iaload, 187), (187, .iconst 2, 188), (188, .if_icmp .ne 29, 191), (191, .iload 4, 193), (193, .iload 5, 195), (195, .if_icmp .eq 18, 198), (198, .aload_n 0, 199), (199, .getfield 32, 202), (202, .iconst 3, 203), (203, .iload 4, 205), (205, .imul, 206), (206, .iload 5, 208), (208, .iadd, 209), (209, .iaload, 210), (210, .ifCond .le 7, 213), (213, .iconst 1, 214), (214, .goto 4, 217), (217, .iconst 0, 218), (218, .istore 6, 220), (220, .iload 6, 222), (222, .ifCond .eq 12, 225), (225, .iload_n 3, 226), (226, .iconst 1, 227), (227, .iload 4, 229), (229, .ishl, 230), (230, .ior, 231), (231, .goto 4, 234), (234, .iload_n 3, 235), (235, .istore_n 3, 236), (236, .iinc 5 1, 239), (239, .goto (-67), 242), (242, .iinc 4 1, 245), (245, .goto (-82), 248), (248, .iload_n 3, 249), (249, .ireturn, 250)])
set_option maxRecDepth 20000 in
theorem mk_M_taken : Mk X_M_taken := ⟨by unfold TBk; decide +kernel, by decide +kernel, wb_686, ⟨by decide, by decide⟩, rfl, rfl, wb_6⟩
def b_M_taken_30 (c2 : Int32) (c4 : Int32) (c5 : Int32) (s : Int32 × Mm) : Option ((Int32 × Mm) ⊕ (Int32 × Mm)) :=
  if c2 ≤ s.1 then
    some (Sum.inr (s.1, s.2))
  else
    ck (inb (((3 : Int32) * c5) + c4) (lenI 20)) <|
    bd (some (s.2.1 (1, 20) (((3 : Int32) * c5) + c4).toNatClampNeg)) fun x2 =>
    ck (inb (((3 : Int32) * c4) + s.1) (lenI 20)) <|
    bd (some (s.2.1 (1, 20) (((3 : Int32) * c4) + s.1).toNatClampNeg)) fun x3 =>
    if x2 = 0 then
      ck (inb (((3 : Int32) * c5) + s.1) (lenI 20)) <|
      if (0 : Int32) ≤ (s.2.1 (1, 20) (((3 : Int32) * c5) + s.1).toNatClampNeg) then
        ck (inb (((3 : Int32) * c5) + s.1) (lenI 20)) <|
        ck (inb (((3 : Int32) * c5) + s.1) (lenI 20)) <|
        bd (some (uI s.2 (1, 20) (((3 : Int32) * c5) + s.1).toNatClampNeg (s.2.1 (1, 20) (((3 : Int32) * c5) + s.1).toNatClampNeg))) fun M4 =>
        some (Sum.inl ((s.1 + 1), M4))
      else
        ck (inb (((3 : Int32) * c5) + s.1) (lenI 20)) <|
        bd (some (uI s.2 (1, 20) (((3 : Int32) * c5) + s.1).toNatClampNeg (0 : Int32))) fun M5 =>
        some (Sum.inl ((s.1 + 1), M5))
    else
      if x3 = 0 then
        ck (inb (((3 : Int32) * c5) + s.1) (lenI 20)) <|
        if (0 : Int32) ≤ (s.2.1 (1, 20) (((3 : Int32) * c5) + s.1).toNatClampNeg) then
          ck (inb (((3 : Int32) * c5) + s.1) (lenI 20)) <|
          ck (inb (((3 : Int32) * c5) + s.1) (lenI 20)) <|
          bd (some (uI s.2 (1, 20) (((3 : Int32) * c5) + s.1).toNatClampNeg (s.2.1 (1, 20) (((3 : Int32) * c5) + s.1).toNatClampNeg))) fun M10 =>
          some (Sum.inl ((s.1 + 1), M10))
        else
          ck (inb (((3 : Int32) * c5) + s.1) (lenI 20)) <|
          bd (some (uI s.2 (1, 20) (((3 : Int32) * c5) + s.1).toNatClampNeg (0 : Int32))) fun M11 =>
          some (Sum.inl ((s.1 + 1), M11))
      else
        if x2 ≤ x3 then
          ck (inb (((3 : Int32) * c5) + s.1) (lenI 20)) <|
          if x3 ≤ (s.2.1 (1, 20) (((3 : Int32) * c5) + s.1).toNatClampNeg) then
            ck (inb (((3 : Int32) * c5) + s.1) (lenI 20)) <|
            ck (inb (((3 : Int32) * c5) + s.1) (lenI 20)) <|
            bd (some (uI s.2 (1, 20) (((3 : Int32) * c5) + s.1).toNatClampNeg (s.2.1 (1, 20) (((3 : Int32) * c5) + s.1).toNatClampNeg))) fun M6 =>
            some (Sum.inl ((s.1 + 1), M6))
          else
            ck (inb (((3 : Int32) * c5) + s.1) (lenI 20)) <|
            bd (some (uI s.2 (1, 20) (((3 : Int32) * c5) + s.1).toNatClampNeg x3)) fun M7 =>
            some (Sum.inl ((s.1 + 1), M7))
        else
          ck (inb (((3 : Int32) * c5) + s.1) (lenI 20)) <|
          if x2 ≤ (s.2.1 (1, 20) (((3 : Int32) * c5) + s.1).toNatClampNeg) then
            ck (inb (((3 : Int32) * c5) + s.1) (lenI 20)) <|
            ck (inb (((3 : Int32) * c5) + s.1) (lenI 20)) <|
            bd (some (uI s.2 (1, 20) (((3 : Int32) * c5) + s.1).toNatClampNeg (s.2.1 (1, 20) (((3 : Int32) * c5) + s.1).toNatClampNeg))) fun M8 =>
            some (Sum.inl ((s.1 + 1), M8))
          else
            ck (inb (((3 : Int32) * c5) + s.1) (lenI 20)) <|
            bd (some (uI s.2 (1, 20) (((3 : Int32) * c5) + s.1).toNatClampNeg x2)) fun M9 =>
            some (Sum.inl ((s.1 + 1), M9))
def b_M_taken_21 (c2 : Int32) (c4 : Int32) (s : Int32 × Mm) : Option ((Int32 × Mm) ⊕ (Int32 × Mm)) :=
  if c2 ≤ s.1 then
    some (Sum.inr (s.1, s.2))
  else
    bd (lp (b_M_taken_30 c2 c4 s.1) ((0 : Int32), s.2)) fun r12 =>
    some (Sum.inl ((s.1 + 1), r12.2))
def b_M_taken_7 (c2 : Int32) (s : Int32 × Mm) : Option ((Int32 × Mm) ⊕ (Int32 × Mm)) :=
  if (9 : Int32) ≤ s.1 then
    some (Sum.inr (s.1, s.2))
  else
    bd (lp (b_M_taken_21 c2 (s.1 - s.1 / (3 : Int32) * (3 : Int32))) ((0 : Int32), s.2)) fun r13 =>
    some (Sum.inl ((s.1 + 1), r13.2))
def b_M_taken_172 (c2 : Int32) (c4 : Int32) (M : Mm) (s : Int32 × Int32) : Option ((Int32 × Int32) ⊕ (Int32 × Int32)) :=
  if c2 ≤ s.2 then
    some (Sum.inr (s.1, s.2))
  else
    ck (inb ((4 : Int32) * s.2) (lenI 20)) <|
    if (M.1 (1, 20) ((4 : Int32) * s.2).toNatClampNeg) = (2 : Int32) then
      if c4 = s.2 then
        some (Sum.inl ((s.1 ||| ((1 : Int32) <<< (c4 &&& 31))), (s.2 + 1)))
      else
        ck (inb (((3 : Int32) * c4) + s.2) (lenI 20)) <|
        if (M.1 (1, 20) (((3 : Int32) * c4) + s.2).toNatClampNeg) ≤ 0 then
          some (Sum.inl (s.1, (s.2 + 1)))
        else
          some (Sum.inl ((s.1 ||| ((1 : Int32) <<< (c4 &&& 31))), (s.2 + 1)))
    else
      some (Sum.inl (s.1, (s.2 + 1)))
def b_M_taken_163 (c2 : Int32) (M : Mm) (s : Int32 × Int32) : Option ((Int32 × Int32) ⊕ (Int32 × Int32)) :=
  if c2 ≤ s.2 then
    some (Sum.inr (s.1, s.2))
  else
    bd (lp (b_M_taken_172 c2 s.2 M) (s.1, (0 : Int32))) fun r15 =>
    some (Sum.inl (r15.1, (s.2 + 1)))
def m_M_taken (a1 : Int32) (a2 : Int32) (M : Mm) : Option (Int32 × Mm) :=
  bd (m_M_spread a1 M) fun r1 =>
  bd (lp (b_M_taken_7 a2) ((0 : Int32), r1)) fun r14 =>
  bd (lp (b_M_taken_163 a2 r14.2) ((0 : Int32), (0 : Int32))) fun r16 =>
  some (r16.1, r14.2)
set_option maxRecDepth 20000 in
theorem w_M_taken_30 {l : Launch} {post : Option PV → Mm → Prop} (c1 : Int32) (c2 : Int32) (c3 : Int32) (c4 : Int32) (c5 : Int32)  {r : Int32 × Mm} (kk : Go l X_M_taken post 146 [(0, vr 8 0), (1, vi c1), (2, vi c2), (3, vi c3), (4, vi c4), (5, vi c5), (6, vi r.1)] [] r.2) : ∀ (n : Nat) (s : Int32 × Mm), lpN (b_M_taken_30 c2 c4 c5) n s = some r → Go l X_M_taken post 30 [(0, vr 8 0), (1, vi c1), (2, vi c2), (3, vi c3), (4, vi c4), (5, vi c5), (6, vi s.1)] [] s.2 := by
  intro n
  induction n with
  | zero => intro s hc; exact (lpN_0 hc).elim
  | succ n ih =>
    intro s hc
    obtain ⟨q, h, hc⟩ := lpN_inv hc
    unfold b_M_taken_30 at h
    refine go_iload 19 rfl 6 rfl ?_
    refine go_iload_n 20 rfl 2 rfl rfl ?_
    refine go_icmp_ge 146 21 rfl (by decide) (fun c => ?_) (fun c => ?_)
    · replace h := ite_t c h
      cases h
      obtain rfl := lpq_r hc
      exact kk
    · replace h := ite_f c h
      refine go_aload_n 22 rfl 0 rfl rfl ?_
      refine go_getfield 9 _ 23 rfl (by first | decide | exact ok0 (by omega) | exact ok1 (by omega) | exact ok2 (by omega) | exact ok7 (by omega)) rfl fg_M_32 rfl ?_
      refine go_iconst 3 24 rfl (by decide) ?_
      refine go_iload 25 rfl 5 rfl ?_
      refine go_imul 26 rfl ?_
      refine go_iload 27 rfl 4 rfl ?_
      refine go_iadd 28 rfl ?_
      obtain ⟨c, h⟩ := ck_inv h
      refine go_iaload 29 rfl (by first | decide | exact ok0 (by omega) | exact ok1 (by omega) | exact ok2 (by omega) | exact ok7 (by omega)) (inb_vp c) ?_
      obtain ⟨_, c, h⟩ := bd_inv h
      cases c
      refine go_istore 30 rfl (Nat.le_of_ble_eq_true rfl) [(0, _), (1, _), (2, _), (3, _), (4, _), (5, _), (6, _), (7, _)] rfl ?_
      refine go_aload_n 31 rfl 0 rfl rfl ?_
      refine go_getfield 9 _ 32 rfl (by first | decide | exact ok0 (by omega) | exact ok1 (by omega) | exact ok2 (by omega) | exact ok7 (by omega)) rfl fg_M_32 rfl ?_
      refine go_iconst 3 33 rfl (by decide) ?_
      refine go_iload 34 rfl 4 rfl ?_
      refine go_imul 35 rfl ?_
      refine go_iload 36 rfl 6 rfl ?_
      refine go_iadd 37 rfl ?_
      obtain ⟨c, h⟩ := ck_inv h
      refine go_iaload 38 rfl (by first | decide | exact ok0 (by omega) | exact ok1 (by omega) | exact ok2 (by omega) | exact ok7 (by omega)) (inb_vp c) ?_
      obtain ⟨_, c, h⟩ := bd_inv h
      cases c
      refine go_istore 39 rfl (Nat.le_of_ble_eq_true rfl) [(0, _), (1, _), (2, _), (3, _), (4, _), (5, _), (6, _), (7, _), (8, _)] rfl ?_
      refine go_iload 40 rfl 7 rfl ?_
      refine go_if_eq 74 41 rfl (by decide) (fun c => ?_) (fun c => ?_)
      · replace h := ite_t c h
        refine go_iconst 0 44 rfl (by decide) ?_
        refine go_goto 92 45 rfl (by decide) ?_
        refine go_istore 52 rfl (Nat.le_of_ble_eq_true rfl) [(0, _), (1, _), (2, _), (3, _), (4, _), (5, _), (6, _), (7, _), (8, _), (9, _)] rfl ?_
        refine go_aload_n 53 rfl 0 rfl rfl ?_
        refine go_getfield 9 _ 54 rfl (by first | decide | exact ok0 (by omega) | exact ok1 (by omega) | exact ok2 (by omega) | exact ok7 (by omega)) rfl fg_M_32 rfl ?_
        refine go_iconst 3 55 rfl (by decide) ?_
        refine go_iload 56 rfl 5 rfl ?_
        refine go_imul 57 rfl ?_
        refine go_iload 58 rfl 6 rfl ?_
        refine go_iadd 59 rfl ?_
        refine go_iload 60 rfl 9 rfl ?_
        refine go_aload_n 61 rfl 0 rfl rfl ?_
        refine go_getfield 9 _ 62 rfl (by first | decide | exact ok0 (by omega) | exact ok1 (by omega) | exact ok2 (by omega) | exact ok7 (by omega)) rfl fg_M_32 rfl ?_
        refine go_iconst 3 63 rfl (by decide) ?_
        refine go_iload 64 rfl 5 rfl ?_
        refine go_imul 65 rfl ?_
        refine go_iload 66 rfl 6 rfl ?_
        refine go_iadd 67 rfl ?_
        obtain ⟨c, h⟩ := ck_inv h
        refine go_iaload 68 rfl (by first | decide | exact ok0 (by omega) | exact ok1 (by omega) | exact ok2 (by omega) | exact ok7 (by omega)) (inb_vp c) ?_
        refine go_icmp_le 127 69 rfl (by decide) (fun c => ?_) (fun c => ?_)
        · replace h := ite_t c h
          refine go_aload_n 72 rfl 0 rfl rfl ?_
          refine go_getfield 9 _ 73 rfl (by first | decide | exact ok0 (by omega) | exact ok1 (by omega) | exact ok2 (by omega) | exact ok7 (by omega)) rfl fg_M_32 rfl ?_
          refine go_iconst 3 74 rfl (by decide) ?_
          refine go_iload 75 rfl 5 rfl ?_
          refine go_imul 76 rfl ?_
          refine go_iload 77 rfl 6 rfl ?_
          refine go_iadd 78 rfl ?_
          obtain ⟨c, h⟩ := ck_inv h
          refine go_iaload 79 rfl (by first | decide | exact ok0 (by omega) | exact ok1 (by omega) | exact ok2 (by omega) | exact ok7 (by omega)) (inb_vp c) ?_
          obtain ⟨c, h⟩ := ck_inv h
          refine go_iastore 80 rfl (by first | decide | exact ok0 (by omega) | exact ok1 (by omega) | exact ok2 (by omega) | exact ok7 (by omega)) (inb_vp c) ?_
          obtain ⟨_, c, h⟩ := bd_inv h
          cases c
          refine go_iinc 1 81 rfl 6 rfl (by decide) (Nat.le_of_ble_eq_true rfl) [(0, _), (1, _), (2, _), (3, _), (4, _), (5, _), (6, _), (7, _), (8, _), (9, _)] rfl ?_
          refine go_goto 30 82 rfl (by decide) ?_
          cases h
          refine go_sub [0, 1, 2, 3, 4, 5, 6] rfl ?_
          have g9 := ih _ hc
          exact g9
        · replace h := ite_f c h
          refine go_iload 70 rfl 9 rfl ?_
          refine go_goto 139 71 rfl (by decide) ?_
          obtain ⟨c, h⟩ := ck_inv h
          refine go_iastore 80 rfl (by first | decide | exact ok0 (by omega) | exact ok1 (by omega) | exact ok2 (by omega) | exact ok7 (by omega)) (inb_vp c) ?_
          obtain ⟨_, c, h⟩ := bd_inv h
          cases c
          refine go_iinc 1 81 rfl 6 rfl (by decide) (Nat.le_of_ble_eq_true rfl) [(0, _), (1, _), (2, _), (3, _), (4, _), (5, _), (6, _), (7, _), (8, _), (9, _)] rfl ?_
          refine go_goto 30 82 rfl (by decide) ?_
          cases h
          refine go_sub [0, 1, 2, 3, 4, 5, 6] rfl ?_
          have g9 := ih _ hc
          exact g9
      · replace h := ite_f c h
        refine go_iload 42 rfl 8 rfl ?_
        refine go_if_ne 78 43 rfl (by decide) (fun c => ?_) (fun c => ?_)
        · replace h := ite_f c h
          refine go_iload 46 rfl 7 rfl ?_
          refine go_iload 47 rfl 8 rfl ?_
          refine go_icmp_le 90 48 rfl (by decide) (fun c => ?_) (fun c => ?_)
          · replace h := ite_t c h
            refine go_iload 51 rfl 8 rfl ?_
            refine go_istore 52 rfl (Nat.le_of_ble_eq_true rfl) [(0, _), (1, _), (2, _), (3, _), (4, _), (5, _), (6, _), (7, _), (8, _), (9, _)] rfl ?_
            refine go_aload_n 53 rfl 0 rfl rfl ?_
            refine go_getfield 9 _ 54 rfl (by first | decide | exact ok0 (by omega) | exact ok1 (by omega) | exact ok2 (by omega) | exact ok7 (by omega)) rfl fg_M_32 rfl ?_
            refine go_iconst 3 55 rfl (by decide) ?_
            refine go_iload 56 rfl 5 rfl ?_
            refine go_imul 57 rfl ?_
            refine go_iload 58 rfl 6 rfl ?_
            refine go_iadd 59 rfl ?_
            refine go_iload 60 rfl 9 rfl ?_
            refine go_aload_n 61 rfl 0 rfl rfl ?_
            refine go_getfield 9 _ 62 rfl (by first | decide | exact ok0 (by omega) | exact ok1 (by omega) | exact ok2 (by omega) | exact ok7 (by omega)) rfl fg_M_32 rfl ?_
            refine go_iconst 3 63 rfl (by decide) ?_
            refine go_iload 64 rfl 5 rfl ?_
            refine go_imul 65 rfl ?_
            refine go_iload 66 rfl 6 rfl ?_
            refine go_iadd 67 rfl ?_
            obtain ⟨c, h⟩ := ck_inv h
            refine go_iaload 68 rfl (by first | decide | exact ok0 (by omega) | exact ok1 (by omega) | exact ok2 (by omega) | exact ok7 (by omega)) (inb_vp c) ?_
            refine go_icmp_le 127 69 rfl (by decide) (fun c => ?_) (fun c => ?_)
            · replace h := ite_t c h
              refine go_aload_n 72 rfl 0 rfl rfl ?_
              refine go_getfield 9 _ 73 rfl (by first | decide | exact ok0 (by omega) | exact ok1 (by omega) | exact ok2 (by omega) | exact ok7 (by omega)) rfl fg_M_32 rfl ?_
              refine go_iconst 3 74 rfl (by decide) ?_
              refine go_iload 75 rfl 5 rfl ?_
              refine go_imul 76 rfl ?_
              refine go_iload 77 rfl 6 rfl ?_
              refine go_iadd 78 rfl ?_
              obtain ⟨c, h⟩ := ck_inv h
              refine go_iaload 79 rfl (by first | decide | exact ok0 (by omega) | exact ok1 (by omega) | exact ok2 (by omega) | exact ok7 (by omega)) (inb_vp c) ?_
              obtain ⟨c, h⟩ := ck_inv h
              refine go_iastore 80 rfl (by first | decide | exact ok0 (by omega) | exact ok1 (by omega) | exact ok2 (by omega) | exact ok7 (by omega)) (inb_vp c) ?_
              obtain ⟨_, c, h⟩ := bd_inv h
              cases c
              refine go_iinc 1 81 rfl 6 rfl (by decide) (Nat.le_of_ble_eq_true rfl) [(0, _), (1, _), (2, _), (3, _), (4, _), (5, _), (6, _), (7, _), (8, _), (9, _)] rfl ?_
              refine go_goto 30 82 rfl (by decide) ?_
              cases h
              refine go_sub [0, 1, 2, 3, 4, 5, 6] rfl ?_
              have g9 := ih _ hc
              exact g9
            · replace h := ite_f c h
              refine go_iload 70 rfl 9 rfl ?_
              refine go_goto 139 71 rfl (by decide) ?_
              obtain ⟨c, h⟩ := ck_inv h
              refine go_iastore 80 rfl (by first | decide | exact ok0 (by omega) | exact ok1 (by omega) | exact ok2 (by omega) | exact ok7 (by omega)) (inb_vp c) ?_
              obtain ⟨_, c, h⟩ := bd_inv h
              cases c
              refine go_iinc 1 81 rfl 6 rfl (by decide) (Nat.le_of_ble_eq_true rfl) [(0, _), (1, _), (2, _), (3, _), (4, _), (5, _), (6, _), (7, _), (8, _), (9, _)] rfl ?_
              refine go_goto 30 82 rfl (by decide) ?_
              cases h
              refine go_sub [0, 1, 2, 3, 4, 5, 6] rfl ?_
              have g9 := ih _ hc
              exact g9
          · replace h := ite_f c h
            refine go_iload 49 rfl 7 rfl ?_
            refine go_goto 92 50 rfl (by decide) ?_
            refine go_istore 52 rfl (Nat.le_of_ble_eq_true rfl) [(0, _), (1, _), (2, _), (3, _), (4, _), (5, _), (6, _), (7, _), (8, _), (9, _)] rfl ?_
            refine go_aload_n 53 rfl 0 rfl rfl ?_
            refine go_getfield 9 _ 54 rfl (by first | decide | exact ok0 (by omega) | exact ok1 (by omega) | exact ok2 (by omega) | exact ok7 (by omega)) rfl fg_M_32 rfl ?_
            refine go_iconst 3 55 rfl (by decide) ?_
            refine go_iload 56 rfl 5 rfl ?_
            refine go_imul 57 rfl ?_
            refine go_iload 58 rfl 6 rfl ?_
            refine go_iadd 59 rfl ?_
            refine go_iload 60 rfl 9 rfl ?_
            refine go_aload_n 61 rfl 0 rfl rfl ?_
            refine go_getfield 9 _ 62 rfl (by first | decide | exact ok0 (by omega) | exact ok1 (by omega) | exact ok2 (by omega) | exact ok7 (by omega)) rfl fg_M_32 rfl ?_
            refine go_iconst 3 63 rfl (by decide) ?_
            refine go_iload 64 rfl 5 rfl ?_
            refine go_imul 65 rfl ?_
            refine go_iload 66 rfl 6 rfl ?_
            refine go_iadd 67 rfl ?_
            obtain ⟨c, h⟩ := ck_inv h
            refine go_iaload 68 rfl (by first | decide | exact ok0 (by omega) | exact ok1 (by omega) | exact ok2 (by omega) | exact ok7 (by omega)) (inb_vp c) ?_
            refine go_icmp_le 127 69 rfl (by decide) (fun c => ?_) (fun c => ?_)
            · replace h := ite_t c h
              refine go_aload_n 72 rfl 0 rfl rfl ?_
              refine go_getfield 9 _ 73 rfl (by first | decide | exact ok0 (by omega) | exact ok1 (by omega) | exact ok2 (by omega) | exact ok7 (by omega)) rfl fg_M_32 rfl ?_
              refine go_iconst 3 74 rfl (by decide) ?_
              refine go_iload 75 rfl 5 rfl ?_
              refine go_imul 76 rfl ?_
              refine go_iload 77 rfl 6 rfl ?_
              refine go_iadd 78 rfl ?_
              obtain ⟨c, h⟩ := ck_inv h
              refine go_iaload 79 rfl (by first | decide | exact ok0 (by omega) | exact ok1 (by omega) | exact ok2 (by omega) | exact ok7 (by omega)) (inb_vp c) ?_
              obtain ⟨c, h⟩ := ck_inv h
              refine go_iastore 80 rfl (by first | decide | exact ok0 (by omega) | exact ok1 (by omega) | exact ok2 (by omega) | exact ok7 (by omega)) (inb_vp c) ?_
              obtain ⟨_, c, h⟩ := bd_inv h
              cases c
              refine go_iinc 1 81 rfl 6 rfl (by decide) (Nat.le_of_ble_eq_true rfl) [(0, _), (1, _), (2, _), (3, _), (4, _), (5, _), (6, _), (7, _), (8, _), (9, _)] rfl ?_
              refine go_goto 30 82 rfl (by decide) ?_
              cases h
              refine go_sub [0, 1, 2, 3, 4, 5, 6] rfl ?_
              have g9 := ih _ hc
              exact g9
            · replace h := ite_f c h
              refine go_iload 70 rfl 9 rfl ?_
              refine go_goto 139 71 rfl (by decide) ?_
              obtain ⟨c, h⟩ := ck_inv h
              refine go_iastore 80 rfl (by first | decide | exact ok0 (by omega) | exact ok1 (by omega) | exact ok2 (by omega) | exact ok7 (by omega)) (inb_vp c) ?_
              obtain ⟨_, c, h⟩ := bd_inv h
              cases c
              refine go_iinc 1 81 rfl 6 rfl (by decide) (Nat.le_of_ble_eq_true rfl) [(0, _), (1, _), (2, _), (3, _), (4, _), (5, _), (6, _), (7, _), (8, _), (9, _)] rfl ?_
              refine go_goto 30 82 rfl (by decide) ?_
              cases h
              refine go_sub [0, 1, 2, 3, 4, 5, 6] rfl ?_
              have g9 := ih _ hc
              exact g9
        · replace h := ite_t c h
          refine go_iconst 0 44 rfl (by decide) ?_
          refine go_goto 92 45 rfl (by decide) ?_
          refine go_istore 52 rfl (Nat.le_of_ble_eq_true rfl) [(0, _), (1, _), (2, _), (3, _), (4, _), (5, _), (6, _), (7, _), (8, _), (9, _)] rfl ?_
          refine go_aload_n 53 rfl 0 rfl rfl ?_
          refine go_getfield 9 _ 54 rfl (by first | decide | exact ok0 (by omega) | exact ok1 (by omega) | exact ok2 (by omega) | exact ok7 (by omega)) rfl fg_M_32 rfl ?_
          refine go_iconst 3 55 rfl (by decide) ?_
          refine go_iload 56 rfl 5 rfl ?_
          refine go_imul 57 rfl ?_
          refine go_iload 58 rfl 6 rfl ?_
          refine go_iadd 59 rfl ?_
          refine go_iload 60 rfl 9 rfl ?_
          refine go_aload_n 61 rfl 0 rfl rfl ?_
          refine go_getfield 9 _ 62 rfl (by first | decide | exact ok0 (by omega) | exact ok1 (by omega) | exact ok2 (by omega) | exact ok7 (by omega)) rfl fg_M_32 rfl ?_
          refine go_iconst 3 63 rfl (by decide) ?_
          refine go_iload 64 rfl 5 rfl ?_
          refine go_imul 65 rfl ?_
          refine go_iload 66 rfl 6 rfl ?_
          refine go_iadd 67 rfl ?_
          obtain ⟨c, h⟩ := ck_inv h
          refine go_iaload 68 rfl (by first | decide | exact ok0 (by omega) | exact ok1 (by omega) | exact ok2 (by omega) | exact ok7 (by omega)) (inb_vp c) ?_
          refine go_icmp_le 127 69 rfl (by decide) (fun c => ?_) (fun c => ?_)
          · replace h := ite_t c h
            refine go_aload_n 72 rfl 0 rfl rfl ?_
            refine go_getfield 9 _ 73 rfl (by first | decide | exact ok0 (by omega) | exact ok1 (by omega) | exact ok2 (by omega) | exact ok7 (by omega)) rfl fg_M_32 rfl ?_
            refine go_iconst 3 74 rfl (by decide) ?_
            refine go_iload 75 rfl 5 rfl ?_
            refine go_imul 76 rfl ?_
            refine go_iload 77 rfl 6 rfl ?_
            refine go_iadd 78 rfl ?_
            obtain ⟨c, h⟩ := ck_inv h
            refine go_iaload 79 rfl (by first | decide | exact ok0 (by omega) | exact ok1 (by omega) | exact ok2 (by omega) | exact ok7 (by omega)) (inb_vp c) ?_
            obtain ⟨c, h⟩ := ck_inv h
            refine go_iastore 80 rfl (by first | decide | exact ok0 (by omega) | exact ok1 (by omega) | exact ok2 (by omega) | exact ok7 (by omega)) (inb_vp c) ?_
            obtain ⟨_, c, h⟩ := bd_inv h
            cases c
            refine go_iinc 1 81 rfl 6 rfl (by decide) (Nat.le_of_ble_eq_true rfl) [(0, _), (1, _), (2, _), (3, _), (4, _), (5, _), (6, _), (7, _), (8, _), (9, _)] rfl ?_
            refine go_goto 30 82 rfl (by decide) ?_
            cases h
            refine go_sub [0, 1, 2, 3, 4, 5, 6] rfl ?_
            have g9 := ih _ hc
            exact g9
          · replace h := ite_f c h
            refine go_iload 70 rfl 9 rfl ?_
            refine go_goto 139 71 rfl (by decide) ?_
            obtain ⟨c, h⟩ := ck_inv h
            refine go_iastore 80 rfl (by first | decide | exact ok0 (by omega) | exact ok1 (by omega) | exact ok2 (by omega) | exact ok7 (by omega)) (inb_vp c) ?_
            obtain ⟨_, c, h⟩ := bd_inv h
            cases c
            refine go_iinc 1 81 rfl 6 rfl (by decide) (Nat.le_of_ble_eq_true rfl) [(0, _), (1, _), (2, _), (3, _), (4, _), (5, _), (6, _), (7, _), (8, _), (9, _)] rfl ?_
            refine go_goto 30 82 rfl (by decide) ?_
            cases h
            refine go_sub [0, 1, 2, 3, 4, 5, 6] rfl ?_
            have g9 := ih _ hc
            exact g9
set_option maxRecDepth 20000 in
theorem w_M_taken_21 {l : Launch} {post : Option PV → Mm → Prop} (c1 : Int32) (c2 : Int32) (c3 : Int32) (c4 : Int32)  {r : Int32 × Mm} (kk : Go l X_M_taken post 152 [(0, vr 8 0), (1, vi c1), (2, vi c2), (3, vi c3), (4, vi c4), (5, vi r.1)] [] r.2) : ∀ (n : Nat) (s : Int32 × Mm), lpN (b_M_taken_21 c2 c4) n s = some r → Go l X_M_taken post 21 [(0, vr 8 0), (1, vi c1), (2, vi c2), (3, vi c3), (4, vi c4), (5, vi s.1)] [] s.2 := by
  intro n
  induction n with
  | zero => intro s hc; exact (lpN_0 hc).elim
  | succ n ih =>
    intro s hc
    obtain ⟨q, h, hc⟩ := lpN_inv hc
    unfold b_M_taken_21 at h
    refine go_iload 14 rfl 5 rfl ?_
    refine go_iload_n 15 rfl 2 rfl rfl ?_
    refine go_icmp_ge 152 16 rfl (by decide) (fun c => ?_) (fun c => ?_)
    · replace h := ite_t c h
      cases h
      obtain rfl := lpq_r hc
      exact kk
    · replace h := ite_f c h
      refine go_iconst 0 17 rfl (by decide) ?_
      refine go_istore 18 rfl (Nat.le_of_ble_eq_true rfl) [(0, _), (1, _), (2, _), (3, _), (4, _), (5, _), (6, _)] rfl ?_
      obtain ⟨r12, c, h⟩ := bd_inv h
      refine w_M_taken_30 _ _ _ _ _ ?_ _ _ c
      refine go_iinc 1 83 rfl 5 rfl (by decide) (Nat.le_of_ble_eq_true rfl) [(0, _), (1, _), (2, _), (3, _), (4, _), (5, _), (6, _)] rfl ?_
      refine go_goto 21 84 rfl (by decide) ?_
      cases h
      refine go_sub [0, 1, 2, 3, 4, 5] rfl ?_
      have g9 := ih _ hc
      exact g9
set_option maxRecDepth 20000 in
theorem w_M_taken_7 {l : Launch} {post : Option PV → Mm → Prop} (c1 : Int32) (c2 : Int32)  {r : Int32 × Mm} (kk : Go l X_M_taken post 158 [(0, vr 8 0), (1, vi c1), (2, vi c2), (3, vi r.1)] [] r.2) : ∀ (n : Nat) (s : Int32 × Mm), lpN (b_M_taken_7 c2) n s = some r → Go l X_M_taken post 7 [(0, vr 8 0), (1, vi c1), (2, vi c2), (3, vi s.1)] [] s.2 := by
  intro n
  induction n with
  | zero => intro s hc; exact (lpN_0 hc).elim
  | succ n ih =>
    intro s hc
    obtain ⟨q, h, hc⟩ := lpN_inv hc
    unfold b_M_taken_7 at h
    refine go_iload_n 5 rfl 3 rfl rfl ?_
    refine go_bipush 9 6 rfl (by decide) ?_
    refine go_icmp_ge 158 7 rfl (by decide) (fun c => ?_) (fun c => ?_)
    · replace h := ite_t c h
      cases h
      obtain rfl := lpq_r hc
      exact kk
    · replace h := ite_f c h
      refine go_iload_n 8 rfl 3 rfl rfl ?_
      refine go_iconst 3 9 rfl (by decide) ?_
      refine go_irem 10 rfl (by decide) ?_
      refine go_istore 11 rfl (Nat.le_of_ble_eq_true rfl) [(0, _), (1, _), (2, _), (3, _), (4, _)] rfl ?_
      refine go_iconst 0 12 rfl (by decide) ?_
      refine go_istore 13 rfl (Nat.le_of_ble_eq_true rfl) [(0, _), (1, _), (2, _), (3, _), (4, _), (5, _)] rfl ?_
      obtain ⟨r13, c, h⟩ := bd_inv h
      refine w_M_taken_21 _ _ _ _ ?_ _ _ c
      refine go_iinc 1 85 rfl 3 rfl (by decide) (Nat.le_of_ble_eq_true rfl) [(0, _), (1, _), (2, _), (3, _), (4, _), (5, _)] rfl ?_
      refine go_goto 7 86 rfl (by decide) ?_
      cases h
      refine go_sub [0, 1, 2, 3] rfl ?_
      have g9 := ih _ hc
      exact g9
set_option maxRecDepth 20000 in
theorem w_M_taken_172 {l : Launch} {post : Option PV → Mm → Prop} (c1 : Int32) (c2 : Int32) (c4 : Int32) (M : Mm)  {r : Int32 × Int32} (kk : Go l X_M_taken post 242 [(0, vr 8 0), (1, vi c1), (2, vi c2), (3, vi r.1), (4, vi c4), (5, vi r.2)] [] M) : ∀ (n : Nat) (s : Int32 × Int32), lpN (b_M_taken_172 c2 c4 M) n s = some r → Go l X_M_taken post 172 [(0, vr 8 0), (1, vi c1), (2, vi c2), (3, vi s.1), (4, vi c4), (5, vi s.2)] [] M := by
  intro n
  induction n with
  | zero => intro s hc; exact (lpN_0 hc).elim
  | succ n ih =>
    intro s hc
    obtain ⟨q, h, hc⟩ := lpN_inv hc
    unfold b_M_taken_172 at h
    refine go_iload 96 rfl 5 rfl ?_
    refine go_iload_n 97 rfl 2 rfl rfl ?_
    refine go_icmp_ge 242 98 rfl (by decide) (fun c => ?_) (fun c => ?_)
    · replace h := ite_t c h
      cases h
      obtain rfl := lpq_r hc
      exact kk
    · replace h := ite_f c h
      refine go_aload_n 99 rfl 0 rfl rfl ?_
      refine go_getfield 9 _ 100 rfl (by first | decide | exact ok0 (by omega) | exact ok1 (by omega) | exact ok2 (by omega) | exact ok7 (by omega)) rfl fg_M_32 rfl ?_
      refine go_iconst 4 101 rfl (by decide) ?_
      refine go_iload 102 rfl 5 rfl ?_
      refine go_imul 103 rfl ?_
      obtain ⟨c, h⟩ := ck_inv h
      refine go_iaload 104 rfl (by first | decide | exact ok0 (by omega) | exact ok1 (by omega) | exact ok2 (by omega) | exact ok7 (by omega)) (inb_vp c) ?_
      refine go_iconst 2 105 rfl (by decide) ?_
      refine go_icmp_ne 217 106 rfl (by decide) (fun c => ?_) (fun c => ?_)
      · replace h := ite_f c h
        refine go_iconst 0 121 rfl (by decide) ?_
        refine go_istore 122 rfl (Nat.le_of_ble_eq_true rfl) [(0, _), (1, _), (2, _), (3, _), (4, _), (5, _), (6, _)] rfl ?_
        refine go_iload 123 rfl 6 rfl ?_
        refine go_if_eq 234 124 rfl (by decide) (fun _ => ?_) (fun c => absurd c (by decide))
        refine go_iload_n 131 rfl 3 rfl rfl ?_
        refine go_istore_n 132 rfl rfl (Nat.le_of_ble_eq_true rfl) [(0, _), (1, _), (2, _), (3, _), (4, _), (5, _), (6, _)] rfl ?_
        refine go_iinc 1 133 rfl 5 rfl (by decide) (Nat.le_of_ble_eq_true rfl) [(0, _), (1, _), (2, _), (3, _), (4, _), (5, _), (6, _)] rfl ?_
        refine go_goto 172 134 rfl (by decide) ?_
        cases h
        refine go_sub [0, 1, 2, 3, 4, 5] rfl ?_
        have g9 := ih _ hc
        exact g9
      · replace h := ite_t c h
        refine go_iload 107 rfl 4 rfl ?_
        refine go_iload 108 rfl 5 rfl ?_
        refine go_icmp_eq 213 109 rfl (by decide) (fun c => ?_) (fun c => ?_)
        · replace h := ite_t c h
          refine go_iconst 1 119 rfl (by decide) ?_
          refine go_goto 218 120 rfl (by decide) ?_
          refine go_istore 122 rfl (Nat.le_of_ble_eq_true rfl) [(0, _), (1, _), (2, _), (3, _), (4, _), (5, _), (6, _)] rfl ?_
          refine go_iload 123 rfl 6 rfl ?_
          refine go_if_eq 234 124 rfl (by decide) (fun c => absurd c (by decide)) (fun _ => ?_)
          refine go_iload_n 125 rfl 3 rfl rfl ?_
          refine go_iconst 1 126 rfl (by decide) ?_
          refine go_iload 127 rfl 4 rfl ?_
          refine go_ishl 128 rfl ?_
          refine go_ior 129 rfl ?_
          refine go_goto 235 130 rfl (by decide) ?_
          refine go_istore_n 132 rfl rfl (Nat.le_of_ble_eq_true rfl) [(0, _), (1, _), (2, _), (3, _), (4, _), (5, _), (6, _)] rfl ?_
          refine go_iinc 1 133 rfl 5 rfl (by decide) (Nat.le_of_ble_eq_true rfl) [(0, _), (1, _), (2, _), (3, _), (4, _), (5, _), (6, _)] rfl ?_
          refine go_goto 172 134 rfl (by decide) ?_
          cases h
          refine go_sub [0, 1, 2, 3, 4, 5] rfl ?_
          have g9 := ih _ hc
          exact g9
        · replace h := ite_f c h
          refine go_aload_n 110 rfl 0 rfl rfl ?_
          refine go_getfield 9 _ 111 rfl (by first | decide | exact ok0 (by omega) | exact ok1 (by omega) | exact ok2 (by omega) | exact ok7 (by omega)) rfl fg_M_32 rfl ?_
          refine go_iconst 3 112 rfl (by decide) ?_
          refine go_iload 113 rfl 4 rfl ?_
          refine go_imul 114 rfl ?_
          refine go_iload 115 rfl 5 rfl ?_
          refine go_iadd 116 rfl ?_
          obtain ⟨c, h⟩ := ck_inv h
          refine go_iaload 117 rfl (by first | decide | exact ok0 (by omega) | exact ok1 (by omega) | exact ok2 (by omega) | exact ok7 (by omega)) (inb_vp c) ?_
          refine go_if_le 217 118 rfl (by decide) (fun c => ?_) (fun c => ?_)
          · replace h := ite_t c h
            refine go_iconst 0 121 rfl (by decide) ?_
            refine go_istore 122 rfl (Nat.le_of_ble_eq_true rfl) [(0, _), (1, _), (2, _), (3, _), (4, _), (5, _), (6, _)] rfl ?_
            refine go_iload 123 rfl 6 rfl ?_
            refine go_if_eq 234 124 rfl (by decide) (fun _ => ?_) (fun c => absurd c (by decide))
            refine go_iload_n 131 rfl 3 rfl rfl ?_
            refine go_istore_n 132 rfl rfl (Nat.le_of_ble_eq_true rfl) [(0, _), (1, _), (2, _), (3, _), (4, _), (5, _), (6, _)] rfl ?_
            refine go_iinc 1 133 rfl 5 rfl (by decide) (Nat.le_of_ble_eq_true rfl) [(0, _), (1, _), (2, _), (3, _), (4, _), (5, _), (6, _)] rfl ?_
            refine go_goto 172 134 rfl (by decide) ?_
            cases h
            refine go_sub [0, 1, 2, 3, 4, 5] rfl ?_
            have g9 := ih _ hc
            exact g9
          · replace h := ite_f c h
            refine go_iconst 1 119 rfl (by decide) ?_
            refine go_goto 218 120 rfl (by decide) ?_
            refine go_istore 122 rfl (Nat.le_of_ble_eq_true rfl) [(0, _), (1, _), (2, _), (3, _), (4, _), (5, _), (6, _)] rfl ?_
            refine go_iload 123 rfl 6 rfl ?_
            refine go_if_eq 234 124 rfl (by decide) (fun c => absurd c (by decide)) (fun _ => ?_)
            refine go_iload_n 125 rfl 3 rfl rfl ?_
            refine go_iconst 1 126 rfl (by decide) ?_
            refine go_iload 127 rfl 4 rfl ?_
            refine go_ishl 128 rfl ?_
            refine go_ior 129 rfl ?_
            refine go_goto 235 130 rfl (by decide) ?_
            refine go_istore_n 132 rfl rfl (Nat.le_of_ble_eq_true rfl) [(0, _), (1, _), (2, _), (3, _), (4, _), (5, _), (6, _)] rfl ?_
            refine go_iinc 1 133 rfl 5 rfl (by decide) (Nat.le_of_ble_eq_true rfl) [(0, _), (1, _), (2, _), (3, _), (4, _), (5, _), (6, _)] rfl ?_
            refine go_goto 172 134 rfl (by decide) ?_
            cases h
            refine go_sub [0, 1, 2, 3, 4, 5] rfl ?_
            have g9 := ih _ hc
            exact g9
set_option maxRecDepth 20000 in
theorem w_M_taken_163 {l : Launch} {post : Option PV → Mm → Prop} (c1 : Int32) (c2 : Int32) (M : Mm)  {r : Int32 × Int32} (kk : Go l X_M_taken post 248 [(0, vr 8 0), (1, vi c1), (2, vi c2), (3, vi r.1), (4, vi r.2)] [] M) : ∀ (n : Nat) (s : Int32 × Int32), lpN (b_M_taken_163 c2 M) n s = some r → Go l X_M_taken post 163 [(0, vr 8 0), (1, vi c1), (2, vi c2), (3, vi s.1), (4, vi s.2)] [] M := by
  intro n
  induction n with
  | zero => intro s hc; exact (lpN_0 hc).elim
  | succ n ih =>
    intro s hc
    obtain ⟨q, h, hc⟩ := lpN_inv hc
    unfold b_M_taken_163 at h
    refine go_iload 91 rfl 4 rfl ?_
    refine go_iload_n 92 rfl 2 rfl rfl ?_
    refine go_icmp_ge 248 93 rfl (by decide) (fun c => ?_) (fun c => ?_)
    · replace h := ite_t c h
      cases h
      obtain rfl := lpq_r hc
      exact kk
    · replace h := ite_f c h
      refine go_iconst 0 94 rfl (by decide) ?_
      refine go_istore 95 rfl (Nat.le_of_ble_eq_true rfl) [(0, _), (1, _), (2, _), (3, _), (4, _), (5, _)] rfl ?_
      obtain ⟨r15, c, h⟩ := bd_inv h
      refine w_M_taken_172 _ _ _ _ ?_ _ _ c
      refine go_iinc 1 135 rfl 4 rfl (by decide) (Nat.le_of_ble_eq_true rfl) [(0, _), (1, _), (2, _), (3, _), (4, _), (5, _)] rfl ?_
      refine go_goto 163 136 rfl (by decide) ?_
      cases h
      refine go_sub [0, 1, 2, 3, 4] rfl ?_
      have g9 := ih _ hc
      exact g9
set_option maxRecDepth 20000 in
theorem e_M_taken {l : Launch} {a1 : Int32} {a2 : Int32} {M : Mm} {r : Int32 × Mm}  (h : m_M_taken a1 a2 M = some r) : Ev l X_M_taken [vr 8 0, vi a1, vi a2] M (fun v M2 => v = (some (vi r.1)) ∧ M2 = r.2) := by
  refine Ev.of mk_M_taken [(0, vr 8 0), (1, vi a1), (2, vi a2)] (fun _ => rfl) (fun _ => (Nat.le_of_ble_eq_true rfl)) ?_
  unfold m_M_taken at h
  refine go_aload_n 0 rfl 0 rfl rfl ?_
  refine go_iload_n 1 rfl 1 rfl rfl ?_
  obtain ⟨r1, c, h⟩ := bd_inv h
  refine go_callV1 _ 2 rfl (e_M_spread c) mk_M_spread (by first | decide | exact ok0 (by omega) | exact ok1 (by omega) | exact ok2 (by omega) | exact ok7 (by omega)) rfl cv_M_109 rfl ⟨(Nat.le_of_ble_eq_true rfl), (Nat.le_of_ble_eq_true rfl)⟩ (Nat.le_of_ble_eq_true rfl) rfl ?_
  refine go_iconst 0 3 rfl (by decide) ?_
  refine go_istore_n 4 rfl rfl (Nat.le_of_ble_eq_true rfl) [(0, _), (1, _), (2, _), (3, _)] rfl ?_
  obtain ⟨r14, c, h⟩ := bd_inv h
  refine w_M_taken_7 _ _ ?_ _ _ c
  refine go_iconst 0 87 rfl (by decide) ?_
  refine go_istore_n 88 rfl rfl (Nat.le_of_ble_eq_true rfl) [(0, _), (1, _), (2, _), (3, _)] rfl ?_
  refine go_iconst 0 89 rfl (by decide) ?_
  refine go_istore 90 rfl (Nat.le_of_ble_eq_true rfl) [(0, _), (1, _), (2, _), (3, _), (4, _)] rfl ?_
  obtain ⟨r16, c, h⟩ := bd_inv h
  refine w_M_taken_163 _ _ _ ?_ _ _ c
  refine go_iload_n 137 rfl 3 rfl rfl ?_
  cases h
  exact go_ireturn 138 rfl rfl rfl ⟨rfl, rfl⟩
end
section
def X_M_misses : MX := (⟨"OmegaDeskModel", "misses", "(II)Z"⟩, prog_8_method_34_code, 3, some .boolean, { frames := 0, cells := 0, slots := 0, locals := 0 },
  [(0, .iconst 0, 1), (1, .istore_n 2, 2), (2, .iload_n 2, 3), (3, .bipush 8, 5), (5, .if_icmp .ge 26, 8), (8, .iload_n 0, 9), (9, .iload_n 2, 10), (10, .ishr, 11), (11, .iconst 1, 12), (12, .iand, 13), (13, .iconst 1, 14), (14, .if_icmp .ne 11, 17), (17, .iload_n 2, 18), (18, .iload_n 1, 19), (19, .iand, 20), (20, .ifCond .ne 5, 23), (23, .iconst 1, 24), (24, .ireturn, 25), (25, .iinc 2 1, 28), (28, .goto (-26), 31), (31, .iconst 0, 32), (32, .ireturn, 33)])
set_option maxRecDepth 20000 in
theorem mk_M_misses : Mk X_M_misses := ⟨by unfold TBk; decide +kernel, by decide +kernel, wb_689, ⟨by decide, by decide⟩, rfl, rfl, wb_6⟩
def b_M_misses_2 (c0 : Int32) (c1 : Int32) (s : Int32) : Option ((Int32) ⊕ ((Int32) ⊕ (Bool))) :=
  if (8 : Int32) ≤ s then
    some (Sum.inr (Sum.inl s))
  else
    if ((c0 >>> (s &&& 31)) &&& (1 : Int32)) = (1 : Int32) then
      if (s &&& c1) = 0 then
        some (Sum.inr (Sum.inr true))
      else
        some (Sum.inl (s + 1))
    else
      some (Sum.inl (s + 1))
def m_M_misses (a0 : Int32) (a1 : Int32) : Option (Bool) :=
  bd (lp (b_M_misses_2 a0 a1) (0 : Int32)) fun r1 =>
  smr r1 (fun v3 => some v3) fun s2 =>
  some false
set_option maxRecDepth 20000 in
theorem w_M_misses_2 {l : Launch} {post : Option PV → Mm → Prop} (c0 : Int32) (c1 : Int32) (M : Mm)  {r : (Int32) ⊕ (Bool)} (kk : ∀ s2, r = Sum.inl s2 → Go l X_M_misses post 31 [(0, vi c0), (1, vi c1), (2, vi s2)] [] M) (kr : ∀ v, r = Sum.inr v → post (some (vi (bI v))) M) : ∀ (n : Nat) (s : Int32), lpN (b_M_misses_2 c0 c1) n s = some r → Go l X_M_misses post 2 [(0, vi c0), (1, vi c1), (2, vi s)] [] M := by
  intro n
  induction n with
  | zero => intro s hc; exact (lpN_0 hc).elim
  | succ n ih =>
    intro s hc
    obtain ⟨q, h, hc⟩ := lpN_inv hc
    unfold b_M_misses_2 at h
    refine go_iload_n 2 rfl 2 rfl rfl ?_
    refine go_bipush 8 3 rfl (by decide) ?_
    refine go_icmp_ge 31 4 rfl (by decide) (fun c => ?_) (fun c => ?_)
    · replace h := ite_t c h
      cases h
      obtain rfl := lpq_r hc
      exact kk _ rfl
    · replace h := ite_f c h
      refine go_iload_n 5 rfl 0 rfl rfl ?_
      refine go_iload_n 6 rfl 2 rfl rfl ?_
      refine go_ishr 7 rfl ?_
      refine go_iconst 1 8 rfl (by decide) ?_
      refine go_iand 9 rfl ?_
      refine go_iconst 1 10 rfl (by decide) ?_
      refine go_icmp_ne 25 11 rfl (by decide) (fun c => ?_) (fun c => ?_)
      · replace h := ite_f c h
        refine go_iinc 1 18 rfl 2 rfl (by decide) (Nat.le_of_ble_eq_true rfl) [(0, _), (1, _), (2, _)] rfl ?_
        refine go_goto 2 19 rfl (by decide) ?_
        cases h
        have g9 := ih _ hc
        exact g9
      · replace h := ite_t c h
        refine go_iload_n 12 rfl 2 rfl rfl ?_
        refine go_iload_n 13 rfl 1 rfl rfl ?_
        refine go_iand 14 rfl ?_
        refine go_if_ne 25 15 rfl (by decide) (fun c => ?_) (fun c => ?_)
        · replace h := ite_f c h
          refine go_iinc 1 18 rfl 2 rfl (by decide) (Nat.le_of_ble_eq_true rfl) [(0, _), (1, _), (2, _)] rfl ?_
          refine go_goto 2 19 rfl (by decide) ?_
          cases h
          have g9 := ih _ hc
          exact g9
        · replace h := ite_t c h
          refine go_iconst 1 16 rfl (by decide) ?_
          cases h
          obtain rfl := lpq_r hc
          exact go_ireturn 17 rfl rfl rfl (kr _ rfl)
set_option maxRecDepth 20000 in
theorem e_M_misses {l : Launch} {a0 : Int32} {a1 : Int32} {M : Mm} {r : Bool}  (h : m_M_misses a0 a1 = some r) : Ev l X_M_misses [vi a0, vi a1] M (fun v M2 => v = (some (vi (bI r))) ∧ M2 = M) := by
  refine Ev.of mk_M_misses [(0, vi a0), (1, vi a1)] (fun _ => rfl) (fun _ => (Nat.le_of_ble_eq_true rfl)) ?_
  unfold m_M_misses at h
  refine go_iconst 0 0 rfl (by decide) ?_
  refine go_istore_n 1 rfl rfl (Nat.le_of_ble_eq_true rfl) [(0, _), (1, _), (2, _)] rfl ?_
  obtain ⟨r1, c, h⟩ := bd_inv h
  refine w_M_misses_2 _ _ _ (fun s2 e => ?_) (fun v e => ?_) _ _ c
  · subst e
    replace h := smr_l h
    refine go_iconst 0 20 rfl (by decide) ?_
    cases h
    exact go_ireturn 21 rfl rfl rfl ⟨rfl, rfl⟩
  · subst e
    replace h := smr_r h
    cases h
    exact ⟨rfl, rfl⟩
def X_M_differs : MX := (⟨"OmegaDeskModel", "differs", "(II)Z"⟩, prog_8_method_33_code, 6, some .boolean, { frames := 3, cells := 0, slots := 0, locals := 85 },
  [(0, .aload_n 0, 1), (1, .iload_n 1, 2), (2, .iload_n 2, 3), (3, .invokevirtual 116, 6), (6, .iconst 0, 7), (7, .istore_n 3, 8), (8, .iload_n 3, 9), (9, .aload_n 0, 10), (10, .getfield 16, 13), (13, .iload_n 1, 14), (14, .iaload, 15), (15, .if_icmp .ge 94, 18), (18, .aload_n 0, 19), (19, .getfield 38, 22), (22, .iload_n 3, 23), (23, .iaload, 24), (24, .ifCond .eq 79, 27), (27, .aload_n 0, 28), (28, .iload_n 1, 29), (29, .iload_n 2, 30), (30, .iload_n 3, 31), (31, .invokevirtual 119, 34), (34, .sipush 19683, 37), (37, .iconst 2, 38), (38, .iload_n 3, 39), (39, .imul, 40), (40, .iconst 1, 41), (41, .iadd, 42), (42, .imul, 43), (43, .istore 4, 45), (45, .iconst 0, 46), (46, .istore 5, 48), (48, .iload 5, 50), (50, .sipush 19683, 53), (53, .if_icmp .ge 50, 56), (56, .aload_n 0, 57), (57, .getfield 22, 60), (60, .iload 4, 62), (62, .iload 5, 64), (64, .iadd, 65), (65, .invokestatic 122, 68), (68, .ifCond .eq 29, 71), (71, .aload_n 0, 72), (72, .getfield 38, 75), (75, .iload_n 3, 76), (76, .iaload, 77), (77, .aload_n 0, 78), (78, .iload 5, 80), (80, .aload_n 0, 81), (81, .getfield 16, 84), (84, .iload_n 2, 85), (85, .iaload, 86), (86, .invokevirtual 126, 89), (89, .invokestatic 129, 92), (92, .ifCond .eq 5, 95), (95, .iconst 1, 96), (96, .ireturn, 97), (97, .iinc 5 1, 100), (100, .goto (-52), 103), (103, .iinc 3 1, 106), (106, .goto (-98), 109), (109, .iconst 0, 110), (110, .ireturn, 111)])
set_option maxRecDepth 20000 in
theorem mk_M_differs : Mk X_M_differs := ⟨by unfold TBk; decide +kernel, by decide +kernel, wb_648, ⟨by decide, by decide⟩, rfl, rfl, wb_6⟩
theorem cv_M_116 : CV "OmegaDeskModel" 116 X_M_begin 2 8 := ⟨Or.inl wb_649, ⟨wb_651, ws_M_begin⟩, by decide +kernel, F_M, 12, rfl⟩
theorem cv_M_119 : CV "OmegaDeskModel" 119 X_M_gather 3 8 := ⟨Or.inl wb_657, ⟨wb_659, ws_M_gather⟩, by decide +kernel, F_M, 12, rfl⟩
theorem cs_M_122 : CS "OmegaDeskModel" 122 X_M_bit 2 := ⟨Or.inl wb_680, wb_681, by decide +kernel⟩
theorem cv_M_126 : CV "OmegaDeskModel" 126 X_M_taken 2 8 := ⟨Or.inl wb_683, ⟨wb_685, ws_M_taken⟩, by decide +kernel, F_M, 12, rfl⟩
theorem cs_M_129 : CS "OmegaDeskModel" 129 X_M_misses 2 := ⟨Or.inl wb_687, wb_688, by decide +kernel⟩
def b_M_differs_48 (c2 : Int32) (c3 : Int32) (c4 : Int32) (s : Int32 × Mm) : Option ((Int32 × Mm) ⊕ ((Int32 × Mm) ⊕ (Bool × Mm))) :=
  if (19683 : Int32) ≤ s.1 then
    some (Sum.inr (Sum.inl (s.1, s.2)))
  else
    bd (m_M_bit 0 (c4 + s.1) s.2) fun r4 =>
    if (bI r4) = 0 then
      some (Sum.inl ((s.1 + 1), s.2))
    else
      ck (inb c3 (lenI 22)) <|
      ck (inb c2 (lenI 18)) <|
      bd (m_M_taken s.1 (s.2.1 (1, 18) c2.toNatClampNeg) s.2) fun r5 =>
      bd (m_M_misses (s.2.1 (1, 22) c3.toNatClampNeg) r5.1) fun r6 =>
      if (bI r6) = 0 then
        some (Sum.inl ((s.1 + 1), r5.2))
      else
        some (Sum.inr (Sum.inr (true, r5.2)))
def b_M_differs_8 (c1 : Int32) (c2 : Int32) (s : Int32 × Mm) : Option ((Int32 × Mm) ⊕ ((Int32 × Mm) ⊕ (Bool × Mm))) :=
  ck (inb c1 (lenI 18)) <|
  if (s.2.1 (1, 18) c1.toNatClampNeg) ≤ s.1 then
    some (Sum.inr (Sum.inl (s.1, s.2)))
  else
    ck (inb s.1 (lenI 22)) <|
    if (s.2.1 (1, 22) s.1.toNatClampNeg) = 0 then
      some (Sum.inl ((s.1 + 1), s.2))
    else
      bd (m_M_gather c1 c2 s.1 s.2) fun r2 =>
      bd (some ((19683 : Int32) * (((2 : Int32) * s.1) + (1 : Int32)))) fun x3 =>
      bd (lp (b_M_differs_48 c2 s.1 x3) ((0 : Int32), r2)) fun r7 =>
      smr r7 (fun v9 => some (Sum.inr (Sum.inr v9))) fun s8 =>
      some (Sum.inl ((s.1 + 1), s8.2))
def m_M_differs (a1 : Int32) (a2 : Int32) (M : Mm) : Option (Bool × Mm) :=
  bd (m_M_begin a1 a2 M) fun r1 =>
  bd (lp (b_M_differs_8 a1 a2) ((0 : Int32), r1)) fun r10 =>
  smr r10 (fun v12 => some v12) fun s11 =>
  some (false, s11.2)
set_option maxRecDepth 20000 in
theorem w_M_differs_48 {l : Launch} {post : Option PV → Mm → Prop} (c1 : Int32) (c2 : Int32) (c3 : Int32) (c4 : Int32)  {r : (Int32 × Mm) ⊕ (Bool × Mm)} (kk : ∀ s2, r = Sum.inl s2 → Go l X_M_differs post 103 [(0, vr 8 0), (1, vi c1), (2, vi c2), (3, vi c3), (4, vi c4), (5, vi s2.1)] [] s2.2) (kr : ∀ v, r = Sum.inr v → post (some (vi (bI v.1))) v.2) : ∀ (n : Nat) (s : Int32 × Mm), lpN (b_M_differs_48 c2 c3 c4) n s = some r → Go l X_M_differs post 48 [(0, vr 8 0), (1, vi c1), (2, vi c2), (3, vi c3), (4, vi c4), (5, vi s.1)] [] s.2 := by
  intro n
  induction n with
  | zero => intro s hc; exact (lpN_0 hc).elim
  | succ n ih =>
    intro s hc
    obtain ⟨q, h, hc⟩ := lpN_inv hc
    unfold b_M_differs_48 at h
    refine go_iload 32 rfl 5 rfl ?_
    refine go_sipush 19683 33 rfl (by decide) ?_
    refine go_icmp_ge 103 34 rfl (by decide) (fun c => ?_) (fun c => ?_)
    · replace h := ite_t c h
      cases h
      obtain rfl := lpq_r hc
      exact kk _ rfl
    · replace h := ite_f c h
      refine go_aload_n 35 rfl 0 rfl rfl ?_
      refine go_getfield 6 _ 36 rfl (by first | decide | exact ok0 (by omega) | exact ok1 (by omega) | exact ok2 (by omega) | exact ok7 (by omega)) rfl fg_M_22 rfl ?_
      refine go_iload 37 rfl 4 rfl ?_
      refine go_iload 38 rfl 5 rfl ?_
      refine go_iadd 39 rfl ?_
      obtain ⟨r4, c, h⟩ := bd_inv h
      refine go_callS1 _ 40 rfl (e_M_bit (by omega) c) mk_M_bit cs_M_122 rfl ⟨(Nat.le_of_ble_eq_true rfl), (Nat.le_of_ble_eq_true rfl)⟩ (Nat.le_of_ble_eq_true rfl) rfl ?_
      refine go_if_eq 97 41 rfl (by decide) (fun c => ?_) (fun c => ?_)
      · replace h := ite_t c h
        refine go_iinc 1 57 rfl 5 rfl (by decide) (Nat.le_of_ble_eq_true rfl) [(0, _), (1, _), (2, _), (3, _), (4, _), (5, _)] rfl ?_
        refine go_goto 48 58 rfl (by decide) ?_
        cases h
        have g9 := ih _ hc
        exact g9
      · replace h := ite_f c h
        refine go_aload_n 42 rfl 0 rfl rfl ?_
        refine go_getfield 11 _ 43 rfl (by first | decide | exact ok0 (by omega) | exact ok1 (by omega) | exact ok2 (by omega) | exact ok7 (by omega)) rfl fg_M_38 rfl ?_
        refine go_iload_n 44 rfl 3 rfl rfl ?_
        obtain ⟨c, h⟩ := ck_inv h
        refine go_iaload 45 rfl (by first | decide | exact ok0 (by omega) | exact ok1 (by omega) | exact ok2 (by omega) | exact ok7 (by omega)) (inb_vp c) ?_
        refine go_aload_n 46 rfl 0 rfl rfl ?_
        refine go_iload 47 rfl 5 rfl ?_
        refine go_aload_n 48 rfl 0 rfl rfl ?_
        refine go_getfield 3 _ 49 rfl (by first | decide | exact ok0 (by omega) | exact ok1 (by omega) | exact ok2 (by omega) | exact ok7 (by omega)) rfl fg_M_16 rfl ?_
        refine go_iload_n 50 rfl 2 rfl rfl ?_
        obtain ⟨c, h⟩ := ck_inv h
        refine go_iaload 51 rfl (by first | decide | exact ok0 (by omega) | exact ok1 (by omega) | exact ok2 (by omega) | exact ok7 (by omega)) (inb_vp c) ?_
        obtain ⟨r5, c, h⟩ := bd_inv h
        refine go_callV1 _ 52 rfl (e_M_taken c) mk_M_taken (by first | decide | exact ok0 (by omega) | exact ok1 (by omega) | exact ok2 (by omega) | exact ok7 (by omega)) rfl cv_M_126 rfl ⟨(Nat.le_of_ble_eq_true rfl), (Nat.le_of_ble_eq_true rfl)⟩ (Nat.le_of_ble_eq_true rfl) rfl ?_
        obtain ⟨r6, c, h⟩ := bd_inv h
        refine go_callS1 _ 53 rfl (e_M_misses c) mk_M_misses cs_M_129 rfl ⟨(Nat.le_of_ble_eq_true rfl), (Nat.le_of_ble_eq_true rfl)⟩ (Nat.le_of_ble_eq_true rfl) rfl ?_
        refine go_if_eq 97 54 rfl (by decide) (fun c => ?_) (fun c => ?_)
        · replace h := ite_t c h
          refine go_iinc 1 57 rfl 5 rfl (by decide) (Nat.le_of_ble_eq_true rfl) [(0, _), (1, _), (2, _), (3, _), (4, _), (5, _)] rfl ?_
          refine go_goto 48 58 rfl (by decide) ?_
          cases h
          have g9 := ih _ hc
          exact g9
        · replace h := ite_f c h
          refine go_iconst 1 55 rfl (by decide) ?_
          cases h
          obtain rfl := lpq_r hc
          exact go_ireturn 56 rfl rfl rfl (kr _ rfl)
set_option maxRecDepth 20000 in
theorem w_M_differs_8 {l : Launch} {post : Option PV → Mm → Prop} (c1 : Int32) (c2 : Int32)  {r : (Int32 × Mm) ⊕ (Bool × Mm)} (kk : ∀ s2, r = Sum.inl s2 → Go l X_M_differs post 109 [(0, vr 8 0), (1, vi c1), (2, vi c2), (3, vi s2.1)] [] s2.2) (kr : ∀ v, r = Sum.inr v → post (some (vi (bI v.1))) v.2) : ∀ (n : Nat) (s : Int32 × Mm), lpN (b_M_differs_8 c1 c2) n s = some r → Go l X_M_differs post 8 [(0, vr 8 0), (1, vi c1), (2, vi c2), (3, vi s.1)] [] s.2 := by
  intro n
  induction n with
  | zero => intro s hc; exact (lpN_0 hc).elim
  | succ n ih =>
    intro s hc
    obtain ⟨q, h, hc⟩ := lpN_inv hc
    unfold b_M_differs_8 at h
    refine go_iload_n 6 rfl 3 rfl rfl ?_
    refine go_aload_n 7 rfl 0 rfl rfl ?_
    refine go_getfield 3 _ 8 rfl (by first | decide | exact ok0 (by omega) | exact ok1 (by omega) | exact ok2 (by omega) | exact ok7 (by omega)) rfl fg_M_16 rfl ?_
    refine go_iload_n 9 rfl 1 rfl rfl ?_
    obtain ⟨c, h⟩ := ck_inv h
    refine go_iaload 10 rfl (by first | decide | exact ok0 (by omega) | exact ok1 (by omega) | exact ok2 (by omega) | exact ok7 (by omega)) (inb_vp c) ?_
    refine go_icmp_ge 109 11 rfl (by decide) (fun c => ?_) (fun c => ?_)
    · replace h := ite_t c h
      cases h
      obtain rfl := lpq_r hc
      exact kk _ rfl
    · replace h := ite_f c h
      refine go_aload_n 12 rfl 0 rfl rfl ?_
      refine go_getfield 11 _ 13 rfl (by first | decide | exact ok0 (by omega) | exact ok1 (by omega) | exact ok2 (by omega) | exact ok7 (by omega)) rfl fg_M_38 rfl ?_
      refine go_iload_n 14 rfl 3 rfl rfl ?_
      obtain ⟨c, h⟩ := ck_inv h
      refine go_iaload 15 rfl (by first | decide | exact ok0 (by omega) | exact ok1 (by omega) | exact ok2 (by omega) | exact ok7 (by omega)) (inb_vp c) ?_
      refine go_if_eq 103 16 rfl (by decide) (fun c => ?_) (fun c => ?_)
      · replace h := ite_t c h
        refine go_iinc 1 59 rfl 3 rfl (by decide) (Nat.le_of_ble_eq_true rfl) [(0, _), (1, _), (2, _), (3, _)] rfl ?_
        refine go_goto 8 60 rfl (by decide) ?_
        cases h
        have g9 := ih _ hc
        exact g9
      · replace h := ite_f c h
        refine go_aload_n 17 rfl 0 rfl rfl ?_
        refine go_iload_n 18 rfl 1 rfl rfl ?_
        refine go_iload_n 19 rfl 2 rfl rfl ?_
        refine go_iload_n 20 rfl 3 rfl rfl ?_
        obtain ⟨r2, c, h⟩ := bd_inv h
        refine go_callV1 _ 21 rfl (e_M_gather c) mk_M_gather (by first | decide | exact ok0 (by omega) | exact ok1 (by omega) | exact ok2 (by omega) | exact ok7 (by omega)) rfl cv_M_119 rfl ⟨(Nat.le_of_ble_eq_true rfl), (Nat.le_of_ble_eq_true rfl)⟩ (Nat.le_of_ble_eq_true rfl) rfl ?_
        refine go_sipush 19683 22 rfl (by decide) ?_
        refine go_iconst 2 23 rfl (by decide) ?_
        refine go_iload_n 24 rfl 3 rfl rfl ?_
        refine go_imul 25 rfl ?_
        refine go_iconst 1 26 rfl (by decide) ?_
        refine go_iadd 27 rfl ?_
        refine go_imul 28 rfl ?_
        obtain ⟨_, c, h⟩ := bd_inv h
        cases c
        refine go_istore 29 rfl (Nat.le_of_ble_eq_true rfl) [(0, _), (1, _), (2, _), (3, _), (4, _)] rfl ?_
        refine go_iconst 0 30 rfl (by decide) ?_
        refine go_istore 31 rfl (Nat.le_of_ble_eq_true rfl) [(0, _), (1, _), (2, _), (3, _), (4, _), (5, _)] rfl ?_
        obtain ⟨r7, c, h⟩ := bd_inv h
        refine w_M_differs_48 _ _ _ _ (fun s2 e => ?_) (fun v e => ?_) _ _ c
        · subst e
          replace h := smr_l h
          refine go_iinc 1 59 rfl 3 rfl (by decide) (Nat.le_of_ble_eq_true rfl) [(0, _), (1, _), (2, _), (3, _), (4, _), (5, _)] rfl ?_
          refine go_goto 8 60 rfl (by decide) ?_
          cases h
          refine go_sub [0, 1, 2, 3] rfl ?_
          have g9 := ih _ hc
          exact g9
        · subst e
          replace h := smr_r h
          cases h
          obtain rfl := lpq_r hc
          exact kr _ rfl
set_option maxRecDepth 20000 in
theorem e_M_differs {l : Launch} {a1 : Int32} {a2 : Int32} {M : Mm} {r : Bool × Mm}  (h : m_M_differs a1 a2 M = some r) : Ev l X_M_differs [vr 8 0, vi a1, vi a2] M (fun v M2 => v = (some (vi (bI r.1))) ∧ M2 = r.2) := by
  refine Ev.of mk_M_differs [(0, vr 8 0), (1, vi a1), (2, vi a2)] (fun _ => rfl) (fun _ => (Nat.le_of_ble_eq_true rfl)) ?_
  unfold m_M_differs at h
  refine go_aload_n 0 rfl 0 rfl rfl ?_
  refine go_iload_n 1 rfl 1 rfl rfl ?_
  refine go_iload_n 2 rfl 2 rfl rfl ?_
  obtain ⟨r1, c, h⟩ := bd_inv h
  refine go_callV1 _ 3 rfl (e_M_begin c) mk_M_begin (by first | decide | exact ok0 (by omega) | exact ok1 (by omega) | exact ok2 (by omega) | exact ok7 (by omega)) rfl cv_M_116 rfl ⟨(Nat.le_of_ble_eq_true rfl), (Nat.le_of_ble_eq_true rfl)⟩ (Nat.le_of_ble_eq_true rfl) rfl ?_
  refine go_iconst 0 4 rfl (by decide) ?_
  refine go_istore_n 5 rfl rfl (Nat.le_of_ble_eq_true rfl) [(0, _), (1, _), (2, _), (3, _)] rfl ?_
  obtain ⟨r10, c, h⟩ := bd_inv h
  refine w_M_differs_8 _ _ (fun s2 e => ?_) (fun v e => ?_) _ _ c
  · subst e
    replace h := smr_l h
    refine go_iconst 0 61 rfl (by decide) ?_
    cases h
    exact go_ireturn 62 rfl rfl rfl ⟨rfl, rfl⟩
  · subst e
    replace h := smr_r h
    cases h
    exact ⟨rfl, rfl⟩
def X_M_look : MX := (⟨"OmegaDeskModel", "look", "(III)Z"⟩, prog_8_method_35_code, 9, some .boolean, { frames := 4, cells := 0, slots := 0, locals := 121 },
  [(0, .iconst 0, 1), (1, .istore 4, 3), (3, .iload 4, 5), (5, .iload_n 3, 6), (6, .if_icmp .ge 114, 9), (9, .iload_n 3, 10), (10, .iload 4, 12), (12, .isub, 13), (13, .istore 5, 15), (15, .iconst 0, 16), (16, .istore 6, 18), (18, .iload 6, 20), (20, .iload_n 3, 21), (21, .ishr, 22), (22, .ifCond .ne 92, 25), (25, .iload 6, 27), (27, .iload 5, 29), (29, .ishr, 30), (30, .istore 7, 32), (32, .iload 6, 34), (34, .iload 7, 36), (36, .iload 5, 38), (38, .ishl, 39), (39, .isub, 40), (40, .istore 8, 42), (42, .aload_n 0, 43), (43, .iload_n 1, 44), (44, .iload 4, 46), (46, .iload 7, 48), (48, .iload 5, 50), (50, .iload 8, 52), (52, .invokevirtual 89, 55), (55, .ifCond .eq 53, 58), (58, .aload_n 0, 59), (59, .iload_n 2, 60), (60, .iload 4, 62), (62, .iload 7, 64), (64, .iload 5, 66), (66, .iload 8, 68), (68, .invokevirtual 89, 71), (71, .ifCond .ne 37, 74), (74, .aload_n 0, 75), (75, .getfield 19, 78), (78, .iconst 0, 79), (79, .iload 4, 81), (81, .iastore, 82), (82, .aload_n 0, 83), (83, .getfield 19, 86), (86, .iconst 1, 87), (87, .iload 7, 89), (89, .iastore, 90), (90, .aload_n 0, 91), (91, .getfield 19, 94), (94, .iconst 2, 95), (95, .iload 5, 97), (97, .iastore, 98), (98, .aload_n 0, 99), (99, .getfield 19, 102), (102, .iconst 3, 103), (103, .iload 8, 105), (105, .iastore, 106), (106, .iconst 1, 107), (107, .ireturn, 108), (108, .iinc 6 1, 111), (111, .goto (-93), 114), (114, .iinc 4 1, 117), (117, .goto (-114), 120), (120, .iconst 0, 121), (121, .ireturn, 122)])
set_option maxRecDepth 20000 in
theorem mk_M_look : Mk X_M_look := ⟨by unfold TBk; decide +kernel, by decide +kernel, wb_693, ⟨by decide, by decide⟩, rfl, rfl, wb_6⟩
theorem fg_M_19 : FG "OmegaDeskModel" 19 8 5 := ⟨R_M, F_M, 12, rfl, by decide, uw_M, Or.inl wb_530⟩
def b_M_look_18 (c1 : Int32) (c2 : Int32) (c3 : Int32) (c4 : Int32) (c5 : Int32) (s : Int32 × Mm) : Option ((Int32 × Mm) ⊕ ((Int32 × Mm) ⊕ (Bool × Mm))) :=
  if (s.1 >>> (c3 &&& 31)) = 0 then
    bd (some (s.1 - ((s.1 >>> (c5 &&& 31)) <<< (c5 &&& 31)))) fun x1 =>
    bd (m_M_lasso c1 c4 (s.1 >>> (c5 &&& 31)) c5 x1 s.2) fun r2 =>
    if (bI r2) = 0 then
      some (Sum.inl ((s.1 + 1), s.2))
    else
      bd (m_M_lasso c2 c4 (s.1 >>> (c5 &&& 31)) c5 x1 s.2) fun r3 =>
      if (bI r3) = 0 then
        ck (inb (0 : Int32) (lenI 19)) <|
        bd (some (uI s.2 (1, 19) (0 : Int32).toNatClampNeg c4)) fun M4 =>
        ck (inb (1 : Int32) (lenI 19)) <|
        bd (some (uI M4 (1, 19) (1 : Int32).toNatClampNeg (s.1 >>> (c5 &&& 31)))) fun M5 =>
        ck (inb (2 : Int32) (lenI 19)) <|
        bd (some (uI M5 (1, 19) (2 : Int32).toNatClampNeg c5)) fun M6 =>
        ck (inb (3 : Int32) (lenI 19)) <|
        bd (some (uI M6 (1, 19) (3 : Int32).toNatClampNeg x1)) fun M7 =>
        some (Sum.inr (Sum.inr (true, M7)))
      else
        some (Sum.inl ((s.1 + 1), s.2))
  else
    some (Sum.inr (Sum.inl (s.1, s.2)))
def b_M_look_3 (c1 : Int32) (c2 : Int32) (c3 : Int32) (s : Int32 × Mm) : Option ((Int32 × Mm) ⊕ ((Int32 × Mm) ⊕ (Bool × Mm))) :=
  if c3 ≤ s.1 then
    some (Sum.inr (Sum.inl (s.1, s.2)))
  else
    bd (lp (b_M_look_18 c1 c2 c3 s.1 (c3 - s.1)) ((0 : Int32), s.2)) fun r8 =>
    smr r8 (fun v10 => some (Sum.inr (Sum.inr v10))) fun s9 =>
    some (Sum.inl ((s.1 + 1), s9.2))
def m_M_look (a1 : Int32) (a2 : Int32) (a3 : Int32) (M : Mm) : Option (Bool × Mm) :=
  bd (lp (b_M_look_3 a1 a2 a3) ((0 : Int32), M)) fun r11 =>
  smr r11 (fun v13 => some v13) fun s12 =>
  some (false, s12.2)
set_option maxRecDepth 20000 in
theorem w_M_look_18 {l : Launch} {post : Option PV → Mm → Prop} (c1 : Int32) (c2 : Int32) (c3 : Int32) (c4 : Int32) (c5 : Int32)  {r : (Int32 × Mm) ⊕ (Bool × Mm)} (kk : ∀ s2, r = Sum.inl s2 → Go l X_M_look post 114 [(0, vr 8 0), (1, vi c1), (2, vi c2), (3, vi c3), (4, vi c4), (5, vi c5), (6, vi s2.1)] [] s2.2) (kr : ∀ v, r = Sum.inr v → post (some (vi (bI v.1))) v.2) : ∀ (n : Nat) (s : Int32 × Mm), lpN (b_M_look_18 c1 c2 c3 c4 c5) n s = some r → Go l X_M_look post 18 [(0, vr 8 0), (1, vi c1), (2, vi c2), (3, vi c3), (4, vi c4), (5, vi c5), (6, vi s.1)] [] s.2 := by
  intro n
  induction n with
  | zero => intro s hc; exact (lpN_0 hc).elim
  | succ n ih =>
    intro s hc
    obtain ⟨q, h, hc⟩ := lpN_inv hc
    unfold b_M_look_18 at h
    refine go_iload 11 rfl 6 rfl ?_
    refine go_iload_n 12 rfl 3 rfl rfl ?_
    refine go_ishr 13 rfl ?_
    refine go_if_ne 114 14 rfl (by decide) (fun c => ?_) (fun c => ?_)
    · replace h := ite_f c h
      cases h
      obtain rfl := lpq_r hc
      exact kk _ rfl
    · replace h := ite_t c h
      refine go_iload 15 rfl 6 rfl ?_
      refine go_iload 16 rfl 5 rfl ?_
      refine go_ishr 17 rfl ?_
      refine go_istore 18 rfl (Nat.le_of_ble_eq_true rfl) [(0, _), (1, _), (2, _), (3, _), (4, _), (5, _), (6, _), (7, _)] rfl ?_
      refine go_iload 19 rfl 6 rfl ?_
      refine go_iload 20 rfl 7 rfl ?_
      refine go_iload 21 rfl 5 rfl ?_
      refine go_ishl 22 rfl ?_
      refine go_isub 23 rfl ?_
      obtain ⟨_, c, h⟩ := bd_inv h
      cases c
      refine go_istore 24 rfl (Nat.le_of_ble_eq_true rfl) [(0, _), (1, _), (2, _), (3, _), (4, _), (5, _), (6, _), (7, _), (8, _)] rfl ?_
      refine go_aload_n 25 rfl 0 rfl rfl ?_
      refine go_iload_n 26 rfl 1 rfl rfl ?_
      refine go_iload 27 rfl 4 rfl ?_
      refine go_iload 28 rfl 7 rfl ?_
      refine go_iload 29 rfl 5 rfl ?_
      refine go_iload 30 rfl 8 rfl ?_
      obtain ⟨r2, c, h⟩ := bd_inv h
      refine go_callV1 _ 31 rfl (e_M_lasso c) mk_M_lasso (by first | decide | exact ok0 (by omega) | exact ok1 (by omega) | exact ok2 (by omega) | exact ok7 (by omega)) rfl cv_M_89 rfl ⟨(Nat.le_of_ble_eq_true rfl), (Nat.le_of_ble_eq_true rfl)⟩ (Nat.le_of_ble_eq_true rfl) rfl ?_
      refine go_if_eq 108 32 rfl (by decide) (fun c => ?_) (fun c => ?_)
      · replace h := ite_t c h
        refine go_iinc 1 63 rfl 6 rfl (by decide) (Nat.le_of_ble_eq_true rfl) [(0, _), (1, _), (2, _), (3, _), (4, _), (5, _), (6, _), (7, _), (8, _)] rfl ?_
        refine go_goto 18 64 rfl (by decide) ?_
        cases h
        refine go_sub [0, 1, 2, 3, 4, 5, 6] rfl ?_
        have g9 := ih _ hc
        exact g9
      · replace h := ite_f c h
        refine go_aload_n 33 rfl 0 rfl rfl ?_
        refine go_iload_n 34 rfl 2 rfl rfl ?_
        refine go_iload 35 rfl 4 rfl ?_
        refine go_iload 36 rfl 7 rfl ?_
        refine go_iload 37 rfl 5 rfl ?_
        refine go_iload 38 rfl 8 rfl ?_
        obtain ⟨r3, c, h⟩ := bd_inv h
        refine go_callV1 _ 39 rfl (e_M_lasso c) mk_M_lasso (by first | decide | exact ok0 (by omega) | exact ok1 (by omega) | exact ok2 (by omega) | exact ok7 (by omega)) rfl cv_M_89 rfl ⟨(Nat.le_of_ble_eq_true rfl), (Nat.le_of_ble_eq_true rfl)⟩ (Nat.le_of_ble_eq_true rfl) rfl ?_
        refine go_if_ne 108 40 rfl (by decide) (fun c => ?_) (fun c => ?_)
        · replace h := ite_f c h
          refine go_iinc 1 63 rfl 6 rfl (by decide) (Nat.le_of_ble_eq_true rfl) [(0, _), (1, _), (2, _), (3, _), (4, _), (5, _), (6, _), (7, _), (8, _)] rfl ?_
          refine go_goto 18 64 rfl (by decide) ?_
          cases h
          refine go_sub [0, 1, 2, 3, 4, 5, 6] rfl ?_
          have g9 := ih _ hc
          exact g9
        · replace h := ite_t c h
          refine go_aload_n 41 rfl 0 rfl rfl ?_
          refine go_getfield 5 _ 42 rfl (by first | decide | exact ok0 (by omega) | exact ok1 (by omega) | exact ok2 (by omega) | exact ok7 (by omega)) rfl fg_M_19 rfl ?_
          refine go_iconst 0 43 rfl (by decide) ?_
          refine go_iload 44 rfl 4 rfl ?_
          obtain ⟨c, h⟩ := ck_inv h
          refine go_iastore 45 rfl (by first | decide | exact ok0 (by omega) | exact ok1 (by omega) | exact ok2 (by omega) | exact ok7 (by omega)) (inb_vp c) ?_
          obtain ⟨_, c, h⟩ := bd_inv h
          cases c
          refine go_aload_n 46 rfl 0 rfl rfl ?_
          refine go_getfield 5 _ 47 rfl (by first | decide | exact ok0 (by omega) | exact ok1 (by omega) | exact ok2 (by omega) | exact ok7 (by omega)) rfl fg_M_19 rfl ?_
          refine go_iconst 1 48 rfl (by decide) ?_
          refine go_iload 49 rfl 7 rfl ?_
          obtain ⟨c, h⟩ := ck_inv h
          refine go_iastore 50 rfl (by first | decide | exact ok0 (by omega) | exact ok1 (by omega) | exact ok2 (by omega) | exact ok7 (by omega)) (inb_vp c) ?_
          obtain ⟨_, c, h⟩ := bd_inv h
          cases c
          refine go_aload_n 51 rfl 0 rfl rfl ?_
          refine go_getfield 5 _ 52 rfl (by first | decide | exact ok0 (by omega) | exact ok1 (by omega) | exact ok2 (by omega) | exact ok7 (by omega)) rfl fg_M_19 rfl ?_
          refine go_iconst 2 53 rfl (by decide) ?_
          refine go_iload 54 rfl 5 rfl ?_
          obtain ⟨c, h⟩ := ck_inv h
          refine go_iastore 55 rfl (by first | decide | exact ok0 (by omega) | exact ok1 (by omega) | exact ok2 (by omega) | exact ok7 (by omega)) (inb_vp c) ?_
          obtain ⟨_, c, h⟩ := bd_inv h
          cases c
          refine go_aload_n 56 rfl 0 rfl rfl ?_
          refine go_getfield 5 _ 57 rfl (by first | decide | exact ok0 (by omega) | exact ok1 (by omega) | exact ok2 (by omega) | exact ok7 (by omega)) rfl fg_M_19 rfl ?_
          refine go_iconst 3 58 rfl (by decide) ?_
          refine go_iload 59 rfl 8 rfl ?_
          obtain ⟨c, h⟩ := ck_inv h
          refine go_iastore 60 rfl (by first | decide | exact ok0 (by omega) | exact ok1 (by omega) | exact ok2 (by omega) | exact ok7 (by omega)) (inb_vp c) ?_
          obtain ⟨_, c, h⟩ := bd_inv h
          cases c
          refine go_iconst 1 61 rfl (by decide) ?_
          cases h
          obtain rfl := lpq_r hc
          exact go_ireturn 62 rfl rfl rfl (kr _ rfl)
set_option maxRecDepth 20000 in
theorem w_M_look_3 {l : Launch} {post : Option PV → Mm → Prop} (c1 : Int32) (c2 : Int32) (c3 : Int32)  {r : (Int32 × Mm) ⊕ (Bool × Mm)} (kk : ∀ s2, r = Sum.inl s2 → Go l X_M_look post 120 [(0, vr 8 0), (1, vi c1), (2, vi c2), (3, vi c3), (4, vi s2.1)] [] s2.2) (kr : ∀ v, r = Sum.inr v → post (some (vi (bI v.1))) v.2) : ∀ (n : Nat) (s : Int32 × Mm), lpN (b_M_look_3 c1 c2 c3) n s = some r → Go l X_M_look post 3 [(0, vr 8 0), (1, vi c1), (2, vi c2), (3, vi c3), (4, vi s.1)] [] s.2 := by
  intro n
  induction n with
  | zero => intro s hc; exact (lpN_0 hc).elim
  | succ n ih =>
    intro s hc
    obtain ⟨q, h, hc⟩ := lpN_inv hc
    unfold b_M_look_3 at h
    refine go_iload 2 rfl 4 rfl ?_
    refine go_iload_n 3 rfl 3 rfl rfl ?_
    refine go_icmp_ge 120 4 rfl (by decide) (fun c => ?_) (fun c => ?_)
    · replace h := ite_t c h
      cases h
      obtain rfl := lpq_r hc
      exact kk _ rfl
    · replace h := ite_f c h
      refine go_iload_n 5 rfl 3 rfl rfl ?_
      refine go_iload 6 rfl 4 rfl ?_
      refine go_isub 7 rfl ?_
      refine go_istore 8 rfl (Nat.le_of_ble_eq_true rfl) [(0, _), (1, _), (2, _), (3, _), (4, _), (5, _)] rfl ?_
      refine go_iconst 0 9 rfl (by decide) ?_
      refine go_istore 10 rfl (Nat.le_of_ble_eq_true rfl) [(0, _), (1, _), (2, _), (3, _), (4, _), (5, _), (6, _)] rfl ?_
      obtain ⟨r8, c, h⟩ := bd_inv h
      refine w_M_look_18 _ _ _ _ _ (fun s2 e => ?_) (fun v e => ?_) _ _ c
      · subst e
        replace h := smr_l h
        refine go_iinc 1 65 rfl 4 rfl (by decide) (Nat.le_of_ble_eq_true rfl) [(0, _), (1, _), (2, _), (3, _), (4, _), (5, _), (6, _)] rfl ?_
        refine go_goto 3 66 rfl (by decide) ?_
        cases h
        refine go_sub [0, 1, 2, 3, 4] rfl ?_
        have g9 := ih _ hc
        exact g9
      · subst e
        replace h := smr_r h
        cases h
        obtain rfl := lpq_r hc
        exact kr _ rfl
set_option maxRecDepth 20000 in
theorem e_M_look {l : Launch} {a1 : Int32} {a2 : Int32} {a3 : Int32} {M : Mm} {r : Bool × Mm}  (h : m_M_look a1 a2 a3 M = some r) : Ev l X_M_look [vr 8 0, vi a1, vi a2, vi a3] M (fun v M2 => v = (some (vi (bI r.1))) ∧ M2 = r.2) := by
  refine Ev.of mk_M_look [(0, vr 8 0), (1, vi a1), (2, vi a2), (3, vi a3)] (fun _ => rfl) (fun _ => (Nat.le_of_ble_eq_true rfl)) ?_
  unfold m_M_look at h
  refine go_iconst 0 0 rfl (by decide) ?_
  refine go_istore 1 rfl (Nat.le_of_ble_eq_true rfl) [(0, _), (1, _), (2, _), (3, _), (4, _)] rfl ?_
  obtain ⟨r11, c, h⟩ := bd_inv h
  refine w_M_look_3 _ _ _ (fun s2 e => ?_) (fun v e => ?_) _ _ c
  · subst e
    replace h := smr_l h
    refine go_iconst 0 67 rfl (by decide) ?_
    cases h
    exact go_ireturn 68 rfl rfl rfl ⟨rfl, rfl⟩
  · subst e
    replace h := smr_r h
    cases h
    exact ⟨rfl, rfl⟩
def X_M_included : MX := (⟨"OmegaDeskModel", "included", "(II)Z"⟩, prog_8_method_36_code, 4, some .boolean, { frames := 5, cells := 0, slots := 0, locals := 149 },
  [(0, .aload_n 0, 1), (1, .iload_n 1, 2), (2, .bipush 6, 4), (4, .invokestatic 45, 7), (7, .ifCond .ne 12, 10), (10, .iload_n 2, 11), (11, .bipush 6, 13), (13, .invokestatic 45, 16), (16, .ifCond .eq 7, 19), (19, .iconst 1, 20), (20, .goto 18, 23), (23, .aload_n 0, 24), (24, .getfield 16, 27), (27, .iload_n 2, 28), (28, .iaload, 29), (29, .iconst 4, 30), (30, .if_icmp .ne 7, 33), (33, .iconst 2, 34), (34, .goto 4, 37), (37, .iconst 0, 38), (38, .putfield 41, 41), (41, .aload_n 0, 42), (42, .getfield 41, 45), (45, .ifCond .le 5, 48), (48, .iconst 0, 49), (49, .ireturn, 50), (50, .aload_n 0, 51), (51, .iconst 0, 52), (52, .putfield 132, 55), (55, .aload_n 0, 56), (56, .getfield 16, 59), (59, .iload_n 1, 60), (60, .iaload, 61), (61, .ifCond .eq 12, 64), (64, .aload_n 0, 65), (65, .iload_n 1, 66), (66, .iload_n 2, 67), (67, .invokevirtual 136, 70), (70, .ifCond .ne 5, 73), (73, .iconst 1, 74), (74, .ireturn, 75), (75, .iconst 1, 76), (76, .istore_n 3, 77), (77, .iload_n 3, 78), (78, .bipush 8, 80), (80, .if_icmp .gt 27, 83), (83, .aload_n 0, 84), (84, .getfield 132, 87), (87, .ifCond .ne 20, 90), (90, .aload_n 0, 91), (91, .aload_n 0, 92), (92, .iload_n 1, 93), (93, .iload_n 2, 94), (94, .iload_n 3, 95), (95, .invokevirtual 139, 98), (98, .putfield 132, 101), (101, .iinc 3 1, 104), (104, .goto (-27), 107), (107, .iconst 0, 108), (108, .ireturn, 109)])
set_option maxRecDepth 20000 in
theorem mk_M_included : Mk X_M_included := ⟨by unfold TBk; decide +kernel, by decide +kernel, wb_644, ⟨by decide, by decide⟩, rfl, rfl, wb_6⟩
theorem fp_M_132 : FP "OmegaDeskModel" 132 8 4 .boolean := ⟨R_M, F_M, 12, tf_M, rfl, by decide, uw_M, Or.inl wb_529, tf_M_ok, nf_M, rfl, by decide +kernel⟩
theorem cv_M_136 : CV "OmegaDeskModel" 136 X_M_differs 2 8 := ⟨Or.inl wb_645, ⟨wb_647, ws_M_differs⟩, by decide +kernel, F_M, 12, rfl⟩
theorem fg_M_132 : FG "OmegaDeskModel" 132 8 4 := ⟨R_M, F_M, 12, rfl, by decide, uw_M, Or.inl wb_529⟩
theorem cv_M_139 : CV "OmegaDeskModel" 139 X_M_look 3 8 := ⟨Or.inl wb_690, ⟨wb_692, ws_M_look⟩, by decide +kernel, F_M, 12, rfl⟩
def b_M_included_77 (c1 : Int32) (c2 : Int32) (s : Int32 × Mm) : Option ((Int32 × Mm) ⊕ (Int32 × Mm)) :=
  if (8 : Int32) < s.1 then
    some (Sum.inr (s.1, s.2))
  else
    if (s.2.1 (8, 0) 4) = 0 then
      bd (m_M_look c1 c2 s.1 s.2) fun r5 =>
      bd (some (uI r5.2 (8, 0) 4 (bI r5.1))) fun M6 =>
      some (Sum.inl ((s.1 + 1), M6))
    else
      some (Sum.inr (s.1, s.2))
def m_M_included (a1 : Int32) (a2 : Int32) (M : Mm) : Option (Bool × Mm) :=
  bd (m_M_out a1 (6 : Int32)) fun r1 =>
  if (bI r1) = 0 then
    bd (m_M_out a2 (6 : Int32)) fun r8 =>
    if (bI r8) = 0 then
      ck (inb a2 (lenI 18)) <|
      if (M.1 (1, 18) a2.toNatClampNeg) = (4 : Int32) then
        bd (some (uI M (8, 0) 0 (2 : Int32))) fun M13 =>
        if (M13.1 (8, 0) 0) ≤ 0 then
          bd (some (uI M13 (8, 0) 4 (0 : Int32))) fun M14 =>
          ck (inb a1 (lenI 18)) <|
          if (M14.1 (1, 18) a1.toNatClampNeg) = 0 then
            some (true, M14)
          else
            bd (m_M_differs a1 a2 M14) fun r15 =>
            if (bI r15.1) = 0 then
              some (true, r15.2)
            else
              bd (lp (b_M_included_77 a1 a2) ((1 : Int32), r15.2)) fun r16 =>
              some (false, r16.2)
        else
          some (false, M13)
      else
        bd (some (uI M (8, 0) 0 (0 : Int32))) fun M9 =>
        if (M9.1 (8, 0) 0) ≤ 0 then
          bd (some (uI M9 (8, 0) 4 (0 : Int32))) fun M10 =>
          ck (inb a1 (lenI 18)) <|
          if (M10.1 (1, 18) a1.toNatClampNeg) = 0 then
            some (true, M10)
          else
            bd (m_M_differs a1 a2 M10) fun r11 =>
            if (bI r11.1) = 0 then
              some (true, r11.2)
            else
              bd (lp (b_M_included_77 a1 a2) ((1 : Int32), r11.2)) fun r12 =>
              some (false, r12.2)
        else
          some (false, M9)
    else
      bd (some (uI M (8, 0) 0 (1 : Int32))) fun M17 =>
      if (M17.1 (8, 0) 0) ≤ 0 then
        bd (some (uI M17 (8, 0) 4 (0 : Int32))) fun M18 =>
        ck (inb a1 (lenI 18)) <|
        if (M18.1 (1, 18) a1.toNatClampNeg) = 0 then
          some (true, M18)
        else
          bd (m_M_differs a1 a2 M18) fun r19 =>
          if (bI r19.1) = 0 then
            some (true, r19.2)
          else
            bd (lp (b_M_included_77 a1 a2) ((1 : Int32), r19.2)) fun r20 =>
            some (false, r20.2)
      else
        some (false, M17)
  else
    bd (some (uI M (8, 0) 0 (1 : Int32))) fun M2 =>
    if (M2.1 (8, 0) 0) ≤ 0 then
      bd (some (uI M2 (8, 0) 4 (0 : Int32))) fun M3 =>
      ck (inb a1 (lenI 18)) <|
      if (M3.1 (1, 18) a1.toNatClampNeg) = 0 then
        some (true, M3)
      else
        bd (m_M_differs a1 a2 M3) fun r4 =>
        if (bI r4.1) = 0 then
          some (true, r4.2)
        else
          bd (lp (b_M_included_77 a1 a2) ((1 : Int32), r4.2)) fun r7 =>
          some (false, r7.2)
    else
      some (false, M2)
set_option maxRecDepth 20000 in
theorem w_M_included_77 {l : Launch} {post : Option PV → Mm → Prop} (c1 : Int32) (c2 : Int32)  {r : Int32 × Mm} (kk : Go l X_M_included post 107 [(0, vr 8 0), (1, vi c1), (2, vi c2), (3, vi r.1)] [] r.2) : ∀ (n : Nat) (s : Int32 × Mm), lpN (b_M_included_77 c1 c2) n s = some r → Go l X_M_included post 77 [(0, vr 8 0), (1, vi c1), (2, vi c2), (3, vi s.1)] [] s.2 := by
  intro n
  induction n with
  | zero => intro s hc; exact (lpN_0 hc).elim
  | succ n ih =>
    intro s hc
    obtain ⟨q, h, hc⟩ := lpN_inv hc
    unfold b_M_included_77 at h
    refine go_iload_n 43 rfl 3 rfl rfl ?_
    refine go_bipush 8 44 rfl (by decide) ?_
    refine go_icmp_gt 107 45 rfl (by decide) (fun c => ?_) (fun c => ?_)
    · replace h := ite_t c h
      cases h
      obtain rfl := lpq_r hc
      exact kk
    · replace h := ite_f c h
      refine go_aload_n 46 rfl 0 rfl rfl ?_
      refine go_getfield 4 _ 47 rfl (by first | decide | exact ok0 (by omega) | exact ok1 (by omega) | exact ok2 (by omega) | exact ok7 (by omega)) rfl fg_M_132 rfl ?_
      refine go_if_ne 107 48 rfl (by decide) (fun c => ?_) (fun c => ?_)
      · replace h := ite_f c h
        cases h
        obtain rfl := lpq_r hc
        exact kk
      · replace h := ite_t c h
        refine go_aload_n 49 rfl 0 rfl rfl ?_
        refine go_aload_n 50 rfl 0 rfl rfl ?_
        refine go_iload_n 51 rfl 1 rfl rfl ?_
        refine go_iload_n 52 rfl 2 rfl rfl ?_
        refine go_iload_n 53 rfl 3 rfl rfl ?_
        obtain ⟨r5, c, h⟩ := bd_inv h
        refine go_callV1 _ 54 rfl (e_M_look c) mk_M_look (by first | decide | exact ok0 (by omega) | exact ok1 (by omega) | exact ok2 (by omega) | exact ok7 (by omega)) rfl cv_M_139 rfl ⟨(Nat.le_of_ble_eq_true rfl), (Nat.le_of_ble_eq_true rfl)⟩ (Nat.le_of_ble_eq_true rfl) rfl ?_
        refine go_putfield 4 .boolean 55 rfl (by first | decide | exact ok0 (by omega) | exact ok1 (by omega) | exact ok2 (by omega) | exact ok7 (by omega)) rfl fp_M_132 (nbI _) (fbI _) (Nat.le_of_ble_eq_true rfl) rfl ?_
        obtain ⟨_, c, h⟩ := bd_inv h
        cases c
        refine go_iinc 1 56 rfl 3 rfl (by decide) (Nat.le_of_ble_eq_true rfl) [(0, _), (1, _), (2, _), (3, _)] rfl ?_
        refine go_goto 77 57 rfl (by decide) ?_
        cases h
        have g9 := ih _ hc
        exact g9
set_option maxRecDepth 20000 in
theorem e_M_included {l : Launch} {a1 : Int32} {a2 : Int32} {M : Mm} {r : Bool × Mm}  (h : m_M_included a1 a2 M = some r) : Ev l X_M_included [vr 8 0, vi a1, vi a2] M (fun v M2 => v = (some (vi (bI r.1))) ∧ M2 = r.2) := by
  refine Ev.of mk_M_included [(0, vr 8 0), (1, vi a1), (2, vi a2)] (fun _ => rfl) (fun _ => (Nat.le_of_ble_eq_true rfl)) ?_
  unfold m_M_included at h
  refine go_aload_n 0 rfl 0 rfl rfl ?_
  refine go_iload_n 1 rfl 1 rfl rfl ?_
  refine go_bipush 6 2 rfl (by decide) ?_
  obtain ⟨r1, c, h⟩ := bd_inv h
  refine go_callS1 _ 3 rfl (e_M_out c) mk_M_out cs_M_45 rfl ⟨(Nat.le_of_ble_eq_true rfl), (Nat.le_of_ble_eq_true rfl)⟩ (Nat.le_of_ble_eq_true rfl) rfl ?_
  refine go_if_ne 19 4 rfl (by decide) (fun c => ?_) (fun c => ?_)
  · replace h := ite_f c h
    refine go_iconst 1 9 rfl (by decide) ?_
    refine go_goto 38 10 rfl (by decide) ?_
    refine go_putfield 0 .int 20 rfl (by first | decide | exact ok0 (by omega) | exact ok1 (by omega) | exact ok2 (by omega) | exact ok7 (by omega)) rfl fp_M_41 rfl rfl (Nat.le_of_ble_eq_true rfl) rfl ?_
    obtain ⟨_, c, h⟩ := bd_inv h
    cases c
    refine go_aload_n 21 rfl 0 rfl rfl ?_
    refine go_getfield 0 _ 22 rfl (by first | decide | exact ok0 (by omega) | exact ok1 (by omega) | exact ok2 (by omega) | exact ok7 (by omega)) rfl fg_M_41 rfl ?_
    refine go_if_le 50 23 rfl (by decide) (fun c => ?_) (fun c => ?_)
    · replace h := ite_t c h
      refine go_aload_n 26 rfl 0 rfl rfl ?_
      refine go_iconst 0 27 rfl (by decide) ?_
      refine go_putfield 4 .boolean 28 rfl (by first | decide | exact ok0 (by omega) | exact ok1 (by omega) | exact ok2 (by omega) | exact ok7 (by omega)) rfl fp_M_132 rfl rfl (Nat.le_of_ble_eq_true rfl) rfl ?_
      obtain ⟨_, c, h⟩ := bd_inv h
      cases c
      refine go_aload_n 29 rfl 0 rfl rfl ?_
      refine go_getfield 3 _ 30 rfl (by first | decide | exact ok0 (by omega) | exact ok1 (by omega) | exact ok2 (by omega) | exact ok7 (by omega)) rfl fg_M_16 rfl ?_
      refine go_iload_n 31 rfl 1 rfl rfl ?_
      obtain ⟨c, h⟩ := ck_inv h
      refine go_iaload 32 rfl (by first | decide | exact ok0 (by omega) | exact ok1 (by omega) | exact ok2 (by omega) | exact ok7 (by omega)) (inb_vp c) ?_
      refine go_if_eq 73 33 rfl (by decide) (fun c => ?_) (fun c => ?_)
      · replace h := ite_t c h
        refine go_iconst 1 39 rfl (by decide) ?_
        cases h
        exact go_ireturn 40 rfl rfl rfl ⟨rfl, rfl⟩
      · replace h := ite_f c h
        refine go_aload_n 34 rfl 0 rfl rfl ?_
        refine go_iload_n 35 rfl 1 rfl rfl ?_
        refine go_iload_n 36 rfl 2 rfl rfl ?_
        obtain ⟨r4, c, h⟩ := bd_inv h
        refine go_callV1 _ 37 rfl (e_M_differs c) mk_M_differs (by first | decide | exact ok0 (by omega) | exact ok1 (by omega) | exact ok2 (by omega) | exact ok7 (by omega)) rfl cv_M_136 rfl ⟨(Nat.le_of_ble_eq_true rfl), (Nat.le_of_ble_eq_true rfl)⟩ (Nat.le_of_ble_eq_true rfl) rfl ?_
        refine go_if_ne 75 38 rfl (by decide) (fun c => ?_) (fun c => ?_)
        · replace h := ite_f c h
          refine go_iconst 1 41 rfl (by decide) ?_
          refine go_istore_n 42 rfl rfl (Nat.le_of_ble_eq_true rfl) [(0, _), (1, _), (2, _), (3, _)] rfl ?_
          obtain ⟨r7, c, h⟩ := bd_inv h
          refine w_M_included_77 _ _ ?_ _ _ c
          refine go_iconst 0 58 rfl (by decide) ?_
          cases h
          exact go_ireturn 59 rfl rfl rfl ⟨rfl, rfl⟩
        · replace h := ite_t c h
          refine go_iconst 1 39 rfl (by decide) ?_
          cases h
          exact go_ireturn 40 rfl rfl rfl ⟨rfl, rfl⟩
    · replace h := ite_f c h
      refine go_iconst 0 24 rfl (by decide) ?_
      cases h
      exact go_ireturn 25 rfl rfl rfl ⟨rfl, rfl⟩
  · replace h := ite_t c h
    refine go_iload_n 5 rfl 2 rfl rfl ?_
    refine go_bipush 6 6 rfl (by decide) ?_
    obtain ⟨r8, c, h⟩ := bd_inv h
    refine go_callS1 _ 7 rfl (e_M_out c) mk_M_out cs_M_45 rfl ⟨(Nat.le_of_ble_eq_true rfl), (Nat.le_of_ble_eq_true rfl)⟩ (Nat.le_of_ble_eq_true rfl) rfl ?_
    refine go_if_eq 23 8 rfl (by decide) (fun c => ?_) (fun c => ?_)
    · replace h := ite_t c h
      refine go_aload_n 11 rfl 0 rfl rfl ?_
      refine go_getfield 3 _ 12 rfl (by first | decide | exact ok0 (by omega) | exact ok1 (by omega) | exact ok2 (by omega) | exact ok7 (by omega)) rfl fg_M_16 rfl ?_
      refine go_iload_n 13 rfl 2 rfl rfl ?_
      obtain ⟨c, h⟩ := ck_inv h
      refine go_iaload 14 rfl (by first | decide | exact ok0 (by omega) | exact ok1 (by omega) | exact ok2 (by omega) | exact ok7 (by omega)) (inb_vp c) ?_
      refine go_iconst 4 15 rfl (by decide) ?_
      refine go_icmp_ne 37 16 rfl (by decide) (fun c => ?_) (fun c => ?_)
      · replace h := ite_f c h
        refine go_iconst 0 19 rfl (by decide) ?_
        refine go_putfield 0 .int 20 rfl (by first | decide | exact ok0 (by omega) | exact ok1 (by omega) | exact ok2 (by omega) | exact ok7 (by omega)) rfl fp_M_41 rfl rfl (Nat.le_of_ble_eq_true rfl) rfl ?_
        obtain ⟨_, c, h⟩ := bd_inv h
        cases c
        refine go_aload_n 21 rfl 0 rfl rfl ?_
        refine go_getfield 0 _ 22 rfl (by first | decide | exact ok0 (by omega) | exact ok1 (by omega) | exact ok2 (by omega) | exact ok7 (by omega)) rfl fg_M_41 rfl ?_
        refine go_if_le 50 23 rfl (by decide) (fun c => ?_) (fun c => ?_)
        · replace h := ite_t c h
          refine go_aload_n 26 rfl 0 rfl rfl ?_
          refine go_iconst 0 27 rfl (by decide) ?_
          refine go_putfield 4 .boolean 28 rfl (by first | decide | exact ok0 (by omega) | exact ok1 (by omega) | exact ok2 (by omega) | exact ok7 (by omega)) rfl fp_M_132 rfl rfl (Nat.le_of_ble_eq_true rfl) rfl ?_
          obtain ⟨_, c, h⟩ := bd_inv h
          cases c
          refine go_aload_n 29 rfl 0 rfl rfl ?_
          refine go_getfield 3 _ 30 rfl (by first | decide | exact ok0 (by omega) | exact ok1 (by omega) | exact ok2 (by omega) | exact ok7 (by omega)) rfl fg_M_16 rfl ?_
          refine go_iload_n 31 rfl 1 rfl rfl ?_
          obtain ⟨c, h⟩ := ck_inv h
          refine go_iaload 32 rfl (by first | decide | exact ok0 (by omega) | exact ok1 (by omega) | exact ok2 (by omega) | exact ok7 (by omega)) (inb_vp c) ?_
          refine go_if_eq 73 33 rfl (by decide) (fun c => ?_) (fun c => ?_)
          · replace h := ite_t c h
            refine go_iconst 1 39 rfl (by decide) ?_
            cases h
            exact go_ireturn 40 rfl rfl rfl ⟨rfl, rfl⟩
          · replace h := ite_f c h
            refine go_aload_n 34 rfl 0 rfl rfl ?_
            refine go_iload_n 35 rfl 1 rfl rfl ?_
            refine go_iload_n 36 rfl 2 rfl rfl ?_
            obtain ⟨r11, c, h⟩ := bd_inv h
            refine go_callV1 _ 37 rfl (e_M_differs c) mk_M_differs (by first | decide | exact ok0 (by omega) | exact ok1 (by omega) | exact ok2 (by omega) | exact ok7 (by omega)) rfl cv_M_136 rfl ⟨(Nat.le_of_ble_eq_true rfl), (Nat.le_of_ble_eq_true rfl)⟩ (Nat.le_of_ble_eq_true rfl) rfl ?_
            refine go_if_ne 75 38 rfl (by decide) (fun c => ?_) (fun c => ?_)
            · replace h := ite_f c h
              refine go_iconst 1 41 rfl (by decide) ?_
              refine go_istore_n 42 rfl rfl (Nat.le_of_ble_eq_true rfl) [(0, _), (1, _), (2, _), (3, _)] rfl ?_
              obtain ⟨r12, c, h⟩ := bd_inv h
              refine w_M_included_77 _ _ ?_ _ _ c
              refine go_iconst 0 58 rfl (by decide) ?_
              cases h
              exact go_ireturn 59 rfl rfl rfl ⟨rfl, rfl⟩
            · replace h := ite_t c h
              refine go_iconst 1 39 rfl (by decide) ?_
              cases h
              exact go_ireturn 40 rfl rfl rfl ⟨rfl, rfl⟩
        · replace h := ite_f c h
          refine go_iconst 0 24 rfl (by decide) ?_
          cases h
          exact go_ireturn 25 rfl rfl rfl ⟨rfl, rfl⟩
      · replace h := ite_t c h
        refine go_iconst 2 17 rfl (by decide) ?_
        refine go_goto 38 18 rfl (by decide) ?_
        refine go_putfield 0 .int 20 rfl (by first | decide | exact ok0 (by omega) | exact ok1 (by omega) | exact ok2 (by omega) | exact ok7 (by omega)) rfl fp_M_41 rfl rfl (Nat.le_of_ble_eq_true rfl) rfl ?_
        obtain ⟨_, c, h⟩ := bd_inv h
        cases c
        refine go_aload_n 21 rfl 0 rfl rfl ?_
        refine go_getfield 0 _ 22 rfl (by first | decide | exact ok0 (by omega) | exact ok1 (by omega) | exact ok2 (by omega) | exact ok7 (by omega)) rfl fg_M_41 rfl ?_
        refine go_if_le 50 23 rfl (by decide) (fun c => ?_) (fun c => ?_)
        · replace h := ite_t c h
          refine go_aload_n 26 rfl 0 rfl rfl ?_
          refine go_iconst 0 27 rfl (by decide) ?_
          refine go_putfield 4 .boolean 28 rfl (by first | decide | exact ok0 (by omega) | exact ok1 (by omega) | exact ok2 (by omega) | exact ok7 (by omega)) rfl fp_M_132 rfl rfl (Nat.le_of_ble_eq_true rfl) rfl ?_
          obtain ⟨_, c, h⟩ := bd_inv h
          cases c
          refine go_aload_n 29 rfl 0 rfl rfl ?_
          refine go_getfield 3 _ 30 rfl (by first | decide | exact ok0 (by omega) | exact ok1 (by omega) | exact ok2 (by omega) | exact ok7 (by omega)) rfl fg_M_16 rfl ?_
          refine go_iload_n 31 rfl 1 rfl rfl ?_
          obtain ⟨c, h⟩ := ck_inv h
          refine go_iaload 32 rfl (by first | decide | exact ok0 (by omega) | exact ok1 (by omega) | exact ok2 (by omega) | exact ok7 (by omega)) (inb_vp c) ?_
          refine go_if_eq 73 33 rfl (by decide) (fun c => ?_) (fun c => ?_)
          · replace h := ite_t c h
            refine go_iconst 1 39 rfl (by decide) ?_
            cases h
            exact go_ireturn 40 rfl rfl rfl ⟨rfl, rfl⟩
          · replace h := ite_f c h
            refine go_aload_n 34 rfl 0 rfl rfl ?_
            refine go_iload_n 35 rfl 1 rfl rfl ?_
            refine go_iload_n 36 rfl 2 rfl rfl ?_
            obtain ⟨r15, c, h⟩ := bd_inv h
            refine go_callV1 _ 37 rfl (e_M_differs c) mk_M_differs (by first | decide | exact ok0 (by omega) | exact ok1 (by omega) | exact ok2 (by omega) | exact ok7 (by omega)) rfl cv_M_136 rfl ⟨(Nat.le_of_ble_eq_true rfl), (Nat.le_of_ble_eq_true rfl)⟩ (Nat.le_of_ble_eq_true rfl) rfl ?_
            refine go_if_ne 75 38 rfl (by decide) (fun c => ?_) (fun c => ?_)
            · replace h := ite_f c h
              refine go_iconst 1 41 rfl (by decide) ?_
              refine go_istore_n 42 rfl rfl (Nat.le_of_ble_eq_true rfl) [(0, _), (1, _), (2, _), (3, _)] rfl ?_
              obtain ⟨r16, c, h⟩ := bd_inv h
              refine w_M_included_77 _ _ ?_ _ _ c
              refine go_iconst 0 58 rfl (by decide) ?_
              cases h
              exact go_ireturn 59 rfl rfl rfl ⟨rfl, rfl⟩
            · replace h := ite_t c h
              refine go_iconst 1 39 rfl (by decide) ?_
              cases h
              exact go_ireturn 40 rfl rfl rfl ⟨rfl, rfl⟩
        · replace h := ite_f c h
          refine go_iconst 0 24 rfl (by decide) ?_
          cases h
          exact go_ireturn 25 rfl rfl rfl ⟨rfl, rfl⟩
    · replace h := ite_f c h
      refine go_iconst 1 9 rfl (by decide) ?_
      refine go_goto 38 10 rfl (by decide) ?_
      refine go_putfield 0 .int 20 rfl (by first | decide | exact ok0 (by omega) | exact ok1 (by omega) | exact ok2 (by omega) | exact ok7 (by omega)) rfl fp_M_41 rfl rfl (Nat.le_of_ble_eq_true rfl) rfl ?_
      obtain ⟨_, c, h⟩ := bd_inv h
      cases c
      refine go_aload_n 21 rfl 0 rfl rfl ?_
      refine go_getfield 0 _ 22 rfl (by first | decide | exact ok0 (by omega) | exact ok1 (by omega) | exact ok2 (by omega) | exact ok7 (by omega)) rfl fg_M_41 rfl ?_
      refine go_if_le 50 23 rfl (by decide) (fun c => ?_) (fun c => ?_)
      · replace h := ite_t c h
        refine go_aload_n 26 rfl 0 rfl rfl ?_
        refine go_iconst 0 27 rfl (by decide) ?_
        refine go_putfield 4 .boolean 28 rfl (by first | decide | exact ok0 (by omega) | exact ok1 (by omega) | exact ok2 (by omega) | exact ok7 (by omega)) rfl fp_M_132 rfl rfl (Nat.le_of_ble_eq_true rfl) rfl ?_
        obtain ⟨_, c, h⟩ := bd_inv h
        cases c
        refine go_aload_n 29 rfl 0 rfl rfl ?_
        refine go_getfield 3 _ 30 rfl (by first | decide | exact ok0 (by omega) | exact ok1 (by omega) | exact ok2 (by omega) | exact ok7 (by omega)) rfl fg_M_16 rfl ?_
        refine go_iload_n 31 rfl 1 rfl rfl ?_
        obtain ⟨c, h⟩ := ck_inv h
        refine go_iaload 32 rfl (by first | decide | exact ok0 (by omega) | exact ok1 (by omega) | exact ok2 (by omega) | exact ok7 (by omega)) (inb_vp c) ?_
        refine go_if_eq 73 33 rfl (by decide) (fun c => ?_) (fun c => ?_)
        · replace h := ite_t c h
          refine go_iconst 1 39 rfl (by decide) ?_
          cases h
          exact go_ireturn 40 rfl rfl rfl ⟨rfl, rfl⟩
        · replace h := ite_f c h
          refine go_aload_n 34 rfl 0 rfl rfl ?_
          refine go_iload_n 35 rfl 1 rfl rfl ?_
          refine go_iload_n 36 rfl 2 rfl rfl ?_
          obtain ⟨r19, c, h⟩ := bd_inv h
          refine go_callV1 _ 37 rfl (e_M_differs c) mk_M_differs (by first | decide | exact ok0 (by omega) | exact ok1 (by omega) | exact ok2 (by omega) | exact ok7 (by omega)) rfl cv_M_136 rfl ⟨(Nat.le_of_ble_eq_true rfl), (Nat.le_of_ble_eq_true rfl)⟩ (Nat.le_of_ble_eq_true rfl) rfl ?_
          refine go_if_ne 75 38 rfl (by decide) (fun c => ?_) (fun c => ?_)
          · replace h := ite_f c h
            refine go_iconst 1 41 rfl (by decide) ?_
            refine go_istore_n 42 rfl rfl (Nat.le_of_ble_eq_true rfl) [(0, _), (1, _), (2, _), (3, _)] rfl ?_
            obtain ⟨r20, c, h⟩ := bd_inv h
            refine w_M_included_77 _ _ ?_ _ _ c
            refine go_iconst 0 58 rfl (by decide) ?_
            cases h
            exact go_ireturn 59 rfl rfl rfl ⟨rfl, rfl⟩
          · replace h := ite_t c h
            refine go_iconst 1 39 rfl (by decide) ?_
            cases h
            exact go_ireturn 40 rfl rfl rfl ⟨rfl, rfl⟩
      · replace h := ite_f c h
        refine go_iconst 0 24 rfl (by decide) ?_
        cases h
        exact go_ireturn 25 rfl rfl rfl ⟨rfl, rfl⟩
def X_M_witness : MX := (⟨"OmegaDeskModel", "witness", "(I)I"⟩, prog_8_method_37_code, 2, some .int, { frames := 1, cells := 0, slots := 0, locals := 21 },
  [(0, .aload_n 0, 1), (1, .iload_n 1, 2), (2, .iconst 4, 3), (3, .invokestatic 45, 6), (6, .ifCond .eq 7, 9), (9, .iconst 1, 10), (10, .goto 15, 13), (13, .aload_n 0, 14), (14, .getfield 132, 17), (17, .ifCond .eq 7, 20), (20, .iconst 0, 21), (21, .goto 4, 24), (24, .iconst 2, 25), (25, .putfield 41, 28), (28, .aload_n 0, 29), (29, .getfield 41, 32), (32, .ifCond .le 7, 35), (35, .iconst 0, 36), (36, .goto 9, 39), (39, .aload_n 0, 40), (40, .getfield 19, 43), (43, .iload_n 1, 44), (44, .iaload, 45), (45, .ireturn, 46)])
set_option maxRecDepth 20000 in
theorem mk_M_witness : Mk X_M_witness := ⟨by unfold TBk; decide +kernel, by decide +kernel, wb_697, ⟨by decide, by decide⟩, rfl, rfl, wb_6⟩
def m_M_witness (a1 : Int32) (M : Mm) : Option (Int32 × Mm) :=
  bd (m_M_out a1 (4 : Int32)) fun r1 =>
  if (bI r1) = 0 then
    if (M.1 (8, 0) 4) = 0 then
      bd (some (uI M (8, 0) 0 (2 : Int32))) fun M2 =>
      if (M2.1 (8, 0) 0) ≤ 0 then
        ck (inb a1 (lenI 19)) <|
        some ((M2.1 (1, 19) a1.toNatClampNeg), M2)
      else
        some ((0 : Int32), M2)
    else
      bd (some (uI M (8, 0) 0 (0 : Int32))) fun M3 =>
      if (M3.1 (8, 0) 0) ≤ 0 then
        ck (inb a1 (lenI 19)) <|
        some ((M3.1 (1, 19) a1.toNatClampNeg), M3)
      else
        some ((0 : Int32), M3)
  else
    bd (some (uI M (8, 0) 0 (1 : Int32))) fun M4 =>
    if (M4.1 (8, 0) 0) ≤ 0 then
      ck (inb a1 (lenI 19)) <|
      some ((M4.1 (1, 19) a1.toNatClampNeg), M4)
    else
      some ((0 : Int32), M4)
set_option maxRecDepth 20000 in
theorem e_M_witness {l : Launch} {a1 : Int32} {M : Mm} {r : Int32 × Mm}  (h : m_M_witness a1 M = some r) : Ev l X_M_witness [vr 8 0, vi a1] M (fun v M2 => v = (some (vi r.1)) ∧ M2 = r.2) := by
  refine Ev.of mk_M_witness [(0, vr 8 0), (1, vi a1)] (fun _ => rfl) (fun _ => (Nat.le_of_ble_eq_true rfl)) ?_
  unfold m_M_witness at h
  refine go_aload_n 0 rfl 0 rfl rfl ?_
  refine go_iload_n 1 rfl 1 rfl rfl ?_
  refine go_iconst 4 2 rfl (by decide) ?_
  obtain ⟨r1, c, h⟩ := bd_inv h
  refine go_callS1 _ 3 rfl (e_M_out c) mk_M_out cs_M_45 rfl ⟨(Nat.le_of_ble_eq_true rfl), (Nat.le_of_ble_eq_true rfl)⟩ (Nat.le_of_ble_eq_true rfl) rfl ?_
  refine go_if_eq 13 4 rfl (by decide) (fun c => ?_) (fun c => ?_)
  · replace h := ite_t c h
    refine go_aload_n 7 rfl 0 rfl rfl ?_
    refine go_getfield 4 _ 8 rfl (by first | decide | exact ok0 (by omega) | exact ok1 (by omega) | exact ok2 (by omega) | exact ok7 (by omega)) rfl fg_M_132 rfl ?_
    refine go_if_eq 24 9 rfl (by decide) (fun c => ?_) (fun c => ?_)
    · replace h := ite_t c h
      refine go_iconst 2 12 rfl (by decide) ?_
      refine go_putfield 0 .int 13 rfl (by first | decide | exact ok0 (by omega) | exact ok1 (by omega) | exact ok2 (by omega) | exact ok7 (by omega)) rfl fp_M_41 rfl rfl (Nat.le_of_ble_eq_true rfl) rfl ?_
      obtain ⟨_, c, h⟩ := bd_inv h
      cases c
      refine go_aload_n 14 rfl 0 rfl rfl ?_
      refine go_getfield 0 _ 15 rfl (by first | decide | exact ok0 (by omega) | exact ok1 (by omega) | exact ok2 (by omega) | exact ok7 (by omega)) rfl fg_M_41 rfl ?_
      refine go_if_le 39 16 rfl (by decide) (fun c => ?_) (fun c => ?_)
      · replace h := ite_t c h
        refine go_aload_n 19 rfl 0 rfl rfl ?_
        refine go_getfield 5 _ 20 rfl (by first | decide | exact ok0 (by omega) | exact ok1 (by omega) | exact ok2 (by omega) | exact ok7 (by omega)) rfl fg_M_19 rfl ?_
        refine go_iload_n 21 rfl 1 rfl rfl ?_
        obtain ⟨c, h⟩ := ck_inv h
        refine go_iaload 22 rfl (by first | decide | exact ok0 (by omega) | exact ok1 (by omega) | exact ok2 (by omega) | exact ok7 (by omega)) (inb_vp c) ?_
        cases h
        exact go_ireturn 23 rfl rfl rfl ⟨rfl, rfl⟩
      · replace h := ite_f c h
        refine go_iconst 0 17 rfl (by decide) ?_
        refine go_goto 45 18 rfl (by decide) ?_
        cases h
        exact go_ireturn 23 rfl rfl rfl ⟨rfl, rfl⟩
    · replace h := ite_f c h
      refine go_iconst 0 10 rfl (by decide) ?_
      refine go_goto 25 11 rfl (by decide) ?_
      refine go_putfield 0 .int 13 rfl (by first | decide | exact ok0 (by omega) | exact ok1 (by omega) | exact ok2 (by omega) | exact ok7 (by omega)) rfl fp_M_41 rfl rfl (Nat.le_of_ble_eq_true rfl) rfl ?_
      obtain ⟨_, c, h⟩ := bd_inv h
      cases c
      refine go_aload_n 14 rfl 0 rfl rfl ?_
      refine go_getfield 0 _ 15 rfl (by first | decide | exact ok0 (by omega) | exact ok1 (by omega) | exact ok2 (by omega) | exact ok7 (by omega)) rfl fg_M_41 rfl ?_
      refine go_if_le 39 16 rfl (by decide) (fun c => ?_) (fun c => ?_)
      · replace h := ite_t c h
        refine go_aload_n 19 rfl 0 rfl rfl ?_
        refine go_getfield 5 _ 20 rfl (by first | decide | exact ok0 (by omega) | exact ok1 (by omega) | exact ok2 (by omega) | exact ok7 (by omega)) rfl fg_M_19 rfl ?_
        refine go_iload_n 21 rfl 1 rfl rfl ?_
        obtain ⟨c, h⟩ := ck_inv h
        refine go_iaload 22 rfl (by first | decide | exact ok0 (by omega) | exact ok1 (by omega) | exact ok2 (by omega) | exact ok7 (by omega)) (inb_vp c) ?_
        cases h
        exact go_ireturn 23 rfl rfl rfl ⟨rfl, rfl⟩
      · replace h := ite_f c h
        refine go_iconst 0 17 rfl (by decide) ?_
        refine go_goto 45 18 rfl (by decide) ?_
        cases h
        exact go_ireturn 23 rfl rfl rfl ⟨rfl, rfl⟩
  · replace h := ite_f c h
    refine go_iconst 1 5 rfl (by decide) ?_
    refine go_goto 25 6 rfl (by decide) ?_
    refine go_putfield 0 .int 13 rfl (by first | decide | exact ok0 (by omega) | exact ok1 (by omega) | exact ok2 (by omega) | exact ok7 (by omega)) rfl fp_M_41 rfl rfl (Nat.le_of_ble_eq_true rfl) rfl ?_
    obtain ⟨_, c, h⟩ := bd_inv h
    cases c
    refine go_aload_n 14 rfl 0 rfl rfl ?_
    refine go_getfield 0 _ 15 rfl (by first | decide | exact ok0 (by omega) | exact ok1 (by omega) | exact ok2 (by omega) | exact ok7 (by omega)) rfl fg_M_41 rfl ?_
    refine go_if_le 39 16 rfl (by decide) (fun c => ?_) (fun c => ?_)
    · replace h := ite_t c h
      refine go_aload_n 19 rfl 0 rfl rfl ?_
      refine go_getfield 5 _ 20 rfl (by first | decide | exact ok0 (by omega) | exact ok1 (by omega) | exact ok2 (by omega) | exact ok7 (by omega)) rfl fg_M_19 rfl ?_
      refine go_iload_n 21 rfl 1 rfl rfl ?_
      obtain ⟨c, h⟩ := ck_inv h
      refine go_iaload 22 rfl (by first | decide | exact ok0 (by omega) | exact ok1 (by omega) | exact ok2 (by omega) | exact ok7 (by omega)) (inb_vp c) ?_
      cases h
      exact go_ireturn 23 rfl rfl rfl ⟨rfl, rfl⟩
    · replace h := ite_f c h
      refine go_iconst 0 17 rfl (by decide) ?_
      refine go_goto 45 18 rfl (by decide) ?_
      cases h
      exact go_ireturn 23 rfl rfl rfl ⟨rfl, rfl⟩
def X_M_states : MX := (⟨"OmegaDeskModel", "states", "(I)I"⟩, prog_8_method_38_code, 2, some .int, { frames := 1, cells := 0, slots := 0, locals := 21 },
  [(0, .aload_n 0, 1), (1, .iconst 0, 2), (2, .putfield 41, 5), (5, .iload_n 1, 6), (6, .bipush 6, 8), (8, .invokestatic 45, 11), (11, .ifCond .eq 11, 14), (14, .aload_n 0, 15), (15, .iconst 1, 16), (16, .invokevirtual 142, 19), (19, .goto 9, 22), (22, .aload_n 0, 23), (23, .getfield 16, 26), (26, .iload_n 1, 27), (27, .iaload, 28), (28, .ireturn, 29)])
set_option maxRecDepth 20000 in
theorem mk_M_states : Mk X_M_states := ⟨by unfold TBk; decide +kernel, by decide +kernel, wb_701, ⟨by decide, by decide⟩, rfl, rfl, wb_6⟩
theorem cv_M_142 : CV "OmegaDeskModel" 142 X_M_fail 1 8 := ⟨Or.inl wb_702, ⟨wb_704, ws_M_fail⟩, by decide +kernel, F_M, 12, rfl⟩
def m_M_states (a1 : Int32) (M : Mm) : Option (Int32 × Mm) :=
  bd (some (uI M (8, 0) 0 (0 : Int32))) fun M1 =>
  bd (m_M_out a1 (6 : Int32)) fun r2 =>
  if (bI r2) = 0 then
    ck (inb a1 (lenI 18)) <|
    some ((M1.1 (1, 18) a1.toNatClampNeg), M1)
  else
    bd (m_M_fail (1 : Int32) M1) fun r3 =>
    some (r3.1, r3.2)
set_option maxRecDepth 20000 in
theorem e_M_states {l : Launch} {a1 : Int32} {M : Mm} {r : Int32 × Mm}  (h : m_M_states a1 M = some r) : Ev l X_M_states [vr 8 0, vi a1] M (fun v M2 => v = (some (vi r.1)) ∧ M2 = r.2) := by
  refine Ev.of mk_M_states [(0, vr 8 0), (1, vi a1)] (fun _ => rfl) (fun _ => (Nat.le_of_ble_eq_true rfl)) ?_
  unfold m_M_states at h
  refine go_aload_n 0 rfl 0 rfl rfl ?_
  refine go_iconst 0 1 rfl (by decide) ?_
  refine go_putfield 0 .int 2 rfl (by first | decide | exact ok0 (by omega) | exact ok1 (by omega) | exact ok2 (by omega) | exact ok7 (by omega)) rfl fp_M_41 rfl rfl (Nat.le_of_ble_eq_true rfl) rfl ?_
  obtain ⟨_, c, h⟩ := bd_inv h
  cases c
  refine go_iload_n 3 rfl 1 rfl rfl ?_
  refine go_bipush 6 4 rfl (by decide) ?_
  obtain ⟨r2, c, h⟩ := bd_inv h
  refine go_callS1 _ 5 rfl (e_M_out c) mk_M_out cs_M_45 rfl ⟨(Nat.le_of_ble_eq_true rfl), (Nat.le_of_ble_eq_true rfl)⟩ (Nat.le_of_ble_eq_true rfl) rfl ?_
  refine go_if_eq 22 6 rfl (by decide) (fun c => ?_) (fun c => ?_)
  · replace h := ite_t c h
    refine go_aload_n 11 rfl 0 rfl rfl ?_
    refine go_getfield 3 _ 12 rfl (by first | decide | exact ok0 (by omega) | exact ok1 (by omega) | exact ok2 (by omega) | exact ok7 (by omega)) rfl fg_M_16 rfl ?_
    refine go_iload_n 13 rfl 1 rfl rfl ?_
    obtain ⟨c, h⟩ := ck_inv h
    refine go_iaload 14 rfl (by first | decide | exact ok0 (by omega) | exact ok1 (by omega) | exact ok2 (by omega) | exact ok7 (by omega)) (inb_vp c) ?_
    cases h
    exact go_ireturn 15 rfl rfl rfl ⟨rfl, rfl⟩
  · replace h := ite_f c h
    refine go_aload_n 7 rfl 0 rfl rfl ?_
    refine go_iconst 1 8 rfl (by decide) ?_
    obtain ⟨r3, c, h⟩ := bd_inv h
    refine go_callV1 _ 9 rfl (e_M_fail c) mk_M_fail (by first | decide | exact ok0 (by omega) | exact ok1 (by omega) | exact ok2 (by omega) | exact ok7 (by omega)) rfl cv_M_142 rfl ⟨(Nat.le_of_ble_eq_true rfl), (Nat.le_of_ble_eq_true rfl)⟩ (Nat.le_of_ble_eq_true rfl) rfl ?_
    refine go_goto 28 10 rfl (by decide) ?_
    cases h
    exact go_ireturn 15 rfl rfl rfl ⟨rfl, rfl⟩
def X_M_good : MX := (⟨"OmegaDeskModel", "good", "(II)Z"⟩, prog_8_method_39_code, 3, some .boolean, { frames := 1, cells := 0, slots := 0, locals := 21 },
  [(0, .aload_n 0, 1), (1, .iload_n 1, 2), (2, .bipush 6, 4), (4, .invokestatic 45, 7), (7, .ifCond .ne 16, 10), (10, .iload_n 2, 11), (11, .aload_n 0, 12), (12, .getfield 16, 15), (15, .iload_n 1, 16), (16, .iaload, 17), (17, .invokestatic 45, 20), (20, .ifCond .eq 7, 23), (23, .iconst 1, 24), (24, .goto 4, 27), (27, .iconst 0, 28), (28, .putfield 41, 31), (31, .aload_n 0, 32), (32, .getfield 41, 35), (35, .ifCond .ne 21, 38), (38, .aload_n 0, 39), (39, .getfield 13, 42), (42, .iload_n 1, 43), (43, .iaload, 44), (44, .iload_n 2, 45), (45, .ishr, 46), (46, .iconst 1, 47), (47, .iand, 48), (48, .iconst 1, 49), (49, .if_icmp .ne 7, 52), (52, .iconst 1, 53), (53, .goto 4, 56), (56, .iconst 0, 57), (57, .ireturn, 58)])
set_option maxRecDepth 20000 in
theorem mk_M_good : Mk X_M_good := ⟨by unfold TBk; decide +kernel, by decide +kernel, wb_709, ⟨by decide, by decide⟩, rfl, rfl, wb_6⟩
def m_M_good (a1 : Int32) (a2 : Int32) (M : Mm) : Option (Bool × Mm) :=
  bd (m_M_out a1 (6 : Int32)) fun r1 =>
  if (bI r1) = 0 then
    ck (inb a1 (lenI 18)) <|
    bd (m_M_out a2 (M.1 (1, 18) a1.toNatClampNeg)) fun r3 =>
    if (bI r3) = 0 then
      bd (some (uI M (8, 0) 0 (0 : Int32))) fun M4 =>
      if (M4.1 (8, 0) 0) = 0 then
        ck (inb a1 (lenI 17)) <|
        if (((M4.1 (1, 17) a1.toNatClampNeg) >>> (a2 &&& 31)) &&& (1 : Int32)) = (1 : Int32) then
          some (true, M4)
        else
          some (false, M4)
      else
        some (false, M4)
    else
      bd (some (uI M (8, 0) 0 (1 : Int32))) fun M5 =>
      if (M5.1 (8, 0) 0) = 0 then
        ck (inb a1 (lenI 17)) <|
        if (((M5.1 (1, 17) a1.toNatClampNeg) >>> (a2 &&& 31)) &&& (1 : Int32)) = (1 : Int32) then
          some (true, M5)
        else
          some (false, M5)
      else
        some (false, M5)
  else
    bd (some (uI M (8, 0) 0 (1 : Int32))) fun M2 =>
    if (M2.1 (8, 0) 0) = 0 then
      ck (inb a1 (lenI 17)) <|
      if (((M2.1 (1, 17) a1.toNatClampNeg) >>> (a2 &&& 31)) &&& (1 : Int32)) = (1 : Int32) then
        some (true, M2)
      else
        some (false, M2)
    else
      some (false, M2)
set_option maxRecDepth 20000 in
theorem e_M_good {l : Launch} {a1 : Int32} {a2 : Int32} {M : Mm} {r : Bool × Mm}  (h : m_M_good a1 a2 M = some r) : Ev l X_M_good [vr 8 0, vi a1, vi a2] M (fun v M2 => v = (some (vi (bI r.1))) ∧ M2 = r.2) := by
  refine Ev.of mk_M_good [(0, vr 8 0), (1, vi a1), (2, vi a2)] (fun _ => rfl) (fun _ => (Nat.le_of_ble_eq_true rfl)) ?_
  unfold m_M_good at h
  refine go_aload_n 0 rfl 0 rfl rfl ?_
  refine go_iload_n 1 rfl 1 rfl rfl ?_
  refine go_bipush 6 2 rfl (by decide) ?_
  obtain ⟨r1, c, h⟩ := bd_inv h
  refine go_callS1 _ 3 rfl (e_M_out c) mk_M_out cs_M_45 rfl ⟨(Nat.le_of_ble_eq_true rfl), (Nat.le_of_ble_eq_true rfl)⟩ (Nat.le_of_ble_eq_true rfl) rfl ?_
  refine go_if_ne 23 4 rfl (by decide) (fun c => ?_) (fun c => ?_)
  · replace h := ite_f c h
    refine go_iconst 1 12 rfl (by decide) ?_
    refine go_goto 28 13 rfl (by decide) ?_
    refine go_putfield 0 .int 15 rfl (by first | decide | exact ok0 (by omega) | exact ok1 (by omega) | exact ok2 (by omega) | exact ok7 (by omega)) rfl fp_M_41 rfl rfl (Nat.le_of_ble_eq_true rfl) rfl ?_
    obtain ⟨_, c, h⟩ := bd_inv h
    cases c
    refine go_aload_n 16 rfl 0 rfl rfl ?_
    refine go_getfield 0 _ 17 rfl (by first | decide | exact ok0 (by omega) | exact ok1 (by omega) | exact ok2 (by omega) | exact ok7 (by omega)) rfl fg_M_41 rfl ?_
    refine go_if_ne 56 18 rfl (by decide) (fun c => ?_) (fun c => ?_)
    · replace h := ite_f c h
      refine go_iconst 0 31 rfl (by decide) ?_
      cases h
      exact go_ireturn 32 rfl rfl rfl ⟨rfl, rfl⟩
    · replace h := ite_t c h
      refine go_aload_n 19 rfl 0 rfl rfl ?_
      refine go_getfield 2 _ 20 rfl (by first | decide | exact ok0 (by omega) | exact ok1 (by omega) | exact ok2 (by omega) | exact ok7 (by omega)) rfl fg_M_13 rfl ?_
      refine go_iload_n 21 rfl 1 rfl rfl ?_
      obtain ⟨c, h⟩ := ck_inv h
      refine go_iaload 22 rfl (by first | decide | exact ok0 (by omega) | exact ok1 (by omega) | exact ok2 (by omega) | exact ok7 (by omega)) (inb_vp c) ?_
      refine go_iload_n 23 rfl 2 rfl rfl ?_
      refine go_ishr 24 rfl ?_
      refine go_iconst 1 25 rfl (by decide) ?_
      refine go_iand 26 rfl ?_
      refine go_iconst 1 27 rfl (by decide) ?_
      refine go_icmp_ne 56 28 rfl (by decide) (fun c => ?_) (fun c => ?_)
      · replace h := ite_f c h
        refine go_iconst 0 31 rfl (by decide) ?_
        cases h
        exact go_ireturn 32 rfl rfl rfl ⟨rfl, rfl⟩
      · replace h := ite_t c h
        refine go_iconst 1 29 rfl (by decide) ?_
        refine go_goto 57 30 rfl (by decide) ?_
        cases h
        exact go_ireturn 32 rfl rfl rfl ⟨rfl, rfl⟩
  · replace h := ite_t c h
    refine go_iload_n 5 rfl 2 rfl rfl ?_
    refine go_aload_n 6 rfl 0 rfl rfl ?_
    refine go_getfield 3 _ 7 rfl (by first | decide | exact ok0 (by omega) | exact ok1 (by omega) | exact ok2 (by omega) | exact ok7 (by omega)) rfl fg_M_16 rfl ?_
    refine go_iload_n 8 rfl 1 rfl rfl ?_
    obtain ⟨c, h⟩ := ck_inv h
    refine go_iaload 9 rfl (by first | decide | exact ok0 (by omega) | exact ok1 (by omega) | exact ok2 (by omega) | exact ok7 (by omega)) (inb_vp c) ?_
    obtain ⟨r3, c, h⟩ := bd_inv h
    refine go_callS1 _ 10 rfl (e_M_out c) mk_M_out cs_M_45 rfl ⟨(Nat.le_of_ble_eq_true rfl), (Nat.le_of_ble_eq_true rfl)⟩ (Nat.le_of_ble_eq_true rfl) rfl ?_
    refine go_if_eq 27 11 rfl (by decide) (fun c => ?_) (fun c => ?_)
    · replace h := ite_t c h
      refine go_iconst 0 14 rfl (by decide) ?_
      refine go_putfield 0 .int 15 rfl (by first | decide | exact ok0 (by omega) | exact ok1 (by omega) | exact ok2 (by omega) | exact ok7 (by omega)) rfl fp_M_41 rfl rfl (Nat.le_of_ble_eq_true rfl) rfl ?_
      obtain ⟨_, c, h⟩ := bd_inv h
      cases c
      refine go_aload_n 16 rfl 0 rfl rfl ?_
      refine go_getfield 0 _ 17 rfl (by first | decide | exact ok0 (by omega) | exact ok1 (by omega) | exact ok2 (by omega) | exact ok7 (by omega)) rfl fg_M_41 rfl ?_
      refine go_if_ne 56 18 rfl (by decide) (fun c => ?_) (fun c => ?_)
      · replace h := ite_f c h
        refine go_iconst 0 31 rfl (by decide) ?_
        cases h
        exact go_ireturn 32 rfl rfl rfl ⟨rfl, rfl⟩
      · replace h := ite_t c h
        refine go_aload_n 19 rfl 0 rfl rfl ?_
        refine go_getfield 2 _ 20 rfl (by first | decide | exact ok0 (by omega) | exact ok1 (by omega) | exact ok2 (by omega) | exact ok7 (by omega)) rfl fg_M_13 rfl ?_
        refine go_iload_n 21 rfl 1 rfl rfl ?_
        obtain ⟨c, h⟩ := ck_inv h
        refine go_iaload 22 rfl (by first | decide | exact ok0 (by omega) | exact ok1 (by omega) | exact ok2 (by omega) | exact ok7 (by omega)) (inb_vp c) ?_
        refine go_iload_n 23 rfl 2 rfl rfl ?_
        refine go_ishr 24 rfl ?_
        refine go_iconst 1 25 rfl (by decide) ?_
        refine go_iand 26 rfl ?_
        refine go_iconst 1 27 rfl (by decide) ?_
        refine go_icmp_ne 56 28 rfl (by decide) (fun c => ?_) (fun c => ?_)
        · replace h := ite_f c h
          refine go_iconst 0 31 rfl (by decide) ?_
          cases h
          exact go_ireturn 32 rfl rfl rfl ⟨rfl, rfl⟩
        · replace h := ite_t c h
          refine go_iconst 1 29 rfl (by decide) ?_
          refine go_goto 57 30 rfl (by decide) ?_
          cases h
          exact go_ireturn 32 rfl rfl rfl ⟨rfl, rfl⟩
    · replace h := ite_f c h
      refine go_iconst 1 12 rfl (by decide) ?_
      refine go_goto 28 13 rfl (by decide) ?_
      refine go_putfield 0 .int 15 rfl (by first | decide | exact ok0 (by omega) | exact ok1 (by omega) | exact ok2 (by omega) | exact ok7 (by omega)) rfl fp_M_41 rfl rfl (Nat.le_of_ble_eq_true rfl) rfl ?_
      obtain ⟨_, c, h⟩ := bd_inv h
      cases c
      refine go_aload_n 16 rfl 0 rfl rfl ?_
      refine go_getfield 0 _ 17 rfl (by first | decide | exact ok0 (by omega) | exact ok1 (by omega) | exact ok2 (by omega) | exact ok7 (by omega)) rfl fg_M_41 rfl ?_
      refine go_if_ne 56 18 rfl (by decide) (fun c => ?_) (fun c => ?_)
      · replace h := ite_f c h
        refine go_iconst 0 31 rfl (by decide) ?_
        cases h
        exact go_ireturn 32 rfl rfl rfl ⟨rfl, rfl⟩
      · replace h := ite_t c h
        refine go_aload_n 19 rfl 0 rfl rfl ?_
        refine go_getfield 2 _ 20 rfl (by first | decide | exact ok0 (by omega) | exact ok1 (by omega) | exact ok2 (by omega) | exact ok7 (by omega)) rfl fg_M_13 rfl ?_
        refine go_iload_n 21 rfl 1 rfl rfl ?_
        obtain ⟨c, h⟩ := ck_inv h
        refine go_iaload 22 rfl (by first | decide | exact ok0 (by omega) | exact ok1 (by omega) | exact ok2 (by omega) | exact ok7 (by omega)) (inb_vp c) ?_
        refine go_iload_n 23 rfl 2 rfl rfl ?_
        refine go_ishr 24 rfl ?_
        refine go_iconst 1 25 rfl (by decide) ?_
        refine go_iand 26 rfl ?_
        refine go_iconst 1 27 rfl (by decide) ?_
        refine go_icmp_ne 56 28 rfl (by decide) (fun c => ?_) (fun c => ?_)
        · replace h := ite_f c h
          refine go_iconst 0 31 rfl (by decide) ?_
          cases h
          exact go_ireturn 32 rfl rfl rfl ⟨rfl, rfl⟩
        · replace h := ite_t c h
          refine go_iconst 1 29 rfl (by decide) ?_
          refine go_goto 57 30 rfl (by decide) ?_
          cases h
          exact go_ireturn 32 rfl rfl rfl ⟨rfl, rfl⟩
def X_M_has : MX := (⟨"OmegaDeskModel", "has", "(IIII)Z"⟩, prog_8_method_40_code, 5, some .boolean, { frames := 2, cells := 0, slots := 0, locals := 45 },
  [(0, .aload_n 0, 1), (1, .aload_n 0, 2), (2, .iload_n 1, 3), (3, .iload_n 2, 4), (4, .iload_n 3, 5), (5, .iload 4, 7), (7, .invokevirtual 53, 10), (10, .ifCond .eq 7, 13), (13, .iconst 0, 14), (14, .goto 4, 17), (17, .iconst 1, 18), (18, .putfield 41, 21), (21, .aload_n 0, 22), (22, .getfield 41, 25), (25, .ifCond .ne 31, 28), (28, .aload_n 0, 29), (29, .getfield 7, 32), (32, .bipush 8, 34), (34, .iload_n 1, 35), (35, .imul, 36), (36, .iconst 4, 37), (37, .iload_n 3, 38), (38, .imul, 39), (39, .iadd, 40), (40, .iload_n 2, 41), (41, .iadd, 42), (42, .iaload, 43), (43, .iload 4, 45), (45, .ishr, 46), (46, .iconst 1, 47), (47, .iand, 48), (48, .iconst 1, 49), (49, .if_icmp .ne 7, 52), (52, .iconst 1, 53), (53, .goto 4, 56), (56, .iconst 0, 57), (57, .ireturn, 58)])
set_option maxRecDepth 20000 in
theorem mk_M_has : Mk X_M_has := ⟨by unfold TBk; decide +kernel, by decide +kernel, wb_713, ⟨by decide, by decide⟩, rfl, rfl, wb_6⟩
def m_M_has (a1 : Int32) (a2 : Int32) (a3 : Int32) (a4 : Int32) (M : Mm) : Option (Bool × Mm) :=
  bd (m_M_isEdge a1 a2 a3 a4 M) fun r1 =>
  if (bI r1) = 0 then
    bd (some (uI M (8, 0) 0 (1 : Int32))) fun M2 =>
    if (M2.1 (8, 0) 0) = 0 then
      ck (inb ((((8 : Int32) * a1) + ((4 : Int32) * a3)) + a2) (lenI 16)) <|
      if (((M2.1 (1, 16) ((((8 : Int32) * a1) + ((4 : Int32) * a3)) + a2).toNatClampNeg) >>> (a4 &&& 31)) &&& (1 : Int32)) = (1 : Int32) then
        some (true, M2)
      else
        some (false, M2)
    else
      some (false, M2)
  else
    bd (some (uI M (8, 0) 0 (0 : Int32))) fun M3 =>
    if (M3.1 (8, 0) 0) = 0 then
      ck (inb ((((8 : Int32) * a1) + ((4 : Int32) * a3)) + a2) (lenI 16)) <|
      if (((M3.1 (1, 16) ((((8 : Int32) * a1) + ((4 : Int32) * a3)) + a2).toNatClampNeg) >>> (a4 &&& 31)) &&& (1 : Int32)) = (1 : Int32) then
        some (true, M3)
      else
        some (false, M3)
    else
      some (false, M3)
set_option maxRecDepth 20000 in
theorem e_M_has {l : Launch} {a1 : Int32} {a2 : Int32} {a3 : Int32} {a4 : Int32} {M : Mm} {r : Bool × Mm}  (h : m_M_has a1 a2 a3 a4 M = some r) : Ev l X_M_has [vr 8 0, vi a1, vi a2, vi a3, vi a4] M (fun v M2 => v = (some (vi (bI r.1))) ∧ M2 = r.2) := by
  refine Ev.of mk_M_has [(0, vr 8 0), (1, vi a1), (2, vi a2), (3, vi a3), (4, vi a4)] (fun _ => rfl) (fun _ => (Nat.le_of_ble_eq_true rfl)) ?_
  unfold m_M_has at h
  refine go_aload_n 0 rfl 0 rfl rfl ?_
  refine go_aload_n 1 rfl 0 rfl rfl ?_
  refine go_iload_n 2 rfl 1 rfl rfl ?_
  refine go_iload_n 3 rfl 2 rfl rfl ?_
  refine go_iload_n 4 rfl 3 rfl rfl ?_
  refine go_iload 5 rfl 4 rfl ?_
  obtain ⟨r1, c, h⟩ := bd_inv h
  refine go_callV1 _ 6 rfl (e_M_isEdge c) mk_M_isEdge (by first | decide | exact ok0 (by omega) | exact ok1 (by omega) | exact ok2 (by omega) | exact ok7 (by omega)) rfl cv_M_53 rfl ⟨(Nat.le_of_ble_eq_true rfl), (Nat.le_of_ble_eq_true rfl)⟩ (Nat.le_of_ble_eq_true rfl) rfl ?_
  refine go_if_eq 17 7 rfl (by decide) (fun c => ?_) (fun c => ?_)
  · replace h := ite_t c h
    refine go_iconst 1 10 rfl (by decide) ?_
    refine go_putfield 0 .int 11 rfl (by first | decide | exact ok0 (by omega) | exact ok1 (by omega) | exact ok2 (by omega) | exact ok7 (by omega)) rfl fp_M_41 rfl rfl (Nat.le_of_ble_eq_true rfl) rfl ?_
    obtain ⟨_, c, h⟩ := bd_inv h
    cases c
    refine go_aload_n 12 rfl 0 rfl rfl ?_
    refine go_getfield 0 _ 13 rfl (by first | decide | exact ok0 (by omega) | exact ok1 (by omega) | exact ok2 (by omega) | exact ok7 (by omega)) rfl fg_M_41 rfl ?_
    refine go_if_ne 56 14 rfl (by decide) (fun c => ?_) (fun c => ?_)
    · replace h := ite_f c h
      refine go_iconst 0 35 rfl (by decide) ?_
      cases h
      exact go_ireturn 36 rfl rfl rfl ⟨rfl, rfl⟩
    · replace h := ite_t c h
      refine go_aload_n 15 rfl 0 rfl rfl ?_
      refine go_getfield 1 _ 16 rfl (by first | decide | exact ok0 (by omega) | exact ok1 (by omega) | exact ok2 (by omega) | exact ok7 (by omega)) rfl fg_M_7 rfl ?_
      refine go_bipush 8 17 rfl (by decide) ?_
      refine go_iload_n 18 rfl 1 rfl rfl ?_
      refine go_imul 19 rfl ?_
      refine go_iconst 4 20 rfl (by decide) ?_
      refine go_iload_n 21 rfl 3 rfl rfl ?_
      refine go_imul 22 rfl ?_
      refine go_iadd 23 rfl ?_
      refine go_iload_n 24 rfl 2 rfl rfl ?_
      refine go_iadd 25 rfl ?_
      obtain ⟨c, h⟩ := ck_inv h
      refine go_iaload 26 rfl (by first | decide | exact ok0 (by omega) | exact ok1 (by omega) | exact ok2 (by omega) | exact ok7 (by omega)) (inb_vp c) ?_
      refine go_iload 27 rfl 4 rfl ?_
      refine go_ishr 28 rfl ?_
      refine go_iconst 1 29 rfl (by decide) ?_
      refine go_iand 30 rfl ?_
      refine go_iconst 1 31 rfl (by decide) ?_
      refine go_icmp_ne 56 32 rfl (by decide) (fun c => ?_) (fun c => ?_)
      · replace h := ite_f c h
        refine go_iconst 0 35 rfl (by decide) ?_
        cases h
        exact go_ireturn 36 rfl rfl rfl ⟨rfl, rfl⟩
      · replace h := ite_t c h
        refine go_iconst 1 33 rfl (by decide) ?_
        refine go_goto 57 34 rfl (by decide) ?_
        cases h
        exact go_ireturn 36 rfl rfl rfl ⟨rfl, rfl⟩
  · replace h := ite_f c h
    refine go_iconst 0 8 rfl (by decide) ?_
    refine go_goto 18 9 rfl (by decide) ?_
    refine go_putfield 0 .int 11 rfl (by first | decide | exact ok0 (by omega) | exact ok1 (by omega) | exact ok2 (by omega) | exact ok7 (by omega)) rfl fp_M_41 rfl rfl (Nat.le_of_ble_eq_true rfl) rfl ?_
    obtain ⟨_, c, h⟩ := bd_inv h
    cases c
    refine go_aload_n 12 rfl 0 rfl rfl ?_
    refine go_getfield 0 _ 13 rfl (by first | decide | exact ok0 (by omega) | exact ok1 (by omega) | exact ok2 (by omega) | exact ok7 (by omega)) rfl fg_M_41 rfl ?_
    refine go_if_ne 56 14 rfl (by decide) (fun c => ?_) (fun c => ?_)
    · replace h := ite_f c h
      refine go_iconst 0 35 rfl (by decide) ?_
      cases h
      exact go_ireturn 36 rfl rfl rfl ⟨rfl, rfl⟩
    · replace h := ite_t c h
      refine go_aload_n 15 rfl 0 rfl rfl ?_
      refine go_getfield 1 _ 16 rfl (by first | decide | exact ok0 (by omega) | exact ok1 (by omega) | exact ok2 (by omega) | exact ok7 (by omega)) rfl fg_M_7 rfl ?_
      refine go_bipush 8 17 rfl (by decide) ?_
      refine go_iload_n 18 rfl 1 rfl rfl ?_
      refine go_imul 19 rfl ?_
      refine go_iconst 4 20 rfl (by decide) ?_
      refine go_iload_n 21 rfl 3 rfl rfl ?_
      refine go_imul 22 rfl ?_
      refine go_iadd 23 rfl ?_
      refine go_iload_n 24 rfl 2 rfl rfl ?_
      refine go_iadd 25 rfl ?_
      obtain ⟨c, h⟩ := ck_inv h
      refine go_iaload 26 rfl (by first | decide | exact ok0 (by omega) | exact ok1 (by omega) | exact ok2 (by omega) | exact ok7 (by omega)) (inb_vp c) ?_
      refine go_iload 27 rfl 4 rfl ?_
      refine go_ishr 28 rfl ?_
      refine go_iconst 1 29 rfl (by decide) ?_
      refine go_iand 30 rfl ?_
      refine go_iconst 1 31 rfl (by decide) ?_
      refine go_icmp_ne 56 32 rfl (by decide) (fun c => ?_) (fun c => ?_)
      · replace h := ite_f c h
        refine go_iconst 0 35 rfl (by decide) ?_
        cases h
        exact go_ireturn 36 rfl rfl rfl ⟨rfl, rfl⟩
      · replace h := ite_t c h
        refine go_iconst 1 33 rfl (by decide) ?_
        refine go_goto 57 34 rfl (by decide) ?_
        cases h
        exact go_ireturn 36 rfl rfl rfl ⟨rfl, rfl⟩
end
section
def X_D_isWord : MX := (⟨"OmegaDesk", "isWord", "(II)Z"⟩, prog_1_method_16_code, 2, some .boolean, { frames := 0, cells := 0, slots := 0, locals := 0 },
  [(0, .iload_n 1, 1), (1, .ifCond .lt 14, 4), (4, .iload_n 1, 5), (5, .iconst 1, 6), (6, .iload_n 0, 7), (7, .ishl, 8), (8, .if_icmp .ge 7, 11), (11, .iconst 1, 12), (12, .goto 4, 15), (15, .iconst 0, 16), (16, .ireturn, 17)])
set_option maxRecDepth 20000 in
theorem mk_D_isWord : Mk X_D_isWord := ⟨by unfold TBk; decide +kernel, by decide +kernel, wb_383, ⟨by decide, by decide⟩, rfl, rfl, wb_1⟩
def m_D_isWord (a0 : Int32) (a1 : Int32) : Option (Bool) :=
  if a1 < 0 then
    some false
  else
    if ((1 : Int32) <<< (a0 &&& 31)) ≤ a1 then
      some false
    else
      some true
set_option maxRecDepth 20000 in
theorem e_D_isWord {l : Launch} {a0 : Int32} {a1 : Int32} {M : Mm} {r : Bool}  (h : m_D_isWord a0 a1 = some r) : Ev l X_D_isWord [vi a0, vi a1] M (fun v M2 => v = (some (vi (bI r))) ∧ M2 = M) := by
  refine Ev.of mk_D_isWord [(0, vi a0), (1, vi a1)] (fun _ => rfl) (fun _ => (Nat.le_of_ble_eq_true rfl)) ?_
  unfold m_D_isWord at h
  refine go_iload_n 0 rfl 1 rfl rfl ?_
  refine go_if_lt 15 1 rfl (by decide) (fun c => ?_) (fun c => ?_)
  · replace h := ite_t c h
    refine go_iconst 0 9 rfl (by decide) ?_
    cases h
    exact go_ireturn 10 rfl rfl rfl ⟨rfl, rfl⟩
  · replace h := ite_f c h
    refine go_iload_n 2 rfl 1 rfl rfl ?_
    refine go_iconst 1 3 rfl (by decide) ?_
    refine go_iload_n 4 rfl 0 rfl rfl ?_
    refine go_ishl 5 rfl ?_
    refine go_icmp_ge 15 6 rfl (by decide) (fun c => ?_) (fun c => ?_)
    · replace h := ite_t c h
      refine go_iconst 0 9 rfl (by decide) ?_
      cases h
      exact go_ireturn 10 rfl rfl rfl ⟨rfl, rfl⟩
    · replace h := ite_f c h
      refine go_iconst 1 7 rfl (by decide) ?_
      refine go_goto 16 8 rfl (by decide) ?_
      cases h
      exact go_ireturn 10 rfl rfl rfl ⟨rfl, rfl⟩
end
